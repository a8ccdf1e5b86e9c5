section
-- ===== PART A: goes FIRST, ahead of the names: the tables' words, and 'selects' of the private methods out of them =====
/-- a private method of a class that the tables say can be made, by its rows of tables_1 -/
def lw_okq (q : MethodName × Nat) : Prop := (q.1.cls ≠ "java/lang/invoke/MethodHandle" ∧ q.1.cls ≠ "java/lang/invoke/VarHandle") ∧ Cond.instantiable q.1.cls q.2 ∈ tables_1 ∧ Cond.privateMethod q.1 ∈ tables_1 ∧ Cond.instanceMethod q.1 ∈ tables_1
theorem lw_p0 : lw_okq (⟨"OneMatch", "found", "(I)I"⟩, 17) := ⟨⟨by decide +kernel, by decide +kernel⟩, List.mem_of_getElem? (i := 17) (by decide +kernel), List.mem_of_getElem? (i := 316) (by decide +kernel), List.mem_of_getElem? (i := 317) (by decide +kernel)⟩
theorem lw_p1 : lw_okq (⟨"OneMatch", "factOf", "(II)I"⟩, 17) := ⟨⟨by decide +kernel, by decide +kernel⟩, List.mem_of_getElem? (i := 17) (by decide +kernel), List.mem_of_getElem? (i := 501) (by decide +kernel), List.mem_of_getElem? (i := 502) (by decide +kernel)⟩
theorem lw_p2 : lw_okq (⟨"OneMatch", "markOf", "(II)I"⟩, 17) := ⟨⟨by decide +kernel, by decide +kernel⟩, List.mem_of_getElem? (i := 17) (by decide +kernel), List.mem_of_getElem? (i := 551) (by decide +kernel), List.mem_of_getElem? (i := 552) (by decide +kernel)⟩
theorem lw_p3 : lw_okq (⟨"OneMatch$Fire", "feed", "(I)V"⟩, 7) := ⟨⟨by decide +kernel, by decide +kernel⟩, List.mem_of_getElem? (i := 94) (by decide +kernel), List.mem_of_getElem? (i := 608) (by decide +kernel), List.mem_of_getElem? (i := 609) (by decide +kernel)⟩
theorem lw_p4 : lw_okq (⟨"OneMatch$Plans", "walk", "(I)V"⟩, 10) := ⟨⟨by decide +kernel, by decide +kernel⟩, List.mem_of_getElem? (i := 157) (by decide +kernel), List.mem_of_getElem? (i := 737) (by decide +kernel), List.mem_of_getElem? (i := 738) (by decide +kernel)⟩
theorem lw_p5 : lw_okq (⟨"OneMatch$Plans", "weigh", "(LOneMatch$Fire;)V"⟩, 10) := ⟨⟨by decide +kernel, by decide +kernel⟩, List.mem_of_getElem? (i := 157) (by decide +kernel), List.mem_of_getElem? (i := 741) (by decide +kernel), List.mem_of_getElem? (i := 742) (by decide +kernel)⟩
theorem lw_p6 : lw_okq (⟨"OneMatch$Plans", "rankOf", "(LOneMatch$Fire;)I"⟩, 10) := ⟨⟨by decide +kernel, by decide +kernel⟩, List.mem_of_getElem? (i := 157) (by decide +kernel), List.mem_of_getElem? (i := 746) (by decide +kernel), List.mem_of_getElem? (i := 747) (by decide +kernel)⟩
theorem lw_p7 : lw_okq (⟨"OneMatch$Plans", "isOver", "()Z"⟩, 10) := ⟨⟨by decide +kernel, by decide +kernel⟩, List.mem_of_getElem? (i := 157) (by decide +kernel), List.mem_of_getElem? (i := 756) (by decide +kernel), List.mem_of_getElem? (i := 757) (by decide +kernel)⟩
theorem lw_p8 : lw_okq (⟨"OneMatch$Plans", "take", "(II)V"⟩, 10) := ⟨⟨by decide +kernel, by decide +kernel⟩, List.mem_of_getElem? (i := 157) (by decide +kernel), List.mem_of_getElem? (i := 765) (by decide +kernel), List.mem_of_getElem? (i := 766) (by decide +kernel)⟩
theorem lw_p9 : lw_okq (⟨"OneMatch", "planInto", "(LOneMatch$Row;)I"⟩, 17) := ⟨⟨by decide +kernel, by decide +kernel⟩, List.mem_of_getElem? (i := 17) (by decide +kernel), List.mem_of_getElem? (i := 775) (by decide +kernel), List.mem_of_getElem? (i := 776) (by decide +kernel)⟩
theorem lw_p10 : lw_okq (⟨"OneMatch", "tell", "(JJ)V"⟩, 17) := ⟨⟨by decide +kernel, by decide +kernel⟩, List.mem_of_getElem? (i := 17) (by decide +kernel), List.mem_of_getElem? (i := 788) (by decide +kernel), List.mem_of_getElem? (i := 789) (by decide +kernel)⟩
theorem lw_p11 : lw_okq (⟨"OneMatch$Smoke", "walk", "(I)V"⟩, 5) := ⟨⟨by decide +kernel, by decide +kernel⟩, List.mem_of_getElem? (i := 202) (by decide +kernel), List.mem_of_getElem? (i := 839) (by decide +kernel), List.mem_of_getElem? (i := 840) (by decide +kernel)⟩
theorem lw_p12 : lw_okq (⟨"OneMatch$Smoke", "take", "(II)V"⟩, 5) := ⟨⟨by decide +kernel, by decide +kernel⟩, List.mem_of_getElem? (i := 202) (by decide +kernel), List.mem_of_getElem? (i := 844) (by decide +kernel), List.mem_of_getElem? (i := 845) (by decide +kernel)⟩
theorem lw_p13 : lw_okq (⟨"OneMatch$Odds", "casesFrom", "(I)J"⟩, 6) := ⟨⟨by decide +kernel, by decide +kernel⟩, List.mem_of_getElem? (i := 228) (by decide +kernel), List.mem_of_getElem? (i := 873) (by decide +kernel), List.mem_of_getElem? (i := 874) (by decide +kernel)⟩
theorem lw_p14 : lw_okq (⟨"OneMatch$Odds", "casesBehind", "(II)J"⟩, 6) := ⟨⟨by decide +kernel, by decide +kernel⟩, List.mem_of_getElem? (i := 228) (by decide +kernel), List.mem_of_getElem? (i := 880) (by decide +kernel), List.mem_of_getElem? (i := 881) (by decide +kernel)⟩
theorem lw_p15 : lw_okq (⟨"OneMatch", "carryByLot", "(I)V"⟩, 17) := ⟨⟨by decide +kernel, by decide +kernel⟩, List.mem_of_getElem? (i := 17) (by decide +kernel), List.mem_of_getElem? (i := 893) (by decide +kernel), List.mem_of_getElem? (i := 894) (by decide +kernel)⟩
def lw_privs_1 : List (MethodName × Nat) := [(⟨"OneMatch", "found", "(I)I"⟩, 17), (⟨"OneMatch", "factOf", "(II)I"⟩, 17), (⟨"OneMatch", "markOf", "(II)I"⟩, 17), (⟨"OneMatch$Fire", "feed", "(I)V"⟩, 7), (⟨"OneMatch$Plans", "walk", "(I)V"⟩, 10), (⟨"OneMatch$Plans", "weigh", "(LOneMatch$Fire;)V"⟩, 10), (⟨"OneMatch$Plans", "rankOf", "(LOneMatch$Fire;)I"⟩, 10), (⟨"OneMatch$Plans", "isOver", "()Z"⟩, 10), (⟨"OneMatch$Plans", "take", "(II)V"⟩, 10), (⟨"OneMatch", "planInto", "(LOneMatch$Row;)I"⟩, 17), (⟨"OneMatch", "tell", "(JJ)V"⟩, 17), (⟨"OneMatch$Smoke", "walk", "(I)V"⟩, 5), (⟨"OneMatch$Smoke", "take", "(II)V"⟩, 5), (⟨"OneMatch$Odds", "casesFrom", "(I)J"⟩, 6), (⟨"OneMatch$Odds", "casesBehind", "(II)J"⟩, 6), (⟨"OneMatch", "carryByLot", "(I)V"⟩, 17)]
theorem lw_r1 : ∀ q ∈ lw_privs_1, lw_okq q := List.forall_mem_cons.mpr ⟨lw_p0, List.forall_mem_cons.mpr ⟨lw_p1, List.forall_mem_cons.mpr ⟨lw_p2, List.forall_mem_cons.mpr ⟨lw_p3, List.forall_mem_cons.mpr ⟨lw_p4, List.forall_mem_cons.mpr ⟨lw_p5, List.forall_mem_cons.mpr ⟨lw_p6, List.forall_mem_cons.mpr ⟨lw_p7, List.forall_mem_cons.mpr ⟨lw_p8, List.forall_mem_cons.mpr ⟨lw_p9, List.forall_mem_cons.mpr ⟨lw_p10, List.forall_mem_cons.mpr ⟨lw_p11, List.forall_mem_cons.mpr ⟨lw_p12, List.forall_mem_cons.mpr ⟨lw_p13, List.forall_mem_cons.mpr ⟨lw_p14, List.forall_mem_cons.mpr ⟨lw_p15, fun _ h => absurd h List.not_mem_nil⟩⟩⟩⟩⟩⟩⟩⟩⟩⟩⟩⟩⟩⟩⟩⟩
theorem lw_p16 : lw_okq (⟨"OneMatch", "countOf", "(I)I"⟩, 17) := ⟨⟨by decide +kernel, by decide +kernel⟩, List.mem_of_getElem? (i := 17) (by decide +kernel), List.mem_of_getElem? (i := 913) (by decide +kernel), List.mem_of_getElem? (i := 914) (by decide +kernel)⟩
theorem lw_p17 : lw_okq (⟨"OneMatch", "rowsThere", "()I"⟩, 17) := ⟨⟨by decide +kernel, by decide +kernel⟩, List.mem_of_getElem? (i := 17) (by decide +kernel), List.mem_of_getElem? (i := 922) (by decide +kernel), List.mem_of_getElem? (i := 923) (by decide +kernel)⟩
theorem lw_p18 : lw_okq (⟨"OneMatch", "textsThere", "()I"⟩, 17) := ⟨⟨by decide +kernel, by decide +kernel⟩, List.mem_of_getElem? (i := 17) (by decide +kernel), List.mem_of_getElem? (i := 926) (by decide +kernel), List.mem_of_getElem? (i := 927) (by decide +kernel)⟩
theorem lw_p19 : lw_okq (⟨"OneMatch", "keptThere", "()I"⟩, 17) := ⟨⟨by decide +kernel, by decide +kernel⟩, List.mem_of_getElem? (i := 17) (by decide +kernel), List.mem_of_getElem? (i := 930) (by decide +kernel), List.mem_of_getElem? (i := 931) (by decide +kernel)⟩
theorem lw_p20 : lw_okq (⟨"OneMatchModel", "meets", "(I)I"⟩, 38) := ⟨⟨by decide +kernel, by decide +kernel⟩, List.mem_of_getElem? (i := 958) (by decide +kernel), List.mem_of_getElem? (i := 1110) (by decide +kernel), List.mem_of_getElem? (i := 1111) (by decide +kernel)⟩
theorem lw_p21 : lw_okq (⟨"OneMatchModel", "rowAt", "(II)I"⟩, 38) := ⟨⟨by decide +kernel, by decide +kernel⟩, List.mem_of_getElem? (i := 958) (by decide +kernel), List.mem_of_getElem? (i := 1118) (by decide +kernel), List.mem_of_getElem? (i := 1119) (by decide +kernel)⟩
theorem lw_p22 : lw_okq (⟨"OneMatchModel", "tells", "(II)I"⟩, 38) := ⟨⟨by decide +kernel, by decide +kernel⟩, List.mem_of_getElem? (i := 958) (by decide +kernel), List.mem_of_getElem? (i := 1122) (by decide +kernel), List.mem_of_getElem? (i := 1123) (by decide +kernel)⟩
theorem lw_p23 : lw_okq (⟨"OneMatchModel", "faultOf", "(I)I"⟩, 38) := ⟨⟨by decide +kernel, by decide +kernel⟩, List.mem_of_getElem? (i := 958) (by decide +kernel), List.mem_of_getElem? (i := 1157) (by decide +kernel), List.mem_of_getElem? (i := 1158) (by decide +kernel)⟩
theorem lw_p24 : lw_okq (⟨"OneMatchModel", "byteAt", "(II)I"⟩, 38) := ⟨⟨by decide +kernel, by decide +kernel⟩, List.mem_of_getElem? (i := 958) (by decide +kernel), List.mem_of_getElem? (i := 1161) (by decide +kernel), List.mem_of_getElem? (i := 1162) (by decide +kernel)⟩
theorem lw_p25 : lw_okq (⟨"OneMatchModel", "readsWinds", "(I)Z"⟩, 38) := ⟨⟨by decide +kernel, by decide +kernel⟩, List.mem_of_getElem? (i := 958) (by decide +kernel), List.mem_of_getElem? (i := 1165) (by decide +kernel), List.mem_of_getElem? (i := 1166) (by decide +kernel)⟩
theorem lw_p26 : lw_okq (⟨"OneMatchModel", "figureAt", "(I)I"⟩, 38) := ⟨⟨by decide +kernel, by decide +kernel⟩, List.mem_of_getElem? (i := 958) (by decide +kernel), List.mem_of_getElem? (i := 1169) (by decide +kernel), List.mem_of_getElem? (i := 1170) (by decide +kernel)⟩
theorem lw_p27 : lw_okq (⟨"OneMatchModel", "readsHouse", "(I)Z"⟩, 38) := ⟨⟨by decide +kernel, by decide +kernel⟩, List.mem_of_getElem? (i := 958) (by decide +kernel), List.mem_of_getElem? (i := 1173) (by decide +kernel), List.mem_of_getElem? (i := 1174) (by decide +kernel)⟩
theorem lw_p28 : lw_okq (⟨"OneMatchModel", "isHouse", "(I)Z"⟩, 38) := ⟨⟨by decide +kernel, by decide +kernel⟩, List.mem_of_getElem? (i := 958) (by decide +kernel), List.mem_of_getElem? (i := 1188) (by decide +kernel), List.mem_of_getElem? (i := 1189) (by decide +kernel)⟩
theorem lw_p29 : lw_okq (⟨"OneMatchModel", "houseTells", "(II)I"⟩, 38) := ⟨⟨by decide +kernel, by decide +kernel⟩, List.mem_of_getElem? (i := 958) (by decide +kernel), List.mem_of_getElem? (i := 1192) (by decide +kernel), List.mem_of_getElem? (i := 1193) (by decide +kernel)⟩
theorem lw_p30 : lw_okq (⟨"OneMatchModel", "isCatching", "(II)Z"⟩, 38) := ⟨⟨by decide +kernel, by decide +kernel⟩, List.mem_of_getElem? (i := 958) (by decide +kernel), List.mem_of_getElem? (i := 1196) (by decide +kernel), List.mem_of_getElem? (i := 1197) (by decide +kernel)⟩
theorem lw_p31 : lw_okq (⟨"OneMatchModel", "windOf", "(I)I"⟩, 38) := ⟨⟨by decide +kernel, by decide +kernel⟩, List.mem_of_getElem? (i := 958) (by decide +kernel), List.mem_of_getElem? (i := 1204) (by decide +kernel), List.mem_of_getElem? (i := 1205) (by decide +kernel)⟩
def lw_privs_2 : List (MethodName × Nat) := [(⟨"OneMatch", "countOf", "(I)I"⟩, 17), (⟨"OneMatch", "rowsThere", "()I"⟩, 17), (⟨"OneMatch", "textsThere", "()I"⟩, 17), (⟨"OneMatch", "keptThere", "()I"⟩, 17), (⟨"OneMatchModel", "meets", "(I)I"⟩, 38), (⟨"OneMatchModel", "rowAt", "(II)I"⟩, 38), (⟨"OneMatchModel", "tells", "(II)I"⟩, 38), (⟨"OneMatchModel", "faultOf", "(I)I"⟩, 38), (⟨"OneMatchModel", "byteAt", "(II)I"⟩, 38), (⟨"OneMatchModel", "readsWinds", "(I)Z"⟩, 38), (⟨"OneMatchModel", "figureAt", "(I)I"⟩, 38), (⟨"OneMatchModel", "readsHouse", "(I)Z"⟩, 38), (⟨"OneMatchModel", "isHouse", "(I)Z"⟩, 38), (⟨"OneMatchModel", "houseTells", "(II)I"⟩, 38), (⟨"OneMatchModel", "isCatching", "(II)Z"⟩, 38), (⟨"OneMatchModel", "windOf", "(I)I"⟩, 38)]
theorem lw_r2 : ∀ q ∈ lw_privs_2, lw_okq q := List.forall_mem_cons.mpr ⟨lw_p16, List.forall_mem_cons.mpr ⟨lw_p17, List.forall_mem_cons.mpr ⟨lw_p18, List.forall_mem_cons.mpr ⟨lw_p19, List.forall_mem_cons.mpr ⟨lw_p20, List.forall_mem_cons.mpr ⟨lw_p21, List.forall_mem_cons.mpr ⟨lw_p22, List.forall_mem_cons.mpr ⟨lw_p23, List.forall_mem_cons.mpr ⟨lw_p24, List.forall_mem_cons.mpr ⟨lw_p25, List.forall_mem_cons.mpr ⟨lw_p26, List.forall_mem_cons.mpr ⟨lw_p27, List.forall_mem_cons.mpr ⟨lw_p28, List.forall_mem_cons.mpr ⟨lw_p29, List.forall_mem_cons.mpr ⟨lw_p30, List.forall_mem_cons.mpr ⟨lw_p31, fun _ h => absurd h List.not_mem_nil⟩⟩⟩⟩⟩⟩⟩⟩⟩⟩⟩⟩⟩⟩⟩⟩
theorem lw_p32 : lw_okq (⟨"OneMatchModel", "springOf", "(II)I"⟩, 38) := ⟨⟨by decide +kernel, by decide +kernel⟩, List.mem_of_getElem? (i := 958) (by decide +kernel), List.mem_of_getElem? (i := 1212) (by decide +kernel), List.mem_of_getElem? (i := 1213) (by decide +kernel)⟩
theorem lw_p33 : lw_okq (⟨"OneMatchModel", "takesIn", "(II)I"⟩, 38) := ⟨⟨by decide +kernel, by decide +kernel⟩, List.mem_of_getElem? (i := 958) (by decide +kernel), List.mem_of_getElem? (i := 1216) (by decide +kernel), List.mem_of_getElem? (i := 1217) (by decide +kernel)⟩
theorem lw_p34 : lw_okq (⟨"OneMatchModel", "wetBeside", "(I)I"⟩, 38) := ⟨⟨by decide +kernel, by decide +kernel⟩, List.mem_of_getElem? (i := 958) (by decide +kernel), List.mem_of_getElem? (i := 1220) (by decide +kernel), List.mem_of_getElem? (i := 1221) (by decide +kernel)⟩
theorem lw_p35 : lw_okq (⟨"OneMatchModel", "remember", "()V"⟩, 38) := ⟨⟨by decide +kernel, by decide +kernel⟩, List.mem_of_getElem? (i := 958) (by decide +kernel), List.mem_of_getElem? (i := 1232) (by decide +kernel), List.mem_of_getElem? (i := 1233) (by decide +kernel)⟩
theorem lw_p36 : lw_okq (⟨"OneMatchModel", "canCarry", "(III)Z"⟩, 38) := ⟨⟨by decide +kernel, by decide +kernel⟩, List.mem_of_getElem? (i := 958) (by decide +kernel), List.mem_of_getElem? (i := 1240) (by decide +kernel), List.mem_of_getElem? (i := 1241) (by decide +kernel)⟩
theorem lw_p37 : lw_okq (⟨"OneMatchModel", "isBurning", "(II)Z"⟩, 38) := ⟨⟨by decide +kernel, by decide +kernel⟩, List.mem_of_getElem? (i := 958) (by decide +kernel), List.mem_of_getElem? (i := 1244) (by decide +kernel), List.mem_of_getElem? (i := 1245) (by decide +kernel)⟩
theorem lw_p38 : lw_okq (⟨"OneMatchModel", "hourOf", "(I)I"⟩, 38) := ⟨⟨by decide +kernel, by decide +kernel⟩, List.mem_of_getElem? (i := 958) (by decide +kernel), List.mem_of_getElem? (i := 1251) (by decide +kernel), List.mem_of_getElem? (i := 1252) (by decide +kernel)⟩
theorem lw_p39 : lw_okq (⟨"OneMatchModel", "carries", "(II)V"⟩, 38) := ⟨⟨by decide +kernel, by decide +kernel⟩, List.mem_of_getElem? (i := 958) (by decide +kernel), List.mem_of_getElem? (i := 1255) (by decide +kernel), List.mem_of_getElem? (i := 1256) (by decide +kernel)⟩
theorem lw_p40 : lw_okq (⟨"OneMatchModel", "burning", "(I)I"⟩, 38) := ⟨⟨by decide +kernel, by decide +kernel⟩, List.mem_of_getElem? (i := 958) (by decide +kernel), List.mem_of_getElem? (i := 1259) (by decide +kernel), List.mem_of_getElem? (i := 1260) (by decide +kernel)⟩
theorem lw_p41 : lw_okq (⟨"OneMatchModel", "passes", "(I)V"⟩, 38) := ⟨⟨by decide +kernel, by decide +kernel⟩, List.mem_of_getElem? (i := 958) (by decide +kernel), List.mem_of_getElem? (i := 1270) (by decide +kernel), List.mem_of_getElem? (i := 1271) (by decide +kernel)⟩
theorem lw_p42 : lw_okq (⟨"OneMatchModel", "catching", "(I)I"⟩, 38) := ⟨⟨by decide +kernel, by decide +kernel⟩, List.mem_of_getElem? (i := 958) (by decide +kernel), List.mem_of_getElem? (i := 1293) (by decide +kernel), List.mem_of_getElem? (i := 1294) (by decide +kernel)⟩
theorem lw_p43 : lw_okq (⟨"OneMatchModel", "copyTo", "(II)V"⟩, 38) := ⟨⟨by decide +kernel, by decide +kernel⟩, List.mem_of_getElem? (i := 958) (by decide +kernel), List.mem_of_getElem? (i := 1305) (by decide +kernel), List.mem_of_getElem? (i := 1306) (by decide +kernel)⟩
theorem lw_p44 : lw_okq (⟨"OneMatchModel", "outOf", "(I)I"⟩, 38) := ⟨⟨by decide +kernel, by decide +kernel⟩, List.mem_of_getElem? (i := 958) (by decide +kernel), List.mem_of_getElem? (i := 1309) (by decide +kernel), List.mem_of_getElem? (i := 1310) (by decide +kernel)⟩
theorem lw_p45 : lw_okq (⟨"OneMatchModel", "everybody", "()I"⟩, 38) := ⟨⟨by decide +kernel, by decide +kernel⟩, List.mem_of_getElem? (i := 958) (by decide +kernel), List.mem_of_getElem? (i := 1317) (by decide +kernel), List.mem_of_getElem? (i := 1318) (by decide +kernel)⟩
theorem lw_p46 : lw_okq (⟨"OneMatchModel", "allPlans", "(III)V"⟩, 38) := ⟨⟨by decide +kernel, by decide +kernel⟩, List.mem_of_getElem? (i := 958) (by decide +kernel), List.mem_of_getElem? (i := 1329) (by decide +kernel), List.mem_of_getElem? (i := 1330) (by decide +kernel)⟩
theorem lw_p47 : lw_okq (⟨"OneMatchModel", "layPlans", "(III)V"⟩, 38) := ⟨⟨by decide +kernel, by decide +kernel⟩, List.mem_of_getElem? (i := 958) (by decide +kernel), List.mem_of_getElem? (i := 1333) (by decide +kernel), List.mem_of_getElem? (i := 1334) (by decide +kernel)⟩
def lw_privs_3 : List (MethodName × Nat) := [(⟨"OneMatchModel", "springOf", "(II)I"⟩, 38), (⟨"OneMatchModel", "takesIn", "(II)I"⟩, 38), (⟨"OneMatchModel", "wetBeside", "(I)I"⟩, 38), (⟨"OneMatchModel", "remember", "()V"⟩, 38), (⟨"OneMatchModel", "canCarry", "(III)Z"⟩, 38), (⟨"OneMatchModel", "isBurning", "(II)Z"⟩, 38), (⟨"OneMatchModel", "hourOf", "(I)I"⟩, 38), (⟨"OneMatchModel", "carries", "(II)V"⟩, 38), (⟨"OneMatchModel", "burning", "(I)I"⟩, 38), (⟨"OneMatchModel", "passes", "(I)V"⟩, 38), (⟨"OneMatchModel", "catching", "(I)I"⟩, 38), (⟨"OneMatchModel", "copyTo", "(II)V"⟩, 38), (⟨"OneMatchModel", "outOf", "(I)I"⟩, 38), (⟨"OneMatchModel", "everybody", "()I"⟩, 38), (⟨"OneMatchModel", "allPlans", "(III)V"⟩, 38), (⟨"OneMatchModel", "layPlans", "(III)V"⟩, 38)]
theorem lw_r3 : ∀ q ∈ lw_privs_3, lw_okq q := List.forall_mem_cons.mpr ⟨lw_p32, List.forall_mem_cons.mpr ⟨lw_p33, List.forall_mem_cons.mpr ⟨lw_p34, List.forall_mem_cons.mpr ⟨lw_p35, List.forall_mem_cons.mpr ⟨lw_p36, List.forall_mem_cons.mpr ⟨lw_p37, List.forall_mem_cons.mpr ⟨lw_p38, List.forall_mem_cons.mpr ⟨lw_p39, List.forall_mem_cons.mpr ⟨lw_p40, List.forall_mem_cons.mpr ⟨lw_p41, List.forall_mem_cons.mpr ⟨lw_p42, List.forall_mem_cons.mpr ⟨lw_p43, List.forall_mem_cons.mpr ⟨lw_p44, List.forall_mem_cons.mpr ⟨lw_p45, List.forall_mem_cons.mpr ⟨lw_p46, List.forall_mem_cons.mpr ⟨lw_p47, fun _ h => absurd h List.not_mem_nil⟩⟩⟩⟩⟩⟩⟩⟩⟩⟩⟩⟩⟩⟩⟩⟩
theorem lw_p48 : lw_okq (⟨"OneMatchModel", "ends", "(III)V"⟩, 38) := ⟨⟨by decide +kernel, by decide +kernel⟩, List.mem_of_getElem? (i := 958) (by decide +kernel), List.mem_of_getElem? (i := 1337) (by decide +kernel), List.mem_of_getElem? (i := 1338) (by decide +kernel)⟩
theorem lw_p49 : lw_okq (⟨"OneMatchModel", "takes", "(I)V"⟩, 38) := ⟨⟨by decide +kernel, by decide +kernel⟩, List.mem_of_getElem? (i := 958) (by decide +kernel), List.mem_of_getElem? (i := 1341) (by decide +kernel), List.mem_of_getElem? (i := 1342) (by decide +kernel)⟩
theorem lw_p50 : lw_okq (⟨"OneMatchModel", "isServed", "(I)Z"⟩, 38) := ⟨⟨by decide +kernel, by decide +kernel⟩, List.mem_of_getElem? (i := 958) (by decide +kernel), List.mem_of_getElem? (i := 1345) (by decide +kernel), List.mem_of_getElem? (i := 1346) (by decide +kernel)⟩
theorem lw_p51 : lw_okq (⟨"OneMatchModel", "canMove", "(II)Z"⟩, 38) := ⟨⟨by decide +kernel, by decide +kernel⟩, List.mem_of_getElem? (i := 958) (by decide +kernel), List.mem_of_getElem? (i := 1349) (by decide +kernel), List.mem_of_getElem? (i := 1350) (by decide +kernel)⟩
theorem lw_p52 : lw_okq (⟨"OneMatchModel", "layRow", "(I[II)V"⟩, 38) := ⟨⟨by decide +kernel, by decide +kernel⟩, List.mem_of_getElem? (i := 958) (by decide +kernel), List.mem_of_getElem? (i := 1360) (by decide +kernel), List.mem_of_getElem? (i := 1361) (by decide +kernel)⟩
theorem lw_p53 : lw_okq (⟨"OneMatchModel", "embers", "(I)I"⟩, 38) := ⟨⟨by decide +kernel, by decide +kernel⟩, List.mem_of_getElem? (i := 958) (by decide +kernel), List.mem_of_getElem? (i := 1364) (by decide +kernel), List.mem_of_getElem? (i := 1365) (by decide +kernel)⟩
theorem lw_p54 : lw_okq (⟨"OneMatchModel", "fraction", "(JJ)I"⟩, 38) := ⟨⟨by decide +kernel, by decide +kernel⟩, List.mem_of_getElem? (i := 958) (by decide +kernel), List.mem_of_getElem? (i := 1372) (by decide +kernel), List.mem_of_getElem? (i := 1373) (by decide +kernel)⟩
theorem lw_p55 : lw_okq (⟨"OneMatchModel", "areMoves", "(I)Z"⟩, 38) := ⟨⟨by decide +kernel, by decide +kernel⟩, List.mem_of_getElem? (i := 958) (by decide +kernel), List.mem_of_getElem? (i := 1388) (by decide +kernel), List.mem_of_getElem? (i := 1389) (by decide +kernel)⟩
theorem lw_p56 : lw_okq (⟨"OneMatchModel", "layFirst", "(I)V"⟩, 38) := ⟨⟨by decide +kernel, by decide +kernel⟩, List.mem_of_getElem? (i := 958) (by decide +kernel), List.mem_of_getElem? (i := 1396) (by decide +kernel), List.mem_of_getElem? (i := 1397) (by decide +kernel)⟩
theorem lw_p57 : lw_okq (⟨"OneMatchModel", "needBook", "(IZ)I"⟩, 38) := ⟨⟨by decide +kernel, by decide +kernel⟩, List.mem_of_getElem? (i := 958) (by decide +kernel), List.mem_of_getElem? (i := 1404) (by decide +kernel), List.mem_of_getElem? (i := 1405) (by decide +kernel)⟩
theorem lw_p58 : lw_okq (⟨"OneMatchModel", "smokes", "(II)I"⟩, 38) := ⟨⟨by decide +kernel, by decide +kernel⟩, List.mem_of_getElem? (i := 958) (by decide +kernel), List.mem_of_getElem? (i := 1408) (by decide +kernel), List.mem_of_getElem? (i := 1409) (by decide +kernel)⟩
theorem lw_p59 : lw_okq (⟨"OneMatchModel", "partsOf", "(IIII)J"⟩, 38) := ⟨⟨by decide +kernel, by decide +kernel⟩, List.mem_of_getElem? (i := 958) (by decide +kernel), List.mem_of_getElem? (i := 1425) (by decide +kernel), List.mem_of_getElem? (i := 1426) (by decide +kernel)⟩
theorem lw_p60 : lw_okq (⟨"OneMatchModel", "counted", "(I)I"⟩, 38) := ⟨⟨by decide +kernel, by decide +kernel⟩, List.mem_of_getElem? (i := 958) (by decide +kernel), List.mem_of_getElem? (i := 1441) (by decide +kernel), List.mem_of_getElem? (i := 1442) (by decide +kernel)⟩
theorem lw_p61 : lw_okq (⟨"OneMatchModel", "mix", "(J)V"⟩, 38) := ⟨⟨by decide +kernel, by decide +kernel⟩, List.mem_of_getElem? (i := 958) (by decide +kernel), List.mem_of_getElem? (i := 1450) (by decide +kernel), List.mem_of_getElem? (i := 1451) (by decide +kernel)⟩
theorem lw_p62 : lw_okq (⟨"OneMatchModel", "mixVillage", "()V"⟩, 38) := ⟨⟨by decide +kernel, by decide +kernel⟩, List.mem_of_getElem? (i := 958) (by decide +kernel), List.mem_of_getElem? (i := 1455) (by decide +kernel), List.mem_of_getElem? (i := 1456) (by decide +kernel)⟩
def lw_privs_4 : List (MethodName × Nat) := [(⟨"OneMatchModel", "ends", "(III)V"⟩, 38), (⟨"OneMatchModel", "takes", "(I)V"⟩, 38), (⟨"OneMatchModel", "isServed", "(I)Z"⟩, 38), (⟨"OneMatchModel", "canMove", "(II)Z"⟩, 38), (⟨"OneMatchModel", "layRow", "(I[II)V"⟩, 38), (⟨"OneMatchModel", "embers", "(I)I"⟩, 38), (⟨"OneMatchModel", "fraction", "(JJ)I"⟩, 38), (⟨"OneMatchModel", "areMoves", "(I)Z"⟩, 38), (⟨"OneMatchModel", "layFirst", "(I)V"⟩, 38), (⟨"OneMatchModel", "needBook", "(IZ)I"⟩, 38), (⟨"OneMatchModel", "smokes", "(II)I"⟩, 38), (⟨"OneMatchModel", "partsOf", "(IIII)J"⟩, 38), (⟨"OneMatchModel", "counted", "(I)I"⟩, 38), (⟨"OneMatchModel", "mix", "(J)V"⟩, 38), (⟨"OneMatchModel", "mixVillage", "()V"⟩, 38)]
theorem lw_r4 : ∀ q ∈ lw_privs_4, lw_okq q := List.forall_mem_cons.mpr ⟨lw_p48, List.forall_mem_cons.mpr ⟨lw_p49, List.forall_mem_cons.mpr ⟨lw_p50, List.forall_mem_cons.mpr ⟨lw_p51, List.forall_mem_cons.mpr ⟨lw_p52, List.forall_mem_cons.mpr ⟨lw_p53, List.forall_mem_cons.mpr ⟨lw_p54, List.forall_mem_cons.mpr ⟨lw_p55, List.forall_mem_cons.mpr ⟨lw_p56, List.forall_mem_cons.mpr ⟨lw_p57, List.forall_mem_cons.mpr ⟨lw_p58, List.forall_mem_cons.mpr ⟨lw_p59, List.forall_mem_cons.mpr ⟨lw_p60, List.forall_mem_cons.mpr ⟨lw_p61, List.forall_mem_cons.mpr ⟨lw_p62, fun _ h => absurd h List.not_mem_nil⟩⟩⟩⟩⟩⟩⟩⟩⟩⟩⟩⟩⟩⟩⟩
def lw_privs : List (MethodName × Nat) := lw_privs_1 ++ (lw_privs_2 ++ (lw_privs_3 ++ (lw_privs_4)))
def lw_tbl : List Cond := k2_sels lw_privs ++ tables_1
theorem lw_privs_ok : ∀ q ∈ lw_privs, lw_okq q := by
  show ∀ q ∈ lw_privs_1 ++ (lw_privs_2 ++ (lw_privs_3 ++ (lw_privs_4))), lw_okq q
  exact List.forall_mem_append.mpr ⟨lw_r1, List.forall_mem_append.mpr ⟨lw_r2, List.forall_mem_append.mpr ⟨lw_r3, lw_r4⟩⟩⟩
-- ===== end of PART A; then your names; then what follows =====
def RX0 : String := "OneMatch$Campaign"
def TX0 : u_T := fun k => match k with
  | 0 => ("OneMatch$Campaign", "first", "LOneMatch$Fire;", true)
  | 1 => ("OneMatch$Campaign", "now", "LOneMatch$Fire;", true)
  | 2 => ("OneMatch$Campaign", "deeds", "[I", true)
  | 3 => ("OneMatch$Campaign", "done", "I", false)
  | _ => ("OneMatch$Campaign", "isThere", "Z", false)
def tyX0 : Nat → FieldType := fun k => match k with
  | 0 => .object "OneMatch$Fire"
  | 1 => .object "OneMatch$Fire"
  | 2 => .array .int
  | 3 => .int
  | _ => .boolean
abbrev wsX00 : List Cond := u_ws RX0 TX0 5
theorem nmX0 : ∀ a, a < 5 → ∀ b, b < 5 → a ≠ b → (TX0 a).2.1 ≠ (TX0 b).2.1 := by decide +kernel
theorem tyX0_ok : ∀ k, k < 5 → parseFieldDescriptor (TX0 k).2.2.1 = some (tyX0 k) := by decide +kernel
abbrev cX0_init : ByteArray := prog_2_method_1_code
def yX0_init : MethodName := ⟨RX0, "<init>", "(LOneMatch$Lane;)V"⟩
abbrev cX0_begin : ByteArray := prog_2_method_2_code
def yX0_begin : MethodName := ⟨RX0, "begin", "()V"⟩
abbrev cX0_leave : ByteArray := prog_2_method_3_code
def yX0_leave : MethodName := ⟨RX0, "leave", "()V"⟩
abbrev cX0_become : ByteArray := prog_2_method_4_code
def yX0_become : MethodName := ⟨RX0, "become", "(LOneMatch$Campaign;)V"⟩
abbrev cX0_restack : ByteArray := prog_2_method_5_code
def yX0_restack : MethodName := ⟨RX0, "restack", "(II)V"⟩
abbrev cX0_hasRoom : ByteArray := prog_2_method_6_code
def yX0_hasRoom : MethodName := ⟨RX0, "hasRoom", "(I)Z"⟩
abbrev cX0_act : ByteArray := prog_2_method_7_code
def yX0_act : MethodName := ⟨RX0, "act", "(I)V"⟩
abbrev cX0_goBack : ByteArray := prog_2_method_8_code
def yX0_goBack : MethodName := ⟨RX0, "goBack", "(I)I"⟩
def RX1 : String := "OneMatch$Fire"
def TX1 : u_T := fun k => match k with
  | 0 => ("OneMatch$Fire", "lane", "LOneMatch$Lane;", true)
  | 1 => ("OneMatch$Fire", "wood", "[I", true)
  | 2 => ("OneMatch$Fire", "wet", "[I", true)
  | 3 => ("OneMatch$Fire", "burning", "I", false)
  | 4 => ("OneMatch$Fire", "hour", "I", false)
  | 5 => ("OneMatch$Fire", "struck", "Z", false)
  | _ => ("OneMatch$Fire", "carried", "Z", false)
def tyX1 : Nat → FieldType := fun k => match k with
  | 0 => .object "OneMatch$Lane"
  | 1 => .array .int
  | 2 => .array .int
  | 3 => .int
  | 4 => .int
  | 5 => .boolean
  | _ => .boolean
abbrev wsX10 : List Cond := u_ws RX1 TX1 7
theorem nmX1 : ∀ a, a < 7 → ∀ b, b < 7 → a ≠ b → (TX1 a).2.1 ≠ (TX1 b).2.1 := by decide +kernel
theorem tyX1_ok : ∀ k, k < 7 → parseFieldDescriptor (TX1 k).2.2.1 = some (tyX1 k) := by decide +kernel
abbrev cX1_init : ByteArray := prog_3_method_1_code
def yX1_init : MethodName := ⟨RX1, "<init>", "(LOneMatch$Lane;)V"⟩
abbrev cX1_clear : ByteArray := prog_3_method_2_code
def yX1_clear : MethodName := ⟨RX1, "clear", "()V"⟩
abbrev cX1_become : ByteArray := prog_3_method_3_code
def yX1_become : MethodName := ⟨RX1, "become", "(LOneMatch$Fire;)V"⟩
abbrev cX1_furnish : ByteArray := prog_3_method_4_code
def yX1_furnish : MethodName := ⟨RX1, "furnish", "(III)V"⟩
abbrev cX1_woodOf : ByteArray := prog_3_method_5_code
def yX1_woodOf : MethodName := ⟨RX1, "woodOf", "(I)I"⟩
abbrev cX1_wetOf : ByteArray := prog_3_method_6_code
def yX1_wetOf : MethodName := ⟨RX1, "wetOf", "(I)I"⟩
abbrev cX1_allWood : ByteArray := prog_3_method_7_code
def yX1_allWood : MethodName := ⟨RX1, "allWood", "()I"⟩
abbrev cX1_burns : ByteArray := prog_3_method_8_code
def yX1_burns : MethodName := ⟨RX1, "burns", "(I)Z"⟩
abbrev cX1_catches : ByteArray := prog_3_method_9_code
def yX1_catches : MethodName := ⟨RX1, "catches", "(I)Z"⟩
abbrev cX1_catching : ByteArray := prog_3_method_10_code
def yX1_catching : MethodName := ⟨RX1, "catching", "()I"⟩
abbrev cX1_alight : ByteArray := prog_3_method_11_code
def yX1_alight : MethodName := ⟨RX1, "alight", "()I"⟩
abbrev cX1_canStrike : ByteArray := prog_3_method_12_code
def yX1_canStrike : MethodName := ⟨RX1, "canStrike", "(I)Z"⟩
abbrev cX1_canCarry : ByteArray := prog_3_method_13_code
def yX1_canCarry : MethodName := ⟨RX1, "canCarry", "(II)Z"⟩
abbrev cX1_canMove : ByteArray := prog_3_method_14_code
def yX1_canMove : MethodName := ⟨RX1, "canMove", "(I)Z"⟩
abbrev cX1_reachable : ByteArray := prog_3_method_15_code
def yX1_reachable : MethodName := ⟨RX1, "reachable", "()I"⟩
abbrev cX1_light : ByteArray := prog_3_method_16_code
def yX1_light : MethodName := ⟨RX1, "light", "(I)V"⟩
abbrev cX1_bring : ByteArray := prog_3_method_17_code
def yX1_bring : MethodName := ⟨RX1, "bring", "(I)V"⟩
abbrev cX1_pass : ByteArray := prog_3_method_18_code
def yX1_pass : MethodName := ⟨RX1, "pass", "()V"⟩
abbrev cX1_feed : ByteArray := prog_3_method_19_code
def yX1_feed : MethodName := ⟨RX1, "feed", "(I)V"⟩
abbrev cX1_beside : ByteArray := prog_3_method_20_code
def yX1_beside : MethodName := ⟨RX1, "beside", "(I)I"⟩
abbrev cX1_act : ByteArray := prog_3_method_21_code
def yX1_act : MethodName := ⟨RX1, "act", "(I)V"⟩
abbrev cX1_wetBeside : ByteArray := prog_3_method_22_code
def yX1_wetBeside : MethodName := ⟨RX1, "wetBeside", "(I)I"⟩
abbrev cX1_woodFor : ByteArray := prog_3_method_23_code
def yX1_woodFor : MethodName := ⟨RX1, "woodFor", "(II)I"⟩
abbrev cX1_woodLasts : ByteArray := prog_3_method_24_code
def yX1_woodLasts : MethodName := ⟨RX1, "woodLasts", "(I)I"⟩
abbrev cX1_burnsOn : ByteArray := prog_3_method_25_code
def yX1_burnsOn : MethodName := ⟨RX1, "burnsOn", "(I)I"⟩
abbrev cX1_alightAfter : ByteArray := prog_3_method_26_code
def yX1_alightAfter : MethodName := ⟨RX1, "alightAfter", "(I)I"⟩
abbrev cX1_servesHour : ByteArray := prog_3_method_27_code
def yX1_servesHour : MethodName := ⟨RX1, "servesHour", "()Z"⟩
def RX2 : String := "OneMatch$Kinds"
def TX2 : u_T := fun k => match k with
  | _ => ("", "", "", false)
def tyX2 : Nat → FieldType := fun k => match k with
  | _ => .int
abbrev wsX20 : List Cond := u_ws RX2 TX2 0
theorem nmX2 : ∀ a, a < 0 → ∀ b, b < 0 → a ≠ b → (TX2 a).2.1 ≠ (TX2 b).2.1 := by decide +kernel
theorem tyX2_ok : ∀ k, k < 0 → parseFieldDescriptor (TX2 k).2.2.1 = some (tyX2 k) := by decide +kernel
abbrev cX2_byLetter : ByteArray := prog_4_method_2_code
def yX2_byLetter : MethodName := ⟨RX2, "byLetter", "(I)I"⟩
abbrev cX2_isOf : ByteArray := prog_4_method_3_code
def yX2_isOf : MethodName := ⟨RX2, "isOf", "(II)Z"⟩
abbrev cX2_takes : ByteArray := prog_4_method_4_code
def yX2_takes : MethodName := ⟨RX2, "takes", "(II)I"⟩
abbrev cX2_dampest : ByteArray := prog_4_method_5_code
def yX2_dampest : MethodName := ⟨RX2, "dampest", "(I)I"⟩
def RX3 : String := "OneMatch$Lane"
def TX3 : u_T := fun k => match k with
  | 0 => ("OneMatch$Lane", "kinds", "[I", true)
  | 1 => ("OneMatch$Lane", "needs", "[I", true)
  | 2 => ("OneMatch$Lane", "winds", "[I", true)
  | 3 => ("OneMatch$Lane", "windCount", "I", false)
  | _ => ("OneMatch$Lane", "houses", "I", false)
def tyX3 : Nat → FieldType := fun k => match k with
  | 0 => .array .int
  | 1 => .array .int
  | 2 => .array .int
  | 3 => .int
  | _ => .int
abbrev wsX30 : List Cond := u_ws RX3 TX3 5
theorem nmX3 : ∀ a, a < 5 → ∀ b, b < 5 → a ≠ b → (TX3 a).2.1 ≠ (TX3 b).2.1 := by decide +kernel
theorem tyX3_ok : ∀ k, k < 5 → parseFieldDescriptor (TX3 k).2.2.1 = some (tyX3 k) := by decide +kernel
abbrev cX3_init : ByteArray := prog_5_method_1_code
def yX3_init : MethodName := ⟨RX3, "<init>", "()V"⟩
abbrev cX3_clear : ByteArray := prog_5_method_2_code
def yX3_clear : MethodName := ⟨RX3, "clear", "()V"⟩
abbrev cX3_isEmpty : ByteArray := prog_5_method_3_code
def yX3_isEmpty : MethodName := ⟨RX3, "isEmpty", "()Z"⟩
abbrev cX3_isFull : ByteArray := prog_5_method_4_code
def yX3_isFull : MethodName := ⟨RX3, "isFull", "()Z"⟩
abbrev cX3_has : ByteArray := prog_5_method_5_code
def yX3_has : MethodName := ⟨RX3, "has", "(I)Z"⟩
abbrev cX3_allHouses : ByteArray := prog_5_method_6_code
def yX3_allHouses : MethodName := ⟨RX3, "allHouses", "()I"⟩
abbrev cX3_hasWinds : ByteArray := prog_5_method_7_code
def yX3_hasWinds : MethodName := ⟨RX3, "hasWinds", "()Z"⟩
abbrev cX3_hasAllWinds : ByteArray := prog_5_method_8_code
def yX3_hasAllWinds : MethodName := ⟨RX3, "hasAllWinds", "()Z"⟩
abbrev cX3_addWind : ByteArray := prog_5_method_9_code
def yX3_addWind : MethodName := ⟨RX3, "addWind", "(I)V"⟩
abbrev cX3_addHouse : ByteArray := prog_5_method_10_code
def yX3_addHouse : MethodName := ⟨RX3, "addHouse", "(II)V"⟩
abbrev cX3_kindOf : ByteArray := prog_5_method_11_code
def yX3_kindOf : MethodName := ⟨RX3, "kindOf", "(I)I"⟩
abbrev cX3_needOf : ByteArray := prog_5_method_12_code
def yX3_needOf : MethodName := ⟨RX3, "needOf", "(I)I"⟩
abbrev cX3_windAt : ByteArray := prog_5_method_13_code
def yX3_windAt : MethodName := ⟨RX3, "windAt", "(I)I"⟩
abbrev cX3_countOf : ByteArray := prog_5_method_14_code
def yX3_countOf : MethodName := ⟨RX3, "countOf", "(I)I"⟩
def RX4 : String := "OneMatch$Odds"
def TX4 : u_T := fun k => match k with
  | 0 => ("OneMatch$Odds", "levels", "[LOneMatch$Fire;", true)
  | 1 => ("OneMatch$Odds", "plan", "LOneMatch$Row;", false)
  | 2 => ("OneMatch$Odds", "wanted", "I", false)
  | 3 => ("OneMatch$Odds", "lost", "I", false)
  | 4 => ("OneMatch$Odds", "cases", "J", false)
  | _ => ("OneMatch$Odds", "allCases", "J", false)
def tyX4 : Nat → FieldType := fun k => match k with
  | 0 => .array (.object "OneMatch$Fire")
  | 1 => .object "OneMatch$Row"
  | 2 => .int
  | 3 => .int
  | 4 => .long
  | _ => .long
abbrev wsX40 : List Cond := u_ws RX4 TX4 6
theorem nmX4 : ∀ a, a < 6 → ∀ b, b < 6 → a ≠ b → (TX4 a).2.1 ≠ (TX4 b).2.1 := by decide +kernel
theorem tyX4_ok : ∀ k, k < 6 → parseFieldDescriptor (TX4 k).2.2.1 = some (tyX4 k) := by decide +kernel
abbrev cX4_init : ByteArray := prog_6_method_1_code
def yX4_init : MethodName := ⟨RX4, "<init>", "(LOneMatch$Lane;)V"⟩
abbrev cX4_reckon : ByteArray := prog_6_method_2_code
def yX4_reckon : MethodName := ⟨RX4, "reckon", "(LOneMatch$Fire;ILOneMatch$Row;I)V"⟩
abbrev cX4_casesFrom : ByteArray := prog_6_method_3_code
def yX4_casesFrom : MethodName := ⟨RX4, "casesFrom", "(I)J"⟩
abbrev cX4_casesBehind : ByteArray := prog_6_method_4_code
def yX4_casesBehind : MethodName := ⟨RX4, "casesBehind", "(II)J"⟩
def RX5 : String := "OneMatch$Plans"
def TX5 : u_T := fun k => match k with
  | 0 => ("OneMatch$Plans", "levels", "[LOneMatch$Fire;", true)
  | 1 => ("OneMatch$Plans", "moves", "[I", true)
  | 2 => ("OneMatch$Plans", "best", "[I", true)
  | 3 => ("OneMatch$Plans", "goal", "I", false)
  | 4 => ("OneMatch$Plans", "wanted", "I", false)
  | 5 => ("OneMatch$Plans", "hours", "I", false)
  | 6 => ("OneMatch$Plans", "rank", "I", false)
  | 7 => ("OneMatch$Plans", "all", "I", false)
  | 8 => ("OneMatch$Plans", "fitting", "I", false)
  | _ => ("OneMatch$Plans", "ever", "I", false)
def tyX5 : Nat → FieldType := fun k => match k with
  | 0 => .array (.object "OneMatch$Fire")
  | 1 => .array .int
  | 2 => .array .int
  | 3 => .int
  | 4 => .int
  | 5 => .int
  | 6 => .int
  | 7 => .int
  | 8 => .int
  | _ => .int
abbrev wsX50 : List Cond := u_ws RX5 TX5 10
theorem nmX5 : ∀ a, a < 10 → ∀ b, b < 10 → a ≠ b → (TX5 a).2.1 ≠ (TX5 b).2.1 := by decide +kernel
theorem tyX5_ok : ∀ k, k < 10 → parseFieldDescriptor (TX5 k).2.2.1 = some (tyX5 k) := by decide +kernel
abbrev cX5_init : ByteArray := prog_7_method_1_code
def yX5_init : MethodName := ⟨RX5, "<init>", "(LOneMatch$Lane;)V"⟩
abbrev cX5_search : ByteArray := prog_7_method_2_code
def yX5_search : MethodName := ⟨RX5, "search", "(LOneMatch$Fire;III)V"⟩
abbrev cX5_isFound : ByteArray := prog_7_method_3_code
def yX5_isFound : MethodName := ⟨RX5, "isFound", "()Z"⟩
abbrev cX5_bestMove : ByteArray := prog_7_method_4_code
def yX5_bestMove : MethodName := ⟨RX5, "bestMove", "(I)I"⟩
abbrev cX5_walk : ByteArray := prog_7_method_5_code
def yX5_walk : MethodName := ⟨RX5, "walk", "(I)V"⟩
abbrev cX5_take : ByteArray := prog_7_method_6_code
def yX5_take : MethodName := ⟨RX5, "take", "(II)V"⟩
abbrev cX5_isOver : ByteArray := prog_7_method_7_code
def yX5_isOver : MethodName := ⟨RX5, "isOver", "()Z"⟩
abbrev cX5_weigh : ByteArray := prog_7_method_8_code
def yX5_weigh : MethodName := ⟨RX5, "weigh", "(LOneMatch$Fire;)V"⟩
abbrev cX5_rankOf : ByteArray := prog_7_method_9_code
def yX5_rankOf : MethodName := ⟨RX5, "rankOf", "(LOneMatch$Fire;)I"⟩
def RX6 : String := "OneMatch$Reader"
def TX6 : u_T := fun k => match k with
  | _ => ("", "", "", false)
def tyX6 : Nat → FieldType := fun k => match k with
  | _ => .int
abbrev wsX60 : List Cond := u_ws RX6 TX6 0
theorem nmX6 : ∀ a, a < 0 → ∀ b, b < 0 → a ≠ b → (TX6 a).2.1 ≠ (TX6 b).2.1 := by decide +kernel
theorem tyX6_ok : ∀ k, k < 0 → parseFieldDescriptor (TX6 k).2.2.1 = some (tyX6 k) := by decide +kernel
abbrev cX6_init : ByteArray := prog_8_method_1_code
def yX6_init : MethodName := ⟨RX6, "<init>", "()V"⟩
abbrev cX6_read : ByteArray := prog_8_method_2_code
def yX6_read : MethodName := ⟨RX6, "read", "(LOneMatch$Text;LOneMatch$Lane;LOneMatch$Fire;)I"⟩
abbrev cX6_skipBlanks : ByteArray := prog_8_method_3_code
def yX6_skipBlanks : MethodName := ⟨RX6, "skipBlanks", "(LOneMatch$Text;I)I"⟩
abbrev cX6_readWinds : ByteArray := prog_8_method_4_code
def yX6_readWinds : MethodName := ⟨RX6, "readWinds", "(LOneMatch$Text;ILOneMatch$Lane;)I"⟩
abbrev cX6_faultOfHouse : ByteArray := prog_8_method_5_code
def yX6_faultOfHouse : MethodName := ⟨RX6, "faultOfHouse", "(LOneMatch$Text;I)I"⟩
abbrev cX6_addHouse : ByteArray := prog_8_method_6_code
def yX6_addHouse : MethodName := ⟨RX6, "addHouse", "(LOneMatch$Text;ILOneMatch$Lane;LOneMatch$Fire;)V"⟩
abbrev cX6_isFigure : ByteArray := prog_8_method_7_code
def yX6_isFigure : MethodName := ⟨RX6, "isFigure", "(II)Z"⟩
def RX7 : String := "OneMatch$Row"
def TX7 : u_T := fun k => match k with
  | 0 => ("OneMatch$Row", "places", "[I", true)
  | _ => ("OneMatch$Row", "size", "I", false)
def tyX7 : Nat → FieldType := fun k => match k with
  | 0 => .array .int
  | _ => .int
abbrev wsX70 : List Cond := u_ws RX7 TX7 2
theorem nmX7 : ∀ a, a < 2 → ∀ b, b < 2 → a ≠ b → (TX7 a).2.1 ≠ (TX7 b).2.1 := by decide +kernel
theorem tyX7_ok : ∀ k, k < 2 → parseFieldDescriptor (TX7 k).2.2.1 = some (tyX7 k) := by decide +kernel
abbrev cX7_init : ByteArray := prog_9_method_1_code
def yX7_init : MethodName := ⟨RX7, "<init>", "()V"⟩
abbrev cX7_isThere : ByteArray := prog_9_method_2_code
def yX7_isThere : MethodName := ⟨RX7, "isThere", "()Z"⟩
abbrev cX7_has : ByteArray := prog_9_method_3_code
def yX7_has : MethodName := ⟨RX7, "has", "(I)Z"⟩
abbrev cX7_hasSpan : ByteArray := prog_9_method_4_code
def yX7_hasSpan : MethodName := ⟨RX7, "hasSpan", "(II)Z"⟩
abbrev cX7_begin : ByteArray := prog_9_method_5_code
def yX7_begin : MethodName := ⟨RX7, "begin", "(I)V"⟩
abbrev cX7_end : ByteArray := prog_9_method_6_code
def yX7_end : MethodName := ⟨RX7, "end", "()V"⟩
abbrev cX7_get : ByteArray := prog_9_method_7_code
def yX7_get : MethodName := ⟨RX7, "get", "(I)I"⟩
abbrev cX7_set : ByteArray := prog_9_method_8_code
def yX7_set : MethodName := ⟨RX7, "set", "(II)V"⟩
abbrev cX7_lacks : ByteArray := prog_9_method_9_code
def yX7_lacks : MethodName := ⟨RX7, "lacks", "(I)I"⟩
abbrev cX7_lacksSizeOrRange : ByteArray := prog_9_method_10_code
def yX7_lacksSizeOrRange : MethodName := ⟨RX7, "lacksSizeOrRange", "(III)I"⟩
abbrev cX7_sum : ByteArray := prog_9_method_11_code
def yX7_sum : MethodName := ⟨RX7, "sum", "()J"⟩
abbrev cX7_union : ByteArray := prog_9_method_12_code
def yX7_union : MethodName := ⟨RX7, "union", "()I"⟩
abbrev cX7_digestOnto : ByteArray := prog_9_method_13_code
def yX7_digestOnto : MethodName := ⟨RX7, "digestOnto", "(J)J"⟩
def RX8 : String := "OneMatch$Smoke"
def TX8 : u_T := fun k => match k with
  | 0 => ("OneMatch$Smoke", "lane", "LOneMatch$Lane;", true)
  | 1 => ("OneMatch$Smoke", "levels", "[LOneMatch$Fire;", true)
  | 2 => ("OneMatch$Smoke", "book", "LOneMatch$Row;", false)
  | 3 => ("OneMatch$Smoke", "fitting", "I", false)
  | _ => ("OneMatch$Smoke", "origins", "I", false)
def tyX8 : Nat → FieldType := fun k => match k with
  | 0 => .object "OneMatch$Lane"
  | 1 => .array (.object "OneMatch$Fire")
  | 2 => .object "OneMatch$Row"
  | 3 => .int
  | _ => .int
abbrev wsX80 : List Cond := u_ws RX8 TX8 5
theorem nmX8 : ∀ a, a < 5 → ∀ b, b < 5 → a ≠ b → (TX8 a).2.1 ≠ (TX8 b).2.1 := by decide +kernel
theorem tyX8_ok : ∀ k, k < 5 → parseFieldDescriptor (TX8 k).2.2.1 = some (tyX8 k) := by decide +kernel
abbrev cX8_init : ByteArray := prog_10_method_1_code
def yX8_init : MethodName := ⟨RX8, "<init>", "(LOneMatch$Lane;)V"⟩
abbrev cX8_search : ByteArray := prog_10_method_2_code
def yX8_search : MethodName := ⟨RX8, "search", "(LOneMatch$Fire;LOneMatch$Row;)V"⟩
abbrev cX8_walk : ByteArray := prog_10_method_3_code
def yX8_walk : MethodName := ⟨RX8, "walk", "(I)V"⟩
abbrev cX8_take : ByteArray := prog_10_method_4_code
def yX8_take : MethodName := ⟨RX8, "take", "(II)V"⟩
def RX9 : String := "OneMatch$Text"
def TX9 : u_T := fun k => match k with
  | 0 => ("OneMatch$Text", "bytes", "[B", true)
  | _ => ("OneMatch$Text", "size", "I", false)
def tyX9 : Nat → FieldType := fun k => match k with
  | 0 => .array .byte
  | _ => .int
abbrev wsX90 : List Cond := u_ws RX9 TX9 2
theorem nmX9 : ∀ a, a < 2 → ∀ b, b < 2 → a ≠ b → (TX9 a).2.1 ≠ (TX9 b).2.1 := by decide +kernel
theorem tyX9_ok : ∀ k, k < 2 → parseFieldDescriptor (TX9 k).2.2.1 = some (tyX9 k) := by decide +kernel
abbrev cX9_init : ByteArray := prog_11_method_1_code
def yX9_init : MethodName := ⟨RX9, "<init>", "()V"⟩
abbrev cX9_isThere : ByteArray := prog_11_method_2_code
def yX9_isThere : MethodName := ⟨RX9, "isThere", "()Z"⟩
abbrev cX9_has : ByteArray := prog_11_method_3_code
def yX9_has : MethodName := ⟨RX9, "has", "(I)Z"⟩
abbrev cX9_begin : ByteArray := prog_11_method_4_code
def yX9_begin : MethodName := ⟨RX9, "begin", "(I)V"⟩
abbrev cX9_get : ByteArray := prog_11_method_5_code
def yX9_get : MethodName := ⟨RX9, "get", "(I)I"⟩
abbrev cX9_set : ByteArray := prog_11_method_6_code
def yX9_set : MethodName := ⟨RX9, "set", "(II)V"⟩
abbrev cX9_digestOnto : ByteArray := prog_11_method_7_code
def yX9_digestOnto : MethodName := ⟨RX9, "digestOnto", "(J)J"⟩
def RX10 : String := "OneMatch"
def TX10 : u_T := fun k => match k with
  | 0 => ("OneMatch", "rows", "[LOneMatch$Row;", true)
  | 1 => ("OneMatch", "texts", "[LOneMatch$Text;", true)
  | 2 => ("OneMatch", "lane", "LOneMatch$Lane;", true)
  | 3 => ("OneMatch", "village", "LOneMatch$Campaign;", true)
  | 4 => ("OneMatch", "kept", "[LOneMatch$Campaign;", true)
  | 5 => ("OneMatch", "reader", "LOneMatch$Reader;", true)
  | 6 => ("OneMatch", "spareLane", "LOneMatch$Lane;", true)
  | 7 => ("OneMatch", "spareFire", "LOneMatch$Fire;", true)
  | 8 => ("OneMatch", "aside", "LOneMatch$Fire;", true)
  | 9 => ("OneMatch", "plans", "LOneMatch$Plans;", true)
  | 10 => ("OneMatch", "smoke", "LOneMatch$Smoke;", true)
  | 11 => ("OneMatch", "odds", "LOneMatch$Odds;", true)
  | 12 => ("OneMatch", "findings", "[I", true)
  | 13 => ("OneMatch", "finding", "I", false)
  | 14 => ("OneMatch", "asked", "I", false)
  | 15 => ("OneMatch", "upper", "J", false)
  | _ => ("OneMatch", "lower", "J", false)
def tyX10 : Nat → FieldType := fun k => match k with
  | 0 => .array (.object "OneMatch$Row")
  | 1 => .array (.object "OneMatch$Text")
  | 2 => .object "OneMatch$Lane"
  | 3 => .object "OneMatch$Campaign"
  | 4 => .array (.object "OneMatch$Campaign")
  | 5 => .object "OneMatch$Reader"
  | 6 => .object "OneMatch$Lane"
  | 7 => .object "OneMatch$Fire"
  | 8 => .object "OneMatch$Fire"
  | 9 => .object "OneMatch$Plans"
  | 10 => .object "OneMatch$Smoke"
  | 11 => .object "OneMatch$Odds"
  | 12 => .array .int
  | 13 => .int
  | 14 => .int
  | 15 => .long
  | _ => .long
abbrev wsX100 : List Cond := u_ws RX10 TX10 17
theorem nmX10 : ∀ a, a < 17 → ∀ b, b < 17 → a ≠ b → (TX10 a).2.1 ≠ (TX10 b).2.1 := by decide +kernel
theorem tyX10_ok : ∀ k, k < 17 → parseFieldDescriptor (TX10 k).2.2.1 = some (tyX10 k) := by decide +kernel
abbrev cX10_init : ByteArray := prog_1_method_1_code
def yX10_init : MethodName := ⟨RX10, "<init>", "()V"⟩
abbrev cX10_row : ByteArray := prog_1_method_2_code
def yX10_row : MethodName := ⟨RX10, "row", "(II)I"⟩
abbrev cX10_lay : ByteArray := prog_1_method_3_code
def yX10_lay : MethodName := ⟨RX10, "lay", "(III)I"⟩
abbrev cX10_at : ByteArray := prog_1_method_4_code
def yX10_at : MethodName := ⟨RX10, "at", "(II)I"⟩
abbrev cX10_tear : ByteArray := prog_1_method_5_code
def yX10_tear : MethodName := ⟨RX10, "tear", "(I)I"⟩
abbrev cX10_copy : ByteArray := prog_1_method_6_code
def yX10_copy : MethodName := ⟨RX10, "copy", "(IIIII)I"⟩
abbrev cX10_mean : ByteArray := prog_1_method_7_code
def yX10_mean : MethodName := ⟨RX10, "mean", "(I)I"⟩
abbrev cX10_text : ByteArray := prog_1_method_8_code
def yX10_text : MethodName := ⟨RX10, "text", "(II)I"⟩
abbrev cX10_put : ByteArray := prog_1_method_9_code
def yX10_put : MethodName := ⟨RX10, "put", "(III)I"⟩
abbrev cX10_fault : ByteArray := prog_1_method_10_code
def yX10_fault : MethodName := ⟨RX10, "fault", "(I)I"⟩
abbrev cX10_village : ByteArray := prog_1_method_11_code
def yX10_village : MethodName := ⟨RX10, "village", "(I)I"⟩
abbrev cX10_house : ByteArray := prog_1_method_12_code
def yX10_house : MethodName := ⟨RX10, "house", "(II)I"⟩
abbrev cX10_wind : ByteArray := prog_1_method_13_code
def yX10_wind : MethodName := ⟨RX10, "wind", "(I)I"⟩
abbrev cX10_mark : ByteArray := prog_1_method_14_code
def yX10_mark : MethodName := ⟨RX10, "mark", "(II)I"⟩
abbrev cX10_stack : ByteArray := prog_1_method_15_code
def yX10_stack : MethodName := ⟨RX10, "stack", "(II)I"⟩
abbrev cX10_strike : ByteArray := prog_1_method_16_code
def yX10_strike : MethodName := ⟨RX10, "strike", "(I)I"⟩
abbrev cX10_carry : ByteArray := prog_1_method_17_code
def yX10_carry : MethodName := ⟨RX10, "carry", "(II)I"⟩
abbrev cX10_hour : ByteArray := prog_1_method_18_code
def yX10_hour : MethodName := ⟨RX10, "hour", "()I"⟩
abbrev cX10_undo : ByteArray := prog_1_method_19_code
def yX10_undo : MethodName := ⟨RX10, "undo", "(I)I"⟩
abbrev cX10_keep : ByteArray := prog_1_method_20_code
def yX10_keep : MethodName := ⟨RX10, "keep", "(I)I"⟩
abbrev cX10_on : ByteArray := prog_1_method_21_code
def yX10_on : MethodName := ⟨RX10, "on", "(I)I"⟩
abbrev cX10_fires : ByteArray := prog_1_method_22_code
def yX10_fires : MethodName := ⟨RX10, "fires", "()I"⟩
abbrev cX10_reach : ByteArray := prog_1_method_23_code
def yX10_reach : MethodName := ⟨RX10, "reach", "()I"⟩
abbrev cX10_lasts : ByteArray := prog_1_method_24_code
def yX10_lasts : MethodName := ⟨RX10, "lasts", "(I)I"⟩
abbrev cX10_dark : ByteArray := prog_1_method_25_code
def yX10_dark : MethodName := ⟨RX10, "dark", "()I"⟩
abbrev cX10_worst : ByteArray := prog_1_method_26_code
def yX10_worst : MethodName := ⟨RX10, "worst", "(I)I"⟩
abbrev cX10_can : ByteArray := prog_1_method_27_code
def yX10_can : MethodName := ⟨RX10, "can", "(I)I"⟩
abbrev cX10_plan : ByteArray := prog_1_method_28_code
def yX10_plan : MethodName := ⟨RX10, "plan", "(III)I"⟩
abbrev cX10_ways : ByteArray := prog_1_method_29_code
def yX10_ways : MethodName := ⟨RX10, "ways", "(II)I"⟩
abbrev cX10_most : ByteArray := prog_1_method_30_code
def yX10_most : MethodName := ⟨RX10, "most", "(II)I"⟩
abbrev cX10_serve : ByteArray := prog_1_method_31_code
def yX10_serve : MethodName := ⟨RX10, "serve", "(II)I"⟩
abbrev cX10_run : ByteArray := prog_1_method_32_code
def yX10_run : MethodName := ⟨RX10, "run", "(I)I"⟩
abbrev cX10_where : ByteArray := prog_1_method_33_code
def yX10_where : MethodName := ⟨RX10, "where", "()I"⟩
abbrev cX10_smoke : ByteArray := prog_1_method_34_code
def yX10_smoke : MethodName := ⟨RX10, "smoke", "(I)I"⟩
abbrev cX10_hides : ByteArray := prog_1_method_35_code
def yX10_hides : MethodName := ⟨RX10, "hides", "(II)I"⟩
abbrev cX10_spring : ByteArray := prog_1_method_36_code
def yX10_spring : MethodName := ⟨RX10, "spring", "(II)I"⟩
abbrev cX10_odds : ByteArray := prog_1_method_37_code
def yX10_odds : MethodName := ⟨RX10, "odds", "(III)I"⟩
abbrev cX10_lots : ByteArray := prog_1_method_38_code
def yX10_lots : MethodName := ⟨RX10, "lots", "(II)I"⟩
abbrev cX10_asked : ByteArray := prog_1_method_39_code
def yX10_asked : MethodName := ⟨RX10, "asked", "()I"⟩
abbrev cX10_upper : ByteArray := prog_1_method_40_code
def yX10_upper : MethodName := ⟨RX10, "upper", "()J"⟩
abbrev cX10_lower : ByteArray := prog_1_method_41_code
def yX10_lower : MethodName := ⟨RX10, "lower", "()J"⟩
abbrev cX10_count : ByteArray := prog_1_method_42_code
def yX10_count : MethodName := ⟨RX10, "count", "(I)I"⟩
abbrev cX10_finding : ByteArray := prog_1_method_43_code
def yX10_finding : MethodName := ⟨RX10, "finding", "()I"⟩
abbrev cX10_findings : ByteArray := prog_1_method_44_code
def yX10_findings : MethodName := ⟨RX10, "findings", "(I)I"⟩
abbrev cX10_digest : ByteArray := prog_1_method_45_code
def yX10_digest : MethodName := ⟨RX10, "digest", "()J"⟩
abbrev cX10_isRow : ByteArray := prog_1_method_46_code
def yX10_isRow : MethodName := ⟨RX10, "isRow", "(I)Z"⟩
abbrev cX10_isText : ByteArray := prog_1_method_47_code
def yX10_isText : MethodName := ⟨RX10, "isText", "(I)Z"⟩
abbrev cX10_isKeepingPlace : ByteArray := prog_1_method_48_code
def yX10_isKeepingPlace : MethodName := ⟨RX10, "isKeepingPlace", "(I)Z"⟩
abbrev cX10_isAhead : ByteArray := prog_1_method_49_code
def yX10_isAhead : MethodName := ⟨RX10, "isAhead", "(I)Z"⟩
abbrev cX10_found : ByteArray := prog_1_method_50_code
def yX10_found : MethodName := ⟨RX10, "found", "(I)I"⟩
abbrev cX10_tell : ByteArray := prog_1_method_51_code
def yX10_tell : MethodName := ⟨RX10, "tell", "(JJ)V"⟩
abbrev cX10_commonDivisor : ByteArray := prog_1_method_52_code
def yX10_commonDivisor : MethodName := ⟨RX10, "commonDivisor", "(JJ)J"⟩
abbrev cX10_factOf : ByteArray := prog_1_method_53_code
def yX10_factOf : MethodName := ⟨RX10, "factOf", "(II)I"⟩
abbrev cX10_markOf : ByteArray := prog_1_method_54_code
def yX10_markOf : MethodName := ⟨RX10, "markOf", "(II)I"⟩
abbrev cX10_countOf : ByteArray := prog_1_method_55_code
def yX10_countOf : MethodName := ⟨RX10, "countOf", "(I)I"⟩
abbrev cX10_rowsThere : ByteArray := prog_1_method_56_code
def yX10_rowsThere : MethodName := ⟨RX10, "rowsThere", "()I"⟩
abbrev cX10_textsThere : ByteArray := prog_1_method_57_code
def yX10_textsThere : MethodName := ⟨RX10, "textsThere", "()I"⟩
abbrev cX10_keptThere : ByteArray := prog_1_method_58_code
def yX10_keptThere : MethodName := ⟨RX10, "keptThere", "()I"⟩
abbrev cX10_planInto : ByteArray := prog_1_method_59_code
def yX10_planInto : MethodName := ⟨RX10, "planInto", "(LOneMatch$Row;)I"⟩
abbrev cX10_carryByLot : ByteArray := prog_1_method_60_code
def yX10_carryByLot : MethodName := ⟨RX10, "carryByLot", "(I)V"⟩
def RX11 : String := "OneMatchModel"
def TX11 : u_T := fun k => match k with
  | 0 => ("OneMatchModel", "latest", "I", false)
  | 1 => ("OneMatchModel", "came", "[I", true)
  | 2 => ("OneMatchModel", "asked", "I", false)
  | 3 => ("OneMatchModel", "upper", "J", false)
  | 4 => ("OneMatchModel", "lower", "J", false)
  | 5 => ("OneMatchModel", "sizes", "[I", true)
  | 6 => ("OneMatchModel", "rows", "[I", true)
  | 7 => ("OneMatchModel", "copied", "[I", true)
  | 8 => ("OneMatchModel", "textSizes", "[I", true)
  | 9 => ("OneMatchModel", "bytes", "[B", true)
  | 10 => ("OneMatchModel", "n", "I", false)
  | 11 => ("OneMatchModel", "windMany", "I", false)
  | 12 => ("OneMatchModel", "winds", "[I", true)
  | 13 => ("OneMatchModel", "kinds", "[I", true)
  | 14 => ("OneMatchModel", "needs", "[I", true)
  | 15 => ("OneMatchModel", "readAt", "I", false)
  | 16 => ("OneMatchModel", "readMany", "I", false)
  | 17 => ("OneMatchModel", "readWinds", "I", false)
  | 18 => ("OneMatchModel", "readWind", "[I", true)
  | 19 => ("OneMatchModel", "readHouse", "[I", true)
  | 20 => ("OneMatchModel", "first", "[I", true)
  | 21 => ("OneMatchModel", "at", "[I", true)
  | 22 => ("OneMatchModel", "deedMany", "I", false)
  | 23 => ("OneMatchModel", "log", "[I", true)
  | 24 => ("OneMatchModel", "isKept", "[Z", true)
  | 25 => ("OneMatchModel", "keptMany", "[I", true)
  | 26 => ("OneMatchModel", "keptFirst", "[I", true)
  | 27 => ("OneMatchModel", "keptNow", "[I", true)
  | 28 => ("OneMatchModel", "keptLog", "[I", true)
  | 29 => ("OneMatchModel", "tried", "[I", true)
  | 30 => ("OneMatchModel", "bestTried", "[I", true)
  | 31 => ("OneMatchModel", "isMet", "Z", false)
  | 32 => ("OneMatchModel", "most", "I", false)
  | 33 => ("OneMatchModel", "canSet", "I", false)
  | 34 => ("OneMatchModel", "planMany", "I", false)
  | 35 => ("OneMatchModel", "goodMany", "I", false)
  | 36 => ("OneMatchModel", "of", "I", false)
  | _ => ("OneMatchModel", "hash", "J", false)
def tyX11 : Nat → FieldType := fun k => match k with
  | 0 => .int
  | 1 => .array .int
  | 2 => .int
  | 3 => .long
  | 4 => .long
  | 5 => .array .int
  | 6 => .array .int
  | 7 => .array .int
  | 8 => .array .int
  | 9 => .array .byte
  | 10 => .int
  | 11 => .int
  | 12 => .array .int
  | 13 => .array .int
  | 14 => .array .int
  | 15 => .int
  | 16 => .int
  | 17 => .int
  | 18 => .array .int
  | 19 => .array .int
  | 20 => .array .int
  | 21 => .array .int
  | 22 => .int
  | 23 => .array .int
  | 24 => .array .boolean
  | 25 => .array .int
  | 26 => .array .int
  | 27 => .array .int
  | 28 => .array .int
  | 29 => .array .int
  | 30 => .array .int
  | 31 => .boolean
  | 32 => .int
  | 33 => .int
  | 34 => .int
  | 35 => .int
  | 36 => .int
  | _ => .long
abbrev wsX110 : List Cond := u_ws RX11 TX11 38
theorem nmX11 : ∀ a, a < 38 → ∀ b, b < 38 → a ≠ b → (TX11 a).2.1 ≠ (TX11 b).2.1 := by decide +kernel
theorem tyX11_ok : ∀ k, k < 38 → parseFieldDescriptor (TX11 k).2.2.1 = some (tyX11 k) := by decide +kernel
abbrev cX11_init : ByteArray := prog_13_method_1_code
def yX11_init : MethodName := ⟨RX11, "<init>", "()V"⟩
abbrev cX11_in : ByteArray := prog_13_method_2_code
def yX11_in : MethodName := ⟨RX11, "in", "(III)Z"⟩
abbrev cX11_has : ByteArray := prog_13_method_3_code
def yX11_has : MethodName := ⟨RX11, "has", "(II)Z"⟩
abbrev cX11_bits : ByteArray := prog_13_method_4_code
def yX11_bits : MethodName := ⟨RX11, "bits", "(I)I"⟩
abbrev cX11_size : ByteArray := prog_13_method_5_code
def yX11_size : MethodName := ⟨RX11, "size", "(I)I"⟩
abbrev cX11_meets : ByteArray := prog_13_method_6_code
def yX11_meets : MethodName := ⟨RX11, "meets", "(I)I"⟩
abbrev cX11_finding : ByteArray := prog_13_method_7_code
def yX11_finding : MethodName := ⟨RX11, "finding", "()I"⟩
abbrev cX11_findings : ByteArray := prog_13_method_8_code
def yX11_findings : MethodName := ⟨RX11, "findings", "(I)I"⟩
abbrev cX11_tells : ByteArray := prog_13_method_9_code
def yX11_tells : MethodName := ⟨RX11, "tells", "(II)I"⟩
abbrev cX11_asked : ByteArray := prog_13_method_10_code
def yX11_asked : MethodName := ⟨RX11, "asked", "()I"⟩
abbrev cX11_fraction : ByteArray := prog_13_method_11_code
def yX11_fraction : MethodName := ⟨RX11, "fraction", "(JJ)I"⟩
abbrev cX11_upper : ByteArray := prog_13_method_12_code
def yX11_upper : MethodName := ⟨RX11, "upper", "()J"⟩
abbrev cX11_lower : ByteArray := prog_13_method_13_code
def yX11_lower : MethodName := ⟨RX11, "lower", "()J"⟩
abbrev cX11_isRow : ByteArray := prog_13_method_14_code
def yX11_isRow : MethodName := ⟨RX11, "isRow", "(I)Z"⟩
abbrev cX11_rowAt : ByteArray := prog_13_method_15_code
def yX11_rowAt : MethodName := ⟨RX11, "rowAt", "(II)I"⟩
abbrev cX11_row : ByteArray := prog_13_method_16_code
def yX11_row : MethodName := ⟨RX11, "row", "(II)I"⟩
abbrev cX11_lay : ByteArray := prog_13_method_17_code
def yX11_lay : MethodName := ⟨RX11, "lay", "(III)I"⟩
abbrev cX11_at : ByteArray := prog_13_method_18_code
def yX11_at : MethodName := ⟨RX11, "at", "(II)I"⟩
abbrev cX11_tear : ByteArray := prog_13_method_19_code
def yX11_tear : MethodName := ⟨RX11, "tear", "(I)I"⟩
abbrev cX11_copy : ByteArray := prog_13_method_20_code
def yX11_copy : MethodName := ⟨RX11, "copy", "(IIIII)I"⟩
abbrev cX11_mean : ByteArray := prog_13_method_21_code
def yX11_mean : MethodName := ⟨RX11, "mean", "(I)I"⟩
abbrev cX11_isText : ByteArray := prog_13_method_22_code
def yX11_isText : MethodName := ⟨RX11, "isText", "(I)Z"⟩
abbrev cX11_text : ByteArray := prog_13_method_23_code
def yX11_text : MethodName := ⟨RX11, "text", "(II)I"⟩
abbrev cX11_put : ByteArray := prog_13_method_24_code
def yX11_put : MethodName := ⟨RX11, "put", "(III)I"⟩
abbrev cX11_byteAt : ByteArray := prog_13_method_25_code
def yX11_byteAt : MethodName := ⟨RX11, "byteAt", "(II)I"⟩
abbrev cX11_layRow : ByteArray := prog_13_method_26_code
def yX11_layRow : MethodName := ⟨RX11, "layRow", "(I[II)V"⟩
abbrev cX11_kindOf : ByteArray := prog_13_method_27_code
def yX11_kindOf : MethodName := ⟨RX11, "kindOf", "(I)I"⟩
abbrev cX11_figureAt : ByteArray := prog_13_method_28_code
def yX11_figureAt : MethodName := ⟨RX11, "figureAt", "(I)I"⟩
abbrev cX11_readsWinds : ByteArray := prog_13_method_29_code
def yX11_readsWinds : MethodName := ⟨RX11, "readsWinds", "(I)Z"⟩
abbrev cX11_readsHouse : ByteArray := prog_13_method_30_code
def yX11_readsHouse : MethodName := ⟨RX11, "readsHouse", "(I)Z"⟩
abbrev cX11_faultOf : ByteArray := prog_13_method_31_code
def yX11_faultOf : MethodName := ⟨RX11, "faultOf", "(I)I"⟩
abbrev cX11_fault : ByteArray := prog_13_method_32_code
def yX11_fault : MethodName := ⟨RX11, "fault", "(I)I"⟩
abbrev cX11_village : ByteArray := prog_13_method_33_code
def yX11_village : MethodName := ⟨RX11, "village", "(I)I"⟩
abbrev cX11_isHouse : ByteArray := prog_13_method_34_code
def yX11_isHouse : MethodName := ⟨RX11, "isHouse", "(I)Z"⟩
abbrev cX11_copyTo : ByteArray := prog_13_method_35_code
def yX11_copyTo : MethodName := ⟨RX11, "copyTo", "(II)V"⟩
abbrev cX11_isBurning : ByteArray := prog_13_method_36_code
def yX11_isBurning : MethodName := ⟨RX11, "isBurning", "(II)Z"⟩
abbrev cX11_isCatching : ByteArray := prog_13_method_37_code
def yX11_isCatching : MethodName := ⟨RX11, "isCatching", "(II)Z"⟩
abbrev cX11_hourOf : ByteArray := prog_13_method_38_code
def yX11_hourOf : MethodName := ⟨RX11, "hourOf", "(I)I"⟩
abbrev cX11_windOf : ByteArray := prog_13_method_39_code
def yX11_windOf : MethodName := ⟨RX11, "windOf", "(I)I"⟩
abbrev cX11_canCarry : ByteArray := prog_13_method_40_code
def yX11_canCarry : MethodName := ⟨RX11, "canCarry", "(III)Z"⟩
abbrev cX11_carries : ByteArray := prog_13_method_41_code
def yX11_carries : MethodName := ⟨RX11, "carries", "(II)V"⟩
abbrev cX11_takesIn : ByteArray := prog_13_method_42_code
def yX11_takesIn : MethodName := ⟨RX11, "takesIn", "(II)I"⟩
abbrev cX11_burning : ByteArray := prog_13_method_43_code
def yX11_burning : MethodName := ⟨RX11, "burning", "(I)I"⟩
abbrev cX11_passes : ByteArray := prog_13_method_44_code
def yX11_passes : MethodName := ⟨RX11, "passes", "(I)V"⟩
abbrev cX11_houseTells : ByteArray := prog_13_method_45_code
def yX11_houseTells : MethodName := ⟨RX11, "houseTells", "(II)I"⟩
abbrev cX11_house : ByteArray := prog_13_method_46_code
def yX11_house : MethodName := ⟨RX11, "house", "(II)I"⟩
abbrev cX11_wind : ByteArray := prog_13_method_47_code
def yX11_wind : MethodName := ⟨RX11, "wind", "(I)I"⟩
abbrev cX11_springOf : ByteArray := prog_13_method_48_code
def yX11_springOf : MethodName := ⟨RX11, "springOf", "(II)I"⟩
abbrev cX11_wetBeside : ByteArray := prog_13_method_49_code
def yX11_wetBeside : MethodName := ⟨RX11, "wetBeside", "(I)I"⟩
abbrev cX11_mark : ByteArray := prog_13_method_50_code
def yX11_mark : MethodName := ⟨RX11, "mark", "(II)I"⟩
abbrev cX11_stack : ByteArray := prog_13_method_51_code
def yX11_stack : MethodName := ⟨RX11, "stack", "(II)I"⟩
abbrev cX11_remember : ByteArray := prog_13_method_52_code
def yX11_remember : MethodName := ⟨RX11, "remember", "()V"⟩
abbrev cX11_strike : ByteArray := prog_13_method_53_code
def yX11_strike : MethodName := ⟨RX11, "strike", "(I)I"⟩
abbrev cX11_carry : ByteArray := prog_13_method_54_code
def yX11_carry : MethodName := ⟨RX11, "carry", "(II)I"⟩
abbrev cX11_hour : ByteArray := prog_13_method_55_code
def yX11_hour : MethodName := ⟨RX11, "hour", "()I"⟩
abbrev cX11_undo : ByteArray := prog_13_method_56_code
def yX11_undo : MethodName := ⟨RX11, "undo", "(I)I"⟩
abbrev cX11_keep : ByteArray := prog_13_method_57_code
def yX11_keep : MethodName := ⟨RX11, "keep", "(I)I"⟩
abbrev cX11_on : ByteArray := prog_13_method_58_code
def yX11_on : MethodName := ⟨RX11, "on", "(I)I"⟩
abbrev cX11_catching : ByteArray := prog_13_method_59_code
def yX11_catching : MethodName := ⟨RX11, "catching", "(I)I"⟩
abbrev cX11_fires : ByteArray := prog_13_method_60_code
def yX11_fires : MethodName := ⟨RX11, "fires", "()I"⟩
abbrev cX11_reach : ByteArray := prog_13_method_61_code
def yX11_reach : MethodName := ⟨RX11, "reach", "()I"⟩
abbrev cX11_outOf : ByteArray := prog_13_method_62_code
def yX11_outOf : MethodName := ⟨RX11, "outOf", "(I)I"⟩
abbrev cX11_lasts : ByteArray := prog_13_method_63_code
def yX11_lasts : MethodName := ⟨RX11, "lasts", "(I)I"⟩
abbrev cX11_everybody : ByteArray := prog_13_method_64_code
def yX11_everybody : MethodName := ⟨RX11, "everybody", "()I"⟩
abbrev cX11_dark : ByteArray := prog_13_method_65_code
def yX11_dark : MethodName := ⟨RX11, "dark", "()I"⟩
abbrev cX11_worst : ByteArray := prog_13_method_66_code
def yX11_worst : MethodName := ⟨RX11, "worst", "(I)I"⟩
abbrev cX11_isNone : ByteArray := prog_13_method_67_code
def yX11_isNone : MethodName := ⟨RX11, "isNone", "(I)Z"⟩
abbrev cX11_canMove : ByteArray := prog_13_method_68_code
def yX11_canMove : MethodName := ⟨RX11, "canMove", "(II)Z"⟩
abbrev cX11_takes : ByteArray := prog_13_method_69_code
def yX11_takes : MethodName := ⟨RX11, "takes", "(I)V"⟩
abbrev cX11_ends : ByteArray := prog_13_method_70_code
def yX11_ends : MethodName := ⟨RX11, "ends", "(III)V"⟩
abbrev cX11_isServed : ByteArray := prog_13_method_71_code
def yX11_isServed : MethodName := ⟨RX11, "isServed", "(I)Z"⟩
abbrev cX11_layPlans : ByteArray := prog_13_method_72_code
def yX11_layPlans : MethodName := ⟨RX11, "layPlans", "(III)V"⟩
abbrev cX11_allPlans : ByteArray := prog_13_method_73_code
def yX11_allPlans : MethodName := ⟨RX11, "allPlans", "(III)V"⟩
abbrev cX11_embers : ByteArray := prog_13_method_74_code
def yX11_embers : MethodName := ⟨RX11, "embers", "(I)I"⟩
abbrev cX11_can : ByteArray := prog_13_method_75_code
def yX11_can : MethodName := ⟨RX11, "can", "(I)I"⟩
abbrev cX11_plan : ByteArray := prog_13_method_76_code
def yX11_plan : MethodName := ⟨RX11, "plan", "(III)I"⟩
abbrev cX11_ways : ByteArray := prog_13_method_77_code
def yX11_ways : MethodName := ⟨RX11, "ways", "(II)I"⟩
abbrev cX11_most : ByteArray := prog_13_method_78_code
def yX11_most : MethodName := ⟨RX11, "most", "(II)I"⟩
abbrev cX11_serve : ByteArray := prog_13_method_79_code
def yX11_serve : MethodName := ⟨RX11, "serve", "(II)I"⟩
abbrev cX11_areMoves : ByteArray := prog_13_method_80_code
def yX11_areMoves : MethodName := ⟨RX11, "areMoves", "(I)Z"⟩
abbrev cX11_run : ByteArray := prog_13_method_81_code
def yX11_run : MethodName := ⟨RX11, "run", "(I)I"⟩
abbrev cX11_layFirst : ByteArray := prog_13_method_82_code
def yX11_layFirst : MethodName := ⟨RX11, "layFirst", "(I)V"⟩
abbrev cX11_where : ByteArray := prog_13_method_83_code
def yX11_where : MethodName := ⟨RX11, "where", "()I"⟩
abbrev cX11_needBook : ByteArray := prog_13_method_84_code
def yX11_needBook : MethodName := ⟨RX11, "needBook", "(IZ)I"⟩
abbrev cX11_smokes : ByteArray := prog_13_method_85_code
def yX11_smokes : MethodName := ⟨RX11, "smokes", "(II)I"⟩
abbrev cX11_smoke : ByteArray := prog_13_method_86_code
def yX11_smoke : MethodName := ⟨RX11, "smoke", "(I)I"⟩
abbrev cX11_hides : ByteArray := prog_13_method_87_code
def yX11_hides : MethodName := ⟨RX11, "hides", "(II)I"⟩
abbrev cX11_spring : ByteArray := prog_13_method_88_code
def yX11_spring : MethodName := ⟨RX11, "spring", "(II)I"⟩
abbrev cX11_partsOf : ByteArray := prog_13_method_89_code
def yX11_partsOf : MethodName := ⟨RX11, "partsOf", "(IIII)J"⟩
abbrev cX11_odds : ByteArray := prog_13_method_90_code
def yX11_odds : MethodName := ⟨RX11, "odds", "(III)I"⟩
abbrev cX11_lots : ByteArray := prog_13_method_91_code
def yX11_lots : MethodName := ⟨RX11, "lots", "(II)I"⟩
abbrev cX11_counted : ByteArray := prog_13_method_92_code
def yX11_counted : MethodName := ⟨RX11, "counted", "(I)I"⟩
abbrev cX11_count : ByteArray := prog_13_method_93_code
def yX11_count : MethodName := ⟨RX11, "count", "(I)I"⟩
abbrev cX11_mix : ByteArray := prog_13_method_94_code
def yX11_mix : MethodName := ⟨RX11, "mix", "(J)V"⟩
abbrev cX11_mixVillage : ByteArray := prog_13_method_95_code
def yX11_mixVillage : MethodName := ⟨RX11, "mixVillage", "()V"⟩
abbrev cX11_digest : ByteArray := prog_13_method_96_code
def yX11_digest : MethodName := ⟨RX11, "digest", "()J"⟩
def RJ6 : String := "java/lang/Integer"
def TJ6 : u_T := fun k => match k with
  | _ => ("", "", "", false)
def tyJ6 : Nat → FieldType := fun k => match k with
  | _ => .int
theorem nmJ6 : ∀ a, a < 0 → ∀ b, b < 0 → a ≠ b → (TJ6 a).2.1 ≠ (TJ6 b).2.1 := by decide +kernel
theorem tyJ6_ok : ∀ k, k < 0 → parseFieldDescriptor (TJ6 k).2.2.1 = some (tyJ6 k) := by decide +kernel
abbrev cJ6_bitCount_0f7a4 : ByteArray := prog_14_method_49_code
def yJ6_bitCount_0f7a4 : MethodName := ⟨RJ6, "bitCount", "(I)I"⟩
def RJ9 : String := "java/lang/Math"
def TJ9 : u_T := fun k => match k with
  | _ => ("", "", "", false)
def tyJ9 : Nat → FieldType := fun k => match k with
  | _ => .int
theorem nmJ9 : ∀ a, a < 0 → ∀ b, b < 0 → a ≠ b → (TJ9 a).2.1 ≠ (TJ9 b).2.1 := by decide +kernel
theorem tyJ9_ok : ∀ k, k < 0 → parseFieldDescriptor (TJ9 k).2.2.1 = some (tyJ9 k) := by decide +kernel
abbrev cJ9_abs_0f7a4 : ByteArray := prog_15_method_59_code
def yJ9_abs_0f7a4 : MethodName := ⟨RJ9, "abs", "(I)I"⟩
abbrev cJ9_max_7cf53 : ByteArray := prog_15_method_65_code
def yJ9_max_7cf53 : MethodName := ⟨RJ9, "max", "(II)I"⟩
abbrev cJ9_min_7cf53 : ByteArray := prog_15_method_69_code
def yJ9_min_7cf53 : MethodName := ⟨RJ9, "min", "(II)I"⟩
def RJ10 : String := "java/lang/System"
def TJ10 : u_T := fun k => match k with
  | _ => ("", "", "", false)
def tyJ10 : Nat → FieldType := fun k => match k with
  | _ => .int
theorem nmJ10 : ∀ a, a < 0 → ∀ b, b < 0 → a ≠ b → (TJ10 a).2.1 ≠ (TJ10 b).2.1 := by decide +kernel
theorem tyJ10_ok : ∀ k, k < 0 → parseFieldDescriptor (TJ10 k).2.2.1 = some (tyJ10 k) := by decide +kernel
def RL : String := "OneMatchLaw"
abbrev cL_law : ByteArray := code
def yL_law : MethodName := ⟨RL, "law", "([I)Z"⟩
abbrev vwCl : List vw_C := [(RX0, TX0, 5), (RX1, TX1, 7), (RX3, TX3, 5), (RX4, TX4, 6), (RX5, TX5, 10), (RX6, TX6, 0), (RX7, TX7, 2), (RX8, TX8, 5), (RX9, TX9, 2), (RX10, TX10, 17), (RX11, TX11, 38)]
end
section
theorem dX0_init_0 : decode cX0_init 0 = .ok (.aload_n 0, 1) := by decide +kernel
theorem dX0_init_1 : decode cX0_init 1 = .ok (.invokespecial 3, 3) := by decide +kernel
theorem dX0_init_4 : decode cX0_init 4 = .ok (.aload_n 0, 1) := by decide +kernel
theorem dX0_init_5 : decode cX0_init 5 = .ok (.bipush 40, 2) := by decide +kernel
theorem dX0_init_7 : decode cX0_init 7 = .ok (.newarray .int, 2) := by decide +kernel
theorem dX0_init_9 : decode cX0_init 9 = .ok (.putfield 9, 3) := by decide +kernel
theorem dX0_init_12 : decode cX0_init 12 = .ok (.aload_n 0, 1) := by decide +kernel
theorem dX0_init_13 : decode cX0_init 13 = .ok (.iconst 0, 1) := by decide +kernel
theorem dX0_init_14 : decode cX0_init 14 = .ok (.putfield 15, 3) := by decide +kernel
theorem dX0_init_17 : decode cX0_init 17 = .ok (.aload_n 0, 1) := by decide +kernel
theorem dX0_init_18 : decode cX0_init 18 = .ok (.iconst 0, 1) := by decide +kernel
theorem dX0_init_19 : decode cX0_init 19 = .ok (.putfield 19, 3) := by decide +kernel
theorem dX0_init_22 : decode cX0_init 22 = .ok (.aload_n 0, 1) := by decide +kernel
theorem dX0_init_23 : decode cX0_init 23 = .ok (.new 23, 3) := by decide +kernel
theorem dX0_init_26 : decode cX0_init 26 = .ok (.dup, 1) := by decide +kernel
theorem dX0_init_27 : decode cX0_init 27 = .ok (.aload_n 1, 1) := by decide +kernel
theorem dX0_init_28 : decode cX0_init 28 = .ok (.invokespecial 25, 3) := by decide +kernel
theorem dX0_init_31 : decode cX0_init 31 = .ok (.putfield 28, 3) := by decide +kernel
theorem dX0_init_34 : decode cX0_init 34 = .ok (.aload_n 0, 1) := by decide +kernel
theorem dX0_init_35 : decode cX0_init 35 = .ok (.new 23, 3) := by decide +kernel
theorem dX0_init_38 : decode cX0_init 38 = .ok (.dup, 1) := by decide +kernel
theorem dX0_init_39 : decode cX0_init 39 = .ok (.aload_n 1, 1) := by decide +kernel
theorem dX0_init_40 : decode cX0_init 40 = .ok (.invokespecial 25, 3) := by decide +kernel
theorem dX0_init_43 : decode cX0_init 43 = .ok (.putfield 32, 3) := by decide +kernel
theorem dX0_init_46 : decode cX0_init 46 = .ok (.return_, 1) := by decide +kernel
theorem dX0_begin_0 : decode cX0_begin 0 = .ok (.aload_n 0, 1) := by decide +kernel
theorem dX0_begin_1 : decode cX0_begin 1 = .ok (.iconst 1, 1) := by decide +kernel
theorem dX0_begin_2 : decode cX0_begin 2 = .ok (.putfield 19, 3) := by decide +kernel
theorem dX0_begin_5 : decode cX0_begin 5 = .ok (.aload_n 0, 1) := by decide +kernel
theorem dX0_begin_6 : decode cX0_begin 6 = .ok (.iconst 0, 1) := by decide +kernel
theorem dX0_begin_7 : decode cX0_begin 7 = .ok (.putfield 15, 3) := by decide +kernel
theorem dX0_begin_10 : decode cX0_begin 10 = .ok (.aload_n 0, 1) := by decide +kernel
theorem dX0_begin_11 : decode cX0_begin 11 = .ok (.getfield 32, 3) := by decide +kernel
theorem dX0_begin_14 : decode cX0_begin 14 = .ok (.aload_n 0, 1) := by decide +kernel
theorem dX0_begin_15 : decode cX0_begin 15 = .ok (.getfield 28, 3) := by decide +kernel
theorem dX0_begin_18 : decode cX0_begin 18 = .ok (.invokevirtual 35, 3) := by decide +kernel
theorem dX0_begin_21 : decode cX0_begin 21 = .ok (.return_, 1) := by decide +kernel
theorem dX0_leave_0 : decode cX0_leave 0 = .ok (.aload_n 0, 1) := by decide +kernel
theorem dX0_leave_1 : decode cX0_leave 1 = .ok (.iconst 0, 1) := by decide +kernel
theorem dX0_leave_2 : decode cX0_leave 2 = .ok (.putfield 19, 3) := by decide +kernel
theorem dX0_leave_5 : decode cX0_leave 5 = .ok (.return_, 1) := by decide +kernel
theorem dX0_become_0 : decode cX0_become 0 = .ok (.aload_n 0, 1) := by decide +kernel
theorem dX0_become_1 : decode cX0_become 1 = .ok (.aload_n 1, 1) := by decide +kernel
theorem dX0_become_2 : decode cX0_become 2 = .ok (.getfield 19, 3) := by decide +kernel
theorem dX0_become_5 : decode cX0_become 5 = .ok (.putfield 19, 3) := by decide +kernel
theorem dX0_become_8 : decode cX0_become 8 = .ok (.aload_n 0, 1) := by decide +kernel
theorem dX0_become_9 : decode cX0_become 9 = .ok (.aload_n 1, 1) := by decide +kernel
theorem dX0_become_10 : decode cX0_become 10 = .ok (.getfield 15, 3) := by decide +kernel
theorem dX0_become_13 : decode cX0_become 13 = .ok (.putfield 15, 3) := by decide +kernel
theorem dX0_become_16 : decode cX0_become 16 = .ok (.aload_n 0, 1) := by decide +kernel
theorem dX0_become_17 : decode cX0_become 17 = .ok (.getfield 28, 3) := by decide +kernel
theorem dX0_become_20 : decode cX0_become 20 = .ok (.aload_n 1, 1) := by decide +kernel
theorem dX0_become_21 : decode cX0_become 21 = .ok (.getfield 28, 3) := by decide +kernel
theorem dX0_become_24 : decode cX0_become 24 = .ok (.invokevirtual 35, 3) := by decide +kernel
theorem dX0_become_27 : decode cX0_become 27 = .ok (.aload_n 0, 1) := by decide +kernel
theorem dX0_become_28 : decode cX0_become 28 = .ok (.getfield 32, 3) := by decide +kernel
theorem dX0_become_31 : decode cX0_become 31 = .ok (.aload_n 1, 1) := by decide +kernel
theorem dX0_become_32 : decode cX0_become 32 = .ok (.getfield 32, 3) := by decide +kernel
theorem dX0_become_35 : decode cX0_become 35 = .ok (.invokevirtual 35, 3) := by decide +kernel
theorem dX0_become_38 : decode cX0_become 38 = .ok (.aload_n 1, 1) := by decide +kernel
theorem dX0_become_39 : decode cX0_become 39 = .ok (.getfield 9, 3) := by decide +kernel
theorem dX0_become_42 : decode cX0_become 42 = .ok (.iconst 0, 1) := by decide +kernel
theorem dX0_become_43 : decode cX0_become 43 = .ok (.aload_n 0, 1) := by decide +kernel
theorem dX0_become_44 : decode cX0_become 44 = .ok (.getfield 9, 3) := by decide +kernel
theorem dX0_become_47 : decode cX0_become 47 = .ok (.iconst 0, 1) := by decide +kernel
theorem dX0_become_48 : decode cX0_become 48 = .ok (.bipush 40, 2) := by decide +kernel
theorem dX0_become_50 : decode cX0_become 50 = .ok (.invokestatic 39, 3) := by decide +kernel
theorem dX0_become_53 : decode cX0_become 53 = .ok (.return_, 1) := by decide +kernel
theorem dX0_restack_0 : decode cX0_restack 0 = .ok (.aload_n 0, 1) := by decide +kernel
theorem dX0_restack_1 : decode cX0_restack 1 = .ok (.getfield 28, 3) := by decide +kernel
theorem dX0_restack_4 : decode cX0_restack 4 = .ok (.iload_n 1, 1) := by decide +kernel
theorem dX0_restack_5 : decode cX0_restack 5 = .ok (.iload_n 2, 1) := by decide +kernel
theorem dX0_restack_6 : decode cX0_restack 6 = .ok (.aload_n 0, 1) := by decide +kernel
theorem dX0_restack_7 : decode cX0_restack 7 = .ok (.getfield 28, 3) := by decide +kernel
theorem dX0_restack_10 : decode cX0_restack 10 = .ok (.iload_n 1, 1) := by decide +kernel
theorem dX0_restack_11 : decode cX0_restack 11 = .ok (.invokevirtual 45, 3) := by decide +kernel
theorem dX0_restack_14 : decode cX0_restack 14 = .ok (.invokevirtual 49, 3) := by decide +kernel
theorem dX0_restack_17 : decode cX0_restack 17 = .ok (.aload_n 0, 1) := by decide +kernel
theorem dX0_restack_18 : decode cX0_restack 18 = .ok (.getfield 32, 3) := by decide +kernel
theorem dX0_restack_21 : decode cX0_restack 21 = .ok (.iload_n 1, 1) := by decide +kernel
theorem dX0_restack_22 : decode cX0_restack 22 = .ok (.iload_n 2, 1) := by decide +kernel
theorem dX0_restack_23 : decode cX0_restack 23 = .ok (.aload_n 0, 1) := by decide +kernel
theorem dX0_restack_24 : decode cX0_restack 24 = .ok (.getfield 32, 3) := by decide +kernel
theorem dX0_restack_27 : decode cX0_restack 27 = .ok (.iload_n 1, 1) := by decide +kernel
theorem dX0_restack_28 : decode cX0_restack 28 = .ok (.invokevirtual 45, 3) := by decide +kernel
theorem dX0_restack_31 : decode cX0_restack 31 = .ok (.invokevirtual 49, 3) := by decide +kernel
theorem dX0_restack_34 : decode cX0_restack 34 = .ok (.return_, 1) := by decide +kernel
theorem dX0_hasRoom_0 : decode cX0_hasRoom 0 = .ok (.aload_n 0, 1) := by decide +kernel
theorem dX0_hasRoom_1 : decode cX0_hasRoom 1 = .ok (.getfield 15, 3) := by decide +kernel
theorem dX0_hasRoom_4 : decode cX0_hasRoom 4 = .ok (.iload_n 1, 1) := by decide +kernel
theorem dX0_hasRoom_5 : decode cX0_hasRoom 5 = .ok (.iadd, 1) := by decide +kernel
theorem dX0_hasRoom_6 : decode cX0_hasRoom 6 = .ok (.bipush 40, 2) := by decide +kernel
theorem dX0_hasRoom_8 : decode cX0_hasRoom 8 = .ok (.if_icmp .gt 7, 3) := by decide +kernel
theorem dX0_hasRoom_11 : decode cX0_hasRoom 11 = .ok (.iconst 1, 1) := by decide +kernel
theorem dX0_hasRoom_12 : decode cX0_hasRoom 12 = .ok (.goto 4, 3) := by decide +kernel
theorem dX0_hasRoom_15 : decode cX0_hasRoom 15 = .ok (.iconst 0, 1) := by decide +kernel
theorem dX0_hasRoom_16 : decode cX0_hasRoom 16 = .ok (.ireturn, 1) := by decide +kernel
theorem dX0_act_0 : decode cX0_act 0 = .ok (.aload_n 0, 1) := by decide +kernel
theorem dX0_act_1 : decode cX0_act 1 = .ok (.getfield 15, 3) := by decide +kernel
theorem dX0_act_4 : decode cX0_act 4 = .ok (.ifCond .lt 40, 3) := by decide +kernel
theorem dX0_act_7 : decode cX0_act 7 = .ok (.aload_n 0, 1) := by decide +kernel
theorem dX0_act_8 : decode cX0_act 8 = .ok (.getfield 15, 3) := by decide +kernel
theorem dX0_act_11 : decode cX0_act 11 = .ok (.bipush 40, 2) := by decide +kernel
theorem dX0_act_13 : decode cX0_act 13 = .ok (.if_icmp .ge 31, 3) := by decide +kernel
theorem dX0_act_16 : decode cX0_act 16 = .ok (.aload_n 0, 1) := by decide +kernel
theorem dX0_act_17 : decode cX0_act 17 = .ok (.getfield 9, 3) := by decide +kernel
theorem dX0_act_20 : decode cX0_act 20 = .ok (.aload_n 0, 1) := by decide +kernel
theorem dX0_act_21 : decode cX0_act 21 = .ok (.getfield 15, 3) := by decide +kernel
theorem dX0_act_24 : decode cX0_act 24 = .ok (.iload_n 1, 1) := by decide +kernel
theorem dX0_act_25 : decode cX0_act 25 = .ok (.iastore, 1) := by decide +kernel
theorem dX0_act_26 : decode cX0_act 26 = .ok (.aload_n 0, 1) := by decide +kernel
theorem dX0_act_27 : decode cX0_act 27 = .ok (.dup, 1) := by decide +kernel
theorem dX0_act_28 : decode cX0_act 28 = .ok (.getfield 15, 3) := by decide +kernel
theorem dX0_act_31 : decode cX0_act 31 = .ok (.iconst 1, 1) := by decide +kernel
theorem dX0_act_32 : decode cX0_act 32 = .ok (.iadd, 1) := by decide +kernel
theorem dX0_act_33 : decode cX0_act 33 = .ok (.putfield 15, 3) := by decide +kernel
theorem dX0_act_36 : decode cX0_act 36 = .ok (.aload_n 0, 1) := by decide +kernel
theorem dX0_act_37 : decode cX0_act 37 = .ok (.getfield 32, 3) := by decide +kernel
theorem dX0_act_40 : decode cX0_act 40 = .ok (.iload_n 1, 1) := by decide +kernel
theorem dX0_act_41 : decode cX0_act 41 = .ok (.invokevirtual 53, 3) := by decide +kernel
theorem dX0_act_44 : decode cX0_act 44 = .ok (.return_, 1) := by decide +kernel
theorem dX0_goBack_0 : decode cX0_goBack 0 = .ok (.aload_n 0, 1) := by decide +kernel
theorem dX0_goBack_1 : decode cX0_goBack 1 = .ok (.getfield 15, 3) := by decide +kernel
theorem dX0_goBack_4 : decode cX0_goBack 4 = .ok (.iload_n 1, 1) := by decide +kernel
theorem dX0_goBack_5 : decode cX0_goBack 5 = .ok (.isub, 1) := by decide +kernel
theorem dX0_goBack_6 : decode cX0_goBack 6 = .ok (.istore_n 2, 1) := by decide +kernel
theorem dX0_goBack_7 : decode cX0_goBack 7 = .ok (.aload_n 0, 1) := by decide +kernel
theorem dX0_goBack_8 : decode cX0_goBack 8 = .ok (.iload_n 1, 1) := by decide +kernel
theorem dX0_goBack_9 : decode cX0_goBack 9 = .ok (.putfield 15, 3) := by decide +kernel
theorem dX0_goBack_12 : decode cX0_goBack 12 = .ok (.aload_n 0, 1) := by decide +kernel
theorem dX0_goBack_13 : decode cX0_goBack 13 = .ok (.getfield 32, 3) := by decide +kernel
theorem dX0_goBack_16 : decode cX0_goBack 16 = .ok (.aload_n 0, 1) := by decide +kernel
theorem dX0_goBack_17 : decode cX0_goBack 17 = .ok (.getfield 28, 3) := by decide +kernel
theorem dX0_goBack_20 : decode cX0_goBack 20 = .ok (.invokevirtual 35, 3) := by decide +kernel
theorem dX0_goBack_23 : decode cX0_goBack 23 = .ok (.iconst 0, 1) := by decide +kernel
theorem dX0_goBack_24 : decode cX0_goBack 24 = .ok (.istore_n 3, 1) := by decide +kernel
theorem dX0_goBack_25 : decode cX0_goBack 25 = .ok (.iload_n 3, 1) := by decide +kernel
theorem dX0_goBack_26 : decode cX0_goBack 26 = .ok (.iload_n 1, 1) := by decide +kernel
theorem dX0_goBack_27 : decode cX0_goBack 27 = .ok (.if_icmp .ge 28, 3) := by decide +kernel
theorem dX0_goBack_30 : decode cX0_goBack 30 = .ok (.iload_n 3, 1) := by decide +kernel
theorem dX0_goBack_31 : decode cX0_goBack 31 = .ok (.bipush 40, 2) := by decide +kernel
theorem dX0_goBack_33 : decode cX0_goBack 33 = .ok (.if_icmp .ge 22, 3) := by decide +kernel
theorem dX0_goBack_36 : decode cX0_goBack 36 = .ok (.aload_n 0, 1) := by decide +kernel
theorem dX0_goBack_37 : decode cX0_goBack 37 = .ok (.getfield 32, 3) := by decide +kernel
theorem dX0_goBack_40 : decode cX0_goBack 40 = .ok (.aload_n 0, 1) := by decide +kernel
theorem dX0_goBack_41 : decode cX0_goBack 41 = .ok (.getfield 9, 3) := by decide +kernel
theorem dX0_goBack_44 : decode cX0_goBack 44 = .ok (.iload_n 3, 1) := by decide +kernel
theorem dX0_goBack_45 : decode cX0_goBack 45 = .ok (.iaload, 1) := by decide +kernel
theorem dX0_goBack_46 : decode cX0_goBack 46 = .ok (.invokevirtual 53, 3) := by decide +kernel
theorem dX0_goBack_49 : decode cX0_goBack 49 = .ok (.iinc 3 1, 3) := by decide +kernel
theorem dX0_goBack_52 : decode cX0_goBack 52 = .ok (.goto (-27), 3) := by decide +kernel
theorem dX0_goBack_55 : decode cX0_goBack 55 = .ok (.iload_n 2, 1) := by decide +kernel
theorem dX0_goBack_56 : decode cX0_goBack 56 = .ok (.ireturn, 1) := by decide +kernel
theorem dX1_init_0 : decode cX1_init 0 = .ok (.aload_n 0, 1) := by decide +kernel
theorem dX1_init_1 : decode cX1_init 1 = .ok (.invokespecial 3, 3) := by decide +kernel
theorem dX1_init_4 : decode cX1_init 4 = .ok (.aload_n 0, 1) := by decide +kernel
theorem dX1_init_5 : decode cX1_init 5 = .ok (.iconst 5, 1) := by decide +kernel
theorem dX1_init_6 : decode cX1_init 6 = .ok (.newarray .int, 2) := by decide +kernel
theorem dX1_init_8 : decode cX1_init 8 = .ok (.putfield 9, 3) := by decide +kernel
theorem dX1_init_11 : decode cX1_init 11 = .ok (.aload_n 0, 1) := by decide +kernel
theorem dX1_init_12 : decode cX1_init 12 = .ok (.iconst 5, 1) := by decide +kernel
theorem dX1_init_13 : decode cX1_init 13 = .ok (.newarray .int, 2) := by decide +kernel
theorem dX1_init_15 : decode cX1_init 15 = .ok (.putfield 15, 3) := by decide +kernel
theorem dX1_init_18 : decode cX1_init 18 = .ok (.aload_n 0, 1) := by decide +kernel
theorem dX1_init_19 : decode cX1_init 19 = .ok (.iconst 0, 1) := by decide +kernel
theorem dX1_init_20 : decode cX1_init 20 = .ok (.putfield 18, 3) := by decide +kernel
theorem dX1_init_23 : decode cX1_init 23 = .ok (.aload_n 0, 1) := by decide +kernel
theorem dX1_init_24 : decode cX1_init 24 = .ok (.iconst 0, 1) := by decide +kernel
theorem dX1_init_25 : decode cX1_init 25 = .ok (.putfield 22, 3) := by decide +kernel
theorem dX1_init_28 : decode cX1_init 28 = .ok (.aload_n 0, 1) := by decide +kernel
theorem dX1_init_29 : decode cX1_init 29 = .ok (.iconst 0, 1) := by decide +kernel
theorem dX1_init_30 : decode cX1_init 30 = .ok (.putfield 25, 3) := by decide +kernel
theorem dX1_init_33 : decode cX1_init 33 = .ok (.aload_n 0, 1) := by decide +kernel
theorem dX1_init_34 : decode cX1_init 34 = .ok (.iconst 0, 1) := by decide +kernel
theorem dX1_init_35 : decode cX1_init 35 = .ok (.putfield 29, 3) := by decide +kernel
theorem dX1_init_38 : decode cX1_init 38 = .ok (.aload_n 0, 1) := by decide +kernel
theorem dX1_init_39 : decode cX1_init 39 = .ok (.aload_n 1, 1) := by decide +kernel
theorem dX1_init_40 : decode cX1_init 40 = .ok (.putfield 32, 3) := by decide +kernel
theorem dX1_init_43 : decode cX1_init 43 = .ok (.return_, 1) := by decide +kernel
theorem dX1_clear_0 : decode cX1_clear 0 = .ok (.aload_n 0, 1) := by decide +kernel
theorem dX1_clear_1 : decode cX1_clear 1 = .ok (.iconst 0, 1) := by decide +kernel
theorem dX1_clear_2 : decode cX1_clear 2 = .ok (.putfield 18, 3) := by decide +kernel
theorem dX1_clear_5 : decode cX1_clear 5 = .ok (.aload_n 0, 1) := by decide +kernel
theorem dX1_clear_6 : decode cX1_clear 6 = .ok (.iconst 0, 1) := by decide +kernel
theorem dX1_clear_7 : decode cX1_clear 7 = .ok (.putfield 22, 3) := by decide +kernel
theorem dX1_clear_10 : decode cX1_clear 10 = .ok (.aload_n 0, 1) := by decide +kernel
theorem dX1_clear_11 : decode cX1_clear 11 = .ok (.iconst 0, 1) := by decide +kernel
theorem dX1_clear_12 : decode cX1_clear 12 = .ok (.putfield 25, 3) := by decide +kernel
theorem dX1_clear_15 : decode cX1_clear 15 = .ok (.aload_n 0, 1) := by decide +kernel
theorem dX1_clear_16 : decode cX1_clear 16 = .ok (.iconst 0, 1) := by decide +kernel
theorem dX1_clear_17 : decode cX1_clear 17 = .ok (.putfield 29, 3) := by decide +kernel
theorem dX1_clear_20 : decode cX1_clear 20 = .ok (.return_, 1) := by decide +kernel
theorem dX1_become_0 : decode cX1_become 0 = .ok (.iconst 0, 1) := by decide +kernel
theorem dX1_become_1 : decode cX1_become 1 = .ok (.istore_n 2, 1) := by decide +kernel
theorem dX1_become_2 : decode cX1_become 2 = .ok (.iload_n 2, 1) := by decide +kernel
theorem dX1_become_3 : decode cX1_become 3 = .ok (.iconst 5, 1) := by decide +kernel
theorem dX1_become_4 : decode cX1_become 4 = .ok (.if_icmp .ge 33, 3) := by decide +kernel
theorem dX1_become_7 : decode cX1_become 7 = .ok (.aload_n 0, 1) := by decide +kernel
theorem dX1_become_8 : decode cX1_become 8 = .ok (.getfield 9, 3) := by decide +kernel
theorem dX1_become_11 : decode cX1_become 11 = .ok (.iload_n 2, 1) := by decide +kernel
theorem dX1_become_12 : decode cX1_become 12 = .ok (.aload_n 1, 1) := by decide +kernel
theorem dX1_become_13 : decode cX1_become 13 = .ok (.getfield 9, 3) := by decide +kernel
theorem dX1_become_16 : decode cX1_become 16 = .ok (.iload_n 2, 1) := by decide +kernel
theorem dX1_become_17 : decode cX1_become 17 = .ok (.iaload, 1) := by decide +kernel
theorem dX1_become_18 : decode cX1_become 18 = .ok (.iastore, 1) := by decide +kernel
theorem dX1_become_19 : decode cX1_become 19 = .ok (.aload_n 0, 1) := by decide +kernel
theorem dX1_become_20 : decode cX1_become 20 = .ok (.getfield 15, 3) := by decide +kernel
theorem dX1_become_23 : decode cX1_become 23 = .ok (.iload_n 2, 1) := by decide +kernel
theorem dX1_become_24 : decode cX1_become 24 = .ok (.aload_n 1, 1) := by decide +kernel
theorem dX1_become_25 : decode cX1_become 25 = .ok (.getfield 15, 3) := by decide +kernel
theorem dX1_become_28 : decode cX1_become 28 = .ok (.iload_n 2, 1) := by decide +kernel
theorem dX1_become_29 : decode cX1_become 29 = .ok (.iaload, 1) := by decide +kernel
theorem dX1_become_30 : decode cX1_become 30 = .ok (.iastore, 1) := by decide +kernel
theorem dX1_become_31 : decode cX1_become 31 = .ok (.iinc 2 1, 3) := by decide +kernel
theorem dX1_become_34 : decode cX1_become 34 = .ok (.goto (-32), 3) := by decide +kernel
theorem dX1_become_37 : decode cX1_become 37 = .ok (.aload_n 0, 1) := by decide +kernel
theorem dX1_become_38 : decode cX1_become 38 = .ok (.aload_n 1, 1) := by decide +kernel
theorem dX1_become_39 : decode cX1_become 39 = .ok (.getfield 18, 3) := by decide +kernel
theorem dX1_become_42 : decode cX1_become 42 = .ok (.putfield 18, 3) := by decide +kernel
theorem dX1_become_45 : decode cX1_become 45 = .ok (.aload_n 0, 1) := by decide +kernel
theorem dX1_become_46 : decode cX1_become 46 = .ok (.aload_n 1, 1) := by decide +kernel
theorem dX1_become_47 : decode cX1_become 47 = .ok (.getfield 22, 3) := by decide +kernel
theorem dX1_become_50 : decode cX1_become 50 = .ok (.putfield 22, 3) := by decide +kernel
theorem dX1_become_53 : decode cX1_become 53 = .ok (.aload_n 0, 1) := by decide +kernel
theorem dX1_become_54 : decode cX1_become 54 = .ok (.aload_n 1, 1) := by decide +kernel
theorem dX1_become_55 : decode cX1_become 55 = .ok (.getfield 25, 3) := by decide +kernel
theorem dX1_become_58 : decode cX1_become 58 = .ok (.putfield 25, 3) := by decide +kernel
theorem dX1_become_61 : decode cX1_become 61 = .ok (.aload_n 0, 1) := by decide +kernel
theorem dX1_become_62 : decode cX1_become 62 = .ok (.aload_n 1, 1) := by decide +kernel
theorem dX1_become_63 : decode cX1_become 63 = .ok (.getfield 29, 3) := by decide +kernel
theorem dX1_become_66 : decode cX1_become 66 = .ok (.putfield 29, 3) := by decide +kernel
theorem dX1_become_69 : decode cX1_become 69 = .ok (.return_, 1) := by decide +kernel
theorem dX1_furnish_0 : decode cX1_furnish 0 = .ok (.iload_n 1, 1) := by decide +kernel
theorem dX1_furnish_1 : decode cX1_furnish 1 = .ok (.ifCond .lt 22, 3) := by decide +kernel
theorem dX1_furnish_4 : decode cX1_furnish 4 = .ok (.iload_n 1, 1) := by decide +kernel
theorem dX1_furnish_5 : decode cX1_furnish 5 = .ok (.iconst 5, 1) := by decide +kernel
theorem dX1_furnish_6 : decode cX1_furnish 6 = .ok (.if_icmp .ge 17, 3) := by decide +kernel
theorem dX1_furnish_9 : decode cX1_furnish 9 = .ok (.aload_n 0, 1) := by decide +kernel
theorem dX1_furnish_10 : decode cX1_furnish 10 = .ok (.getfield 9, 3) := by decide +kernel
theorem dX1_furnish_13 : decode cX1_furnish 13 = .ok (.iload_n 1, 1) := by decide +kernel
theorem dX1_furnish_14 : decode cX1_furnish 14 = .ok (.iload_n 2, 1) := by decide +kernel
theorem dX1_furnish_15 : decode cX1_furnish 15 = .ok (.iastore, 1) := by decide +kernel
theorem dX1_furnish_16 : decode cX1_furnish 16 = .ok (.aload_n 0, 1) := by decide +kernel
theorem dX1_furnish_17 : decode cX1_furnish 17 = .ok (.getfield 15, 3) := by decide +kernel
theorem dX1_furnish_20 : decode cX1_furnish 20 = .ok (.iload_n 1, 1) := by decide +kernel
theorem dX1_furnish_21 : decode cX1_furnish 21 = .ok (.iload_n 3, 1) := by decide +kernel
theorem dX1_furnish_22 : decode cX1_furnish 22 = .ok (.iastore, 1) := by decide +kernel
theorem dX1_furnish_23 : decode cX1_furnish 23 = .ok (.return_, 1) := by decide +kernel
theorem dX1_woodOf_0 : decode cX1_woodOf 0 = .ok (.aload_n 0, 1) := by decide +kernel
theorem dX1_woodOf_1 : decode cX1_woodOf 1 = .ok (.getfield 32, 3) := by decide +kernel
theorem dX1_woodOf_4 : decode cX1_woodOf 4 = .ok (.iload_n 1, 1) := by decide +kernel
theorem dX1_woodOf_5 : decode cX1_woodOf 5 = .ok (.invokevirtual 36, 3) := by decide +kernel
theorem dX1_woodOf_8 : decode cX1_woodOf 8 = .ok (.ifCond .eq 12, 3) := by decide +kernel
theorem dX1_woodOf_11 : decode cX1_woodOf 11 = .ok (.aload_n 0, 1) := by decide +kernel
theorem dX1_woodOf_12 : decode cX1_woodOf 12 = .ok (.getfield 9, 3) := by decide +kernel
theorem dX1_woodOf_15 : decode cX1_woodOf 15 = .ok (.iload_n 1, 1) := by decide +kernel
theorem dX1_woodOf_16 : decode cX1_woodOf 16 = .ok (.iaload, 1) := by decide +kernel
theorem dX1_woodOf_17 : decode cX1_woodOf 17 = .ok (.goto 4, 3) := by decide +kernel
theorem dX1_woodOf_20 : decode cX1_woodOf 20 = .ok (.iconst 0, 1) := by decide +kernel
theorem dX1_woodOf_21 : decode cX1_woodOf 21 = .ok (.ireturn, 1) := by decide +kernel
theorem dX1_wetOf_0 : decode cX1_wetOf 0 = .ok (.aload_n 0, 1) := by decide +kernel
theorem dX1_wetOf_1 : decode cX1_wetOf 1 = .ok (.getfield 32, 3) := by decide +kernel
theorem dX1_wetOf_4 : decode cX1_wetOf 4 = .ok (.iload_n 1, 1) := by decide +kernel
theorem dX1_wetOf_5 : decode cX1_wetOf 5 = .ok (.invokevirtual 36, 3) := by decide +kernel
theorem dX1_wetOf_8 : decode cX1_wetOf 8 = .ok (.ifCond .eq 12, 3) := by decide +kernel
theorem dX1_wetOf_11 : decode cX1_wetOf 11 = .ok (.aload_n 0, 1) := by decide +kernel
theorem dX1_wetOf_12 : decode cX1_wetOf 12 = .ok (.getfield 15, 3) := by decide +kernel
theorem dX1_wetOf_15 : decode cX1_wetOf 15 = .ok (.iload_n 1, 1) := by decide +kernel
theorem dX1_wetOf_16 : decode cX1_wetOf 16 = .ok (.iaload, 1) := by decide +kernel
theorem dX1_wetOf_17 : decode cX1_wetOf 17 = .ok (.goto 4, 3) := by decide +kernel
theorem dX1_wetOf_20 : decode cX1_wetOf 20 = .ok (.iconst 0, 1) := by decide +kernel
theorem dX1_wetOf_21 : decode cX1_wetOf 21 = .ok (.ireturn, 1) := by decide +kernel
theorem dX1_allWood_0 : decode cX1_allWood 0 = .ok (.iconst 0, 1) := by decide +kernel
theorem dX1_allWood_1 : decode cX1_allWood 1 = .ok (.istore_n 1, 1) := by decide +kernel
theorem dX1_allWood_2 : decode cX1_allWood 2 = .ok (.iconst 0, 1) := by decide +kernel
theorem dX1_allWood_3 : decode cX1_allWood 3 = .ok (.istore_n 2, 1) := by decide +kernel
theorem dX1_allWood_4 : decode cX1_allWood 4 = .ok (.iload_n 2, 1) := by decide +kernel
theorem dX1_allWood_5 : decode cX1_allWood 5 = .ok (.aload_n 0, 1) := by decide +kernel
theorem dX1_allWood_6 : decode cX1_allWood 6 = .ok (.getfield 32, 3) := by decide +kernel
theorem dX1_allWood_9 : decode cX1_allWood 9 = .ok (.getfield 42, 3) := by decide +kernel
theorem dX1_allWood_12 : decode cX1_allWood 12 = .ok (.if_icmp .ge 18, 3) := by decide +kernel
theorem dX1_allWood_15 : decode cX1_allWood 15 = .ok (.iload_n 1, 1) := by decide +kernel
theorem dX1_allWood_16 : decode cX1_allWood 16 = .ok (.aload_n 0, 1) := by decide +kernel
theorem dX1_allWood_17 : decode cX1_allWood 17 = .ok (.getfield 9, 3) := by decide +kernel
theorem dX1_allWood_20 : decode cX1_allWood 20 = .ok (.iload_n 2, 1) := by decide +kernel
theorem dX1_allWood_21 : decode cX1_allWood 21 = .ok (.iaload, 1) := by decide +kernel
theorem dX1_allWood_22 : decode cX1_allWood 22 = .ok (.iadd, 1) := by decide +kernel
theorem dX1_allWood_23 : decode cX1_allWood 23 = .ok (.istore_n 1, 1) := by decide +kernel
theorem dX1_allWood_24 : decode cX1_allWood 24 = .ok (.iinc 2 1, 3) := by decide +kernel
theorem dX1_allWood_27 : decode cX1_allWood 27 = .ok (.goto (-23), 3) := by decide +kernel
theorem dX1_allWood_30 : decode cX1_allWood 30 = .ok (.iload_n 1, 1) := by decide +kernel
theorem dX1_allWood_31 : decode cX1_allWood 31 = .ok (.ireturn, 1) := by decide +kernel
theorem dX1_burns_0 : decode cX1_burns 0 = .ok (.aload_n 0, 1) := by decide +kernel
theorem dX1_burns_1 : decode cX1_burns 1 = .ok (.getfield 32, 3) := by decide +kernel
theorem dX1_burns_4 : decode cX1_burns 4 = .ok (.iload_n 1, 1) := by decide +kernel
theorem dX1_burns_5 : decode cX1_burns 5 = .ok (.invokevirtual 36, 3) := by decide +kernel
theorem dX1_burns_8 : decode cX1_burns 8 = .ok (.ifCond .eq 18, 3) := by decide +kernel
theorem dX1_burns_11 : decode cX1_burns 11 = .ok (.aload_n 0, 1) := by decide +kernel
theorem dX1_burns_12 : decode cX1_burns 12 = .ok (.getfield 18, 3) := by decide +kernel
theorem dX1_burns_15 : decode cX1_burns 15 = .ok (.iload_n 1, 1) := by decide +kernel
theorem dX1_burns_16 : decode cX1_burns 16 = .ok (.ishr, 1) := by decide +kernel
theorem dX1_burns_17 : decode cX1_burns 17 = .ok (.iconst 1, 1) := by decide +kernel
theorem dX1_burns_18 : decode cX1_burns 18 = .ok (.iand, 1) := by decide +kernel
theorem dX1_burns_19 : decode cX1_burns 19 = .ok (.ifCond .eq 7, 3) := by decide +kernel
theorem dX1_burns_22 : decode cX1_burns 22 = .ok (.iconst 1, 1) := by decide +kernel
theorem dX1_burns_23 : decode cX1_burns 23 = .ok (.goto 4, 3) := by decide +kernel
theorem dX1_burns_26 : decode cX1_burns 26 = .ok (.iconst 0, 1) := by decide +kernel
theorem dX1_burns_27 : decode cX1_burns 27 = .ok (.ireturn, 1) := by decide +kernel
theorem dX1_catches_0 : decode cX1_catches 0 = .ok (.aload_n 0, 1) := by decide +kernel
theorem dX1_catches_1 : decode cX1_catches 1 = .ok (.getfield 32, 3) := by decide +kernel
theorem dX1_catches_4 : decode cX1_catches 4 = .ok (.iload_n 1, 1) := by decide +kernel
theorem dX1_catches_5 : decode cX1_catches 5 = .ok (.invokevirtual 36, 3) := by decide +kernel
theorem dX1_catches_8 : decode cX1_catches 8 = .ok (.ifCond .eq 37, 3) := by decide +kernel
theorem dX1_catches_11 : decode cX1_catches 11 = .ok (.aload_n 0, 1) := by decide +kernel
theorem dX1_catches_12 : decode cX1_catches 12 = .ok (.getfield 9, 3) := by decide +kernel
theorem dX1_catches_15 : decode cX1_catches 15 = .ok (.iload_n 1, 1) := by decide +kernel
theorem dX1_catches_16 : decode cX1_catches 16 = .ok (.iaload, 1) := by decide +kernel
theorem dX1_catches_17 : decode cX1_catches 17 = .ok (.ifCond .le 28, 3) := by decide +kernel
theorem dX1_catches_20 : decode cX1_catches 20 = .ok (.aload_n 0, 1) := by decide +kernel
theorem dX1_catches_21 : decode cX1_catches 21 = .ok (.getfield 15, 3) := by decide +kernel
theorem dX1_catches_24 : decode cX1_catches 24 = .ok (.iload_n 1, 1) := by decide +kernel
theorem dX1_catches_25 : decode cX1_catches 25 = .ok (.iaload, 1) := by decide +kernel
theorem dX1_catches_26 : decode cX1_catches 26 = .ok (.aload_n 0, 1) := by decide +kernel
theorem dX1_catches_27 : decode cX1_catches 27 = .ok (.getfield 32, 3) := by decide +kernel
theorem dX1_catches_30 : decode cX1_catches 30 = .ok (.getfield 45, 3) := by decide +kernel
theorem dX1_catches_33 : decode cX1_catches 33 = .ok (.iload_n 1, 1) := by decide +kernel
theorem dX1_catches_34 : decode cX1_catches 34 = .ok (.iaload, 1) := by decide +kernel
theorem dX1_catches_35 : decode cX1_catches 35 = .ok (.invokestatic 48, 3) := by decide +kernel
theorem dX1_catches_38 : decode cX1_catches 38 = .ok (.if_icmp .gt 7, 3) := by decide +kernel
theorem dX1_catches_41 : decode cX1_catches 41 = .ok (.iconst 1, 1) := by decide +kernel
theorem dX1_catches_42 : decode cX1_catches 42 = .ok (.goto 4, 3) := by decide +kernel
theorem dX1_catches_45 : decode cX1_catches 45 = .ok (.iconst 0, 1) := by decide +kernel
theorem dX1_catches_46 : decode cX1_catches 46 = .ok (.ireturn, 1) := by decide +kernel
theorem dX1_catching_0 : decode cX1_catching 0 = .ok (.iconst 0, 1) := by decide +kernel
theorem dX1_catching_1 : decode cX1_catching 1 = .ok (.istore_n 1, 1) := by decide +kernel
theorem dX1_catching_2 : decode cX1_catching 2 = .ok (.iconst 0, 1) := by decide +kernel
theorem dX1_catching_3 : decode cX1_catching 3 = .ok (.istore_n 2, 1) := by decide +kernel
theorem dX1_catching_4 : decode cX1_catching 4 = .ok (.iload_n 2, 1) := by decide +kernel
theorem dX1_catching_5 : decode cX1_catching 5 = .ok (.aload_n 0, 1) := by decide +kernel
theorem dX1_catching_6 : decode cX1_catching 6 = .ok (.getfield 32, 3) := by decide +kernel
theorem dX1_catching_9 : decode cX1_catching 9 = .ok (.getfield 42, 3) := by decide +kernel
theorem dX1_catching_12 : decode cX1_catching 12 = .ok (.if_icmp .ge 27, 3) := by decide +kernel
theorem dX1_catching_15 : decode cX1_catching 15 = .ok (.iload_n 1, 1) := by decide +kernel
theorem dX1_catching_16 : decode cX1_catching 16 = .ok (.aload_n 0, 1) := by decide +kernel
theorem dX1_catching_17 : decode cX1_catching 17 = .ok (.iload_n 2, 1) := by decide +kernel
theorem dX1_catching_18 : decode cX1_catching 18 = .ok (.invokevirtual 54, 3) := by decide +kernel
theorem dX1_catching_21 : decode cX1_catching 21 = .ok (.ifCond .eq 9, 3) := by decide +kernel
theorem dX1_catching_24 : decode cX1_catching 24 = .ok (.iconst 1, 1) := by decide +kernel
theorem dX1_catching_25 : decode cX1_catching 25 = .ok (.iload_n 2, 1) := by decide +kernel
theorem dX1_catching_26 : decode cX1_catching 26 = .ok (.ishl, 1) := by decide +kernel
theorem dX1_catching_27 : decode cX1_catching 27 = .ok (.goto 4, 3) := by decide +kernel
theorem dX1_catching_30 : decode cX1_catching 30 = .ok (.iconst 0, 1) := by decide +kernel
theorem dX1_catching_31 : decode cX1_catching 31 = .ok (.ior, 1) := by decide +kernel
theorem dX1_catching_32 : decode cX1_catching 32 = .ok (.istore_n 1, 1) := by decide +kernel
theorem dX1_catching_33 : decode cX1_catching 33 = .ok (.iinc 2 1, 3) := by decide +kernel
theorem dX1_catching_36 : decode cX1_catching 36 = .ok (.goto (-32), 3) := by decide +kernel
theorem dX1_catching_39 : decode cX1_catching 39 = .ok (.iload_n 1, 1) := by decide +kernel
theorem dX1_catching_40 : decode cX1_catching 40 = .ok (.ireturn, 1) := by decide +kernel
theorem dX1_alight_0 : decode cX1_alight 0 = .ok (.aload_n 0, 1) := by decide +kernel
theorem dX1_alight_1 : decode cX1_alight 1 = .ok (.getfield 18, 3) := by decide +kernel
theorem dX1_alight_4 : decode cX1_alight 4 = .ok (.invokestatic 57, 3) := by decide +kernel
theorem dX1_alight_7 : decode cX1_alight 7 = .ok (.ireturn, 1) := by decide +kernel
theorem dX1_canStrike_0 : decode cX1_canStrike 0 = .ok (.aload_n 0, 1) := by decide +kernel
theorem dX1_canStrike_1 : decode cX1_canStrike 1 = .ok (.getfield 25, 3) := by decide +kernel
theorem dX1_canStrike_4 : decode cX1_canStrike 4 = .ok (.ifCond .ne 15, 3) := by decide +kernel
theorem dX1_canStrike_7 : decode cX1_canStrike 7 = .ok (.aload_n 0, 1) := by decide +kernel
theorem dX1_canStrike_8 : decode cX1_canStrike 8 = .ok (.iload_n 1, 1) := by decide +kernel
theorem dX1_canStrike_9 : decode cX1_canStrike 9 = .ok (.invokevirtual 54, 3) := by decide +kernel
theorem dX1_canStrike_12 : decode cX1_canStrike 12 = .ok (.ifCond .eq 7, 3) := by decide +kernel
theorem dX1_canStrike_15 : decode cX1_canStrike 15 = .ok (.iconst 1, 1) := by decide +kernel
theorem dX1_canStrike_16 : decode cX1_canStrike 16 = .ok (.goto 4, 3) := by decide +kernel
theorem dX1_canStrike_19 : decode cX1_canStrike 19 = .ok (.iconst 0, 1) := by decide +kernel
theorem dX1_canStrike_20 : decode cX1_canStrike 20 = .ok (.ireturn, 1) := by decide +kernel
theorem dX1_canCarry_0 : decode cX1_canCarry 0 = .ok (.aload_n 0, 1) := by decide +kernel
theorem dX1_canCarry_1 : decode cX1_canCarry 1 = .ok (.getfield 29, 3) := by decide +kernel
theorem dX1_canCarry_4 : decode cX1_canCarry 4 = .ok (.ifCond .ne 64, 3) := by decide +kernel
theorem dX1_canCarry_7 : decode cX1_canCarry 7 = .ok (.aload_n 0, 1) := by decide +kernel
theorem dX1_canCarry_8 : decode cX1_canCarry 8 = .ok (.iload_n 1, 1) := by decide +kernel
theorem dX1_canCarry_9 : decode cX1_canCarry 9 = .ok (.invokevirtual 62, 3) := by decide +kernel
theorem dX1_canCarry_12 : decode cX1_canCarry 12 = .ok (.ifCond .eq 56, 3) := by decide +kernel
theorem dX1_canCarry_15 : decode cX1_canCarry 15 = .ok (.aload_n 0, 1) := by decide +kernel
theorem dX1_canCarry_16 : decode cX1_canCarry 16 = .ok (.getfield 32, 3) := by decide +kernel
theorem dX1_canCarry_19 : decode cX1_canCarry 19 = .ok (.iload_n 2, 1) := by decide +kernel
theorem dX1_canCarry_20 : decode cX1_canCarry 20 = .ok (.invokevirtual 36, 3) := by decide +kernel
theorem dX1_canCarry_23 : decode cX1_canCarry 23 = .ok (.ifCond .eq 45, 3) := by decide +kernel
theorem dX1_canCarry_26 : decode cX1_canCarry 26 = .ok (.aload_n 0, 1) := by decide +kernel
theorem dX1_canCarry_27 : decode cX1_canCarry 27 = .ok (.iload_n 2, 1) := by decide +kernel
theorem dX1_canCarry_28 : decode cX1_canCarry 28 = .ok (.invokevirtual 62, 3) := by decide +kernel
theorem dX1_canCarry_31 : decode cX1_canCarry 31 = .ok (.ifCond .ne 37, 3) := by decide +kernel
theorem dX1_canCarry_34 : decode cX1_canCarry 34 = .ok (.iload_n 1, 1) := by decide +kernel
theorem dX1_canCarry_35 : decode cX1_canCarry 35 = .ok (.iload_n 2, 1) := by decide +kernel
theorem dX1_canCarry_36 : decode cX1_canCarry 36 = .ok (.isub, 1) := by decide +kernel
theorem dX1_canCarry_37 : decode cX1_canCarry 37 = .ok (.invokestatic 65, 3) := by decide +kernel
theorem dX1_canCarry_40 : decode cX1_canCarry 40 = .ok (.iconst 3, 1) := by decide +kernel
theorem dX1_canCarry_41 : decode cX1_canCarry 41 = .ok (.aload_n 0, 1) := by decide +kernel
theorem dX1_canCarry_42 : decode cX1_canCarry 42 = .ok (.getfield 32, 3) := by decide +kernel
theorem dX1_canCarry_45 : decode cX1_canCarry 45 = .ok (.aload_n 0, 1) := by decide +kernel
theorem dX1_canCarry_46 : decode cX1_canCarry 46 = .ok (.getfield 22, 3) := by decide +kernel
theorem dX1_canCarry_49 : decode cX1_canCarry 49 = .ok (.invokevirtual 70, 3) := by decide +kernel
theorem dX1_canCarry_52 : decode cX1_canCarry 52 = .ok (.isub, 1) := by decide +kernel
theorem dX1_canCarry_53 : decode cX1_canCarry 53 = .ok (.if_icmp .gt 15, 3) := by decide +kernel
theorem dX1_canCarry_56 : decode cX1_canCarry 56 = .ok (.aload_n 0, 1) := by decide +kernel
theorem dX1_canCarry_57 : decode cX1_canCarry 57 = .ok (.iload_n 2, 1) := by decide +kernel
theorem dX1_canCarry_58 : decode cX1_canCarry 58 = .ok (.invokevirtual 54, 3) := by decide +kernel
theorem dX1_canCarry_61 : decode cX1_canCarry 61 = .ok (.ifCond .eq 7, 3) := by decide +kernel
theorem dX1_canCarry_64 : decode cX1_canCarry 64 = .ok (.iconst 1, 1) := by decide +kernel
theorem dX1_canCarry_65 : decode cX1_canCarry 65 = .ok (.goto 4, 3) := by decide +kernel
theorem dX1_canCarry_68 : decode cX1_canCarry 68 = .ok (.iconst 0, 1) := by decide +kernel
theorem dX1_canCarry_69 : decode cX1_canCarry 69 = .ok (.ireturn, 1) := by decide +kernel
theorem dX1_canMove_0 : decode cX1_canMove 0 = .ok (.iload_n 1, 1) := by decide +kernel
theorem dX1_canMove_1 : decode cX1_canMove 1 = .ok (.ifCond .lt 28, 3) := by decide +kernel
theorem dX1_canMove_4 : decode cX1_canMove 4 = .ok (.iload_n 1, 1) := by decide +kernel
theorem dX1_canMove_5 : decode cX1_canMove 5 = .ok (.bipush 36, 2) := by decide +kernel
theorem dX1_canMove_7 : decode cX1_canMove 7 = .ok (.if_icmp .ge 22, 3) := by decide +kernel
theorem dX1_canMove_10 : decode cX1_canMove 10 = .ok (.aload_n 0, 1) := by decide +kernel
theorem dX1_canMove_11 : decode cX1_canMove 11 = .ok (.iload_n 1, 1) := by decide +kernel
theorem dX1_canMove_12 : decode cX1_canMove 12 = .ok (.bipush 6, 2) := by decide +kernel
theorem dX1_canMove_14 : decode cX1_canMove 14 = .ok (.idiv, 1) := by decide +kernel
theorem dX1_canMove_15 : decode cX1_canMove 15 = .ok (.iload_n 1, 1) := by decide +kernel
theorem dX1_canMove_16 : decode cX1_canMove 16 = .ok (.bipush 6, 2) := by decide +kernel
theorem dX1_canMove_18 : decode cX1_canMove 18 = .ok (.irem, 1) := by decide +kernel
theorem dX1_canMove_19 : decode cX1_canMove 19 = .ok (.invokevirtual 73, 3) := by decide +kernel
theorem dX1_canMove_22 : decode cX1_canMove 22 = .ok (.ifCond .eq 7, 3) := by decide +kernel
theorem dX1_canMove_25 : decode cX1_canMove 25 = .ok (.iconst 1, 1) := by decide +kernel
theorem dX1_canMove_26 : decode cX1_canMove 26 = .ok (.goto 4, 3) := by decide +kernel
theorem dX1_canMove_29 : decode cX1_canMove 29 = .ok (.iconst 0, 1) := by decide +kernel
theorem dX1_canMove_30 : decode cX1_canMove 30 = .ok (.ireturn, 1) := by decide +kernel
theorem dX1_reachable_0 : decode cX1_reachable 0 = .ok (.iconst 0, 1) := by decide +kernel
theorem dX1_reachable_1 : decode cX1_reachable 1 = .ok (.istore_n 1, 1) := by decide +kernel
theorem dX1_reachable_2 : decode cX1_reachable 2 = .ok (.iconst 0, 1) := by decide +kernel
theorem dX1_reachable_3 : decode cX1_reachable 3 = .ok (.istore_n 2, 1) := by decide +kernel
theorem dX1_reachable_4 : decode cX1_reachable 4 = .ok (.iload_n 2, 1) := by decide +kernel
theorem dX1_reachable_5 : decode cX1_reachable 5 = .ok (.bipush 36, 2) := by decide +kernel
theorem dX1_reachable_7 : decode cX1_reachable 7 = .ok (.if_icmp .ge 30, 3) := by decide +kernel
theorem dX1_reachable_10 : decode cX1_reachable 10 = .ok (.iload_n 1, 1) := by decide +kernel
theorem dX1_reachable_11 : decode cX1_reachable 11 = .ok (.aload_n 0, 1) := by decide +kernel
theorem dX1_reachable_12 : decode cX1_reachable 12 = .ok (.iload_n 2, 1) := by decide +kernel
theorem dX1_reachable_13 : decode cX1_reachable 13 = .ok (.invokevirtual 77, 3) := by decide +kernel
theorem dX1_reachable_16 : decode cX1_reachable 16 = .ok (.ifCond .eq 12, 3) := by decide +kernel
theorem dX1_reachable_19 : decode cX1_reachable 19 = .ok (.iconst 1, 1) := by decide +kernel
theorem dX1_reachable_20 : decode cX1_reachable 20 = .ok (.iload_n 2, 1) := by decide +kernel
theorem dX1_reachable_21 : decode cX1_reachable 21 = .ok (.bipush 6, 2) := by decide +kernel
theorem dX1_reachable_23 : decode cX1_reachable 23 = .ok (.irem, 1) := by decide +kernel
theorem dX1_reachable_24 : decode cX1_reachable 24 = .ok (.ishl, 1) := by decide +kernel
theorem dX1_reachable_25 : decode cX1_reachable 25 = .ok (.goto 4, 3) := by decide +kernel
theorem dX1_reachable_28 : decode cX1_reachable 28 = .ok (.iconst 0, 1) := by decide +kernel
theorem dX1_reachable_29 : decode cX1_reachable 29 = .ok (.ior, 1) := by decide +kernel
theorem dX1_reachable_30 : decode cX1_reachable 30 = .ok (.istore_n 1, 1) := by decide +kernel
theorem dX1_reachable_31 : decode cX1_reachable 31 = .ok (.iinc 2 1, 3) := by decide +kernel
theorem dX1_reachable_34 : decode cX1_reachable 34 = .ok (.goto (-30), 3) := by decide +kernel
theorem dX1_reachable_37 : decode cX1_reachable 37 = .ok (.iload_n 1, 1) := by decide +kernel
theorem dX1_reachable_38 : decode cX1_reachable 38 = .ok (.ireturn, 1) := by decide +kernel
theorem dX1_light_0 : decode cX1_light 0 = .ok (.aload_n 0, 1) := by decide +kernel
theorem dX1_light_1 : decode cX1_light 1 = .ok (.iconst 1, 1) := by decide +kernel
theorem dX1_light_2 : decode cX1_light 2 = .ok (.putfield 25, 3) := by decide +kernel
theorem dX1_light_5 : decode cX1_light 5 = .ok (.aload_n 0, 1) := by decide +kernel
theorem dX1_light_6 : decode cX1_light 6 = .ok (.dup, 1) := by decide +kernel
theorem dX1_light_7 : decode cX1_light 7 = .ok (.getfield 18, 3) := by decide +kernel
theorem dX1_light_10 : decode cX1_light 10 = .ok (.iconst 1, 1) := by decide +kernel
theorem dX1_light_11 : decode cX1_light 11 = .ok (.iload_n 1, 1) := by decide +kernel
theorem dX1_light_12 : decode cX1_light 12 = .ok (.ishl, 1) := by decide +kernel
theorem dX1_light_13 : decode cX1_light 13 = .ok (.ior, 1) := by decide +kernel
theorem dX1_light_14 : decode cX1_light 14 = .ok (.putfield 18, 3) := by decide +kernel
theorem dX1_light_17 : decode cX1_light 17 = .ok (.return_, 1) := by decide +kernel
theorem dX1_bring_0 : decode cX1_bring 0 = .ok (.iload_n 1, 1) := by decide +kernel
theorem dX1_bring_1 : decode cX1_bring 1 = .ok (.bipush 36, 2) := by decide +kernel
theorem dX1_bring_3 : decode cX1_bring 3 = .ok (.if_icmp .eq 23, 3) := by decide +kernel
theorem dX1_bring_6 : decode cX1_bring 6 = .ok (.aload_n 0, 1) := by decide +kernel
theorem dX1_bring_7 : decode cX1_bring 7 = .ok (.iconst 1, 1) := by decide +kernel
theorem dX1_bring_8 : decode cX1_bring 8 = .ok (.putfield 29, 3) := by decide +kernel
theorem dX1_bring_11 : decode cX1_bring 11 = .ok (.aload_n 0, 1) := by decide +kernel
theorem dX1_bring_12 : decode cX1_bring 12 = .ok (.dup, 1) := by decide +kernel
theorem dX1_bring_13 : decode cX1_bring 13 = .ok (.getfield 18, 3) := by decide +kernel
theorem dX1_bring_16 : decode cX1_bring 16 = .ok (.iconst 1, 1) := by decide +kernel
theorem dX1_bring_17 : decode cX1_bring 17 = .ok (.iload_n 1, 1) := by decide +kernel
theorem dX1_bring_18 : decode cX1_bring 18 = .ok (.bipush 6, 2) := by decide +kernel
theorem dX1_bring_20 : decode cX1_bring 20 = .ok (.irem, 1) := by decide +kernel
theorem dX1_bring_21 : decode cX1_bring 21 = .ok (.ishl, 1) := by decide +kernel
theorem dX1_bring_22 : decode cX1_bring 22 = .ok (.ior, 1) := by decide +kernel
theorem dX1_bring_23 : decode cX1_bring 23 = .ok (.putfield 18, 3) := by decide +kernel
theorem dX1_bring_26 : decode cX1_bring 26 = .ok (.return_, 1) := by decide +kernel
theorem dX1_pass_0 : decode cX1_pass 0 = .ok (.aload_n 0, 1) := by decide +kernel
theorem dX1_pass_1 : decode cX1_pass 1 = .ok (.getfield 18, 3) := by decide +kernel
theorem dX1_pass_4 : decode cX1_pass 4 = .ok (.istore_n 1, 1) := by decide +kernel
theorem dX1_pass_5 : decode cX1_pass 5 = .ok (.iconst 0, 1) := by decide +kernel
theorem dX1_pass_6 : decode cX1_pass 6 = .ok (.istore_n 2, 1) := by decide +kernel
theorem dX1_pass_7 : decode cX1_pass 7 = .ok (.iload_n 2, 1) := by decide +kernel
theorem dX1_pass_8 : decode cX1_pass 8 = .ok (.aload_n 0, 1) := by decide +kernel
theorem dX1_pass_9 : decode cX1_pass 9 = .ok (.getfield 32, 3) := by decide +kernel
theorem dX1_pass_12 : decode cX1_pass 12 = .ok (.getfield 42, 3) := by decide +kernel
theorem dX1_pass_15 : decode cX1_pass 15 = .ok (.if_icmp .ge 52, 3) := by decide +kernel
theorem dX1_pass_18 : decode cX1_pass 18 = .ok (.iload_n 1, 1) := by decide +kernel
theorem dX1_pass_19 : decode cX1_pass 19 = .ok (.iload_n 2, 1) := by decide +kernel
theorem dX1_pass_20 : decode cX1_pass 20 = .ok (.ishr, 1) := by decide +kernel
theorem dX1_pass_21 : decode cX1_pass 21 = .ok (.iconst 1, 1) := by decide +kernel
theorem dX1_pass_22 : decode cX1_pass 22 = .ok (.iand, 1) := by decide +kernel
theorem dX1_pass_23 : decode cX1_pass 23 = .ok (.ifCond .eq 11, 3) := by decide +kernel
theorem dX1_pass_26 : decode cX1_pass 26 = .ok (.aload_n 0, 1) := by decide +kernel
theorem dX1_pass_27 : decode cX1_pass 27 = .ok (.iload_n 2, 1) := by decide +kernel
theorem dX1_pass_28 : decode cX1_pass 28 = .ok (.invokevirtual 80, 3) := by decide +kernel
theorem dX1_pass_31 : decode cX1_pass 31 = .ok (.goto 30, 3) := by decide +kernel
theorem dX1_pass_34 : decode cX1_pass 34 = .ok (.iload_n 1, 1) := by decide +kernel
theorem dX1_pass_35 : decode cX1_pass 35 = .ok (.iload_n 2, 1) := by decide +kernel
theorem dX1_pass_36 : decode cX1_pass 36 = .ok (.invokestatic 84, 3) := by decide +kernel
theorem dX1_pass_39 : decode cX1_pass 39 = .ok (.iand, 1) := by decide +kernel
theorem dX1_pass_40 : decode cX1_pass 40 = .ok (.ifCond .eq 21, 3) := by decide +kernel
theorem dX1_pass_43 : decode cX1_pass 43 = .ok (.aload_n 0, 1) := by decide +kernel
theorem dX1_pass_44 : decode cX1_pass 44 = .ok (.getfield 15, 3) := by decide +kernel
theorem dX1_pass_47 : decode cX1_pass 47 = .ok (.iload_n 2, 1) := by decide +kernel
theorem dX1_pass_48 : decode cX1_pass 48 = .ok (.iconst 0, 1) := by decide +kernel
theorem dX1_pass_49 : decode cX1_pass 49 = .ok (.aload_n 0, 1) := by decide +kernel
theorem dX1_pass_50 : decode cX1_pass 50 = .ok (.getfield 15, 3) := by decide +kernel
theorem dX1_pass_53 : decode cX1_pass 53 = .ok (.iload_n 2, 1) := by decide +kernel
theorem dX1_pass_54 : decode cX1_pass 54 = .ok (.iaload, 1) := by decide +kernel
theorem dX1_pass_55 : decode cX1_pass 55 = .ok (.iconst 1, 1) := by decide +kernel
theorem dX1_pass_56 : decode cX1_pass 56 = .ok (.isub, 1) := by decide +kernel
theorem dX1_pass_57 : decode cX1_pass 57 = .ok (.invokestatic 87, 3) := by decide +kernel
theorem dX1_pass_60 : decode cX1_pass 60 = .ok (.iastore, 1) := by decide +kernel
theorem dX1_pass_61 : decode cX1_pass 61 = .ok (.iinc 2 1, 3) := by decide +kernel
theorem dX1_pass_64 : decode cX1_pass 64 = .ok (.goto (-57), 3) := by decide +kernel
theorem dX1_pass_67 : decode cX1_pass 67 = .ok (.aload_n 0, 1) := by decide +kernel
theorem dX1_pass_68 : decode cX1_pass 68 = .ok (.dup, 1) := by decide +kernel
theorem dX1_pass_69 : decode cX1_pass 69 = .ok (.getfield 22, 3) := by decide +kernel
theorem dX1_pass_72 : decode cX1_pass 72 = .ok (.iconst 1, 1) := by decide +kernel
theorem dX1_pass_73 : decode cX1_pass 73 = .ok (.iadd, 1) := by decide +kernel
theorem dX1_pass_74 : decode cX1_pass 74 = .ok (.putfield 22, 3) := by decide +kernel
theorem dX1_pass_77 : decode cX1_pass 77 = .ok (.aload_n 0, 1) := by decide +kernel
theorem dX1_pass_78 : decode cX1_pass 78 = .ok (.iconst 0, 1) := by decide +kernel
theorem dX1_pass_79 : decode cX1_pass 79 = .ok (.putfield 29, 3) := by decide +kernel
theorem dX1_pass_82 : decode cX1_pass 82 = .ok (.return_, 1) := by decide +kernel
theorem dX1_feed_0 : decode cX1_feed 0 = .ok (.iload_n 1, 1) := by decide +kernel
theorem dX1_feed_1 : decode cX1_feed 1 = .ok (.ifCond .lt 8, 3) := by decide +kernel
theorem dX1_feed_4 : decode cX1_feed 4 = .ok (.iload_n 1, 1) := by decide +kernel
theorem dX1_feed_5 : decode cX1_feed 5 = .ok (.iconst 5, 1) := by decide +kernel
theorem dX1_feed_6 : decode cX1_feed 6 = .ok (.if_icmp .lt 4, 3) := by decide +kernel
theorem dX1_feed_9 : decode cX1_feed 9 = .ok (.return_, 1) := by decide +kernel
theorem dX1_feed_10 : decode cX1_feed 10 = .ok (.aload_n 0, 1) := by decide +kernel
theorem dX1_feed_11 : decode cX1_feed 11 = .ok (.getfield 9, 3) := by decide +kernel
theorem dX1_feed_14 : decode cX1_feed 14 = .ok (.iload_n 1, 1) := by decide +kernel
theorem dX1_feed_15 : decode cX1_feed 15 = .ok (.iconst 0, 1) := by decide +kernel
theorem dX1_feed_16 : decode cX1_feed 16 = .ok (.aload_n 0, 1) := by decide +kernel
theorem dX1_feed_17 : decode cX1_feed 17 = .ok (.getfield 9, 3) := by decide +kernel
theorem dX1_feed_20 : decode cX1_feed 20 = .ok (.iload_n 1, 1) := by decide +kernel
theorem dX1_feed_21 : decode cX1_feed 21 = .ok (.iaload, 1) := by decide +kernel
theorem dX1_feed_22 : decode cX1_feed 22 = .ok (.aload_n 0, 1) := by decide +kernel
theorem dX1_feed_23 : decode cX1_feed 23 = .ok (.getfield 32, 3) := by decide +kernel
theorem dX1_feed_26 : decode cX1_feed 26 = .ok (.getfield 45, 3) := by decide +kernel
theorem dX1_feed_29 : decode cX1_feed 29 = .ok (.iload_n 1, 1) := by decide +kernel
theorem dX1_feed_30 : decode cX1_feed 30 = .ok (.iaload, 1) := by decide +kernel
theorem dX1_feed_31 : decode cX1_feed 31 = .ok (.aload_n 0, 1) := by decide +kernel
theorem dX1_feed_32 : decode cX1_feed 32 = .ok (.getfield 22, 3) := by decide +kernel
theorem dX1_feed_35 : decode cX1_feed 35 = .ok (.invokestatic 91, 3) := by decide +kernel
theorem dX1_feed_38 : decode cX1_feed 38 = .ok (.isub, 1) := by decide +kernel
theorem dX1_feed_39 : decode cX1_feed 39 = .ok (.invokestatic 87, 3) := by decide +kernel
theorem dX1_feed_42 : decode cX1_feed 42 = .ok (.iastore, 1) := by decide +kernel
theorem dX1_feed_43 : decode cX1_feed 43 = .ok (.aload_n 0, 1) := by decide +kernel
theorem dX1_feed_44 : decode cX1_feed 44 = .ok (.getfield 9, 3) := by decide +kernel
theorem dX1_feed_47 : decode cX1_feed 47 = .ok (.iload_n 1, 1) := by decide +kernel
theorem dX1_feed_48 : decode cX1_feed 48 = .ok (.iaload, 1) := by decide +kernel
theorem dX1_feed_49 : decode cX1_feed 49 = .ok (.ifCond .ne 17, 3) := by decide +kernel
theorem dX1_feed_52 : decode cX1_feed 52 = .ok (.aload_n 0, 1) := by decide +kernel
theorem dX1_feed_53 : decode cX1_feed 53 = .ok (.dup, 1) := by decide +kernel
theorem dX1_feed_54 : decode cX1_feed 54 = .ok (.getfield 18, 3) := by decide +kernel
theorem dX1_feed_57 : decode cX1_feed 57 = .ok (.iconst 1, 1) := by decide +kernel
theorem dX1_feed_58 : decode cX1_feed 58 = .ok (.iload_n 1, 1) := by decide +kernel
theorem dX1_feed_59 : decode cX1_feed 59 = .ok (.ishl, 1) := by decide +kernel
theorem dX1_feed_60 : decode cX1_feed 60 = .ok (.iconst (-1), 1) := by decide +kernel
theorem dX1_feed_61 : decode cX1_feed 61 = .ok (.ixor, 1) := by decide +kernel
theorem dX1_feed_62 : decode cX1_feed 62 = .ok (.iand, 1) := by decide +kernel
theorem dX1_feed_63 : decode cX1_feed 63 = .ok (.putfield 18, 3) := by decide +kernel
theorem dX1_feed_66 : decode cX1_feed 66 = .ok (.return_, 1) := by decide +kernel
theorem dX1_beside_0 : decode cX1_beside 0 = .ok (.iconst 1, 1) := by decide +kernel
theorem dX1_beside_1 : decode cX1_beside 1 = .ok (.iload_n 0, 1) := by decide +kernel
theorem dX1_beside_2 : decode cX1_beside 2 = .ok (.ishl, 1) := by decide +kernel
theorem dX1_beside_3 : decode cX1_beside 3 = .ok (.iconst 1, 1) := by decide +kernel
theorem dX1_beside_4 : decode cX1_beside 4 = .ok (.ishr, 1) := by decide +kernel
theorem dX1_beside_5 : decode cX1_beside 5 = .ok (.iconst 1, 1) := by decide +kernel
theorem dX1_beside_6 : decode cX1_beside 6 = .ok (.iload_n 0, 1) := by decide +kernel
theorem dX1_beside_7 : decode cX1_beside 7 = .ok (.iconst 1, 1) := by decide +kernel
theorem dX1_beside_8 : decode cX1_beside 8 = .ok (.iadd, 1) := by decide +kernel
theorem dX1_beside_9 : decode cX1_beside 9 = .ok (.ishl, 1) := by decide +kernel
theorem dX1_beside_10 : decode cX1_beside 10 = .ok (.ior, 1) := by decide +kernel
theorem dX1_beside_11 : decode cX1_beside 11 = .ok (.ireturn, 1) := by decide +kernel
theorem dX1_act_0 : decode cX1_act 0 = .ok (.iload_n 1, 1) := by decide +kernel
theorem dX1_act_1 : decode cX1_act 1 = .ok (.bipush 40, 2) := by decide +kernel
theorem dX1_act_3 : decode cX1_act 3 = .ok (.if_icmp .lt 14, 3) := by decide +kernel
theorem dX1_act_6 : decode cX1_act 6 = .ok (.aload_n 0, 1) := by decide +kernel
theorem dX1_act_7 : decode cX1_act 7 = .ok (.iload_n 1, 1) := by decide +kernel
theorem dX1_act_8 : decode cX1_act 8 = .ok (.bipush 40, 2) := by decide +kernel
theorem dX1_act_10 : decode cX1_act 10 = .ok (.isub, 1) := by decide +kernel
theorem dX1_act_11 : decode cX1_act 11 = .ok (.invokevirtual 94, 3) := by decide +kernel
theorem dX1_act_14 : decode cX1_act 14 = .ok (.goto 21, 3) := by decide +kernel
theorem dX1_act_17 : decode cX1_act 17 = .ok (.iload_n 1, 1) := by decide +kernel
theorem dX1_act_18 : decode cX1_act 18 = .ok (.bipush 36, 2) := by decide +kernel
theorem dX1_act_20 : decode cX1_act 20 = .ok (.if_icmp .ne 10, 3) := by decide +kernel
theorem dX1_act_23 : decode cX1_act 23 = .ok (.aload_n 0, 1) := by decide +kernel
theorem dX1_act_24 : decode cX1_act 24 = .ok (.invokevirtual 97, 3) := by decide +kernel
theorem dX1_act_27 : decode cX1_act 27 = .ok (.goto 8, 3) := by decide +kernel
theorem dX1_act_30 : decode cX1_act 30 = .ok (.aload_n 0, 1) := by decide +kernel
theorem dX1_act_31 : decode cX1_act 31 = .ok (.iload_n 1, 1) := by decide +kernel
theorem dX1_act_32 : decode cX1_act 32 = .ok (.invokevirtual 100, 3) := by decide +kernel
theorem dX1_act_35 : decode cX1_act 35 = .ok (.return_, 1) := by decide +kernel
theorem dX1_wetBeside_0 : decode cX1_wetBeside 0 = .ok (.aload_n 0, 1) := by decide +kernel
theorem dX1_wetBeside_1 : decode cX1_wetBeside 1 = .ok (.iload_n 1, 1) := by decide +kernel
theorem dX1_wetBeside_2 : decode cX1_wetBeside 2 = .ok (.iconst 1, 1) := by decide +kernel
theorem dX1_wetBeside_3 : decode cX1_wetBeside 3 = .ok (.isub, 1) := by decide +kernel
theorem dX1_wetBeside_4 : decode cX1_wetBeside 4 = .ok (.invokevirtual 103, 3) := by decide +kernel
theorem dX1_wetBeside_7 : decode cX1_wetBeside 7 = .ok (.ifCond .le 7, 3) := by decide +kernel
theorem dX1_wetBeside_10 : decode cX1_wetBeside 10 = .ok (.iconst 1, 1) := by decide +kernel
theorem dX1_wetBeside_11 : decode cX1_wetBeside 11 = .ok (.goto 4, 3) := by decide +kernel
theorem dX1_wetBeside_14 : decode cX1_wetBeside 14 = .ok (.iconst 0, 1) := by decide +kernel
theorem dX1_wetBeside_15 : decode cX1_wetBeside 15 = .ok (.aload_n 0, 1) := by decide +kernel
theorem dX1_wetBeside_16 : decode cX1_wetBeside 16 = .ok (.iload_n 1, 1) := by decide +kernel
theorem dX1_wetBeside_17 : decode cX1_wetBeside 17 = .ok (.iconst 1, 1) := by decide +kernel
theorem dX1_wetBeside_18 : decode cX1_wetBeside 18 = .ok (.iadd, 1) := by decide +kernel
theorem dX1_wetBeside_19 : decode cX1_wetBeside 19 = .ok (.invokevirtual 103, 3) := by decide +kernel
theorem dX1_wetBeside_22 : decode cX1_wetBeside 22 = .ok (.ifCond .le 7, 3) := by decide +kernel
theorem dX1_wetBeside_25 : decode cX1_wetBeside 25 = .ok (.iconst 1, 1) := by decide +kernel
theorem dX1_wetBeside_26 : decode cX1_wetBeside 26 = .ok (.goto 4, 3) := by decide +kernel
theorem dX1_wetBeside_29 : decode cX1_wetBeside 29 = .ok (.iconst 0, 1) := by decide +kernel
theorem dX1_wetBeside_30 : decode cX1_wetBeside 30 = .ok (.iadd, 1) := by decide +kernel
theorem dX1_wetBeside_31 : decode cX1_wetBeside 31 = .ok (.ireturn, 1) := by decide +kernel
theorem dX1_woodFor_0 : decode cX1_woodFor 0 = .ok (.iconst 0, 1) := by decide +kernel
theorem dX1_woodFor_1 : decode cX1_woodFor 1 = .ok (.istore_n 3, 1) := by decide +kernel
theorem dX1_woodFor_2 : decode cX1_woodFor 2 = .ok (.iconst 0, 1) := by decide +kernel
theorem dX1_woodFor_3 : decode cX1_woodFor 3 = .ok (.istore 4, 2) := by decide +kernel
theorem dX1_woodFor_5 : decode cX1_woodFor 5 = .ok (.iload 4, 2) := by decide +kernel
theorem dX1_woodFor_7 : decode cX1_woodFor 7 = .ok (.iload_n 2, 1) := by decide +kernel
theorem dX1_woodFor_8 : decode cX1_woodFor 8 = .ok (.if_icmp .ge 30, 3) := by decide +kernel
theorem dX1_woodFor_11 : decode cX1_woodFor 11 = .ok (.iload_n 3, 1) := by decide +kernel
theorem dX1_woodFor_12 : decode cX1_woodFor 12 = .ok (.aload_n 0, 1) := by decide +kernel
theorem dX1_woodFor_13 : decode cX1_woodFor 13 = .ok (.getfield 32, 3) := by decide +kernel
theorem dX1_woodFor_16 : decode cX1_woodFor 16 = .ok (.iload_n 1, 1) := by decide +kernel
theorem dX1_woodFor_17 : decode cX1_woodFor 17 = .ok (.invokevirtual 106, 3) := by decide +kernel
theorem dX1_woodFor_20 : decode cX1_woodFor 20 = .ok (.aload_n 0, 1) := by decide +kernel
theorem dX1_woodFor_21 : decode cX1_woodFor 21 = .ok (.getfield 22, 3) := by decide +kernel
theorem dX1_woodFor_24 : decode cX1_woodFor 24 = .ok (.iload 4, 2) := by decide +kernel
theorem dX1_woodFor_26 : decode cX1_woodFor 26 = .ok (.iadd, 1) := by decide +kernel
theorem dX1_woodFor_27 : decode cX1_woodFor 27 = .ok (.invokestatic 91, 3) := by decide +kernel
theorem dX1_woodFor_30 : decode cX1_woodFor 30 = .ok (.iadd, 1) := by decide +kernel
theorem dX1_woodFor_31 : decode cX1_woodFor 31 = .ok (.istore_n 3, 1) := by decide +kernel
theorem dX1_woodFor_32 : decode cX1_woodFor 32 = .ok (.iinc 4 1, 3) := by decide +kernel
theorem dX1_woodFor_35 : decode cX1_woodFor 35 = .ok (.goto (-30), 3) := by decide +kernel
theorem dX1_woodFor_38 : decode cX1_woodFor 38 = .ok (.iload_n 3, 1) := by decide +kernel
theorem dX1_woodFor_39 : decode cX1_woodFor 39 = .ok (.ireturn, 1) := by decide +kernel
theorem dX1_woodLasts_0 : decode cX1_woodLasts 0 = .ok (.aload_n 0, 1) := by decide +kernel
theorem dX1_woodLasts_1 : decode cX1_woodLasts 1 = .ok (.iload_n 1, 1) := by decide +kernel
theorem dX1_woodLasts_2 : decode cX1_woodLasts 2 = .ok (.invokevirtual 109, 3) := by decide +kernel
theorem dX1_woodLasts_5 : decode cX1_woodLasts 5 = .ok (.istore_n 2, 1) := by decide +kernel
theorem dX1_woodLasts_6 : decode cX1_woodLasts 6 = .ok (.iconst 0, 1) := by decide +kernel
theorem dX1_woodLasts_7 : decode cX1_woodLasts 7 = .ok (.istore_n 3, 1) := by decide +kernel
theorem dX1_woodLasts_8 : decode cX1_woodLasts 8 = .ok (.iload_n 2, 1) := by decide +kernel
theorem dX1_woodLasts_9 : decode cX1_woodLasts 9 = .ok (.ifCond .le 35, 3) := by decide +kernel
theorem dX1_woodLasts_12 : decode cX1_woodLasts 12 = .ok (.iload_n 3, 1) := by decide +kernel
theorem dX1_woodLasts_13 : decode cX1_woodLasts 13 = .ok (.bipush 64, 2) := by decide +kernel
theorem dX1_woodLasts_15 : decode cX1_woodLasts 15 = .ok (.if_icmp .ge 29, 3) := by decide +kernel
theorem dX1_woodLasts_18 : decode cX1_woodLasts 18 = .ok (.iload_n 2, 1) := by decide +kernel
theorem dX1_woodLasts_19 : decode cX1_woodLasts 19 = .ok (.aload_n 0, 1) := by decide +kernel
theorem dX1_woodLasts_20 : decode cX1_woodLasts 20 = .ok (.getfield 32, 3) := by decide +kernel
theorem dX1_woodLasts_23 : decode cX1_woodLasts 23 = .ok (.iload_n 1, 1) := by decide +kernel
theorem dX1_woodLasts_24 : decode cX1_woodLasts 24 = .ok (.invokevirtual 106, 3) := by decide +kernel
theorem dX1_woodLasts_27 : decode cX1_woodLasts 27 = .ok (.aload_n 0, 1) := by decide +kernel
theorem dX1_woodLasts_28 : decode cX1_woodLasts 28 = .ok (.getfield 22, 3) := by decide +kernel
theorem dX1_woodLasts_31 : decode cX1_woodLasts 31 = .ok (.iload_n 3, 1) := by decide +kernel
theorem dX1_woodLasts_32 : decode cX1_woodLasts 32 = .ok (.iadd, 1) := by decide +kernel
theorem dX1_woodLasts_33 : decode cX1_woodLasts 33 = .ok (.invokestatic 91, 3) := by decide +kernel
theorem dX1_woodLasts_36 : decode cX1_woodLasts 36 = .ok (.isub, 1) := by decide +kernel
theorem dX1_woodLasts_37 : decode cX1_woodLasts 37 = .ok (.istore_n 2, 1) := by decide +kernel
theorem dX1_woodLasts_38 : decode cX1_woodLasts 38 = .ok (.iinc 3 1, 3) := by decide +kernel
theorem dX1_woodLasts_41 : decode cX1_woodLasts 41 = .ok (.goto (-33), 3) := by decide +kernel
theorem dX1_woodLasts_44 : decode cX1_woodLasts 44 = .ok (.iload_n 3, 1) := by decide +kernel
theorem dX1_woodLasts_45 : decode cX1_woodLasts 45 = .ok (.ireturn, 1) := by decide +kernel
theorem dX1_burnsOn_0 : decode cX1_burnsOn 0 = .ok (.aload_n 0, 1) := by decide +kernel
theorem dX1_burnsOn_1 : decode cX1_burnsOn 1 = .ok (.iload_n 1, 1) := by decide +kernel
theorem dX1_burnsOn_2 : decode cX1_burnsOn 2 = .ok (.invokevirtual 62, 3) := by decide +kernel
theorem dX1_burnsOn_5 : decode cX1_burnsOn 5 = .ok (.ifCond .eq 11, 3) := by decide +kernel
theorem dX1_burnsOn_8 : decode cX1_burnsOn 8 = .ok (.aload_n 0, 1) := by decide +kernel
theorem dX1_burnsOn_9 : decode cX1_burnsOn 9 = .ok (.iload_n 1, 1) := by decide +kernel
theorem dX1_burnsOn_10 : decode cX1_burnsOn 10 = .ok (.invokevirtual 112, 3) := by decide +kernel
theorem dX1_burnsOn_13 : decode cX1_burnsOn 13 = .ok (.goto 4, 3) := by decide +kernel
theorem dX1_burnsOn_16 : decode cX1_burnsOn 16 = .ok (.iconst 0, 1) := by decide +kernel
theorem dX1_burnsOn_17 : decode cX1_burnsOn 17 = .ok (.ireturn, 1) := by decide +kernel
theorem dX1_alightAfter_0 : decode cX1_alightAfter 0 = .ok (.iconst 0, 1) := by decide +kernel
theorem dX1_alightAfter_1 : decode cX1_alightAfter 1 = .ok (.istore_n 2, 1) := by decide +kernel
theorem dX1_alightAfter_2 : decode cX1_alightAfter 2 = .ok (.iconst 0, 1) := by decide +kernel
theorem dX1_alightAfter_3 : decode cX1_alightAfter 3 = .ok (.istore_n 3, 1) := by decide +kernel
theorem dX1_alightAfter_4 : decode cX1_alightAfter 4 = .ok (.iload_n 3, 1) := by decide +kernel
theorem dX1_alightAfter_5 : decode cX1_alightAfter 5 = .ok (.aload_n 0, 1) := by decide +kernel
theorem dX1_alightAfter_6 : decode cX1_alightAfter 6 = .ok (.getfield 32, 3) := by decide +kernel
theorem dX1_alightAfter_9 : decode cX1_alightAfter 9 = .ok (.getfield 42, 3) := by decide +kernel
theorem dX1_alightAfter_12 : decode cX1_alightAfter 12 = .ok (.if_icmp .ge 26, 3) := by decide +kernel
theorem dX1_alightAfter_15 : decode cX1_alightAfter 15 = .ok (.iload_n 2, 1) := by decide +kernel
theorem dX1_alightAfter_16 : decode cX1_alightAfter 16 = .ok (.aload_n 0, 1) := by decide +kernel
theorem dX1_alightAfter_17 : decode cX1_alightAfter 17 = .ok (.iload_n 3, 1) := by decide +kernel
theorem dX1_alightAfter_18 : decode cX1_alightAfter 18 = .ok (.invokevirtual 115, 3) := by decide +kernel
theorem dX1_alightAfter_21 : decode cX1_alightAfter 21 = .ok (.iload_n 1, 1) := by decide +kernel
theorem dX1_alightAfter_22 : decode cX1_alightAfter 22 = .ok (.if_icmp .le 7, 3) := by decide +kernel
theorem dX1_alightAfter_25 : decode cX1_alightAfter 25 = .ok (.iconst 1, 1) := by decide +kernel
theorem dX1_alightAfter_26 : decode cX1_alightAfter 26 = .ok (.goto 4, 3) := by decide +kernel
theorem dX1_alightAfter_29 : decode cX1_alightAfter 29 = .ok (.iconst 0, 1) := by decide +kernel
theorem dX1_alightAfter_30 : decode cX1_alightAfter 30 = .ok (.iadd, 1) := by decide +kernel
theorem dX1_alightAfter_31 : decode cX1_alightAfter 31 = .ok (.istore_n 2, 1) := by decide +kernel
theorem dX1_alightAfter_32 : decode cX1_alightAfter 32 = .ok (.iinc 3 1, 3) := by decide +kernel
theorem dX1_alightAfter_35 : decode cX1_alightAfter 35 = .ok (.goto (-31), 3) := by decide +kernel
theorem dX1_alightAfter_38 : decode cX1_alightAfter 38 = .ok (.iload_n 2, 1) := by decide +kernel
theorem dX1_alightAfter_39 : decode cX1_alightAfter 39 = .ok (.ireturn, 1) := by decide +kernel
theorem dX1_servesHour_0 : decode cX1_servesHour 0 = .ok (.iconst 0, 1) := by decide +kernel
theorem dX1_servesHour_1 : decode cX1_servesHour 1 = .ok (.istore_n 1, 1) := by decide +kernel
theorem dX1_servesHour_2 : decode cX1_servesHour 2 = .ok (.iload_n 1, 1) := by decide +kernel
theorem dX1_servesHour_3 : decode cX1_servesHour 3 = .ok (.aload_n 0, 1) := by decide +kernel
theorem dX1_servesHour_4 : decode cX1_servesHour 4 = .ok (.getfield 32, 3) := by decide +kernel
theorem dX1_servesHour_7 : decode cX1_servesHour 7 = .ok (.getfield 42, 3) := by decide +kernel
theorem dX1_servesHour_10 : decode cX1_servesHour 10 = .ok (.if_icmp .ge 38, 3) := by decide +kernel
theorem dX1_servesHour_13 : decode cX1_servesHour 13 = .ok (.aload_n 0, 1) := by decide +kernel
theorem dX1_servesHour_14 : decode cX1_servesHour 14 = .ok (.getfield 32, 3) := by decide +kernel
theorem dX1_servesHour_17 : decode cX1_servesHour 17 = .ok (.getfield 118, 3) := by decide +kernel
theorem dX1_servesHour_20 : decode cX1_servesHour 20 = .ok (.iload_n 1, 1) := by decide +kernel
theorem dX1_servesHour_21 : decode cX1_servesHour 21 = .ok (.iaload, 1) := by decide +kernel
theorem dX1_servesHour_22 : decode cX1_servesHour 22 = .ok (.aload_n 0, 1) := by decide +kernel
theorem dX1_servesHour_23 : decode cX1_servesHour 23 = .ok (.getfield 22, 3) := by decide +kernel
theorem dX1_servesHour_26 : decode cX1_servesHour 26 = .ok (.if_icmp .ne 16, 3) := by decide +kernel
theorem dX1_servesHour_29 : decode cX1_servesHour 29 = .ok (.aload_n 0, 1) := by decide +kernel
theorem dX1_servesHour_30 : decode cX1_servesHour 30 = .ok (.getfield 18, 3) := by decide +kernel
theorem dX1_servesHour_33 : decode cX1_servesHour 33 = .ok (.iload_n 1, 1) := by decide +kernel
theorem dX1_servesHour_34 : decode cX1_servesHour 34 = .ok (.ishr, 1) := by decide +kernel
theorem dX1_servesHour_35 : decode cX1_servesHour 35 = .ok (.iconst 1, 1) := by decide +kernel
theorem dX1_servesHour_36 : decode cX1_servesHour 36 = .ok (.iand, 1) := by decide +kernel
theorem dX1_servesHour_37 : decode cX1_servesHour 37 = .ok (.ifCond .ne 5, 3) := by decide +kernel
theorem dX1_servesHour_40 : decode cX1_servesHour 40 = .ok (.iconst 0, 1) := by decide +kernel
theorem dX1_servesHour_41 : decode cX1_servesHour 41 = .ok (.ireturn, 1) := by decide +kernel
theorem dX1_servesHour_42 : decode cX1_servesHour 42 = .ok (.iinc 1 1, 3) := by decide +kernel
theorem dX1_servesHour_45 : decode cX1_servesHour 45 = .ok (.goto (-43), 3) := by decide +kernel
theorem dX1_servesHour_48 : decode cX1_servesHour 48 = .ok (.iconst 1, 1) := by decide +kernel
theorem dX1_servesHour_49 : decode cX1_servesHour 49 = .ok (.ireturn, 1) := by decide +kernel
theorem dX2_byLetter_0 : decode cX2_byLetter 0 = .ok (.iload_n 0, 1) := by decide +kernel
theorem dX2_byLetter_1 : decode cX2_byLetter 1 = .ok (.tableswitch 95 100 116 #[89, 95, 95, 95, 83, 93, 95, 95, 95, 95, 95, 95, 85, 95, 95, 87, 91], 83) := by decide +kernel
theorem dX2_byLetter_84 : decode cX2_byLetter 84 = .ok (.iconst 0, 1) := by decide +kernel
theorem dX2_byLetter_85 : decode cX2_byLetter 85 = .ok (.ireturn, 1) := by decide +kernel
theorem dX2_byLetter_86 : decode cX2_byLetter 86 = .ok (.iconst 1, 1) := by decide +kernel
theorem dX2_byLetter_87 : decode cX2_byLetter 87 = .ok (.ireturn, 1) := by decide +kernel
theorem dX2_byLetter_88 : decode cX2_byLetter 88 = .ok (.iconst 2, 1) := by decide +kernel
theorem dX2_byLetter_89 : decode cX2_byLetter 89 = .ok (.ireturn, 1) := by decide +kernel
theorem dX2_byLetter_90 : decode cX2_byLetter 90 = .ok (.iconst 3, 1) := by decide +kernel
theorem dX2_byLetter_91 : decode cX2_byLetter 91 = .ok (.ireturn, 1) := by decide +kernel
theorem dX2_byLetter_92 : decode cX2_byLetter 92 = .ok (.iconst 4, 1) := by decide +kernel
theorem dX2_byLetter_93 : decode cX2_byLetter 93 = .ok (.ireturn, 1) := by decide +kernel
theorem dX2_byLetter_94 : decode cX2_byLetter 94 = .ok (.iconst 5, 1) := by decide +kernel
theorem dX2_byLetter_95 : decode cX2_byLetter 95 = .ok (.ireturn, 1) := by decide +kernel
theorem dX2_byLetter_96 : decode cX2_byLetter 96 = .ok (.bipush (-9), 2) := by decide +kernel
theorem dX2_byLetter_98 : decode cX2_byLetter 98 = .ok (.ireturn, 1) := by decide +kernel
theorem dX2_isOf_0 : decode cX2_isOf 0 = .ok (.iload_n 0, 1) := by decide +kernel
theorem dX2_isOf_1 : decode cX2_isOf 1 = .ok (.iload_n 1, 1) := by decide +kernel
theorem dX2_isOf_2 : decode cX2_isOf 2 = .ok (.if_icmp .eq 27, 3) := by decide +kernel
theorem dX2_isOf_5 : decode cX2_isOf 5 = .ok (.iload_n 1, 1) := by decide +kernel
theorem dX2_isOf_6 : decode cX2_isOf 6 = .ok (.ifCond .eq 23, 3) := by decide +kernel
theorem dX2_isOf_9 : decode cX2_isOf 9 = .ok (.iload_n 0, 1) := by decide +kernel
theorem dX2_isOf_10 : decode cX2_isOf 10 = .ok (.iconst 4, 1) := by decide +kernel
theorem dX2_isOf_11 : decode cX2_isOf 11 = .ok (.if_icmp .ne 8, 3) := by decide +kernel
theorem dX2_isOf_14 : decode cX2_isOf 14 = .ok (.iload_n 1, 1) := by decide +kernel
theorem dX2_isOf_15 : decode cX2_isOf 15 = .ok (.iconst 1, 1) := by decide +kernel
theorem dX2_isOf_16 : decode cX2_isOf 16 = .ok (.if_icmp .eq 13, 3) := by decide +kernel
theorem dX2_isOf_19 : decode cX2_isOf 19 = .ok (.iload_n 0, 1) := by decide +kernel
theorem dX2_isOf_20 : decode cX2_isOf 20 = .ok (.iconst 5, 1) := by decide +kernel
theorem dX2_isOf_21 : decode cX2_isOf 21 = .ok (.if_icmp .ne 12, 3) := by decide +kernel
theorem dX2_isOf_24 : decode cX2_isOf 24 = .ok (.iload_n 1, 1) := by decide +kernel
theorem dX2_isOf_25 : decode cX2_isOf 25 = .ok (.iconst 2, 1) := by decide +kernel
theorem dX2_isOf_26 : decode cX2_isOf 26 = .ok (.if_icmp .ne 7, 3) := by decide +kernel
theorem dX2_isOf_29 : decode cX2_isOf 29 = .ok (.iconst 1, 1) := by decide +kernel
theorem dX2_isOf_30 : decode cX2_isOf 30 = .ok (.goto 4, 3) := by decide +kernel
theorem dX2_isOf_33 : decode cX2_isOf 33 = .ok (.iconst 0, 1) := by decide +kernel
theorem dX2_isOf_34 : decode cX2_isOf 34 = .ok (.ireturn, 1) := by decide +kernel
theorem dX2_takes_0 : decode cX2_takes 0 = .ok (.iload_n 0, 1) := by decide +kernel
theorem dX2_takes_1 : decode cX2_takes 1 = .ok (.tableswitch 57 1 4 #[33, 57, 31, 45], 31) := by decide +kernel
theorem dX2_takes_32 : decode cX2_takes 32 = .ok (.iconst 2, 1) := by decide +kernel
theorem dX2_takes_33 : decode cX2_takes 33 = .ok (.ireturn, 1) := by decide +kernel
theorem dX2_takes_34 : decode cX2_takes 34 = .ok (.iload_n 1, 1) := by decide +kernel
theorem dX2_takes_35 : decode cX2_takes 35 = .ok (.iconst 2, 1) := by decide +kernel
theorem dX2_takes_36 : decode cX2_takes 36 = .ok (.irem, 1) := by decide +kernel
theorem dX2_takes_37 : decode cX2_takes 37 = .ok (.ifCond .ne 7, 3) := by decide +kernel
theorem dX2_takes_40 : decode cX2_takes 40 = .ok (.iconst 1, 1) := by decide +kernel
theorem dX2_takes_41 : decode cX2_takes 41 = .ok (.goto 4, 3) := by decide +kernel
theorem dX2_takes_44 : decode cX2_takes 44 = .ok (.iconst 0, 1) := by decide +kernel
theorem dX2_takes_45 : decode cX2_takes 45 = .ok (.ireturn, 1) := by decide +kernel
theorem dX2_takes_46 : decode cX2_takes 46 = .ok (.iload_n 1, 1) := by decide +kernel
theorem dX2_takes_47 : decode cX2_takes 47 = .ok (.iconst 4, 1) := by decide +kernel
theorem dX2_takes_48 : decode cX2_takes 48 = .ok (.irem, 1) := by decide +kernel
theorem dX2_takes_49 : decode cX2_takes 49 = .ok (.ifCond .ne 7, 3) := by decide +kernel
theorem dX2_takes_52 : decode cX2_takes 52 = .ok (.iconst 1, 1) := by decide +kernel
theorem dX2_takes_53 : decode cX2_takes 53 = .ok (.goto 4, 3) := by decide +kernel
theorem dX2_takes_56 : decode cX2_takes 56 = .ok (.iconst 0, 1) := by decide +kernel
theorem dX2_takes_57 : decode cX2_takes 57 = .ok (.ireturn, 1) := by decide +kernel
theorem dX2_takes_58 : decode cX2_takes 58 = .ok (.iconst 1, 1) := by decide +kernel
theorem dX2_takes_59 : decode cX2_takes 59 = .ok (.ireturn, 1) := by decide +kernel
theorem dX2_dampest_0 : decode cX2_dampest 0 = .ok (.iload_n 0, 1) := by decide +kernel
theorem dX2_dampest_1 : decode cX2_dampest 1 = .ok (.lookupswitch 31 #[(2, 27), (5, 29)], 27) := by decide +kernel
theorem dX2_dampest_28 : decode cX2_dampest 28 = .ok (.iconst 1, 1) := by decide +kernel
theorem dX2_dampest_29 : decode cX2_dampest 29 = .ok (.ireturn, 1) := by decide +kernel
theorem dX2_dampest_30 : decode cX2_dampest 30 = .ok (.iconst 3, 1) := by decide +kernel
theorem dX2_dampest_31 : decode cX2_dampest 31 = .ok (.ireturn, 1) := by decide +kernel
theorem dX2_dampest_32 : decode cX2_dampest 32 = .ok (.iconst 0, 1) := by decide +kernel
theorem dX2_dampest_33 : decode cX2_dampest 33 = .ok (.ireturn, 1) := by decide +kernel
theorem dX3_init_0 : decode cX3_init 0 = .ok (.aload_n 0, 1) := by decide +kernel
theorem dX3_init_1 : decode cX3_init 1 = .ok (.invokespecial 3, 3) := by decide +kernel
theorem dX3_init_4 : decode cX3_init 4 = .ok (.aload_n 0, 1) := by decide +kernel
theorem dX3_init_5 : decode cX3_init 5 = .ok (.iconst 5, 1) := by decide +kernel
theorem dX3_init_6 : decode cX3_init 6 = .ok (.newarray .int, 2) := by decide +kernel
theorem dX3_init_8 : decode cX3_init 8 = .ok (.putfield 9, 3) := by decide +kernel
theorem dX3_init_11 : decode cX3_init 11 = .ok (.aload_n 0, 1) := by decide +kernel
theorem dX3_init_12 : decode cX3_init 12 = .ok (.iconst 5, 1) := by decide +kernel
theorem dX3_init_13 : decode cX3_init 13 = .ok (.newarray .int, 2) := by decide +kernel
theorem dX3_init_15 : decode cX3_init 15 = .ok (.putfield 15, 3) := by decide +kernel
theorem dX3_init_18 : decode cX3_init 18 = .ok (.aload_n 0, 1) := by decide +kernel
theorem dX3_init_19 : decode cX3_init 19 = .ok (.bipush 6, 2) := by decide +kernel
theorem dX3_init_21 : decode cX3_init 21 = .ok (.newarray .int, 2) := by decide +kernel
theorem dX3_init_23 : decode cX3_init 23 = .ok (.putfield 18, 3) := by decide +kernel
theorem dX3_init_26 : decode cX3_init 26 = .ok (.aload_n 0, 1) := by decide +kernel
theorem dX3_init_27 : decode cX3_init 27 = .ok (.iconst 0, 1) := by decide +kernel
theorem dX3_init_28 : decode cX3_init 28 = .ok (.putfield 21, 3) := by decide +kernel
theorem dX3_init_31 : decode cX3_init 31 = .ok (.aload_n 0, 1) := by decide +kernel
theorem dX3_init_32 : decode cX3_init 32 = .ok (.iconst 0, 1) := by decide +kernel
theorem dX3_init_33 : decode cX3_init 33 = .ok (.putfield 25, 3) := by decide +kernel
theorem dX3_init_36 : decode cX3_init 36 = .ok (.return_, 1) := by decide +kernel
theorem dX3_clear_0 : decode cX3_clear 0 = .ok (.aload_n 0, 1) := by decide +kernel
theorem dX3_clear_1 : decode cX3_clear 1 = .ok (.iconst 0, 1) := by decide +kernel
theorem dX3_clear_2 : decode cX3_clear 2 = .ok (.putfield 25, 3) := by decide +kernel
theorem dX3_clear_5 : decode cX3_clear 5 = .ok (.aload_n 0, 1) := by decide +kernel
theorem dX3_clear_6 : decode cX3_clear 6 = .ok (.iconst 0, 1) := by decide +kernel
theorem dX3_clear_7 : decode cX3_clear 7 = .ok (.putfield 21, 3) := by decide +kernel
theorem dX3_clear_10 : decode cX3_clear 10 = .ok (.return_, 1) := by decide +kernel
theorem dX3_isEmpty_0 : decode cX3_isEmpty 0 = .ok (.aload_n 0, 1) := by decide +kernel
theorem dX3_isEmpty_1 : decode cX3_isEmpty 1 = .ok (.getfield 25, 3) := by decide +kernel
theorem dX3_isEmpty_4 : decode cX3_isEmpty 4 = .ok (.ifCond .gt 7, 3) := by decide +kernel
theorem dX3_isEmpty_7 : decode cX3_isEmpty 7 = .ok (.iconst 1, 1) := by decide +kernel
theorem dX3_isEmpty_8 : decode cX3_isEmpty 8 = .ok (.goto 4, 3) := by decide +kernel
theorem dX3_isEmpty_11 : decode cX3_isEmpty 11 = .ok (.iconst 0, 1) := by decide +kernel
theorem dX3_isEmpty_12 : decode cX3_isEmpty 12 = .ok (.ireturn, 1) := by decide +kernel
theorem dX3_isFull_0 : decode cX3_isFull 0 = .ok (.aload_n 0, 1) := by decide +kernel
theorem dX3_isFull_1 : decode cX3_isFull 1 = .ok (.getfield 25, 3) := by decide +kernel
theorem dX3_isFull_4 : decode cX3_isFull 4 = .ok (.iconst 5, 1) := by decide +kernel
theorem dX3_isFull_5 : decode cX3_isFull 5 = .ok (.if_icmp .lt 7, 3) := by decide +kernel
theorem dX3_isFull_8 : decode cX3_isFull 8 = .ok (.iconst 1, 1) := by decide +kernel
theorem dX3_isFull_9 : decode cX3_isFull 9 = .ok (.goto 4, 3) := by decide +kernel
theorem dX3_isFull_12 : decode cX3_isFull 12 = .ok (.iconst 0, 1) := by decide +kernel
theorem dX3_isFull_13 : decode cX3_isFull 13 = .ok (.ireturn, 1) := by decide +kernel
theorem dX3_has_0 : decode cX3_has 0 = .ok (.iload_n 1, 1) := by decide +kernel
theorem dX3_has_1 : decode cX3_has 1 = .ok (.ifCond .lt 15, 3) := by decide +kernel
theorem dX3_has_4 : decode cX3_has 4 = .ok (.iload_n 1, 1) := by decide +kernel
theorem dX3_has_5 : decode cX3_has 5 = .ok (.aload_n 0, 1) := by decide +kernel
theorem dX3_has_6 : decode cX3_has 6 = .ok (.getfield 25, 3) := by decide +kernel
theorem dX3_has_9 : decode cX3_has 9 = .ok (.if_icmp .ge 7, 3) := by decide +kernel
theorem dX3_has_12 : decode cX3_has 12 = .ok (.iconst 1, 1) := by decide +kernel
theorem dX3_has_13 : decode cX3_has 13 = .ok (.goto 4, 3) := by decide +kernel
theorem dX3_has_16 : decode cX3_has 16 = .ok (.iconst 0, 1) := by decide +kernel
theorem dX3_has_17 : decode cX3_has 17 = .ok (.ireturn, 1) := by decide +kernel
theorem dX3_allHouses_0 : decode cX3_allHouses 0 = .ok (.iconst 1, 1) := by decide +kernel
theorem dX3_allHouses_1 : decode cX3_allHouses 1 = .ok (.aload_n 0, 1) := by decide +kernel
theorem dX3_allHouses_2 : decode cX3_allHouses 2 = .ok (.getfield 25, 3) := by decide +kernel
theorem dX3_allHouses_5 : decode cX3_allHouses 5 = .ok (.ishl, 1) := by decide +kernel
theorem dX3_allHouses_6 : decode cX3_allHouses 6 = .ok (.iconst 1, 1) := by decide +kernel
theorem dX3_allHouses_7 : decode cX3_allHouses 7 = .ok (.isub, 1) := by decide +kernel
theorem dX3_allHouses_8 : decode cX3_allHouses 8 = .ok (.ireturn, 1) := by decide +kernel
theorem dX3_hasWinds_0 : decode cX3_hasWinds 0 = .ok (.aload_n 0, 1) := by decide +kernel
theorem dX3_hasWinds_1 : decode cX3_hasWinds 1 = .ok (.getfield 21, 3) := by decide +kernel
theorem dX3_hasWinds_4 : decode cX3_hasWinds 4 = .ok (.ifCond .le 7, 3) := by decide +kernel
theorem dX3_hasWinds_7 : decode cX3_hasWinds 7 = .ok (.iconst 1, 1) := by decide +kernel
theorem dX3_hasWinds_8 : decode cX3_hasWinds 8 = .ok (.goto 4, 3) := by decide +kernel
theorem dX3_hasWinds_11 : decode cX3_hasWinds 11 = .ok (.iconst 0, 1) := by decide +kernel
theorem dX3_hasWinds_12 : decode cX3_hasWinds 12 = .ok (.ireturn, 1) := by decide +kernel
theorem dX3_hasAllWinds_0 : decode cX3_hasAllWinds 0 = .ok (.aload_n 0, 1) := by decide +kernel
theorem dX3_hasAllWinds_1 : decode cX3_hasAllWinds 1 = .ok (.getfield 21, 3) := by decide +kernel
theorem dX3_hasAllWinds_4 : decode cX3_hasAllWinds 4 = .ok (.bipush 6, 2) := by decide +kernel
theorem dX3_hasAllWinds_6 : decode cX3_hasAllWinds 6 = .ok (.if_icmp .lt 7, 3) := by decide +kernel
theorem dX3_hasAllWinds_9 : decode cX3_hasAllWinds 9 = .ok (.iconst 1, 1) := by decide +kernel
theorem dX3_hasAllWinds_10 : decode cX3_hasAllWinds 10 = .ok (.goto 4, 3) := by decide +kernel
theorem dX3_hasAllWinds_13 : decode cX3_hasAllWinds 13 = .ok (.iconst 0, 1) := by decide +kernel
theorem dX3_hasAllWinds_14 : decode cX3_hasAllWinds 14 = .ok (.ireturn, 1) := by decide +kernel
theorem dX3_addWind_0 : decode cX3_addWind 0 = .ok (.aload_n 0, 1) := by decide +kernel
theorem dX3_addWind_1 : decode cX3_addWind 1 = .ok (.invokevirtual 28, 3) := by decide +kernel
theorem dX3_addWind_4 : decode cX3_addWind 4 = .ok (.ifCond .ne 23, 3) := by decide +kernel
theorem dX3_addWind_7 : decode cX3_addWind 7 = .ok (.aload_n 0, 1) := by decide +kernel
theorem dX3_addWind_8 : decode cX3_addWind 8 = .ok (.getfield 18, 3) := by decide +kernel
theorem dX3_addWind_11 : decode cX3_addWind 11 = .ok (.aload_n 0, 1) := by decide +kernel
theorem dX3_addWind_12 : decode cX3_addWind 12 = .ok (.getfield 21, 3) := by decide +kernel
theorem dX3_addWind_15 : decode cX3_addWind 15 = .ok (.iload_n 1, 1) := by decide +kernel
theorem dX3_addWind_16 : decode cX3_addWind 16 = .ok (.iastore, 1) := by decide +kernel
theorem dX3_addWind_17 : decode cX3_addWind 17 = .ok (.aload_n 0, 1) := by decide +kernel
theorem dX3_addWind_18 : decode cX3_addWind 18 = .ok (.dup, 1) := by decide +kernel
theorem dX3_addWind_19 : decode cX3_addWind 19 = .ok (.getfield 21, 3) := by decide +kernel
theorem dX3_addWind_22 : decode cX3_addWind 22 = .ok (.iconst 1, 1) := by decide +kernel
theorem dX3_addWind_23 : decode cX3_addWind 23 = .ok (.iadd, 1) := by decide +kernel
theorem dX3_addWind_24 : decode cX3_addWind 24 = .ok (.putfield 21, 3) := by decide +kernel
theorem dX3_addWind_27 : decode cX3_addWind 27 = .ok (.return_, 1) := by decide +kernel
theorem dX3_addHouse_0 : decode cX3_addHouse 0 = .ok (.aload_n 0, 1) := by decide +kernel
theorem dX3_addHouse_1 : decode cX3_addHouse 1 = .ok (.invokevirtual 32, 3) := by decide +kernel
theorem dX3_addHouse_4 : decode cX3_addHouse 4 = .ok (.ifCond .ne 33, 3) := by decide +kernel
theorem dX3_addHouse_7 : decode cX3_addHouse 7 = .ok (.aload_n 0, 1) := by decide +kernel
theorem dX3_addHouse_8 : decode cX3_addHouse 8 = .ok (.getfield 9, 3) := by decide +kernel
theorem dX3_addHouse_11 : decode cX3_addHouse 11 = .ok (.aload_n 0, 1) := by decide +kernel
theorem dX3_addHouse_12 : decode cX3_addHouse 12 = .ok (.getfield 25, 3) := by decide +kernel
theorem dX3_addHouse_15 : decode cX3_addHouse 15 = .ok (.iload_n 1, 1) := by decide +kernel
theorem dX3_addHouse_16 : decode cX3_addHouse 16 = .ok (.iastore, 1) := by decide +kernel
theorem dX3_addHouse_17 : decode cX3_addHouse 17 = .ok (.aload_n 0, 1) := by decide +kernel
theorem dX3_addHouse_18 : decode cX3_addHouse 18 = .ok (.getfield 15, 3) := by decide +kernel
theorem dX3_addHouse_21 : decode cX3_addHouse 21 = .ok (.aload_n 0, 1) := by decide +kernel
theorem dX3_addHouse_22 : decode cX3_addHouse 22 = .ok (.getfield 25, 3) := by decide +kernel
theorem dX3_addHouse_25 : decode cX3_addHouse 25 = .ok (.iload_n 2, 1) := by decide +kernel
theorem dX3_addHouse_26 : decode cX3_addHouse 26 = .ok (.iastore, 1) := by decide +kernel
theorem dX3_addHouse_27 : decode cX3_addHouse 27 = .ok (.aload_n 0, 1) := by decide +kernel
theorem dX3_addHouse_28 : decode cX3_addHouse 28 = .ok (.dup, 1) := by decide +kernel
theorem dX3_addHouse_29 : decode cX3_addHouse 29 = .ok (.getfield 25, 3) := by decide +kernel
theorem dX3_addHouse_32 : decode cX3_addHouse 32 = .ok (.iconst 1, 1) := by decide +kernel
theorem dX3_addHouse_33 : decode cX3_addHouse 33 = .ok (.iadd, 1) := by decide +kernel
theorem dX3_addHouse_34 : decode cX3_addHouse 34 = .ok (.putfield 25, 3) := by decide +kernel
theorem dX3_addHouse_37 : decode cX3_addHouse 37 = .ok (.return_, 1) := by decide +kernel
theorem dX3_kindOf_0 : decode cX3_kindOf 0 = .ok (.aload_n 0, 1) := by decide +kernel
theorem dX3_kindOf_1 : decode cX3_kindOf 1 = .ok (.iload_n 1, 1) := by decide +kernel
theorem dX3_kindOf_2 : decode cX3_kindOf 2 = .ok (.invokevirtual 35, 3) := by decide +kernel
theorem dX3_kindOf_5 : decode cX3_kindOf 5 = .ok (.ifCond .eq 12, 3) := by decide +kernel
theorem dX3_kindOf_8 : decode cX3_kindOf 8 = .ok (.aload_n 0, 1) := by decide +kernel
theorem dX3_kindOf_9 : decode cX3_kindOf 9 = .ok (.getfield 9, 3) := by decide +kernel
theorem dX3_kindOf_12 : decode cX3_kindOf 12 = .ok (.iload_n 1, 1) := by decide +kernel
theorem dX3_kindOf_13 : decode cX3_kindOf 13 = .ok (.iaload, 1) := by decide +kernel
theorem dX3_kindOf_14 : decode cX3_kindOf 14 = .ok (.goto 4, 3) := by decide +kernel
theorem dX3_kindOf_17 : decode cX3_kindOf 17 = .ok (.iconst 0, 1) := by decide +kernel
theorem dX3_kindOf_18 : decode cX3_kindOf 18 = .ok (.ireturn, 1) := by decide +kernel
theorem dX3_needOf_0 : decode cX3_needOf 0 = .ok (.aload_n 0, 1) := by decide +kernel
theorem dX3_needOf_1 : decode cX3_needOf 1 = .ok (.iload_n 1, 1) := by decide +kernel
theorem dX3_needOf_2 : decode cX3_needOf 2 = .ok (.invokevirtual 35, 3) := by decide +kernel
theorem dX3_needOf_5 : decode cX3_needOf 5 = .ok (.ifCond .eq 12, 3) := by decide +kernel
theorem dX3_needOf_8 : decode cX3_needOf 8 = .ok (.aload_n 0, 1) := by decide +kernel
theorem dX3_needOf_9 : decode cX3_needOf 9 = .ok (.getfield 15, 3) := by decide +kernel
theorem dX3_needOf_12 : decode cX3_needOf 12 = .ok (.iload_n 1, 1) := by decide +kernel
theorem dX3_needOf_13 : decode cX3_needOf 13 = .ok (.iaload, 1) := by decide +kernel
theorem dX3_needOf_14 : decode cX3_needOf 14 = .ok (.goto 5, 3) := by decide +kernel
theorem dX3_needOf_17 : decode cX3_needOf 17 = .ok (.bipush (-9), 2) := by decide +kernel
theorem dX3_needOf_19 : decode cX3_needOf 19 = .ok (.ireturn, 1) := by decide +kernel
theorem dX3_windAt_0 : decode cX3_windAt 0 = .ok (.iload_n 1, 1) := by decide +kernel
theorem dX3_windAt_1 : decode cX3_windAt 1 = .ok (.ifCond .lt 10, 3) := by decide +kernel
theorem dX3_windAt_4 : decode cX3_windAt 4 = .ok (.aload_n 0, 1) := by decide +kernel
theorem dX3_windAt_5 : decode cX3_windAt 5 = .ok (.invokevirtual 41, 3) := by decide +kernel
theorem dX3_windAt_8 : decode cX3_windAt 8 = .ok (.ifCond .ne 7, 3) := by decide +kernel
theorem dX3_windAt_11 : decode cX3_windAt 11 = .ok (.iconst 0, 1) := by decide +kernel
theorem dX3_windAt_12 : decode cX3_windAt 12 = .ok (.goto 14, 3) := by decide +kernel
theorem dX3_windAt_15 : decode cX3_windAt 15 = .ok (.aload_n 0, 1) := by decide +kernel
theorem dX3_windAt_16 : decode cX3_windAt 16 = .ok (.getfield 18, 3) := by decide +kernel
theorem dX3_windAt_19 : decode cX3_windAt 19 = .ok (.iload_n 1, 1) := by decide +kernel
theorem dX3_windAt_20 : decode cX3_windAt 20 = .ok (.aload_n 0, 1) := by decide +kernel
theorem dX3_windAt_21 : decode cX3_windAt 21 = .ok (.getfield 21, 3) := by decide +kernel
theorem dX3_windAt_24 : decode cX3_windAt 24 = .ok (.irem, 1) := by decide +kernel
theorem dX3_windAt_25 : decode cX3_windAt 25 = .ok (.iaload, 1) := by decide +kernel
theorem dX3_windAt_26 : decode cX3_windAt 26 = .ok (.ireturn, 1) := by decide +kernel
theorem dX3_countOf_0 : decode cX3_countOf 0 = .ok (.iconst 0, 1) := by decide +kernel
theorem dX3_countOf_1 : decode cX3_countOf 1 = .ok (.istore_n 2, 1) := by decide +kernel
theorem dX3_countOf_2 : decode cX3_countOf 2 = .ok (.iconst 0, 1) := by decide +kernel
theorem dX3_countOf_3 : decode cX3_countOf 3 = .ok (.istore_n 3, 1) := by decide +kernel
theorem dX3_countOf_4 : decode cX3_countOf 4 = .ok (.iload_n 3, 1) := by decide +kernel
theorem dX3_countOf_5 : decode cX3_countOf 5 = .ok (.aload_n 0, 1) := by decide +kernel
theorem dX3_countOf_6 : decode cX3_countOf 6 = .ok (.getfield 25, 3) := by decide +kernel
theorem dX3_countOf_9 : decode cX3_countOf 9 = .ok (.if_icmp .ge 30, 3) := by decide +kernel
theorem dX3_countOf_12 : decode cX3_countOf 12 = .ok (.iload_n 2, 1) := by decide +kernel
theorem dX3_countOf_13 : decode cX3_countOf 13 = .ok (.aload_n 0, 1) := by decide +kernel
theorem dX3_countOf_14 : decode cX3_countOf 14 = .ok (.getfield 9, 3) := by decide +kernel
theorem dX3_countOf_17 : decode cX3_countOf 17 = .ok (.iload_n 3, 1) := by decide +kernel
theorem dX3_countOf_18 : decode cX3_countOf 18 = .ok (.iaload, 1) := by decide +kernel
theorem dX3_countOf_19 : decode cX3_countOf 19 = .ok (.iload_n 1, 1) := by decide +kernel
theorem dX3_countOf_20 : decode cX3_countOf 20 = .ok (.invokestatic 44, 3) := by decide +kernel
theorem dX3_countOf_23 : decode cX3_countOf 23 = .ok (.ifCond .eq 7, 3) := by decide +kernel
theorem dX3_countOf_26 : decode cX3_countOf 26 = .ok (.iconst 1, 1) := by decide +kernel
theorem dX3_countOf_27 : decode cX3_countOf 27 = .ok (.goto 4, 3) := by decide +kernel
theorem dX3_countOf_30 : decode cX3_countOf 30 = .ok (.iconst 0, 1) := by decide +kernel
theorem dX3_countOf_31 : decode cX3_countOf 31 = .ok (.iadd, 1) := by decide +kernel
theorem dX3_countOf_32 : decode cX3_countOf 32 = .ok (.istore_n 2, 1) := by decide +kernel
theorem dX3_countOf_33 : decode cX3_countOf 33 = .ok (.iinc 3 1, 3) := by decide +kernel
theorem dX3_countOf_36 : decode cX3_countOf 36 = .ok (.goto (-32), 3) := by decide +kernel
theorem dX3_countOf_39 : decode cX3_countOf 39 = .ok (.iload_n 2, 1) := by decide +kernel
theorem dX3_countOf_40 : decode cX3_countOf 40 = .ok (.ireturn, 1) := by decide +kernel
theorem dX4_init_0 : decode cX4_init 0 = .ok (.aload_n 0, 1) := by decide +kernel
theorem dX4_init_1 : decode cX4_init 1 = .ok (.invokespecial 3, 3) := by decide +kernel
theorem dX4_init_4 : decode cX4_init 4 = .ok (.aload_n 0, 1) := by decide +kernel
theorem dX4_init_5 : decode cX4_init 5 = .ok (.iconst 5, 1) := by decide +kernel
theorem dX4_init_6 : decode cX4_init 6 = .ok (.anewarray 9, 3) := by decide +kernel
theorem dX4_init_9 : decode cX4_init 9 = .ok (.putfield 11, 3) := by decide +kernel
theorem dX4_init_12 : decode cX4_init 12 = .ok (.aload_n 0, 1) := by decide +kernel
theorem dX4_init_13 : decode cX4_init 13 = .ok (.aconst_null, 1) := by decide +kernel
theorem dX4_init_14 : decode cX4_init 14 = .ok (.putfield 17, 3) := by decide +kernel
theorem dX4_init_17 : decode cX4_init 17 = .ok (.aload_n 0, 1) := by decide +kernel
theorem dX4_init_18 : decode cX4_init 18 = .ok (.iconst 0, 1) := by decide +kernel
theorem dX4_init_19 : decode cX4_init 19 = .ok (.putfield 21, 3) := by decide +kernel
theorem dX4_init_22 : decode cX4_init 22 = .ok (.aload_n 0, 1) := by decide +kernel
theorem dX4_init_23 : decode cX4_init 23 = .ok (.iconst 0, 1) := by decide +kernel
theorem dX4_init_24 : decode cX4_init 24 = .ok (.putfield 25, 3) := by decide +kernel
theorem dX4_init_27 : decode cX4_init 27 = .ok (.aload_n 0, 1) := by decide +kernel
theorem dX4_init_28 : decode cX4_init 28 = .ok (.lconst 0, 1) := by decide +kernel
theorem dX4_init_29 : decode cX4_init 29 = .ok (.putfield 28, 3) := by decide +kernel
theorem dX4_init_32 : decode cX4_init 32 = .ok (.aload_n 0, 1) := by decide +kernel
theorem dX4_init_33 : decode cX4_init 33 = .ok (.lconst 1, 1) := by decide +kernel
theorem dX4_init_34 : decode cX4_init 34 = .ok (.putfield 32, 3) := by decide +kernel
theorem dX4_init_37 : decode cX4_init 37 = .ok (.iconst 0, 1) := by decide +kernel
theorem dX4_init_38 : decode cX4_init 38 = .ok (.istore_n 2, 1) := by decide +kernel
theorem dX4_init_39 : decode cX4_init 39 = .ok (.iload_n 2, 1) := by decide +kernel
theorem dX4_init_40 : decode cX4_init 40 = .ok (.iconst 4, 1) := by decide +kernel
theorem dX4_init_41 : decode cX4_init 41 = .ok (.if_icmp .gt 23, 3) := by decide +kernel
theorem dX4_init_44 : decode cX4_init 44 = .ok (.aload_n 0, 1) := by decide +kernel
theorem dX4_init_45 : decode cX4_init 45 = .ok (.getfield 11, 3) := by decide +kernel
theorem dX4_init_48 : decode cX4_init 48 = .ok (.iload_n 2, 1) := by decide +kernel
theorem dX4_init_49 : decode cX4_init 49 = .ok (.new 9, 3) := by decide +kernel
theorem dX4_init_52 : decode cX4_init 52 = .ok (.dup, 1) := by decide +kernel
theorem dX4_init_53 : decode cX4_init 53 = .ok (.aload_n 1, 1) := by decide +kernel
theorem dX4_init_54 : decode cX4_init 54 = .ok (.invokespecial 35, 3) := by decide +kernel
theorem dX4_init_57 : decode cX4_init 57 = .ok (.aastore, 1) := by decide +kernel
theorem dX4_init_58 : decode cX4_init 58 = .ok (.iinc 2 1, 3) := by decide +kernel
theorem dX4_init_61 : decode cX4_init 61 = .ok (.goto (-22), 3) := by decide +kernel
theorem dX4_init_64 : decode cX4_init 64 = .ok (.return_, 1) := by decide +kernel
theorem dX4_reckon_0 : decode cX4_reckon 0 = .ok (.aload_n 0, 1) := by decide +kernel
theorem dX4_reckon_1 : decode cX4_reckon 1 = .ok (.aload_n 3, 1) := by decide +kernel
theorem dX4_reckon_2 : decode cX4_reckon 2 = .ok (.putfield 17, 3) := by decide +kernel
theorem dX4_reckon_5 : decode cX4_reckon 5 = .ok (.aload_n 0, 1) := by decide +kernel
theorem dX4_reckon_6 : decode cX4_reckon 6 = .ok (.iload_n 2, 1) := by decide +kernel
theorem dX4_reckon_7 : decode cX4_reckon 7 = .ok (.putfield 21, 3) := by decide +kernel
theorem dX4_reckon_10 : decode cX4_reckon 10 = .ok (.aload_n 0, 1) := by decide +kernel
theorem dX4_reckon_11 : decode cX4_reckon 11 = .ok (.iload 4, 2) := by decide +kernel
theorem dX4_reckon_13 : decode cX4_reckon 13 = .ok (.putfield 25, 3) := by decide +kernel
theorem dX4_reckon_16 : decode cX4_reckon 16 = .ok (.aload_n 0, 1) := by decide +kernel
theorem dX4_reckon_17 : decode cX4_reckon 17 = .ok (.lconst 1, 1) := by decide +kernel
theorem dX4_reckon_18 : decode cX4_reckon 18 = .ok (.putfield 32, 3) := by decide +kernel
theorem dX4_reckon_21 : decode cX4_reckon 21 = .ok (.iconst 0, 1) := by decide +kernel
theorem dX4_reckon_22 : decode cX4_reckon 22 = .ok (.istore 5, 2) := by decide +kernel
theorem dX4_reckon_24 : decode cX4_reckon 24 = .ok (.iload 5, 2) := by decide +kernel
theorem dX4_reckon_26 : decode cX4_reckon 26 = .ok (.aload_n 3, 1) := by decide +kernel
theorem dX4_reckon_27 : decode cX4_reckon 27 = .ok (.getfield 38, 3) := by decide +kernel
theorem dX4_reckon_30 : decode cX4_reckon 30 = .ok (.if_icmp .ge 21, 3) := by decide +kernel
theorem dX4_reckon_33 : decode cX4_reckon 33 = .ok (.aload_n 0, 1) := by decide +kernel
theorem dX4_reckon_34 : decode cX4_reckon 34 = .ok (.dup, 1) := by decide +kernel
theorem dX4_reckon_35 : decode cX4_reckon 35 = .ok (.getfield 32, 3) := by decide +kernel
theorem dX4_reckon_38 : decode cX4_reckon 38 = .ok (.ldc2_w 43, 3) := by decide +kernel
theorem dX4_reckon_41 : decode cX4_reckon 41 = .ok (.lmul, 1) := by decide +kernel
theorem dX4_reckon_42 : decode cX4_reckon 42 = .ok (.putfield 32, 3) := by decide +kernel
theorem dX4_reckon_45 : decode cX4_reckon 45 = .ok (.iinc 5 1, 3) := by decide +kernel
theorem dX4_reckon_48 : decode cX4_reckon 48 = .ok (.goto (-24), 3) := by decide +kernel
theorem dX4_reckon_51 : decode cX4_reckon 51 = .ok (.aload_n 0, 1) := by decide +kernel
theorem dX4_reckon_52 : decode cX4_reckon 52 = .ok (.getfield 11, 3) := by decide +kernel
theorem dX4_reckon_55 : decode cX4_reckon 55 = .ok (.iconst 0, 1) := by decide +kernel
theorem dX4_reckon_56 : decode cX4_reckon 56 = .ok (.aaload, 1) := by decide +kernel
theorem dX4_reckon_57 : decode cX4_reckon 57 = .ok (.aload_n 1, 1) := by decide +kernel
theorem dX4_reckon_58 : decode cX4_reckon 58 = .ok (.invokevirtual 45, 3) := by decide +kernel
theorem dX4_reckon_61 : decode cX4_reckon 61 = .ok (.aload_n 0, 1) := by decide +kernel
theorem dX4_reckon_62 : decode cX4_reckon 62 = .ok (.aload_n 0, 1) := by decide +kernel
theorem dX4_reckon_63 : decode cX4_reckon 63 = .ok (.iconst 0, 1) := by decide +kernel
theorem dX4_reckon_64 : decode cX4_reckon 64 = .ok (.invokevirtual 49, 3) := by decide +kernel
theorem dX4_reckon_67 : decode cX4_reckon 67 = .ok (.putfield 28, 3) := by decide +kernel
theorem dX4_reckon_70 : decode cX4_reckon 70 = .ok (.return_, 1) := by decide +kernel
theorem dX4_casesFrom_0 : decode cX4_casesFrom 0 = .ok (.aload_n 0, 1) := by decide +kernel
theorem dX4_casesFrom_1 : decode cX4_casesFrom 1 = .ok (.getfield 17, 3) := by decide +kernel
theorem dX4_casesFrom_4 : decode cX4_casesFrom 4 = .ok (.ifnull 12, 3) := by decide +kernel
theorem dX4_casesFrom_7 : decode cX4_casesFrom 7 = .ok (.iload_n 1, 1) := by decide +kernel
theorem dX4_casesFrom_8 : decode cX4_casesFrom 8 = .ok (.ifCond .lt 8, 3) := by decide +kernel
theorem dX4_casesFrom_11 : decode cX4_casesFrom 11 = .ok (.iload_n 1, 1) := by decide +kernel
theorem dX4_casesFrom_12 : decode cX4_casesFrom 12 = .ok (.iconst 4, 1) := by decide +kernel
theorem dX4_casesFrom_13 : decode cX4_casesFrom 13 = .ok (.if_icmp .le 5, 3) := by decide +kernel
theorem dX4_casesFrom_16 : decode cX4_casesFrom 16 = .ok (.lconst 0, 1) := by decide +kernel
theorem dX4_casesFrom_17 : decode cX4_casesFrom 17 = .ok (.lreturn, 1) := by decide +kernel
theorem dX4_casesFrom_18 : decode cX4_casesFrom 18 = .ok (.iload_n 1, 1) := by decide +kernel
theorem dX4_casesFrom_19 : decode cX4_casesFrom 19 = .ok (.aload_n 0, 1) := by decide +kernel
theorem dX4_casesFrom_20 : decode cX4_casesFrom 20 = .ok (.getfield 17, 3) := by decide +kernel
theorem dX4_casesFrom_23 : decode cX4_casesFrom 23 = .ok (.getfield 38, 3) := by decide +kernel
theorem dX4_casesFrom_26 : decode cX4_casesFrom 26 = .ok (.if_icmp .lt 25, 3) := by decide +kernel
theorem dX4_casesFrom_29 : decode cX4_casesFrom 29 = .ok (.aload_n 0, 1) := by decide +kernel
theorem dX4_casesFrom_30 : decode cX4_casesFrom 30 = .ok (.getfield 11, 3) := by decide +kernel
theorem dX4_casesFrom_33 : decode cX4_casesFrom 33 = .ok (.iload_n 1, 1) := by decide +kernel
theorem dX4_casesFrom_34 : decode cX4_casesFrom 34 = .ok (.aaload, 1) := by decide +kernel
theorem dX4_casesFrom_35 : decode cX4_casesFrom 35 = .ok (.aload_n 0, 1) := by decide +kernel
theorem dX4_casesFrom_36 : decode cX4_casesFrom 36 = .ok (.getfield 21, 3) := by decide +kernel
theorem dX4_casesFrom_39 : decode cX4_casesFrom 39 = .ok (.invokevirtual 53, 3) := by decide +kernel
theorem dX4_casesFrom_42 : decode cX4_casesFrom 42 = .ok (.ifCond .eq 7, 3) := by decide +kernel
theorem dX4_casesFrom_45 : decode cX4_casesFrom 45 = .ok (.lconst 1, 1) := by decide +kernel
theorem dX4_casesFrom_46 : decode cX4_casesFrom 46 = .ok (.goto 4, 3) := by decide +kernel
theorem dX4_casesFrom_49 : decode cX4_casesFrom 49 = .ok (.lconst 0, 1) := by decide +kernel
theorem dX4_casesFrom_50 : decode cX4_casesFrom 50 = .ok (.lreturn, 1) := by decide +kernel
theorem dX4_casesFrom_51 : decode cX4_casesFrom 51 = .ok (.aload_n 0, 1) := by decide +kernel
theorem dX4_casesFrom_52 : decode cX4_casesFrom 52 = .ok (.getfield 17, 3) := by decide +kernel
theorem dX4_casesFrom_55 : decode cX4_casesFrom 55 = .ok (.iload_n 1, 1) := by decide +kernel
theorem dX4_casesFrom_56 : decode cX4_casesFrom 56 = .ok (.invokevirtual 57, 3) := by decide +kernel
theorem dX4_casesFrom_59 : decode cX4_casesFrom 59 = .ok (.istore_n 2, 1) := by decide +kernel
theorem dX4_casesFrom_60 : decode cX4_casesFrom 60 = .ok (.aload_n 0, 1) := by decide +kernel
theorem dX4_casesFrom_61 : decode cX4_casesFrom 61 = .ok (.getfield 11, 3) := by decide +kernel
theorem dX4_casesFrom_64 : decode cX4_casesFrom 64 = .ok (.iload_n 1, 1) := by decide +kernel
theorem dX4_casesFrom_65 : decode cX4_casesFrom 65 = .ok (.aaload, 1) := by decide +kernel
theorem dX4_casesFrom_66 : decode cX4_casesFrom 66 = .ok (.iload_n 2, 1) := by decide +kernel
theorem dX4_casesFrom_67 : decode cX4_casesFrom 67 = .ok (.invokevirtual 61, 3) := by decide +kernel
theorem dX4_casesFrom_70 : decode cX4_casesFrom 70 = .ok (.ifCond .ne 15, 3) := by decide +kernel
theorem dX4_casesFrom_73 : decode cX4_casesFrom 73 = .ok (.ldc2_w 43, 3) := by decide +kernel
theorem dX4_casesFrom_76 : decode cX4_casesFrom 76 = .ok (.aload_n 0, 1) := by decide +kernel
theorem dX4_casesFrom_77 : decode cX4_casesFrom 77 = .ok (.iload_n 1, 1) := by decide +kernel
theorem dX4_casesFrom_78 : decode cX4_casesFrom 78 = .ok (.bipush 36, 2) := by decide +kernel
theorem dX4_casesFrom_80 : decode cX4_casesFrom 80 = .ok (.invokevirtual 64, 3) := by decide +kernel
theorem dX4_casesFrom_83 : decode cX4_casesFrom 83 = .ok (.lmul, 1) := by decide +kernel
theorem dX4_casesFrom_84 : decode cX4_casesFrom 84 = .ok (.lreturn, 1) := by decide +kernel
theorem dX4_casesFrom_85 : decode cX4_casesFrom 85 = .ok (.aload_n 0, 1) := by decide +kernel
theorem dX4_casesFrom_86 : decode cX4_casesFrom 86 = .ok (.getfield 25, 3) := by decide +kernel
theorem dX4_casesFrom_89 : decode cX4_casesFrom 89 = .ok (.i2l, 1) := by decide +kernel
theorem dX4_casesFrom_90 : decode cX4_casesFrom 90 = .ok (.aload_n 0, 1) := by decide +kernel
theorem dX4_casesFrom_91 : decode cX4_casesFrom 91 = .ok (.iload_n 1, 1) := by decide +kernel
theorem dX4_casesFrom_92 : decode cX4_casesFrom 92 = .ok (.bipush 36, 2) := by decide +kernel
theorem dX4_casesFrom_94 : decode cX4_casesFrom 94 = .ok (.invokevirtual 64, 3) := by decide +kernel
theorem dX4_casesFrom_97 : decode cX4_casesFrom 97 = .ok (.lmul, 1) := by decide +kernel
theorem dX4_casesFrom_98 : decode cX4_casesFrom 98 = .ok (.bipush 12, 2) := by decide +kernel
theorem dX4_casesFrom_100 : decode cX4_casesFrom 100 = .ok (.aload_n 0, 1) := by decide +kernel
theorem dX4_casesFrom_101 : decode cX4_casesFrom 101 = .ok (.getfield 25, 3) := by decide +kernel
theorem dX4_casesFrom_104 : decode cX4_casesFrom 104 = .ok (.isub, 1) := by decide +kernel
theorem dX4_casesFrom_105 : decode cX4_casesFrom 105 = .ok (.i2l, 1) := by decide +kernel
theorem dX4_casesFrom_106 : decode cX4_casesFrom 106 = .ok (.aload_n 0, 1) := by decide +kernel
theorem dX4_casesFrom_107 : decode cX4_casesFrom 107 = .ok (.iload_n 1, 1) := by decide +kernel
theorem dX4_casesFrom_108 : decode cX4_casesFrom 108 = .ok (.iload_n 2, 1) := by decide +kernel
theorem dX4_casesFrom_109 : decode cX4_casesFrom 109 = .ok (.invokevirtual 64, 3) := by decide +kernel
theorem dX4_casesFrom_112 : decode cX4_casesFrom 112 = .ok (.lmul, 1) := by decide +kernel
theorem dX4_casesFrom_113 : decode cX4_casesFrom 113 = .ok (.ladd, 1) := by decide +kernel
theorem dX4_casesFrom_114 : decode cX4_casesFrom 114 = .ok (.lreturn, 1) := by decide +kernel
theorem dX4_casesBehind_0 : decode cX4_casesBehind 0 = .ok (.iload_n 1, 1) := by decide +kernel
theorem dX4_casesBehind_1 : decode cX4_casesBehind 1 = .ok (.ifCond .lt 8, 3) := by decide +kernel
theorem dX4_casesBehind_4 : decode cX4_casesBehind 4 = .ok (.iload_n 1, 1) := by decide +kernel
theorem dX4_casesBehind_5 : decode cX4_casesBehind 5 = .ok (.iconst 4, 1) := by decide +kernel
theorem dX4_casesBehind_6 : decode cX4_casesBehind 6 = .ok (.if_icmp .lt 5, 3) := by decide +kernel
theorem dX4_casesBehind_9 : decode cX4_casesBehind 9 = .ok (.lconst 0, 1) := by decide +kernel
theorem dX4_casesBehind_10 : decode cX4_casesBehind 10 = .ok (.lreturn, 1) := by decide +kernel
theorem dX4_casesBehind_11 : decode cX4_casesBehind 11 = .ok (.aload_n 0, 1) := by decide +kernel
theorem dX4_casesBehind_12 : decode cX4_casesBehind 12 = .ok (.getfield 11, 3) := by decide +kernel
theorem dX4_casesBehind_15 : decode cX4_casesBehind 15 = .ok (.iload_n 1, 1) := by decide +kernel
theorem dX4_casesBehind_16 : decode cX4_casesBehind 16 = .ok (.iconst 1, 1) := by decide +kernel
theorem dX4_casesBehind_17 : decode cX4_casesBehind 17 = .ok (.iadd, 1) := by decide +kernel
theorem dX4_casesBehind_18 : decode cX4_casesBehind 18 = .ok (.aaload, 1) := by decide +kernel
theorem dX4_casesBehind_19 : decode cX4_casesBehind 19 = .ok (.astore_n 3, 1) := by decide +kernel
theorem dX4_casesBehind_20 : decode cX4_casesBehind 20 = .ok (.aload_n 3, 1) := by decide +kernel
theorem dX4_casesBehind_21 : decode cX4_casesBehind 21 = .ok (.aload_n 0, 1) := by decide +kernel
theorem dX4_casesBehind_22 : decode cX4_casesBehind 22 = .ok (.getfield 11, 3) := by decide +kernel
theorem dX4_casesBehind_25 : decode cX4_casesBehind 25 = .ok (.iload_n 1, 1) := by decide +kernel
theorem dX4_casesBehind_26 : decode cX4_casesBehind 26 = .ok (.aaload, 1) := by decide +kernel
theorem dX4_casesBehind_27 : decode cX4_casesBehind 27 = .ok (.invokevirtual 45, 3) := by decide +kernel
theorem dX4_casesBehind_30 : decode cX4_casesBehind 30 = .ok (.aload_n 3, 1) := by decide +kernel
theorem dX4_casesBehind_31 : decode cX4_casesBehind 31 = .ok (.iload_n 2, 1) := by decide +kernel
theorem dX4_casesBehind_32 : decode cX4_casesBehind 32 = .ok (.invokevirtual 68, 3) := by decide +kernel
theorem dX4_casesBehind_35 : decode cX4_casesBehind 35 = .ok (.aload_n 3, 1) := by decide +kernel
theorem dX4_casesBehind_36 : decode cX4_casesBehind 36 = .ok (.invokevirtual 72, 3) := by decide +kernel
theorem dX4_casesBehind_39 : decode cX4_casesBehind 39 = .ok (.aload_n 0, 1) := by decide +kernel
theorem dX4_casesBehind_40 : decode cX4_casesBehind 40 = .ok (.iload_n 1, 1) := by decide +kernel
theorem dX4_casesBehind_41 : decode cX4_casesBehind 41 = .ok (.iconst 1, 1) := by decide +kernel
theorem dX4_casesBehind_42 : decode cX4_casesBehind 42 = .ok (.iadd, 1) := by decide +kernel
theorem dX4_casesBehind_43 : decode cX4_casesBehind 43 = .ok (.invokevirtual 49, 3) := by decide +kernel
theorem dX4_casesBehind_46 : decode cX4_casesBehind 46 = .ok (.lreturn, 1) := by decide +kernel
theorem dX5_init_0 : decode cX5_init 0 = .ok (.aload_n 0, 1) := by decide +kernel
theorem dX5_init_1 : decode cX5_init 1 = .ok (.invokespecial 3, 3) := by decide +kernel
theorem dX5_init_4 : decode cX5_init 4 = .ok (.aload_n 0, 1) := by decide +kernel
theorem dX5_init_5 : decode cX5_init 5 = .ok (.iconst 5, 1) := by decide +kernel
theorem dX5_init_6 : decode cX5_init 6 = .ok (.anewarray 9, 3) := by decide +kernel
theorem dX5_init_9 : decode cX5_init 9 = .ok (.putfield 11, 3) := by decide +kernel
theorem dX5_init_12 : decode cX5_init 12 = .ok (.aload_n 0, 1) := by decide +kernel
theorem dX5_init_13 : decode cX5_init 13 = .ok (.iconst 4, 1) := by decide +kernel
theorem dX5_init_14 : decode cX5_init 14 = .ok (.newarray .int, 2) := by decide +kernel
theorem dX5_init_16 : decode cX5_init 16 = .ok (.putfield 17, 3) := by decide +kernel
theorem dX5_init_19 : decode cX5_init 19 = .ok (.aload_n 0, 1) := by decide +kernel
theorem dX5_init_20 : decode cX5_init 20 = .ok (.iconst 4, 1) := by decide +kernel
theorem dX5_init_21 : decode cX5_init 21 = .ok (.newarray .int, 2) := by decide +kernel
theorem dX5_init_23 : decode cX5_init 23 = .ok (.putfield 21, 3) := by decide +kernel
theorem dX5_init_26 : decode cX5_init 26 = .ok (.aload_n 0, 1) := by decide +kernel
theorem dX5_init_27 : decode cX5_init 27 = .ok (.iconst 0, 1) := by decide +kernel
theorem dX5_init_28 : decode cX5_init 28 = .ok (.putfield 24, 3) := by decide +kernel
theorem dX5_init_31 : decode cX5_init 31 = .ok (.aload_n 0, 1) := by decide +kernel
theorem dX5_init_32 : decode cX5_init 32 = .ok (.iconst 0, 1) := by decide +kernel
theorem dX5_init_33 : decode cX5_init 33 = .ok (.putfield 28, 3) := by decide +kernel
theorem dX5_init_36 : decode cX5_init 36 = .ok (.aload_n 0, 1) := by decide +kernel
theorem dX5_init_37 : decode cX5_init 37 = .ok (.iconst 0, 1) := by decide +kernel
theorem dX5_init_38 : decode cX5_init 38 = .ok (.putfield 31, 3) := by decide +kernel
theorem dX5_init_41 : decode cX5_init 41 = .ok (.aload_n 0, 1) := by decide +kernel
theorem dX5_init_42 : decode cX5_init 42 = .ok (.iconst (-1), 1) := by decide +kernel
theorem dX5_init_43 : decode cX5_init 43 = .ok (.putfield 34, 3) := by decide +kernel
theorem dX5_init_46 : decode cX5_init 46 = .ok (.aload_n 0, 1) := by decide +kernel
theorem dX5_init_47 : decode cX5_init 47 = .ok (.iconst 0, 1) := by decide +kernel
theorem dX5_init_48 : decode cX5_init 48 = .ok (.putfield 37, 3) := by decide +kernel
theorem dX5_init_51 : decode cX5_init 51 = .ok (.aload_n 0, 1) := by decide +kernel
theorem dX5_init_52 : decode cX5_init 52 = .ok (.iconst 0, 1) := by decide +kernel
theorem dX5_init_53 : decode cX5_init 53 = .ok (.putfield 40, 3) := by decide +kernel
theorem dX5_init_56 : decode cX5_init 56 = .ok (.aload_n 0, 1) := by decide +kernel
theorem dX5_init_57 : decode cX5_init 57 = .ok (.iconst 0, 1) := by decide +kernel
theorem dX5_init_58 : decode cX5_init 58 = .ok (.putfield 43, 3) := by decide +kernel
theorem dX5_init_61 : decode cX5_init 61 = .ok (.iconst 0, 1) := by decide +kernel
theorem dX5_init_62 : decode cX5_init 62 = .ok (.istore_n 2, 1) := by decide +kernel
theorem dX5_init_63 : decode cX5_init 63 = .ok (.iload_n 2, 1) := by decide +kernel
theorem dX5_init_64 : decode cX5_init 64 = .ok (.iconst 4, 1) := by decide +kernel
theorem dX5_init_65 : decode cX5_init 65 = .ok (.if_icmp .gt 23, 3) := by decide +kernel
theorem dX5_init_68 : decode cX5_init 68 = .ok (.aload_n 0, 1) := by decide +kernel
theorem dX5_init_69 : decode cX5_init 69 = .ok (.getfield 11, 3) := by decide +kernel
theorem dX5_init_72 : decode cX5_init 72 = .ok (.iload_n 2, 1) := by decide +kernel
theorem dX5_init_73 : decode cX5_init 73 = .ok (.new 9, 3) := by decide +kernel
theorem dX5_init_76 : decode cX5_init 76 = .ok (.dup, 1) := by decide +kernel
theorem dX5_init_77 : decode cX5_init 77 = .ok (.aload_n 1, 1) := by decide +kernel
theorem dX5_init_78 : decode cX5_init 78 = .ok (.invokespecial 46, 3) := by decide +kernel
theorem dX5_init_81 : decode cX5_init 81 = .ok (.aastore, 1) := by decide +kernel
theorem dX5_init_82 : decode cX5_init 82 = .ok (.iinc 2 1, 3) := by decide +kernel
theorem dX5_init_85 : decode cX5_init 85 = .ok (.goto (-22), 3) := by decide +kernel
theorem dX5_init_88 : decode cX5_init 88 = .ok (.return_, 1) := by decide +kernel
theorem dX5_search_0 : decode cX5_search 0 = .ok (.aload_n 0, 1) := by decide +kernel
theorem dX5_search_1 : decode cX5_search 1 = .ok (.iconst 0, 1) := by decide +kernel
theorem dX5_search_2 : decode cX5_search 2 = .ok (.iload_n 2, 1) := by decide +kernel
theorem dX5_search_3 : decode cX5_search 3 = .ok (.iconst 4, 1) := by decide +kernel
theorem dX5_search_4 : decode cX5_search 4 = .ok (.invokestatic 49, 3) := by decide +kernel
theorem dX5_search_7 : decode cX5_search 7 = .ok (.invokestatic 55, 3) := by decide +kernel
theorem dX5_search_10 : decode cX5_search 10 = .ok (.putfield 31, 3) := by decide +kernel
theorem dX5_search_13 : decode cX5_search 13 = .ok (.aload_n 0, 1) := by decide +kernel
theorem dX5_search_14 : decode cX5_search 14 = .ok (.iload_n 3, 1) := by decide +kernel
theorem dX5_search_15 : decode cX5_search 15 = .ok (.putfield 24, 3) := by decide +kernel
theorem dX5_search_18 : decode cX5_search 18 = .ok (.aload_n 0, 1) := by decide +kernel
theorem dX5_search_19 : decode cX5_search 19 = .ok (.iload 4, 2) := by decide +kernel
theorem dX5_search_21 : decode cX5_search 21 = .ok (.putfield 28, 3) := by decide +kernel
theorem dX5_search_24 : decode cX5_search 24 = .ok (.aload_n 0, 1) := by decide +kernel
theorem dX5_search_25 : decode cX5_search 25 = .ok (.iconst (-1), 1) := by decide +kernel
theorem dX5_search_26 : decode cX5_search 26 = .ok (.putfield 34, 3) := by decide +kernel
theorem dX5_search_29 : decode cX5_search 29 = .ok (.aload_n 0, 1) := by decide +kernel
theorem dX5_search_30 : decode cX5_search 30 = .ok (.iconst 0, 1) := by decide +kernel
theorem dX5_search_31 : decode cX5_search 31 = .ok (.putfield 37, 3) := by decide +kernel
theorem dX5_search_34 : decode cX5_search 34 = .ok (.aload_n 0, 1) := by decide +kernel
theorem dX5_search_35 : decode cX5_search 35 = .ok (.iconst 0, 1) := by decide +kernel
theorem dX5_search_36 : decode cX5_search 36 = .ok (.putfield 40, 3) := by decide +kernel
theorem dX5_search_39 : decode cX5_search 39 = .ok (.aload_n 0, 1) := by decide +kernel
theorem dX5_search_40 : decode cX5_search 40 = .ok (.iconst 0, 1) := by decide +kernel
theorem dX5_search_41 : decode cX5_search 41 = .ok (.putfield 43, 3) := by decide +kernel
theorem dX5_search_44 : decode cX5_search 44 = .ok (.aload_n 0, 1) := by decide +kernel
theorem dX5_search_45 : decode cX5_search 45 = .ok (.getfield 11, 3) := by decide +kernel
theorem dX5_search_48 : decode cX5_search 48 = .ok (.iconst 0, 1) := by decide +kernel
theorem dX5_search_49 : decode cX5_search 49 = .ok (.aaload, 1) := by decide +kernel
theorem dX5_search_50 : decode cX5_search 50 = .ok (.aload_n 1, 1) := by decide +kernel
theorem dX5_search_51 : decode cX5_search 51 = .ok (.invokevirtual 58, 3) := by decide +kernel
theorem dX5_search_54 : decode cX5_search 54 = .ok (.aload_n 0, 1) := by decide +kernel
theorem dX5_search_55 : decode cX5_search 55 = .ok (.iconst 0, 1) := by decide +kernel
theorem dX5_search_56 : decode cX5_search 56 = .ok (.invokevirtual 62, 3) := by decide +kernel
theorem dX5_search_59 : decode cX5_search 59 = .ok (.return_, 1) := by decide +kernel
theorem dX5_isFound_0 : decode cX5_isFound 0 = .ok (.aload_n 0, 1) := by decide +kernel
theorem dX5_isFound_1 : decode cX5_isFound 1 = .ok (.getfield 34, 3) := by decide +kernel
theorem dX5_isFound_4 : decode cX5_isFound 4 = .ok (.ifCond .lt 7, 3) := by decide +kernel
theorem dX5_isFound_7 : decode cX5_isFound 7 = .ok (.iconst 1, 1) := by decide +kernel
theorem dX5_isFound_8 : decode cX5_isFound 8 = .ok (.goto 4, 3) := by decide +kernel
theorem dX5_isFound_11 : decode cX5_isFound 11 = .ok (.iconst 0, 1) := by decide +kernel
theorem dX5_isFound_12 : decode cX5_isFound 12 = .ok (.ireturn, 1) := by decide +kernel
theorem dX5_bestMove_0 : decode cX5_bestMove 0 = .ok (.iload_n 1, 1) := by decide +kernel
theorem dX5_bestMove_1 : decode cX5_bestMove 1 = .ok (.ifCond .lt 17, 3) := by decide +kernel
theorem dX5_bestMove_4 : decode cX5_bestMove 4 = .ok (.iload_n 1, 1) := by decide +kernel
theorem dX5_bestMove_5 : decode cX5_bestMove 5 = .ok (.iconst 4, 1) := by decide +kernel
theorem dX5_bestMove_6 : decode cX5_bestMove 6 = .ok (.if_icmp .ge 12, 3) := by decide +kernel
theorem dX5_bestMove_9 : decode cX5_bestMove 9 = .ok (.aload_n 0, 1) := by decide +kernel
theorem dX5_bestMove_10 : decode cX5_bestMove 10 = .ok (.getfield 21, 3) := by decide +kernel
theorem dX5_bestMove_13 : decode cX5_bestMove 13 = .ok (.iload_n 1, 1) := by decide +kernel
theorem dX5_bestMove_14 : decode cX5_bestMove 14 = .ok (.iaload, 1) := by decide +kernel
theorem dX5_bestMove_15 : decode cX5_bestMove 15 = .ok (.goto 5, 3) := by decide +kernel
theorem dX5_bestMove_18 : decode cX5_bestMove 18 = .ok (.bipush 36, 2) := by decide +kernel
theorem dX5_bestMove_20 : decode cX5_bestMove 20 = .ok (.ireturn, 1) := by decide +kernel
theorem dX5_walk_0 : decode cX5_walk 0 = .ok (.iload_n 1, 1) := by decide +kernel
theorem dX5_walk_1 : decode cX5_walk 1 = .ok (.ifCond .lt 8, 3) := by decide +kernel
theorem dX5_walk_4 : decode cX5_walk 4 = .ok (.iload_n 1, 1) := by decide +kernel
theorem dX5_walk_5 : decode cX5_walk 5 = .ok (.iconst 4, 1) := by decide +kernel
theorem dX5_walk_6 : decode cX5_walk 6 = .ok (.if_icmp .le 4, 3) := by decide +kernel
theorem dX5_walk_9 : decode cX5_walk 9 = .ok (.return_, 1) := by decide +kernel
theorem dX5_walk_10 : decode cX5_walk 10 = .ok (.aload_n 0, 1) := by decide +kernel
theorem dX5_walk_11 : decode cX5_walk 11 = .ok (.getfield 11, 3) := by decide +kernel
theorem dX5_walk_14 : decode cX5_walk 14 = .ok (.iload_n 1, 1) := by decide +kernel
theorem dX5_walk_15 : decode cX5_walk 15 = .ok (.aaload, 1) := by decide +kernel
theorem dX5_walk_16 : decode cX5_walk 16 = .ok (.astore_n 2, 1) := by decide +kernel
theorem dX5_walk_17 : decode cX5_walk 17 = .ok (.iload_n 1, 1) := by decide +kernel
theorem dX5_walk_18 : decode cX5_walk 18 = .ok (.aload_n 0, 1) := by decide +kernel
theorem dX5_walk_19 : decode cX5_walk 19 = .ok (.getfield 31, 3) := by decide +kernel
theorem dX5_walk_22 : decode cX5_walk 22 = .ok (.if_icmp .lt 9, 3) := by decide +kernel
theorem dX5_walk_25 : decode cX5_walk 25 = .ok (.aload_n 0, 1) := by decide +kernel
theorem dX5_walk_26 : decode cX5_walk 26 = .ok (.aload_n 2, 1) := by decide +kernel
theorem dX5_walk_27 : decode cX5_walk 27 = .ok (.invokevirtual 66, 3) := by decide +kernel
theorem dX5_walk_30 : decode cX5_walk 30 = .ok (.return_, 1) := by decide +kernel
theorem dX5_walk_31 : decode cX5_walk 31 = .ok (.iconst 0, 1) := by decide +kernel
theorem dX5_walk_32 : decode cX5_walk 32 = .ok (.istore_n 3, 1) := by decide +kernel
theorem dX5_walk_33 : decode cX5_walk 33 = .ok (.iload_n 3, 1) := by decide +kernel
theorem dX5_walk_34 : decode cX5_walk 34 = .ok (.bipush 36, 2) := by decide +kernel
theorem dX5_walk_36 : decode cX5_walk 36 = .ok (.if_icmp .gt 36, 3) := by decide +kernel
theorem dX5_walk_39 : decode cX5_walk 39 = .ok (.aload_n 0, 1) := by decide +kernel
theorem dX5_walk_40 : decode cX5_walk 40 = .ok (.invokevirtual 69, 3) := by decide +kernel
theorem dX5_walk_43 : decode cX5_walk 43 = .ok (.ifCond .ne 29, 3) := by decide +kernel
theorem dX5_walk_46 : decode cX5_walk 46 = .ok (.iload_n 3, 1) := by decide +kernel
theorem dX5_walk_47 : decode cX5_walk 47 = .ok (.bipush 36, 2) := by decide +kernel
theorem dX5_walk_49 : decode cX5_walk 49 = .ok (.if_icmp .eq 11, 3) := by decide +kernel
theorem dX5_walk_52 : decode cX5_walk 52 = .ok (.aload_n 2, 1) := by decide +kernel
theorem dX5_walk_53 : decode cX5_walk 53 = .ok (.iload_n 3, 1) := by decide +kernel
theorem dX5_walk_54 : decode cX5_walk 54 = .ok (.invokevirtual 73, 3) := by decide +kernel
theorem dX5_walk_57 : decode cX5_walk 57 = .ok (.ifCond .eq 9, 3) := by decide +kernel
theorem dX5_walk_60 : decode cX5_walk 60 = .ok (.aload_n 0, 1) := by decide +kernel
theorem dX5_walk_61 : decode cX5_walk 61 = .ok (.iload_n 1, 1) := by decide +kernel
theorem dX5_walk_62 : decode cX5_walk 62 = .ok (.iload_n 3, 1) := by decide +kernel
theorem dX5_walk_63 : decode cX5_walk 63 = .ok (.invokevirtual 77, 3) := by decide +kernel
theorem dX5_walk_66 : decode cX5_walk 66 = .ok (.iinc 3 1, 3) := by decide +kernel
theorem dX5_walk_69 : decode cX5_walk 69 = .ok (.goto (-36), 3) := by decide +kernel
theorem dX5_walk_72 : decode cX5_walk 72 = .ok (.return_, 1) := by decide +kernel
theorem dX5_take_0 : decode cX5_take 0 = .ok (.iload_n 1, 1) := by decide +kernel
theorem dX5_take_1 : decode cX5_take 1 = .ok (.ifCond .lt 8, 3) := by decide +kernel
theorem dX5_take_4 : decode cX5_take 4 = .ok (.iload_n 1, 1) := by decide +kernel
theorem dX5_take_5 : decode cX5_take 5 = .ok (.iconst 4, 1) := by decide +kernel
theorem dX5_take_6 : decode cX5_take 6 = .ok (.if_icmp .lt 4, 3) := by decide +kernel
theorem dX5_take_9 : decode cX5_take 9 = .ok (.return_, 1) := by decide +kernel
theorem dX5_take_10 : decode cX5_take 10 = .ok (.aload_n 0, 1) := by decide +kernel
theorem dX5_take_11 : decode cX5_take 11 = .ok (.getfield 11, 3) := by decide +kernel
theorem dX5_take_14 : decode cX5_take 14 = .ok (.iload_n 1, 1) := by decide +kernel
theorem dX5_take_15 : decode cX5_take 15 = .ok (.iconst 1, 1) := by decide +kernel
theorem dX5_take_16 : decode cX5_take 16 = .ok (.iadd, 1) := by decide +kernel
theorem dX5_take_17 : decode cX5_take 17 = .ok (.aaload, 1) := by decide +kernel
theorem dX5_take_18 : decode cX5_take 18 = .ok (.astore_n 3, 1) := by decide +kernel
theorem dX5_take_19 : decode cX5_take 19 = .ok (.aload_n 3, 1) := by decide +kernel
theorem dX5_take_20 : decode cX5_take 20 = .ok (.aload_n 0, 1) := by decide +kernel
theorem dX5_take_21 : decode cX5_take 21 = .ok (.getfield 11, 3) := by decide +kernel
theorem dX5_take_24 : decode cX5_take 24 = .ok (.iload_n 1, 1) := by decide +kernel
theorem dX5_take_25 : decode cX5_take 25 = .ok (.aaload, 1) := by decide +kernel
theorem dX5_take_26 : decode cX5_take 26 = .ok (.invokevirtual 58, 3) := by decide +kernel
theorem dX5_take_29 : decode cX5_take 29 = .ok (.aload_n 3, 1) := by decide +kernel
theorem dX5_take_30 : decode cX5_take 30 = .ok (.iload_n 2, 1) := by decide +kernel
theorem dX5_take_31 : decode cX5_take 31 = .ok (.invokevirtual 81, 3) := by decide +kernel
theorem dX5_take_34 : decode cX5_take 34 = .ok (.aload_n 0, 1) := by decide +kernel
theorem dX5_take_35 : decode cX5_take 35 = .ok (.getfield 24, 3) := by decide +kernel
theorem dX5_take_38 : decode cX5_take 38 = .ok (.iconst 3, 1) := by decide +kernel
theorem dX5_take_39 : decode cX5_take 39 = .ok (.if_icmp .ne 11, 3) := by decide +kernel
theorem dX5_take_42 : decode cX5_take 42 = .ok (.aload_n 3, 1) := by decide +kernel
theorem dX5_take_43 : decode cX5_take 43 = .ok (.invokevirtual 84, 3) := by decide +kernel
theorem dX5_take_46 : decode cX5_take 46 = .ok (.ifCond .ne 4, 3) := by decide +kernel
theorem dX5_take_49 : decode cX5_take 49 = .ok (.return_, 1) := by decide +kernel
theorem dX5_take_50 : decode cX5_take 50 = .ok (.aload_n 3, 1) := by decide +kernel
theorem dX5_take_51 : decode cX5_take 51 = .ok (.invokevirtual 87, 3) := by decide +kernel
theorem dX5_take_54 : decode cX5_take 54 = .ok (.aload_n 0, 1) := by decide +kernel
theorem dX5_take_55 : decode cX5_take 55 = .ok (.getfield 17, 3) := by decide +kernel
theorem dX5_take_58 : decode cX5_take 58 = .ok (.iload_n 1, 1) := by decide +kernel
theorem dX5_take_59 : decode cX5_take 59 = .ok (.iload_n 2, 1) := by decide +kernel
theorem dX5_take_60 : decode cX5_take 60 = .ok (.iastore, 1) := by decide +kernel
theorem dX5_take_61 : decode cX5_take 61 = .ok (.aload_n 0, 1) := by decide +kernel
theorem dX5_take_62 : decode cX5_take 62 = .ok (.iload_n 1, 1) := by decide +kernel
theorem dX5_take_63 : decode cX5_take 63 = .ok (.iconst 1, 1) := by decide +kernel
theorem dX5_take_64 : decode cX5_take 64 = .ok (.iadd, 1) := by decide +kernel
theorem dX5_take_65 : decode cX5_take 65 = .ok (.invokevirtual 62, 3) := by decide +kernel
theorem dX5_take_68 : decode cX5_take 68 = .ok (.return_, 1) := by decide +kernel
theorem dX5_isOver_0 : decode cX5_isOver 0 = .ok (.aload_n 0, 1) := by decide +kernel
theorem dX5_isOver_1 : decode cX5_isOver 1 = .ok (.invokevirtual 90, 3) := by decide +kernel
theorem dX5_isOver_4 : decode cX5_isOver 4 = .ok (.ifCond .eq 23, 3) := by decide +kernel
theorem dX5_isOver_7 : decode cX5_isOver 7 = .ok (.aload_n 0, 1) := by decide +kernel
theorem dX5_isOver_8 : decode cX5_isOver 8 = .ok (.getfield 24, 3) := by decide +kernel
theorem dX5_isOver_11 : decode cX5_isOver 11 = .ok (.iconst 1, 1) := by decide +kernel
theorem dX5_isOver_12 : decode cX5_isOver 12 = .ok (.if_icmp .eq 11, 3) := by decide +kernel
theorem dX5_isOver_15 : decode cX5_isOver 15 = .ok (.aload_n 0, 1) := by decide +kernel
theorem dX5_isOver_16 : decode cX5_isOver 16 = .ok (.getfield 24, 3) := by decide +kernel
theorem dX5_isOver_19 : decode cX5_isOver 19 = .ok (.iconst 3, 1) := by decide +kernel
theorem dX5_isOver_20 : decode cX5_isOver 20 = .ok (.if_icmp .ne 7, 3) := by decide +kernel
theorem dX5_isOver_23 : decode cX5_isOver 23 = .ok (.iconst 1, 1) := by decide +kernel
theorem dX5_isOver_24 : decode cX5_isOver 24 = .ok (.goto 4, 3) := by decide +kernel
theorem dX5_isOver_27 : decode cX5_isOver 27 = .ok (.iconst 0, 1) := by decide +kernel
theorem dX5_isOver_28 : decode cX5_isOver 28 = .ok (.ireturn, 1) := by decide +kernel
theorem dX5_weigh_0 : decode cX5_weigh 0 = .ok (.aload_n 0, 1) := by decide +kernel
theorem dX5_weigh_1 : decode cX5_weigh 1 = .ok (.dup, 1) := by decide +kernel
theorem dX5_weigh_2 : decode cX5_weigh 2 = .ok (.getfield 37, 3) := by decide +kernel
theorem dX5_weigh_5 : decode cX5_weigh 5 = .ok (.iconst 1, 1) := by decide +kernel
theorem dX5_weigh_6 : decode cX5_weigh 6 = .ok (.iadd, 1) := by decide +kernel
theorem dX5_weigh_7 : decode cX5_weigh 7 = .ok (.putfield 37, 3) := by decide +kernel
theorem dX5_weigh_10 : decode cX5_weigh 10 = .ok (.aload_n 0, 1) := by decide +kernel
theorem dX5_weigh_11 : decode cX5_weigh 11 = .ok (.dup, 1) := by decide +kernel
theorem dX5_weigh_12 : decode cX5_weigh 12 = .ok (.getfield 43, 3) := by decide +kernel
theorem dX5_weigh_15 : decode cX5_weigh 15 = .ok (.aload_n 1, 1) := by decide +kernel
theorem dX5_weigh_16 : decode cX5_weigh 16 = .ok (.getfield 93, 3) := by decide +kernel
theorem dX5_weigh_19 : decode cX5_weigh 19 = .ok (.ior, 1) := by decide +kernel
theorem dX5_weigh_20 : decode cX5_weigh 20 = .ok (.putfield 43, 3) := by decide +kernel
theorem dX5_weigh_23 : decode cX5_weigh 23 = .ok (.aload_n 0, 1) := by decide +kernel
theorem dX5_weigh_24 : decode cX5_weigh 24 = .ok (.dup, 1) := by decide +kernel
theorem dX5_weigh_25 : decode cX5_weigh 25 = .ok (.getfield 40, 3) := by decide +kernel
theorem dX5_weigh_28 : decode cX5_weigh 28 = .ok (.aload_n 1, 1) := by decide +kernel
theorem dX5_weigh_29 : decode cX5_weigh 29 = .ok (.aload_n 0, 1) := by decide +kernel
theorem dX5_weigh_30 : decode cX5_weigh 30 = .ok (.getfield 28, 3) := by decide +kernel
theorem dX5_weigh_33 : decode cX5_weigh 33 = .ok (.invokevirtual 96, 3) := by decide +kernel
theorem dX5_weigh_36 : decode cX5_weigh 36 = .ok (.ifCond .eq 7, 3) := by decide +kernel
theorem dX5_weigh_39 : decode cX5_weigh 39 = .ok (.iconst 1, 1) := by decide +kernel
theorem dX5_weigh_40 : decode cX5_weigh 40 = .ok (.goto 4, 3) := by decide +kernel
theorem dX5_weigh_43 : decode cX5_weigh 43 = .ok (.iconst 0, 1) := by decide +kernel
theorem dX5_weigh_44 : decode cX5_weigh 44 = .ok (.iadd, 1) := by decide +kernel
theorem dX5_weigh_45 : decode cX5_weigh 45 = .ok (.putfield 40, 3) := by decide +kernel
theorem dX5_weigh_48 : decode cX5_weigh 48 = .ok (.aload_n 0, 1) := by decide +kernel
theorem dX5_weigh_49 : decode cX5_weigh 49 = .ok (.aload_n 1, 1) := by decide +kernel
theorem dX5_weigh_50 : decode cX5_weigh 50 = .ok (.invokevirtual 99, 3) := by decide +kernel
theorem dX5_weigh_53 : decode cX5_weigh 53 = .ok (.istore_n 2, 1) := by decide +kernel
theorem dX5_weigh_54 : decode cX5_weigh 54 = .ok (.iload_n 2, 1) := by decide +kernel
theorem dX5_weigh_55 : decode cX5_weigh 55 = .ok (.aload_n 0, 1) := by decide +kernel
theorem dX5_weigh_56 : decode cX5_weigh 56 = .ok (.getfield 34, 3) := by decide +kernel
theorem dX5_weigh_59 : decode cX5_weigh 59 = .ok (.if_icmp .le 22, 3) := by decide +kernel
theorem dX5_weigh_62 : decode cX5_weigh 62 = .ok (.aload_n 0, 1) := by decide +kernel
theorem dX5_weigh_63 : decode cX5_weigh 63 = .ok (.iload_n 2, 1) := by decide +kernel
theorem dX5_weigh_64 : decode cX5_weigh 64 = .ok (.putfield 34, 3) := by decide +kernel
theorem dX5_weigh_67 : decode cX5_weigh 67 = .ok (.aload_n 0, 1) := by decide +kernel
theorem dX5_weigh_68 : decode cX5_weigh 68 = .ok (.getfield 17, 3) := by decide +kernel
theorem dX5_weigh_71 : decode cX5_weigh 71 = .ok (.iconst 0, 1) := by decide +kernel
theorem dX5_weigh_72 : decode cX5_weigh 72 = .ok (.aload_n 0, 1) := by decide +kernel
theorem dX5_weigh_73 : decode cX5_weigh 73 = .ok (.getfield 21, 3) := by decide +kernel
theorem dX5_weigh_76 : decode cX5_weigh 76 = .ok (.iconst 0, 1) := by decide +kernel
theorem dX5_weigh_77 : decode cX5_weigh 77 = .ok (.iconst 4, 1) := by decide +kernel
theorem dX5_weigh_78 : decode cX5_weigh 78 = .ok (.invokestatic 103, 3) := by decide +kernel
theorem dX5_weigh_81 : decode cX5_weigh 81 = .ok (.return_, 1) := by decide +kernel
theorem dX5_rankOf_0 : decode cX5_rankOf 0 = .ok (.aload_n 0, 1) := by decide +kernel
theorem dX5_rankOf_1 : decode cX5_rankOf 1 = .ok (.getfield 24, 3) := by decide +kernel
theorem dX5_rankOf_4 : decode cX5_rankOf 4 = .ok (.tableswitch 63 1 3 #[28, 45, 50], 28) := by decide +kernel
theorem dX5_rankOf_32 : decode cX5_rankOf 32 = .ok (.aload_n 1, 1) := by decide +kernel
theorem dX5_rankOf_33 : decode cX5_rankOf 33 = .ok (.aload_n 0, 1) := by decide +kernel
theorem dX5_rankOf_34 : decode cX5_rankOf 34 = .ok (.getfield 28, 3) := by decide +kernel
theorem dX5_rankOf_37 : decode cX5_rankOf 37 = .ok (.invokevirtual 96, 3) := by decide +kernel
theorem dX5_rankOf_40 : decode cX5_rankOf 40 = .ok (.ifCond .eq 7, 3) := by decide +kernel
theorem dX5_rankOf_43 : decode cX5_rankOf 43 = .ok (.iconst 0, 1) := by decide +kernel
theorem dX5_rankOf_44 : decode cX5_rankOf 44 = .ok (.goto 4, 3) := by decide +kernel
theorem dX5_rankOf_47 : decode cX5_rankOf 47 = .ok (.iconst (-1), 1) := by decide +kernel
theorem dX5_rankOf_48 : decode cX5_rankOf 48 = .ok (.ireturn, 1) := by decide +kernel
theorem dX5_rankOf_49 : decode cX5_rankOf 49 = .ok (.aload_n 1, 1) := by decide +kernel
theorem dX5_rankOf_50 : decode cX5_rankOf 50 = .ok (.invokevirtual 109, 3) := by decide +kernel
theorem dX5_rankOf_53 : decode cX5_rankOf 53 = .ok (.ireturn, 1) := by decide +kernel
theorem dX5_rankOf_54 : decode cX5_rankOf 54 = .ok (.aload_n 1, 1) := by decide +kernel
theorem dX5_rankOf_55 : decode cX5_rankOf 55 = .ok (.invokevirtual 84, 3) := by decide +kernel
theorem dX5_rankOf_58 : decode cX5_rankOf 58 = .ok (.ifCond .eq 7, 3) := by decide +kernel
theorem dX5_rankOf_61 : decode cX5_rankOf 61 = .ok (.iconst 0, 1) := by decide +kernel
theorem dX5_rankOf_62 : decode cX5_rankOf 62 = .ok (.goto 4, 3) := by decide +kernel
theorem dX5_rankOf_65 : decode cX5_rankOf 65 = .ok (.iconst (-1), 1) := by decide +kernel
theorem dX5_rankOf_66 : decode cX5_rankOf 66 = .ok (.ireturn, 1) := by decide +kernel
theorem dX5_rankOf_67 : decode cX5_rankOf 67 = .ok (.iconst (-1), 1) := by decide +kernel
theorem dX5_rankOf_68 : decode cX5_rankOf 68 = .ok (.ireturn, 1) := by decide +kernel
theorem dX6_init_0 : decode cX6_init 0 = .ok (.aload_n 0, 1) := by decide +kernel
theorem dX6_init_1 : decode cX6_init 1 = .ok (.invokespecial 3, 3) := by decide +kernel
theorem dX6_init_4 : decode cX6_init 4 = .ok (.return_, 1) := by decide +kernel
theorem dX6_read_0 : decode cX6_read 0 = .ok (.aload_n 2, 1) := by decide +kernel
theorem dX6_read_1 : decode cX6_read 1 = .ok (.invokevirtual 9, 3) := by decide +kernel
theorem dX6_read_4 : decode cX6_read 4 = .ok (.aload_n 3, 1) := by decide +kernel
theorem dX6_read_5 : decode cX6_read 5 = .ok (.invokevirtual 14, 3) := by decide +kernel
theorem dX6_read_8 : decode cX6_read 8 = .ok (.aload_n 1, 1) := by decide +kernel
theorem dX6_read_9 : decode cX6_read 9 = .ok (.iconst 0, 1) := by decide +kernel
theorem dX6_read_10 : decode cX6_read 10 = .ok (.invokestatic 17, 3) := by decide +kernel
theorem dX6_read_13 : decode cX6_read 13 = .ok (.istore 4, 2) := by decide +kernel
theorem dX6_read_15 : decode cX6_read 15 = .ok (.aload_n 1, 1) := by decide +kernel
theorem dX6_read_16 : decode cX6_read 16 = .ok (.iload 4, 2) := by decide +kernel
theorem dX6_read_18 : decode cX6_read 18 = .ok (.invokevirtual 23, 3) := by decide +kernel
theorem dX6_read_21 : decode cX6_read 21 = .ok (.bipush 118, 2) := by decide +kernel
theorem dX6_read_23 : decode cX6_read 23 = .ok (.if_icmp .eq 6, 3) := by decide +kernel
theorem dX6_read_26 : decode cX6_read 26 = .ok (.iload 4, 2) := by decide +kernel
theorem dX6_read_28 : decode cX6_read 28 = .ok (.ireturn, 1) := by decide +kernel
theorem dX6_read_29 : decode cX6_read 29 = .ok (.aload_n 1, 1) := by decide +kernel
theorem dX6_read_30 : decode cX6_read 30 = .ok (.iload 4, 2) := by decide +kernel
theorem dX6_read_32 : decode cX6_read 32 = .ok (.iconst 1, 1) := by decide +kernel
theorem dX6_read_33 : decode cX6_read 33 = .ok (.iadd, 1) := by decide +kernel
theorem dX6_read_34 : decode cX6_read 34 = .ok (.aload_n 2, 1) := by decide +kernel
theorem dX6_read_35 : decode cX6_read 35 = .ok (.invokestatic 29, 3) := by decide +kernel
theorem dX6_read_38 : decode cX6_read 38 = .ok (.istore 4, 2) := by decide +kernel
theorem dX6_read_40 : decode cX6_read 40 = .ok (.aload_n 2, 1) := by decide +kernel
theorem dX6_read_41 : decode cX6_read 41 = .ok (.invokevirtual 33, 3) := by decide +kernel
theorem dX6_read_44 : decode cX6_read 44 = .ok (.ifCond .ne 6, 3) := by decide +kernel
theorem dX6_read_47 : decode cX6_read 47 = .ok (.iload 4, 2) := by decide +kernel
theorem dX6_read_49 : decode cX6_read 49 = .ok (.ireturn, 1) := by decide +kernel
theorem dX6_read_50 : decode cX6_read 50 = .ok (.aload_n 1, 1) := by decide +kernel
theorem dX6_read_51 : decode cX6_read 51 = .ok (.iload 4, 2) := by decide +kernel
theorem dX6_read_53 : decode cX6_read 53 = .ok (.invokestatic 17, 3) := by decide +kernel
theorem dX6_read_56 : decode cX6_read 56 = .ok (.istore 4, 2) := by decide +kernel
theorem dX6_read_58 : decode cX6_read 58 = .ok (.iconst 0, 1) := by decide +kernel
theorem dX6_read_59 : decode cX6_read 59 = .ok (.istore 5, 2) := by decide +kernel
theorem dX6_read_61 : decode cX6_read 61 = .ok (.iload 5, 2) := by decide +kernel
theorem dX6_read_63 : decode cX6_read 63 = .ok (.iconst 5, 1) := by decide +kernel
theorem dX6_read_64 : decode cX6_read 64 = .ok (.if_icmp .ge 54, 3) := by decide +kernel
theorem dX6_read_67 : decode cX6_read 67 = .ok (.aload_n 1, 1) := by decide +kernel
theorem dX6_read_68 : decode cX6_read 68 = .ok (.iload 4, 2) := by decide +kernel
theorem dX6_read_70 : decode cX6_read 70 = .ok (.invokevirtual 37, 3) := by decide +kernel
theorem dX6_read_73 : decode cX6_read 73 = .ok (.ifCond .eq 45, 3) := by decide +kernel
theorem dX6_read_76 : decode cX6_read 76 = .ok (.aload_n 1, 1) := by decide +kernel
theorem dX6_read_77 : decode cX6_read 77 = .ok (.iload 4, 2) := by decide +kernel
theorem dX6_read_79 : decode cX6_read 79 = .ok (.invokestatic 41, 3) := by decide +kernel
theorem dX6_read_82 : decode cX6_read 82 = .ok (.istore 6, 2) := by decide +kernel
theorem dX6_read_84 : decode cX6_read 84 = .ok (.iload 6, 2) := by decide +kernel
theorem dX6_read_86 : decode cX6_read 86 = .ok (.bipush (-9), 2) := by decide +kernel
theorem dX6_read_88 : decode cX6_read 88 = .ok (.if_icmp .eq 6, 3) := by decide +kernel
theorem dX6_read_91 : decode cX6_read 91 = .ok (.iload 6, 2) := by decide +kernel
theorem dX6_read_93 : decode cX6_read 93 = .ok (.ireturn, 1) := by decide +kernel
theorem dX6_read_94 : decode cX6_read 94 = .ok (.aload_n 1, 1) := by decide +kernel
theorem dX6_read_95 : decode cX6_read 95 = .ok (.iload 4, 2) := by decide +kernel
theorem dX6_read_97 : decode cX6_read 97 = .ok (.aload_n 2, 1) := by decide +kernel
theorem dX6_read_98 : decode cX6_read 98 = .ok (.aload_n 3, 1) := by decide +kernel
theorem dX6_read_99 : decode cX6_read 99 = .ok (.invokestatic 44, 3) := by decide +kernel
theorem dX6_read_102 : decode cX6_read 102 = .ok (.aload_n 1, 1) := by decide +kernel
theorem dX6_read_103 : decode cX6_read 103 = .ok (.iload 4, 2) := by decide +kernel
theorem dX6_read_105 : decode cX6_read 105 = .ok (.iconst 4, 1) := by decide +kernel
theorem dX6_read_106 : decode cX6_read 106 = .ok (.iadd, 1) := by decide +kernel
theorem dX6_read_107 : decode cX6_read 107 = .ok (.invokestatic 17, 3) := by decide +kernel
theorem dX6_read_110 : decode cX6_read 110 = .ok (.istore 4, 2) := by decide +kernel
theorem dX6_read_112 : decode cX6_read 112 = .ok (.iinc 5 1, 3) := by decide +kernel
theorem dX6_read_115 : decode cX6_read 115 = .ok (.goto (-54), 3) := by decide +kernel
theorem dX6_read_118 : decode cX6_read 118 = .ok (.aload_n 1, 1) := by decide +kernel
theorem dX6_read_119 : decode cX6_read 119 = .ok (.iload 4, 2) := by decide +kernel
theorem dX6_read_121 : decode cX6_read 121 = .ok (.invokevirtual 37, 3) := by decide +kernel
theorem dX6_read_124 : decode cX6_read 124 = .ok (.ifCond .ne 10, 3) := by decide +kernel
theorem dX6_read_127 : decode cX6_read 127 = .ok (.aload_n 2, 1) := by decide +kernel
theorem dX6_read_128 : decode cX6_read 128 = .ok (.invokevirtual 48, 3) := by decide +kernel
theorem dX6_read_131 : decode cX6_read 131 = .ok (.ifCond .eq 8, 3) := by decide +kernel
theorem dX6_read_134 : decode cX6_read 134 = .ok (.iload 4, 2) := by decide +kernel
theorem dX6_read_136 : decode cX6_read 136 = .ok (.goto 5, 3) := by decide +kernel
theorem dX6_read_139 : decode cX6_read 139 = .ok (.bipush (-9), 2) := by decide +kernel
theorem dX6_read_141 : decode cX6_read 141 = .ok (.ireturn, 1) := by decide +kernel
theorem dX6_skipBlanks_0 : decode cX6_skipBlanks 0 = .ok (.iload_n 1, 1) := by decide +kernel
theorem dX6_skipBlanks_1 : decode cX6_skipBlanks 1 = .ok (.istore_n 2, 1) := by decide +kernel
theorem dX6_skipBlanks_2 : decode cX6_skipBlanks 2 = .ok (.iload_n 2, 1) := by decide +kernel
theorem dX6_skipBlanks_3 : decode cX6_skipBlanks 3 = .ok (.aload_n 0, 1) := by decide +kernel
theorem dX6_skipBlanks_4 : decode cX6_skipBlanks 4 = .ok (.getfield 51, 3) := by decide +kernel
theorem dX6_skipBlanks_7 : decode cX6_skipBlanks 7 = .ok (.if_icmp .ge 19, 3) := by decide +kernel
theorem dX6_skipBlanks_10 : decode cX6_skipBlanks 10 = .ok (.aload_n 0, 1) := by decide +kernel
theorem dX6_skipBlanks_11 : decode cX6_skipBlanks 11 = .ok (.iload_n 2, 1) := by decide +kernel
theorem dX6_skipBlanks_12 : decode cX6_skipBlanks 12 = .ok (.invokevirtual 23, 3) := by decide +kernel
theorem dX6_skipBlanks_15 : decode cX6_skipBlanks 15 = .ok (.bipush 32, 2) := by decide +kernel
theorem dX6_skipBlanks_17 : decode cX6_skipBlanks 17 = .ok (.if_icmp .ne 9, 3) := by decide +kernel
theorem dX6_skipBlanks_20 : decode cX6_skipBlanks 20 = .ok (.iinc 2 1, 3) := by decide +kernel
theorem dX6_skipBlanks_23 : decode cX6_skipBlanks 23 = .ok (.goto (-21), 3) := by decide +kernel
theorem dX6_skipBlanks_26 : decode cX6_skipBlanks 26 = .ok (.iload_n 2, 1) := by decide +kernel
theorem dX6_skipBlanks_27 : decode cX6_skipBlanks 27 = .ok (.ireturn, 1) := by decide +kernel
theorem dX6_readWinds_0 : decode cX6_readWinds 0 = .ok (.iload_n 1, 1) := by decide +kernel
theorem dX6_readWinds_1 : decode cX6_readWinds 1 = .ok (.istore_n 3, 1) := by decide +kernel
theorem dX6_readWinds_2 : decode cX6_readWinds 2 = .ok (.iload_n 3, 1) := by decide +kernel
theorem dX6_readWinds_3 : decode cX6_readWinds 3 = .ok (.aload_n 0, 1) := by decide +kernel
theorem dX6_readWinds_4 : decode cX6_readWinds 4 = .ok (.getfield 51, 3) := by decide +kernel
theorem dX6_readWinds_7 : decode cX6_readWinds 7 = .ok (.if_icmp .ge 40, 3) := by decide +kernel
theorem dX6_readWinds_10 : decode cX6_readWinds 10 = .ok (.aload_n 2, 1) := by decide +kernel
theorem dX6_readWinds_11 : decode cX6_readWinds 11 = .ok (.invokevirtual 55, 3) := by decide +kernel
theorem dX6_readWinds_14 : decode cX6_readWinds 14 = .ok (.ifCond .ne 33, 3) := by decide +kernel
theorem dX6_readWinds_17 : decode cX6_readWinds 17 = .ok (.aload_n 0, 1) := by decide +kernel
theorem dX6_readWinds_18 : decode cX6_readWinds 18 = .ok (.iload_n 3, 1) := by decide +kernel
theorem dX6_readWinds_19 : decode cX6_readWinds 19 = .ok (.invokevirtual 23, 3) := by decide +kernel
theorem dX6_readWinds_22 : decode cX6_readWinds 22 = .ok (.iconst 2, 1) := by decide +kernel
theorem dX6_readWinds_23 : decode cX6_readWinds 23 = .ok (.invokestatic 58, 3) := by decide +kernel
theorem dX6_readWinds_26 : decode cX6_readWinds 26 = .ok (.ifCond .eq 21, 3) := by decide +kernel
theorem dX6_readWinds_29 : decode cX6_readWinds 29 = .ok (.aload_n 2, 1) := by decide +kernel
theorem dX6_readWinds_30 : decode cX6_readWinds 30 = .ok (.aload_n 0, 1) := by decide +kernel
theorem dX6_readWinds_31 : decode cX6_readWinds 31 = .ok (.iload_n 3, 1) := by decide +kernel
theorem dX6_readWinds_32 : decode cX6_readWinds 32 = .ok (.invokevirtual 23, 3) := by decide +kernel
theorem dX6_readWinds_35 : decode cX6_readWinds 35 = .ok (.bipush 48, 2) := by decide +kernel
theorem dX6_readWinds_37 : decode cX6_readWinds 37 = .ok (.isub, 1) := by decide +kernel
theorem dX6_readWinds_38 : decode cX6_readWinds 38 = .ok (.invokevirtual 62, 3) := by decide +kernel
theorem dX6_readWinds_41 : decode cX6_readWinds 41 = .ok (.iinc 3 1, 3) := by decide +kernel
theorem dX6_readWinds_44 : decode cX6_readWinds 44 = .ok (.goto (-42), 3) := by decide +kernel
theorem dX6_readWinds_47 : decode cX6_readWinds 47 = .ok (.iload_n 3, 1) := by decide +kernel
theorem dX6_readWinds_48 : decode cX6_readWinds 48 = .ok (.ireturn, 1) := by decide +kernel
theorem dX6_faultOfHouse_0 : decode cX6_faultOfHouse 0 = .ok (.aload_n 0, 1) := by decide +kernel
theorem dX6_faultOfHouse_1 : decode cX6_faultOfHouse 1 = .ok (.iload_n 1, 1) := by decide +kernel
theorem dX6_faultOfHouse_2 : decode cX6_faultOfHouse 2 = .ok (.invokevirtual 23, 3) := by decide +kernel
theorem dX6_faultOfHouse_5 : decode cX6_faultOfHouse 5 = .ok (.invokestatic 66, 3) := by decide +kernel
theorem dX6_faultOfHouse_8 : decode cX6_faultOfHouse 8 = .ok (.bipush (-9), 2) := by decide +kernel
theorem dX6_faultOfHouse_10 : decode cX6_faultOfHouse 10 = .ok (.if_icmp .ne 5, 3) := by decide +kernel
theorem dX6_faultOfHouse_13 : decode cX6_faultOfHouse 13 = .ok (.iload_n 1, 1) := by decide +kernel
theorem dX6_faultOfHouse_14 : decode cX6_faultOfHouse 14 = .ok (.ireturn, 1) := by decide +kernel
theorem dX6_faultOfHouse_15 : decode cX6_faultOfHouse 15 = .ok (.aload_n 0, 1) := by decide +kernel
theorem dX6_faultOfHouse_16 : decode cX6_faultOfHouse 16 = .ok (.iload_n 1, 1) := by decide +kernel
theorem dX6_faultOfHouse_17 : decode cX6_faultOfHouse 17 = .ok (.iconst 1, 1) := by decide +kernel
theorem dX6_faultOfHouse_18 : decode cX6_faultOfHouse 18 = .ok (.iadd, 1) := by decide +kernel
theorem dX6_faultOfHouse_19 : decode cX6_faultOfHouse 19 = .ok (.invokevirtual 23, 3) := by decide +kernel
theorem dX6_faultOfHouse_22 : decode cX6_faultOfHouse 22 = .ok (.bipush 9, 2) := by decide +kernel
theorem dX6_faultOfHouse_24 : decode cX6_faultOfHouse 24 = .ok (.invokestatic 58, 3) := by decide +kernel
theorem dX6_faultOfHouse_27 : decode cX6_faultOfHouse 27 = .ok (.ifCond .ne 7, 3) := by decide +kernel
theorem dX6_faultOfHouse_30 : decode cX6_faultOfHouse 30 = .ok (.iload_n 1, 1) := by decide +kernel
theorem dX6_faultOfHouse_31 : decode cX6_faultOfHouse 31 = .ok (.iconst 1, 1) := by decide +kernel
theorem dX6_faultOfHouse_32 : decode cX6_faultOfHouse 32 = .ok (.iadd, 1) := by decide +kernel
theorem dX6_faultOfHouse_33 : decode cX6_faultOfHouse 33 = .ok (.ireturn, 1) := by decide +kernel
theorem dX6_faultOfHouse_34 : decode cX6_faultOfHouse 34 = .ok (.aload_n 0, 1) := by decide +kernel
theorem dX6_faultOfHouse_35 : decode cX6_faultOfHouse 35 = .ok (.iload_n 1, 1) := by decide +kernel
theorem dX6_faultOfHouse_36 : decode cX6_faultOfHouse 36 = .ok (.iconst 2, 1) := by decide +kernel
theorem dX6_faultOfHouse_37 : decode cX6_faultOfHouse 37 = .ok (.iadd, 1) := by decide +kernel
theorem dX6_faultOfHouse_38 : decode cX6_faultOfHouse 38 = .ok (.invokevirtual 23, 3) := by decide +kernel
theorem dX6_faultOfHouse_41 : decode cX6_faultOfHouse 41 = .ok (.iconst 3, 1) := by decide +kernel
theorem dX6_faultOfHouse_42 : decode cX6_faultOfHouse 42 = .ok (.invokestatic 58, 3) := by decide +kernel
theorem dX6_faultOfHouse_45 : decode cX6_faultOfHouse 45 = .ok (.ifCond .ne 7, 3) := by decide +kernel
theorem dX6_faultOfHouse_48 : decode cX6_faultOfHouse 48 = .ok (.iload_n 1, 1) := by decide +kernel
theorem dX6_faultOfHouse_49 : decode cX6_faultOfHouse 49 = .ok (.iconst 2, 1) := by decide +kernel
theorem dX6_faultOfHouse_50 : decode cX6_faultOfHouse 50 = .ok (.iadd, 1) := by decide +kernel
theorem dX6_faultOfHouse_51 : decode cX6_faultOfHouse 51 = .ok (.ireturn, 1) := by decide +kernel
theorem dX6_faultOfHouse_52 : decode cX6_faultOfHouse 52 = .ok (.aload_n 0, 1) := by decide +kernel
theorem dX6_faultOfHouse_53 : decode cX6_faultOfHouse 53 = .ok (.iload_n 1, 1) := by decide +kernel
theorem dX6_faultOfHouse_54 : decode cX6_faultOfHouse 54 = .ok (.iconst 3, 1) := by decide +kernel
theorem dX6_faultOfHouse_55 : decode cX6_faultOfHouse 55 = .ok (.iadd, 1) := by decide +kernel
theorem dX6_faultOfHouse_56 : decode cX6_faultOfHouse 56 = .ok (.invokevirtual 23, 3) := by decide +kernel
theorem dX6_faultOfHouse_59 : decode cX6_faultOfHouse 59 = .ok (.bipush 45, 2) := by decide +kernel
theorem dX6_faultOfHouse_61 : decode cX6_faultOfHouse 61 = .ok (.if_icmp .eq 22, 3) := by decide +kernel
theorem dX6_faultOfHouse_64 : decode cX6_faultOfHouse 64 = .ok (.aload_n 0, 1) := by decide +kernel
theorem dX6_faultOfHouse_65 : decode cX6_faultOfHouse 65 = .ok (.iload_n 1, 1) := by decide +kernel
theorem dX6_faultOfHouse_66 : decode cX6_faultOfHouse 66 = .ok (.iconst 3, 1) := by decide +kernel
theorem dX6_faultOfHouse_67 : decode cX6_faultOfHouse 67 = .ok (.iadd, 1) := by decide +kernel
theorem dX6_faultOfHouse_68 : decode cX6_faultOfHouse 68 = .ok (.invokevirtual 23, 3) := by decide +kernel
theorem dX6_faultOfHouse_71 : decode cX6_faultOfHouse 71 = .ok (.bipush 9, 2) := by decide +kernel
theorem dX6_faultOfHouse_73 : decode cX6_faultOfHouse 73 = .ok (.invokestatic 58, 3) := by decide +kernel
theorem dX6_faultOfHouse_76 : decode cX6_faultOfHouse 76 = .ok (.ifCond .ne 7, 3) := by decide +kernel
theorem dX6_faultOfHouse_79 : decode cX6_faultOfHouse 79 = .ok (.iload_n 1, 1) := by decide +kernel
theorem dX6_faultOfHouse_80 : decode cX6_faultOfHouse 80 = .ok (.iconst 3, 1) := by decide +kernel
theorem dX6_faultOfHouse_81 : decode cX6_faultOfHouse 81 = .ok (.iadd, 1) := by decide +kernel
theorem dX6_faultOfHouse_82 : decode cX6_faultOfHouse 82 = .ok (.ireturn, 1) := by decide +kernel
theorem dX6_faultOfHouse_83 : decode cX6_faultOfHouse 83 = .ok (.bipush (-9), 2) := by decide +kernel
theorem dX6_faultOfHouse_85 : decode cX6_faultOfHouse 85 = .ok (.ireturn, 1) := by decide +kernel
theorem dX6_addHouse_0 : decode cX6_addHouse 0 = .ok (.aload_n 0, 1) := by decide +kernel
theorem dX6_addHouse_1 : decode cX6_addHouse 1 = .ok (.iload_n 1, 1) := by decide +kernel
theorem dX6_addHouse_2 : decode cX6_addHouse 2 = .ok (.iconst 3, 1) := by decide +kernel
theorem dX6_addHouse_3 : decode cX6_addHouse 3 = .ok (.iadd, 1) := by decide +kernel
theorem dX6_addHouse_4 : decode cX6_addHouse 4 = .ok (.invokevirtual 23, 3) := by decide +kernel
theorem dX6_addHouse_7 : decode cX6_addHouse 7 = .ok (.istore 4, 2) := by decide +kernel
theorem dX6_addHouse_9 : decode cX6_addHouse 9 = .ok (.aload_n 3, 1) := by decide +kernel
theorem dX6_addHouse_10 : decode cX6_addHouse 10 = .ok (.aload_n 2, 1) := by decide +kernel
theorem dX6_addHouse_11 : decode cX6_addHouse 11 = .ok (.getfield 71, 3) := by decide +kernel
theorem dX6_addHouse_14 : decode cX6_addHouse 14 = .ok (.aload_n 0, 1) := by decide +kernel
theorem dX6_addHouse_15 : decode cX6_addHouse 15 = .ok (.iload_n 1, 1) := by decide +kernel
theorem dX6_addHouse_16 : decode cX6_addHouse 16 = .ok (.iconst 1, 1) := by decide +kernel
theorem dX6_addHouse_17 : decode cX6_addHouse 17 = .ok (.iadd, 1) := by decide +kernel
theorem dX6_addHouse_18 : decode cX6_addHouse 18 = .ok (.invokevirtual 23, 3) := by decide +kernel
theorem dX6_addHouse_21 : decode cX6_addHouse 21 = .ok (.bipush 48, 2) := by decide +kernel
theorem dX6_addHouse_23 : decode cX6_addHouse 23 = .ok (.isub, 1) := by decide +kernel
theorem dX6_addHouse_24 : decode cX6_addHouse 24 = .ok (.aload_n 0, 1) := by decide +kernel
theorem dX6_addHouse_25 : decode cX6_addHouse 25 = .ok (.iload_n 1, 1) := by decide +kernel
theorem dX6_addHouse_26 : decode cX6_addHouse 26 = .ok (.iconst 2, 1) := by decide +kernel
theorem dX6_addHouse_27 : decode cX6_addHouse 27 = .ok (.iadd, 1) := by decide +kernel
theorem dX6_addHouse_28 : decode cX6_addHouse 28 = .ok (.invokevirtual 23, 3) := by decide +kernel
theorem dX6_addHouse_31 : decode cX6_addHouse 31 = .ok (.bipush 48, 2) := by decide +kernel
theorem dX6_addHouse_33 : decode cX6_addHouse 33 = .ok (.isub, 1) := by decide +kernel
theorem dX6_addHouse_34 : decode cX6_addHouse 34 = .ok (.invokevirtual 74, 3) := by decide +kernel
theorem dX6_addHouse_37 : decode cX6_addHouse 37 = .ok (.aload_n 2, 1) := by decide +kernel
theorem dX6_addHouse_38 : decode cX6_addHouse 38 = .ok (.aload_n 0, 1) := by decide +kernel
theorem dX6_addHouse_39 : decode cX6_addHouse 39 = .ok (.iload_n 1, 1) := by decide +kernel
theorem dX6_addHouse_40 : decode cX6_addHouse 40 = .ok (.invokevirtual 23, 3) := by decide +kernel
theorem dX6_addHouse_43 : decode cX6_addHouse 43 = .ok (.invokestatic 66, 3) := by decide +kernel
theorem dX6_addHouse_46 : decode cX6_addHouse 46 = .ok (.iload 4, 2) := by decide +kernel
theorem dX6_addHouse_48 : decode cX6_addHouse 48 = .ok (.bipush 45, 2) := by decide +kernel
theorem dX6_addHouse_50 : decode cX6_addHouse 50 = .ok (.if_icmp .ne 8, 3) := by decide +kernel
theorem dX6_addHouse_53 : decode cX6_addHouse 53 = .ok (.bipush (-9), 2) := by decide +kernel
theorem dX6_addHouse_55 : decode cX6_addHouse 55 = .ok (.goto 8, 3) := by decide +kernel
theorem dX6_addHouse_58 : decode cX6_addHouse 58 = .ok (.iload 4, 2) := by decide +kernel
theorem dX6_addHouse_60 : decode cX6_addHouse 60 = .ok (.bipush 48, 2) := by decide +kernel
theorem dX6_addHouse_62 : decode cX6_addHouse 62 = .ok (.isub, 1) := by decide +kernel
theorem dX6_addHouse_63 : decode cX6_addHouse 63 = .ok (.invokevirtual 78, 3) := by decide +kernel
theorem dX6_addHouse_66 : decode cX6_addHouse 66 = .ok (.return_, 1) := by decide +kernel
theorem dX6_isFigure_0 : decode cX6_isFigure 0 = .ok (.iload_n 0, 1) := by decide +kernel
theorem dX6_isFigure_1 : decode cX6_isFigure 1 = .ok (.bipush 48, 2) := by decide +kernel
theorem dX6_isFigure_3 : decode cX6_isFigure 3 = .ok (.if_icmp .lt 15, 3) := by decide +kernel
theorem dX6_isFigure_6 : decode cX6_isFigure 6 = .ok (.iload_n 0, 1) := by decide +kernel
theorem dX6_isFigure_7 : decode cX6_isFigure 7 = .ok (.bipush 48, 2) := by decide +kernel
theorem dX6_isFigure_9 : decode cX6_isFigure 9 = .ok (.iload_n 1, 1) := by decide +kernel
theorem dX6_isFigure_10 : decode cX6_isFigure 10 = .ok (.iadd, 1) := by decide +kernel
theorem dX6_isFigure_11 : decode cX6_isFigure 11 = .ok (.if_icmp .gt 7, 3) := by decide +kernel
theorem dX6_isFigure_14 : decode cX6_isFigure 14 = .ok (.iconst 1, 1) := by decide +kernel
theorem dX6_isFigure_15 : decode cX6_isFigure 15 = .ok (.goto 4, 3) := by decide +kernel
theorem dX6_isFigure_18 : decode cX6_isFigure 18 = .ok (.iconst 0, 1) := by decide +kernel
theorem dX6_isFigure_19 : decode cX6_isFigure 19 = .ok (.ireturn, 1) := by decide +kernel
theorem dX7_init_0 : decode cX7_init 0 = .ok (.aload_n 0, 1) := by decide +kernel
theorem dX7_init_1 : decode cX7_init 1 = .ok (.invokespecial 3, 3) := by decide +kernel
theorem dX7_init_4 : decode cX7_init 4 = .ok (.aload_n 0, 1) := by decide +kernel
theorem dX7_init_5 : decode cX7_init 5 = .ok (.bipush 40, 2) := by decide +kernel
theorem dX7_init_7 : decode cX7_init 7 = .ok (.newarray .int, 2) := by decide +kernel
theorem dX7_init_9 : decode cX7_init 9 = .ok (.putfield 9, 3) := by decide +kernel
theorem dX7_init_12 : decode cX7_init 12 = .ok (.aload_n 0, 1) := by decide +kernel
theorem dX7_init_13 : decode cX7_init 13 = .ok (.iconst (-1), 1) := by decide +kernel
theorem dX7_init_14 : decode cX7_init 14 = .ok (.putfield 15, 3) := by decide +kernel
theorem dX7_init_17 : decode cX7_init 17 = .ok (.return_, 1) := by decide +kernel
theorem dX7_isThere_0 : decode cX7_isThere 0 = .ok (.aload_n 0, 1) := by decide +kernel
theorem dX7_isThere_1 : decode cX7_isThere 1 = .ok (.getfield 15, 3) := by decide +kernel
theorem dX7_isThere_4 : decode cX7_isThere 4 = .ok (.ifCond .lt 7, 3) := by decide +kernel
theorem dX7_isThere_7 : decode cX7_isThere 7 = .ok (.iconst 1, 1) := by decide +kernel
theorem dX7_isThere_8 : decode cX7_isThere 8 = .ok (.goto 4, 3) := by decide +kernel
theorem dX7_isThere_11 : decode cX7_isThere 11 = .ok (.iconst 0, 1) := by decide +kernel
theorem dX7_isThere_12 : decode cX7_isThere 12 = .ok (.ireturn, 1) := by decide +kernel
theorem dX7_has_0 : decode cX7_has 0 = .ok (.iload_n 1, 1) := by decide +kernel
theorem dX7_has_1 : decode cX7_has 1 = .ok (.ifCond .lt 15, 3) := by decide +kernel
theorem dX7_has_4 : decode cX7_has 4 = .ok (.iload_n 1, 1) := by decide +kernel
theorem dX7_has_5 : decode cX7_has 5 = .ok (.aload_n 0, 1) := by decide +kernel
theorem dX7_has_6 : decode cX7_has 6 = .ok (.getfield 15, 3) := by decide +kernel
theorem dX7_has_9 : decode cX7_has 9 = .ok (.if_icmp .ge 7, 3) := by decide +kernel
theorem dX7_has_12 : decode cX7_has 12 = .ok (.iconst 1, 1) := by decide +kernel
theorem dX7_has_13 : decode cX7_has 13 = .ok (.goto 4, 3) := by decide +kernel
theorem dX7_has_16 : decode cX7_has 16 = .ok (.iconst 0, 1) := by decide +kernel
theorem dX7_has_17 : decode cX7_has 17 = .ok (.ireturn, 1) := by decide +kernel
theorem dX7_hasSpan_0 : decode cX7_hasSpan 0 = .ok (.iload_n 1, 1) := by decide +kernel
theorem dX7_hasSpan_1 : decode cX7_hasSpan 1 = .ok (.ifCond .lt 21, 3) := by decide +kernel
theorem dX7_hasSpan_4 : decode cX7_hasSpan 4 = .ok (.iload_n 2, 1) := by decide +kernel
theorem dX7_hasSpan_5 : decode cX7_hasSpan 5 = .ok (.ifCond .lt 17, 3) := by decide +kernel
theorem dX7_hasSpan_8 : decode cX7_hasSpan 8 = .ok (.iload_n 1, 1) := by decide +kernel
theorem dX7_hasSpan_9 : decode cX7_hasSpan 9 = .ok (.aload_n 0, 1) := by decide +kernel
theorem dX7_hasSpan_10 : decode cX7_hasSpan 10 = .ok (.getfield 15, 3) := by decide +kernel
theorem dX7_hasSpan_13 : decode cX7_hasSpan 13 = .ok (.iload_n 2, 1) := by decide +kernel
theorem dX7_hasSpan_14 : decode cX7_hasSpan 14 = .ok (.isub, 1) := by decide +kernel
theorem dX7_hasSpan_15 : decode cX7_hasSpan 15 = .ok (.if_icmp .gt 7, 3) := by decide +kernel
theorem dX7_hasSpan_18 : decode cX7_hasSpan 18 = .ok (.iconst 1, 1) := by decide +kernel
theorem dX7_hasSpan_19 : decode cX7_hasSpan 19 = .ok (.goto 4, 3) := by decide +kernel
theorem dX7_hasSpan_22 : decode cX7_hasSpan 22 = .ok (.iconst 0, 1) := by decide +kernel
theorem dX7_hasSpan_23 : decode cX7_hasSpan 23 = .ok (.ireturn, 1) := by decide +kernel
theorem dX7_begin_0 : decode cX7_begin 0 = .ok (.iload_n 1, 1) := by decide +kernel
theorem dX7_begin_1 : decode cX7_begin 1 = .ok (.ifCond .lt 9, 3) := by decide +kernel
theorem dX7_begin_4 : decode cX7_begin 4 = .ok (.iload_n 1, 1) := by decide +kernel
theorem dX7_begin_5 : decode cX7_begin 5 = .ok (.bipush 40, 2) := by decide +kernel
theorem dX7_begin_7 : decode cX7_begin 7 = .ok (.if_icmp .le 4, 3) := by decide +kernel
theorem dX7_begin_10 : decode cX7_begin 10 = .ok (.return_, 1) := by decide +kernel
theorem dX7_begin_11 : decode cX7_begin 11 = .ok (.aload_n 0, 1) := by decide +kernel
theorem dX7_begin_12 : decode cX7_begin 12 = .ok (.iload_n 1, 1) := by decide +kernel
theorem dX7_begin_13 : decode cX7_begin 13 = .ok (.putfield 15, 3) := by decide +kernel
theorem dX7_begin_16 : decode cX7_begin 16 = .ok (.iconst 0, 1) := by decide +kernel
theorem dX7_begin_17 : decode cX7_begin 17 = .ok (.istore_n 2, 1) := by decide +kernel
theorem dX7_begin_18 : decode cX7_begin 18 = .ok (.iload_n 2, 1) := by decide +kernel
theorem dX7_begin_19 : decode cX7_begin 19 = .ok (.iload_n 1, 1) := by decide +kernel
theorem dX7_begin_20 : decode cX7_begin 20 = .ok (.if_icmp .ge 16, 3) := by decide +kernel
theorem dX7_begin_23 : decode cX7_begin 23 = .ok (.aload_n 0, 1) := by decide +kernel
theorem dX7_begin_24 : decode cX7_begin 24 = .ok (.getfield 9, 3) := by decide +kernel
theorem dX7_begin_27 : decode cX7_begin 27 = .ok (.iload_n 2, 1) := by decide +kernel
theorem dX7_begin_28 : decode cX7_begin 28 = .ok (.iconst 0, 1) := by decide +kernel
theorem dX7_begin_29 : decode cX7_begin 29 = .ok (.iastore, 1) := by decide +kernel
theorem dX7_begin_30 : decode cX7_begin 30 = .ok (.iinc 2 1, 3) := by decide +kernel
theorem dX7_begin_33 : decode cX7_begin 33 = .ok (.goto (-15), 3) := by decide +kernel
theorem dX7_begin_36 : decode cX7_begin 36 = .ok (.return_, 1) := by decide +kernel
theorem dX7_end_0 : decode cX7_end 0 = .ok (.aload_n 0, 1) := by decide +kernel
theorem dX7_end_1 : decode cX7_end 1 = .ok (.iconst (-1), 1) := by decide +kernel
theorem dX7_end_2 : decode cX7_end 2 = .ok (.putfield 15, 3) := by decide +kernel
theorem dX7_end_5 : decode cX7_end 5 = .ok (.return_, 1) := by decide +kernel
theorem dX7_get_0 : decode cX7_get 0 = .ok (.aload_n 0, 1) := by decide +kernel
theorem dX7_get_1 : decode cX7_get 1 = .ok (.iload_n 1, 1) := by decide +kernel
theorem dX7_get_2 : decode cX7_get 2 = .ok (.invokevirtual 19, 3) := by decide +kernel
theorem dX7_get_5 : decode cX7_get 5 = .ok (.ifCond .eq 12, 3) := by decide +kernel
theorem dX7_get_8 : decode cX7_get 8 = .ok (.aload_n 0, 1) := by decide +kernel
theorem dX7_get_9 : decode cX7_get 9 = .ok (.getfield 9, 3) := by decide +kernel
theorem dX7_get_12 : decode cX7_get 12 = .ok (.iload_n 1, 1) := by decide +kernel
theorem dX7_get_13 : decode cX7_get 13 = .ok (.iaload, 1) := by decide +kernel
theorem dX7_get_14 : decode cX7_get 14 = .ok (.goto 4, 3) := by decide +kernel
theorem dX7_get_17 : decode cX7_get 17 = .ok (.iconst 0, 1) := by decide +kernel
theorem dX7_get_18 : decode cX7_get 18 = .ok (.ireturn, 1) := by decide +kernel
theorem dX7_set_0 : decode cX7_set 0 = .ok (.aload_n 0, 1) := by decide +kernel
theorem dX7_set_1 : decode cX7_set 1 = .ok (.iload_n 1, 1) := by decide +kernel
theorem dX7_set_2 : decode cX7_set 2 = .ok (.invokevirtual 19, 3) := by decide +kernel
theorem dX7_set_5 : decode cX7_set 5 = .ok (.ifCond .eq 10, 3) := by decide +kernel
theorem dX7_set_8 : decode cX7_set 8 = .ok (.aload_n 0, 1) := by decide +kernel
theorem dX7_set_9 : decode cX7_set 9 = .ok (.getfield 9, 3) := by decide +kernel
theorem dX7_set_12 : decode cX7_set 12 = .ok (.iload_n 1, 1) := by decide +kernel
theorem dX7_set_13 : decode cX7_set 13 = .ok (.iload_n 2, 1) := by decide +kernel
theorem dX7_set_14 : decode cX7_set 14 = .ok (.iastore, 1) := by decide +kernel
theorem dX7_set_15 : decode cX7_set 15 = .ok (.return_, 1) := by decide +kernel
theorem dX7_lacks_0 : decode cX7_lacks 0 = .ok (.aload_n 0, 1) := by decide +kernel
theorem dX7_lacks_1 : decode cX7_lacks 1 = .ok (.invokevirtual 23, 3) := by decide +kernel
theorem dX7_lacks_4 : decode cX7_lacks 4 = .ok (.ifCond .ne 5, 3) := by decide +kernel
theorem dX7_lacks_7 : decode cX7_lacks 7 = .ok (.iconst 1, 1) := by decide +kernel
theorem dX7_lacks_8 : decode cX7_lacks 8 = .ok (.ireturn, 1) := by decide +kernel
theorem dX7_lacks_9 : decode cX7_lacks 9 = .ok (.aload_n 0, 1) := by decide +kernel
theorem dX7_lacks_10 : decode cX7_lacks 10 = .ok (.iload_n 1, 1) := by decide +kernel
theorem dX7_lacks_11 : decode cX7_lacks 11 = .ok (.invokevirtual 19, 3) := by decide +kernel
theorem dX7_lacks_14 : decode cX7_lacks 14 = .ok (.ifCond .eq 7, 3) := by decide +kernel
theorem dX7_lacks_17 : decode cX7_lacks 17 = .ok (.iconst 0, 1) := by decide +kernel
theorem dX7_lacks_18 : decode cX7_lacks 18 = .ok (.goto 4, 3) := by decide +kernel
theorem dX7_lacks_21 : decode cX7_lacks 21 = .ok (.iconst 2, 1) := by decide +kernel
theorem dX7_lacks_22 : decode cX7_lacks 22 = .ok (.ireturn, 1) := by decide +kernel
theorem dX7_lacksSizeOrRange_0 : decode cX7_lacksSizeOrRange 0 = .ok (.aload_n 0, 1) := by decide +kernel
theorem dX7_lacksSizeOrRange_1 : decode cX7_lacksSizeOrRange 1 = .ok (.invokevirtual 23, 3) := by decide +kernel
theorem dX7_lacksSizeOrRange_4 : decode cX7_lacksSizeOrRange 4 = .ok (.ifCond .ne 5, 3) := by decide +kernel
theorem dX7_lacksSizeOrRange_7 : decode cX7_lacksSizeOrRange 7 = .ok (.iconst 1, 1) := by decide +kernel
theorem dX7_lacksSizeOrRange_8 : decode cX7_lacksSizeOrRange 8 = .ok (.ireturn, 1) := by decide +kernel
theorem dX7_lacksSizeOrRange_9 : decode cX7_lacksSizeOrRange 9 = .ok (.aload_n 0, 1) := by decide +kernel
theorem dX7_lacksSizeOrRange_10 : decode cX7_lacksSizeOrRange 10 = .ok (.getfield 15, 3) := by decide +kernel
theorem dX7_lacksSizeOrRange_13 : decode cX7_lacksSizeOrRange 13 = .ok (.iload_n 1, 1) := by decide +kernel
theorem dX7_lacksSizeOrRange_14 : decode cX7_lacksSizeOrRange 14 = .ok (.if_icmp .lt 11, 3) := by decide +kernel
theorem dX7_lacksSizeOrRange_17 : decode cX7_lacksSizeOrRange 17 = .ok (.aload_n 0, 1) := by decide +kernel
theorem dX7_lacksSizeOrRange_18 : decode cX7_lacksSizeOrRange 18 = .ok (.getfield 15, 3) := by decide +kernel
theorem dX7_lacksSizeOrRange_21 : decode cX7_lacksSizeOrRange 21 = .ok (.iload_n 2, 1) := by decide +kernel
theorem dX7_lacksSizeOrRange_22 : decode cX7_lacksSizeOrRange 22 = .ok (.if_icmp .le 5, 3) := by decide +kernel
theorem dX7_lacksSizeOrRange_25 : decode cX7_lacksSizeOrRange 25 = .ok (.iconst 5, 1) := by decide +kernel
theorem dX7_lacksSizeOrRange_26 : decode cX7_lacksSizeOrRange 26 = .ok (.ireturn, 1) := by decide +kernel
theorem dX7_lacksSizeOrRange_27 : decode cX7_lacksSizeOrRange 27 = .ok (.iconst 0, 1) := by decide +kernel
theorem dX7_lacksSizeOrRange_28 : decode cX7_lacksSizeOrRange 28 = .ok (.istore 4, 2) := by decide +kernel
theorem dX7_lacksSizeOrRange_30 : decode cX7_lacksSizeOrRange 30 = .ok (.iload 4, 2) := by decide +kernel
theorem dX7_lacksSizeOrRange_32 : decode cX7_lacksSizeOrRange 32 = .ok (.aload_n 0, 1) := by decide +kernel
theorem dX7_lacksSizeOrRange_33 : decode cX7_lacksSizeOrRange 33 = .ok (.getfield 15, 3) := by decide +kernel
theorem dX7_lacksSizeOrRange_36 : decode cX7_lacksSizeOrRange 36 = .ok (.if_icmp .ge 32, 3) := by decide +kernel
theorem dX7_lacksSizeOrRange_39 : decode cX7_lacksSizeOrRange 39 = .ok (.aload_n 0, 1) := by decide +kernel
theorem dX7_lacksSizeOrRange_40 : decode cX7_lacksSizeOrRange 40 = .ok (.getfield 9, 3) := by decide +kernel
theorem dX7_lacksSizeOrRange_43 : decode cX7_lacksSizeOrRange 43 = .ok (.iload 4, 2) := by decide +kernel
theorem dX7_lacksSizeOrRange_45 : decode cX7_lacksSizeOrRange 45 = .ok (.iaload, 1) := by decide +kernel
theorem dX7_lacksSizeOrRange_46 : decode cX7_lacksSizeOrRange 46 = .ok (.ifCond .lt 14, 3) := by decide +kernel
theorem dX7_lacksSizeOrRange_49 : decode cX7_lacksSizeOrRange 49 = .ok (.aload_n 0, 1) := by decide +kernel
theorem dX7_lacksSizeOrRange_50 : decode cX7_lacksSizeOrRange 50 = .ok (.getfield 9, 3) := by decide +kernel
theorem dX7_lacksSizeOrRange_53 : decode cX7_lacksSizeOrRange 53 = .ok (.iload 4, 2) := by decide +kernel
theorem dX7_lacksSizeOrRange_55 : decode cX7_lacksSizeOrRange 55 = .ok (.iaload, 1) := by decide +kernel
theorem dX7_lacksSizeOrRange_56 : decode cX7_lacksSizeOrRange 56 = .ok (.iload_n 3, 1) := by decide +kernel
theorem dX7_lacksSizeOrRange_57 : decode cX7_lacksSizeOrRange 57 = .ok (.if_icmp .le 5, 3) := by decide +kernel
theorem dX7_lacksSizeOrRange_60 : decode cX7_lacksSizeOrRange 60 = .ok (.iconst 3, 1) := by decide +kernel
theorem dX7_lacksSizeOrRange_61 : decode cX7_lacksSizeOrRange 61 = .ok (.ireturn, 1) := by decide +kernel
theorem dX7_lacksSizeOrRange_62 : decode cX7_lacksSizeOrRange 62 = .ok (.iinc 4 1, 3) := by decide +kernel
theorem dX7_lacksSizeOrRange_65 : decode cX7_lacksSizeOrRange 65 = .ok (.goto (-35), 3) := by decide +kernel
theorem dX7_lacksSizeOrRange_68 : decode cX7_lacksSizeOrRange 68 = .ok (.iconst 0, 1) := by decide +kernel
theorem dX7_lacksSizeOrRange_69 : decode cX7_lacksSizeOrRange 69 = .ok (.ireturn, 1) := by decide +kernel
theorem dX7_sum_0 : decode cX7_sum 0 = .ok (.lconst 0, 1) := by decide +kernel
theorem dX7_sum_1 : decode cX7_sum 1 = .ok (.lstore_n 1, 1) := by decide +kernel
theorem dX7_sum_2 : decode cX7_sum 2 = .ok (.iconst 0, 1) := by decide +kernel
theorem dX7_sum_3 : decode cX7_sum 3 = .ok (.istore_n 3, 1) := by decide +kernel
theorem dX7_sum_4 : decode cX7_sum 4 = .ok (.iload_n 3, 1) := by decide +kernel
theorem dX7_sum_5 : decode cX7_sum 5 = .ok (.aload_n 0, 1) := by decide +kernel
theorem dX7_sum_6 : decode cX7_sum 6 = .ok (.getfield 15, 3) := by decide +kernel
theorem dX7_sum_9 : decode cX7_sum 9 = .ok (.if_icmp .ge 19, 3) := by decide +kernel
theorem dX7_sum_12 : decode cX7_sum 12 = .ok (.lload_n 1, 1) := by decide +kernel
theorem dX7_sum_13 : decode cX7_sum 13 = .ok (.aload_n 0, 1) := by decide +kernel
theorem dX7_sum_14 : decode cX7_sum 14 = .ok (.getfield 9, 3) := by decide +kernel
theorem dX7_sum_17 : decode cX7_sum 17 = .ok (.iload_n 3, 1) := by decide +kernel
theorem dX7_sum_18 : decode cX7_sum 18 = .ok (.iaload, 1) := by decide +kernel
theorem dX7_sum_19 : decode cX7_sum 19 = .ok (.i2l, 1) := by decide +kernel
theorem dX7_sum_20 : decode cX7_sum 20 = .ok (.ladd, 1) := by decide +kernel
theorem dX7_sum_21 : decode cX7_sum 21 = .ok (.lstore_n 1, 1) := by decide +kernel
theorem dX7_sum_22 : decode cX7_sum 22 = .ok (.iinc 3 1, 3) := by decide +kernel
theorem dX7_sum_25 : decode cX7_sum 25 = .ok (.goto (-21), 3) := by decide +kernel
theorem dX7_sum_28 : decode cX7_sum 28 = .ok (.lload_n 1, 1) := by decide +kernel
theorem dX7_sum_29 : decode cX7_sum 29 = .ok (.lreturn, 1) := by decide +kernel
theorem dX7_union_0 : decode cX7_union 0 = .ok (.iconst 0, 1) := by decide +kernel
theorem dX7_union_1 : decode cX7_union 1 = .ok (.istore_n 1, 1) := by decide +kernel
theorem dX7_union_2 : decode cX7_union 2 = .ok (.iconst 0, 1) := by decide +kernel
theorem dX7_union_3 : decode cX7_union 3 = .ok (.istore_n 2, 1) := by decide +kernel
theorem dX7_union_4 : decode cX7_union 4 = .ok (.iload_n 2, 1) := by decide +kernel
theorem dX7_union_5 : decode cX7_union 5 = .ok (.aload_n 0, 1) := by decide +kernel
theorem dX7_union_6 : decode cX7_union 6 = .ok (.getfield 15, 3) := by decide +kernel
theorem dX7_union_9 : decode cX7_union 9 = .ok (.if_icmp .ge 18, 3) := by decide +kernel
theorem dX7_union_12 : decode cX7_union 12 = .ok (.iload_n 1, 1) := by decide +kernel
theorem dX7_union_13 : decode cX7_union 13 = .ok (.aload_n 0, 1) := by decide +kernel
theorem dX7_union_14 : decode cX7_union 14 = .ok (.getfield 9, 3) := by decide +kernel
theorem dX7_union_17 : decode cX7_union 17 = .ok (.iload_n 2, 1) := by decide +kernel
theorem dX7_union_18 : decode cX7_union 18 = .ok (.iaload, 1) := by decide +kernel
theorem dX7_union_19 : decode cX7_union 19 = .ok (.ior, 1) := by decide +kernel
theorem dX7_union_20 : decode cX7_union 20 = .ok (.istore_n 1, 1) := by decide +kernel
theorem dX7_union_21 : decode cX7_union 21 = .ok (.iinc 2 1, 3) := by decide +kernel
theorem dX7_union_24 : decode cX7_union 24 = .ok (.goto (-20), 3) := by decide +kernel
theorem dX7_union_27 : decode cX7_union 27 = .ok (.iload_n 1, 1) := by decide +kernel
theorem dX7_union_28 : decode cX7_union 28 = .ok (.ireturn, 1) := by decide +kernel
theorem dX7_digestOnto_0 : decode cX7_digestOnto 0 = .ok (.ldc2_w 27, 3) := by decide +kernel
theorem dX7_digestOnto_3 : decode cX7_digestOnto 3 = .ok (.lload_n 1, 1) := by decide +kernel
theorem dX7_digestOnto_4 : decode cX7_digestOnto 4 = .ok (.lmul, 1) := by decide +kernel
theorem dX7_digestOnto_5 : decode cX7_digestOnto 5 = .ok (.aload_n 0, 1) := by decide +kernel
theorem dX7_digestOnto_6 : decode cX7_digestOnto 6 = .ok (.getfield 15, 3) := by decide +kernel
theorem dX7_digestOnto_9 : decode cX7_digestOnto 9 = .ok (.i2l, 1) := by decide +kernel
theorem dX7_digestOnto_10 : decode cX7_digestOnto 10 = .ok (.ladd, 1) := by decide +kernel
theorem dX7_digestOnto_11 : decode cX7_digestOnto 11 = .ok (.lstore_n 3, 1) := by decide +kernel
theorem dX7_digestOnto_12 : decode cX7_digestOnto 12 = .ok (.iconst 0, 1) := by decide +kernel
theorem dX7_digestOnto_13 : decode cX7_digestOnto 13 = .ok (.istore 5, 2) := by decide +kernel
theorem dX7_digestOnto_15 : decode cX7_digestOnto 15 = .ok (.iload 5, 2) := by decide +kernel
theorem dX7_digestOnto_17 : decode cX7_digestOnto 17 = .ok (.aload_n 0, 1) := by decide +kernel
theorem dX7_digestOnto_18 : decode cX7_digestOnto 18 = .ok (.getfield 15, 3) := by decide +kernel
theorem dX7_digestOnto_21 : decode cX7_digestOnto 21 = .ok (.if_icmp .ge 24, 3) := by decide +kernel
theorem dX7_digestOnto_24 : decode cX7_digestOnto 24 = .ok (.ldc2_w 27, 3) := by decide +kernel
theorem dX7_digestOnto_27 : decode cX7_digestOnto 27 = .ok (.lload_n 3, 1) := by decide +kernel
theorem dX7_digestOnto_28 : decode cX7_digestOnto 28 = .ok (.lmul, 1) := by decide +kernel
theorem dX7_digestOnto_29 : decode cX7_digestOnto 29 = .ok (.aload_n 0, 1) := by decide +kernel
theorem dX7_digestOnto_30 : decode cX7_digestOnto 30 = .ok (.getfield 9, 3) := by decide +kernel
theorem dX7_digestOnto_33 : decode cX7_digestOnto 33 = .ok (.iload 5, 2) := by decide +kernel
theorem dX7_digestOnto_35 : decode cX7_digestOnto 35 = .ok (.iaload, 1) := by decide +kernel
theorem dX7_digestOnto_36 : decode cX7_digestOnto 36 = .ok (.i2l, 1) := by decide +kernel
theorem dX7_digestOnto_37 : decode cX7_digestOnto 37 = .ok (.ladd, 1) := by decide +kernel
theorem dX7_digestOnto_38 : decode cX7_digestOnto 38 = .ok (.lstore_n 3, 1) := by decide +kernel
theorem dX7_digestOnto_39 : decode cX7_digestOnto 39 = .ok (.iinc 5 1, 3) := by decide +kernel
theorem dX7_digestOnto_42 : decode cX7_digestOnto 42 = .ok (.goto (-27), 3) := by decide +kernel
theorem dX7_digestOnto_45 : decode cX7_digestOnto 45 = .ok (.lload_n 3, 1) := by decide +kernel
theorem dX7_digestOnto_46 : decode cX7_digestOnto 46 = .ok (.lreturn, 1) := by decide +kernel
theorem dX8_init_0 : decode cX8_init 0 = .ok (.aload_n 0, 1) := by decide +kernel
theorem dX8_init_1 : decode cX8_init 1 = .ok (.invokespecial 3, 3) := by decide +kernel
theorem dX8_init_4 : decode cX8_init 4 = .ok (.aload_n 0, 1) := by decide +kernel
theorem dX8_init_5 : decode cX8_init 5 = .ok (.bipush 6, 2) := by decide +kernel
theorem dX8_init_7 : decode cX8_init 7 = .ok (.anewarray 9, 3) := by decide +kernel
theorem dX8_init_10 : decode cX8_init 10 = .ok (.putfield 11, 3) := by decide +kernel
theorem dX8_init_13 : decode cX8_init 13 = .ok (.aload_n 0, 1) := by decide +kernel
theorem dX8_init_14 : decode cX8_init 14 = .ok (.aconst_null, 1) := by decide +kernel
theorem dX8_init_15 : decode cX8_init 15 = .ok (.putfield 17, 3) := by decide +kernel
theorem dX8_init_18 : decode cX8_init 18 = .ok (.aload_n 0, 1) := by decide +kernel
theorem dX8_init_19 : decode cX8_init 19 = .ok (.iconst 0, 1) := by decide +kernel
theorem dX8_init_20 : decode cX8_init 20 = .ok (.putfield 21, 3) := by decide +kernel
theorem dX8_init_23 : decode cX8_init 23 = .ok (.aload_n 0, 1) := by decide +kernel
theorem dX8_init_24 : decode cX8_init 24 = .ok (.iconst 0, 1) := by decide +kernel
theorem dX8_init_25 : decode cX8_init 25 = .ok (.putfield 25, 3) := by decide +kernel
theorem dX8_init_28 : decode cX8_init 28 = .ok (.aload_n 0, 1) := by decide +kernel
theorem dX8_init_29 : decode cX8_init 29 = .ok (.aload_n 1, 1) := by decide +kernel
theorem dX8_init_30 : decode cX8_init 30 = .ok (.putfield 28, 3) := by decide +kernel
theorem dX8_init_33 : decode cX8_init 33 = .ok (.iconst 0, 1) := by decide +kernel
theorem dX8_init_34 : decode cX8_init 34 = .ok (.istore_n 2, 1) := by decide +kernel
theorem dX8_init_35 : decode cX8_init 35 = .ok (.iload_n 2, 1) := by decide +kernel
theorem dX8_init_36 : decode cX8_init 36 = .ok (.iconst 5, 1) := by decide +kernel
theorem dX8_init_37 : decode cX8_init 37 = .ok (.if_icmp .gt 23, 3) := by decide +kernel
theorem dX8_init_40 : decode cX8_init 40 = .ok (.aload_n 0, 1) := by decide +kernel
theorem dX8_init_41 : decode cX8_init 41 = .ok (.getfield 11, 3) := by decide +kernel
theorem dX8_init_44 : decode cX8_init 44 = .ok (.iload_n 2, 1) := by decide +kernel
theorem dX8_init_45 : decode cX8_init 45 = .ok (.new 9, 3) := by decide +kernel
theorem dX8_init_48 : decode cX8_init 48 = .ok (.dup, 1) := by decide +kernel
theorem dX8_init_49 : decode cX8_init 49 = .ok (.aload_n 1, 1) := by decide +kernel
theorem dX8_init_50 : decode cX8_init 50 = .ok (.invokespecial 32, 3) := by decide +kernel
theorem dX8_init_53 : decode cX8_init 53 = .ok (.aastore, 1) := by decide +kernel
theorem dX8_init_54 : decode cX8_init 54 = .ok (.iinc 2 1, 3) := by decide +kernel
theorem dX8_init_57 : decode cX8_init 57 = .ok (.goto (-22), 3) := by decide +kernel
theorem dX8_init_60 : decode cX8_init 60 = .ok (.return_, 1) := by decide +kernel
theorem dX8_search_0 : decode cX8_search 0 = .ok (.aload_n 0, 1) := by decide +kernel
theorem dX8_search_1 : decode cX8_search 1 = .ok (.aload_n 2, 1) := by decide +kernel
theorem dX8_search_2 : decode cX8_search 2 = .ok (.putfield 17, 3) := by decide +kernel
theorem dX8_search_5 : decode cX8_search 5 = .ok (.aload_n 0, 1) := by decide +kernel
theorem dX8_search_6 : decode cX8_search 6 = .ok (.iconst 0, 1) := by decide +kernel
theorem dX8_search_7 : decode cX8_search 7 = .ok (.putfield 21, 3) := by decide +kernel
theorem dX8_search_10 : decode cX8_search 10 = .ok (.aload_n 0, 1) := by decide +kernel
theorem dX8_search_11 : decode cX8_search 11 = .ok (.iconst 0, 1) := by decide +kernel
theorem dX8_search_12 : decode cX8_search 12 = .ok (.putfield 25, 3) := by decide +kernel
theorem dX8_search_15 : decode cX8_search 15 = .ok (.iconst 0, 1) := by decide +kernel
theorem dX8_search_16 : decode cX8_search 16 = .ok (.istore_n 3, 1) := by decide +kernel
theorem dX8_search_17 : decode cX8_search 17 = .ok (.iload_n 3, 1) := by decide +kernel
theorem dX8_search_18 : decode cX8_search 18 = .ok (.aload_n 0, 1) := by decide +kernel
theorem dX8_search_19 : decode cX8_search 19 = .ok (.getfield 28, 3) := by decide +kernel
theorem dX8_search_22 : decode cX8_search 22 = .ok (.getfield 35, 3) := by decide +kernel
theorem dX8_search_25 : decode cX8_search 25 = .ok (.if_icmp .ge 73, 3) := by decide +kernel
theorem dX8_search_28 : decode cX8_search 28 = .ok (.aload_n 1, 1) := by decide +kernel
theorem dX8_search_29 : decode cX8_search 29 = .ok (.iload_n 3, 1) := by decide +kernel
theorem dX8_search_30 : decode cX8_search 30 = .ok (.invokevirtual 40, 3) := by decide +kernel
theorem dX8_search_33 : decode cX8_search 33 = .ok (.ifCond .eq 59, 3) := by decide +kernel
theorem dX8_search_36 : decode cX8_search 36 = .ok (.aload_n 0, 1) := by decide +kernel
theorem dX8_search_37 : decode cX8_search 37 = .ok (.getfield 21, 3) := by decide +kernel
theorem dX8_search_40 : decode cX8_search 40 = .ok (.istore 4, 2) := by decide +kernel
theorem dX8_search_42 : decode cX8_search 42 = .ok (.aload_n 0, 1) := by decide +kernel
theorem dX8_search_43 : decode cX8_search 43 = .ok (.getfield 11, 3) := by decide +kernel
theorem dX8_search_46 : decode cX8_search 46 = .ok (.iconst 0, 1) := by decide +kernel
theorem dX8_search_47 : decode cX8_search 47 = .ok (.aaload, 1) := by decide +kernel
theorem dX8_search_48 : decode cX8_search 48 = .ok (.aload_n 1, 1) := by decide +kernel
theorem dX8_search_49 : decode cX8_search 49 = .ok (.invokevirtual 44, 3) := by decide +kernel
theorem dX8_search_52 : decode cX8_search 52 = .ok (.aload_n 0, 1) := by decide +kernel
theorem dX8_search_53 : decode cX8_search 53 = .ok (.getfield 11, 3) := by decide +kernel
theorem dX8_search_56 : decode cX8_search 56 = .ok (.iconst 0, 1) := by decide +kernel
theorem dX8_search_57 : decode cX8_search 57 = .ok (.aaload, 1) := by decide +kernel
theorem dX8_search_58 : decode cX8_search 58 = .ok (.iload_n 3, 1) := by decide +kernel
theorem dX8_search_59 : decode cX8_search 59 = .ok (.invokevirtual 48, 3) := by decide +kernel
theorem dX8_search_62 : decode cX8_search 62 = .ok (.aload_n 0, 1) := by decide +kernel
theorem dX8_search_63 : decode cX8_search 63 = .ok (.iconst 0, 1) := by decide +kernel
theorem dX8_search_64 : decode cX8_search 64 = .ok (.invokevirtual 52, 3) := by decide +kernel
theorem dX8_search_67 : decode cX8_search 67 = .ok (.aload_n 0, 1) := by decide +kernel
theorem dX8_search_68 : decode cX8_search 68 = .ok (.dup, 1) := by decide +kernel
theorem dX8_search_69 : decode cX8_search 69 = .ok (.getfield 25, 3) := by decide +kernel
theorem dX8_search_72 : decode cX8_search 72 = .ok (.aload_n 0, 1) := by decide +kernel
theorem dX8_search_73 : decode cX8_search 73 = .ok (.getfield 21, 3) := by decide +kernel
theorem dX8_search_76 : decode cX8_search 76 = .ok (.iload 4, 2) := by decide +kernel
theorem dX8_search_78 : decode cX8_search 78 = .ok (.if_icmp .le 9, 3) := by decide +kernel
theorem dX8_search_81 : decode cX8_search 81 = .ok (.iconst 1, 1) := by decide +kernel
theorem dX8_search_82 : decode cX8_search 82 = .ok (.iload_n 3, 1) := by decide +kernel
theorem dX8_search_83 : decode cX8_search 83 = .ok (.ishl, 1) := by decide +kernel
theorem dX8_search_84 : decode cX8_search 84 = .ok (.goto 4, 3) := by decide +kernel
theorem dX8_search_87 : decode cX8_search 87 = .ok (.iconst 0, 1) := by decide +kernel
theorem dX8_search_88 : decode cX8_search 88 = .ok (.ior, 1) := by decide +kernel
theorem dX8_search_89 : decode cX8_search 89 = .ok (.putfield 25, 3) := by decide +kernel
theorem dX8_search_92 : decode cX8_search 92 = .ok (.iinc 3 1, 3) := by decide +kernel
theorem dX8_search_95 : decode cX8_search 95 = .ok (.goto (-78), 3) := by decide +kernel
theorem dX8_search_98 : decode cX8_search 98 = .ok (.return_, 1) := by decide +kernel
theorem dX8_walk_0 : decode cX8_walk 0 = .ok (.aload_n 0, 1) := by decide +kernel
theorem dX8_walk_1 : decode cX8_walk 1 = .ok (.getfield 17, 3) := by decide +kernel
theorem dX8_walk_4 : decode cX8_walk 4 = .ok (.ifnull 12, 3) := by decide +kernel
theorem dX8_walk_7 : decode cX8_walk 7 = .ok (.iload_n 1, 1) := by decide +kernel
theorem dX8_walk_8 : decode cX8_walk 8 = .ok (.ifCond .lt 8, 3) := by decide +kernel
theorem dX8_walk_11 : decode cX8_walk 11 = .ok (.iload_n 1, 1) := by decide +kernel
theorem dX8_walk_12 : decode cX8_walk 12 = .ok (.iconst 5, 1) := by decide +kernel
theorem dX8_walk_13 : decode cX8_walk 13 = .ok (.if_icmp .le 4, 3) := by decide +kernel
theorem dX8_walk_16 : decode cX8_walk 16 = .ok (.return_, 1) := by decide +kernel
theorem dX8_walk_17 : decode cX8_walk 17 = .ok (.iload_n 1, 1) := by decide +kernel
theorem dX8_walk_18 : decode cX8_walk 18 = .ok (.aload_n 0, 1) := by decide +kernel
theorem dX8_walk_19 : decode cX8_walk 19 = .ok (.getfield 17, 3) := by decide +kernel
theorem dX8_walk_22 : decode cX8_walk 22 = .ok (.getfield 55, 3) := by decide +kernel
theorem dX8_walk_25 : decode cX8_walk 25 = .ok (.if_icmp .lt 14, 3) := by decide +kernel
theorem dX8_walk_28 : decode cX8_walk 28 = .ok (.aload_n 0, 1) := by decide +kernel
theorem dX8_walk_29 : decode cX8_walk 29 = .ok (.dup, 1) := by decide +kernel
theorem dX8_walk_30 : decode cX8_walk 30 = .ok (.getfield 21, 3) := by decide +kernel
theorem dX8_walk_33 : decode cX8_walk 33 = .ok (.iconst 1, 1) := by decide +kernel
theorem dX8_walk_34 : decode cX8_walk 34 = .ok (.iadd, 1) := by decide +kernel
theorem dX8_walk_35 : decode cX8_walk 35 = .ok (.putfield 21, 3) := by decide +kernel
theorem dX8_walk_38 : decode cX8_walk 38 = .ok (.return_, 1) := by decide +kernel
theorem dX8_walk_39 : decode cX8_walk 39 = .ok (.iconst 0, 1) := by decide +kernel
theorem dX8_walk_40 : decode cX8_walk 40 = .ok (.istore_n 2, 1) := by decide +kernel
theorem dX8_walk_41 : decode cX8_walk 41 = .ok (.iload_n 2, 1) := by decide +kernel
theorem dX8_walk_42 : decode cX8_walk 42 = .ok (.bipush 36, 2) := by decide +kernel
theorem dX8_walk_44 : decode cX8_walk 44 = .ok (.if_icmp .gt 34, 3) := by decide +kernel
theorem dX8_walk_47 : decode cX8_walk 47 = .ok (.iload_n 2, 1) := by decide +kernel
theorem dX8_walk_48 : decode cX8_walk 48 = .ok (.bipush 36, 2) := by decide +kernel
theorem dX8_walk_50 : decode cX8_walk 50 = .ok (.if_icmp .eq 16, 3) := by decide +kernel
theorem dX8_walk_53 : decode cX8_walk 53 = .ok (.aload_n 0, 1) := by decide +kernel
theorem dX8_walk_54 : decode cX8_walk 54 = .ok (.getfield 11, 3) := by decide +kernel
theorem dX8_walk_57 : decode cX8_walk 57 = .ok (.iload_n 1, 1) := by decide +kernel
theorem dX8_walk_58 : decode cX8_walk 58 = .ok (.aaload, 1) := by decide +kernel
theorem dX8_walk_59 : decode cX8_walk 59 = .ok (.iload_n 2, 1) := by decide +kernel
theorem dX8_walk_60 : decode cX8_walk 60 = .ok (.invokevirtual 60, 3) := by decide +kernel
theorem dX8_walk_63 : decode cX8_walk 63 = .ok (.ifCond .eq 9, 3) := by decide +kernel
theorem dX8_walk_66 : decode cX8_walk 66 = .ok (.aload_n 0, 1) := by decide +kernel
theorem dX8_walk_67 : decode cX8_walk 67 = .ok (.iload_n 1, 1) := by decide +kernel
theorem dX8_walk_68 : decode cX8_walk 68 = .ok (.iload_n 2, 1) := by decide +kernel
theorem dX8_walk_69 : decode cX8_walk 69 = .ok (.invokevirtual 63, 3) := by decide +kernel
theorem dX8_walk_72 : decode cX8_walk 72 = .ok (.iinc 2 1, 3) := by decide +kernel
theorem dX8_walk_75 : decode cX8_walk 75 = .ok (.goto (-34), 3) := by decide +kernel
theorem dX8_walk_78 : decode cX8_walk 78 = .ok (.return_, 1) := by decide +kernel
theorem dX8_take_0 : decode cX8_take 0 = .ok (.aload_n 0, 1) := by decide +kernel
theorem dX8_take_1 : decode cX8_take 1 = .ok (.getfield 17, 3) := by decide +kernel
theorem dX8_take_4 : decode cX8_take 4 = .ok (.ifnull 12, 3) := by decide +kernel
theorem dX8_take_7 : decode cX8_take 7 = .ok (.iload_n 1, 1) := by decide +kernel
theorem dX8_take_8 : decode cX8_take 8 = .ok (.ifCond .lt 8, 3) := by decide +kernel
theorem dX8_take_11 : decode cX8_take 11 = .ok (.iload_n 1, 1) := by decide +kernel
theorem dX8_take_12 : decode cX8_take 12 = .ok (.iconst 5, 1) := by decide +kernel
theorem dX8_take_13 : decode cX8_take 13 = .ok (.if_icmp .lt 4, 3) := by decide +kernel
theorem dX8_take_16 : decode cX8_take 16 = .ok (.return_, 1) := by decide +kernel
theorem dX8_take_17 : decode cX8_take 17 = .ok (.aload_n 0, 1) := by decide +kernel
theorem dX8_take_18 : decode cX8_take 18 = .ok (.getfield 11, 3) := by decide +kernel
theorem dX8_take_21 : decode cX8_take 21 = .ok (.iload_n 1, 1) := by decide +kernel
theorem dX8_take_22 : decode cX8_take 22 = .ok (.iconst 1, 1) := by decide +kernel
theorem dX8_take_23 : decode cX8_take 23 = .ok (.iadd, 1) := by decide +kernel
theorem dX8_take_24 : decode cX8_take 24 = .ok (.aaload, 1) := by decide +kernel
theorem dX8_take_25 : decode cX8_take 25 = .ok (.astore_n 3, 1) := by decide +kernel
theorem dX8_take_26 : decode cX8_take 26 = .ok (.aload_n 3, 1) := by decide +kernel
theorem dX8_take_27 : decode cX8_take 27 = .ok (.aload_n 0, 1) := by decide +kernel
theorem dX8_take_28 : decode cX8_take 28 = .ok (.getfield 11, 3) := by decide +kernel
theorem dX8_take_31 : decode cX8_take 31 = .ok (.iload_n 1, 1) := by decide +kernel
theorem dX8_take_32 : decode cX8_take 32 = .ok (.aaload, 1) := by decide +kernel
theorem dX8_take_33 : decode cX8_take 33 = .ok (.invokevirtual 44, 3) := by decide +kernel
theorem dX8_take_36 : decode cX8_take 36 = .ok (.aload_n 3, 1) := by decide +kernel
theorem dX8_take_37 : decode cX8_take 37 = .ok (.iload_n 2, 1) := by decide +kernel
theorem dX8_take_38 : decode cX8_take 38 = .ok (.invokevirtual 67, 3) := by decide +kernel
theorem dX8_take_41 : decode cX8_take 41 = .ok (.aload_n 3, 1) := by decide +kernel
theorem dX8_take_42 : decode cX8_take 42 = .ok (.invokevirtual 70, 3) := by decide +kernel
theorem dX8_take_45 : decode cX8_take 45 = .ok (.aload_n 3, 1) := by decide +kernel
theorem dX8_take_46 : decode cX8_take 46 = .ok (.getfield 73, 3) := by decide +kernel
theorem dX8_take_49 : decode cX8_take 49 = .ok (.aload_n 0, 1) := by decide +kernel
theorem dX8_take_50 : decode cX8_take 50 = .ok (.getfield 17, 3) := by decide +kernel
theorem dX8_take_53 : decode cX8_take 53 = .ok (.iload_n 1, 1) := by decide +kernel
theorem dX8_take_54 : decode cX8_take 54 = .ok (.invokevirtual 76, 3) := by decide +kernel
theorem dX8_take_57 : decode cX8_take 57 = .ok (.if_icmp .ne 10, 3) := by decide +kernel
theorem dX8_take_60 : decode cX8_take 60 = .ok (.aload_n 0, 1) := by decide +kernel
theorem dX8_take_61 : decode cX8_take 61 = .ok (.iload_n 1, 1) := by decide +kernel
theorem dX8_take_62 : decode cX8_take 62 = .ok (.iconst 1, 1) := by decide +kernel
theorem dX8_take_63 : decode cX8_take 63 = .ok (.iadd, 1) := by decide +kernel
theorem dX8_take_64 : decode cX8_take 64 = .ok (.invokevirtual 52, 3) := by decide +kernel
theorem dX8_take_67 : decode cX8_take 67 = .ok (.return_, 1) := by decide +kernel
theorem dX9_init_0 : decode cX9_init 0 = .ok (.aload_n 0, 1) := by decide +kernel
theorem dX9_init_1 : decode cX9_init 1 = .ok (.invokespecial 3, 3) := by decide +kernel
theorem dX9_init_4 : decode cX9_init 4 = .ok (.aload_n 0, 1) := by decide +kernel
theorem dX9_init_5 : decode cX9_init 5 = .ok (.bipush 60, 2) := by decide +kernel
theorem dX9_init_7 : decode cX9_init 7 = .ok (.newarray .byte, 2) := by decide +kernel
theorem dX9_init_9 : decode cX9_init 9 = .ok (.putfield 9, 3) := by decide +kernel
theorem dX9_init_12 : decode cX9_init 12 = .ok (.aload_n 0, 1) := by decide +kernel
theorem dX9_init_13 : decode cX9_init 13 = .ok (.iconst (-1), 1) := by decide +kernel
theorem dX9_init_14 : decode cX9_init 14 = .ok (.putfield 15, 3) := by decide +kernel
theorem dX9_init_17 : decode cX9_init 17 = .ok (.return_, 1) := by decide +kernel
theorem dX9_isThere_0 : decode cX9_isThere 0 = .ok (.aload_n 0, 1) := by decide +kernel
theorem dX9_isThere_1 : decode cX9_isThere 1 = .ok (.getfield 15, 3) := by decide +kernel
theorem dX9_isThere_4 : decode cX9_isThere 4 = .ok (.ifCond .lt 7, 3) := by decide +kernel
theorem dX9_isThere_7 : decode cX9_isThere 7 = .ok (.iconst 1, 1) := by decide +kernel
theorem dX9_isThere_8 : decode cX9_isThere 8 = .ok (.goto 4, 3) := by decide +kernel
theorem dX9_isThere_11 : decode cX9_isThere 11 = .ok (.iconst 0, 1) := by decide +kernel
theorem dX9_isThere_12 : decode cX9_isThere 12 = .ok (.ireturn, 1) := by decide +kernel
theorem dX9_has_0 : decode cX9_has 0 = .ok (.iload_n 1, 1) := by decide +kernel
theorem dX9_has_1 : decode cX9_has 1 = .ok (.ifCond .lt 15, 3) := by decide +kernel
theorem dX9_has_4 : decode cX9_has 4 = .ok (.iload_n 1, 1) := by decide +kernel
theorem dX9_has_5 : decode cX9_has 5 = .ok (.aload_n 0, 1) := by decide +kernel
theorem dX9_has_6 : decode cX9_has 6 = .ok (.getfield 15, 3) := by decide +kernel
theorem dX9_has_9 : decode cX9_has 9 = .ok (.if_icmp .ge 7, 3) := by decide +kernel
theorem dX9_has_12 : decode cX9_has 12 = .ok (.iconst 1, 1) := by decide +kernel
theorem dX9_has_13 : decode cX9_has 13 = .ok (.goto 4, 3) := by decide +kernel
theorem dX9_has_16 : decode cX9_has 16 = .ok (.iconst 0, 1) := by decide +kernel
theorem dX9_has_17 : decode cX9_has 17 = .ok (.ireturn, 1) := by decide +kernel
theorem dX9_begin_0 : decode cX9_begin 0 = .ok (.iload_n 1, 1) := by decide +kernel
theorem dX9_begin_1 : decode cX9_begin 1 = .ok (.ifCond .lt 9, 3) := by decide +kernel
theorem dX9_begin_4 : decode cX9_begin 4 = .ok (.iload_n 1, 1) := by decide +kernel
theorem dX9_begin_5 : decode cX9_begin 5 = .ok (.bipush 60, 2) := by decide +kernel
theorem dX9_begin_7 : decode cX9_begin 7 = .ok (.if_icmp .le 4, 3) := by decide +kernel
theorem dX9_begin_10 : decode cX9_begin 10 = .ok (.return_, 1) := by decide +kernel
theorem dX9_begin_11 : decode cX9_begin 11 = .ok (.aload_n 0, 1) := by decide +kernel
theorem dX9_begin_12 : decode cX9_begin 12 = .ok (.iload_n 1, 1) := by decide +kernel
theorem dX9_begin_13 : decode cX9_begin 13 = .ok (.putfield 15, 3) := by decide +kernel
theorem dX9_begin_16 : decode cX9_begin 16 = .ok (.iconst 0, 1) := by decide +kernel
theorem dX9_begin_17 : decode cX9_begin 17 = .ok (.istore_n 2, 1) := by decide +kernel
theorem dX9_begin_18 : decode cX9_begin 18 = .ok (.iload_n 2, 1) := by decide +kernel
theorem dX9_begin_19 : decode cX9_begin 19 = .ok (.iload_n 1, 1) := by decide +kernel
theorem dX9_begin_20 : decode cX9_begin 20 = .ok (.if_icmp .ge 17, 3) := by decide +kernel
theorem dX9_begin_23 : decode cX9_begin 23 = .ok (.aload_n 0, 1) := by decide +kernel
theorem dX9_begin_24 : decode cX9_begin 24 = .ok (.getfield 9, 3) := by decide +kernel
theorem dX9_begin_27 : decode cX9_begin 27 = .ok (.iload_n 2, 1) := by decide +kernel
theorem dX9_begin_28 : decode cX9_begin 28 = .ok (.bipush 32, 2) := by decide +kernel
theorem dX9_begin_30 : decode cX9_begin 30 = .ok (.bastore, 1) := by decide +kernel
theorem dX9_begin_31 : decode cX9_begin 31 = .ok (.iinc 2 1, 3) := by decide +kernel
theorem dX9_begin_34 : decode cX9_begin 34 = .ok (.goto (-16), 3) := by decide +kernel
theorem dX9_begin_37 : decode cX9_begin 37 = .ok (.return_, 1) := by decide +kernel
theorem dX9_get_0 : decode cX9_get 0 = .ok (.aload_n 0, 1) := by decide +kernel
theorem dX9_get_1 : decode cX9_get 1 = .ok (.iload_n 1, 1) := by decide +kernel
theorem dX9_get_2 : decode cX9_get 2 = .ok (.invokevirtual 19, 3) := by decide +kernel
theorem dX9_get_5 : decode cX9_get 5 = .ok (.ifCond .eq 12, 3) := by decide +kernel
theorem dX9_get_8 : decode cX9_get 8 = .ok (.aload_n 0, 1) := by decide +kernel
theorem dX9_get_9 : decode cX9_get 9 = .ok (.getfield 9, 3) := by decide +kernel
theorem dX9_get_12 : decode cX9_get 12 = .ok (.iload_n 1, 1) := by decide +kernel
theorem dX9_get_13 : decode cX9_get 13 = .ok (.baload, 1) := by decide +kernel
theorem dX9_get_14 : decode cX9_get 14 = .ok (.goto 6, 3) := by decide +kernel
theorem dX9_get_17 : decode cX9_get 17 = .ok (.sipush 1000, 3) := by decide +kernel
theorem dX9_get_20 : decode cX9_get 20 = .ok (.ireturn, 1) := by decide +kernel
theorem dX9_set_0 : decode cX9_set 0 = .ok (.aload_n 0, 1) := by decide +kernel
theorem dX9_set_1 : decode cX9_set 1 = .ok (.iload_n 1, 1) := by decide +kernel
theorem dX9_set_2 : decode cX9_set 2 = .ok (.invokevirtual 19, 3) := by decide +kernel
theorem dX9_set_5 : decode cX9_set 5 = .ok (.ifCond .eq 11, 3) := by decide +kernel
theorem dX9_set_8 : decode cX9_set 8 = .ok (.aload_n 0, 1) := by decide +kernel
theorem dX9_set_9 : decode cX9_set 9 = .ok (.getfield 9, 3) := by decide +kernel
theorem dX9_set_12 : decode cX9_set 12 = .ok (.iload_n 1, 1) := by decide +kernel
theorem dX9_set_13 : decode cX9_set 13 = .ok (.iload_n 2, 1) := by decide +kernel
theorem dX9_set_14 : decode cX9_set 14 = .ok (.i2b, 1) := by decide +kernel
theorem dX9_set_15 : decode cX9_set 15 = .ok (.bastore, 1) := by decide +kernel
theorem dX9_set_16 : decode cX9_set 16 = .ok (.return_, 1) := by decide +kernel
theorem dX9_digestOnto_0 : decode cX9_digestOnto 0 = .ok (.ldc2_w 23, 3) := by decide +kernel
theorem dX9_digestOnto_3 : decode cX9_digestOnto 3 = .ok (.lload_n 1, 1) := by decide +kernel
theorem dX9_digestOnto_4 : decode cX9_digestOnto 4 = .ok (.lmul, 1) := by decide +kernel
theorem dX9_digestOnto_5 : decode cX9_digestOnto 5 = .ok (.aload_n 0, 1) := by decide +kernel
theorem dX9_digestOnto_6 : decode cX9_digestOnto 6 = .ok (.getfield 15, 3) := by decide +kernel
theorem dX9_digestOnto_9 : decode cX9_digestOnto 9 = .ok (.i2l, 1) := by decide +kernel
theorem dX9_digestOnto_10 : decode cX9_digestOnto 10 = .ok (.ladd, 1) := by decide +kernel
theorem dX9_digestOnto_11 : decode cX9_digestOnto 11 = .ok (.lstore_n 3, 1) := by decide +kernel
theorem dX9_digestOnto_12 : decode cX9_digestOnto 12 = .ok (.iconst 0, 1) := by decide +kernel
theorem dX9_digestOnto_13 : decode cX9_digestOnto 13 = .ok (.istore 5, 2) := by decide +kernel
theorem dX9_digestOnto_15 : decode cX9_digestOnto 15 = .ok (.iload 5, 2) := by decide +kernel
theorem dX9_digestOnto_17 : decode cX9_digestOnto 17 = .ok (.aload_n 0, 1) := by decide +kernel
theorem dX9_digestOnto_18 : decode cX9_digestOnto 18 = .ok (.getfield 15, 3) := by decide +kernel
theorem dX9_digestOnto_21 : decode cX9_digestOnto 21 = .ok (.if_icmp .ge 24, 3) := by decide +kernel
theorem dX9_digestOnto_24 : decode cX9_digestOnto 24 = .ok (.ldc2_w 23, 3) := by decide +kernel
theorem dX9_digestOnto_27 : decode cX9_digestOnto 27 = .ok (.lload_n 3, 1) := by decide +kernel
theorem dX9_digestOnto_28 : decode cX9_digestOnto 28 = .ok (.lmul, 1) := by decide +kernel
theorem dX9_digestOnto_29 : decode cX9_digestOnto 29 = .ok (.aload_n 0, 1) := by decide +kernel
theorem dX9_digestOnto_30 : decode cX9_digestOnto 30 = .ok (.getfield 9, 3) := by decide +kernel
theorem dX9_digestOnto_33 : decode cX9_digestOnto 33 = .ok (.iload 5, 2) := by decide +kernel
theorem dX9_digestOnto_35 : decode cX9_digestOnto 35 = .ok (.baload, 1) := by decide +kernel
theorem dX9_digestOnto_36 : decode cX9_digestOnto 36 = .ok (.i2l, 1) := by decide +kernel
theorem dX9_digestOnto_37 : decode cX9_digestOnto 37 = .ok (.ladd, 1) := by decide +kernel
theorem dX9_digestOnto_38 : decode cX9_digestOnto 38 = .ok (.lstore_n 3, 1) := by decide +kernel
theorem dX9_digestOnto_39 : decode cX9_digestOnto 39 = .ok (.iinc 5 1, 3) := by decide +kernel
theorem dX9_digestOnto_42 : decode cX9_digestOnto 42 = .ok (.goto (-27), 3) := by decide +kernel
theorem dX9_digestOnto_45 : decode cX9_digestOnto 45 = .ok (.lload_n 3, 1) := by decide +kernel
theorem dX9_digestOnto_46 : decode cX9_digestOnto 46 = .ok (.lreturn, 1) := by decide +kernel
theorem dJ6_bitCount_0f7a4_0 : decode cJ6_bitCount_0f7a4 0 = .ok (.iload_n 0, 1) := by decide +kernel
theorem dJ6_bitCount_0f7a4_1 : decode cJ6_bitCount_0f7a4 1 = .ok (.iload_n 0, 1) := by decide +kernel
theorem dJ6_bitCount_0f7a4_2 : decode cJ6_bitCount_0f7a4 2 = .ok (.iconst 1, 1) := by decide +kernel
theorem dJ6_bitCount_0f7a4_3 : decode cJ6_bitCount_0f7a4 3 = .ok (.iushr, 1) := by decide +kernel
theorem dJ6_bitCount_0f7a4_4 : decode cJ6_bitCount_0f7a4 4 = .ok (.ldc_w 265, 3) := by decide +kernel
theorem dJ6_bitCount_0f7a4_7 : decode cJ6_bitCount_0f7a4 7 = .ok (.iand, 1) := by decide +kernel
theorem dJ6_bitCount_0f7a4_8 : decode cJ6_bitCount_0f7a4 8 = .ok (.isub, 1) := by decide +kernel
theorem dJ6_bitCount_0f7a4_9 : decode cJ6_bitCount_0f7a4 9 = .ok (.istore_n 0, 1) := by decide +kernel
theorem dJ6_bitCount_0f7a4_10 : decode cJ6_bitCount_0f7a4 10 = .ok (.iload_n 0, 1) := by decide +kernel
theorem dJ6_bitCount_0f7a4_11 : decode cJ6_bitCount_0f7a4 11 = .ok (.ldc_w 266, 3) := by decide +kernel
theorem dJ6_bitCount_0f7a4_14 : decode cJ6_bitCount_0f7a4 14 = .ok (.iand, 1) := by decide +kernel
theorem dJ6_bitCount_0f7a4_15 : decode cJ6_bitCount_0f7a4 15 = .ok (.iload_n 0, 1) := by decide +kernel
theorem dJ6_bitCount_0f7a4_16 : decode cJ6_bitCount_0f7a4 16 = .ok (.iconst 2, 1) := by decide +kernel
theorem dJ6_bitCount_0f7a4_17 : decode cJ6_bitCount_0f7a4 17 = .ok (.iushr, 1) := by decide +kernel
theorem dJ6_bitCount_0f7a4_18 : decode cJ6_bitCount_0f7a4 18 = .ok (.ldc_w 266, 3) := by decide +kernel
theorem dJ6_bitCount_0f7a4_21 : decode cJ6_bitCount_0f7a4 21 = .ok (.iand, 1) := by decide +kernel
theorem dJ6_bitCount_0f7a4_22 : decode cJ6_bitCount_0f7a4 22 = .ok (.iadd, 1) := by decide +kernel
theorem dJ6_bitCount_0f7a4_23 : decode cJ6_bitCount_0f7a4 23 = .ok (.istore_n 0, 1) := by decide +kernel
theorem dJ6_bitCount_0f7a4_24 : decode cJ6_bitCount_0f7a4 24 = .ok (.iload_n 0, 1) := by decide +kernel
theorem dJ6_bitCount_0f7a4_25 : decode cJ6_bitCount_0f7a4 25 = .ok (.iload_n 0, 1) := by decide +kernel
theorem dJ6_bitCount_0f7a4_26 : decode cJ6_bitCount_0f7a4 26 = .ok (.iconst 4, 1) := by decide +kernel
theorem dJ6_bitCount_0f7a4_27 : decode cJ6_bitCount_0f7a4 27 = .ok (.iushr, 1) := by decide +kernel
theorem dJ6_bitCount_0f7a4_28 : decode cJ6_bitCount_0f7a4 28 = .ok (.iadd, 1) := by decide +kernel
theorem dJ6_bitCount_0f7a4_29 : decode cJ6_bitCount_0f7a4 29 = .ok (.ldc_w 267, 3) := by decide +kernel
theorem dJ6_bitCount_0f7a4_32 : decode cJ6_bitCount_0f7a4 32 = .ok (.iand, 1) := by decide +kernel
theorem dJ6_bitCount_0f7a4_33 : decode cJ6_bitCount_0f7a4 33 = .ok (.istore_n 0, 1) := by decide +kernel
theorem dJ6_bitCount_0f7a4_34 : decode cJ6_bitCount_0f7a4 34 = .ok (.iload_n 0, 1) := by decide +kernel
theorem dJ6_bitCount_0f7a4_35 : decode cJ6_bitCount_0f7a4 35 = .ok (.iload_n 0, 1) := by decide +kernel
theorem dJ6_bitCount_0f7a4_36 : decode cJ6_bitCount_0f7a4 36 = .ok (.bipush 8, 2) := by decide +kernel
theorem dJ6_bitCount_0f7a4_38 : decode cJ6_bitCount_0f7a4 38 = .ok (.iushr, 1) := by decide +kernel
theorem dJ6_bitCount_0f7a4_39 : decode cJ6_bitCount_0f7a4 39 = .ok (.iadd, 1) := by decide +kernel
theorem dJ6_bitCount_0f7a4_40 : decode cJ6_bitCount_0f7a4 40 = .ok (.istore_n 0, 1) := by decide +kernel
theorem dJ6_bitCount_0f7a4_41 : decode cJ6_bitCount_0f7a4 41 = .ok (.iload_n 0, 1) := by decide +kernel
theorem dJ6_bitCount_0f7a4_42 : decode cJ6_bitCount_0f7a4 42 = .ok (.iload_n 0, 1) := by decide +kernel
theorem dJ6_bitCount_0f7a4_43 : decode cJ6_bitCount_0f7a4 43 = .ok (.bipush 16, 2) := by decide +kernel
theorem dJ6_bitCount_0f7a4_45 : decode cJ6_bitCount_0f7a4 45 = .ok (.iushr, 1) := by decide +kernel
theorem dJ6_bitCount_0f7a4_46 : decode cJ6_bitCount_0f7a4 46 = .ok (.iadd, 1) := by decide +kernel
theorem dJ6_bitCount_0f7a4_47 : decode cJ6_bitCount_0f7a4 47 = .ok (.istore_n 0, 1) := by decide +kernel
theorem dJ6_bitCount_0f7a4_48 : decode cJ6_bitCount_0f7a4 48 = .ok (.iload_n 0, 1) := by decide +kernel
theorem dJ6_bitCount_0f7a4_49 : decode cJ6_bitCount_0f7a4 49 = .ok (.bipush 63, 2) := by decide +kernel
theorem dJ6_bitCount_0f7a4_51 : decode cJ6_bitCount_0f7a4 51 = .ok (.iand, 1) := by decide +kernel
theorem dJ6_bitCount_0f7a4_52 : decode cJ6_bitCount_0f7a4 52 = .ok (.ireturn, 1) := by decide +kernel
theorem dJ9_abs_0f7a4_0 : decode cJ9_abs_0f7a4 0 = .ok (.iload_n 0, 1) := by decide +kernel
theorem dJ9_abs_0f7a4_1 : decode cJ9_abs_0f7a4 1 = .ok (.ifCond .ge 8, 3) := by decide +kernel
theorem dJ9_abs_0f7a4_4 : decode cJ9_abs_0f7a4 4 = .ok (.iload_n 0, 1) := by decide +kernel
theorem dJ9_abs_0f7a4_5 : decode cJ9_abs_0f7a4 5 = .ok (.ineg, 1) := by decide +kernel
theorem dJ9_abs_0f7a4_6 : decode cJ9_abs_0f7a4 6 = .ok (.goto 4, 3) := by decide +kernel
theorem dJ9_abs_0f7a4_9 : decode cJ9_abs_0f7a4 9 = .ok (.iload_n 0, 1) := by decide +kernel
theorem dJ9_abs_0f7a4_10 : decode cJ9_abs_0f7a4 10 = .ok (.ireturn, 1) := by decide +kernel
theorem dJ9_max_7cf53_0 : decode cJ9_max_7cf53 0 = .ok (.iload_n 0, 1) := by decide +kernel
theorem dJ9_max_7cf53_1 : decode cJ9_max_7cf53 1 = .ok (.iload_n 1, 1) := by decide +kernel
theorem dJ9_max_7cf53_2 : decode cJ9_max_7cf53 2 = .ok (.if_icmp .lt 7, 3) := by decide +kernel
theorem dJ9_max_7cf53_5 : decode cJ9_max_7cf53 5 = .ok (.iload_n 0, 1) := by decide +kernel
theorem dJ9_max_7cf53_6 : decode cJ9_max_7cf53 6 = .ok (.goto 4, 3) := by decide +kernel
theorem dJ9_max_7cf53_9 : decode cJ9_max_7cf53 9 = .ok (.iload_n 1, 1) := by decide +kernel
theorem dJ9_max_7cf53_10 : decode cJ9_max_7cf53 10 = .ok (.ireturn, 1) := by decide +kernel
theorem dJ9_min_7cf53_0 : decode cJ9_min_7cf53 0 = .ok (.iload_n 0, 1) := by decide +kernel
theorem dJ9_min_7cf53_1 : decode cJ9_min_7cf53 1 = .ok (.iload_n 1, 1) := by decide +kernel
theorem dJ9_min_7cf53_2 : decode cJ9_min_7cf53 2 = .ok (.if_icmp .gt 7, 3) := by decide +kernel
theorem dJ9_min_7cf53_5 : decode cJ9_min_7cf53 5 = .ok (.iload_n 0, 1) := by decide +kernel
theorem dJ9_min_7cf53_6 : decode cJ9_min_7cf53 6 = .ok (.goto 4, 3) := by decide +kernel
theorem dJ9_min_7cf53_9 : decode cJ9_min_7cf53 9 = .ok (.iload_n 1, 1) := by decide +kernel
theorem dJ9_min_7cf53_10 : decode cJ9_min_7cf53 10 = .ok (.ireturn, 1) := by decide +kernel
end
section
theorem dX10_init_0 : decode cX10_init 0 = .ok (.aload_n 0, 1) := by decide +kernel
theorem dX10_init_1 : decode cX10_init 1 = .ok (.invokespecial 1, 3) := by decide +kernel
theorem dX10_init_4 : decode cX10_init 4 = .ok (.aload_n 0, 1) := by decide +kernel
theorem dX10_init_5 : decode cX10_init 5 = .ok (.bipush 6, 2) := by decide +kernel
theorem dX10_init_7 : decode cX10_init 7 = .ok (.anewarray 9, 3) := by decide +kernel
theorem dX10_init_10 : decode cX10_init 10 = .ok (.putfield 11, 3) := by decide +kernel
theorem dX10_init_13 : decode cX10_init 13 = .ok (.iconst 0, 1) := by decide +kernel
theorem dX10_init_14 : decode cX10_init 14 = .ok (.istore_n 1, 1) := by decide +kernel
theorem dX10_init_15 : decode cX10_init 15 = .ok (.iload_n 1, 1) := by decide +kernel
theorem dX10_init_16 : decode cX10_init 16 = .ok (.bipush 6, 2) := by decide +kernel
theorem dX10_init_18 : decode cX10_init 18 = .ok (.if_icmp .ge 22, 3) := by decide +kernel
theorem dX10_init_21 : decode cX10_init 21 = .ok (.aload_n 0, 1) := by decide +kernel
theorem dX10_init_22 : decode cX10_init 22 = .ok (.getfield 11, 3) := by decide +kernel
theorem dX10_init_25 : decode cX10_init 25 = .ok (.iload_n 1, 1) := by decide +kernel
theorem dX10_init_26 : decode cX10_init 26 = .ok (.new 9, 3) := by decide +kernel
theorem dX10_init_29 : decode cX10_init 29 = .ok (.dup, 1) := by decide +kernel
theorem dX10_init_30 : decode cX10_init 30 = .ok (.invokespecial 15, 3) := by decide +kernel
theorem dX10_init_33 : decode cX10_init 33 = .ok (.aastore, 1) := by decide +kernel
theorem dX10_init_34 : decode cX10_init 34 = .ok (.iinc 1 1, 3) := by decide +kernel
theorem dX10_init_37 : decode cX10_init 37 = .ok (.goto (-22), 3) := by decide +kernel
theorem dX10_init_40 : decode cX10_init 40 = .ok (.aload_n 0, 1) := by decide +kernel
theorem dX10_init_41 : decode cX10_init 41 = .ok (.iconst 4, 1) := by decide +kernel
theorem dX10_init_42 : decode cX10_init 42 = .ok (.anewarray 16, 3) := by decide +kernel
theorem dX10_init_45 : decode cX10_init 45 = .ok (.putfield 18, 3) := by decide +kernel
theorem dX10_init_48 : decode cX10_init 48 = .ok (.iconst 0, 1) := by decide +kernel
theorem dX10_init_49 : decode cX10_init 49 = .ok (.istore_n 1, 1) := by decide +kernel
theorem dX10_init_50 : decode cX10_init 50 = .ok (.iload_n 1, 1) := by decide +kernel
theorem dX10_init_51 : decode cX10_init 51 = .ok (.iconst 4, 1) := by decide +kernel
theorem dX10_init_52 : decode cX10_init 52 = .ok (.if_icmp .ge 22, 3) := by decide +kernel
theorem dX10_init_55 : decode cX10_init 55 = .ok (.aload_n 0, 1) := by decide +kernel
theorem dX10_init_56 : decode cX10_init 56 = .ok (.getfield 18, 3) := by decide +kernel
theorem dX10_init_59 : decode cX10_init 59 = .ok (.iload_n 1, 1) := by decide +kernel
theorem dX10_init_60 : decode cX10_init 60 = .ok (.new 16, 3) := by decide +kernel
theorem dX10_init_63 : decode cX10_init 63 = .ok (.dup, 1) := by decide +kernel
theorem dX10_init_64 : decode cX10_init 64 = .ok (.invokespecial 22, 3) := by decide +kernel
theorem dX10_init_67 : decode cX10_init 67 = .ok (.aastore, 1) := by decide +kernel
theorem dX10_init_68 : decode cX10_init 68 = .ok (.iinc 1 1, 3) := by decide +kernel
theorem dX10_init_71 : decode cX10_init 71 = .ok (.goto (-21), 3) := by decide +kernel
theorem dX10_init_74 : decode cX10_init 74 = .ok (.aload_n 0, 1) := by decide +kernel
theorem dX10_init_75 : decode cX10_init 75 = .ok (.new 23, 3) := by decide +kernel
theorem dX10_init_78 : decode cX10_init 78 = .ok (.dup, 1) := by decide +kernel
theorem dX10_init_79 : decode cX10_init 79 = .ok (.invokespecial 25, 3) := by decide +kernel
theorem dX10_init_82 : decode cX10_init 82 = .ok (.putfield 26, 3) := by decide +kernel
theorem dX10_init_85 : decode cX10_init 85 = .ok (.aload_n 0, 1) := by decide +kernel
theorem dX10_init_86 : decode cX10_init 86 = .ok (.new 30, 3) := by decide +kernel
theorem dX10_init_89 : decode cX10_init 89 = .ok (.dup, 1) := by decide +kernel
theorem dX10_init_90 : decode cX10_init 90 = .ok (.aload_n 0, 1) := by decide +kernel
theorem dX10_init_91 : decode cX10_init 91 = .ok (.getfield 26, 3) := by decide +kernel
theorem dX10_init_94 : decode cX10_init 94 = .ok (.invokespecial 32, 3) := by decide +kernel
theorem dX10_init_97 : decode cX10_init 97 = .ok (.putfield 35, 3) := by decide +kernel
theorem dX10_init_100 : decode cX10_init 100 = .ok (.aload_n 0, 1) := by decide +kernel
theorem dX10_init_101 : decode cX10_init 101 = .ok (.iconst 3, 1) := by decide +kernel
theorem dX10_init_102 : decode cX10_init 102 = .ok (.anewarray 30, 3) := by decide +kernel
theorem dX10_init_105 : decode cX10_init 105 = .ok (.putfield 39, 3) := by decide +kernel
theorem dX10_init_108 : decode cX10_init 108 = .ok (.iconst 0, 1) := by decide +kernel
theorem dX10_init_109 : decode cX10_init 109 = .ok (.istore_n 1, 1) := by decide +kernel
theorem dX10_init_110 : decode cX10_init 110 = .ok (.iload_n 1, 1) := by decide +kernel
theorem dX10_init_111 : decode cX10_init 111 = .ok (.iconst 3, 1) := by decide +kernel
theorem dX10_init_112 : decode cX10_init 112 = .ok (.if_icmp .ge 26, 3) := by decide +kernel
theorem dX10_init_115 : decode cX10_init 115 = .ok (.aload_n 0, 1) := by decide +kernel
theorem dX10_init_116 : decode cX10_init 116 = .ok (.getfield 39, 3) := by decide +kernel
theorem dX10_init_119 : decode cX10_init 119 = .ok (.iload_n 1, 1) := by decide +kernel
theorem dX10_init_120 : decode cX10_init 120 = .ok (.new 30, 3) := by decide +kernel
theorem dX10_init_123 : decode cX10_init 123 = .ok (.dup, 1) := by decide +kernel
theorem dX10_init_124 : decode cX10_init 124 = .ok (.aload_n 0, 1) := by decide +kernel
theorem dX10_init_125 : decode cX10_init 125 = .ok (.getfield 26, 3) := by decide +kernel
theorem dX10_init_128 : decode cX10_init 128 = .ok (.invokespecial 32, 3) := by decide +kernel
theorem dX10_init_131 : decode cX10_init 131 = .ok (.aastore, 1) := by decide +kernel
theorem dX10_init_132 : decode cX10_init 132 = .ok (.iinc 1 1, 3) := by decide +kernel
theorem dX10_init_135 : decode cX10_init 135 = .ok (.goto (-25), 3) := by decide +kernel
theorem dX10_init_138 : decode cX10_init 138 = .ok (.aload_n 0, 1) := by decide +kernel
theorem dX10_init_139 : decode cX10_init 139 = .ok (.new 43, 3) := by decide +kernel
theorem dX10_init_142 : decode cX10_init 142 = .ok (.dup, 1) := by decide +kernel
theorem dX10_init_143 : decode cX10_init 143 = .ok (.invokespecial 45, 3) := by decide +kernel
theorem dX10_init_146 : decode cX10_init 146 = .ok (.putfield 46, 3) := by decide +kernel
theorem dX10_init_149 : decode cX10_init 149 = .ok (.aload_n 0, 1) := by decide +kernel
theorem dX10_init_150 : decode cX10_init 150 = .ok (.new 23, 3) := by decide +kernel
theorem dX10_init_153 : decode cX10_init 153 = .ok (.dup, 1) := by decide +kernel
theorem dX10_init_154 : decode cX10_init 154 = .ok (.invokespecial 25, 3) := by decide +kernel
theorem dX10_init_157 : decode cX10_init 157 = .ok (.putfield 50, 3) := by decide +kernel
theorem dX10_init_160 : decode cX10_init 160 = .ok (.aload_n 0, 1) := by decide +kernel
theorem dX10_init_161 : decode cX10_init 161 = .ok (.new 53, 3) := by decide +kernel
theorem dX10_init_164 : decode cX10_init 164 = .ok (.dup, 1) := by decide +kernel
theorem dX10_init_165 : decode cX10_init 165 = .ok (.aload_n 0, 1) := by decide +kernel
theorem dX10_init_166 : decode cX10_init 166 = .ok (.getfield 50, 3) := by decide +kernel
theorem dX10_init_169 : decode cX10_init 169 = .ok (.invokespecial 55, 3) := by decide +kernel
theorem dX10_init_172 : decode cX10_init 172 = .ok (.putfield 56, 3) := by decide +kernel
theorem dX10_init_175 : decode cX10_init 175 = .ok (.aload_n 0, 1) := by decide +kernel
theorem dX10_init_176 : decode cX10_init 176 = .ok (.new 53, 3) := by decide +kernel
theorem dX10_init_179 : decode cX10_init 179 = .ok (.dup, 1) := by decide +kernel
theorem dX10_init_180 : decode cX10_init 180 = .ok (.aload_n 0, 1) := by decide +kernel
theorem dX10_init_181 : decode cX10_init 181 = .ok (.getfield 26, 3) := by decide +kernel
theorem dX10_init_184 : decode cX10_init 184 = .ok (.invokespecial 55, 3) := by decide +kernel
theorem dX10_init_187 : decode cX10_init 187 = .ok (.putfield 60, 3) := by decide +kernel
theorem dX10_init_190 : decode cX10_init 190 = .ok (.aload_n 0, 1) := by decide +kernel
theorem dX10_init_191 : decode cX10_init 191 = .ok (.new 63, 3) := by decide +kernel
theorem dX10_init_194 : decode cX10_init 194 = .ok (.dup, 1) := by decide +kernel
theorem dX10_init_195 : decode cX10_init 195 = .ok (.aload_n 0, 1) := by decide +kernel
theorem dX10_init_196 : decode cX10_init 196 = .ok (.getfield 26, 3) := by decide +kernel
theorem dX10_init_199 : decode cX10_init 199 = .ok (.invokespecial 65, 3) := by decide +kernel
theorem dX10_init_202 : decode cX10_init 202 = .ok (.putfield 66, 3) := by decide +kernel
theorem dX10_init_205 : decode cX10_init 205 = .ok (.aload_n 0, 1) := by decide +kernel
theorem dX10_init_206 : decode cX10_init 206 = .ok (.new 70, 3) := by decide +kernel
theorem dX10_init_209 : decode cX10_init 209 = .ok (.dup, 1) := by decide +kernel
theorem dX10_init_210 : decode cX10_init 210 = .ok (.aload_n 0, 1) := by decide +kernel
theorem dX10_init_211 : decode cX10_init 211 = .ok (.getfield 26, 3) := by decide +kernel
theorem dX10_init_214 : decode cX10_init 214 = .ok (.invokespecial 72, 3) := by decide +kernel
theorem dX10_init_217 : decode cX10_init 217 = .ok (.putfield 73, 3) := by decide +kernel
theorem dX10_init_220 : decode cX10_init 220 = .ok (.aload_n 0, 1) := by decide +kernel
theorem dX10_init_221 : decode cX10_init 221 = .ok (.new 77, 3) := by decide +kernel
theorem dX10_init_224 : decode cX10_init 224 = .ok (.dup, 1) := by decide +kernel
theorem dX10_init_225 : decode cX10_init 225 = .ok (.aload_n 0, 1) := by decide +kernel
theorem dX10_init_226 : decode cX10_init 226 = .ok (.getfield 26, 3) := by decide +kernel
theorem dX10_init_229 : decode cX10_init 229 = .ok (.invokespecial 79, 3) := by decide +kernel
theorem dX10_init_232 : decode cX10_init 232 = .ok (.putfield 80, 3) := by decide +kernel
theorem dX10_init_235 : decode cX10_init 235 = .ok (.aload_n 0, 1) := by decide +kernel
theorem dX10_init_236 : decode cX10_init 236 = .ok (.bipush 6, 2) := by decide +kernel
theorem dX10_init_238 : decode cX10_init 238 = .ok (.newarray .int, 2) := by decide +kernel
theorem dX10_init_240 : decode cX10_init 240 = .ok (.putfield 84, 3) := by decide +kernel
theorem dX10_init_243 : decode cX10_init 243 = .ok (.aload_n 0, 1) := by decide +kernel
theorem dX10_init_244 : decode cX10_init 244 = .ok (.iconst 0, 1) := by decide +kernel
theorem dX10_init_245 : decode cX10_init 245 = .ok (.putfield 88, 3) := by decide +kernel
theorem dX10_init_248 : decode cX10_init 248 = .ok (.aload_n 0, 1) := by decide +kernel
theorem dX10_init_249 : decode cX10_init 249 = .ok (.iconst 0, 1) := by decide +kernel
theorem dX10_init_250 : decode cX10_init 250 = .ok (.putfield 92, 3) := by decide +kernel
theorem dX10_init_253 : decode cX10_init 253 = .ok (.aload_n 0, 1) := by decide +kernel
theorem dX10_init_254 : decode cX10_init 254 = .ok (.lconst 0, 1) := by decide +kernel
theorem dX10_init_255 : decode cX10_init 255 = .ok (.putfield 95, 3) := by decide +kernel
theorem dX10_init_258 : decode cX10_init 258 = .ok (.aload_n 0, 1) := by decide +kernel
theorem dX10_init_259 : decode cX10_init 259 = .ok (.lconst 1, 1) := by decide +kernel
theorem dX10_init_260 : decode cX10_init 260 = .ok (.putfield 99, 3) := by decide +kernel
theorem dX10_init_263 : decode cX10_init 263 = .ok (.return_, 1) := by decide +kernel
theorem dX10_row_0 : decode cX10_row 0 = .ok (.iload_n 1, 1) := by decide +kernel
theorem dX10_row_1 : decode cX10_row 1 = .ok (.invokestatic 102, 3) := by decide +kernel
theorem dX10_row_4 : decode cX10_row 4 = .ok (.ifCond .eq 9, 3) := by decide +kernel
theorem dX10_row_7 : decode cX10_row 7 = .ok (.iload_n 2, 1) := by decide +kernel
theorem dX10_row_8 : decode cX10_row 8 = .ok (.bipush 40, 2) := by decide +kernel
theorem dX10_row_10 : decode cX10_row 10 = .ok (.if_icmp .le 5, 3) := by decide +kernel
theorem dX10_row_13 : decode cX10_row 13 = .ok (.iconst (-1), 1) := by decide +kernel
theorem dX10_row_14 : decode cX10_row 14 = .ok (.ireturn, 1) := by decide +kernel
theorem dX10_row_15 : decode cX10_row 15 = .ok (.iload_n 2, 1) := by decide +kernel
theorem dX10_row_16 : decode cX10_row 16 = .ok (.ifCond .ge 9, 3) := by decide +kernel
theorem dX10_row_19 : decode cX10_row 19 = .ok (.aload_n 0, 1) := by decide +kernel
theorem dX10_row_20 : decode cX10_row 20 = .ok (.iconst 5, 1) := by decide +kernel
theorem dX10_row_21 : decode cX10_row 21 = .ok (.invokevirtual 106, 3) := by decide +kernel
theorem dX10_row_24 : decode cX10_row 24 = .ok (.ireturn, 1) := by decide +kernel
theorem dX10_row_25 : decode cX10_row 25 = .ok (.aload_n 0, 1) := by decide +kernel
theorem dX10_row_26 : decode cX10_row 26 = .ok (.getfield 11, 3) := by decide +kernel
theorem dX10_row_29 : decode cX10_row 29 = .ok (.iload_n 1, 1) := by decide +kernel
theorem dX10_row_30 : decode cX10_row 30 = .ok (.aaload, 1) := by decide +kernel
theorem dX10_row_31 : decode cX10_row 31 = .ok (.iload_n 2, 1) := by decide +kernel
theorem dX10_row_32 : decode cX10_row 32 = .ok (.invokevirtual 110, 3) := by decide +kernel
theorem dX10_row_35 : decode cX10_row 35 = .ok (.iload_n 2, 1) := by decide +kernel
theorem dX10_row_36 : decode cX10_row 36 = .ok (.ireturn, 1) := by decide +kernel
theorem dX10_lay_0 : decode cX10_lay 0 = .ok (.iload_n 1, 1) := by decide +kernel
theorem dX10_lay_1 : decode cX10_lay 1 = .ok (.invokestatic 102, 3) := by decide +kernel
theorem dX10_lay_4 : decode cX10_lay 4 = .ok (.ifCond .ne 5, 3) := by decide +kernel
theorem dX10_lay_7 : decode cX10_lay 7 = .ok (.iconst (-1), 1) := by decide +kernel
theorem dX10_lay_8 : decode cX10_lay 8 = .ok (.ireturn, 1) := by decide +kernel
theorem dX10_lay_9 : decode cX10_lay 9 = .ok (.aload_n 0, 1) := by decide +kernel
theorem dX10_lay_10 : decode cX10_lay 10 = .ok (.getfield 11, 3) := by decide +kernel
theorem dX10_lay_13 : decode cX10_lay 13 = .ok (.iload_n 1, 1) := by decide +kernel
theorem dX10_lay_14 : decode cX10_lay 14 = .ok (.aaload, 1) := by decide +kernel
theorem dX10_lay_15 : decode cX10_lay 15 = .ok (.astore 4, 2) := by decide +kernel
theorem dX10_lay_17 : decode cX10_lay 17 = .ok (.aload 4, 2) := by decide +kernel
theorem dX10_lay_19 : decode cX10_lay 19 = .ok (.iload_n 2, 1) := by decide +kernel
theorem dX10_lay_20 : decode cX10_lay 20 = .ok (.invokevirtual 114, 3) := by decide +kernel
theorem dX10_lay_23 : decode cX10_lay 23 = .ok (.istore 5, 2) := by decide +kernel
theorem dX10_lay_25 : decode cX10_lay 25 = .ok (.iload 5, 2) := by decide +kernel
theorem dX10_lay_27 : decode cX10_lay 27 = .ok (.ifCond .eq 10, 3) := by decide +kernel
theorem dX10_lay_30 : decode cX10_lay 30 = .ok (.aload_n 0, 1) := by decide +kernel
theorem dX10_lay_31 : decode cX10_lay 31 = .ok (.iload 5, 2) := by decide +kernel
theorem dX10_lay_33 : decode cX10_lay 33 = .ok (.invokevirtual 106, 3) := by decide +kernel
theorem dX10_lay_36 : decode cX10_lay 36 = .ok (.ireturn, 1) := by decide +kernel
theorem dX10_lay_37 : decode cX10_lay 37 = .ok (.aload_n 0, 1) := by decide +kernel
theorem dX10_lay_38 : decode cX10_lay 38 = .ok (.aload 4, 2) := by decide +kernel
theorem dX10_lay_40 : decode cX10_lay 40 = .ok (.iload_n 2, 1) := by decide +kernel
theorem dX10_lay_41 : decode cX10_lay 41 = .ok (.invokevirtual 117, 3) := by decide +kernel
theorem dX10_lay_44 : decode cX10_lay 44 = .ok (.putfield 92, 3) := by decide +kernel
theorem dX10_lay_47 : decode cX10_lay 47 = .ok (.aload 4, 2) := by decide +kernel
theorem dX10_lay_49 : decode cX10_lay 49 = .ok (.iload_n 2, 1) := by decide +kernel
theorem dX10_lay_50 : decode cX10_lay 50 = .ok (.iload_n 3, 1) := by decide +kernel
theorem dX10_lay_51 : decode cX10_lay 51 = .ok (.invokevirtual 120, 3) := by decide +kernel
theorem dX10_lay_54 : decode cX10_lay 54 = .ok (.iconst 1, 1) := by decide +kernel
theorem dX10_lay_55 : decode cX10_lay 55 = .ok (.ireturn, 1) := by decide +kernel
theorem dX10_at_0 : decode cX10_at 0 = .ok (.iload_n 1, 1) := by decide +kernel
theorem dX10_at_1 : decode cX10_at 1 = .ok (.invokestatic 102, 3) := by decide +kernel
theorem dX10_at_4 : decode cX10_at 4 = .ok (.ifCond .ne 5, 3) := by decide +kernel
theorem dX10_at_7 : decode cX10_at 7 = .ok (.iconst (-1), 1) := by decide +kernel
theorem dX10_at_8 : decode cX10_at 8 = .ok (.ireturn, 1) := by decide +kernel
theorem dX10_at_9 : decode cX10_at 9 = .ok (.aload_n 0, 1) := by decide +kernel
theorem dX10_at_10 : decode cX10_at 10 = .ok (.getfield 11, 3) := by decide +kernel
theorem dX10_at_13 : decode cX10_at 13 = .ok (.iload_n 1, 1) := by decide +kernel
theorem dX10_at_14 : decode cX10_at 14 = .ok (.aaload, 1) := by decide +kernel
theorem dX10_at_15 : decode cX10_at 15 = .ok (.iload_n 2, 1) := by decide +kernel
theorem dX10_at_16 : decode cX10_at 16 = .ok (.invokevirtual 114, 3) := by decide +kernel
theorem dX10_at_19 : decode cX10_at 19 = .ok (.istore_n 3, 1) := by decide +kernel
theorem dX10_at_20 : decode cX10_at 20 = .ok (.iload_n 3, 1) := by decide +kernel
theorem dX10_at_21 : decode cX10_at 21 = .ok (.ifCond .eq 9, 3) := by decide +kernel
theorem dX10_at_24 : decode cX10_at 24 = .ok (.aload_n 0, 1) := by decide +kernel
theorem dX10_at_25 : decode cX10_at 25 = .ok (.iload_n 3, 1) := by decide +kernel
theorem dX10_at_26 : decode cX10_at 26 = .ok (.invokevirtual 106, 3) := by decide +kernel
theorem dX10_at_29 : decode cX10_at 29 = .ok (.ireturn, 1) := by decide +kernel
theorem dX10_at_30 : decode cX10_at 30 = .ok (.aload_n 0, 1) := by decide +kernel
theorem dX10_at_31 : decode cX10_at 31 = .ok (.aload_n 0, 1) := by decide +kernel
theorem dX10_at_32 : decode cX10_at 32 = .ok (.getfield 11, 3) := by decide +kernel
theorem dX10_at_35 : decode cX10_at 35 = .ok (.iload_n 1, 1) := by decide +kernel
theorem dX10_at_36 : decode cX10_at 36 = .ok (.aaload, 1) := by decide +kernel
theorem dX10_at_37 : decode cX10_at 37 = .ok (.iload_n 2, 1) := by decide +kernel
theorem dX10_at_38 : decode cX10_at 38 = .ok (.invokevirtual 117, 3) := by decide +kernel
theorem dX10_at_41 : decode cX10_at 41 = .ok (.putfield 92, 3) := by decide +kernel
theorem dX10_at_44 : decode cX10_at 44 = .ok (.iconst 1, 1) := by decide +kernel
theorem dX10_at_45 : decode cX10_at 45 = .ok (.ireturn, 1) := by decide +kernel
theorem dX10_tear_0 : decode cX10_tear 0 = .ok (.iload_n 1, 1) := by decide +kernel
theorem dX10_tear_1 : decode cX10_tear 1 = .ok (.invokestatic 102, 3) := by decide +kernel
theorem dX10_tear_4 : decode cX10_tear 4 = .ok (.ifCond .ne 5, 3) := by decide +kernel
theorem dX10_tear_7 : decode cX10_tear 7 = .ok (.iconst (-1), 1) := by decide +kernel
theorem dX10_tear_8 : decode cX10_tear 8 = .ok (.ireturn, 1) := by decide +kernel
theorem dX10_tear_9 : decode cX10_tear 9 = .ok (.aload_n 0, 1) := by decide +kernel
theorem dX10_tear_10 : decode cX10_tear 10 = .ok (.getfield 11, 3) := by decide +kernel
theorem dX10_tear_13 : decode cX10_tear 13 = .ok (.iload_n 1, 1) := by decide +kernel
theorem dX10_tear_14 : decode cX10_tear 14 = .ok (.aaload, 1) := by decide +kernel
theorem dX10_tear_15 : decode cX10_tear 15 = .ok (.invokevirtual 124, 3) := by decide +kernel
theorem dX10_tear_18 : decode cX10_tear 18 = .ok (.ifCond .ne 9, 3) := by decide +kernel
theorem dX10_tear_21 : decode cX10_tear 21 = .ok (.aload_n 0, 1) := by decide +kernel
theorem dX10_tear_22 : decode cX10_tear 22 = .ok (.iconst 1, 1) := by decide +kernel
theorem dX10_tear_23 : decode cX10_tear 23 = .ok (.invokevirtual 106, 3) := by decide +kernel
theorem dX10_tear_26 : decode cX10_tear 26 = .ok (.ireturn, 1) := by decide +kernel
theorem dX10_tear_27 : decode cX10_tear 27 = .ok (.aload_n 0, 1) := by decide +kernel
theorem dX10_tear_28 : decode cX10_tear 28 = .ok (.getfield 11, 3) := by decide +kernel
theorem dX10_tear_31 : decode cX10_tear 31 = .ok (.iload_n 1, 1) := by decide +kernel
theorem dX10_tear_32 : decode cX10_tear 32 = .ok (.aaload, 1) := by decide +kernel
theorem dX10_tear_33 : decode cX10_tear 33 = .ok (.invokevirtual 128, 3) := by decide +kernel
theorem dX10_tear_36 : decode cX10_tear 36 = .ok (.iconst 1, 1) := by decide +kernel
theorem dX10_tear_37 : decode cX10_tear 37 = .ok (.ireturn, 1) := by decide +kernel
theorem dX10_copy_0 : decode cX10_copy 0 = .ok (.iload_n 1, 1) := by decide +kernel
theorem dX10_copy_1 : decode cX10_copy 1 = .ok (.invokestatic 102, 3) := by decide +kernel
theorem dX10_copy_4 : decode cX10_copy 4 = .ok (.ifCond .eq 10, 3) := by decide +kernel
theorem dX10_copy_7 : decode cX10_copy 7 = .ok (.iload_n 3, 1) := by decide +kernel
theorem dX10_copy_8 : decode cX10_copy 8 = .ok (.invokestatic 102, 3) := by decide +kernel
theorem dX10_copy_11 : decode cX10_copy 11 = .ok (.ifCond .ne 5, 3) := by decide +kernel
theorem dX10_copy_14 : decode cX10_copy 14 = .ok (.iconst (-1), 1) := by decide +kernel
theorem dX10_copy_15 : decode cX10_copy 15 = .ok (.ireturn, 1) := by decide +kernel
theorem dX10_copy_16 : decode cX10_copy 16 = .ok (.iload 5, 2) := by decide +kernel
theorem dX10_copy_18 : decode cX10_copy 18 = .ok (.ifCond .ge 9, 3) := by decide +kernel
theorem dX10_copy_21 : decode cX10_copy 21 = .ok (.aload_n 0, 1) := by decide +kernel
theorem dX10_copy_22 : decode cX10_copy 22 = .ok (.iconst 5, 1) := by decide +kernel
theorem dX10_copy_23 : decode cX10_copy 23 = .ok (.invokevirtual 106, 3) := by decide +kernel
theorem dX10_copy_26 : decode cX10_copy 26 = .ok (.ireturn, 1) := by decide +kernel
theorem dX10_copy_27 : decode cX10_copy 27 = .ok (.aload_n 0, 1) := by decide +kernel
theorem dX10_copy_28 : decode cX10_copy 28 = .ok (.getfield 11, 3) := by decide +kernel
theorem dX10_copy_31 : decode cX10_copy 31 = .ok (.iload_n 1, 1) := by decide +kernel
theorem dX10_copy_32 : decode cX10_copy 32 = .ok (.aaload, 1) := by decide +kernel
theorem dX10_copy_33 : decode cX10_copy 33 = .ok (.invokevirtual 124, 3) := by decide +kernel
theorem dX10_copy_36 : decode cX10_copy 36 = .ok (.ifCond .eq 15, 3) := by decide +kernel
theorem dX10_copy_39 : decode cX10_copy 39 = .ok (.aload_n 0, 1) := by decide +kernel
theorem dX10_copy_40 : decode cX10_copy 40 = .ok (.getfield 11, 3) := by decide +kernel
theorem dX10_copy_43 : decode cX10_copy 43 = .ok (.iload_n 3, 1) := by decide +kernel
theorem dX10_copy_44 : decode cX10_copy 44 = .ok (.aaload, 1) := by decide +kernel
theorem dX10_copy_45 : decode cX10_copy 45 = .ok (.invokevirtual 124, 3) := by decide +kernel
theorem dX10_copy_48 : decode cX10_copy 48 = .ok (.ifCond .ne 9, 3) := by decide +kernel
theorem dX10_copy_51 : decode cX10_copy 51 = .ok (.aload_n 0, 1) := by decide +kernel
theorem dX10_copy_52 : decode cX10_copy 52 = .ok (.iconst 1, 1) := by decide +kernel
theorem dX10_copy_53 : decode cX10_copy 53 = .ok (.invokevirtual 106, 3) := by decide +kernel
theorem dX10_copy_56 : decode cX10_copy 56 = .ok (.ireturn, 1) := by decide +kernel
theorem dX10_copy_57 : decode cX10_copy 57 = .ok (.aload_n 0, 1) := by decide +kernel
theorem dX10_copy_58 : decode cX10_copy 58 = .ok (.getfield 11, 3) := by decide +kernel
theorem dX10_copy_61 : decode cX10_copy 61 = .ok (.iload_n 1, 1) := by decide +kernel
theorem dX10_copy_62 : decode cX10_copy 62 = .ok (.aaload, 1) := by decide +kernel
theorem dX10_copy_63 : decode cX10_copy 63 = .ok (.iload_n 2, 1) := by decide +kernel
theorem dX10_copy_64 : decode cX10_copy 64 = .ok (.iload 5, 2) := by decide +kernel
theorem dX10_copy_66 : decode cX10_copy 66 = .ok (.invokevirtual 131, 3) := by decide +kernel
theorem dX10_copy_69 : decode cX10_copy 69 = .ok (.ifCond .eq 19, 3) := by decide +kernel
theorem dX10_copy_72 : decode cX10_copy 72 = .ok (.aload_n 0, 1) := by decide +kernel
theorem dX10_copy_73 : decode cX10_copy 73 = .ok (.getfield 11, 3) := by decide +kernel
theorem dX10_copy_76 : decode cX10_copy 76 = .ok (.iload_n 3, 1) := by decide +kernel
theorem dX10_copy_77 : decode cX10_copy 77 = .ok (.aaload, 1) := by decide +kernel
theorem dX10_copy_78 : decode cX10_copy 78 = .ok (.iload 4, 2) := by decide +kernel
theorem dX10_copy_80 : decode cX10_copy 80 = .ok (.iload 5, 2) := by decide +kernel
theorem dX10_copy_82 : decode cX10_copy 82 = .ok (.invokevirtual 131, 3) := by decide +kernel
theorem dX10_copy_85 : decode cX10_copy 85 = .ok (.ifCond .ne 9, 3) := by decide +kernel
theorem dX10_copy_88 : decode cX10_copy 88 = .ok (.aload_n 0, 1) := by decide +kernel
theorem dX10_copy_89 : decode cX10_copy 89 = .ok (.iconst 2, 1) := by decide +kernel
theorem dX10_copy_90 : decode cX10_copy 90 = .ok (.invokevirtual 106, 3) := by decide +kernel
theorem dX10_copy_93 : decode cX10_copy 93 = .ok (.ireturn, 1) := by decide +kernel
theorem dX10_copy_94 : decode cX10_copy 94 = .ok (.aload_n 0, 1) := by decide +kernel
theorem dX10_copy_95 : decode cX10_copy 95 = .ok (.getfield 11, 3) := by decide +kernel
theorem dX10_copy_98 : decode cX10_copy 98 = .ok (.iload_n 1, 1) := by decide +kernel
theorem dX10_copy_99 : decode cX10_copy 99 = .ok (.aaload, 1) := by decide +kernel
theorem dX10_copy_100 : decode cX10_copy 100 = .ok (.getfield 135, 3) := by decide +kernel
theorem dX10_copy_103 : decode cX10_copy 103 = .ok (.iload_n 2, 1) := by decide +kernel
theorem dX10_copy_104 : decode cX10_copy 104 = .ok (.aload_n 0, 1) := by decide +kernel
theorem dX10_copy_105 : decode cX10_copy 105 = .ok (.getfield 11, 3) := by decide +kernel
theorem dX10_copy_108 : decode cX10_copy 108 = .ok (.iload_n 3, 1) := by decide +kernel
theorem dX10_copy_109 : decode cX10_copy 109 = .ok (.aaload, 1) := by decide +kernel
theorem dX10_copy_110 : decode cX10_copy 110 = .ok (.getfield 135, 3) := by decide +kernel
theorem dX10_copy_113 : decode cX10_copy 113 = .ok (.iload 4, 2) := by decide +kernel
theorem dX10_copy_115 : decode cX10_copy 115 = .ok (.iload 5, 2) := by decide +kernel
theorem dX10_copy_117 : decode cX10_copy 117 = .ok (.invokestatic 138, 3) := by decide +kernel
theorem dX10_copy_120 : decode cX10_copy 120 = .ok (.iconst 1, 1) := by decide +kernel
theorem dX10_copy_121 : decode cX10_copy 121 = .ok (.ireturn, 1) := by decide +kernel
theorem dX10_mean_0 : decode cX10_mean 0 = .ok (.iload_n 1, 1) := by decide +kernel
theorem dX10_mean_1 : decode cX10_mean 1 = .ok (.invokestatic 102, 3) := by decide +kernel
theorem dX10_mean_4 : decode cX10_mean 4 = .ok (.ifCond .ne 5, 3) := by decide +kernel
theorem dX10_mean_7 : decode cX10_mean 7 = .ok (.iconst (-1), 1) := by decide +kernel
theorem dX10_mean_8 : decode cX10_mean 8 = .ok (.ireturn, 1) := by decide +kernel
theorem dX10_mean_9 : decode cX10_mean 9 = .ok (.aload_n 0, 1) := by decide +kernel
theorem dX10_mean_10 : decode cX10_mean 10 = .ok (.getfield 11, 3) := by decide +kernel
theorem dX10_mean_13 : decode cX10_mean 13 = .ok (.iload_n 1, 1) := by decide +kernel
theorem dX10_mean_14 : decode cX10_mean 14 = .ok (.aaload, 1) := by decide +kernel
theorem dX10_mean_15 : decode cX10_mean 15 = .ok (.astore_n 2, 1) := by decide +kernel
theorem dX10_mean_16 : decode cX10_mean 16 = .ok (.aload_n 2, 1) := by decide +kernel
theorem dX10_mean_17 : decode cX10_mean 17 = .ok (.invokevirtual 124, 3) := by decide +kernel
theorem dX10_mean_20 : decode cX10_mean 20 = .ok (.ifCond .ne 9, 3) := by decide +kernel
theorem dX10_mean_23 : decode cX10_mean 23 = .ok (.aload_n 0, 1) := by decide +kernel
theorem dX10_mean_24 : decode cX10_mean 24 = .ok (.iconst 1, 1) := by decide +kernel
theorem dX10_mean_25 : decode cX10_mean 25 = .ok (.invokevirtual 106, 3) := by decide +kernel
theorem dX10_mean_28 : decode cX10_mean 28 = .ok (.ireturn, 1) := by decide +kernel
theorem dX10_mean_29 : decode cX10_mean 29 = .ok (.aload_n 2, 1) := by decide +kernel
theorem dX10_mean_30 : decode cX10_mean 30 = .ok (.getfield 144, 3) := by decide +kernel
theorem dX10_mean_33 : decode cX10_mean 33 = .ok (.ifCond .ne 9, 3) := by decide +kernel
theorem dX10_mean_36 : decode cX10_mean 36 = .ok (.aload_n 0, 1) := by decide +kernel
theorem dX10_mean_37 : decode cX10_mean 37 = .ok (.iconst 4, 1) := by decide +kernel
theorem dX10_mean_38 : decode cX10_mean 38 = .ok (.invokevirtual 106, 3) := by decide +kernel
theorem dX10_mean_41 : decode cX10_mean 41 = .ok (.ireturn, 1) := by decide +kernel
theorem dX10_mean_42 : decode cX10_mean 42 = .ok (.aload_n 0, 1) := by decide +kernel
theorem dX10_mean_43 : decode cX10_mean 43 = .ok (.aload_n 2, 1) := by decide +kernel
theorem dX10_mean_44 : decode cX10_mean 44 = .ok (.invokevirtual 147, 3) := by decide +kernel
theorem dX10_mean_47 : decode cX10_mean 47 = .ok (.aload_n 2, 1) := by decide +kernel
theorem dX10_mean_48 : decode cX10_mean 48 = .ok (.getfield 144, 3) := by decide +kernel
theorem dX10_mean_51 : decode cX10_mean 51 = .ok (.i2l, 1) := by decide +kernel
theorem dX10_mean_52 : decode cX10_mean 52 = .ok (.ldiv, 1) := by decide +kernel
theorem dX10_mean_53 : decode cX10_mean 53 = .ok (.l2i, 1) := by decide +kernel
theorem dX10_mean_54 : decode cX10_mean 54 = .ok (.putfield 92, 3) := by decide +kernel
theorem dX10_mean_57 : decode cX10_mean 57 = .ok (.iconst 1, 1) := by decide +kernel
theorem dX10_mean_58 : decode cX10_mean 58 = .ok (.ireturn, 1) := by decide +kernel
theorem dX10_text_0 : decode cX10_text 0 = .ok (.iload_n 1, 1) := by decide +kernel
theorem dX10_text_1 : decode cX10_text 1 = .ok (.invokestatic 151, 3) := by decide +kernel
theorem dX10_text_4 : decode cX10_text 4 = .ok (.ifCond .eq 9, 3) := by decide +kernel
theorem dX10_text_7 : decode cX10_text 7 = .ok (.iload_n 2, 1) := by decide +kernel
theorem dX10_text_8 : decode cX10_text 8 = .ok (.bipush 60, 2) := by decide +kernel
theorem dX10_text_10 : decode cX10_text 10 = .ok (.if_icmp .le 5, 3) := by decide +kernel
theorem dX10_text_13 : decode cX10_text 13 = .ok (.iconst (-1), 1) := by decide +kernel
theorem dX10_text_14 : decode cX10_text 14 = .ok (.ireturn, 1) := by decide +kernel
theorem dX10_text_15 : decode cX10_text 15 = .ok (.iload_n 2, 1) := by decide +kernel
theorem dX10_text_16 : decode cX10_text 16 = .ok (.ifCond .ge 9, 3) := by decide +kernel
theorem dX10_text_19 : decode cX10_text 19 = .ok (.aload_n 0, 1) := by decide +kernel
theorem dX10_text_20 : decode cX10_text 20 = .ok (.iconst 5, 1) := by decide +kernel
theorem dX10_text_21 : decode cX10_text 21 = .ok (.invokevirtual 106, 3) := by decide +kernel
theorem dX10_text_24 : decode cX10_text 24 = .ok (.ireturn, 1) := by decide +kernel
theorem dX10_text_25 : decode cX10_text 25 = .ok (.aload_n 0, 1) := by decide +kernel
theorem dX10_text_26 : decode cX10_text 26 = .ok (.getfield 18, 3) := by decide +kernel
theorem dX10_text_29 : decode cX10_text 29 = .ok (.iload_n 1, 1) := by decide +kernel
theorem dX10_text_30 : decode cX10_text 30 = .ok (.aaload, 1) := by decide +kernel
theorem dX10_text_31 : decode cX10_text 31 = .ok (.iload_n 2, 1) := by decide +kernel
theorem dX10_text_32 : decode cX10_text 32 = .ok (.invokevirtual 154, 3) := by decide +kernel
theorem dX10_text_35 : decode cX10_text 35 = .ok (.iload_n 2, 1) := by decide +kernel
theorem dX10_text_36 : decode cX10_text 36 = .ok (.ireturn, 1) := by decide +kernel
theorem dX10_put_0 : decode cX10_put 0 = .ok (.iload_n 1, 1) := by decide +kernel
theorem dX10_put_1 : decode cX10_put 1 = .ok (.invokestatic 151, 3) := by decide +kernel
theorem dX10_put_4 : decode cX10_put 4 = .ok (.ifCond .ne 5, 3) := by decide +kernel
theorem dX10_put_7 : decode cX10_put 7 = .ok (.iconst (-1), 1) := by decide +kernel
theorem dX10_put_8 : decode cX10_put 8 = .ok (.ireturn, 1) := by decide +kernel
theorem dX10_put_9 : decode cX10_put 9 = .ok (.aload_n 0, 1) := by decide +kernel
theorem dX10_put_10 : decode cX10_put 10 = .ok (.getfield 18, 3) := by decide +kernel
theorem dX10_put_13 : decode cX10_put 13 = .ok (.iload_n 1, 1) := by decide +kernel
theorem dX10_put_14 : decode cX10_put 14 = .ok (.aaload, 1) := by decide +kernel
theorem dX10_put_15 : decode cX10_put 15 = .ok (.astore 4, 2) := by decide +kernel
theorem dX10_put_17 : decode cX10_put 17 = .ok (.aload 4, 2) := by decide +kernel
theorem dX10_put_19 : decode cX10_put 19 = .ok (.invokevirtual 155, 3) := by decide +kernel
theorem dX10_put_22 : decode cX10_put 22 = .ok (.ifCond .ne 9, 3) := by decide +kernel
theorem dX10_put_25 : decode cX10_put 25 = .ok (.aload_n 0, 1) := by decide +kernel
theorem dX10_put_26 : decode cX10_put 26 = .ok (.iconst 1, 1) := by decide +kernel
theorem dX10_put_27 : decode cX10_put 27 = .ok (.invokevirtual 106, 3) := by decide +kernel
theorem dX10_put_30 : decode cX10_put 30 = .ok (.ireturn, 1) := by decide +kernel
theorem dX10_put_31 : decode cX10_put 31 = .ok (.aload 4, 2) := by decide +kernel
theorem dX10_put_33 : decode cX10_put 33 = .ok (.iload_n 2, 1) := by decide +kernel
theorem dX10_put_34 : decode cX10_put 34 = .ok (.invokevirtual 156, 3) := by decide +kernel
theorem dX10_put_37 : decode cX10_put 37 = .ok (.ifCond .ne 9, 3) := by decide +kernel
theorem dX10_put_40 : decode cX10_put 40 = .ok (.aload_n 0, 1) := by decide +kernel
theorem dX10_put_41 : decode cX10_put 41 = .ok (.iconst 2, 1) := by decide +kernel
theorem dX10_put_42 : decode cX10_put 42 = .ok (.invokevirtual 106, 3) := by decide +kernel
theorem dX10_put_45 : decode cX10_put 45 = .ok (.ireturn, 1) := by decide +kernel
theorem dX10_put_46 : decode cX10_put 46 = .ok (.aload 4, 2) := by decide +kernel
theorem dX10_put_48 : decode cX10_put 48 = .ok (.iload_n 2, 1) := by decide +kernel
theorem dX10_put_49 : decode cX10_put 49 = .ok (.invokevirtual 159, 3) := by decide +kernel
theorem dX10_put_52 : decode cX10_put 52 = .ok (.istore 5, 2) := by decide +kernel
theorem dX10_put_54 : decode cX10_put 54 = .ok (.aload 4, 2) := by decide +kernel
theorem dX10_put_56 : decode cX10_put 56 = .ok (.iload_n 2, 1) := by decide +kernel
theorem dX10_put_57 : decode cX10_put 57 = .ok (.iload_n 3, 1) := by decide +kernel
theorem dX10_put_58 : decode cX10_put 58 = .ok (.invokevirtual 160, 3) := by decide +kernel
theorem dX10_put_61 : decode cX10_put 61 = .ok (.iload 5, 2) := by decide +kernel
theorem dX10_put_63 : decode cX10_put 63 = .ok (.sipush 1000, 3) := by decide +kernel
theorem dX10_put_66 : decode cX10_put 66 = .ok (.iadd, 1) := by decide +kernel
theorem dX10_put_67 : decode cX10_put 67 = .ok (.ireturn, 1) := by decide +kernel
theorem dX10_fault_0 : decode cX10_fault 0 = .ok (.iload_n 1, 1) := by decide +kernel
theorem dX10_fault_1 : decode cX10_fault 1 = .ok (.invokestatic 151, 3) := by decide +kernel
theorem dX10_fault_4 : decode cX10_fault 4 = .ok (.ifCond .ne 5, 3) := by decide +kernel
theorem dX10_fault_7 : decode cX10_fault 7 = .ok (.iconst (-1), 1) := by decide +kernel
theorem dX10_fault_8 : decode cX10_fault 8 = .ok (.ireturn, 1) := by decide +kernel
theorem dX10_fault_9 : decode cX10_fault 9 = .ok (.aload_n 0, 1) := by decide +kernel
theorem dX10_fault_10 : decode cX10_fault 10 = .ok (.getfield 18, 3) := by decide +kernel
theorem dX10_fault_13 : decode cX10_fault 13 = .ok (.iload_n 1, 1) := by decide +kernel
theorem dX10_fault_14 : decode cX10_fault 14 = .ok (.aaload, 1) := by decide +kernel
theorem dX10_fault_15 : decode cX10_fault 15 = .ok (.invokevirtual 155, 3) := by decide +kernel
theorem dX10_fault_18 : decode cX10_fault 18 = .ok (.ifCond .ne 9, 3) := by decide +kernel
theorem dX10_fault_21 : decode cX10_fault 21 = .ok (.aload_n 0, 1) := by decide +kernel
theorem dX10_fault_22 : decode cX10_fault 22 = .ok (.iconst 1, 1) := by decide +kernel
theorem dX10_fault_23 : decode cX10_fault 23 = .ok (.invokevirtual 106, 3) := by decide +kernel
theorem dX10_fault_26 : decode cX10_fault 26 = .ok (.ireturn, 1) := by decide +kernel
theorem dX10_fault_27 : decode cX10_fault 27 = .ok (.aload_n 0, 1) := by decide +kernel
theorem dX10_fault_28 : decode cX10_fault 28 = .ok (.getfield 46, 3) := by decide +kernel
theorem dX10_fault_31 : decode cX10_fault 31 = .ok (.aload_n 0, 1) := by decide +kernel
theorem dX10_fault_32 : decode cX10_fault 32 = .ok (.getfield 18, 3) := by decide +kernel
theorem dX10_fault_35 : decode cX10_fault 35 = .ok (.iload_n 1, 1) := by decide +kernel
theorem dX10_fault_36 : decode cX10_fault 36 = .ok (.aaload, 1) := by decide +kernel
theorem dX10_fault_37 : decode cX10_fault 37 = .ok (.aload_n 0, 1) := by decide +kernel
theorem dX10_fault_38 : decode cX10_fault 38 = .ok (.getfield 50, 3) := by decide +kernel
theorem dX10_fault_41 : decode cX10_fault 41 = .ok (.aload_n 0, 1) := by decide +kernel
theorem dX10_fault_42 : decode cX10_fault 42 = .ok (.getfield 56, 3) := by decide +kernel
theorem dX10_fault_45 : decode cX10_fault 45 = .ok (.invokevirtual 161, 3) := by decide +kernel
theorem dX10_fault_48 : decode cX10_fault 48 = .ok (.ireturn, 1) := by decide +kernel
theorem dX10_village_0 : decode cX10_village 0 = .ok (.iload_n 1, 1) := by decide +kernel
theorem dX10_village_1 : decode cX10_village 1 = .ok (.invokestatic 151, 3) := by decide +kernel
theorem dX10_village_4 : decode cX10_village 4 = .ok (.ifCond .ne 5, 3) := by decide +kernel
theorem dX10_village_7 : decode cX10_village 7 = .ok (.iconst (-1), 1) := by decide +kernel
theorem dX10_village_8 : decode cX10_village 8 = .ok (.ireturn, 1) := by decide +kernel
theorem dX10_village_9 : decode cX10_village 9 = .ok (.aload_n 0, 1) := by decide +kernel
theorem dX10_village_10 : decode cX10_village 10 = .ok (.getfield 18, 3) := by decide +kernel
theorem dX10_village_13 : decode cX10_village 13 = .ok (.iload_n 1, 1) := by decide +kernel
theorem dX10_village_14 : decode cX10_village 14 = .ok (.aaload, 1) := by decide +kernel
theorem dX10_village_15 : decode cX10_village 15 = .ok (.invokevirtual 155, 3) := by decide +kernel
theorem dX10_village_18 : decode cX10_village 18 = .ok (.ifCond .ne 9, 3) := by decide +kernel
theorem dX10_village_21 : decode cX10_village 21 = .ok (.aload_n 0, 1) := by decide +kernel
theorem dX10_village_22 : decode cX10_village 22 = .ok (.iconst 1, 1) := by decide +kernel
theorem dX10_village_23 : decode cX10_village 23 = .ok (.invokevirtual 106, 3) := by decide +kernel
theorem dX10_village_26 : decode cX10_village 26 = .ok (.ireturn, 1) := by decide +kernel
theorem dX10_village_27 : decode cX10_village 27 = .ok (.aload_n 0, 1) := by decide +kernel
theorem dX10_village_28 : decode cX10_village 28 = .ok (.getfield 46, 3) := by decide +kernel
theorem dX10_village_31 : decode cX10_village 31 = .ok (.aload_n 0, 1) := by decide +kernel
theorem dX10_village_32 : decode cX10_village 32 = .ok (.getfield 18, 3) := by decide +kernel
theorem dX10_village_35 : decode cX10_village 35 = .ok (.iload_n 1, 1) := by decide +kernel
theorem dX10_village_36 : decode cX10_village 36 = .ok (.aaload, 1) := by decide +kernel
theorem dX10_village_37 : decode cX10_village 37 = .ok (.aload_n 0, 1) := by decide +kernel
theorem dX10_village_38 : decode cX10_village 38 = .ok (.getfield 50, 3) := by decide +kernel
theorem dX10_village_41 : decode cX10_village 41 = .ok (.aload_n 0, 1) := by decide +kernel
theorem dX10_village_42 : decode cX10_village 42 = .ok (.getfield 56, 3) := by decide +kernel
theorem dX10_village_45 : decode cX10_village 45 = .ok (.invokevirtual 161, 3) := by decide +kernel
theorem dX10_village_48 : decode cX10_village 48 = .ok (.bipush (-9), 2) := by decide +kernel
theorem dX10_village_50 : decode cX10_village 50 = .ok (.if_icmp .eq 6, 3) := by decide +kernel
theorem dX10_village_53 : decode cX10_village 53 = .ok (.bipush (-4), 2) := by decide +kernel
theorem dX10_village_55 : decode cX10_village 55 = .ok (.ireturn, 1) := by decide +kernel
theorem dX10_village_56 : decode cX10_village 56 = .ok (.aload_n 0, 1) := by decide +kernel
theorem dX10_village_57 : decode cX10_village 57 = .ok (.getfield 46, 3) := by decide +kernel
theorem dX10_village_60 : decode cX10_village 60 = .ok (.aload_n 0, 1) := by decide +kernel
theorem dX10_village_61 : decode cX10_village 61 = .ok (.getfield 18, 3) := by decide +kernel
theorem dX10_village_64 : decode cX10_village 64 = .ok (.iload_n 1, 1) := by decide +kernel
theorem dX10_village_65 : decode cX10_village 65 = .ok (.aaload, 1) := by decide +kernel
theorem dX10_village_66 : decode cX10_village 66 = .ok (.aload_n 0, 1) := by decide +kernel
theorem dX10_village_67 : decode cX10_village 67 = .ok (.getfield 26, 3) := by decide +kernel
theorem dX10_village_70 : decode cX10_village 70 = .ok (.aload_n 0, 1) := by decide +kernel
theorem dX10_village_71 : decode cX10_village 71 = .ok (.getfield 35, 3) := by decide +kernel
theorem dX10_village_74 : decode cX10_village 74 = .ok (.getfield 165, 3) := by decide +kernel
theorem dX10_village_77 : decode cX10_village 77 = .ok (.invokevirtual 161, 3) := by decide +kernel
theorem dX10_village_80 : decode cX10_village 80 = .ok (.pop, 1) := by decide +kernel
theorem dX10_village_81 : decode cX10_village 81 = .ok (.aload_n 0, 1) := by decide +kernel
theorem dX10_village_82 : decode cX10_village 82 = .ok (.getfield 35, 3) := by decide +kernel
theorem dX10_village_85 : decode cX10_village 85 = .ok (.invokevirtual 168, 3) := by decide +kernel
theorem dX10_village_88 : decode cX10_village 88 = .ok (.iconst 0, 1) := by decide +kernel
theorem dX10_village_89 : decode cX10_village 89 = .ok (.istore_n 2, 1) := by decide +kernel
theorem dX10_village_90 : decode cX10_village 90 = .ok (.iload_n 2, 1) := by decide +kernel
theorem dX10_village_91 : decode cX10_village 91 = .ok (.iconst 3, 1) := by decide +kernel
theorem dX10_village_92 : decode cX10_village 92 = .ok (.if_icmp .ge 18, 3) := by decide +kernel
theorem dX10_village_95 : decode cX10_village 95 = .ok (.aload_n 0, 1) := by decide +kernel
theorem dX10_village_96 : decode cX10_village 96 = .ok (.getfield 39, 3) := by decide +kernel
theorem dX10_village_99 : decode cX10_village 99 = .ok (.iload_n 2, 1) := by decide +kernel
theorem dX10_village_100 : decode cX10_village 100 = .ok (.aaload, 1) := by decide +kernel
theorem dX10_village_101 : decode cX10_village 101 = .ok (.invokevirtual 170, 3) := by decide +kernel
theorem dX10_village_104 : decode cX10_village 104 = .ok (.iinc 2 1, 3) := by decide +kernel
theorem dX10_village_107 : decode cX10_village 107 = .ok (.goto (-17), 3) := by decide +kernel
theorem dX10_village_110 : decode cX10_village 110 = .ok (.aload_n 0, 1) := by decide +kernel
theorem dX10_village_111 : decode cX10_village 111 = .ok (.getfield 26, 3) := by decide +kernel
theorem dX10_village_114 : decode cX10_village 114 = .ok (.getfield 173, 3) := by decide +kernel
theorem dX10_village_117 : decode cX10_village 117 = .ok (.ireturn, 1) := by decide +kernel
theorem dX10_house_0 : decode cX10_house 0 = .ok (.aload_n 0, 1) := by decide +kernel
theorem dX10_house_1 : decode cX10_house 1 = .ok (.getfield 26, 3) := by decide +kernel
theorem dX10_house_4 : decode cX10_house 4 = .ok (.iload_n 1, 1) := by decide +kernel
theorem dX10_house_5 : decode cX10_house 5 = .ok (.invokevirtual 176, 3) := by decide +kernel
theorem dX10_house_8 : decode cX10_house 8 = .ok (.ifCond .eq 13, 3) := by decide +kernel
theorem dX10_house_11 : decode cX10_house 11 = .ok (.iload_n 2, 1) := by decide +kernel
theorem dX10_house_12 : decode cX10_house 12 = .ok (.ifCond .lt 9, 3) := by decide +kernel
theorem dX10_house_15 : decode cX10_house 15 = .ok (.iload_n 2, 1) := by decide +kernel
theorem dX10_house_16 : decode cX10_house 16 = .ok (.bipush 6, 2) := by decide +kernel
theorem dX10_house_18 : decode cX10_house 18 = .ok (.if_icmp .lt 5, 3) := by decide +kernel
theorem dX10_house_21 : decode cX10_house 21 = .ok (.iconst (-1), 1) := by decide +kernel
theorem dX10_house_22 : decode cX10_house 22 = .ok (.ireturn, 1) := by decide +kernel
theorem dX10_house_23 : decode cX10_house 23 = .ok (.aload_n 0, 1) := by decide +kernel
theorem dX10_house_24 : decode cX10_house 24 = .ok (.aload_n 0, 1) := by decide +kernel
theorem dX10_house_25 : decode cX10_house 25 = .ok (.iload_n 1, 1) := by decide +kernel
theorem dX10_house_26 : decode cX10_house 26 = .ok (.iload_n 2, 1) := by decide +kernel
theorem dX10_house_27 : decode cX10_house 27 = .ok (.invokevirtual 177, 3) := by decide +kernel
theorem dX10_house_30 : decode cX10_house 30 = .ok (.putfield 92, 3) := by decide +kernel
theorem dX10_house_33 : decode cX10_house 33 = .ok (.iconst 1, 1) := by decide +kernel
theorem dX10_house_34 : decode cX10_house 34 = .ok (.ireturn, 1) := by decide +kernel
theorem dX10_wind_0 : decode cX10_wind 0 = .ok (.iload_n 1, 1) := by decide +kernel
theorem dX10_wind_1 : decode cX10_wind 1 = .ok (.ifCond .lt 10, 3) := by decide +kernel
theorem dX10_wind_4 : decode cX10_wind 4 = .ok (.iload_n 1, 1) := by decide +kernel
theorem dX10_wind_5 : decode cX10_wind 5 = .ok (.sipush 999, 3) := by decide +kernel
theorem dX10_wind_8 : decode cX10_wind 8 = .ok (.if_icmp .le 5, 3) := by decide +kernel
theorem dX10_wind_11 : decode cX10_wind 11 = .ok (.iconst (-1), 1) := by decide +kernel
theorem dX10_wind_12 : decode cX10_wind 12 = .ok (.ireturn, 1) := by decide +kernel
theorem dX10_wind_13 : decode cX10_wind 13 = .ok (.aload_n 0, 1) := by decide +kernel
theorem dX10_wind_14 : decode cX10_wind 14 = .ok (.getfield 26, 3) := by decide +kernel
theorem dX10_wind_17 : decode cX10_wind 17 = .ok (.invokevirtual 181, 3) := by decide +kernel
theorem dX10_wind_20 : decode cX10_wind 20 = .ok (.ifCond .eq 6, 3) := by decide +kernel
theorem dX10_wind_23 : decode cX10_wind 23 = .ok (.bipush (-4), 2) := by decide +kernel
theorem dX10_wind_25 : decode cX10_wind 25 = .ok (.ireturn, 1) := by decide +kernel
theorem dX10_wind_26 : decode cX10_wind 26 = .ok (.aload_n 0, 1) := by decide +kernel
theorem dX10_wind_27 : decode cX10_wind 27 = .ok (.getfield 26, 3) := by decide +kernel
theorem dX10_wind_30 : decode cX10_wind 30 = .ok (.iload_n 1, 1) := by decide +kernel
theorem dX10_wind_31 : decode cX10_wind 31 = .ok (.invokevirtual 184, 3) := by decide +kernel
theorem dX10_wind_34 : decode cX10_wind 34 = .ok (.ireturn, 1) := by decide +kernel
theorem dX10_mark_0 : decode cX10_mark 0 = .ok (.aload_n 0, 1) := by decide +kernel
theorem dX10_mark_1 : decode cX10_mark 1 = .ok (.getfield 26, 3) := by decide +kernel
theorem dX10_mark_4 : decode cX10_mark 4 = .ok (.iload_n 1, 1) := by decide +kernel
theorem dX10_mark_5 : decode cX10_mark 5 = .ok (.invokevirtual 176, 3) := by decide +kernel
theorem dX10_mark_8 : decode cX10_mark 8 = .ok (.ifCond .eq 13, 3) := by decide +kernel
theorem dX10_mark_11 : decode cX10_mark 11 = .ok (.iload_n 2, 1) := by decide +kernel
theorem dX10_mark_12 : decode cX10_mark 12 = .ok (.iconst 1, 1) := by decide +kernel
theorem dX10_mark_13 : decode cX10_mark 13 = .ok (.if_icmp .lt 8, 3) := by decide +kernel
theorem dX10_mark_16 : decode cX10_mark 16 = .ok (.iload_n 2, 1) := by decide +kernel
theorem dX10_mark_17 : decode cX10_mark 17 = .ok (.iconst 5, 1) := by decide +kernel
theorem dX10_mark_18 : decode cX10_mark 18 = .ok (.if_icmp .le 5, 3) := by decide +kernel
theorem dX10_mark_21 : decode cX10_mark 21 = .ok (.iconst (-1), 1) := by decide +kernel
theorem dX10_mark_22 : decode cX10_mark 22 = .ok (.ireturn, 1) := by decide +kernel
theorem dX10_mark_23 : decode cX10_mark 23 = .ok (.aload_n 0, 1) := by decide +kernel
theorem dX10_mark_24 : decode cX10_mark 24 = .ok (.getfield 26, 3) := by decide +kernel
theorem dX10_mark_27 : decode cX10_mark 27 = .ok (.iload_n 1, 1) := by decide +kernel
theorem dX10_mark_28 : decode cX10_mark 28 = .ok (.invokevirtual 189, 3) := by decide +kernel
theorem dX10_mark_31 : decode cX10_mark 31 = .ok (.iload_n 2, 1) := by decide +kernel
theorem dX10_mark_32 : decode cX10_mark 32 = .ok (.invokestatic 192, 3) := by decide +kernel
theorem dX10_mark_35 : decode cX10_mark 35 = .ok (.ifCond .ne 9, 3) := by decide +kernel
theorem dX10_mark_38 : decode cX10_mark 38 = .ok (.aload_n 0, 1) := by decide +kernel
theorem dX10_mark_39 : decode cX10_mark 39 = .ok (.iconst 3, 1) := by decide +kernel
theorem dX10_mark_40 : decode cX10_mark 40 = .ok (.invokevirtual 106, 3) := by decide +kernel
theorem dX10_mark_43 : decode cX10_mark 43 = .ok (.ireturn, 1) := by decide +kernel
theorem dX10_mark_44 : decode cX10_mark 44 = .ok (.aload_n 0, 1) := by decide +kernel
theorem dX10_mark_45 : decode cX10_mark 45 = .ok (.iload_n 1, 1) := by decide +kernel
theorem dX10_mark_46 : decode cX10_mark 46 = .ok (.iload_n 2, 1) := by decide +kernel
theorem dX10_mark_47 : decode cX10_mark 47 = .ok (.invokevirtual 195, 3) := by decide +kernel
theorem dX10_mark_50 : decode cX10_mark 50 = .ok (.ireturn, 1) := by decide +kernel
theorem dX10_stack_0 : decode cX10_stack 0 = .ok (.aload_n 0, 1) := by decide +kernel
theorem dX10_stack_1 : decode cX10_stack 1 = .ok (.getfield 26, 3) := by decide +kernel
theorem dX10_stack_4 : decode cX10_stack 4 = .ok (.iload_n 1, 1) := by decide +kernel
theorem dX10_stack_5 : decode cX10_stack 5 = .ok (.invokevirtual 176, 3) := by decide +kernel
theorem dX10_stack_8 : decode cX10_stack 8 = .ok (.ifCond .eq 13, 3) := by decide +kernel
theorem dX10_stack_11 : decode cX10_stack 11 = .ok (.iload_n 2, 1) := by decide +kernel
theorem dX10_stack_12 : decode cX10_stack 12 = .ok (.ifCond .lt 9, 3) := by decide +kernel
theorem dX10_stack_15 : decode cX10_stack 15 = .ok (.iload_n 2, 1) := by decide +kernel
theorem dX10_stack_16 : decode cX10_stack 16 = .ok (.bipush 9, 2) := by decide +kernel
theorem dX10_stack_18 : decode cX10_stack 18 = .ok (.if_icmp .le 5, 3) := by decide +kernel
theorem dX10_stack_21 : decode cX10_stack 21 = .ok (.iconst (-1), 1) := by decide +kernel
theorem dX10_stack_22 : decode cX10_stack 22 = .ok (.ireturn, 1) := by decide +kernel
theorem dX10_stack_23 : decode cX10_stack 23 = .ok (.aload_n 0, 1) := by decide +kernel
theorem dX10_stack_24 : decode cX10_stack 24 = .ok (.getfield 35, 3) := by decide +kernel
theorem dX10_stack_27 : decode cX10_stack 27 = .ok (.getfield 198, 3) := by decide +kernel
theorem dX10_stack_30 : decode cX10_stack 30 = .ok (.ifCond .le 6, 3) := by decide +kernel
theorem dX10_stack_33 : decode cX10_stack 33 = .ok (.bipush (-4), 2) := by decide +kernel
theorem dX10_stack_35 : decode cX10_stack 35 = .ok (.ireturn, 1) := by decide +kernel
theorem dX10_stack_36 : decode cX10_stack 36 = .ok (.aload_n 0, 1) := by decide +kernel
theorem dX10_stack_37 : decode cX10_stack 37 = .ok (.getfield 35, 3) := by decide +kernel
theorem dX10_stack_40 : decode cX10_stack 40 = .ok (.getfield 201, 3) := by decide +kernel
theorem dX10_stack_43 : decode cX10_stack 43 = .ok (.iload_n 1, 1) := by decide +kernel
theorem dX10_stack_44 : decode cX10_stack 44 = .ok (.invokevirtual 204, 3) := by decide +kernel
theorem dX10_stack_47 : decode cX10_stack 47 = .ok (.istore_n 3, 1) := by decide +kernel
theorem dX10_stack_48 : decode cX10_stack 48 = .ok (.aload_n 0, 1) := by decide +kernel
theorem dX10_stack_49 : decode cX10_stack 49 = .ok (.getfield 35, 3) := by decide +kernel
theorem dX10_stack_52 : decode cX10_stack 52 = .ok (.iload_n 1, 1) := by decide +kernel
theorem dX10_stack_53 : decode cX10_stack 53 = .ok (.iload_n 2, 1) := by decide +kernel
theorem dX10_stack_54 : decode cX10_stack 54 = .ok (.invokevirtual 207, 3) := by decide +kernel
theorem dX10_stack_57 : decode cX10_stack 57 = .ok (.iload_n 3, 1) := by decide +kernel
theorem dX10_stack_58 : decode cX10_stack 58 = .ok (.ireturn, 1) := by decide +kernel
theorem dX10_strike_0 : decode cX10_strike 0 = .ok (.aload_n 0, 1) := by decide +kernel
theorem dX10_strike_1 : decode cX10_strike 1 = .ok (.getfield 26, 3) := by decide +kernel
theorem dX10_strike_4 : decode cX10_strike 4 = .ok (.iload_n 1, 1) := by decide +kernel
theorem dX10_strike_5 : decode cX10_strike 5 = .ok (.invokevirtual 176, 3) := by decide +kernel
theorem dX10_strike_8 : decode cX10_strike 8 = .ok (.ifCond .ne 5, 3) := by decide +kernel
theorem dX10_strike_11 : decode cX10_strike 11 = .ok (.iconst (-1), 1) := by decide +kernel
theorem dX10_strike_12 : decode cX10_strike 12 = .ok (.ireturn, 1) := by decide +kernel
theorem dX10_strike_13 : decode cX10_strike 13 = .ok (.aload_n 0, 1) := by decide +kernel
theorem dX10_strike_14 : decode cX10_strike 14 = .ok (.getfield 35, 3) := by decide +kernel
theorem dX10_strike_17 : decode cX10_strike 17 = .ok (.getfield 201, 3) := by decide +kernel
theorem dX10_strike_20 : decode cX10_strike 20 = .ok (.iload_n 1, 1) := by decide +kernel
theorem dX10_strike_21 : decode cX10_strike 21 = .ok (.invokevirtual 210, 3) := by decide +kernel
theorem dX10_strike_24 : decode cX10_strike 24 = .ok (.ifCond .ne 6, 3) := by decide +kernel
theorem dX10_strike_27 : decode cX10_strike 27 = .ok (.bipush (-4), 2) := by decide +kernel
theorem dX10_strike_29 : decode cX10_strike 29 = .ok (.ireturn, 1) := by decide +kernel
theorem dX10_strike_30 : decode cX10_strike 30 = .ok (.aload_n 0, 1) := by decide +kernel
theorem dX10_strike_31 : decode cX10_strike 31 = .ok (.getfield 35, 3) := by decide +kernel
theorem dX10_strike_34 : decode cX10_strike 34 = .ok (.iconst 1, 1) := by decide +kernel
theorem dX10_strike_35 : decode cX10_strike 35 = .ok (.invokevirtual 213, 3) := by decide +kernel
theorem dX10_strike_38 : decode cX10_strike 38 = .ok (.ifCond .ne 6, 3) := by decide +kernel
theorem dX10_strike_41 : decode cX10_strike 41 = .ok (.bipush (-2), 2) := by decide +kernel
theorem dX10_strike_43 : decode cX10_strike 43 = .ok (.ireturn, 1) := by decide +kernel
theorem dX10_strike_44 : decode cX10_strike 44 = .ok (.aload_n 0, 1) := by decide +kernel
theorem dX10_strike_45 : decode cX10_strike 45 = .ok (.getfield 35, 3) := by decide +kernel
theorem dX10_strike_48 : decode cX10_strike 48 = .ok (.bipush 40, 2) := by decide +kernel
theorem dX10_strike_50 : decode cX10_strike 50 = .ok (.iload_n 1, 1) := by decide +kernel
theorem dX10_strike_51 : decode cX10_strike 51 = .ok (.iadd, 1) := by decide +kernel
theorem dX10_strike_52 : decode cX10_strike 52 = .ok (.invokevirtual 216, 3) := by decide +kernel
theorem dX10_strike_55 : decode cX10_strike 55 = .ok (.iconst 1, 1) := by decide +kernel
theorem dX10_strike_56 : decode cX10_strike 56 = .ok (.ireturn, 1) := by decide +kernel
theorem dX10_carry_0 : decode cX10_carry 0 = .ok (.aload_n 0, 1) := by decide +kernel
theorem dX10_carry_1 : decode cX10_carry 1 = .ok (.getfield 26, 3) := by decide +kernel
theorem dX10_carry_4 : decode cX10_carry 4 = .ok (.iload_n 1, 1) := by decide +kernel
theorem dX10_carry_5 : decode cX10_carry 5 = .ok (.invokevirtual 176, 3) := by decide +kernel
theorem dX10_carry_8 : decode cX10_carry 8 = .ok (.ifCond .eq 19, 3) := by decide +kernel
theorem dX10_carry_11 : decode cX10_carry 11 = .ok (.aload_n 0, 1) := by decide +kernel
theorem dX10_carry_12 : decode cX10_carry 12 = .ok (.getfield 26, 3) := by decide +kernel
theorem dX10_carry_15 : decode cX10_carry 15 = .ok (.iload_n 2, 1) := by decide +kernel
theorem dX10_carry_16 : decode cX10_carry 16 = .ok (.invokevirtual 176, 3) := by decide +kernel
theorem dX10_carry_19 : decode cX10_carry 19 = .ok (.ifCond .eq 8, 3) := by decide +kernel
theorem dX10_carry_22 : decode cX10_carry 22 = .ok (.iload_n 1, 1) := by decide +kernel
theorem dX10_carry_23 : decode cX10_carry 23 = .ok (.iload_n 2, 1) := by decide +kernel
theorem dX10_carry_24 : decode cX10_carry 24 = .ok (.if_icmp .ne 5, 3) := by decide +kernel
theorem dX10_carry_27 : decode cX10_carry 27 = .ok (.iconst (-1), 1) := by decide +kernel
theorem dX10_carry_28 : decode cX10_carry 28 = .ok (.ireturn, 1) := by decide +kernel
theorem dX10_carry_29 : decode cX10_carry 29 = .ok (.aload_n 0, 1) := by decide +kernel
theorem dX10_carry_30 : decode cX10_carry 30 = .ok (.getfield 35, 3) := by decide +kernel
theorem dX10_carry_33 : decode cX10_carry 33 = .ok (.getfield 201, 3) := by decide +kernel
theorem dX10_carry_36 : decode cX10_carry 36 = .ok (.iload_n 1, 1) := by decide +kernel
theorem dX10_carry_37 : decode cX10_carry 37 = .ok (.iload_n 2, 1) := by decide +kernel
theorem dX10_carry_38 : decode cX10_carry 38 = .ok (.invokevirtual 219, 3) := by decide +kernel
theorem dX10_carry_41 : decode cX10_carry 41 = .ok (.ifCond .ne 6, 3) := by decide +kernel
theorem dX10_carry_44 : decode cX10_carry 44 = .ok (.bipush (-4), 2) := by decide +kernel
theorem dX10_carry_46 : decode cX10_carry 46 = .ok (.ireturn, 1) := by decide +kernel
theorem dX10_carry_47 : decode cX10_carry 47 = .ok (.aload_n 0, 1) := by decide +kernel
theorem dX10_carry_48 : decode cX10_carry 48 = .ok (.getfield 35, 3) := by decide +kernel
theorem dX10_carry_51 : decode cX10_carry 51 = .ok (.iconst 1, 1) := by decide +kernel
theorem dX10_carry_52 : decode cX10_carry 52 = .ok (.invokevirtual 213, 3) := by decide +kernel
theorem dX10_carry_55 : decode cX10_carry 55 = .ok (.ifCond .ne 6, 3) := by decide +kernel
theorem dX10_carry_58 : decode cX10_carry 58 = .ok (.bipush (-2), 2) := by decide +kernel
theorem dX10_carry_60 : decode cX10_carry 60 = .ok (.ireturn, 1) := by decide +kernel
theorem dX10_carry_61 : decode cX10_carry 61 = .ok (.aload_n 0, 1) := by decide +kernel
theorem dX10_carry_62 : decode cX10_carry 62 = .ok (.getfield 35, 3) := by decide +kernel
theorem dX10_carry_65 : decode cX10_carry 65 = .ok (.bipush 6, 2) := by decide +kernel
theorem dX10_carry_67 : decode cX10_carry 67 = .ok (.iload_n 1, 1) := by decide +kernel
theorem dX10_carry_68 : decode cX10_carry 68 = .ok (.imul, 1) := by decide +kernel
theorem dX10_carry_69 : decode cX10_carry 69 = .ok (.iload_n 2, 1) := by decide +kernel
theorem dX10_carry_70 : decode cX10_carry 70 = .ok (.iadd, 1) := by decide +kernel
theorem dX10_carry_71 : decode cX10_carry 71 = .ok (.invokevirtual 216, 3) := by decide +kernel
theorem dX10_carry_74 : decode cX10_carry 74 = .ok (.aload_n 0, 1) := by decide +kernel
theorem dX10_carry_75 : decode cX10_carry 75 = .ok (.getfield 35, 3) := by decide +kernel
theorem dX10_carry_78 : decode cX10_carry 78 = .ok (.getfield 201, 3) := by decide +kernel
theorem dX10_carry_81 : decode cX10_carry 81 = .ok (.invokevirtual 222, 3) := by decide +kernel
theorem dX10_carry_84 : decode cX10_carry 84 = .ok (.ireturn, 1) := by decide +kernel
theorem dX10_hour_0 : decode cX10_hour 0 = .ok (.aload_n 0, 1) := by decide +kernel
theorem dX10_hour_1 : decode cX10_hour 1 = .ok (.getfield 26, 3) := by decide +kernel
theorem dX10_hour_4 : decode cX10_hour 4 = .ok (.invokevirtual 181, 3) := by decide +kernel
theorem dX10_hour_7 : decode cX10_hour 7 = .ok (.ifCond .eq 6, 3) := by decide +kernel
theorem dX10_hour_10 : decode cX10_hour 10 = .ok (.bipush (-4), 2) := by decide +kernel
theorem dX10_hour_12 : decode cX10_hour 12 = .ok (.ireturn, 1) := by decide +kernel
theorem dX10_hour_13 : decode cX10_hour 13 = .ok (.aload_n 0, 1) := by decide +kernel
theorem dX10_hour_14 : decode cX10_hour 14 = .ok (.getfield 35, 3) := by decide +kernel
theorem dX10_hour_17 : decode cX10_hour 17 = .ok (.iconst 1, 1) := by decide +kernel
theorem dX10_hour_18 : decode cX10_hour 18 = .ok (.invokevirtual 213, 3) := by decide +kernel
theorem dX10_hour_21 : decode cX10_hour 21 = .ok (.ifCond .ne 6, 3) := by decide +kernel
theorem dX10_hour_24 : decode cX10_hour 24 = .ok (.bipush (-2), 2) := by decide +kernel
theorem dX10_hour_26 : decode cX10_hour 26 = .ok (.ireturn, 1) := by decide +kernel
theorem dX10_hour_27 : decode cX10_hour 27 = .ok (.aload_n 0, 1) := by decide +kernel
theorem dX10_hour_28 : decode cX10_hour 28 = .ok (.getfield 35, 3) := by decide +kernel
theorem dX10_hour_31 : decode cX10_hour 31 = .ok (.bipush 36, 2) := by decide +kernel
theorem dX10_hour_33 : decode cX10_hour 33 = .ok (.invokevirtual 216, 3) := by decide +kernel
theorem dX10_hour_36 : decode cX10_hour 36 = .ok (.aload_n 0, 1) := by decide +kernel
theorem dX10_hour_37 : decode cX10_hour 37 = .ok (.getfield 35, 3) := by decide +kernel
theorem dX10_hour_40 : decode cX10_hour 40 = .ok (.getfield 201, 3) := by decide +kernel
theorem dX10_hour_43 : decode cX10_hour 43 = .ok (.invokevirtual 222, 3) := by decide +kernel
theorem dX10_hour_46 : decode cX10_hour 46 = .ok (.ireturn, 1) := by decide +kernel
theorem dX10_undo_0 : decode cX10_undo 0 = .ok (.iload_n 1, 1) := by decide +kernel
theorem dX10_undo_1 : decode cX10_undo 1 = .ok (.ifCond .lt 14, 3) := by decide +kernel
theorem dX10_undo_4 : decode cX10_undo 4 = .ok (.iload_n 1, 1) := by decide +kernel
theorem dX10_undo_5 : decode cX10_undo 5 = .ok (.aload_n 0, 1) := by decide +kernel
theorem dX10_undo_6 : decode cX10_undo 6 = .ok (.getfield 35, 3) := by decide +kernel
theorem dX10_undo_9 : decode cX10_undo 9 = .ok (.getfield 198, 3) := by decide +kernel
theorem dX10_undo_12 : decode cX10_undo 12 = .ok (.if_icmp .le 5, 3) := by decide +kernel
theorem dX10_undo_15 : decode cX10_undo 15 = .ok (.iconst (-1), 1) := by decide +kernel
theorem dX10_undo_16 : decode cX10_undo 16 = .ok (.ireturn, 1) := by decide +kernel
theorem dX10_undo_17 : decode cX10_undo 17 = .ok (.aload_n 0, 1) := by decide +kernel
theorem dX10_undo_18 : decode cX10_undo 18 = .ok (.getfield 35, 3) := by decide +kernel
theorem dX10_undo_21 : decode cX10_undo 21 = .ok (.iload_n 1, 1) := by decide +kernel
theorem dX10_undo_22 : decode cX10_undo 22 = .ok (.invokevirtual 226, 3) := by decide +kernel
theorem dX10_undo_25 : decode cX10_undo 25 = .ok (.ireturn, 1) := by decide +kernel
theorem dX10_keep_0 : decode cX10_keep 0 = .ok (.iload_n 1, 1) := by decide +kernel
theorem dX10_keep_1 : decode cX10_keep 1 = .ok (.invokestatic 229, 3) := by decide +kernel
theorem dX10_keep_4 : decode cX10_keep 4 = .ok (.ifCond .ne 5, 3) := by decide +kernel
theorem dX10_keep_7 : decode cX10_keep 7 = .ok (.iconst (-1), 1) := by decide +kernel
theorem dX10_keep_8 : decode cX10_keep 8 = .ok (.ireturn, 1) := by decide +kernel
theorem dX10_keep_9 : decode cX10_keep 9 = .ok (.aload_n 0, 1) := by decide +kernel
theorem dX10_keep_10 : decode cX10_keep 10 = .ok (.getfield 26, 3) := by decide +kernel
theorem dX10_keep_13 : decode cX10_keep 13 = .ok (.invokevirtual 181, 3) := by decide +kernel
theorem dX10_keep_16 : decode cX10_keep 16 = .ok (.ifCond .eq 6, 3) := by decide +kernel
theorem dX10_keep_19 : decode cX10_keep 19 = .ok (.bipush (-4), 2) := by decide +kernel
theorem dX10_keep_21 : decode cX10_keep 21 = .ok (.ireturn, 1) := by decide +kernel
theorem dX10_keep_22 : decode cX10_keep 22 = .ok (.aload_n 0, 1) := by decide +kernel
theorem dX10_keep_23 : decode cX10_keep 23 = .ok (.getfield 39, 3) := by decide +kernel
theorem dX10_keep_26 : decode cX10_keep 26 = .ok (.iload_n 1, 1) := by decide +kernel
theorem dX10_keep_27 : decode cX10_keep 27 = .ok (.aaload, 1) := by decide +kernel
theorem dX10_keep_28 : decode cX10_keep 28 = .ok (.aload_n 0, 1) := by decide +kernel
theorem dX10_keep_29 : decode cX10_keep 29 = .ok (.getfield 35, 3) := by decide +kernel
theorem dX10_keep_32 : decode cX10_keep 32 = .ok (.invokevirtual 232, 3) := by decide +kernel
theorem dX10_keep_35 : decode cX10_keep 35 = .ok (.aload_n 0, 1) := by decide +kernel
theorem dX10_keep_36 : decode cX10_keep 36 = .ok (.getfield 35, 3) := by decide +kernel
theorem dX10_keep_39 : decode cX10_keep 39 = .ok (.getfield 198, 3) := by decide +kernel
theorem dX10_keep_42 : decode cX10_keep 42 = .ok (.ireturn, 1) := by decide +kernel
theorem dX10_on_0 : decode cX10_on 0 = .ok (.iload_n 1, 1) := by decide +kernel
theorem dX10_on_1 : decode cX10_on 1 = .ok (.invokestatic 229, 3) := by decide +kernel
theorem dX10_on_4 : decode cX10_on 4 = .ok (.ifCond .ne 5, 3) := by decide +kernel
theorem dX10_on_7 : decode cX10_on 7 = .ok (.iconst (-1), 1) := by decide +kernel
theorem dX10_on_8 : decode cX10_on 8 = .ok (.ireturn, 1) := by decide +kernel
theorem dX10_on_9 : decode cX10_on 9 = .ok (.aload_n 0, 1) := by decide +kernel
theorem dX10_on_10 : decode cX10_on 10 = .ok (.getfield 39, 3) := by decide +kernel
theorem dX10_on_13 : decode cX10_on 13 = .ok (.iload_n 1, 1) := by decide +kernel
theorem dX10_on_14 : decode cX10_on 14 = .ok (.aaload, 1) := by decide +kernel
theorem dX10_on_15 : decode cX10_on 15 = .ok (.getfield 236, 3) := by decide +kernel
theorem dX10_on_18 : decode cX10_on 18 = .ok (.ifCond .ne 9, 3) := by decide +kernel
theorem dX10_on_21 : decode cX10_on 21 = .ok (.aload_n 0, 1) := by decide +kernel
theorem dX10_on_22 : decode cX10_on 22 = .ok (.iconst 1, 1) := by decide +kernel
theorem dX10_on_23 : decode cX10_on 23 = .ok (.invokevirtual 106, 3) := by decide +kernel
theorem dX10_on_26 : decode cX10_on 26 = .ok (.ireturn, 1) := by decide +kernel
theorem dX10_on_27 : decode cX10_on 27 = .ok (.aload_n 0, 1) := by decide +kernel
theorem dX10_on_28 : decode cX10_on 28 = .ok (.getfield 35, 3) := by decide +kernel
theorem dX10_on_31 : decode cX10_on 31 = .ok (.aload_n 0, 1) := by decide +kernel
theorem dX10_on_32 : decode cX10_on 32 = .ok (.getfield 39, 3) := by decide +kernel
theorem dX10_on_35 : decode cX10_on 35 = .ok (.iload_n 1, 1) := by decide +kernel
theorem dX10_on_36 : decode cX10_on 36 = .ok (.aaload, 1) := by decide +kernel
theorem dX10_on_37 : decode cX10_on 37 = .ok (.invokevirtual 232, 3) := by decide +kernel
theorem dX10_on_40 : decode cX10_on 40 = .ok (.aload_n 0, 1) := by decide +kernel
theorem dX10_on_41 : decode cX10_on 41 = .ok (.getfield 35, 3) := by decide +kernel
theorem dX10_on_44 : decode cX10_on 44 = .ok (.getfield 198, 3) := by decide +kernel
theorem dX10_on_47 : decode cX10_on 47 = .ok (.ireturn, 1) := by decide +kernel
theorem dX10_fires_0 : decode cX10_fires 0 = .ok (.aload_n 0, 1) := by decide +kernel
theorem dX10_fires_1 : decode cX10_fires 1 = .ok (.aload_n 0, 1) := by decide +kernel
theorem dX10_fires_2 : decode cX10_fires 2 = .ok (.getfield 35, 3) := by decide +kernel
theorem dX10_fires_5 : decode cX10_fires 5 = .ok (.getfield 201, 3) := by decide +kernel
theorem dX10_fires_8 : decode cX10_fires 8 = .ok (.invokevirtual 239, 3) := by decide +kernel
theorem dX10_fires_11 : decode cX10_fires 11 = .ok (.putfield 92, 3) := by decide +kernel
theorem dX10_fires_14 : decode cX10_fires 14 = .ok (.aload_n 0, 1) := by decide +kernel
theorem dX10_fires_15 : decode cX10_fires 15 = .ok (.getfield 35, 3) := by decide +kernel
theorem dX10_fires_18 : decode cX10_fires 18 = .ok (.getfield 201, 3) := by decide +kernel
theorem dX10_fires_21 : decode cX10_fires 21 = .ok (.getfield 242, 3) := by decide +kernel
theorem dX10_fires_24 : decode cX10_fires 24 = .ok (.ireturn, 1) := by decide +kernel
theorem dX10_reach_0 : decode cX10_reach 0 = .ok (.aload_n 0, 1) := by decide +kernel
theorem dX10_reach_1 : decode cX10_reach 1 = .ok (.getfield 35, 3) := by decide +kernel
theorem dX10_reach_4 : decode cX10_reach 4 = .ok (.getfield 201, 3) := by decide +kernel
theorem dX10_reach_7 : decode cX10_reach 7 = .ok (.invokevirtual 245, 3) := by decide +kernel
theorem dX10_reach_10 : decode cX10_reach 10 = .ok (.ireturn, 1) := by decide +kernel
theorem dX10_lasts_0 : decode cX10_lasts 0 = .ok (.aload_n 0, 1) := by decide +kernel
theorem dX10_lasts_1 : decode cX10_lasts 1 = .ok (.getfield 26, 3) := by decide +kernel
theorem dX10_lasts_4 : decode cX10_lasts 4 = .ok (.iload_n 1, 1) := by decide +kernel
theorem dX10_lasts_5 : decode cX10_lasts 5 = .ok (.invokevirtual 176, 3) := by decide +kernel
theorem dX10_lasts_8 : decode cX10_lasts 8 = .ok (.ifCond .ne 5, 3) := by decide +kernel
theorem dX10_lasts_11 : decode cX10_lasts 11 = .ok (.iconst (-1), 1) := by decide +kernel
theorem dX10_lasts_12 : decode cX10_lasts 12 = .ok (.ireturn, 1) := by decide +kernel
theorem dX10_lasts_13 : decode cX10_lasts 13 = .ok (.aload_n 0, 1) := by decide +kernel
theorem dX10_lasts_14 : decode cX10_lasts 14 = .ok (.getfield 35, 3) := by decide +kernel
theorem dX10_lasts_17 : decode cX10_lasts 17 = .ok (.getfield 201, 3) := by decide +kernel
theorem dX10_lasts_20 : decode cX10_lasts 20 = .ok (.iload_n 1, 1) := by decide +kernel
theorem dX10_lasts_21 : decode cX10_lasts 21 = .ok (.invokevirtual 248, 3) := by decide +kernel
theorem dX10_lasts_24 : decode cX10_lasts 24 = .ok (.ireturn, 1) := by decide +kernel
theorem dX10_dark_0 : decode cX10_dark 0 = .ok (.iconst 0, 1) := by decide +kernel
theorem dX10_dark_1 : decode cX10_dark 1 = .ok (.istore_n 1, 1) := by decide +kernel
theorem dX10_dark_2 : decode cX10_dark 2 = .ok (.iconst 0, 1) := by decide +kernel
theorem dX10_dark_3 : decode cX10_dark 3 = .ok (.istore_n 2, 1) := by decide +kernel
theorem dX10_dark_4 : decode cX10_dark 4 = .ok (.iload_n 2, 1) := by decide +kernel
theorem dX10_dark_5 : decode cX10_dark 5 = .ok (.aload_n 0, 1) := by decide +kernel
theorem dX10_dark_6 : decode cX10_dark 6 = .ok (.getfield 26, 3) := by decide +kernel
theorem dX10_dark_9 : decode cX10_dark 9 = .ok (.getfield 173, 3) := by decide +kernel
theorem dX10_dark_12 : decode cX10_dark 12 = .ok (.if_icmp .ge 25, 3) := by decide +kernel
theorem dX10_dark_15 : decode cX10_dark 15 = .ok (.iload_n 1, 1) := by decide +kernel
theorem dX10_dark_16 : decode cX10_dark 16 = .ok (.aload_n 0, 1) := by decide +kernel
theorem dX10_dark_17 : decode cX10_dark 17 = .ok (.getfield 35, 3) := by decide +kernel
theorem dX10_dark_20 : decode cX10_dark 20 = .ok (.getfield 201, 3) := by decide +kernel
theorem dX10_dark_23 : decode cX10_dark 23 = .ok (.iload_n 2, 1) := by decide +kernel
theorem dX10_dark_24 : decode cX10_dark 24 = .ok (.invokevirtual 248, 3) := by decide +kernel
theorem dX10_dark_27 : decode cX10_dark 27 = .ok (.invokestatic 251, 3) := by decide +kernel
theorem dX10_dark_30 : decode cX10_dark 30 = .ok (.istore_n 1, 1) := by decide +kernel
theorem dX10_dark_31 : decode cX10_dark 31 = .ok (.iinc 2 1, 3) := by decide +kernel
theorem dX10_dark_34 : decode cX10_dark 34 = .ok (.goto (-30), 3) := by decide +kernel
theorem dX10_dark_37 : decode cX10_dark 37 = .ok (.iload_n 1, 1) := by decide +kernel
theorem dX10_dark_38 : decode cX10_dark 38 = .ok (.ireturn, 1) := by decide +kernel
theorem dX10_worst_0 : decode cX10_worst 0 = .ok (.iload_n 1, 1) := by decide +kernel
theorem dX10_worst_1 : decode cX10_worst 1 = .ok (.iconst 1, 1) := by decide +kernel
theorem dX10_worst_2 : decode cX10_worst 2 = .ok (.if_icmp .lt 9, 3) := by decide +kernel
theorem dX10_worst_5 : decode cX10_worst 5 = .ok (.iload_n 1, 1) := by decide +kernel
theorem dX10_worst_6 : decode cX10_worst 6 = .ok (.bipush 20, 2) := by decide +kernel
theorem dX10_worst_8 : decode cX10_worst 8 = .ok (.if_icmp .le 5, 3) := by decide +kernel
theorem dX10_worst_11 : decode cX10_worst 11 = .ok (.iconst (-1), 1) := by decide +kernel
theorem dX10_worst_12 : decode cX10_worst 12 = .ok (.ireturn, 1) := by decide +kernel
theorem dX10_worst_13 : decode cX10_worst 13 = .ok (.aload_n 0, 1) := by decide +kernel
theorem dX10_worst_14 : decode cX10_worst 14 = .ok (.getfield 26, 3) := by decide +kernel
theorem dX10_worst_17 : decode cX10_worst 17 = .ok (.invokevirtual 181, 3) := by decide +kernel
theorem dX10_worst_20 : decode cX10_worst 20 = .ok (.ifCond .eq 6, 3) := by decide +kernel
theorem dX10_worst_23 : decode cX10_worst 23 = .ok (.bipush (-4), 2) := by decide +kernel
theorem dX10_worst_25 : decode cX10_worst 25 = .ok (.ireturn, 1) := by decide +kernel
theorem dX10_worst_26 : decode cX10_worst 26 = .ok (.iconst 1, 1) := by decide +kernel
theorem dX10_worst_27 : decode cX10_worst 27 = .ok (.istore_n 2, 1) := by decide +kernel
theorem dX10_worst_28 : decode cX10_worst 28 = .ok (.aload_n 0, 1) := by decide +kernel
theorem dX10_worst_29 : decode cX10_worst 29 = .ok (.getfield 35, 3) := by decide +kernel
theorem dX10_worst_32 : decode cX10_worst 32 = .ok (.getfield 201, 3) := by decide +kernel
theorem dX10_worst_35 : decode cX10_worst 35 = .ok (.iconst 1, 1) := by decide +kernel
theorem dX10_worst_36 : decode cX10_worst 36 = .ok (.invokevirtual 256, 3) := by decide +kernel
theorem dX10_worst_39 : decode cX10_worst 39 = .ok (.istore_n 3, 1) := by decide +kernel
theorem dX10_worst_40 : decode cX10_worst 40 = .ok (.iconst 2, 1) := by decide +kernel
theorem dX10_worst_41 : decode cX10_worst 41 = .ok (.istore 4, 2) := by decide +kernel
theorem dX10_worst_43 : decode cX10_worst 43 = .ok (.iload 4, 2) := by decide +kernel
theorem dX10_worst_45 : decode cX10_worst 45 = .ok (.iload_n 1, 1) := by decide +kernel
theorem dX10_worst_46 : decode cX10_worst 46 = .ok (.if_icmp .gt 35, 3) := by decide +kernel
theorem dX10_worst_49 : decode cX10_worst 49 = .ok (.aload_n 0, 1) := by decide +kernel
theorem dX10_worst_50 : decode cX10_worst 50 = .ok (.getfield 35, 3) := by decide +kernel
theorem dX10_worst_53 : decode cX10_worst 53 = .ok (.getfield 201, 3) := by decide +kernel
theorem dX10_worst_56 : decode cX10_worst 56 = .ok (.iload 4, 2) := by decide +kernel
theorem dX10_worst_58 : decode cX10_worst 58 = .ok (.invokevirtual 256, 3) := by decide +kernel
theorem dX10_worst_61 : decode cX10_worst 61 = .ok (.istore 5, 2) := by decide +kernel
theorem dX10_worst_63 : decode cX10_worst 63 = .ok (.iload 5, 2) := by decide +kernel
theorem dX10_worst_65 : decode cX10_worst 65 = .ok (.iload_n 3, 1) := by decide +kernel
theorem dX10_worst_66 : decode cX10_worst 66 = .ok (.if_icmp .ge 9, 3) := by decide +kernel
theorem dX10_worst_69 : decode cX10_worst 69 = .ok (.iload 4, 2) := by decide +kernel
theorem dX10_worst_71 : decode cX10_worst 71 = .ok (.istore_n 2, 1) := by decide +kernel
theorem dX10_worst_72 : decode cX10_worst 72 = .ok (.iload 5, 2) := by decide +kernel
theorem dX10_worst_74 : decode cX10_worst 74 = .ok (.istore_n 3, 1) := by decide +kernel
theorem dX10_worst_75 : decode cX10_worst 75 = .ok (.iinc 4 1, 3) := by decide +kernel
theorem dX10_worst_78 : decode cX10_worst 78 = .ok (.goto (-35), 3) := by decide +kernel
theorem dX10_worst_81 : decode cX10_worst 81 = .ok (.aload_n 0, 1) := by decide +kernel
theorem dX10_worst_82 : decode cX10_worst 82 = .ok (.iload_n 3, 1) := by decide +kernel
theorem dX10_worst_83 : decode cX10_worst 83 = .ok (.putfield 92, 3) := by decide +kernel
theorem dX10_worst_86 : decode cX10_worst 86 = .ok (.iload_n 2, 1) := by decide +kernel
theorem dX10_worst_87 : decode cX10_worst 87 = .ok (.ireturn, 1) := by decide +kernel
theorem dX10_can_0 : decode cX10_can 0 = .ok (.iload_n 1, 1) := by decide +kernel
theorem dX10_can_1 : decode cX10_can 1 = .ok (.invokestatic 259, 3) := by decide +kernel
theorem dX10_can_4 : decode cX10_can 4 = .ok (.ifCond .ne 5, 3) := by decide +kernel
theorem dX10_can_7 : decode cX10_can 7 = .ok (.iconst (-1), 1) := by decide +kernel
theorem dX10_can_8 : decode cX10_can 8 = .ok (.ireturn, 1) := by decide +kernel
theorem dX10_can_9 : decode cX10_can 9 = .ok (.aload_n 0, 1) := by decide +kernel
theorem dX10_can_10 : decode cX10_can 10 = .ok (.getfield 66, 3) := by decide +kernel
theorem dX10_can_13 : decode cX10_can 13 = .ok (.aload_n 0, 1) := by decide +kernel
theorem dX10_can_14 : decode cX10_can 14 = .ok (.getfield 35, 3) := by decide +kernel
theorem dX10_can_17 : decode cX10_can 17 = .ok (.getfield 201, 3) := by decide +kernel
theorem dX10_can_20 : decode cX10_can 20 = .ok (.iload_n 1, 1) := by decide +kernel
theorem dX10_can_21 : decode cX10_can 21 = .ok (.iconst 0, 1) := by decide +kernel
theorem dX10_can_22 : decode cX10_can 22 = .ok (.iconst 0, 1) := by decide +kernel
theorem dX10_can_23 : decode cX10_can 23 = .ok (.invokevirtual 262, 3) := by decide +kernel
theorem dX10_can_26 : decode cX10_can 26 = .ok (.aload_n 0, 1) := by decide +kernel
theorem dX10_can_27 : decode cX10_can 27 = .ok (.getfield 66, 3) := by decide +kernel
theorem dX10_can_30 : decode cX10_can 30 = .ok (.getfield 266, 3) := by decide +kernel
theorem dX10_can_33 : decode cX10_can 33 = .ok (.ireturn, 1) := by decide +kernel
theorem dX10_plan_0 : decode cX10_plan 0 = .ok (.aload_n 0, 1) := by decide +kernel
theorem dX10_plan_1 : decode cX10_plan 1 = .ok (.getfield 26, 3) := by decide +kernel
theorem dX10_plan_4 : decode cX10_plan 4 = .ok (.iload_n 1, 1) := by decide +kernel
theorem dX10_plan_5 : decode cX10_plan 5 = .ok (.invokevirtual 176, 3) := by decide +kernel
theorem dX10_plan_8 : decode cX10_plan 8 = .ok (.ifCond .eq 17, 3) := by decide +kernel
theorem dX10_plan_11 : decode cX10_plan 11 = .ok (.iload_n 2, 1) := by decide +kernel
theorem dX10_plan_12 : decode cX10_plan 12 = .ok (.invokestatic 259, 3) := by decide +kernel
theorem dX10_plan_15 : decode cX10_plan 15 = .ok (.ifCond .eq 10, 3) := by decide +kernel
theorem dX10_plan_18 : decode cX10_plan 18 = .ok (.iload_n 3, 1) := by decide +kernel
theorem dX10_plan_19 : decode cX10_plan 19 = .ok (.invokestatic 102, 3) := by decide +kernel
theorem dX10_plan_22 : decode cX10_plan 22 = .ok (.ifCond .ne 5, 3) := by decide +kernel
theorem dX10_plan_25 : decode cX10_plan 25 = .ok (.iconst (-1), 1) := by decide +kernel
theorem dX10_plan_26 : decode cX10_plan 26 = .ok (.ireturn, 1) := by decide +kernel
theorem dX10_plan_27 : decode cX10_plan 27 = .ok (.aload_n 0, 1) := by decide +kernel
theorem dX10_plan_28 : decode cX10_plan 28 = .ok (.getfield 66, 3) := by decide +kernel
theorem dX10_plan_31 : decode cX10_plan 31 = .ok (.aload_n 0, 1) := by decide +kernel
theorem dX10_plan_32 : decode cX10_plan 32 = .ok (.getfield 35, 3) := by decide +kernel
theorem dX10_plan_35 : decode cX10_plan 35 = .ok (.getfield 201, 3) := by decide +kernel
theorem dX10_plan_38 : decode cX10_plan 38 = .ok (.iload_n 2, 1) := by decide +kernel
theorem dX10_plan_39 : decode cX10_plan 39 = .ok (.iconst 1, 1) := by decide +kernel
theorem dX10_plan_40 : decode cX10_plan 40 = .ok (.iload_n 1, 1) := by decide +kernel
theorem dX10_plan_41 : decode cX10_plan 41 = .ok (.invokevirtual 262, 3) := by decide +kernel
theorem dX10_plan_44 : decode cX10_plan 44 = .ok (.aload_n 0, 1) := by decide +kernel
theorem dX10_plan_45 : decode cX10_plan 45 = .ok (.aload_n 0, 1) := by decide +kernel
theorem dX10_plan_46 : decode cX10_plan 46 = .ok (.getfield 11, 3) := by decide +kernel
theorem dX10_plan_49 : decode cX10_plan 49 = .ok (.iload_n 3, 1) := by decide +kernel
theorem dX10_plan_50 : decode cX10_plan 50 = .ok (.aaload, 1) := by decide +kernel
theorem dX10_plan_51 : decode cX10_plan 51 = .ok (.invokevirtual 269, 3) := by decide +kernel
theorem dX10_plan_54 : decode cX10_plan 54 = .ok (.ireturn, 1) := by decide +kernel
theorem dX10_ways_0 : decode cX10_ways 0 = .ok (.aload_n 0, 1) := by decide +kernel
theorem dX10_ways_1 : decode cX10_ways 1 = .ok (.getfield 26, 3) := by decide +kernel
theorem dX10_ways_4 : decode cX10_ways 4 = .ok (.iload_n 1, 1) := by decide +kernel
theorem dX10_ways_5 : decode cX10_ways 5 = .ok (.invokevirtual 176, 3) := by decide +kernel
theorem dX10_ways_8 : decode cX10_ways 8 = .ok (.ifCond .eq 10, 3) := by decide +kernel
theorem dX10_ways_11 : decode cX10_ways 11 = .ok (.iload_n 2, 1) := by decide +kernel
theorem dX10_ways_12 : decode cX10_ways 12 = .ok (.invokestatic 259, 3) := by decide +kernel
theorem dX10_ways_15 : decode cX10_ways 15 = .ok (.ifCond .ne 5, 3) := by decide +kernel
theorem dX10_ways_18 : decode cX10_ways 18 = .ok (.iconst (-1), 1) := by decide +kernel
theorem dX10_ways_19 : decode cX10_ways 19 = .ok (.ireturn, 1) := by decide +kernel
theorem dX10_ways_20 : decode cX10_ways 20 = .ok (.aload_n 0, 1) := by decide +kernel
theorem dX10_ways_21 : decode cX10_ways 21 = .ok (.getfield 66, 3) := by decide +kernel
theorem dX10_ways_24 : decode cX10_ways 24 = .ok (.aload_n 0, 1) := by decide +kernel
theorem dX10_ways_25 : decode cX10_ways 25 = .ok (.getfield 35, 3) := by decide +kernel
theorem dX10_ways_28 : decode cX10_ways 28 = .ok (.getfield 201, 3) := by decide +kernel
theorem dX10_ways_31 : decode cX10_ways 31 = .ok (.iload_n 2, 1) := by decide +kernel
theorem dX10_ways_32 : decode cX10_ways 32 = .ok (.iconst 0, 1) := by decide +kernel
theorem dX10_ways_33 : decode cX10_ways 33 = .ok (.iload_n 1, 1) := by decide +kernel
theorem dX10_ways_34 : decode cX10_ways 34 = .ok (.invokevirtual 262, 3) := by decide +kernel
theorem dX10_ways_37 : decode cX10_ways 37 = .ok (.aload_n 0, 1) := by decide +kernel
theorem dX10_ways_38 : decode cX10_ways 38 = .ok (.aload_n 0, 1) := by decide +kernel
theorem dX10_ways_39 : decode cX10_ways 39 = .ok (.getfield 66, 3) := by decide +kernel
theorem dX10_ways_42 : decode cX10_ways 42 = .ok (.getfield 273, 3) := by decide +kernel
theorem dX10_ways_45 : decode cX10_ways 45 = .ok (.putfield 92, 3) := by decide +kernel
theorem dX10_ways_48 : decode cX10_ways 48 = .ok (.aload_n 0, 1) := by decide +kernel
theorem dX10_ways_49 : decode cX10_ways 49 = .ok (.aload_n 0, 1) := by decide +kernel
theorem dX10_ways_50 : decode cX10_ways 50 = .ok (.getfield 66, 3) := by decide +kernel
theorem dX10_ways_53 : decode cX10_ways 53 = .ok (.getfield 276, 3) := by decide +kernel
theorem dX10_ways_56 : decode cX10_ways 56 = .ok (.i2l, 1) := by decide +kernel
theorem dX10_ways_57 : decode cX10_ways 57 = .ok (.lconst 1, 1) := by decide +kernel
theorem dX10_ways_58 : decode cX10_ways 58 = .ok (.invokevirtual 279, 3) := by decide +kernel
theorem dX10_ways_61 : decode cX10_ways 61 = .ok (.iconst 1, 1) := by decide +kernel
theorem dX10_ways_62 : decode cX10_ways 62 = .ok (.ireturn, 1) := by decide +kernel
theorem dX10_most_0 : decode cX10_most 0 = .ok (.iload_n 1, 1) := by decide +kernel
theorem dX10_most_1 : decode cX10_most 1 = .ok (.invokestatic 259, 3) := by decide +kernel
theorem dX10_most_4 : decode cX10_most 4 = .ok (.ifCond .eq 10, 3) := by decide +kernel
theorem dX10_most_7 : decode cX10_most 7 = .ok (.iload_n 2, 1) := by decide +kernel
theorem dX10_most_8 : decode cX10_most 8 = .ok (.invokestatic 102, 3) := by decide +kernel
theorem dX10_most_11 : decode cX10_most 11 = .ok (.ifCond .ne 5, 3) := by decide +kernel
theorem dX10_most_14 : decode cX10_most 14 = .ok (.iconst (-1), 1) := by decide +kernel
theorem dX10_most_15 : decode cX10_most 15 = .ok (.ireturn, 1) := by decide +kernel
theorem dX10_most_16 : decode cX10_most 16 = .ok (.aload_n 0, 1) := by decide +kernel
theorem dX10_most_17 : decode cX10_most 17 = .ok (.getfield 26, 3) := by decide +kernel
theorem dX10_most_20 : decode cX10_most 20 = .ok (.invokevirtual 181, 3) := by decide +kernel
theorem dX10_most_23 : decode cX10_most 23 = .ok (.ifCond .eq 6, 3) := by decide +kernel
theorem dX10_most_26 : decode cX10_most 26 = .ok (.bipush (-4), 2) := by decide +kernel
theorem dX10_most_28 : decode cX10_most 28 = .ok (.ireturn, 1) := by decide +kernel
theorem dX10_most_29 : decode cX10_most 29 = .ok (.aload_n 0, 1) := by decide +kernel
theorem dX10_most_30 : decode cX10_most 30 = .ok (.getfield 66, 3) := by decide +kernel
theorem dX10_most_33 : decode cX10_most 33 = .ok (.aload_n 0, 1) := by decide +kernel
theorem dX10_most_34 : decode cX10_most 34 = .ok (.getfield 35, 3) := by decide +kernel
theorem dX10_most_37 : decode cX10_most 37 = .ok (.getfield 201, 3) := by decide +kernel
theorem dX10_most_40 : decode cX10_most 40 = .ok (.iload_n 1, 1) := by decide +kernel
theorem dX10_most_41 : decode cX10_most 41 = .ok (.iconst 2, 1) := by decide +kernel
theorem dX10_most_42 : decode cX10_most 42 = .ok (.iconst 0, 1) := by decide +kernel
theorem dX10_most_43 : decode cX10_most 43 = .ok (.invokevirtual 262, 3) := by decide +kernel
theorem dX10_most_46 : decode cX10_most 46 = .ok (.aload_n 0, 1) := by decide +kernel
theorem dX10_most_47 : decode cX10_most 47 = .ok (.aload_n 0, 1) := by decide +kernel
theorem dX10_most_48 : decode cX10_most 48 = .ok (.getfield 11, 3) := by decide +kernel
theorem dX10_most_51 : decode cX10_most 51 = .ok (.iload_n 2, 1) := by decide +kernel
theorem dX10_most_52 : decode cX10_most 52 = .ok (.aaload, 1) := by decide +kernel
theorem dX10_most_53 : decode cX10_most 53 = .ok (.invokevirtual 269, 3) := by decide +kernel
theorem dX10_most_56 : decode cX10_most 56 = .ok (.pop, 1) := by decide +kernel
theorem dX10_most_57 : decode cX10_most 57 = .ok (.aload_n 0, 1) := by decide +kernel
theorem dX10_most_58 : decode cX10_most 58 = .ok (.getfield 66, 3) := by decide +kernel
theorem dX10_most_61 : decode cX10_most 61 = .ok (.getfield 283, 3) := by decide +kernel
theorem dX10_most_64 : decode cX10_most 64 = .ok (.ireturn, 1) := by decide +kernel
theorem dX10_serve_0 : decode cX10_serve 0 = .ok (.iload_n 1, 1) := by decide +kernel
theorem dX10_serve_1 : decode cX10_serve 1 = .ok (.invokestatic 259, 3) := by decide +kernel
theorem dX10_serve_4 : decode cX10_serve 4 = .ok (.ifCond .eq 10, 3) := by decide +kernel
theorem dX10_serve_7 : decode cX10_serve 7 = .ok (.iload_n 2, 1) := by decide +kernel
theorem dX10_serve_8 : decode cX10_serve 8 = .ok (.invokestatic 102, 3) := by decide +kernel
theorem dX10_serve_11 : decode cX10_serve 11 = .ok (.ifCond .ne 5, 3) := by decide +kernel
theorem dX10_serve_14 : decode cX10_serve 14 = .ok (.iconst (-1), 1) := by decide +kernel
theorem dX10_serve_15 : decode cX10_serve 15 = .ok (.ireturn, 1) := by decide +kernel
theorem dX10_serve_16 : decode cX10_serve 16 = .ok (.aload_n 0, 1) := by decide +kernel
theorem dX10_serve_17 : decode cX10_serve 17 = .ok (.getfield 26, 3) := by decide +kernel
theorem dX10_serve_20 : decode cX10_serve 20 = .ok (.invokevirtual 181, 3) := by decide +kernel
theorem dX10_serve_23 : decode cX10_serve 23 = .ok (.ifCond .eq 6, 3) := by decide +kernel
theorem dX10_serve_26 : decode cX10_serve 26 = .ok (.bipush (-4), 2) := by decide +kernel
theorem dX10_serve_28 : decode cX10_serve 28 = .ok (.ireturn, 1) := by decide +kernel
theorem dX10_serve_29 : decode cX10_serve 29 = .ok (.aload_n 0, 1) := by decide +kernel
theorem dX10_serve_30 : decode cX10_serve 30 = .ok (.getfield 66, 3) := by decide +kernel
theorem dX10_serve_33 : decode cX10_serve 33 = .ok (.aload_n 0, 1) := by decide +kernel
theorem dX10_serve_34 : decode cX10_serve 34 = .ok (.getfield 35, 3) := by decide +kernel
theorem dX10_serve_37 : decode cX10_serve 37 = .ok (.getfield 201, 3) := by decide +kernel
theorem dX10_serve_40 : decode cX10_serve 40 = .ok (.iload_n 1, 1) := by decide +kernel
theorem dX10_serve_41 : decode cX10_serve 41 = .ok (.iconst 3, 1) := by decide +kernel
theorem dX10_serve_42 : decode cX10_serve 42 = .ok (.iconst 0, 1) := by decide +kernel
theorem dX10_serve_43 : decode cX10_serve 43 = .ok (.invokevirtual 262, 3) := by decide +kernel
theorem dX10_serve_46 : decode cX10_serve 46 = .ok (.aload_n 0, 1) := by decide +kernel
theorem dX10_serve_47 : decode cX10_serve 47 = .ok (.aload_n 0, 1) := by decide +kernel
theorem dX10_serve_48 : decode cX10_serve 48 = .ok (.getfield 11, 3) := by decide +kernel
theorem dX10_serve_51 : decode cX10_serve 51 = .ok (.iload_n 2, 1) := by decide +kernel
theorem dX10_serve_52 : decode cX10_serve 52 = .ok (.aaload, 1) := by decide +kernel
theorem dX10_serve_53 : decode cX10_serve 53 = .ok (.invokevirtual 269, 3) := by decide +kernel
theorem dX10_serve_56 : decode cX10_serve 56 = .ok (.ireturn, 1) := by decide +kernel
theorem dX10_run_0 : decode cX10_run 0 = .ok (.iload_n 1, 1) := by decide +kernel
theorem dX10_run_1 : decode cX10_run 1 = .ok (.invokestatic 102, 3) := by decide +kernel
theorem dX10_run_4 : decode cX10_run 4 = .ok (.ifCond .ne 5, 3) := by decide +kernel
theorem dX10_run_7 : decode cX10_run 7 = .ok (.iconst (-1), 1) := by decide +kernel
theorem dX10_run_8 : decode cX10_run 8 = .ok (.ireturn, 1) := by decide +kernel
theorem dX10_run_9 : decode cX10_run 9 = .ok (.aload_n 0, 1) := by decide +kernel
theorem dX10_run_10 : decode cX10_run 10 = .ok (.getfield 26, 3) := by decide +kernel
theorem dX10_run_13 : decode cX10_run 13 = .ok (.invokevirtual 181, 3) := by decide +kernel
theorem dX10_run_16 : decode cX10_run 16 = .ok (.ifCond .eq 6, 3) := by decide +kernel
theorem dX10_run_19 : decode cX10_run 19 = .ok (.bipush (-4), 2) := by decide +kernel
theorem dX10_run_21 : decode cX10_run 21 = .ok (.ireturn, 1) := by decide +kernel
theorem dX10_run_22 : decode cX10_run 22 = .ok (.aload_n 0, 1) := by decide +kernel
theorem dX10_run_23 : decode cX10_run 23 = .ok (.getfield 11, 3) := by decide +kernel
theorem dX10_run_26 : decode cX10_run 26 = .ok (.iload_n 1, 1) := by decide +kernel
theorem dX10_run_27 : decode cX10_run 27 = .ok (.aaload, 1) := by decide +kernel
theorem dX10_run_28 : decode cX10_run 28 = .ok (.astore_n 2, 1) := by decide +kernel
theorem dX10_run_29 : decode cX10_run 29 = .ok (.aload_n 2, 1) := by decide +kernel
theorem dX10_run_30 : decode cX10_run 30 = .ok (.iconst 0, 1) := by decide +kernel
theorem dX10_run_31 : decode cX10_run 31 = .ok (.bipush 10, 2) := by decide +kernel
theorem dX10_run_33 : decode cX10_run 33 = .ok (.bipush 36, 2) := by decide +kernel
theorem dX10_run_35 : decode cX10_run 35 = .ok (.invokevirtual 286, 3) := by decide +kernel
theorem dX10_run_38 : decode cX10_run 38 = .ok (.istore_n 3, 1) := by decide +kernel
theorem dX10_run_39 : decode cX10_run 39 = .ok (.iload_n 3, 1) := by decide +kernel
theorem dX10_run_40 : decode cX10_run 40 = .ok (.ifCond .eq 9, 3) := by decide +kernel
theorem dX10_run_43 : decode cX10_run 43 = .ok (.aload_n 0, 1) := by decide +kernel
theorem dX10_run_44 : decode cX10_run 44 = .ok (.iload_n 3, 1) := by decide +kernel
theorem dX10_run_45 : decode cX10_run 45 = .ok (.invokevirtual 106, 3) := by decide +kernel
theorem dX10_run_48 : decode cX10_run 48 = .ok (.ireturn, 1) := by decide +kernel
theorem dX10_run_49 : decode cX10_run 49 = .ok (.aload_n 0, 1) := by decide +kernel
theorem dX10_run_50 : decode cX10_run 50 = .ok (.getfield 60, 3) := by decide +kernel
theorem dX10_run_53 : decode cX10_run 53 = .ok (.aload_n 0, 1) := by decide +kernel
theorem dX10_run_54 : decode cX10_run 54 = .ok (.getfield 35, 3) := by decide +kernel
theorem dX10_run_57 : decode cX10_run 57 = .ok (.getfield 201, 3) := by decide +kernel
theorem dX10_run_60 : decode cX10_run 60 = .ok (.invokevirtual 290, 3) := by decide +kernel
theorem dX10_run_63 : decode cX10_run 63 = .ok (.iconst 0, 1) := by decide +kernel
theorem dX10_run_64 : decode cX10_run 64 = .ok (.istore 4, 2) := by decide +kernel
theorem dX10_run_66 : decode cX10_run 66 = .ok (.iload 4, 2) := by decide +kernel
theorem dX10_run_68 : decode cX10_run 68 = .ok (.aload_n 2, 1) := by decide +kernel
theorem dX10_run_69 : decode cX10_run 69 = .ok (.getfield 144, 3) := by decide +kernel
theorem dX10_run_72 : decode cX10_run 72 = .ok (.if_icmp .ge 50, 3) := by decide +kernel
theorem dX10_run_75 : decode cX10_run 75 = .ok (.aload_n 2, 1) := by decide +kernel
theorem dX10_run_76 : decode cX10_run 76 = .ok (.iload 4, 2) := by decide +kernel
theorem dX10_run_78 : decode cX10_run 78 = .ok (.invokevirtual 117, 3) := by decide +kernel
theorem dX10_run_81 : decode cX10_run 81 = .ok (.istore 5, 2) := by decide +kernel
theorem dX10_run_83 : decode cX10_run 83 = .ok (.aload_n 0, 1) := by decide +kernel
theorem dX10_run_84 : decode cX10_run 84 = .ok (.getfield 60, 3) := by decide +kernel
theorem dX10_run_87 : decode cX10_run 87 = .ok (.aload_n 0, 1) := by decide +kernel
theorem dX10_run_88 : decode cX10_run 88 = .ok (.getfield 60, 3) := by decide +kernel
theorem dX10_run_91 : decode cX10_run 91 = .ok (.iload 5, 2) := by decide +kernel
theorem dX10_run_93 : decode cX10_run 93 = .ok (.invokevirtual 293, 3) := by decide +kernel
theorem dX10_run_96 : decode cX10_run 96 = .ok (.ifCond .eq 8, 3) := by decide +kernel
theorem dX10_run_99 : decode cX10_run 99 = .ok (.iload 5, 2) := by decide +kernel
theorem dX10_run_101 : decode cX10_run 101 = .ok (.goto 5, 3) := by decide +kernel
theorem dX10_run_104 : decode cX10_run 104 = .ok (.bipush 36, 2) := by decide +kernel
theorem dX10_run_106 : decode cX10_run 106 = .ok (.invokevirtual 296, 3) := by decide +kernel
theorem dX10_run_109 : decode cX10_run 109 = .ok (.aload_n 0, 1) := by decide +kernel
theorem dX10_run_110 : decode cX10_run 110 = .ok (.getfield 60, 3) := by decide +kernel
theorem dX10_run_113 : decode cX10_run 113 = .ok (.invokevirtual 299, 3) := by decide +kernel
theorem dX10_run_116 : decode cX10_run 116 = .ok (.iinc 4 1, 3) := by decide +kernel
theorem dX10_run_119 : decode cX10_run 119 = .ok (.goto (-53), 3) := by decide +kernel
theorem dX10_run_122 : decode cX10_run 122 = .ok (.aload_n 0, 1) := by decide +kernel
theorem dX10_run_123 : decode cX10_run 123 = .ok (.aload_n 0, 1) := by decide +kernel
theorem dX10_run_124 : decode cX10_run 124 = .ok (.getfield 60, 3) := by decide +kernel
theorem dX10_run_127 : decode cX10_run 127 = .ok (.invokevirtual 302, 3) := by decide +kernel
theorem dX10_run_130 : decode cX10_run 130 = .ok (.putfield 92, 3) := by decide +kernel
theorem dX10_run_133 : decode cX10_run 133 = .ok (.aload_n 0, 1) := by decide +kernel
theorem dX10_run_134 : decode cX10_run 134 = .ok (.getfield 60, 3) := by decide +kernel
theorem dX10_run_137 : decode cX10_run 137 = .ok (.getfield 242, 3) := by decide +kernel
theorem dX10_run_140 : decode cX10_run 140 = .ok (.ireturn, 1) := by decide +kernel
theorem dX10_where_0 : decode cX10_where 0 = .ok (.iconst 0, 1) := by decide +kernel
theorem dX10_where_1 : decode cX10_where 1 = .ok (.istore_n 1, 1) := by decide +kernel
theorem dX10_where_2 : decode cX10_where 2 = .ok (.iconst 0, 1) := by decide +kernel
theorem dX10_where_3 : decode cX10_where 3 = .ok (.istore_n 2, 1) := by decide +kernel
theorem dX10_where_4 : decode cX10_where 4 = .ok (.bipush (-9), 2) := by decide +kernel
theorem dX10_where_6 : decode cX10_where 6 = .ok (.istore_n 3, 1) := by decide +kernel
theorem dX10_where_7 : decode cX10_where 7 = .ok (.iconst 0, 1) := by decide +kernel
theorem dX10_where_8 : decode cX10_where 8 = .ok (.istore 4, 2) := by decide +kernel
theorem dX10_where_10 : decode cX10_where 10 = .ok (.iload 4, 2) := by decide +kernel
theorem dX10_where_12 : decode cX10_where 12 = .ok (.aload_n 0, 1) := by decide +kernel
theorem dX10_where_13 : decode cX10_where 13 = .ok (.getfield 26, 3) := by decide +kernel
theorem dX10_where_16 : decode cX10_where 16 = .ok (.getfield 173, 3) := by decide +kernel
theorem dX10_where_19 : decode cX10_where 19 = .ok (.if_icmp .ge 57, 3) := by decide +kernel
theorem dX10_where_22 : decode cX10_where 22 = .ok (.aload_n 0, 1) := by decide +kernel
theorem dX10_where_23 : decode cX10_where 23 = .ok (.getfield 35, 3) := by decide +kernel
theorem dX10_where_26 : decode cX10_where 26 = .ok (.getfield 165, 3) := by decide +kernel
theorem dX10_where_29 : decode cX10_where 29 = .ok (.iload 4, 2) := by decide +kernel
theorem dX10_where_31 : decode cX10_where 31 = .ok (.invokevirtual 210, 3) := by decide +kernel
theorem dX10_where_34 : decode cX10_where 34 = .ok (.ifCond .eq 36, 3) := by decide +kernel
theorem dX10_where_37 : decode cX10_where 37 = .ok (.iload_n 1, 1) := by decide +kernel
theorem dX10_where_38 : decode cX10_where 38 = .ok (.iconst 1, 1) := by decide +kernel
theorem dX10_where_39 : decode cX10_where 39 = .ok (.iload 4, 2) := by decide +kernel
theorem dX10_where_41 : decode cX10_where 41 = .ok (.ishl, 1) := by decide +kernel
theorem dX10_where_42 : decode cX10_where 42 = .ok (.ior, 1) := by decide +kernel
theorem dX10_where_43 : decode cX10_where 43 = .ok (.istore_n 1, 1) := by decide +kernel
theorem dX10_where_44 : decode cX10_where 44 = .ok (.aload_n 0, 1) := by decide +kernel
theorem dX10_where_45 : decode cX10_where 45 = .ok (.getfield 35, 3) := by decide +kernel
theorem dX10_where_48 : decode cX10_where 48 = .ok (.getfield 165, 3) := by decide +kernel
theorem dX10_where_51 : decode cX10_where 51 = .ok (.iload 4, 2) := by decide +kernel
theorem dX10_where_53 : decode cX10_where 53 = .ok (.invokevirtual 305, 3) := by decide +kernel
theorem dX10_where_56 : decode cX10_where 56 = .ok (.istore 5, 2) := by decide +kernel
theorem dX10_where_58 : decode cX10_where 58 = .ok (.iload 5, 2) := by decide +kernel
theorem dX10_where_60 : decode cX10_where 60 = .ok (.iload_n 2, 1) := by decide +kernel
theorem dX10_where_61 : decode cX10_where 61 = .ok (.if_icmp .le 9, 3) := by decide +kernel
theorem dX10_where_64 : decode cX10_where 64 = .ok (.iload 5, 2) := by decide +kernel
theorem dX10_where_66 : decode cX10_where 66 = .ok (.istore_n 2, 1) := by decide +kernel
theorem dX10_where_67 : decode cX10_where 67 = .ok (.iload 4, 2) := by decide +kernel
theorem dX10_where_69 : decode cX10_where 69 = .ok (.istore_n 3, 1) := by decide +kernel
theorem dX10_where_70 : decode cX10_where 70 = .ok (.iinc 4 1, 3) := by decide +kernel
theorem dX10_where_73 : decode cX10_where 73 = .ok (.goto (-63), 3) := by decide +kernel
theorem dX10_where_76 : decode cX10_where 76 = .ok (.aload_n 0, 1) := by decide +kernel
theorem dX10_where_77 : decode cX10_where 77 = .ok (.iload_n 3, 1) := by decide +kernel
theorem dX10_where_78 : decode cX10_where 78 = .ok (.putfield 92, 3) := by decide +kernel
theorem dX10_where_81 : decode cX10_where 81 = .ok (.iload_n 1, 1) := by decide +kernel
theorem dX10_where_82 : decode cX10_where 82 = .ok (.ireturn, 1) := by decide +kernel
theorem dX10_smoke_0 : decode cX10_smoke 0 = .ok (.iload_n 1, 1) := by decide +kernel
theorem dX10_smoke_1 : decode cX10_smoke 1 = .ok (.invokestatic 102, 3) := by decide +kernel
theorem dX10_smoke_4 : decode cX10_smoke 4 = .ok (.ifCond .ne 5, 3) := by decide +kernel
theorem dX10_smoke_7 : decode cX10_smoke 7 = .ok (.iconst (-1), 1) := by decide +kernel
theorem dX10_smoke_8 : decode cX10_smoke 8 = .ok (.ireturn, 1) := by decide +kernel
theorem dX10_smoke_9 : decode cX10_smoke 9 = .ok (.aload_n 0, 1) := by decide +kernel
theorem dX10_smoke_10 : decode cX10_smoke 10 = .ok (.getfield 26, 3) := by decide +kernel
theorem dX10_smoke_13 : decode cX10_smoke 13 = .ok (.invokevirtual 181, 3) := by decide +kernel
theorem dX10_smoke_16 : decode cX10_smoke 16 = .ok (.ifCond .eq 6, 3) := by decide +kernel
theorem dX10_smoke_19 : decode cX10_smoke 19 = .ok (.bipush (-4), 2) := by decide +kernel
theorem dX10_smoke_21 : decode cX10_smoke 21 = .ok (.ireturn, 1) := by decide +kernel
theorem dX10_smoke_22 : decode cX10_smoke 22 = .ok (.aload_n 0, 1) := by decide +kernel
theorem dX10_smoke_23 : decode cX10_smoke 23 = .ok (.getfield 11, 3) := by decide +kernel
theorem dX10_smoke_26 : decode cX10_smoke 26 = .ok (.iload_n 1, 1) := by decide +kernel
theorem dX10_smoke_27 : decode cX10_smoke 27 = .ok (.aaload, 1) := by decide +kernel
theorem dX10_smoke_28 : decode cX10_smoke 28 = .ok (.iconst 1, 1) := by decide +kernel
theorem dX10_smoke_29 : decode cX10_smoke 29 = .ok (.iconst 5, 1) := by decide +kernel
theorem dX10_smoke_30 : decode cX10_smoke 30 = .ok (.aload_n 0, 1) := by decide +kernel
theorem dX10_smoke_31 : decode cX10_smoke 31 = .ok (.getfield 26, 3) := by decide +kernel
theorem dX10_smoke_34 : decode cX10_smoke 34 = .ok (.invokevirtual 308, 3) := by decide +kernel
theorem dX10_smoke_37 : decode cX10_smoke 37 = .ok (.invokevirtual 286, 3) := by decide +kernel
theorem dX10_smoke_40 : decode cX10_smoke 40 = .ok (.istore_n 2, 1) := by decide +kernel
theorem dX10_smoke_41 : decode cX10_smoke 41 = .ok (.iload_n 2, 1) := by decide +kernel
theorem dX10_smoke_42 : decode cX10_smoke 42 = .ok (.ifCond .eq 9, 3) := by decide +kernel
theorem dX10_smoke_45 : decode cX10_smoke 45 = .ok (.aload_n 0, 1) := by decide +kernel
theorem dX10_smoke_46 : decode cX10_smoke 46 = .ok (.iload_n 2, 1) := by decide +kernel
theorem dX10_smoke_47 : decode cX10_smoke 47 = .ok (.invokevirtual 106, 3) := by decide +kernel
theorem dX10_smoke_50 : decode cX10_smoke 50 = .ok (.ireturn, 1) := by decide +kernel
theorem dX10_smoke_51 : decode cX10_smoke 51 = .ok (.aload_n 0, 1) := by decide +kernel
theorem dX10_smoke_52 : decode cX10_smoke 52 = .ok (.getfield 73, 3) := by decide +kernel
theorem dX10_smoke_55 : decode cX10_smoke 55 = .ok (.aload_n 0, 1) := by decide +kernel
theorem dX10_smoke_56 : decode cX10_smoke 56 = .ok (.getfield 35, 3) := by decide +kernel
theorem dX10_smoke_59 : decode cX10_smoke 59 = .ok (.getfield 165, 3) := by decide +kernel
theorem dX10_smoke_62 : decode cX10_smoke 62 = .ok (.aload_n 0, 1) := by decide +kernel
theorem dX10_smoke_63 : decode cX10_smoke 63 = .ok (.getfield 11, 3) := by decide +kernel
theorem dX10_smoke_66 : decode cX10_smoke 66 = .ok (.iload_n 1, 1) := by decide +kernel
theorem dX10_smoke_67 : decode cX10_smoke 67 = .ok (.aaload, 1) := by decide +kernel
theorem dX10_smoke_68 : decode cX10_smoke 68 = .ok (.invokevirtual 311, 3) := by decide +kernel
theorem dX10_smoke_71 : decode cX10_smoke 71 = .ok (.aload_n 0, 1) := by decide +kernel
theorem dX10_smoke_72 : decode cX10_smoke 72 = .ok (.aload_n 0, 1) := by decide +kernel
theorem dX10_smoke_73 : decode cX10_smoke 73 = .ok (.getfield 73, 3) := by decide +kernel
theorem dX10_smoke_76 : decode cX10_smoke 76 = .ok (.getfield 314, 3) := by decide +kernel
theorem dX10_smoke_79 : decode cX10_smoke 79 = .ok (.putfield 92, 3) := by decide +kernel
theorem dX10_smoke_82 : decode cX10_smoke 82 = .ok (.aload_n 0, 1) := by decide +kernel
theorem dX10_smoke_83 : decode cX10_smoke 83 = .ok (.aload_n 0, 1) := by decide +kernel
theorem dX10_smoke_84 : decode cX10_smoke 84 = .ok (.getfield 73, 3) := by decide +kernel
theorem dX10_smoke_87 : decode cX10_smoke 87 = .ok (.getfield 317, 3) := by decide +kernel
theorem dX10_smoke_90 : decode cX10_smoke 90 = .ok (.i2l, 1) := by decide +kernel
theorem dX10_smoke_91 : decode cX10_smoke 91 = .ok (.lconst 1, 1) := by decide +kernel
theorem dX10_smoke_92 : decode cX10_smoke 92 = .ok (.invokevirtual 279, 3) := by decide +kernel
theorem dX10_smoke_95 : decode cX10_smoke 95 = .ok (.iconst 1, 1) := by decide +kernel
theorem dX10_smoke_96 : decode cX10_smoke 96 = .ok (.ireturn, 1) := by decide +kernel
theorem dX10_hides_0 : decode cX10_hides 0 = .ok (.iload_n 1, 1) := by decide +kernel
theorem dX10_hides_1 : decode cX10_hides 1 = .ok (.invokestatic 102, 3) := by decide +kernel
theorem dX10_hides_4 : decode cX10_hides 4 = .ok (.ifCond .eq 18, 3) := by decide +kernel
theorem dX10_hides_7 : decode cX10_hides 7 = .ok (.iload_n 2, 1) := by decide +kernel
theorem dX10_hides_8 : decode cX10_hides 8 = .ok (.ifCond .lt 14, 3) := by decide +kernel
theorem dX10_hides_11 : decode cX10_hides 11 = .ok (.iload_n 2, 1) := by decide +kernel
theorem dX10_hides_12 : decode cX10_hides 12 = .ok (.aload_n 0, 1) := by decide +kernel
theorem dX10_hides_13 : decode cX10_hides 13 = .ok (.getfield 26, 3) := by decide +kernel
theorem dX10_hides_16 : decode cX10_hides 16 = .ok (.invokevirtual 308, 3) := by decide +kernel
theorem dX10_hides_19 : decode cX10_hides 19 = .ok (.if_icmp .le 5, 3) := by decide +kernel
theorem dX10_hides_22 : decode cX10_hides 22 = .ok (.iconst (-1), 1) := by decide +kernel
theorem dX10_hides_23 : decode cX10_hides 23 = .ok (.ireturn, 1) := by decide +kernel
theorem dX10_hides_24 : decode cX10_hides 24 = .ok (.aload_n 0, 1) := by decide +kernel
theorem dX10_hides_25 : decode cX10_hides 25 = .ok (.getfield 26, 3) := by decide +kernel
theorem dX10_hides_28 : decode cX10_hides 28 = .ok (.invokevirtual 181, 3) := by decide +kernel
theorem dX10_hides_31 : decode cX10_hides 31 = .ok (.ifCond .eq 6, 3) := by decide +kernel
theorem dX10_hides_34 : decode cX10_hides 34 = .ok (.bipush (-4), 2) := by decide +kernel
theorem dX10_hides_36 : decode cX10_hides 36 = .ok (.ireturn, 1) := by decide +kernel
theorem dX10_hides_37 : decode cX10_hides 37 = .ok (.aload_n 0, 1) := by decide +kernel
theorem dX10_hides_38 : decode cX10_hides 38 = .ok (.getfield 11, 3) := by decide +kernel
theorem dX10_hides_41 : decode cX10_hides 41 = .ok (.iload_n 1, 1) := by decide +kernel
theorem dX10_hides_42 : decode cX10_hides 42 = .ok (.aaload, 1) := by decide +kernel
theorem dX10_hides_43 : decode cX10_hides 43 = .ok (.astore_n 3, 1) := by decide +kernel
theorem dX10_hides_44 : decode cX10_hides 44 = .ok (.aload_n 3, 1) := by decide +kernel
theorem dX10_hides_45 : decode cX10_hides 45 = .ok (.iconst 1, 1) := by decide +kernel
theorem dX10_hides_46 : decode cX10_hides 46 = .ok (.iconst 5, 1) := by decide +kernel
theorem dX10_hides_47 : decode cX10_hides 47 = .ok (.aload_n 0, 1) := by decide +kernel
theorem dX10_hides_48 : decode cX10_hides 48 = .ok (.getfield 26, 3) := by decide +kernel
theorem dX10_hides_51 : decode cX10_hides 51 = .ok (.invokevirtual 308, 3) := by decide +kernel
theorem dX10_hides_54 : decode cX10_hides 54 = .ok (.invokevirtual 286, 3) := by decide +kernel
theorem dX10_hides_57 : decode cX10_hides 57 = .ok (.istore 4, 2) := by decide +kernel
theorem dX10_hides_59 : decode cX10_hides 59 = .ok (.iload 4, 2) := by decide +kernel
theorem dX10_hides_61 : decode cX10_hides 61 = .ok (.ifCond .eq 10, 3) := by decide +kernel
theorem dX10_hides_64 : decode cX10_hides 64 = .ok (.aload_n 0, 1) := by decide +kernel
theorem dX10_hides_65 : decode cX10_hides 65 = .ok (.iload 4, 2) := by decide +kernel
theorem dX10_hides_67 : decode cX10_hides 67 = .ok (.invokevirtual 106, 3) := by decide +kernel
theorem dX10_hides_70 : decode cX10_hides 70 = .ok (.ireturn, 1) := by decide +kernel
theorem dX10_hides_71 : decode cX10_hides 71 = .ok (.aload_n 3, 1) := by decide +kernel
theorem dX10_hides_72 : decode cX10_hides 72 = .ok (.invokevirtual 318, 3) := by decide +kernel
theorem dX10_hides_75 : decode cX10_hides 75 = .ok (.iload_n 2, 1) := by decide +kernel
theorem dX10_hides_76 : decode cX10_hides 76 = .ok (.iconst (-1), 1) := by decide +kernel
theorem dX10_hides_77 : decode cX10_hides 77 = .ok (.ixor, 1) := by decide +kernel
theorem dX10_hides_78 : decode cX10_hides 78 = .ok (.iand, 1) := by decide +kernel
theorem dX10_hides_79 : decode cX10_hides 79 = .ok (.istore 5, 2) := by decide +kernel
theorem dX10_hides_81 : decode cX10_hides 81 = .ok (.iconst 0, 1) := by decide +kernel
theorem dX10_hides_82 : decode cX10_hides 82 = .ok (.istore 6, 2) := by decide +kernel
theorem dX10_hides_84 : decode cX10_hides 84 = .ok (.iload 6, 2) := by decide +kernel
theorem dX10_hides_86 : decode cX10_hides 86 = .ok (.aload_n 0, 1) := by decide +kernel
theorem dX10_hides_87 : decode cX10_hides 87 = .ok (.getfield 26, 3) := by decide +kernel
theorem dX10_hides_90 : decode cX10_hides 90 = .ok (.getfield 173, 3) := by decide +kernel
theorem dX10_hides_93 : decode cX10_hides 93 = .ok (.if_icmp .ge 22, 3) := by decide +kernel
theorem dX10_hides_96 : decode cX10_hides 96 = .ok (.iload 5, 2) := by decide +kernel
theorem dX10_hides_98 : decode cX10_hides 98 = .ok (.iload 6, 2) := by decide +kernel
theorem dX10_hides_100 : decode cX10_hides 100 = .ok (.ishr, 1) := by decide +kernel
theorem dX10_hides_101 : decode cX10_hides 101 = .ok (.iconst 1, 1) := by decide +kernel
theorem dX10_hides_102 : decode cX10_hides 102 = .ok (.iand, 1) := by decide +kernel
theorem dX10_hides_103 : decode cX10_hides 103 = .ok (.ifCond .eq 6, 3) := by decide +kernel
theorem dX10_hides_106 : decode cX10_hides 106 = .ok (.iload 6, 2) := by decide +kernel
theorem dX10_hides_108 : decode cX10_hides 108 = .ok (.ireturn, 1) := by decide +kernel
theorem dX10_hides_109 : decode cX10_hides 109 = .ok (.iinc 6 1, 3) := by decide +kernel
theorem dX10_hides_112 : decode cX10_hides 112 = .ok (.goto (-28), 3) := by decide +kernel
theorem dX10_hides_115 : decode cX10_hides 115 = .ok (.bipush (-9), 2) := by decide +kernel
theorem dX10_hides_117 : decode cX10_hides 117 = .ok (.ireturn, 1) := by decide +kernel
theorem dX10_spring_0 : decode cX10_spring 0 = .ok (.aload_n 0, 1) := by decide +kernel
theorem dX10_spring_1 : decode cX10_spring 1 = .ok (.getfield 26, 3) := by decide +kernel
theorem dX10_spring_4 : decode cX10_spring 4 = .ok (.iload_n 1, 1) := by decide +kernel
theorem dX10_spring_5 : decode cX10_spring 5 = .ok (.invokevirtual 176, 3) := by decide +kernel
theorem dX10_spring_8 : decode cX10_spring 8 = .ok (.ifCond .eq 13, 3) := by decide +kernel
theorem dX10_spring_11 : decode cX10_spring 11 = .ok (.iload_n 2, 1) := by decide +kernel
theorem dX10_spring_12 : decode cX10_spring 12 = .ok (.ifCond .lt 9, 3) := by decide +kernel
theorem dX10_spring_15 : decode cX10_spring 15 = .ok (.iload_n 2, 1) := by decide +kernel
theorem dX10_spring_16 : decode cX10_spring 16 = .ok (.bipush 20, 2) := by decide +kernel
theorem dX10_spring_18 : decode cX10_spring 18 = .ok (.if_icmp .le 5, 3) := by decide +kernel
theorem dX10_spring_21 : decode cX10_spring 21 = .ok (.iconst (-1), 1) := by decide +kernel
theorem dX10_spring_22 : decode cX10_spring 22 = .ok (.ireturn, 1) := by decide +kernel
theorem dX10_spring_23 : decode cX10_spring 23 = .ok (.aload_n 0, 1) := by decide +kernel
theorem dX10_spring_24 : decode cX10_spring 24 = .ok (.getfield 35, 3) := by decide +kernel
theorem dX10_spring_27 : decode cX10_spring 27 = .ok (.getfield 201, 3) := by decide +kernel
theorem dX10_spring_30 : decode cX10_spring 30 = .ok (.iload_n 1, 1) := by decide +kernel
theorem dX10_spring_31 : decode cX10_spring 31 = .ok (.iload_n 2, 1) := by decide +kernel
theorem dX10_spring_32 : decode cX10_spring 32 = .ok (.invokevirtual 321, 3) := by decide +kernel
theorem dX10_spring_35 : decode cX10_spring 35 = .ok (.ireturn, 1) := by decide +kernel
theorem dX10_odds_0 : decode cX10_odds 0 = .ok (.aload_n 0, 1) := by decide +kernel
theorem dX10_odds_1 : decode cX10_odds 1 = .ok (.getfield 26, 3) := by decide +kernel
theorem dX10_odds_4 : decode cX10_odds 4 = .ok (.iload_n 1, 1) := by decide +kernel
theorem dX10_odds_5 : decode cX10_odds 5 = .ok (.invokevirtual 176, 3) := by decide +kernel
theorem dX10_odds_8 : decode cX10_odds 8 = .ok (.ifCond .eq 20, 3) := by decide +kernel
theorem dX10_odds_11 : decode cX10_odds 11 = .ok (.iload_n 2, 1) := by decide +kernel
theorem dX10_odds_12 : decode cX10_odds 12 = .ok (.invokestatic 102, 3) := by decide +kernel
theorem dX10_odds_15 : decode cX10_odds 15 = .ok (.ifCond .eq 13, 3) := by decide +kernel
theorem dX10_odds_18 : decode cX10_odds 18 = .ok (.iload_n 3, 1) := by decide +kernel
theorem dX10_odds_19 : decode cX10_odds 19 = .ok (.ifCond .lt 9, 3) := by decide +kernel
theorem dX10_odds_22 : decode cX10_odds 22 = .ok (.iload_n 3, 1) := by decide +kernel
theorem dX10_odds_23 : decode cX10_odds 23 = .ok (.bipush 12, 2) := by decide +kernel
theorem dX10_odds_25 : decode cX10_odds 25 = .ok (.if_icmp .le 5, 3) := by decide +kernel
theorem dX10_odds_28 : decode cX10_odds 28 = .ok (.iconst (-1), 1) := by decide +kernel
theorem dX10_odds_29 : decode cX10_odds 29 = .ok (.ireturn, 1) := by decide +kernel
theorem dX10_odds_30 : decode cX10_odds 30 = .ok (.aload_n 0, 1) := by decide +kernel
theorem dX10_odds_31 : decode cX10_odds 31 = .ok (.getfield 11, 3) := by decide +kernel
theorem dX10_odds_34 : decode cX10_odds 34 = .ok (.iload_n 2, 1) := by decide +kernel
theorem dX10_odds_35 : decode cX10_odds 35 = .ok (.aaload, 1) := by decide +kernel
theorem dX10_odds_36 : decode cX10_odds 36 = .ok (.iconst 0, 1) := by decide +kernel
theorem dX10_odds_37 : decode cX10_odds 37 = .ok (.iconst 4, 1) := by decide +kernel
theorem dX10_odds_38 : decode cX10_odds 38 = .ok (.bipush 36, 2) := by decide +kernel
theorem dX10_odds_40 : decode cX10_odds 40 = .ok (.invokevirtual 286, 3) := by decide +kernel
theorem dX10_odds_43 : decode cX10_odds 43 = .ok (.istore 4, 2) := by decide +kernel
theorem dX10_odds_45 : decode cX10_odds 45 = .ok (.iload 4, 2) := by decide +kernel
theorem dX10_odds_47 : decode cX10_odds 47 = .ok (.ifCond .eq 10, 3) := by decide +kernel
theorem dX10_odds_50 : decode cX10_odds 50 = .ok (.aload_n 0, 1) := by decide +kernel
theorem dX10_odds_51 : decode cX10_odds 51 = .ok (.iload 4, 2) := by decide +kernel
theorem dX10_odds_53 : decode cX10_odds 53 = .ok (.invokevirtual 106, 3) := by decide +kernel
theorem dX10_odds_56 : decode cX10_odds 56 = .ok (.ireturn, 1) := by decide +kernel
theorem dX10_odds_57 : decode cX10_odds 57 = .ok (.aload_n 0, 1) := by decide +kernel
theorem dX10_odds_58 : decode cX10_odds 58 = .ok (.getfield 80, 3) := by decide +kernel
theorem dX10_odds_61 : decode cX10_odds 61 = .ok (.aload_n 0, 1) := by decide +kernel
theorem dX10_odds_62 : decode cX10_odds 62 = .ok (.getfield 35, 3) := by decide +kernel
theorem dX10_odds_65 : decode cX10_odds 65 = .ok (.getfield 201, 3) := by decide +kernel
theorem dX10_odds_68 : decode cX10_odds 68 = .ok (.iload_n 1, 1) := by decide +kernel
theorem dX10_odds_69 : decode cX10_odds 69 = .ok (.aload_n 0, 1) := by decide +kernel
theorem dX10_odds_70 : decode cX10_odds 70 = .ok (.getfield 11, 3) := by decide +kernel
theorem dX10_odds_73 : decode cX10_odds 73 = .ok (.iload_n 2, 1) := by decide +kernel
theorem dX10_odds_74 : decode cX10_odds 74 = .ok (.aaload, 1) := by decide +kernel
theorem dX10_odds_75 : decode cX10_odds 75 = .ok (.iload_n 3, 1) := by decide +kernel
theorem dX10_odds_76 : decode cX10_odds 76 = .ok (.invokevirtual 324, 3) := by decide +kernel
theorem dX10_odds_79 : decode cX10_odds 79 = .ok (.aload_n 0, 1) := by decide +kernel
theorem dX10_odds_80 : decode cX10_odds 80 = .ok (.aload_n 0, 1) := by decide +kernel
theorem dX10_odds_81 : decode cX10_odds 81 = .ok (.getfield 80, 3) := by decide +kernel
theorem dX10_odds_84 : decode cX10_odds 84 = .ok (.getfield 328, 3) := by decide +kernel
theorem dX10_odds_87 : decode cX10_odds 87 = .ok (.aload_n 0, 1) := by decide +kernel
theorem dX10_odds_88 : decode cX10_odds 88 = .ok (.getfield 80, 3) := by decide +kernel
theorem dX10_odds_91 : decode cX10_odds 91 = .ok (.getfield 331, 3) := by decide +kernel
theorem dX10_odds_94 : decode cX10_odds 94 = .ok (.invokevirtual 279, 3) := by decide +kernel
theorem dX10_odds_97 : decode cX10_odds 97 = .ok (.iconst 1, 1) := by decide +kernel
theorem dX10_odds_98 : decode cX10_odds 98 = .ok (.ireturn, 1) := by decide +kernel
theorem dX10_lots_0 : decode cX10_lots 0 = .ok (.iload_n 1, 1) := by decide +kernel
theorem dX10_lots_1 : decode cX10_lots 1 = .ok (.iconst 1, 1) := by decide +kernel
theorem dX10_lots_2 : decode cX10_lots 2 = .ok (.if_icmp .lt 21, 3) := by decide +kernel
theorem dX10_lots_5 : decode cX10_lots 5 = .ok (.iload_n 1, 1) := by decide +kernel
theorem dX10_lots_6 : decode cX10_lots 6 = .ok (.bipush 10, 2) := by decide +kernel
theorem dX10_lots_8 : decode cX10_lots 8 = .ok (.if_icmp .gt 15, 3) := by decide +kernel
theorem dX10_lots_11 : decode cX10_lots 11 = .ok (.iload_n 2, 1) := by decide +kernel
theorem dX10_lots_12 : decode cX10_lots 12 = .ok (.iconst 1, 1) := by decide +kernel
theorem dX10_lots_13 : decode cX10_lots 13 = .ok (.if_icmp .lt 10, 3) := by decide +kernel
theorem dX10_lots_16 : decode cX10_lots 16 = .ok (.iload_n 2, 1) := by decide +kernel
theorem dX10_lots_17 : decode cX10_lots 17 = .ok (.ldc_w 334, 3) := by decide +kernel
theorem dX10_lots_20 : decode cX10_lots 20 = .ok (.if_icmp .lt 5, 3) := by decide +kernel
theorem dX10_lots_23 : decode cX10_lots 23 = .ok (.iconst (-1), 1) := by decide +kernel
theorem dX10_lots_24 : decode cX10_lots 24 = .ok (.ireturn, 1) := by decide +kernel
theorem dX10_lots_25 : decode cX10_lots 25 = .ok (.aload_n 0, 1) := by decide +kernel
theorem dX10_lots_26 : decode cX10_lots 26 = .ok (.getfield 26, 3) := by decide +kernel
theorem dX10_lots_29 : decode cX10_lots 29 = .ok (.invokevirtual 181, 3) := by decide +kernel
theorem dX10_lots_32 : decode cX10_lots 32 = .ok (.ifCond .eq 6, 3) := by decide +kernel
theorem dX10_lots_35 : decode cX10_lots 35 = .ok (.bipush (-4), 2) := by decide +kernel
theorem dX10_lots_37 : decode cX10_lots 37 = .ok (.ireturn, 1) := by decide +kernel
theorem dX10_lots_38 : decode cX10_lots 38 = .ok (.aload_n 0, 1) := by decide +kernel
theorem dX10_lots_39 : decode cX10_lots 39 = .ok (.getfield 35, 3) := by decide +kernel
theorem dX10_lots_42 : decode cX10_lots 42 = .ok (.iconst 2, 1) := by decide +kernel
theorem dX10_lots_43 : decode cX10_lots 43 = .ok (.iload_n 1, 1) := by decide +kernel
theorem dX10_lots_44 : decode cX10_lots 44 = .ok (.imul, 1) := by decide +kernel
theorem dX10_lots_45 : decode cX10_lots 45 = .ok (.invokevirtual 213, 3) := by decide +kernel
theorem dX10_lots_48 : decode cX10_lots 48 = .ok (.ifCond .ne 6, 3) := by decide +kernel
theorem dX10_lots_51 : decode cX10_lots 51 = .ok (.bipush (-2), 2) := by decide +kernel
theorem dX10_lots_53 : decode cX10_lots 53 = .ok (.ireturn, 1) := by decide +kernel
theorem dX10_lots_54 : decode cX10_lots 54 = .ok (.iload_n 2, 1) := by decide +kernel
theorem dX10_lots_55 : decode cX10_lots 55 = .ok (.istore_n 3, 1) := by decide +kernel
theorem dX10_lots_56 : decode cX10_lots 56 = .ok (.iconst 0, 1) := by decide +kernel
theorem dX10_lots_57 : decode cX10_lots 57 = .ok (.istore 4, 2) := by decide +kernel
theorem dX10_lots_59 : decode cX10_lots 59 = .ok (.iload 4, 2) := by decide +kernel
theorem dX10_lots_61 : decode cX10_lots 61 = .ok (.iload_n 1, 1) := by decide +kernel
theorem dX10_lots_62 : decode cX10_lots 62 = .ok (.if_icmp .ge 35, 3) := by decide +kernel
theorem dX10_lots_65 : decode cX10_lots 65 = .ok (.iload_n 3, 1) := by decide +kernel
theorem dX10_lots_66 : decode cX10_lots 66 = .ok (.i2l, 1) := by decide +kernel
theorem dX10_lots_67 : decode cX10_lots 67 = .ok (.ldc2_w 335, 3) := by decide +kernel
theorem dX10_lots_70 : decode cX10_lots 70 = .ok (.lmul, 1) := by decide +kernel
theorem dX10_lots_71 : decode cX10_lots 71 = .ok (.ldc2_w 337, 3) := by decide +kernel
theorem dX10_lots_74 : decode cX10_lots 74 = .ok (.lrem, 1) := by decide +kernel
theorem dX10_lots_75 : decode cX10_lots 75 = .ok (.l2i, 1) := by decide +kernel
theorem dX10_lots_76 : decode cX10_lots 76 = .ok (.istore_n 3, 1) := by decide +kernel
theorem dX10_lots_77 : decode cX10_lots 77 = .ok (.aload_n 0, 1) := by decide +kernel
theorem dX10_lots_78 : decode cX10_lots 78 = .ok (.iload_n 3, 1) := by decide +kernel
theorem dX10_lots_79 : decode cX10_lots 79 = .ok (.invokevirtual 339, 3) := by decide +kernel
theorem dX10_lots_82 : decode cX10_lots 82 = .ok (.aload_n 0, 1) := by decide +kernel
theorem dX10_lots_83 : decode cX10_lots 83 = .ok (.getfield 35, 3) := by decide +kernel
theorem dX10_lots_86 : decode cX10_lots 86 = .ok (.bipush 36, 2) := by decide +kernel
theorem dX10_lots_88 : decode cX10_lots 88 = .ok (.invokevirtual 216, 3) := by decide +kernel
theorem dX10_lots_91 : decode cX10_lots 91 = .ok (.iinc 4 1, 3) := by decide +kernel
theorem dX10_lots_94 : decode cX10_lots 94 = .ok (.goto (-35), 3) := by decide +kernel
theorem dX10_lots_97 : decode cX10_lots 97 = .ok (.aload_n 0, 1) := by decide +kernel
theorem dX10_lots_98 : decode cX10_lots 98 = .ok (.getfield 35, 3) := by decide +kernel
theorem dX10_lots_101 : decode cX10_lots 101 = .ok (.getfield 201, 3) := by decide +kernel
theorem dX10_lots_104 : decode cX10_lots 104 = .ok (.invokevirtual 222, 3) := by decide +kernel
theorem dX10_lots_107 : decode cX10_lots 107 = .ok (.ireturn, 1) := by decide +kernel
theorem dX10_asked_0 : decode cX10_asked 0 = .ok (.aload_n 0, 1) := by decide +kernel
theorem dX10_asked_1 : decode cX10_asked 1 = .ok (.getfield 92, 3) := by decide +kernel
theorem dX10_asked_4 : decode cX10_asked 4 = .ok (.ireturn, 1) := by decide +kernel
theorem dX10_upper_0 : decode cX10_upper 0 = .ok (.aload_n 0, 1) := by decide +kernel
theorem dX10_upper_1 : decode cX10_upper 1 = .ok (.getfield 95, 3) := by decide +kernel
theorem dX10_upper_4 : decode cX10_upper 4 = .ok (.lreturn, 1) := by decide +kernel
theorem dX10_lower_0 : decode cX10_lower 0 = .ok (.aload_n 0, 1) := by decide +kernel
theorem dX10_lower_1 : decode cX10_lower 1 = .ok (.getfield 99, 3) := by decide +kernel
theorem dX10_lower_4 : decode cX10_lower 4 = .ok (.lreturn, 1) := by decide +kernel
theorem dX10_count_0 : decode cX10_count 0 = .ok (.iload_n 1, 1) := by decide +kernel
theorem dX10_count_1 : decode cX10_count 1 = .ok (.ifCond .lt 9, 3) := by decide +kernel
theorem dX10_count_4 : decode cX10_count 4 = .ok (.iload_n 1, 1) := by decide +kernel
theorem dX10_count_5 : decode cX10_count 5 = .ok (.bipush 9, 2) := by decide +kernel
theorem dX10_count_7 : decode cX10_count 7 = .ok (.if_icmp .lt 5, 3) := by decide +kernel
theorem dX10_count_10 : decode cX10_count 10 = .ok (.iconst (-1), 1) := by decide +kernel
theorem dX10_count_11 : decode cX10_count 11 = .ok (.ireturn, 1) := by decide +kernel
theorem dX10_count_12 : decode cX10_count 12 = .ok (.aload_n 0, 1) := by decide +kernel
theorem dX10_count_13 : decode cX10_count 13 = .ok (.iload_n 1, 1) := by decide +kernel
theorem dX10_count_14 : decode cX10_count 14 = .ok (.invokevirtual 342, 3) := by decide +kernel
theorem dX10_count_17 : decode cX10_count 17 = .ok (.ireturn, 1) := by decide +kernel
theorem dX10_finding_0 : decode cX10_finding 0 = .ok (.aload_n 0, 1) := by decide +kernel
theorem dX10_finding_1 : decode cX10_finding 1 = .ok (.getfield 88, 3) := by decide +kernel
theorem dX10_finding_4 : decode cX10_finding 4 = .ok (.ireturn, 1) := by decide +kernel
theorem dX10_findings_0 : decode cX10_findings 0 = .ok (.iload_n 1, 1) := by decide +kernel
theorem dX10_findings_1 : decode cX10_findings 1 = .ok (.iconst 1, 1) := by decide +kernel
theorem dX10_findings_2 : decode cX10_findings 2 = .ok (.if_icmp .lt 8, 3) := by decide +kernel
theorem dX10_findings_5 : decode cX10_findings 5 = .ok (.iload_n 1, 1) := by decide +kernel
theorem dX10_findings_6 : decode cX10_findings 6 = .ok (.iconst 5, 1) := by decide +kernel
theorem dX10_findings_7 : decode cX10_findings 7 = .ok (.if_icmp .le 5, 3) := by decide +kernel
theorem dX10_findings_10 : decode cX10_findings 10 = .ok (.iconst (-1), 1) := by decide +kernel
theorem dX10_findings_11 : decode cX10_findings 11 = .ok (.ireturn, 1) := by decide +kernel
theorem dX10_findings_12 : decode cX10_findings 12 = .ok (.aload_n 0, 1) := by decide +kernel
theorem dX10_findings_13 : decode cX10_findings 13 = .ok (.getfield 84, 3) := by decide +kernel
theorem dX10_findings_16 : decode cX10_findings 16 = .ok (.iload_n 1, 1) := by decide +kernel
theorem dX10_findings_17 : decode cX10_findings 17 = .ok (.iaload, 1) := by decide +kernel
theorem dX10_findings_18 : decode cX10_findings 18 = .ok (.ireturn, 1) := by decide +kernel
theorem dX10_digest_0 : decode cX10_digest 0 = .ok (.ldc2_w 345, 3) := by decide +kernel
theorem dX10_digest_3 : decode cX10_digest 3 = .ok (.lstore_n 1, 1) := by decide +kernel
theorem dX10_digest_4 : decode cX10_digest 4 = .ok (.iconst 0, 1) := by decide +kernel
theorem dX10_digest_5 : decode cX10_digest 5 = .ok (.istore_n 3, 1) := by decide +kernel
theorem dX10_digest_6 : decode cX10_digest 6 = .ok (.iload_n 3, 1) := by decide +kernel
theorem dX10_digest_7 : decode cX10_digest 7 = .ok (.bipush 9, 2) := by decide +kernel
theorem dX10_digest_9 : decode cX10_digest 9 = .ok (.if_icmp .ge 22, 3) := by decide +kernel
theorem dX10_digest_12 : decode cX10_digest 12 = .ok (.ldc2_w 347, 3) := by decide +kernel
theorem dX10_digest_15 : decode cX10_digest 15 = .ok (.lload_n 1, 1) := by decide +kernel
theorem dX10_digest_16 : decode cX10_digest 16 = .ok (.lmul, 1) := by decide +kernel
theorem dX10_digest_17 : decode cX10_digest 17 = .ok (.aload_n 0, 1) := by decide +kernel
theorem dX10_digest_18 : decode cX10_digest 18 = .ok (.iload_n 3, 1) := by decide +kernel
theorem dX10_digest_19 : decode cX10_digest 19 = .ok (.invokevirtual 342, 3) := by decide +kernel
theorem dX10_digest_22 : decode cX10_digest 22 = .ok (.i2l, 1) := by decide +kernel
theorem dX10_digest_23 : decode cX10_digest 23 = .ok (.ladd, 1) := by decide +kernel
theorem dX10_digest_24 : decode cX10_digest 24 = .ok (.lstore_n 1, 1) := by decide +kernel
theorem dX10_digest_25 : decode cX10_digest 25 = .ok (.iinc 3 1, 3) := by decide +kernel
theorem dX10_digest_28 : decode cX10_digest 28 = .ok (.goto (-22), 3) := by decide +kernel
theorem dX10_digest_31 : decode cX10_digest 31 = .ok (.iconst 0, 1) := by decide +kernel
theorem dX10_digest_32 : decode cX10_digest 32 = .ok (.istore_n 3, 1) := by decide +kernel
theorem dX10_digest_33 : decode cX10_digest 33 = .ok (.iload_n 3, 1) := by decide +kernel
theorem dX10_digest_34 : decode cX10_digest 34 = .ok (.aload_n 0, 1) := by decide +kernel
theorem dX10_digest_35 : decode cX10_digest 35 = .ok (.getfield 26, 3) := by decide +kernel
theorem dX10_digest_38 : decode cX10_digest 38 = .ok (.getfield 173, 3) := by decide +kernel
theorem dX10_digest_41 : decode cX10_digest 41 = .ok (.if_icmp .ge 40, 3) := by decide +kernel
theorem dX10_digest_44 : decode cX10_digest 44 = .ok (.iconst 0, 1) := by decide +kernel
theorem dX10_digest_45 : decode cX10_digest 45 = .ok (.istore 4, 2) := by decide +kernel
theorem dX10_digest_47 : decode cX10_digest 47 = .ok (.iload 4, 2) := by decide +kernel
theorem dX10_digest_49 : decode cX10_digest 49 = .ok (.bipush 6, 2) := by decide +kernel
theorem dX10_digest_51 : decode cX10_digest 51 = .ok (.if_icmp .ge 24, 3) := by decide +kernel
theorem dX10_digest_54 : decode cX10_digest 54 = .ok (.ldc2_w 347, 3) := by decide +kernel
theorem dX10_digest_57 : decode cX10_digest 57 = .ok (.lload_n 1, 1) := by decide +kernel
theorem dX10_digest_58 : decode cX10_digest 58 = .ok (.lmul, 1) := by decide +kernel
theorem dX10_digest_59 : decode cX10_digest 59 = .ok (.aload_n 0, 1) := by decide +kernel
theorem dX10_digest_60 : decode cX10_digest 60 = .ok (.iload_n 3, 1) := by decide +kernel
theorem dX10_digest_61 : decode cX10_digest 61 = .ok (.iload 4, 2) := by decide +kernel
theorem dX10_digest_63 : decode cX10_digest 63 = .ok (.invokevirtual 177, 3) := by decide +kernel
theorem dX10_digest_66 : decode cX10_digest 66 = .ok (.i2l, 1) := by decide +kernel
theorem dX10_digest_67 : decode cX10_digest 67 = .ok (.ladd, 1) := by decide +kernel
theorem dX10_digest_68 : decode cX10_digest 68 = .ok (.lstore_n 1, 1) := by decide +kernel
theorem dX10_digest_69 : decode cX10_digest 69 = .ok (.iinc 4 1, 3) := by decide +kernel
theorem dX10_digest_72 : decode cX10_digest 72 = .ok (.goto (-25), 3) := by decide +kernel
theorem dX10_digest_75 : decode cX10_digest 75 = .ok (.iinc 3 1, 3) := by decide +kernel
theorem dX10_digest_78 : decode cX10_digest 78 = .ok (.goto (-45), 3) := by decide +kernel
theorem dX10_digest_81 : decode cX10_digest 81 = .ok (.iconst 0, 1) := by decide +kernel
theorem dX10_digest_82 : decode cX10_digest 82 = .ok (.istore_n 3, 1) := by decide +kernel
theorem dX10_digest_83 : decode cX10_digest 83 = .ok (.iload_n 3, 1) := by decide +kernel
theorem dX10_digest_84 : decode cX10_digest 84 = .ok (.iconst 3, 1) := by decide +kernel
theorem dX10_digest_85 : decode cX10_digest 85 = .ok (.if_icmp .ge 42, 3) := by decide +kernel
theorem dX10_digest_88 : decode cX10_digest 88 = .ok (.ldc2_w 347, 3) := by decide +kernel
theorem dX10_digest_91 : decode cX10_digest 91 = .ok (.lload_n 1, 1) := by decide +kernel
theorem dX10_digest_92 : decode cX10_digest 92 = .ok (.lmul, 1) := by decide +kernel
theorem dX10_digest_93 : decode cX10_digest 93 = .ok (.aload_n 0, 1) := by decide +kernel
theorem dX10_digest_94 : decode cX10_digest 94 = .ok (.getfield 39, 3) := by decide +kernel
theorem dX10_digest_97 : decode cX10_digest 97 = .ok (.iload_n 3, 1) := by decide +kernel
theorem dX10_digest_98 : decode cX10_digest 98 = .ok (.aaload, 1) := by decide +kernel
theorem dX10_digest_99 : decode cX10_digest 99 = .ok (.getfield 236, 3) := by decide +kernel
theorem dX10_digest_102 : decode cX10_digest 102 = .ok (.ifCond .eq 15, 3) := by decide +kernel
theorem dX10_digest_105 : decode cX10_digest 105 = .ok (.aload_n 0, 1) := by decide +kernel
theorem dX10_digest_106 : decode cX10_digest 106 = .ok (.getfield 39, 3) := by decide +kernel
theorem dX10_digest_109 : decode cX10_digest 109 = .ok (.iload_n 3, 1) := by decide +kernel
theorem dX10_digest_110 : decode cX10_digest 110 = .ok (.aaload, 1) := by decide +kernel
theorem dX10_digest_111 : decode cX10_digest 111 = .ok (.getfield 198, 3) := by decide +kernel
theorem dX10_digest_114 : decode cX10_digest 114 = .ok (.goto 4, 3) := by decide +kernel
theorem dX10_digest_117 : decode cX10_digest 117 = .ok (.iconst (-1), 1) := by decide +kernel
theorem dX10_digest_118 : decode cX10_digest 118 = .ok (.i2l, 1) := by decide +kernel
theorem dX10_digest_119 : decode cX10_digest 119 = .ok (.ladd, 1) := by decide +kernel
theorem dX10_digest_120 : decode cX10_digest 120 = .ok (.lstore_n 1, 1) := by decide +kernel
theorem dX10_digest_121 : decode cX10_digest 121 = .ok (.iinc 3 1, 3) := by decide +kernel
theorem dX10_digest_124 : decode cX10_digest 124 = .ok (.goto (-41), 3) := by decide +kernel
theorem dX10_digest_127 : decode cX10_digest 127 = .ok (.iconst 0, 1) := by decide +kernel
theorem dX10_digest_128 : decode cX10_digest 128 = .ok (.istore_n 3, 1) := by decide +kernel
theorem dX10_digest_129 : decode cX10_digest 129 = .ok (.iload_n 3, 1) := by decide +kernel
theorem dX10_digest_130 : decode cX10_digest 130 = .ok (.bipush 6, 2) := by decide +kernel
theorem dX10_digest_132 : decode cX10_digest 132 = .ok (.if_icmp .ge 20, 3) := by decide +kernel
theorem dX10_digest_135 : decode cX10_digest 135 = .ok (.aload_n 0, 1) := by decide +kernel
theorem dX10_digest_136 : decode cX10_digest 136 = .ok (.getfield 11, 3) := by decide +kernel
theorem dX10_digest_139 : decode cX10_digest 139 = .ok (.iload_n 3, 1) := by decide +kernel
theorem dX10_digest_140 : decode cX10_digest 140 = .ok (.aaload, 1) := by decide +kernel
theorem dX10_digest_141 : decode cX10_digest 141 = .ok (.lload_n 1, 1) := by decide +kernel
theorem dX10_digest_142 : decode cX10_digest 142 = .ok (.invokevirtual 349, 3) := by decide +kernel
theorem dX10_digest_145 : decode cX10_digest 145 = .ok (.lstore_n 1, 1) := by decide +kernel
theorem dX10_digest_146 : decode cX10_digest 146 = .ok (.iinc 3 1, 3) := by decide +kernel
theorem dX10_digest_149 : decode cX10_digest 149 = .ok (.goto (-20), 3) := by decide +kernel
theorem dX10_digest_152 : decode cX10_digest 152 = .ok (.iconst 0, 1) := by decide +kernel
theorem dX10_digest_153 : decode cX10_digest 153 = .ok (.istore_n 3, 1) := by decide +kernel
theorem dX10_digest_154 : decode cX10_digest 154 = .ok (.iload_n 3, 1) := by decide +kernel
theorem dX10_digest_155 : decode cX10_digest 155 = .ok (.iconst 4, 1) := by decide +kernel
theorem dX10_digest_156 : decode cX10_digest 156 = .ok (.if_icmp .ge 20, 3) := by decide +kernel
theorem dX10_digest_159 : decode cX10_digest 159 = .ok (.aload_n 0, 1) := by decide +kernel
theorem dX10_digest_160 : decode cX10_digest 160 = .ok (.getfield 18, 3) := by decide +kernel
theorem dX10_digest_163 : decode cX10_digest 163 = .ok (.iload_n 3, 1) := by decide +kernel
theorem dX10_digest_164 : decode cX10_digest 164 = .ok (.aaload, 1) := by decide +kernel
theorem dX10_digest_165 : decode cX10_digest 165 = .ok (.lload_n 1, 1) := by decide +kernel
theorem dX10_digest_166 : decode cX10_digest 166 = .ok (.invokevirtual 353, 3) := by decide +kernel
theorem dX10_digest_169 : decode cX10_digest 169 = .ok (.lstore_n 1, 1) := by decide +kernel
theorem dX10_digest_170 : decode cX10_digest 170 = .ok (.iinc 3 1, 3) := by decide +kernel
theorem dX10_digest_173 : decode cX10_digest 173 = .ok (.goto (-19), 3) := by decide +kernel
theorem dX10_digest_176 : decode cX10_digest 176 = .ok (.lload_n 1, 1) := by decide +kernel
theorem dX10_digest_177 : decode cX10_digest 177 = .ok (.lreturn, 1) := by decide +kernel
theorem dX10_isRow_0 : decode cX10_isRow 0 = .ok (.iload_n 0, 1) := by decide +kernel
theorem dX10_isRow_1 : decode cX10_isRow 1 = .ok (.ifCond .lt 13, 3) := by decide +kernel
theorem dX10_isRow_4 : decode cX10_isRow 4 = .ok (.iload_n 0, 1) := by decide +kernel
theorem dX10_isRow_5 : decode cX10_isRow 5 = .ok (.bipush 6, 2) := by decide +kernel
theorem dX10_isRow_7 : decode cX10_isRow 7 = .ok (.if_icmp .ge 7, 3) := by decide +kernel
theorem dX10_isRow_10 : decode cX10_isRow 10 = .ok (.iconst 1, 1) := by decide +kernel
theorem dX10_isRow_11 : decode cX10_isRow 11 = .ok (.goto 4, 3) := by decide +kernel
theorem dX10_isRow_14 : decode cX10_isRow 14 = .ok (.iconst 0, 1) := by decide +kernel
theorem dX10_isRow_15 : decode cX10_isRow 15 = .ok (.ireturn, 1) := by decide +kernel
theorem dX10_isText_0 : decode cX10_isText 0 = .ok (.iload_n 0, 1) := by decide +kernel
theorem dX10_isText_1 : decode cX10_isText 1 = .ok (.ifCond .lt 12, 3) := by decide +kernel
theorem dX10_isText_4 : decode cX10_isText 4 = .ok (.iload_n 0, 1) := by decide +kernel
theorem dX10_isText_5 : decode cX10_isText 5 = .ok (.iconst 4, 1) := by decide +kernel
theorem dX10_isText_6 : decode cX10_isText 6 = .ok (.if_icmp .ge 7, 3) := by decide +kernel
theorem dX10_isText_9 : decode cX10_isText 9 = .ok (.iconst 1, 1) := by decide +kernel
theorem dX10_isText_10 : decode cX10_isText 10 = .ok (.goto 4, 3) := by decide +kernel
theorem dX10_isText_13 : decode cX10_isText 13 = .ok (.iconst 0, 1) := by decide +kernel
theorem dX10_isText_14 : decode cX10_isText 14 = .ok (.ireturn, 1) := by decide +kernel
theorem dX10_isKeepingPlace_0 : decode cX10_isKeepingPlace 0 = .ok (.iload_n 0, 1) := by decide +kernel
theorem dX10_isKeepingPlace_1 : decode cX10_isKeepingPlace 1 = .ok (.ifCond .lt 12, 3) := by decide +kernel
theorem dX10_isKeepingPlace_4 : decode cX10_isKeepingPlace 4 = .ok (.iload_n 0, 1) := by decide +kernel
theorem dX10_isKeepingPlace_5 : decode cX10_isKeepingPlace 5 = .ok (.iconst 3, 1) := by decide +kernel
theorem dX10_isKeepingPlace_6 : decode cX10_isKeepingPlace 6 = .ok (.if_icmp .ge 7, 3) := by decide +kernel
theorem dX10_isKeepingPlace_9 : decode cX10_isKeepingPlace 9 = .ok (.iconst 1, 1) := by decide +kernel
theorem dX10_isKeepingPlace_10 : decode cX10_isKeepingPlace 10 = .ok (.goto 4, 3) := by decide +kernel
theorem dX10_isKeepingPlace_13 : decode cX10_isKeepingPlace 13 = .ok (.iconst 0, 1) := by decide +kernel
theorem dX10_isKeepingPlace_14 : decode cX10_isKeepingPlace 14 = .ok (.ireturn, 1) := by decide +kernel
theorem dX10_isAhead_0 : decode cX10_isAhead 0 = .ok (.iload_n 0, 1) := by decide +kernel
theorem dX10_isAhead_1 : decode cX10_isAhead 1 = .ok (.ifCond .lt 12, 3) := by decide +kernel
theorem dX10_isAhead_4 : decode cX10_isAhead 4 = .ok (.iload_n 0, 1) := by decide +kernel
theorem dX10_isAhead_5 : decode cX10_isAhead 5 = .ok (.iconst 4, 1) := by decide +kernel
theorem dX10_isAhead_6 : decode cX10_isAhead 6 = .ok (.if_icmp .gt 7, 3) := by decide +kernel
theorem dX10_isAhead_9 : decode cX10_isAhead 9 = .ok (.iconst 1, 1) := by decide +kernel
theorem dX10_isAhead_10 : decode cX10_isAhead 10 = .ok (.goto 4, 3) := by decide +kernel
theorem dX10_isAhead_13 : decode cX10_isAhead 13 = .ok (.iconst 0, 1) := by decide +kernel
theorem dX10_isAhead_14 : decode cX10_isAhead 14 = .ok (.ireturn, 1) := by decide +kernel
theorem dX10_found_0 : decode cX10_found 0 = .ok (.iload_n 1, 1) := by decide +kernel
theorem dX10_found_1 : decode cX10_found 1 = .ok (.iconst 1, 1) := by decide +kernel
theorem dX10_found_2 : decode cX10_found 2 = .ok (.if_icmp .lt 23, 3) := by decide +kernel
theorem dX10_found_5 : decode cX10_found 5 = .ok (.iload_n 1, 1) := by decide +kernel
theorem dX10_found_6 : decode cX10_found 6 = .ok (.iconst 5, 1) := by decide +kernel
theorem dX10_found_7 : decode cX10_found 7 = .ok (.if_icmp .gt 18, 3) := by decide +kernel
theorem dX10_found_10 : decode cX10_found 10 = .ok (.aload_n 0, 1) := by decide +kernel
theorem dX10_found_11 : decode cX10_found 11 = .ok (.iload_n 1, 1) := by decide +kernel
theorem dX10_found_12 : decode cX10_found 12 = .ok (.putfield 88, 3) := by decide +kernel
theorem dX10_found_15 : decode cX10_found 15 = .ok (.aload_n 0, 1) := by decide +kernel
theorem dX10_found_16 : decode cX10_found 16 = .ok (.getfield 84, 3) := by decide +kernel
theorem dX10_found_19 : decode cX10_found 19 = .ok (.iload_n 1, 1) := by decide +kernel
theorem dX10_found_20 : decode cX10_found 20 = .ok (.dup2, 1) := by decide +kernel
theorem dX10_found_21 : decode cX10_found 21 = .ok (.iaload, 1) := by decide +kernel
theorem dX10_found_22 : decode cX10_found 22 = .ok (.iconst 1, 1) := by decide +kernel
theorem dX10_found_23 : decode cX10_found 23 = .ok (.iadd, 1) := by decide +kernel
theorem dX10_found_24 : decode cX10_found 24 = .ok (.iastore, 1) := by decide +kernel
theorem dX10_found_25 : decode cX10_found 25 = .ok (.bipush (-3), 2) := by decide +kernel
theorem dX10_found_27 : decode cX10_found 27 = .ok (.ireturn, 1) := by decide +kernel
theorem dX10_tell_0 : decode cX10_tell 0 = .ok (.lload_n 1, 1) := by decide +kernel
theorem dX10_tell_1 : decode cX10_tell 1 = .ok (.lload_n 3, 1) := by decide +kernel
theorem dX10_tell_2 : decode cX10_tell 2 = .ok (.invokestatic 354, 3) := by decide +kernel
theorem dX10_tell_5 : decode cX10_tell 5 = .ok (.lstore 5, 2) := by decide +kernel
theorem dX10_tell_7 : decode cX10_tell 7 = .ok (.lload 5, 2) := by decide +kernel
theorem dX10_tell_9 : decode cX10_tell 9 = .ok (.lconst 0, 1) := by decide +kernel
theorem dX10_tell_10 : decode cX10_tell 10 = .ok (.lcmp, 1) := by decide +kernel
theorem dX10_tell_11 : decode cX10_tell 11 = .ok (.ifCond .gt 4, 3) := by decide +kernel
theorem dX10_tell_14 : decode cX10_tell 14 = .ok (.return_, 1) := by decide +kernel
theorem dX10_tell_15 : decode cX10_tell 15 = .ok (.aload_n 0, 1) := by decide +kernel
theorem dX10_tell_16 : decode cX10_tell 16 = .ok (.lload_n 1, 1) := by decide +kernel
theorem dX10_tell_17 : decode cX10_tell 17 = .ok (.lload 5, 2) := by decide +kernel
theorem dX10_tell_19 : decode cX10_tell 19 = .ok (.ldiv, 1) := by decide +kernel
theorem dX10_tell_20 : decode cX10_tell 20 = .ok (.putfield 95, 3) := by decide +kernel
theorem dX10_tell_23 : decode cX10_tell 23 = .ok (.aload_n 0, 1) := by decide +kernel
theorem dX10_tell_24 : decode cX10_tell 24 = .ok (.lload_n 3, 1) := by decide +kernel
theorem dX10_tell_25 : decode cX10_tell 25 = .ok (.lload 5, 2) := by decide +kernel
theorem dX10_tell_27 : decode cX10_tell 27 = .ok (.ldiv, 1) := by decide +kernel
theorem dX10_tell_28 : decode cX10_tell 28 = .ok (.putfield 99, 3) := by decide +kernel
theorem dX10_tell_31 : decode cX10_tell 31 = .ok (.return_, 1) := by decide +kernel
theorem dX10_commonDivisor_0 : decode cX10_commonDivisor 0 = .ok (.lload_n 0, 1) := by decide +kernel
theorem dX10_commonDivisor_1 : decode cX10_commonDivisor 1 = .ok (.lstore 4, 2) := by decide +kernel
theorem dX10_commonDivisor_3 : decode cX10_commonDivisor 3 = .ok (.lload_n 2, 1) := by decide +kernel
theorem dX10_commonDivisor_4 : decode cX10_commonDivisor 4 = .ok (.lstore 6, 2) := by decide +kernel
theorem dX10_commonDivisor_6 : decode cX10_commonDivisor 6 = .ok (.iconst 0, 1) := by decide +kernel
theorem dX10_commonDivisor_7 : decode cX10_commonDivisor 7 = .ok (.istore 8, 2) := by decide +kernel
theorem dX10_commonDivisor_9 : decode cX10_commonDivisor 9 = .ok (.iload 8, 2) := by decide +kernel
theorem dX10_commonDivisor_11 : decode cX10_commonDivisor 11 = .ok (.bipush 100, 2) := by decide +kernel
theorem dX10_commonDivisor_13 : decode cX10_commonDivisor 13 = .ok (.if_icmp .ge 31, 3) := by decide +kernel
theorem dX10_commonDivisor_16 : decode cX10_commonDivisor 16 = .ok (.lload 6, 2) := by decide +kernel
theorem dX10_commonDivisor_18 : decode cX10_commonDivisor 18 = .ok (.lconst 0, 1) := by decide +kernel
theorem dX10_commonDivisor_19 : decode cX10_commonDivisor 19 = .ok (.lcmp, 1) := by decide +kernel
theorem dX10_commonDivisor_20 : decode cX10_commonDivisor 20 = .ok (.ifCond .eq 24, 3) := by decide +kernel
theorem dX10_commonDivisor_23 : decode cX10_commonDivisor 23 = .ok (.lload 4, 2) := by decide +kernel
theorem dX10_commonDivisor_25 : decode cX10_commonDivisor 25 = .ok (.lload 6, 2) := by decide +kernel
theorem dX10_commonDivisor_27 : decode cX10_commonDivisor 27 = .ok (.lrem, 1) := by decide +kernel
theorem dX10_commonDivisor_28 : decode cX10_commonDivisor 28 = .ok (.lstore 9, 2) := by decide +kernel
theorem dX10_commonDivisor_30 : decode cX10_commonDivisor 30 = .ok (.lload 6, 2) := by decide +kernel
theorem dX10_commonDivisor_32 : decode cX10_commonDivisor 32 = .ok (.lstore 4, 2) := by decide +kernel
theorem dX10_commonDivisor_34 : decode cX10_commonDivisor 34 = .ok (.lload 9, 2) := by decide +kernel
theorem dX10_commonDivisor_36 : decode cX10_commonDivisor 36 = .ok (.lstore 6, 2) := by decide +kernel
theorem dX10_commonDivisor_38 : decode cX10_commonDivisor 38 = .ok (.iinc 8 1, 3) := by decide +kernel
theorem dX10_commonDivisor_41 : decode cX10_commonDivisor 41 = .ok (.goto (-32), 3) := by decide +kernel
theorem dX10_commonDivisor_44 : decode cX10_commonDivisor 44 = .ok (.lload 4, 2) := by decide +kernel
theorem dX10_commonDivisor_46 : decode cX10_commonDivisor 46 = .ok (.lreturn, 1) := by decide +kernel
theorem dX10_factOf_0 : decode cX10_factOf 0 = .ok (.aload_n 0, 1) := by decide +kernel
theorem dX10_factOf_1 : decode cX10_factOf 1 = .ok (.getfield 35, 3) := by decide +kernel
theorem dX10_factOf_4 : decode cX10_factOf 4 = .ok (.getfield 201, 3) := by decide +kernel
theorem dX10_factOf_7 : decode cX10_factOf 7 = .ok (.astore_n 3, 1) := by decide +kernel
theorem dX10_factOf_8 : decode cX10_factOf 8 = .ok (.iload_n 2, 1) := by decide +kernel
theorem dX10_factOf_9 : decode cX10_factOf 9 = .ok (.tableswitch 79 0 4 #[35, 44, 50, 56, 65], 35) := by decide +kernel
theorem dX10_factOf_44 : decode cX10_factOf 44 = .ok (.aload_n 0, 1) := by decide +kernel
theorem dX10_factOf_45 : decode cX10_factOf 45 = .ok (.getfield 26, 3) := by decide +kernel
theorem dX10_factOf_48 : decode cX10_factOf 48 = .ok (.iload_n 1, 1) := by decide +kernel
theorem dX10_factOf_49 : decode cX10_factOf 49 = .ok (.invokevirtual 189, 3) := by decide +kernel
theorem dX10_factOf_52 : decode cX10_factOf 52 = .ok (.ireturn, 1) := by decide +kernel
theorem dX10_factOf_53 : decode cX10_factOf 53 = .ok (.aload_n 3, 1) := by decide +kernel
theorem dX10_factOf_54 : decode cX10_factOf 54 = .ok (.iload_n 1, 1) := by decide +kernel
theorem dX10_factOf_55 : decode cX10_factOf 55 = .ok (.invokevirtual 204, 3) := by decide +kernel
theorem dX10_factOf_58 : decode cX10_factOf 58 = .ok (.ireturn, 1) := by decide +kernel
theorem dX10_factOf_59 : decode cX10_factOf 59 = .ok (.aload_n 3, 1) := by decide +kernel
theorem dX10_factOf_60 : decode cX10_factOf 60 = .ok (.iload_n 1, 1) := by decide +kernel
theorem dX10_factOf_61 : decode cX10_factOf 61 = .ok (.invokevirtual 358, 3) := by decide +kernel
theorem dX10_factOf_64 : decode cX10_factOf 64 = .ok (.ireturn, 1) := by decide +kernel
theorem dX10_factOf_65 : decode cX10_factOf 65 = .ok (.aload_n 0, 1) := by decide +kernel
theorem dX10_factOf_66 : decode cX10_factOf 66 = .ok (.getfield 26, 3) := by decide +kernel
theorem dX10_factOf_69 : decode cX10_factOf 69 = .ok (.iload_n 1, 1) := by decide +kernel
theorem dX10_factOf_70 : decode cX10_factOf 70 = .ok (.invokevirtual 361, 3) := by decide +kernel
theorem dX10_factOf_73 : decode cX10_factOf 73 = .ok (.ireturn, 1) := by decide +kernel
theorem dX10_factOf_74 : decode cX10_factOf 74 = .ok (.aload_n 3, 1) := by decide +kernel
theorem dX10_factOf_75 : decode cX10_factOf 75 = .ok (.iload_n 1, 1) := by decide +kernel
theorem dX10_factOf_76 : decode cX10_factOf 76 = .ok (.invokevirtual 364, 3) := by decide +kernel
theorem dX10_factOf_79 : decode cX10_factOf 79 = .ok (.ifCond .eq 7, 3) := by decide +kernel
theorem dX10_factOf_82 : decode cX10_factOf 82 = .ok (.iconst 1, 1) := by decide +kernel
theorem dX10_factOf_83 : decode cX10_factOf 83 = .ok (.goto 4, 3) := by decide +kernel
theorem dX10_factOf_86 : decode cX10_factOf 86 = .ok (.iconst 0, 1) := by decide +kernel
theorem dX10_factOf_87 : decode cX10_factOf 87 = .ok (.ireturn, 1) := by decide +kernel
theorem dX10_factOf_88 : decode cX10_factOf 88 = .ok (.aload_n 3, 1) := by decide +kernel
theorem dX10_factOf_89 : decode cX10_factOf 89 = .ok (.iload_n 1, 1) := by decide +kernel
theorem dX10_factOf_90 : decode cX10_factOf 90 = .ok (.invokevirtual 367, 3) := by decide +kernel
theorem dX10_factOf_93 : decode cX10_factOf 93 = .ok (.ifCond .eq 7, 3) := by decide +kernel
theorem dX10_factOf_96 : decode cX10_factOf 96 = .ok (.iconst 1, 1) := by decide +kernel
theorem dX10_factOf_97 : decode cX10_factOf 97 = .ok (.goto 4, 3) := by decide +kernel
theorem dX10_factOf_100 : decode cX10_factOf 100 = .ok (.iconst 0, 1) := by decide +kernel
theorem dX10_factOf_101 : decode cX10_factOf 101 = .ok (.ireturn, 1) := by decide +kernel
theorem dX10_markOf_0 : decode cX10_markOf 0 = .ok (.aload_n 0, 1) := by decide +kernel
theorem dX10_markOf_1 : decode cX10_markOf 1 = .ok (.getfield 35, 3) := by decide +kernel
theorem dX10_markOf_4 : decode cX10_markOf 4 = .ok (.getfield 201, 3) := by decide +kernel
theorem dX10_markOf_7 : decode cX10_markOf 7 = .ok (.astore_n 3, 1) := by decide +kernel
theorem dX10_markOf_8 : decode cX10_markOf 8 = .ok (.iload_n 2, 1) := by decide +kernel
theorem dX10_markOf_9 : decode cX10_markOf 9 = .ok (.tableswitch 74 1 4 #[31, 39, 53, 63], 31) := by decide +kernel
theorem dX10_markOf_40 : decode cX10_markOf 40 = .ok (.aload_n 3, 1) := by decide +kernel
theorem dX10_markOf_41 : decode cX10_markOf 41 = .ok (.iload_n 1, 1) := by decide +kernel
theorem dX10_markOf_42 : decode cX10_markOf 42 = .ok (.bipush 8, 2) := by decide +kernel
theorem dX10_markOf_44 : decode cX10_markOf 44 = .ok (.invokevirtual 321, 3) := by decide +kernel
theorem dX10_markOf_47 : decode cX10_markOf 47 = .ok (.ireturn, 1) := by decide +kernel
theorem dX10_markOf_48 : decode cX10_markOf 48 = .ok (.iconst 3, 1) := by decide +kernel
theorem dX10_markOf_49 : decode cX10_markOf 49 = .ok (.aload_n 0, 1) := by decide +kernel
theorem dX10_markOf_50 : decode cX10_markOf 50 = .ok (.getfield 26, 3) := by decide +kernel
theorem dX10_markOf_53 : decode cX10_markOf 53 = .ok (.iload_n 1, 1) := by decide +kernel
theorem dX10_markOf_54 : decode cX10_markOf 54 = .ok (.invokevirtual 189, 3) := by decide +kernel
theorem dX10_markOf_57 : decode cX10_markOf 57 = .ok (.invokestatic 370, 3) := by decide +kernel
theorem dX10_markOf_60 : decode cX10_markOf 60 = .ok (.isub, 1) := by decide +kernel
theorem dX10_markOf_61 : decode cX10_markOf 61 = .ok (.ireturn, 1) := by decide +kernel
theorem dX10_markOf_62 : decode cX10_markOf 62 = .ok (.aload_n 3, 1) := by decide +kernel
theorem dX10_markOf_63 : decode cX10_markOf 63 = .ok (.iload_n 1, 1) := by decide +kernel
theorem dX10_markOf_64 : decode cX10_markOf 64 = .ok (.invokevirtual 204, 3) := by decide +kernel
theorem dX10_markOf_67 : decode cX10_markOf 67 = .ok (.iconst 1, 1) := by decide +kernel
theorem dX10_markOf_68 : decode cX10_markOf 68 = .ok (.iadd, 1) := by decide +kernel
theorem dX10_markOf_69 : decode cX10_markOf 69 = .ok (.iconst 2, 1) := by decide +kernel
theorem dX10_markOf_70 : decode cX10_markOf 70 = .ok (.idiv, 1) := by decide +kernel
theorem dX10_markOf_71 : decode cX10_markOf 71 = .ok (.ireturn, 1) := by decide +kernel
theorem dX10_markOf_72 : decode cX10_markOf 72 = .ok (.iconst 4, 1) := by decide +kernel
theorem dX10_markOf_73 : decode cX10_markOf 73 = .ok (.aload_n 3, 1) := by decide +kernel
theorem dX10_markOf_74 : decode cX10_markOf 74 = .ok (.getfield 373, 3) := by decide +kernel
theorem dX10_markOf_77 : decode cX10_markOf 77 = .ok (.iconst 4, 1) := by decide +kernel
theorem dX10_markOf_78 : decode cX10_markOf 78 = .ok (.irem, 1) := by decide +kernel
theorem dX10_markOf_79 : decode cX10_markOf 79 = .ok (.isub, 1) := by decide +kernel
theorem dX10_markOf_80 : decode cX10_markOf 80 = .ok (.iconst 4, 1) := by decide +kernel
theorem dX10_markOf_81 : decode cX10_markOf 81 = .ok (.irem, 1) := by decide +kernel
theorem dX10_markOf_82 : decode cX10_markOf 82 = .ok (.ireturn, 1) := by decide +kernel
theorem dX10_markOf_83 : decode cX10_markOf 83 = .ok (.aload_n 3, 1) := by decide +kernel
theorem dX10_markOf_84 : decode cX10_markOf 84 = .ok (.iload_n 1, 1) := by decide +kernel
theorem dX10_markOf_85 : decode cX10_markOf 85 = .ok (.invokevirtual 376, 3) := by decide +kernel
theorem dX10_markOf_88 : decode cX10_markOf 88 = .ok (.ireturn, 1) := by decide +kernel
theorem dX10_countOf_0 : decode cX10_countOf 0 = .ok (.iload_n 1, 1) := by decide +kernel
theorem dX10_countOf_1 : decode cX10_countOf 1 = .ok (.tableswitch 123 0 7 #[47, 55, 66, 85, 93, 104, 113, 118], 47) := by decide +kernel
theorem dX10_countOf_48 : decode cX10_countOf 48 = .ok (.aload_n 0, 1) := by decide +kernel
theorem dX10_countOf_49 : decode cX10_countOf 49 = .ok (.getfield 26, 3) := by decide +kernel
theorem dX10_countOf_52 : decode cX10_countOf 52 = .ok (.getfield 173, 3) := by decide +kernel
theorem dX10_countOf_55 : decode cX10_countOf 55 = .ok (.ireturn, 1) := by decide +kernel
theorem dX10_countOf_56 : decode cX10_countOf 56 = .ok (.aload_n 0, 1) := by decide +kernel
theorem dX10_countOf_57 : decode cX10_countOf 57 = .ok (.getfield 35, 3) := by decide +kernel
theorem dX10_countOf_60 : decode cX10_countOf 60 = .ok (.getfield 201, 3) := by decide +kernel
theorem dX10_countOf_63 : decode cX10_countOf 63 = .ok (.getfield 373, 3) := by decide +kernel
theorem dX10_countOf_66 : decode cX10_countOf 66 = .ok (.ireturn, 1) := by decide +kernel
theorem dX10_countOf_67 : decode cX10_countOf 67 = .ok (.aload_n 0, 1) := by decide +kernel
theorem dX10_countOf_68 : decode cX10_countOf 68 = .ok (.getfield 35, 3) := by decide +kernel
theorem dX10_countOf_71 : decode cX10_countOf 71 = .ok (.getfield 201, 3) := by decide +kernel
theorem dX10_countOf_74 : decode cX10_countOf 74 = .ok (.getfield 379, 3) := by decide +kernel
theorem dX10_countOf_77 : decode cX10_countOf 77 = .ok (.ifCond .eq 7, 3) := by decide +kernel
theorem dX10_countOf_80 : decode cX10_countOf 80 = .ok (.iconst 1, 1) := by decide +kernel
theorem dX10_countOf_81 : decode cX10_countOf 81 = .ok (.goto 4, 3) := by decide +kernel
theorem dX10_countOf_84 : decode cX10_countOf 84 = .ok (.iconst 0, 1) := by decide +kernel
theorem dX10_countOf_85 : decode cX10_countOf 85 = .ok (.ireturn, 1) := by decide +kernel
theorem dX10_countOf_86 : decode cX10_countOf 86 = .ok (.aload_n 0, 1) := by decide +kernel
theorem dX10_countOf_87 : decode cX10_countOf 87 = .ok (.getfield 35, 3) := by decide +kernel
theorem dX10_countOf_90 : decode cX10_countOf 90 = .ok (.getfield 198, 3) := by decide +kernel
theorem dX10_countOf_93 : decode cX10_countOf 93 = .ok (.ireturn, 1) := by decide +kernel
theorem dX10_countOf_94 : decode cX10_countOf 94 = .ok (.aload_n 0, 1) := by decide +kernel
theorem dX10_countOf_95 : decode cX10_countOf 95 = .ok (.getfield 35, 3) := by decide +kernel
theorem dX10_countOf_98 : decode cX10_countOf 98 = .ok (.getfield 201, 3) := by decide +kernel
theorem dX10_countOf_101 : decode cX10_countOf 101 = .ok (.invokevirtual 302, 3) := by decide +kernel
theorem dX10_countOf_104 : decode cX10_countOf 104 = .ok (.ireturn, 1) := by decide +kernel
theorem dX10_countOf_105 : decode cX10_countOf 105 = .ok (.aload_n 0, 1) := by decide +kernel
theorem dX10_countOf_106 : decode cX10_countOf 106 = .ok (.getfield 26, 3) := by decide +kernel
theorem dX10_countOf_109 : decode cX10_countOf 109 = .ok (.iconst 1, 1) := by decide +kernel
theorem dX10_countOf_110 : decode cX10_countOf 110 = .ok (.invokevirtual 382, 3) := by decide +kernel
theorem dX10_countOf_113 : decode cX10_countOf 113 = .ok (.ireturn, 1) := by decide +kernel
theorem dX10_countOf_114 : decode cX10_countOf 114 = .ok (.aload_n 0, 1) := by decide +kernel
theorem dX10_countOf_115 : decode cX10_countOf 115 = .ok (.invokevirtual 383, 3) := by decide +kernel
theorem dX10_countOf_118 : decode cX10_countOf 118 = .ok (.ireturn, 1) := by decide +kernel
theorem dX10_countOf_119 : decode cX10_countOf 119 = .ok (.aload_n 0, 1) := by decide +kernel
theorem dX10_countOf_120 : decode cX10_countOf 120 = .ok (.invokevirtual 386, 3) := by decide +kernel
theorem dX10_countOf_123 : decode cX10_countOf 123 = .ok (.ireturn, 1) := by decide +kernel
theorem dX10_countOf_124 : decode cX10_countOf 124 = .ok (.aload_n 0, 1) := by decide +kernel
theorem dX10_countOf_125 : decode cX10_countOf 125 = .ok (.invokevirtual 389, 3) := by decide +kernel
theorem dX10_countOf_128 : decode cX10_countOf 128 = .ok (.ireturn, 1) := by decide +kernel
theorem dX10_rowsThere_0 : decode cX10_rowsThere 0 = .ok (.iconst 0, 1) := by decide +kernel
theorem dX10_rowsThere_1 : decode cX10_rowsThere 1 = .ok (.istore_n 1, 1) := by decide +kernel
theorem dX10_rowsThere_2 : decode cX10_rowsThere 2 = .ok (.iconst 0, 1) := by decide +kernel
theorem dX10_rowsThere_3 : decode cX10_rowsThere 3 = .ok (.istore_n 2, 1) := by decide +kernel
theorem dX10_rowsThere_4 : decode cX10_rowsThere 4 = .ok (.iload_n 2, 1) := by decide +kernel
theorem dX10_rowsThere_5 : decode cX10_rowsThere 5 = .ok (.bipush 6, 2) := by decide +kernel
theorem dX10_rowsThere_7 : decode cX10_rowsThere 7 = .ok (.if_icmp .ge 29, 3) := by decide +kernel
theorem dX10_rowsThere_10 : decode cX10_rowsThere 10 = .ok (.iload_n 1, 1) := by decide +kernel
theorem dX10_rowsThere_11 : decode cX10_rowsThere 11 = .ok (.aload_n 0, 1) := by decide +kernel
theorem dX10_rowsThere_12 : decode cX10_rowsThere 12 = .ok (.getfield 11, 3) := by decide +kernel
theorem dX10_rowsThere_15 : decode cX10_rowsThere 15 = .ok (.iload_n 2, 1) := by decide +kernel
theorem dX10_rowsThere_16 : decode cX10_rowsThere 16 = .ok (.aaload, 1) := by decide +kernel
theorem dX10_rowsThere_17 : decode cX10_rowsThere 17 = .ok (.invokevirtual 124, 3) := by decide +kernel
theorem dX10_rowsThere_20 : decode cX10_rowsThere 20 = .ok (.ifCond .eq 7, 3) := by decide +kernel
theorem dX10_rowsThere_23 : decode cX10_rowsThere 23 = .ok (.iconst 1, 1) := by decide +kernel
theorem dX10_rowsThere_24 : decode cX10_rowsThere 24 = .ok (.goto 4, 3) := by decide +kernel
theorem dX10_rowsThere_27 : decode cX10_rowsThere 27 = .ok (.iconst 0, 1) := by decide +kernel
theorem dX10_rowsThere_28 : decode cX10_rowsThere 28 = .ok (.iadd, 1) := by decide +kernel
theorem dX10_rowsThere_29 : decode cX10_rowsThere 29 = .ok (.istore_n 1, 1) := by decide +kernel
theorem dX10_rowsThere_30 : decode cX10_rowsThere 30 = .ok (.iinc 2 1, 3) := by decide +kernel
theorem dX10_rowsThere_33 : decode cX10_rowsThere 33 = .ok (.goto (-29), 3) := by decide +kernel
theorem dX10_rowsThere_36 : decode cX10_rowsThere 36 = .ok (.iload_n 1, 1) := by decide +kernel
theorem dX10_rowsThere_37 : decode cX10_rowsThere 37 = .ok (.ireturn, 1) := by decide +kernel
theorem dX10_textsThere_0 : decode cX10_textsThere 0 = .ok (.iconst 0, 1) := by decide +kernel
theorem dX10_textsThere_1 : decode cX10_textsThere 1 = .ok (.istore_n 1, 1) := by decide +kernel
theorem dX10_textsThere_2 : decode cX10_textsThere 2 = .ok (.iconst 0, 1) := by decide +kernel
theorem dX10_textsThere_3 : decode cX10_textsThere 3 = .ok (.istore_n 2, 1) := by decide +kernel
theorem dX10_textsThere_4 : decode cX10_textsThere 4 = .ok (.iload_n 2, 1) := by decide +kernel
theorem dX10_textsThere_5 : decode cX10_textsThere 5 = .ok (.iconst 4, 1) := by decide +kernel
theorem dX10_textsThere_6 : decode cX10_textsThere 6 = .ok (.if_icmp .ge 29, 3) := by decide +kernel
theorem dX10_textsThere_9 : decode cX10_textsThere 9 = .ok (.iload_n 1, 1) := by decide +kernel
theorem dX10_textsThere_10 : decode cX10_textsThere 10 = .ok (.aload_n 0, 1) := by decide +kernel
theorem dX10_textsThere_11 : decode cX10_textsThere 11 = .ok (.getfield 18, 3) := by decide +kernel
theorem dX10_textsThere_14 : decode cX10_textsThere 14 = .ok (.iload_n 2, 1) := by decide +kernel
theorem dX10_textsThere_15 : decode cX10_textsThere 15 = .ok (.aaload, 1) := by decide +kernel
theorem dX10_textsThere_16 : decode cX10_textsThere 16 = .ok (.invokevirtual 155, 3) := by decide +kernel
theorem dX10_textsThere_19 : decode cX10_textsThere 19 = .ok (.ifCond .eq 7, 3) := by decide +kernel
theorem dX10_textsThere_22 : decode cX10_textsThere 22 = .ok (.iconst 1, 1) := by decide +kernel
theorem dX10_textsThere_23 : decode cX10_textsThere 23 = .ok (.goto 4, 3) := by decide +kernel
theorem dX10_textsThere_26 : decode cX10_textsThere 26 = .ok (.iconst 0, 1) := by decide +kernel
theorem dX10_textsThere_27 : decode cX10_textsThere 27 = .ok (.iadd, 1) := by decide +kernel
theorem dX10_textsThere_28 : decode cX10_textsThere 28 = .ok (.istore_n 1, 1) := by decide +kernel
theorem dX10_textsThere_29 : decode cX10_textsThere 29 = .ok (.iinc 2 1, 3) := by decide +kernel
theorem dX10_textsThere_32 : decode cX10_textsThere 32 = .ok (.goto (-28), 3) := by decide +kernel
theorem dX10_textsThere_35 : decode cX10_textsThere 35 = .ok (.iload_n 1, 1) := by decide +kernel
theorem dX10_textsThere_36 : decode cX10_textsThere 36 = .ok (.ireturn, 1) := by decide +kernel
theorem dX10_keptThere_0 : decode cX10_keptThere 0 = .ok (.iconst 0, 1) := by decide +kernel
theorem dX10_keptThere_1 : decode cX10_keptThere 1 = .ok (.istore_n 1, 1) := by decide +kernel
theorem dX10_keptThere_2 : decode cX10_keptThere 2 = .ok (.iconst 0, 1) := by decide +kernel
theorem dX10_keptThere_3 : decode cX10_keptThere 3 = .ok (.istore_n 2, 1) := by decide +kernel
theorem dX10_keptThere_4 : decode cX10_keptThere 4 = .ok (.iload_n 2, 1) := by decide +kernel
theorem dX10_keptThere_5 : decode cX10_keptThere 5 = .ok (.iconst 3, 1) := by decide +kernel
theorem dX10_keptThere_6 : decode cX10_keptThere 6 = .ok (.if_icmp .ge 29, 3) := by decide +kernel
theorem dX10_keptThere_9 : decode cX10_keptThere 9 = .ok (.iload_n 1, 1) := by decide +kernel
theorem dX10_keptThere_10 : decode cX10_keptThere 10 = .ok (.aload_n 0, 1) := by decide +kernel
theorem dX10_keptThere_11 : decode cX10_keptThere 11 = .ok (.getfield 39, 3) := by decide +kernel
theorem dX10_keptThere_14 : decode cX10_keptThere 14 = .ok (.iload_n 2, 1) := by decide +kernel
theorem dX10_keptThere_15 : decode cX10_keptThere 15 = .ok (.aaload, 1) := by decide +kernel
theorem dX10_keptThere_16 : decode cX10_keptThere 16 = .ok (.getfield 236, 3) := by decide +kernel
theorem dX10_keptThere_19 : decode cX10_keptThere 19 = .ok (.ifCond .eq 7, 3) := by decide +kernel
theorem dX10_keptThere_22 : decode cX10_keptThere 22 = .ok (.iconst 1, 1) := by decide +kernel
theorem dX10_keptThere_23 : decode cX10_keptThere 23 = .ok (.goto 4, 3) := by decide +kernel
theorem dX10_keptThere_26 : decode cX10_keptThere 26 = .ok (.iconst 0, 1) := by decide +kernel
theorem dX10_keptThere_27 : decode cX10_keptThere 27 = .ok (.iadd, 1) := by decide +kernel
theorem dX10_keptThere_28 : decode cX10_keptThere 28 = .ok (.istore_n 1, 1) := by decide +kernel
theorem dX10_keptThere_29 : decode cX10_keptThere 29 = .ok (.iinc 2 1, 3) := by decide +kernel
theorem dX10_keptThere_32 : decode cX10_keptThere 32 = .ok (.goto (-28), 3) := by decide +kernel
theorem dX10_keptThere_35 : decode cX10_keptThere 35 = .ok (.iload_n 1, 1) := by decide +kernel
theorem dX10_keptThere_36 : decode cX10_keptThere 36 = .ok (.ireturn, 1) := by decide +kernel
theorem dX10_planInto_0 : decode cX10_planInto 0 = .ok (.aload_n 0, 1) := by decide +kernel
theorem dX10_planInto_1 : decode cX10_planInto 1 = .ok (.getfield 66, 3) := by decide +kernel
theorem dX10_planInto_4 : decode cX10_planInto 4 = .ok (.invokevirtual 392, 3) := by decide +kernel
theorem dX10_planInto_7 : decode cX10_planInto 7 = .ok (.ifCond .ne 6, 3) := by decide +kernel
theorem dX10_planInto_10 : decode cX10_planInto 10 = .ok (.bipush (-9), 2) := by decide +kernel
theorem dX10_planInto_12 : decode cX10_planInto 12 = .ok (.ireturn, 1) := by decide +kernel
theorem dX10_planInto_13 : decode cX10_planInto 13 = .ok (.aload_n 1, 1) := by decide +kernel
theorem dX10_planInto_14 : decode cX10_planInto 14 = .ok (.aload_n 0, 1) := by decide +kernel
theorem dX10_planInto_15 : decode cX10_planInto 15 = .ok (.getfield 66, 3) := by decide +kernel
theorem dX10_planInto_18 : decode cX10_planInto 18 = .ok (.getfield 395, 3) := by decide +kernel
theorem dX10_planInto_21 : decode cX10_planInto 21 = .ok (.invokevirtual 110, 3) := by decide +kernel
theorem dX10_planInto_24 : decode cX10_planInto 24 = .ok (.iconst 0, 1) := by decide +kernel
theorem dX10_planInto_25 : decode cX10_planInto 25 = .ok (.istore_n 2, 1) := by decide +kernel
theorem dX10_planInto_26 : decode cX10_planInto 26 = .ok (.iconst 0, 1) := by decide +kernel
theorem dX10_planInto_27 : decode cX10_planInto 27 = .ok (.istore_n 3, 1) := by decide +kernel
theorem dX10_planInto_28 : decode cX10_planInto 28 = .ok (.iload_n 3, 1) := by decide +kernel
theorem dX10_planInto_29 : decode cX10_planInto 29 = .ok (.aload_n 0, 1) := by decide +kernel
theorem dX10_planInto_30 : decode cX10_planInto 30 = .ok (.getfield 66, 3) := by decide +kernel
theorem dX10_planInto_33 : decode cX10_planInto 33 = .ok (.getfield 395, 3) := by decide +kernel
theorem dX10_planInto_36 : decode cX10_planInto 36 = .ok (.if_icmp .ge 43, 3) := by decide +kernel
theorem dX10_planInto_39 : decode cX10_planInto 39 = .ok (.aload_n 1, 1) := by decide +kernel
theorem dX10_planInto_40 : decode cX10_planInto 40 = .ok (.iload_n 3, 1) := by decide +kernel
theorem dX10_planInto_41 : decode cX10_planInto 41 = .ok (.aload_n 0, 1) := by decide +kernel
theorem dX10_planInto_42 : decode cX10_planInto 42 = .ok (.getfield 66, 3) := by decide +kernel
theorem dX10_planInto_45 : decode cX10_planInto 45 = .ok (.iload_n 3, 1) := by decide +kernel
theorem dX10_planInto_46 : decode cX10_planInto 46 = .ok (.invokevirtual 398, 3) := by decide +kernel
theorem dX10_planInto_49 : decode cX10_planInto 49 = .ok (.invokevirtual 120, 3) := by decide +kernel
theorem dX10_planInto_52 : decode cX10_planInto 52 = .ok (.iload_n 2, 1) := by decide +kernel
theorem dX10_planInto_53 : decode cX10_planInto 53 = .ok (.aload_n 0, 1) := by decide +kernel
theorem dX10_planInto_54 : decode cX10_planInto 54 = .ok (.getfield 66, 3) := by decide +kernel
theorem dX10_planInto_57 : decode cX10_planInto 57 = .ok (.iload_n 3, 1) := by decide +kernel
theorem dX10_planInto_58 : decode cX10_planInto 58 = .ok (.invokevirtual 398, 3) := by decide +kernel
theorem dX10_planInto_61 : decode cX10_planInto 61 = .ok (.bipush 36, 2) := by decide +kernel
theorem dX10_planInto_63 : decode cX10_planInto 63 = .ok (.if_icmp .ne 7, 3) := by decide +kernel
theorem dX10_planInto_66 : decode cX10_planInto 66 = .ok (.iconst 0, 1) := by decide +kernel
theorem dX10_planInto_67 : decode cX10_planInto 67 = .ok (.goto 4, 3) := by decide +kernel
theorem dX10_planInto_70 : decode cX10_planInto 70 = .ok (.iconst 1, 1) := by decide +kernel
theorem dX10_planInto_71 : decode cX10_planInto 71 = .ok (.iadd, 1) := by decide +kernel
theorem dX10_planInto_72 : decode cX10_planInto 72 = .ok (.istore_n 2, 1) := by decide +kernel
theorem dX10_planInto_73 : decode cX10_planInto 73 = .ok (.iinc 3 1, 3) := by decide +kernel
theorem dX10_planInto_76 : decode cX10_planInto 76 = .ok (.goto (-48), 3) := by decide +kernel
theorem dX10_planInto_79 : decode cX10_planInto 79 = .ok (.iload_n 2, 1) := by decide +kernel
theorem dX10_planInto_80 : decode cX10_planInto 80 = .ok (.ireturn, 1) := by decide +kernel
theorem dX10_carryByLot_0 : decode cX10_carryByLot 0 = .ok (.aload_n 0, 1) := by decide +kernel
theorem dX10_carryByLot_1 : decode cX10_carryByLot 1 = .ok (.getfield 26, 3) := by decide +kernel
theorem dX10_carryByLot_4 : decode cX10_carryByLot 4 = .ok (.invokevirtual 181, 3) := by decide +kernel
theorem dX10_carryByLot_7 : decode cX10_carryByLot 7 = .ok (.ifCond .eq 4, 3) := by decide +kernel
theorem dX10_carryByLot_10 : decode cX10_carryByLot 10 = .ok (.return_, 1) := by decide +kernel
theorem dX10_carryByLot_11 : decode cX10_carryByLot 11 = .ok (.iload_n 1, 1) := by decide +kernel
theorem dX10_carryByLot_12 : decode cX10_carryByLot 12 = .ok (.aload_n 0, 1) := by decide +kernel
theorem dX10_carryByLot_13 : decode cX10_carryByLot 13 = .ok (.getfield 26, 3) := by decide +kernel
theorem dX10_carryByLot_16 : decode cX10_carryByLot 16 = .ok (.getfield 173, 3) := by decide +kernel
theorem dX10_carryByLot_19 : decode cX10_carryByLot 19 = .ok (.irem, 1) := by decide +kernel
theorem dX10_carryByLot_20 : decode cX10_carryByLot 20 = .ok (.istore_n 2, 1) := by decide +kernel
theorem dX10_carryByLot_21 : decode cX10_carryByLot 21 = .ok (.iload_n 1, 1) := by decide +kernel
theorem dX10_carryByLot_22 : decode cX10_carryByLot 22 = .ok (.bipush 16, 2) := by decide +kernel
theorem dX10_carryByLot_24 : decode cX10_carryByLot 24 = .ok (.idiv, 1) := by decide +kernel
theorem dX10_carryByLot_25 : decode cX10_carryByLot 25 = .ok (.aload_n 0, 1) := by decide +kernel
theorem dX10_carryByLot_26 : decode cX10_carryByLot 26 = .ok (.getfield 26, 3) := by decide +kernel
theorem dX10_carryByLot_29 : decode cX10_carryByLot 29 = .ok (.getfield 173, 3) := by decide +kernel
theorem dX10_carryByLot_32 : decode cX10_carryByLot 32 = .ok (.irem, 1) := by decide +kernel
theorem dX10_carryByLot_33 : decode cX10_carryByLot 33 = .ok (.istore_n 3, 1) := by decide +kernel
theorem dX10_carryByLot_34 : decode cX10_carryByLot 34 = .ok (.aload_n 0, 1) := by decide +kernel
theorem dX10_carryByLot_35 : decode cX10_carryByLot 35 = .ok (.getfield 35, 3) := by decide +kernel
theorem dX10_carryByLot_38 : decode cX10_carryByLot 38 = .ok (.getfield 201, 3) := by decide +kernel
theorem dX10_carryByLot_41 : decode cX10_carryByLot 41 = .ok (.iload_n 2, 1) := by decide +kernel
theorem dX10_carryByLot_42 : decode cX10_carryByLot 42 = .ok (.iload_n 3, 1) := by decide +kernel
theorem dX10_carryByLot_43 : decode cX10_carryByLot 43 = .ok (.invokevirtual 219, 3) := by decide +kernel
theorem dX10_carryByLot_46 : decode cX10_carryByLot 46 = .ok (.ifCond .eq 16, 3) := by decide +kernel
theorem dX10_carryByLot_49 : decode cX10_carryByLot 49 = .ok (.aload_n 0, 1) := by decide +kernel
theorem dX10_carryByLot_50 : decode cX10_carryByLot 50 = .ok (.getfield 35, 3) := by decide +kernel
theorem dX10_carryByLot_53 : decode cX10_carryByLot 53 = .ok (.bipush 6, 2) := by decide +kernel
theorem dX10_carryByLot_55 : decode cX10_carryByLot 55 = .ok (.iload_n 2, 1) := by decide +kernel
theorem dX10_carryByLot_56 : decode cX10_carryByLot 56 = .ok (.imul, 1) := by decide +kernel
theorem dX10_carryByLot_57 : decode cX10_carryByLot 57 = .ok (.iload_n 3, 1) := by decide +kernel
theorem dX10_carryByLot_58 : decode cX10_carryByLot 58 = .ok (.iadd, 1) := by decide +kernel
theorem dX10_carryByLot_59 : decode cX10_carryByLot 59 = .ok (.invokevirtual 216, 3) := by decide +kernel
theorem dX10_carryByLot_62 : decode cX10_carryByLot 62 = .ok (.return_, 1) := by decide +kernel
end
section
theorem dX11_init_0 : decode cX11_init 0 = .ok (.aload_n 0, 1) := by decide +kernel
theorem dX11_init_1 : decode cX11_init 1 = .ok (.invokespecial 1, 3) := by decide +kernel
theorem dX11_init_4 : decode cX11_init 4 = .ok (.aload_n 0, 1) := by decide +kernel
theorem dX11_init_5 : decode cX11_init 5 = .ok (.bipush 6, 2) := by decide +kernel
theorem dX11_init_7 : decode cX11_init 7 = .ok (.newarray .int, 2) := by decide +kernel
theorem dX11_init_9 : decode cX11_init 9 = .ok (.putfield 7, 3) := by decide +kernel
theorem dX11_init_12 : decode cX11_init 12 = .ok (.aload_n 0, 1) := by decide +kernel
theorem dX11_init_13 : decode cX11_init 13 = .ok (.lconst 1, 1) := by decide +kernel
theorem dX11_init_14 : decode cX11_init 14 = .ok (.putfield 13, 3) := by decide +kernel
theorem dX11_init_17 : decode cX11_init 17 = .ok (.aload_n 0, 1) := by decide +kernel
theorem dX11_init_18 : decode cX11_init 18 = .ok (.bipush 6, 2) := by decide +kernel
theorem dX11_init_20 : decode cX11_init 20 = .ok (.newarray .int, 2) := by decide +kernel
theorem dX11_init_22 : decode cX11_init 22 = .ok (.putfield 17, 3) := by decide +kernel
theorem dX11_init_25 : decode cX11_init 25 = .ok (.aload_n 0, 1) := by decide +kernel
theorem dX11_init_26 : decode cX11_init 26 = .ok (.sipush 240, 3) := by decide +kernel
theorem dX11_init_29 : decode cX11_init 29 = .ok (.newarray .int, 2) := by decide +kernel
theorem dX11_init_31 : decode cX11_init 31 = .ok (.putfield 20, 3) := by decide +kernel
theorem dX11_init_34 : decode cX11_init 34 = .ok (.aload_n 0, 1) := by decide +kernel
theorem dX11_init_35 : decode cX11_init 35 = .ok (.bipush 40, 2) := by decide +kernel
theorem dX11_init_37 : decode cX11_init 37 = .ok (.newarray .int, 2) := by decide +kernel
theorem dX11_init_39 : decode cX11_init 39 = .ok (.putfield 23, 3) := by decide +kernel
theorem dX11_init_42 : decode cX11_init 42 = .ok (.aload_n 0, 1) := by decide +kernel
theorem dX11_init_43 : decode cX11_init 43 = .ok (.iconst 4, 1) := by decide +kernel
theorem dX11_init_44 : decode cX11_init 44 = .ok (.newarray .int, 2) := by decide +kernel
theorem dX11_init_46 : decode cX11_init 46 = .ok (.putfield 26, 3) := by decide +kernel
theorem dX11_init_49 : decode cX11_init 49 = .ok (.aload_n 0, 1) := by decide +kernel
theorem dX11_init_50 : decode cX11_init 50 = .ok (.sipush 240, 3) := by decide +kernel
theorem dX11_init_53 : decode cX11_init 53 = .ok (.newarray .byte, 2) := by decide +kernel
theorem dX11_init_55 : decode cX11_init 55 = .ok (.putfield 29, 3) := by decide +kernel
theorem dX11_init_58 : decode cX11_init 58 = .ok (.aload_n 0, 1) := by decide +kernel
theorem dX11_init_59 : decode cX11_init 59 = .ok (.bipush 6, 2) := by decide +kernel
theorem dX11_init_61 : decode cX11_init 61 = .ok (.newarray .int, 2) := by decide +kernel
theorem dX11_init_63 : decode cX11_init 63 = .ok (.putfield 33, 3) := by decide +kernel
theorem dX11_init_66 : decode cX11_init 66 = .ok (.aload_n 0, 1) := by decide +kernel
theorem dX11_init_67 : decode cX11_init 67 = .ok (.iconst 5, 1) := by decide +kernel
theorem dX11_init_68 : decode cX11_init 68 = .ok (.newarray .int, 2) := by decide +kernel
theorem dX11_init_70 : decode cX11_init 70 = .ok (.putfield 36, 3) := by decide +kernel
theorem dX11_init_73 : decode cX11_init 73 = .ok (.aload_n 0, 1) := by decide +kernel
theorem dX11_init_74 : decode cX11_init 74 = .ok (.iconst 5, 1) := by decide +kernel
theorem dX11_init_75 : decode cX11_init 75 = .ok (.newarray .int, 2) := by decide +kernel
theorem dX11_init_77 : decode cX11_init 77 = .ok (.putfield 39, 3) := by decide +kernel
theorem dX11_init_80 : decode cX11_init 80 = .ok (.aload_n 0, 1) := by decide +kernel
theorem dX11_init_81 : decode cX11_init 81 = .ok (.bipush 6, 2) := by decide +kernel
theorem dX11_init_83 : decode cX11_init 83 = .ok (.newarray .int, 2) := by decide +kernel
theorem dX11_init_85 : decode cX11_init 85 = .ok (.putfield 42, 3) := by decide +kernel
theorem dX11_init_88 : decode cX11_init 88 = .ok (.aload_n 0, 1) := by decide +kernel
theorem dX11_init_89 : decode cX11_init 89 = .ok (.bipush 20, 2) := by decide +kernel
theorem dX11_init_91 : decode cX11_init 91 = .ok (.newarray .int, 2) := by decide +kernel
theorem dX11_init_93 : decode cX11_init 93 = .ok (.putfield 45, 3) := by decide +kernel
theorem dX11_init_96 : decode cX11_init 96 = .ok (.aload_n 0, 1) := by decide +kernel
theorem dX11_init_97 : decode cX11_init 97 = .ok (.bipush 18, 2) := by decide +kernel
theorem dX11_init_99 : decode cX11_init 99 = .ok (.newarray .int, 2) := by decide +kernel
theorem dX11_init_101 : decode cX11_init 101 = .ok (.putfield 48, 3) := by decide +kernel
theorem dX11_init_104 : decode cX11_init 104 = .ok (.aload_n 0, 1) := by decide +kernel
theorem dX11_init_105 : decode cX11_init 105 = .ok (.sipush 216, 3) := by decide +kernel
theorem dX11_init_108 : decode cX11_init 108 = .ok (.newarray .int, 2) := by decide +kernel
theorem dX11_init_110 : decode cX11_init 110 = .ok (.putfield 51, 3) := by decide +kernel
theorem dX11_init_113 : decode cX11_init 113 = .ok (.aload_n 0, 1) := by decide +kernel
theorem dX11_init_114 : decode cX11_init 114 = .ok (.sipush 720, 3) := by decide +kernel
theorem dX11_init_117 : decode cX11_init 117 = .ok (.newarray .int, 2) := by decide +kernel
theorem dX11_init_119 : decode cX11_init 119 = .ok (.putfield 54, 3) := by decide +kernel
theorem dX11_init_122 : decode cX11_init 122 = .ok (.aload_n 0, 1) := by decide +kernel
theorem dX11_init_123 : decode cX11_init 123 = .ok (.iconst 3, 1) := by decide +kernel
theorem dX11_init_124 : decode cX11_init 124 = .ok (.newarray .boolean, 2) := by decide +kernel
theorem dX11_init_126 : decode cX11_init 126 = .ok (.putfield 57, 3) := by decide +kernel
theorem dX11_init_129 : decode cX11_init 129 = .ok (.aload_n 0, 1) := by decide +kernel
theorem dX11_init_130 : decode cX11_init 130 = .ok (.iconst 3, 1) := by decide +kernel
theorem dX11_init_131 : decode cX11_init 131 = .ok (.newarray .int, 2) := by decide +kernel
theorem dX11_init_133 : decode cX11_init 133 = .ok (.putfield 61, 3) := by decide +kernel
theorem dX11_init_136 : decode cX11_init 136 = .ok (.aload_n 0, 1) := by decide +kernel
theorem dX11_init_137 : decode cX11_init 137 = .ok (.bipush 54, 2) := by decide +kernel
theorem dX11_init_139 : decode cX11_init 139 = .ok (.newarray .int, 2) := by decide +kernel
theorem dX11_init_141 : decode cX11_init 141 = .ok (.putfield 64, 3) := by decide +kernel
theorem dX11_init_144 : decode cX11_init 144 = .ok (.aload_n 0, 1) := by decide +kernel
theorem dX11_init_145 : decode cX11_init 145 = .ok (.bipush 54, 2) := by decide +kernel
theorem dX11_init_147 : decode cX11_init 147 = .ok (.newarray .int, 2) := by decide +kernel
theorem dX11_init_149 : decode cX11_init 149 = .ok (.putfield 67, 3) := by decide +kernel
theorem dX11_init_152 : decode cX11_init 152 = .ok (.aload_n 0, 1) := by decide +kernel
theorem dX11_init_153 : decode cX11_init 153 = .ok (.sipush 2160, 3) := by decide +kernel
theorem dX11_init_156 : decode cX11_init 156 = .ok (.newarray .int, 2) := by decide +kernel
theorem dX11_init_158 : decode cX11_init 158 = .ok (.putfield 70, 3) := by decide +kernel
theorem dX11_init_161 : decode cX11_init 161 = .ok (.aload_n 0, 1) := by decide +kernel
theorem dX11_init_162 : decode cX11_init 162 = .ok (.bipush 10, 2) := by decide +kernel
theorem dX11_init_164 : decode cX11_init 164 = .ok (.newarray .int, 2) := by decide +kernel
theorem dX11_init_166 : decode cX11_init 166 = .ok (.putfield 73, 3) := by decide +kernel
theorem dX11_init_169 : decode cX11_init 169 = .ok (.aload_n 0, 1) := by decide +kernel
theorem dX11_init_170 : decode cX11_init 170 = .ok (.bipush 10, 2) := by decide +kernel
theorem dX11_init_172 : decode cX11_init 172 = .ok (.newarray .int, 2) := by decide +kernel
theorem dX11_init_174 : decode cX11_init 174 = .ok (.putfield 76, 3) := by decide +kernel
theorem dX11_init_177 : decode cX11_init 177 = .ok (.iconst 0, 1) := by decide +kernel
theorem dX11_init_178 : decode cX11_init 178 = .ok (.istore_n 1, 1) := by decide +kernel
theorem dX11_init_179 : decode cX11_init 179 = .ok (.iload_n 1, 1) := by decide +kernel
theorem dX11_init_180 : decode cX11_init 180 = .ok (.bipush 6, 2) := by decide +kernel
theorem dX11_init_182 : decode cX11_init 182 = .ok (.if_icmp .ge 16, 3) := by decide +kernel
theorem dX11_init_185 : decode cX11_init 185 = .ok (.aload_n 0, 1) := by decide +kernel
theorem dX11_init_186 : decode cX11_init 186 = .ok (.getfield 17, 3) := by decide +kernel
theorem dX11_init_189 : decode cX11_init 189 = .ok (.iload_n 1, 1) := by decide +kernel
theorem dX11_init_190 : decode cX11_init 190 = .ok (.iconst (-1), 1) := by decide +kernel
theorem dX11_init_191 : decode cX11_init 191 = .ok (.iastore, 1) := by decide +kernel
theorem dX11_init_192 : decode cX11_init 192 = .ok (.iinc 1 1, 3) := by decide +kernel
theorem dX11_init_195 : decode cX11_init 195 = .ok (.goto (-16), 3) := by decide +kernel
theorem dX11_init_198 : decode cX11_init 198 = .ok (.iconst 0, 1) := by decide +kernel
theorem dX11_init_199 : decode cX11_init 199 = .ok (.istore_n 1, 1) := by decide +kernel
theorem dX11_init_200 : decode cX11_init 200 = .ok (.iload_n 1, 1) := by decide +kernel
theorem dX11_init_201 : decode cX11_init 201 = .ok (.iconst 4, 1) := by decide +kernel
theorem dX11_init_202 : decode cX11_init 202 = .ok (.if_icmp .ge 16, 3) := by decide +kernel
theorem dX11_init_205 : decode cX11_init 205 = .ok (.aload_n 0, 1) := by decide +kernel
theorem dX11_init_206 : decode cX11_init 206 = .ok (.getfield 26, 3) := by decide +kernel
theorem dX11_init_209 : decode cX11_init 209 = .ok (.iload_n 1, 1) := by decide +kernel
theorem dX11_init_210 : decode cX11_init 210 = .ok (.iconst (-1), 1) := by decide +kernel
theorem dX11_init_211 : decode cX11_init 211 = .ok (.iastore, 1) := by decide +kernel
theorem dX11_init_212 : decode cX11_init 212 = .ok (.iinc 1 1, 3) := by decide +kernel
theorem dX11_init_215 : decode cX11_init 215 = .ok (.goto (-15), 3) := by decide +kernel
theorem dX11_init_218 : decode cX11_init 218 = .ok (.return_, 1) := by decide +kernel
theorem dX11_in_0 : decode cX11_in 0 = .ok (.iload_n 0, 1) := by decide +kernel
theorem dX11_in_1 : decode cX11_in 1 = .ok (.iload_n 1, 1) := by decide +kernel
theorem dX11_in_2 : decode cX11_in 2 = .ok (.if_icmp .lt 12, 3) := by decide +kernel
theorem dX11_in_5 : decode cX11_in 5 = .ok (.iload_n 0, 1) := by decide +kernel
theorem dX11_in_6 : decode cX11_in 6 = .ok (.iload_n 2, 1) := by decide +kernel
theorem dX11_in_7 : decode cX11_in 7 = .ok (.if_icmp .gt 7, 3) := by decide +kernel
theorem dX11_in_10 : decode cX11_in 10 = .ok (.iconst 1, 1) := by decide +kernel
theorem dX11_in_11 : decode cX11_in 11 = .ok (.goto 4, 3) := by decide +kernel
theorem dX11_in_14 : decode cX11_in 14 = .ok (.iconst 0, 1) := by decide +kernel
theorem dX11_in_15 : decode cX11_in 15 = .ok (.ireturn, 1) := by decide +kernel
theorem dX11_has_0 : decode cX11_has 0 = .ok (.iload_n 0, 1) := by decide +kernel
theorem dX11_has_1 : decode cX11_has 1 = .ok (.iload_n 1, 1) := by decide +kernel
theorem dX11_has_2 : decode cX11_has 2 = .ok (.ishr, 1) := by decide +kernel
theorem dX11_has_3 : decode cX11_has 3 = .ok (.iconst 1, 1) := by decide +kernel
theorem dX11_has_4 : decode cX11_has 4 = .ok (.iand, 1) := by decide +kernel
theorem dX11_has_5 : decode cX11_has 5 = .ok (.iconst 1, 1) := by decide +kernel
theorem dX11_has_6 : decode cX11_has 6 = .ok (.if_icmp .ne 7, 3) := by decide +kernel
theorem dX11_has_9 : decode cX11_has 9 = .ok (.iconst 1, 1) := by decide +kernel
theorem dX11_has_10 : decode cX11_has 10 = .ok (.goto 4, 3) := by decide +kernel
theorem dX11_has_13 : decode cX11_has 13 = .ok (.iconst 0, 1) := by decide +kernel
theorem dX11_has_14 : decode cX11_has 14 = .ok (.ireturn, 1) := by decide +kernel
theorem dX11_bits_0 : decode cX11_bits 0 = .ok (.iconst 0, 1) := by decide +kernel
theorem dX11_bits_1 : decode cX11_bits 1 = .ok (.istore_n 1, 1) := by decide +kernel
theorem dX11_bits_2 : decode cX11_bits 2 = .ok (.iload_n 0, 1) := by decide +kernel
theorem dX11_bits_3 : decode cX11_bits 3 = .ok (.istore_n 2, 1) := by decide +kernel
theorem dX11_bits_4 : decode cX11_bits 4 = .ok (.iload_n 2, 1) := by decide +kernel
theorem dX11_bits_5 : decode cX11_bits 5 = .ok (.ifCond .eq 15, 3) := by decide +kernel
theorem dX11_bits_8 : decode cX11_bits 8 = .ok (.iinc 1 1, 3) := by decide +kernel
theorem dX11_bits_11 : decode cX11_bits 11 = .ok (.iload_n 2, 1) := by decide +kernel
theorem dX11_bits_12 : decode cX11_bits 12 = .ok (.iload_n 2, 1) := by decide +kernel
theorem dX11_bits_13 : decode cX11_bits 13 = .ok (.iconst 1, 1) := by decide +kernel
theorem dX11_bits_14 : decode cX11_bits 14 = .ok (.isub, 1) := by decide +kernel
theorem dX11_bits_15 : decode cX11_bits 15 = .ok (.iand, 1) := by decide +kernel
theorem dX11_bits_16 : decode cX11_bits 16 = .ok (.istore_n 2, 1) := by decide +kernel
theorem dX11_bits_17 : decode cX11_bits 17 = .ok (.goto (-13), 3) := by decide +kernel
theorem dX11_bits_20 : decode cX11_bits 20 = .ok (.iload_n 1, 1) := by decide +kernel
theorem dX11_bits_21 : decode cX11_bits 21 = .ok (.ireturn, 1) := by decide +kernel
theorem dX11_size_0 : decode cX11_size 0 = .ok (.iload_n 0, 1) := by decide +kernel
theorem dX11_size_1 : decode cX11_size 1 = .ok (.ifCond .ge 8, 3) := by decide +kernel
theorem dX11_size_4 : decode cX11_size 4 = .ok (.iload_n 0, 1) := by decide +kernel
theorem dX11_size_5 : decode cX11_size 5 = .ok (.ineg, 1) := by decide +kernel
theorem dX11_size_6 : decode cX11_size 6 = .ok (.goto 4, 3) := by decide +kernel
theorem dX11_size_9 : decode cX11_size 9 = .ok (.iload_n 0, 1) := by decide +kernel
theorem dX11_size_10 : decode cX11_size 10 = .ok (.ireturn, 1) := by decide +kernel
theorem dX11_meets_0 : decode cX11_meets 0 = .ok (.aload_n 0, 1) := by decide +kernel
theorem dX11_meets_1 : decode cX11_meets 1 = .ok (.iload_n 1, 1) := by decide +kernel
theorem dX11_meets_2 : decode cX11_meets 2 = .ok (.putfield 79, 3) := by decide +kernel
theorem dX11_meets_5 : decode cX11_meets 5 = .ok (.aload_n 0, 1) := by decide +kernel
theorem dX11_meets_6 : decode cX11_meets 6 = .ok (.getfield 7, 3) := by decide +kernel
theorem dX11_meets_9 : decode cX11_meets 9 = .ok (.iload_n 1, 1) := by decide +kernel
theorem dX11_meets_10 : decode cX11_meets 10 = .ok (.dup2, 1) := by decide +kernel
theorem dX11_meets_11 : decode cX11_meets 11 = .ok (.iaload, 1) := by decide +kernel
theorem dX11_meets_12 : decode cX11_meets 12 = .ok (.iconst 1, 1) := by decide +kernel
theorem dX11_meets_13 : decode cX11_meets 13 = .ok (.iadd, 1) := by decide +kernel
theorem dX11_meets_14 : decode cX11_meets 14 = .ok (.iastore, 1) := by decide +kernel
theorem dX11_meets_15 : decode cX11_meets 15 = .ok (.bipush (-3), 2) := by decide +kernel
theorem dX11_meets_17 : decode cX11_meets 17 = .ok (.ireturn, 1) := by decide +kernel
theorem dX11_finding_0 : decode cX11_finding 0 = .ok (.aload_n 0, 1) := by decide +kernel
theorem dX11_finding_1 : decode cX11_finding 1 = .ok (.getfield 79, 3) := by decide +kernel
theorem dX11_finding_4 : decode cX11_finding 4 = .ok (.ireturn, 1) := by decide +kernel
theorem dX11_findings_0 : decode cX11_findings 0 = .ok (.iload_n 1, 1) := by decide +kernel
theorem dX11_findings_1 : decode cX11_findings 1 = .ok (.iconst 1, 1) := by decide +kernel
theorem dX11_findings_2 : decode cX11_findings 2 = .ok (.iconst 5, 1) := by decide +kernel
theorem dX11_findings_3 : decode cX11_findings 3 = .ok (.invokestatic 83, 3) := by decide +kernel
theorem dX11_findings_6 : decode cX11_findings 6 = .ok (.ifCond .eq 12, 3) := by decide +kernel
theorem dX11_findings_9 : decode cX11_findings 9 = .ok (.aload_n 0, 1) := by decide +kernel
theorem dX11_findings_10 : decode cX11_findings 10 = .ok (.getfield 7, 3) := by decide +kernel
theorem dX11_findings_13 : decode cX11_findings 13 = .ok (.iload_n 1, 1) := by decide +kernel
theorem dX11_findings_14 : decode cX11_findings 14 = .ok (.iaload, 1) := by decide +kernel
theorem dX11_findings_15 : decode cX11_findings 15 = .ok (.goto 4, 3) := by decide +kernel
theorem dX11_findings_18 : decode cX11_findings 18 = .ok (.iconst (-1), 1) := by decide +kernel
theorem dX11_findings_19 : decode cX11_findings 19 = .ok (.ireturn, 1) := by decide +kernel
theorem dX11_tells_0 : decode cX11_tells 0 = .ok (.aload_n 0, 1) := by decide +kernel
theorem dX11_tells_1 : decode cX11_tells 1 = .ok (.iload_n 1, 1) := by decide +kernel
theorem dX11_tells_2 : decode cX11_tells 2 = .ok (.putfield 87, 3) := by decide +kernel
theorem dX11_tells_5 : decode cX11_tells 5 = .ok (.iload_n 2, 1) := by decide +kernel
theorem dX11_tells_6 : decode cX11_tells 6 = .ok (.ireturn, 1) := by decide +kernel
theorem dX11_asked_0 : decode cX11_asked 0 = .ok (.aload_n 0, 1) := by decide +kernel
theorem dX11_asked_1 : decode cX11_asked 1 = .ok (.getfield 87, 3) := by decide +kernel
theorem dX11_asked_4 : decode cX11_asked 4 = .ok (.ireturn, 1) := by decide +kernel
theorem dX11_fraction_0 : decode cX11_fraction 0 = .ok (.lload_n 1, 1) := by decide +kernel
theorem dX11_fraction_1 : decode cX11_fraction 1 = .ok (.lstore 5, 2) := by decide +kernel
theorem dX11_fraction_3 : decode cX11_fraction 3 = .ok (.lload_n 3, 1) := by decide +kernel
theorem dX11_fraction_4 : decode cX11_fraction 4 = .ok (.lstore 7, 2) := by decide +kernel
theorem dX11_fraction_6 : decode cX11_fraction 6 = .ok (.lload 7, 2) := by decide +kernel
theorem dX11_fraction_8 : decode cX11_fraction 8 = .ok (.lconst 0, 1) := by decide +kernel
theorem dX11_fraction_9 : decode cX11_fraction 9 = .ok (.lcmp, 1) := by decide +kernel
theorem dX11_fraction_10 : decode cX11_fraction 10 = .ok (.ifCond .eq 21, 3) := by decide +kernel
theorem dX11_fraction_13 : decode cX11_fraction 13 = .ok (.lload 5, 2) := by decide +kernel
theorem dX11_fraction_15 : decode cX11_fraction 15 = .ok (.lload 7, 2) := by decide +kernel
theorem dX11_fraction_17 : decode cX11_fraction 17 = .ok (.lrem, 1) := by decide +kernel
theorem dX11_fraction_18 : decode cX11_fraction 18 = .ok (.lstore 9, 2) := by decide +kernel
theorem dX11_fraction_20 : decode cX11_fraction 20 = .ok (.lload 7, 2) := by decide +kernel
theorem dX11_fraction_22 : decode cX11_fraction 22 = .ok (.lstore 5, 2) := by decide +kernel
theorem dX11_fraction_24 : decode cX11_fraction 24 = .ok (.lload 9, 2) := by decide +kernel
theorem dX11_fraction_26 : decode cX11_fraction 26 = .ok (.lstore 7, 2) := by decide +kernel
theorem dX11_fraction_28 : decode cX11_fraction 28 = .ok (.goto (-22), 3) := by decide +kernel
theorem dX11_fraction_31 : decode cX11_fraction 31 = .ok (.aload_n 0, 1) := by decide +kernel
theorem dX11_fraction_32 : decode cX11_fraction 32 = .ok (.lload_n 1, 1) := by decide +kernel
theorem dX11_fraction_33 : decode cX11_fraction 33 = .ok (.lload 5, 2) := by decide +kernel
theorem dX11_fraction_35 : decode cX11_fraction 35 = .ok (.ldiv, 1) := by decide +kernel
theorem dX11_fraction_36 : decode cX11_fraction 36 = .ok (.putfield 90, 3) := by decide +kernel
theorem dX11_fraction_39 : decode cX11_fraction 39 = .ok (.aload_n 0, 1) := by decide +kernel
theorem dX11_fraction_40 : decode cX11_fraction 40 = .ok (.lload_n 3, 1) := by decide +kernel
theorem dX11_fraction_41 : decode cX11_fraction 41 = .ok (.lload 5, 2) := by decide +kernel
theorem dX11_fraction_43 : decode cX11_fraction 43 = .ok (.ldiv, 1) := by decide +kernel
theorem dX11_fraction_44 : decode cX11_fraction 44 = .ok (.putfield 13, 3) := by decide +kernel
theorem dX11_fraction_47 : decode cX11_fraction 47 = .ok (.iconst 1, 1) := by decide +kernel
theorem dX11_fraction_48 : decode cX11_fraction 48 = .ok (.ireturn, 1) := by decide +kernel
theorem dX11_upper_0 : decode cX11_upper 0 = .ok (.aload_n 0, 1) := by decide +kernel
theorem dX11_upper_1 : decode cX11_upper 1 = .ok (.getfield 90, 3) := by decide +kernel
theorem dX11_upper_4 : decode cX11_upper 4 = .ok (.lreturn, 1) := by decide +kernel
theorem dX11_lower_0 : decode cX11_lower 0 = .ok (.aload_n 0, 1) := by decide +kernel
theorem dX11_lower_1 : decode cX11_lower 1 = .ok (.getfield 13, 3) := by decide +kernel
theorem dX11_lower_4 : decode cX11_lower 4 = .ok (.lreturn, 1) := by decide +kernel
theorem dX11_isRow_0 : decode cX11_isRow 0 = .ok (.iload_n 0, 1) := by decide +kernel
theorem dX11_isRow_1 : decode cX11_isRow 1 = .ok (.iconst 0, 1) := by decide +kernel
theorem dX11_isRow_2 : decode cX11_isRow 2 = .ok (.iconst 5, 1) := by decide +kernel
theorem dX11_isRow_3 : decode cX11_isRow 3 = .ok (.invokestatic 83, 3) := by decide +kernel
theorem dX11_isRow_6 : decode cX11_isRow 6 = .ok (.ireturn, 1) := by decide +kernel
theorem dX11_rowAt_0 : decode cX11_rowAt 0 = .ok (.aload_n 0, 1) := by decide +kernel
theorem dX11_rowAt_1 : decode cX11_rowAt 1 = .ok (.getfield 20, 3) := by decide +kernel
theorem dX11_rowAt_4 : decode cX11_rowAt 4 = .ok (.bipush 40, 2) := by decide +kernel
theorem dX11_rowAt_6 : decode cX11_rowAt 6 = .ok (.iload_n 1, 1) := by decide +kernel
theorem dX11_rowAt_7 : decode cX11_rowAt 7 = .ok (.imul, 1) := by decide +kernel
theorem dX11_rowAt_8 : decode cX11_rowAt 8 = .ok (.iload_n 2, 1) := by decide +kernel
theorem dX11_rowAt_9 : decode cX11_rowAt 9 = .ok (.iadd, 1) := by decide +kernel
theorem dX11_rowAt_10 : decode cX11_rowAt 10 = .ok (.iaload, 1) := by decide +kernel
theorem dX11_rowAt_11 : decode cX11_rowAt 11 = .ok (.ireturn, 1) := by decide +kernel
theorem dX11_row_0 : decode cX11_row 0 = .ok (.iload_n 1, 1) := by decide +kernel
theorem dX11_row_1 : decode cX11_row 1 = .ok (.invokestatic 93, 3) := by decide +kernel
theorem dX11_row_4 : decode cX11_row 4 = .ok (.ifCond .eq 9, 3) := by decide +kernel
theorem dX11_row_7 : decode cX11_row 7 = .ok (.iload_n 2, 1) := by decide +kernel
theorem dX11_row_8 : decode cX11_row 8 = .ok (.bipush 40, 2) := by decide +kernel
theorem dX11_row_10 : decode cX11_row 10 = .ok (.if_icmp .le 5, 3) := by decide +kernel
theorem dX11_row_13 : decode cX11_row 13 = .ok (.iconst (-1), 1) := by decide +kernel
theorem dX11_row_14 : decode cX11_row 14 = .ok (.ireturn, 1) := by decide +kernel
theorem dX11_row_15 : decode cX11_row 15 = .ok (.iload_n 2, 1) := by decide +kernel
theorem dX11_row_16 : decode cX11_row 16 = .ok (.ifCond .ge 9, 3) := by decide +kernel
theorem dX11_row_19 : decode cX11_row 19 = .ok (.aload_n 0, 1) := by decide +kernel
theorem dX11_row_20 : decode cX11_row 20 = .ok (.iconst 5, 1) := by decide +kernel
theorem dX11_row_21 : decode cX11_row 21 = .ok (.invokevirtual 97, 3) := by decide +kernel
theorem dX11_row_24 : decode cX11_row 24 = .ok (.ireturn, 1) := by decide +kernel
theorem dX11_row_25 : decode cX11_row 25 = .ok (.aload_n 0, 1) := by decide +kernel
theorem dX11_row_26 : decode cX11_row 26 = .ok (.getfield 17, 3) := by decide +kernel
theorem dX11_row_29 : decode cX11_row 29 = .ok (.iload_n 1, 1) := by decide +kernel
theorem dX11_row_30 : decode cX11_row 30 = .ok (.iload_n 2, 1) := by decide +kernel
theorem dX11_row_31 : decode cX11_row 31 = .ok (.iastore, 1) := by decide +kernel
theorem dX11_row_32 : decode cX11_row 32 = .ok (.iconst 0, 1) := by decide +kernel
theorem dX11_row_33 : decode cX11_row 33 = .ok (.istore_n 3, 1) := by decide +kernel
theorem dX11_row_34 : decode cX11_row 34 = .ok (.iload_n 3, 1) := by decide +kernel
theorem dX11_row_35 : decode cX11_row 35 = .ok (.bipush 40, 2) := by decide +kernel
theorem dX11_row_37 : decode cX11_row 37 = .ok (.if_icmp .ge 21, 3) := by decide +kernel
theorem dX11_row_40 : decode cX11_row 40 = .ok (.aload_n 0, 1) := by decide +kernel
theorem dX11_row_41 : decode cX11_row 41 = .ok (.getfield 20, 3) := by decide +kernel
theorem dX11_row_44 : decode cX11_row 44 = .ok (.bipush 40, 2) := by decide +kernel
theorem dX11_row_46 : decode cX11_row 46 = .ok (.iload_n 1, 1) := by decide +kernel
theorem dX11_row_47 : decode cX11_row 47 = .ok (.imul, 1) := by decide +kernel
theorem dX11_row_48 : decode cX11_row 48 = .ok (.iload_n 3, 1) := by decide +kernel
theorem dX11_row_49 : decode cX11_row 49 = .ok (.iadd, 1) := by decide +kernel
theorem dX11_row_50 : decode cX11_row 50 = .ok (.iconst 0, 1) := by decide +kernel
theorem dX11_row_51 : decode cX11_row 51 = .ok (.iastore, 1) := by decide +kernel
theorem dX11_row_52 : decode cX11_row 52 = .ok (.iinc 3 1, 3) := by decide +kernel
theorem dX11_row_55 : decode cX11_row 55 = .ok (.goto (-21), 3) := by decide +kernel
theorem dX11_row_58 : decode cX11_row 58 = .ok (.iload_n 2, 1) := by decide +kernel
theorem dX11_row_59 : decode cX11_row 59 = .ok (.ireturn, 1) := by decide +kernel
theorem dX11_lay_0 : decode cX11_lay 0 = .ok (.iload_n 1, 1) := by decide +kernel
theorem dX11_lay_1 : decode cX11_lay 1 = .ok (.invokestatic 93, 3) := by decide +kernel
theorem dX11_lay_4 : decode cX11_lay 4 = .ok (.ifCond .ne 5, 3) := by decide +kernel
theorem dX11_lay_7 : decode cX11_lay 7 = .ok (.iconst (-1), 1) := by decide +kernel
theorem dX11_lay_8 : decode cX11_lay 8 = .ok (.ireturn, 1) := by decide +kernel
theorem dX11_lay_9 : decode cX11_lay 9 = .ok (.aload_n 0, 1) := by decide +kernel
theorem dX11_lay_10 : decode cX11_lay 10 = .ok (.getfield 17, 3) := by decide +kernel
theorem dX11_lay_13 : decode cX11_lay 13 = .ok (.iload_n 1, 1) := by decide +kernel
theorem dX11_lay_14 : decode cX11_lay 14 = .ok (.iaload, 1) := by decide +kernel
theorem dX11_lay_15 : decode cX11_lay 15 = .ok (.ifCond .ge 9, 3) := by decide +kernel
theorem dX11_lay_18 : decode cX11_lay 18 = .ok (.aload_n 0, 1) := by decide +kernel
theorem dX11_lay_19 : decode cX11_lay 19 = .ok (.iconst 1, 1) := by decide +kernel
theorem dX11_lay_20 : decode cX11_lay 20 = .ok (.invokevirtual 97, 3) := by decide +kernel
theorem dX11_lay_23 : decode cX11_lay 23 = .ok (.ireturn, 1) := by decide +kernel
theorem dX11_lay_24 : decode cX11_lay 24 = .ok (.iload_n 2, 1) := by decide +kernel
theorem dX11_lay_25 : decode cX11_lay 25 = .ok (.iconst 0, 1) := by decide +kernel
theorem dX11_lay_26 : decode cX11_lay 26 = .ok (.aload_n 0, 1) := by decide +kernel
theorem dX11_lay_27 : decode cX11_lay 27 = .ok (.getfield 17, 3) := by decide +kernel
theorem dX11_lay_30 : decode cX11_lay 30 = .ok (.iload_n 1, 1) := by decide +kernel
theorem dX11_lay_31 : decode cX11_lay 31 = .ok (.iaload, 1) := by decide +kernel
theorem dX11_lay_32 : decode cX11_lay 32 = .ok (.iconst 1, 1) := by decide +kernel
theorem dX11_lay_33 : decode cX11_lay 33 = .ok (.isub, 1) := by decide +kernel
theorem dX11_lay_34 : decode cX11_lay 34 = .ok (.invokestatic 83, 3) := by decide +kernel
theorem dX11_lay_37 : decode cX11_lay 37 = .ok (.ifCond .ne 9, 3) := by decide +kernel
theorem dX11_lay_40 : decode cX11_lay 40 = .ok (.aload_n 0, 1) := by decide +kernel
theorem dX11_lay_41 : decode cX11_lay 41 = .ok (.iconst 2, 1) := by decide +kernel
theorem dX11_lay_42 : decode cX11_lay 42 = .ok (.invokevirtual 97, 3) := by decide +kernel
theorem dX11_lay_45 : decode cX11_lay 45 = .ok (.ireturn, 1) := by decide +kernel
theorem dX11_lay_46 : decode cX11_lay 46 = .ok (.aload_n 0, 1) := by decide +kernel
theorem dX11_lay_47 : decode cX11_lay 47 = .ok (.iload_n 1, 1) := by decide +kernel
theorem dX11_lay_48 : decode cX11_lay 48 = .ok (.iload_n 2, 1) := by decide +kernel
theorem dX11_lay_49 : decode cX11_lay 49 = .ok (.invokevirtual 101, 3) := by decide +kernel
theorem dX11_lay_52 : decode cX11_lay 52 = .ok (.istore 4, 2) := by decide +kernel
theorem dX11_lay_54 : decode cX11_lay 54 = .ok (.aload_n 0, 1) := by decide +kernel
theorem dX11_lay_55 : decode cX11_lay 55 = .ok (.getfield 20, 3) := by decide +kernel
theorem dX11_lay_58 : decode cX11_lay 58 = .ok (.bipush 40, 2) := by decide +kernel
theorem dX11_lay_60 : decode cX11_lay 60 = .ok (.iload_n 1, 1) := by decide +kernel
theorem dX11_lay_61 : decode cX11_lay 61 = .ok (.imul, 1) := by decide +kernel
theorem dX11_lay_62 : decode cX11_lay 62 = .ok (.iload_n 2, 1) := by decide +kernel
theorem dX11_lay_63 : decode cX11_lay 63 = .ok (.iadd, 1) := by decide +kernel
theorem dX11_lay_64 : decode cX11_lay 64 = .ok (.iload_n 3, 1) := by decide +kernel
theorem dX11_lay_65 : decode cX11_lay 65 = .ok (.iastore, 1) := by decide +kernel
theorem dX11_lay_66 : decode cX11_lay 66 = .ok (.aload_n 0, 1) := by decide +kernel
theorem dX11_lay_67 : decode cX11_lay 67 = .ok (.iload 4, 2) := by decide +kernel
theorem dX11_lay_69 : decode cX11_lay 69 = .ok (.iconst 1, 1) := by decide +kernel
theorem dX11_lay_70 : decode cX11_lay 70 = .ok (.invokevirtual 105, 3) := by decide +kernel
theorem dX11_lay_73 : decode cX11_lay 73 = .ok (.ireturn, 1) := by decide +kernel
theorem dX11_at_0 : decode cX11_at 0 = .ok (.iload_n 1, 1) := by decide +kernel
theorem dX11_at_1 : decode cX11_at 1 = .ok (.invokestatic 93, 3) := by decide +kernel
theorem dX11_at_4 : decode cX11_at 4 = .ok (.ifCond .ne 5, 3) := by decide +kernel
theorem dX11_at_7 : decode cX11_at 7 = .ok (.iconst (-1), 1) := by decide +kernel
theorem dX11_at_8 : decode cX11_at 8 = .ok (.ireturn, 1) := by decide +kernel
theorem dX11_at_9 : decode cX11_at 9 = .ok (.aload_n 0, 1) := by decide +kernel
theorem dX11_at_10 : decode cX11_at 10 = .ok (.getfield 17, 3) := by decide +kernel
theorem dX11_at_13 : decode cX11_at 13 = .ok (.iload_n 1, 1) := by decide +kernel
theorem dX11_at_14 : decode cX11_at 14 = .ok (.iaload, 1) := by decide +kernel
theorem dX11_at_15 : decode cX11_at 15 = .ok (.ifCond .ge 9, 3) := by decide +kernel
theorem dX11_at_18 : decode cX11_at 18 = .ok (.aload_n 0, 1) := by decide +kernel
theorem dX11_at_19 : decode cX11_at 19 = .ok (.iconst 1, 1) := by decide +kernel
theorem dX11_at_20 : decode cX11_at 20 = .ok (.invokevirtual 97, 3) := by decide +kernel
theorem dX11_at_23 : decode cX11_at 23 = .ok (.ireturn, 1) := by decide +kernel
theorem dX11_at_24 : decode cX11_at 24 = .ok (.iload_n 2, 1) := by decide +kernel
theorem dX11_at_25 : decode cX11_at 25 = .ok (.iconst 0, 1) := by decide +kernel
theorem dX11_at_26 : decode cX11_at 26 = .ok (.aload_n 0, 1) := by decide +kernel
theorem dX11_at_27 : decode cX11_at 27 = .ok (.getfield 17, 3) := by decide +kernel
theorem dX11_at_30 : decode cX11_at 30 = .ok (.iload_n 1, 1) := by decide +kernel
theorem dX11_at_31 : decode cX11_at 31 = .ok (.iaload, 1) := by decide +kernel
theorem dX11_at_32 : decode cX11_at 32 = .ok (.iconst 1, 1) := by decide +kernel
theorem dX11_at_33 : decode cX11_at 33 = .ok (.isub, 1) := by decide +kernel
theorem dX11_at_34 : decode cX11_at 34 = .ok (.invokestatic 83, 3) := by decide +kernel
theorem dX11_at_37 : decode cX11_at 37 = .ok (.ifCond .eq 17, 3) := by decide +kernel
theorem dX11_at_40 : decode cX11_at 40 = .ok (.aload_n 0, 1) := by decide +kernel
theorem dX11_at_41 : decode cX11_at 41 = .ok (.aload_n 0, 1) := by decide +kernel
theorem dX11_at_42 : decode cX11_at 42 = .ok (.iload_n 1, 1) := by decide +kernel
theorem dX11_at_43 : decode cX11_at 43 = .ok (.iload_n 2, 1) := by decide +kernel
theorem dX11_at_44 : decode cX11_at 44 = .ok (.invokevirtual 101, 3) := by decide +kernel
theorem dX11_at_47 : decode cX11_at 47 = .ok (.iconst 1, 1) := by decide +kernel
theorem dX11_at_48 : decode cX11_at 48 = .ok (.invokevirtual 105, 3) := by decide +kernel
theorem dX11_at_51 : decode cX11_at 51 = .ok (.goto 8, 3) := by decide +kernel
theorem dX11_at_54 : decode cX11_at 54 = .ok (.aload_n 0, 1) := by decide +kernel
theorem dX11_at_55 : decode cX11_at 55 = .ok (.iconst 2, 1) := by decide +kernel
theorem dX11_at_56 : decode cX11_at 56 = .ok (.invokevirtual 97, 3) := by decide +kernel
theorem dX11_at_59 : decode cX11_at 59 = .ok (.ireturn, 1) := by decide +kernel
theorem dX11_tear_0 : decode cX11_tear 0 = .ok (.iload_n 1, 1) := by decide +kernel
theorem dX11_tear_1 : decode cX11_tear 1 = .ok (.invokestatic 93, 3) := by decide +kernel
theorem dX11_tear_4 : decode cX11_tear 4 = .ok (.ifCond .ne 5, 3) := by decide +kernel
theorem dX11_tear_7 : decode cX11_tear 7 = .ok (.iconst (-1), 1) := by decide +kernel
theorem dX11_tear_8 : decode cX11_tear 8 = .ok (.ireturn, 1) := by decide +kernel
theorem dX11_tear_9 : decode cX11_tear 9 = .ok (.aload_n 0, 1) := by decide +kernel
theorem dX11_tear_10 : decode cX11_tear 10 = .ok (.getfield 17, 3) := by decide +kernel
theorem dX11_tear_13 : decode cX11_tear 13 = .ok (.iload_n 1, 1) := by decide +kernel
theorem dX11_tear_14 : decode cX11_tear 14 = .ok (.iaload, 1) := by decide +kernel
theorem dX11_tear_15 : decode cX11_tear 15 = .ok (.ifCond .ge 9, 3) := by decide +kernel
theorem dX11_tear_18 : decode cX11_tear 18 = .ok (.aload_n 0, 1) := by decide +kernel
theorem dX11_tear_19 : decode cX11_tear 19 = .ok (.iconst 1, 1) := by decide +kernel
theorem dX11_tear_20 : decode cX11_tear 20 = .ok (.invokevirtual 97, 3) := by decide +kernel
theorem dX11_tear_23 : decode cX11_tear 23 = .ok (.ireturn, 1) := by decide +kernel
theorem dX11_tear_24 : decode cX11_tear 24 = .ok (.aload_n 0, 1) := by decide +kernel
theorem dX11_tear_25 : decode cX11_tear 25 = .ok (.getfield 17, 3) := by decide +kernel
theorem dX11_tear_28 : decode cX11_tear 28 = .ok (.iload_n 1, 1) := by decide +kernel
theorem dX11_tear_29 : decode cX11_tear 29 = .ok (.iconst (-1), 1) := by decide +kernel
theorem dX11_tear_30 : decode cX11_tear 30 = .ok (.iastore, 1) := by decide +kernel
theorem dX11_tear_31 : decode cX11_tear 31 = .ok (.iconst 1, 1) := by decide +kernel
theorem dX11_tear_32 : decode cX11_tear 32 = .ok (.ireturn, 1) := by decide +kernel
theorem dX11_copy_0 : decode cX11_copy 0 = .ok (.iload_n 1, 1) := by decide +kernel
theorem dX11_copy_1 : decode cX11_copy 1 = .ok (.invokestatic 93, 3) := by decide +kernel
theorem dX11_copy_4 : decode cX11_copy 4 = .ok (.ifCond .eq 10, 3) := by decide +kernel
theorem dX11_copy_7 : decode cX11_copy 7 = .ok (.iload_n 3, 1) := by decide +kernel
theorem dX11_copy_8 : decode cX11_copy 8 = .ok (.invokestatic 93, 3) := by decide +kernel
theorem dX11_copy_11 : decode cX11_copy 11 = .ok (.ifCond .ne 5, 3) := by decide +kernel
theorem dX11_copy_14 : decode cX11_copy 14 = .ok (.iconst (-1), 1) := by decide +kernel
theorem dX11_copy_15 : decode cX11_copy 15 = .ok (.ireturn, 1) := by decide +kernel
theorem dX11_copy_16 : decode cX11_copy 16 = .ok (.iload 5, 2) := by decide +kernel
theorem dX11_copy_18 : decode cX11_copy 18 = .ok (.ifCond .ge 9, 3) := by decide +kernel
theorem dX11_copy_21 : decode cX11_copy 21 = .ok (.aload_n 0, 1) := by decide +kernel
theorem dX11_copy_22 : decode cX11_copy 22 = .ok (.iconst 5, 1) := by decide +kernel
theorem dX11_copy_23 : decode cX11_copy 23 = .ok (.invokevirtual 97, 3) := by decide +kernel
theorem dX11_copy_26 : decode cX11_copy 26 = .ok (.ireturn, 1) := by decide +kernel
theorem dX11_copy_27 : decode cX11_copy 27 = .ok (.aload_n 0, 1) := by decide +kernel
theorem dX11_copy_28 : decode cX11_copy 28 = .ok (.getfield 17, 3) := by decide +kernel
theorem dX11_copy_31 : decode cX11_copy 31 = .ok (.iload_n 1, 1) := by decide +kernel
theorem dX11_copy_32 : decode cX11_copy 32 = .ok (.iaload, 1) := by decide +kernel
theorem dX11_copy_33 : decode cX11_copy 33 = .ok (.ifCond .lt 12, 3) := by decide +kernel
theorem dX11_copy_36 : decode cX11_copy 36 = .ok (.aload_n 0, 1) := by decide +kernel
theorem dX11_copy_37 : decode cX11_copy 37 = .ok (.getfield 17, 3) := by decide +kernel
theorem dX11_copy_40 : decode cX11_copy 40 = .ok (.iload_n 3, 1) := by decide +kernel
theorem dX11_copy_41 : decode cX11_copy 41 = .ok (.iaload, 1) := by decide +kernel
theorem dX11_copy_42 : decode cX11_copy 42 = .ok (.ifCond .ge 9, 3) := by decide +kernel
theorem dX11_copy_45 : decode cX11_copy 45 = .ok (.aload_n 0, 1) := by decide +kernel
theorem dX11_copy_46 : decode cX11_copy 46 = .ok (.iconst 1, 1) := by decide +kernel
theorem dX11_copy_47 : decode cX11_copy 47 = .ok (.invokevirtual 97, 3) := by decide +kernel
theorem dX11_copy_50 : decode cX11_copy 50 = .ok (.ireturn, 1) := by decide +kernel
theorem dX11_copy_51 : decode cX11_copy 51 = .ok (.iload_n 2, 1) := by decide +kernel
theorem dX11_copy_52 : decode cX11_copy 52 = .ok (.ifCond .lt 43, 3) := by decide +kernel
theorem dX11_copy_55 : decode cX11_copy 55 = .ok (.iload 4, 2) := by decide +kernel
theorem dX11_copy_57 : decode cX11_copy 57 = .ok (.ifCond .lt 38, 3) := by decide +kernel
theorem dX11_copy_60 : decode cX11_copy 60 = .ok (.iload_n 2, 1) := by decide +kernel
theorem dX11_copy_61 : decode cX11_copy 61 = .ok (.i2l, 1) := by decide +kernel
theorem dX11_copy_62 : decode cX11_copy 62 = .ok (.iload 5, 2) := by decide +kernel
theorem dX11_copy_64 : decode cX11_copy 64 = .ok (.i2l, 1) := by decide +kernel
theorem dX11_copy_65 : decode cX11_copy 65 = .ok (.ladd, 1) := by decide +kernel
theorem dX11_copy_66 : decode cX11_copy 66 = .ok (.aload_n 0, 1) := by decide +kernel
theorem dX11_copy_67 : decode cX11_copy 67 = .ok (.getfield 17, 3) := by decide +kernel
theorem dX11_copy_70 : decode cX11_copy 70 = .ok (.iload_n 1, 1) := by decide +kernel
theorem dX11_copy_71 : decode cX11_copy 71 = .ok (.iaload, 1) := by decide +kernel
theorem dX11_copy_72 : decode cX11_copy 72 = .ok (.i2l, 1) := by decide +kernel
theorem dX11_copy_73 : decode cX11_copy 73 = .ok (.lcmp, 1) := by decide +kernel
theorem dX11_copy_74 : decode cX11_copy 74 = .ok (.ifCond .gt 21, 3) := by decide +kernel
theorem dX11_copy_77 : decode cX11_copy 77 = .ok (.iload 4, 2) := by decide +kernel
theorem dX11_copy_79 : decode cX11_copy 79 = .ok (.i2l, 1) := by decide +kernel
theorem dX11_copy_80 : decode cX11_copy 80 = .ok (.iload 5, 2) := by decide +kernel
theorem dX11_copy_82 : decode cX11_copy 82 = .ok (.i2l, 1) := by decide +kernel
theorem dX11_copy_83 : decode cX11_copy 83 = .ok (.ladd, 1) := by decide +kernel
theorem dX11_copy_84 : decode cX11_copy 84 = .ok (.aload_n 0, 1) := by decide +kernel
theorem dX11_copy_85 : decode cX11_copy 85 = .ok (.getfield 17, 3) := by decide +kernel
theorem dX11_copy_88 : decode cX11_copy 88 = .ok (.iload_n 3, 1) := by decide +kernel
theorem dX11_copy_89 : decode cX11_copy 89 = .ok (.iaload, 1) := by decide +kernel
theorem dX11_copy_90 : decode cX11_copy 90 = .ok (.i2l, 1) := by decide +kernel
theorem dX11_copy_91 : decode cX11_copy 91 = .ok (.lcmp, 1) := by decide +kernel
theorem dX11_copy_92 : decode cX11_copy 92 = .ok (.ifCond .le 9, 3) := by decide +kernel
theorem dX11_copy_95 : decode cX11_copy 95 = .ok (.aload_n 0, 1) := by decide +kernel
theorem dX11_copy_96 : decode cX11_copy 96 = .ok (.iconst 2, 1) := by decide +kernel
theorem dX11_copy_97 : decode cX11_copy 97 = .ok (.invokevirtual 97, 3) := by decide +kernel
theorem dX11_copy_100 : decode cX11_copy 100 = .ok (.ireturn, 1) := by decide +kernel
theorem dX11_copy_101 : decode cX11_copy 101 = .ok (.iconst 0, 1) := by decide +kernel
theorem dX11_copy_102 : decode cX11_copy 102 = .ok (.istore 6, 2) := by decide +kernel
theorem dX11_copy_104 : decode cX11_copy 104 = .ok (.iload 6, 2) := by decide +kernel
theorem dX11_copy_106 : decode cX11_copy 106 = .ok (.iload 5, 2) := by decide +kernel
theorem dX11_copy_108 : decode cX11_copy 108 = .ok (.if_icmp .ge 25, 3) := by decide +kernel
theorem dX11_copy_111 : decode cX11_copy 111 = .ok (.aload_n 0, 1) := by decide +kernel
theorem dX11_copy_112 : decode cX11_copy 112 = .ok (.getfield 23, 3) := by decide +kernel
theorem dX11_copy_115 : decode cX11_copy 115 = .ok (.iload 6, 2) := by decide +kernel
theorem dX11_copy_117 : decode cX11_copy 117 = .ok (.aload_n 0, 1) := by decide +kernel
theorem dX11_copy_118 : decode cX11_copy 118 = .ok (.iload_n 1, 1) := by decide +kernel
theorem dX11_copy_119 : decode cX11_copy 119 = .ok (.iload_n 2, 1) := by decide +kernel
theorem dX11_copy_120 : decode cX11_copy 120 = .ok (.iload 6, 2) := by decide +kernel
theorem dX11_copy_122 : decode cX11_copy 122 = .ok (.iadd, 1) := by decide +kernel
theorem dX11_copy_123 : decode cX11_copy 123 = .ok (.invokevirtual 101, 3) := by decide +kernel
theorem dX11_copy_126 : decode cX11_copy 126 = .ok (.iastore, 1) := by decide +kernel
theorem dX11_copy_127 : decode cX11_copy 127 = .ok (.iinc 6 1, 3) := by decide +kernel
theorem dX11_copy_130 : decode cX11_copy 130 = .ok (.goto (-26), 3) := by decide +kernel
theorem dX11_copy_133 : decode cX11_copy 133 = .ok (.iconst 0, 1) := by decide +kernel
theorem dX11_copy_134 : decode cX11_copy 134 = .ok (.istore 6, 2) := by decide +kernel
theorem dX11_copy_136 : decode cX11_copy 136 = .ok (.iload 6, 2) := by decide +kernel
theorem dX11_copy_138 : decode cX11_copy 138 = .ok (.iload 5, 2) := by decide +kernel
theorem dX11_copy_140 : decode cX11_copy 140 = .ok (.if_icmp .ge 31, 3) := by decide +kernel
theorem dX11_copy_143 : decode cX11_copy 143 = .ok (.aload_n 0, 1) := by decide +kernel
theorem dX11_copy_144 : decode cX11_copy 144 = .ok (.getfield 20, 3) := by decide +kernel
theorem dX11_copy_147 : decode cX11_copy 147 = .ok (.bipush 40, 2) := by decide +kernel
theorem dX11_copy_149 : decode cX11_copy 149 = .ok (.iload_n 3, 1) := by decide +kernel
theorem dX11_copy_150 : decode cX11_copy 150 = .ok (.imul, 1) := by decide +kernel
theorem dX11_copy_151 : decode cX11_copy 151 = .ok (.iload 4, 2) := by decide +kernel
theorem dX11_copy_153 : decode cX11_copy 153 = .ok (.iadd, 1) := by decide +kernel
theorem dX11_copy_154 : decode cX11_copy 154 = .ok (.iload 6, 2) := by decide +kernel
theorem dX11_copy_156 : decode cX11_copy 156 = .ok (.iadd, 1) := by decide +kernel
theorem dX11_copy_157 : decode cX11_copy 157 = .ok (.aload_n 0, 1) := by decide +kernel
theorem dX11_copy_158 : decode cX11_copy 158 = .ok (.getfield 23, 3) := by decide +kernel
theorem dX11_copy_161 : decode cX11_copy 161 = .ok (.iload 6, 2) := by decide +kernel
theorem dX11_copy_163 : decode cX11_copy 163 = .ok (.iaload, 1) := by decide +kernel
theorem dX11_copy_164 : decode cX11_copy 164 = .ok (.iastore, 1) := by decide +kernel
theorem dX11_copy_165 : decode cX11_copy 165 = .ok (.iinc 6 1, 3) := by decide +kernel
theorem dX11_copy_168 : decode cX11_copy 168 = .ok (.goto (-32), 3) := by decide +kernel
theorem dX11_copy_171 : decode cX11_copy 171 = .ok (.iconst 1, 1) := by decide +kernel
theorem dX11_copy_172 : decode cX11_copy 172 = .ok (.ireturn, 1) := by decide +kernel
theorem dX11_mean_0 : decode cX11_mean 0 = .ok (.iload_n 1, 1) := by decide +kernel
theorem dX11_mean_1 : decode cX11_mean 1 = .ok (.invokestatic 93, 3) := by decide +kernel
theorem dX11_mean_4 : decode cX11_mean 4 = .ok (.ifCond .ne 5, 3) := by decide +kernel
theorem dX11_mean_7 : decode cX11_mean 7 = .ok (.iconst (-1), 1) := by decide +kernel
theorem dX11_mean_8 : decode cX11_mean 8 = .ok (.ireturn, 1) := by decide +kernel
theorem dX11_mean_9 : decode cX11_mean 9 = .ok (.aload_n 0, 1) := by decide +kernel
theorem dX11_mean_10 : decode cX11_mean 10 = .ok (.getfield 17, 3) := by decide +kernel
theorem dX11_mean_13 : decode cX11_mean 13 = .ok (.iload_n 1, 1) := by decide +kernel
theorem dX11_mean_14 : decode cX11_mean 14 = .ok (.iaload, 1) := by decide +kernel
theorem dX11_mean_15 : decode cX11_mean 15 = .ok (.ifCond .ge 9, 3) := by decide +kernel
theorem dX11_mean_18 : decode cX11_mean 18 = .ok (.aload_n 0, 1) := by decide +kernel
theorem dX11_mean_19 : decode cX11_mean 19 = .ok (.iconst 1, 1) := by decide +kernel
theorem dX11_mean_20 : decode cX11_mean 20 = .ok (.invokevirtual 97, 3) := by decide +kernel
theorem dX11_mean_23 : decode cX11_mean 23 = .ok (.ireturn, 1) := by decide +kernel
theorem dX11_mean_24 : decode cX11_mean 24 = .ok (.aload_n 0, 1) := by decide +kernel
theorem dX11_mean_25 : decode cX11_mean 25 = .ok (.getfield 17, 3) := by decide +kernel
theorem dX11_mean_28 : decode cX11_mean 28 = .ok (.iload_n 1, 1) := by decide +kernel
theorem dX11_mean_29 : decode cX11_mean 29 = .ok (.iaload, 1) := by decide +kernel
theorem dX11_mean_30 : decode cX11_mean 30 = .ok (.ifCond .ne 9, 3) := by decide +kernel
theorem dX11_mean_33 : decode cX11_mean 33 = .ok (.aload_n 0, 1) := by decide +kernel
theorem dX11_mean_34 : decode cX11_mean 34 = .ok (.iconst 4, 1) := by decide +kernel
theorem dX11_mean_35 : decode cX11_mean 35 = .ok (.invokevirtual 97, 3) := by decide +kernel
theorem dX11_mean_38 : decode cX11_mean 38 = .ok (.ireturn, 1) := by decide +kernel
theorem dX11_mean_39 : decode cX11_mean 39 = .ok (.lconst 0, 1) := by decide +kernel
theorem dX11_mean_40 : decode cX11_mean 40 = .ok (.lstore_n 2, 1) := by decide +kernel
theorem dX11_mean_41 : decode cX11_mean 41 = .ok (.iconst 0, 1) := by decide +kernel
theorem dX11_mean_42 : decode cX11_mean 42 = .ok (.istore 4, 2) := by decide +kernel
theorem dX11_mean_44 : decode cX11_mean 44 = .ok (.iload 4, 2) := by decide +kernel
theorem dX11_mean_46 : decode cX11_mean 46 = .ok (.aload_n 0, 1) := by decide +kernel
theorem dX11_mean_47 : decode cX11_mean 47 = .ok (.getfield 17, 3) := by decide +kernel
theorem dX11_mean_50 : decode cX11_mean 50 = .ok (.iload_n 1, 1) := by decide +kernel
theorem dX11_mean_51 : decode cX11_mean 51 = .ok (.iaload, 1) := by decide +kernel
theorem dX11_mean_52 : decode cX11_mean 52 = .ok (.if_icmp .ge 20, 3) := by decide +kernel
theorem dX11_mean_55 : decode cX11_mean 55 = .ok (.lload_n 2, 1) := by decide +kernel
theorem dX11_mean_56 : decode cX11_mean 56 = .ok (.aload_n 0, 1) := by decide +kernel
theorem dX11_mean_57 : decode cX11_mean 57 = .ok (.iload_n 1, 1) := by decide +kernel
theorem dX11_mean_58 : decode cX11_mean 58 = .ok (.iload 4, 2) := by decide +kernel
theorem dX11_mean_60 : decode cX11_mean 60 = .ok (.invokevirtual 101, 3) := by decide +kernel
theorem dX11_mean_63 : decode cX11_mean 63 = .ok (.i2l, 1) := by decide +kernel
theorem dX11_mean_64 : decode cX11_mean 64 = .ok (.ladd, 1) := by decide +kernel
theorem dX11_mean_65 : decode cX11_mean 65 = .ok (.lstore_n 2, 1) := by decide +kernel
theorem dX11_mean_66 : decode cX11_mean 66 = .ok (.iinc 4 1, 3) := by decide +kernel
theorem dX11_mean_69 : decode cX11_mean 69 = .ok (.goto (-25), 3) := by decide +kernel
theorem dX11_mean_72 : decode cX11_mean 72 = .ok (.aload_n 0, 1) := by decide +kernel
theorem dX11_mean_73 : decode cX11_mean 73 = .ok (.lload_n 2, 1) := by decide +kernel
theorem dX11_mean_74 : decode cX11_mean 74 = .ok (.aload_n 0, 1) := by decide +kernel
theorem dX11_mean_75 : decode cX11_mean 75 = .ok (.getfield 17, 3) := by decide +kernel
theorem dX11_mean_78 : decode cX11_mean 78 = .ok (.iload_n 1, 1) := by decide +kernel
theorem dX11_mean_79 : decode cX11_mean 79 = .ok (.iaload, 1) := by decide +kernel
theorem dX11_mean_80 : decode cX11_mean 80 = .ok (.i2l, 1) := by decide +kernel
theorem dX11_mean_81 : decode cX11_mean 81 = .ok (.ldiv, 1) := by decide +kernel
theorem dX11_mean_82 : decode cX11_mean 82 = .ok (.l2i, 1) := by decide +kernel
theorem dX11_mean_83 : decode cX11_mean 83 = .ok (.iconst 1, 1) := by decide +kernel
theorem dX11_mean_84 : decode cX11_mean 84 = .ok (.invokevirtual 105, 3) := by decide +kernel
theorem dX11_mean_87 : decode cX11_mean 87 = .ok (.ireturn, 1) := by decide +kernel
theorem dX11_isText_0 : decode cX11_isText 0 = .ok (.iload_n 0, 1) := by decide +kernel
theorem dX11_isText_1 : decode cX11_isText 1 = .ok (.iconst 0, 1) := by decide +kernel
theorem dX11_isText_2 : decode cX11_isText 2 = .ok (.iconst 3, 1) := by decide +kernel
theorem dX11_isText_3 : decode cX11_isText 3 = .ok (.invokestatic 83, 3) := by decide +kernel
theorem dX11_isText_6 : decode cX11_isText 6 = .ok (.ireturn, 1) := by decide +kernel
theorem dX11_text_0 : decode cX11_text 0 = .ok (.iload_n 1, 1) := by decide +kernel
theorem dX11_text_1 : decode cX11_text 1 = .ok (.invokestatic 108, 3) := by decide +kernel
theorem dX11_text_4 : decode cX11_text 4 = .ok (.ifCond .eq 9, 3) := by decide +kernel
theorem dX11_text_7 : decode cX11_text 7 = .ok (.iload_n 2, 1) := by decide +kernel
theorem dX11_text_8 : decode cX11_text 8 = .ok (.bipush 60, 2) := by decide +kernel
theorem dX11_text_10 : decode cX11_text 10 = .ok (.if_icmp .le 5, 3) := by decide +kernel
theorem dX11_text_13 : decode cX11_text 13 = .ok (.iconst (-1), 1) := by decide +kernel
theorem dX11_text_14 : decode cX11_text 14 = .ok (.ireturn, 1) := by decide +kernel
theorem dX11_text_15 : decode cX11_text 15 = .ok (.iload_n 2, 1) := by decide +kernel
theorem dX11_text_16 : decode cX11_text 16 = .ok (.ifCond .ge 9, 3) := by decide +kernel
theorem dX11_text_19 : decode cX11_text 19 = .ok (.aload_n 0, 1) := by decide +kernel
theorem dX11_text_20 : decode cX11_text 20 = .ok (.iconst 5, 1) := by decide +kernel
theorem dX11_text_21 : decode cX11_text 21 = .ok (.invokevirtual 97, 3) := by decide +kernel
theorem dX11_text_24 : decode cX11_text 24 = .ok (.ireturn, 1) := by decide +kernel
theorem dX11_text_25 : decode cX11_text 25 = .ok (.aload_n 0, 1) := by decide +kernel
theorem dX11_text_26 : decode cX11_text 26 = .ok (.getfield 26, 3) := by decide +kernel
theorem dX11_text_29 : decode cX11_text 29 = .ok (.iload_n 1, 1) := by decide +kernel
theorem dX11_text_30 : decode cX11_text 30 = .ok (.iload_n 2, 1) := by decide +kernel
theorem dX11_text_31 : decode cX11_text 31 = .ok (.iastore, 1) := by decide +kernel
theorem dX11_text_32 : decode cX11_text 32 = .ok (.iconst 0, 1) := by decide +kernel
theorem dX11_text_33 : decode cX11_text 33 = .ok (.istore_n 3, 1) := by decide +kernel
theorem dX11_text_34 : decode cX11_text 34 = .ok (.iload_n 3, 1) := by decide +kernel
theorem dX11_text_35 : decode cX11_text 35 = .ok (.bipush 60, 2) := by decide +kernel
theorem dX11_text_37 : decode cX11_text 37 = .ok (.if_icmp .ge 22, 3) := by decide +kernel
theorem dX11_text_40 : decode cX11_text 40 = .ok (.aload_n 0, 1) := by decide +kernel
theorem dX11_text_41 : decode cX11_text 41 = .ok (.getfield 29, 3) := by decide +kernel
theorem dX11_text_44 : decode cX11_text 44 = .ok (.bipush 60, 2) := by decide +kernel
theorem dX11_text_46 : decode cX11_text 46 = .ok (.iload_n 1, 1) := by decide +kernel
theorem dX11_text_47 : decode cX11_text 47 = .ok (.imul, 1) := by decide +kernel
theorem dX11_text_48 : decode cX11_text 48 = .ok (.iload_n 3, 1) := by decide +kernel
theorem dX11_text_49 : decode cX11_text 49 = .ok (.iadd, 1) := by decide +kernel
theorem dX11_text_50 : decode cX11_text 50 = .ok (.bipush 32, 2) := by decide +kernel
theorem dX11_text_52 : decode cX11_text 52 = .ok (.bastore, 1) := by decide +kernel
theorem dX11_text_53 : decode cX11_text 53 = .ok (.iinc 3 1, 3) := by decide +kernel
theorem dX11_text_56 : decode cX11_text 56 = .ok (.goto (-22), 3) := by decide +kernel
theorem dX11_text_59 : decode cX11_text 59 = .ok (.iload_n 2, 1) := by decide +kernel
theorem dX11_text_60 : decode cX11_text 60 = .ok (.ireturn, 1) := by decide +kernel
theorem dX11_put_0 : decode cX11_put 0 = .ok (.iload_n 1, 1) := by decide +kernel
theorem dX11_put_1 : decode cX11_put 1 = .ok (.invokestatic 108, 3) := by decide +kernel
theorem dX11_put_4 : decode cX11_put 4 = .ok (.ifCond .ne 5, 3) := by decide +kernel
theorem dX11_put_7 : decode cX11_put 7 = .ok (.iconst (-1), 1) := by decide +kernel
theorem dX11_put_8 : decode cX11_put 8 = .ok (.ireturn, 1) := by decide +kernel
theorem dX11_put_9 : decode cX11_put 9 = .ok (.aload_n 0, 1) := by decide +kernel
theorem dX11_put_10 : decode cX11_put 10 = .ok (.getfield 26, 3) := by decide +kernel
theorem dX11_put_13 : decode cX11_put 13 = .ok (.iload_n 1, 1) := by decide +kernel
theorem dX11_put_14 : decode cX11_put 14 = .ok (.iaload, 1) := by decide +kernel
theorem dX11_put_15 : decode cX11_put 15 = .ok (.ifCond .ge 9, 3) := by decide +kernel
theorem dX11_put_18 : decode cX11_put 18 = .ok (.aload_n 0, 1) := by decide +kernel
theorem dX11_put_19 : decode cX11_put 19 = .ok (.iconst 1, 1) := by decide +kernel
theorem dX11_put_20 : decode cX11_put 20 = .ok (.invokevirtual 97, 3) := by decide +kernel
theorem dX11_put_23 : decode cX11_put 23 = .ok (.ireturn, 1) := by decide +kernel
theorem dX11_put_24 : decode cX11_put 24 = .ok (.iload_n 2, 1) := by decide +kernel
theorem dX11_put_25 : decode cX11_put 25 = .ok (.iconst 0, 1) := by decide +kernel
theorem dX11_put_26 : decode cX11_put 26 = .ok (.aload_n 0, 1) := by decide +kernel
theorem dX11_put_27 : decode cX11_put 27 = .ok (.getfield 26, 3) := by decide +kernel
theorem dX11_put_30 : decode cX11_put 30 = .ok (.iload_n 1, 1) := by decide +kernel
theorem dX11_put_31 : decode cX11_put 31 = .ok (.iaload, 1) := by decide +kernel
theorem dX11_put_32 : decode cX11_put 32 = .ok (.iconst 1, 1) := by decide +kernel
theorem dX11_put_33 : decode cX11_put 33 = .ok (.isub, 1) := by decide +kernel
theorem dX11_put_34 : decode cX11_put 34 = .ok (.invokestatic 83, 3) := by decide +kernel
theorem dX11_put_37 : decode cX11_put 37 = .ok (.ifCond .ne 9, 3) := by decide +kernel
theorem dX11_put_40 : decode cX11_put 40 = .ok (.aload_n 0, 1) := by decide +kernel
theorem dX11_put_41 : decode cX11_put 41 = .ok (.iconst 2, 1) := by decide +kernel
theorem dX11_put_42 : decode cX11_put 42 = .ok (.invokevirtual 97, 3) := by decide +kernel
theorem dX11_put_45 : decode cX11_put 45 = .ok (.ireturn, 1) := by decide +kernel
theorem dX11_put_46 : decode cX11_put 46 = .ok (.aload_n 0, 1) := by decide +kernel
theorem dX11_put_47 : decode cX11_put 47 = .ok (.getfield 29, 3) := by decide +kernel
theorem dX11_put_50 : decode cX11_put 50 = .ok (.bipush 60, 2) := by decide +kernel
theorem dX11_put_52 : decode cX11_put 52 = .ok (.iload_n 1, 1) := by decide +kernel
theorem dX11_put_53 : decode cX11_put 53 = .ok (.imul, 1) := by decide +kernel
theorem dX11_put_54 : decode cX11_put 54 = .ok (.iload_n 2, 1) := by decide +kernel
theorem dX11_put_55 : decode cX11_put 55 = .ok (.iadd, 1) := by decide +kernel
theorem dX11_put_56 : decode cX11_put 56 = .ok (.baload, 1) := by decide +kernel
theorem dX11_put_57 : decode cX11_put 57 = .ok (.istore 4, 2) := by decide +kernel
theorem dX11_put_59 : decode cX11_put 59 = .ok (.aload_n 0, 1) := by decide +kernel
theorem dX11_put_60 : decode cX11_put 60 = .ok (.getfield 29, 3) := by decide +kernel
theorem dX11_put_63 : decode cX11_put 63 = .ok (.bipush 60, 2) := by decide +kernel
theorem dX11_put_65 : decode cX11_put 65 = .ok (.iload_n 1, 1) := by decide +kernel
theorem dX11_put_66 : decode cX11_put 66 = .ok (.imul, 1) := by decide +kernel
theorem dX11_put_67 : decode cX11_put 67 = .ok (.iload_n 2, 1) := by decide +kernel
theorem dX11_put_68 : decode cX11_put 68 = .ok (.iadd, 1) := by decide +kernel
theorem dX11_put_69 : decode cX11_put 69 = .ok (.iload_n 3, 1) := by decide +kernel
theorem dX11_put_70 : decode cX11_put 70 = .ok (.i2b, 1) := by decide +kernel
theorem dX11_put_71 : decode cX11_put 71 = .ok (.bastore, 1) := by decide +kernel
theorem dX11_put_72 : decode cX11_put 72 = .ok (.sipush 1000, 3) := by decide +kernel
theorem dX11_put_75 : decode cX11_put 75 = .ok (.iload 4, 2) := by decide +kernel
theorem dX11_put_77 : decode cX11_put 77 = .ok (.iadd, 1) := by decide +kernel
theorem dX11_put_78 : decode cX11_put 78 = .ok (.ireturn, 1) := by decide +kernel
theorem dX11_byteAt_0 : decode cX11_byteAt 0 = .ok (.iload_n 2, 1) := by decide +kernel
theorem dX11_byteAt_1 : decode cX11_byteAt 1 = .ok (.aload_n 0, 1) := by decide +kernel
theorem dX11_byteAt_2 : decode cX11_byteAt 2 = .ok (.getfield 26, 3) := by decide +kernel
theorem dX11_byteAt_5 : decode cX11_byteAt 5 = .ok (.iload_n 1, 1) := by decide +kernel
theorem dX11_byteAt_6 : decode cX11_byteAt 6 = .ok (.iaload, 1) := by decide +kernel
theorem dX11_byteAt_7 : decode cX11_byteAt 7 = .ok (.if_icmp .ge 17, 3) := by decide +kernel
theorem dX11_byteAt_10 : decode cX11_byteAt 10 = .ok (.aload_n 0, 1) := by decide +kernel
theorem dX11_byteAt_11 : decode cX11_byteAt 11 = .ok (.getfield 29, 3) := by decide +kernel
theorem dX11_byteAt_14 : decode cX11_byteAt 14 = .ok (.bipush 60, 2) := by decide +kernel
theorem dX11_byteAt_16 : decode cX11_byteAt 16 = .ok (.iload_n 1, 1) := by decide +kernel
theorem dX11_byteAt_17 : decode cX11_byteAt 17 = .ok (.imul, 1) := by decide +kernel
theorem dX11_byteAt_18 : decode cX11_byteAt 18 = .ok (.iload_n 2, 1) := by decide +kernel
theorem dX11_byteAt_19 : decode cX11_byteAt 19 = .ok (.iadd, 1) := by decide +kernel
theorem dX11_byteAt_20 : decode cX11_byteAt 20 = .ok (.baload, 1) := by decide +kernel
theorem dX11_byteAt_21 : decode cX11_byteAt 21 = .ok (.goto 4, 3) := by decide +kernel
theorem dX11_byteAt_24 : decode cX11_byteAt 24 = .ok (.iconst 0, 1) := by decide +kernel
theorem dX11_byteAt_25 : decode cX11_byteAt 25 = .ok (.ireturn, 1) := by decide +kernel
theorem dX11_layRow_0 : decode cX11_layRow 0 = .ok (.aload_n 0, 1) := by decide +kernel
theorem dX11_layRow_1 : decode cX11_layRow 1 = .ok (.getfield 17, 3) := by decide +kernel
theorem dX11_layRow_4 : decode cX11_layRow 4 = .ok (.iload_n 1, 1) := by decide +kernel
theorem dX11_layRow_5 : decode cX11_layRow 5 = .ok (.iload_n 3, 1) := by decide +kernel
theorem dX11_layRow_6 : decode cX11_layRow 6 = .ok (.iastore, 1) := by decide +kernel
theorem dX11_layRow_7 : decode cX11_layRow 7 = .ok (.iconst 0, 1) := by decide +kernel
theorem dX11_layRow_8 : decode cX11_layRow 8 = .ok (.istore 4, 2) := by decide +kernel
theorem dX11_layRow_10 : decode cX11_layRow 10 = .ok (.iload 4, 2) := by decide +kernel
theorem dX11_layRow_12 : decode cX11_layRow 12 = .ok (.bipush 40, 2) := by decide +kernel
theorem dX11_layRow_14 : decode cX11_layRow 14 = .ok (.if_icmp .ge 35, 3) := by decide +kernel
theorem dX11_layRow_17 : decode cX11_layRow 17 = .ok (.aload_n 0, 1) := by decide +kernel
theorem dX11_layRow_18 : decode cX11_layRow 18 = .ok (.getfield 20, 3) := by decide +kernel
theorem dX11_layRow_21 : decode cX11_layRow 21 = .ok (.bipush 40, 2) := by decide +kernel
theorem dX11_layRow_23 : decode cX11_layRow 23 = .ok (.iload_n 1, 1) := by decide +kernel
theorem dX11_layRow_24 : decode cX11_layRow 24 = .ok (.imul, 1) := by decide +kernel
theorem dX11_layRow_25 : decode cX11_layRow 25 = .ok (.iload 4, 2) := by decide +kernel
theorem dX11_layRow_27 : decode cX11_layRow 27 = .ok (.iadd, 1) := by decide +kernel
theorem dX11_layRow_28 : decode cX11_layRow 28 = .ok (.iload 4, 2) := by decide +kernel
theorem dX11_layRow_30 : decode cX11_layRow 30 = .ok (.iload_n 3, 1) := by decide +kernel
theorem dX11_layRow_31 : decode cX11_layRow 31 = .ok (.if_icmp .ge 10, 3) := by decide +kernel
theorem dX11_layRow_34 : decode cX11_layRow 34 = .ok (.aload_n 2, 1) := by decide +kernel
theorem dX11_layRow_35 : decode cX11_layRow 35 = .ok (.iload 4, 2) := by decide +kernel
theorem dX11_layRow_37 : decode cX11_layRow 37 = .ok (.iaload, 1) := by decide +kernel
theorem dX11_layRow_38 : decode cX11_layRow 38 = .ok (.goto 4, 3) := by decide +kernel
theorem dX11_layRow_41 : decode cX11_layRow 41 = .ok (.iconst 0, 1) := by decide +kernel
theorem dX11_layRow_42 : decode cX11_layRow 42 = .ok (.iastore, 1) := by decide +kernel
theorem dX11_layRow_43 : decode cX11_layRow 43 = .ok (.iinc 4 1, 3) := by decide +kernel
theorem dX11_layRow_46 : decode cX11_layRow 46 = .ok (.goto (-36), 3) := by decide +kernel
theorem dX11_layRow_49 : decode cX11_layRow 49 = .ok (.return_, 1) := by decide +kernel
theorem dX11_kindOf_0 : decode cX11_kindOf 0 = .ok (.iload_n 0, 1) := by decide +kernel
theorem dX11_kindOf_1 : decode cX11_kindOf 1 = .ok (.tableswitch 95 100 116 #[89, 95, 95, 95, 83, 93, 95, 95, 95, 95, 95, 95, 85, 95, 95, 87, 91], 83) := by decide +kernel
theorem dX11_kindOf_84 : decode cX11_kindOf 84 = .ok (.iconst 0, 1) := by decide +kernel
theorem dX11_kindOf_85 : decode cX11_kindOf 85 = .ok (.ireturn, 1) := by decide +kernel
theorem dX11_kindOf_86 : decode cX11_kindOf 86 = .ok (.iconst 1, 1) := by decide +kernel
theorem dX11_kindOf_87 : decode cX11_kindOf 87 = .ok (.ireturn, 1) := by decide +kernel
theorem dX11_kindOf_88 : decode cX11_kindOf 88 = .ok (.iconst 2, 1) := by decide +kernel
theorem dX11_kindOf_89 : decode cX11_kindOf 89 = .ok (.ireturn, 1) := by decide +kernel
theorem dX11_kindOf_90 : decode cX11_kindOf 90 = .ok (.iconst 3, 1) := by decide +kernel
theorem dX11_kindOf_91 : decode cX11_kindOf 91 = .ok (.ireturn, 1) := by decide +kernel
theorem dX11_kindOf_92 : decode cX11_kindOf 92 = .ok (.iconst 4, 1) := by decide +kernel
theorem dX11_kindOf_93 : decode cX11_kindOf 93 = .ok (.ireturn, 1) := by decide +kernel
theorem dX11_kindOf_94 : decode cX11_kindOf 94 = .ok (.iconst 5, 1) := by decide +kernel
theorem dX11_kindOf_95 : decode cX11_kindOf 95 = .ok (.ireturn, 1) := by decide +kernel
theorem dX11_kindOf_96 : decode cX11_kindOf 96 = .ok (.bipush (-9), 2) := by decide +kernel
theorem dX11_kindOf_98 : decode cX11_kindOf 98 = .ok (.ireturn, 1) := by decide +kernel
theorem dX11_figureAt_0 : decode cX11_figureAt 0 = .ok (.aload_n 0, 1) := by decide +kernel
theorem dX11_figureAt_1 : decode cX11_figureAt 1 = .ok (.iload_n 1, 1) := by decide +kernel
theorem dX11_figureAt_2 : decode cX11_figureAt 2 = .ok (.aload_n 0, 1) := by decide +kernel
theorem dX11_figureAt_3 : decode cX11_figureAt 3 = .ok (.getfield 111, 3) := by decide +kernel
theorem dX11_figureAt_6 : decode cX11_figureAt 6 = .ok (.invokevirtual 114, 3) := by decide +kernel
theorem dX11_figureAt_9 : decode cX11_figureAt 9 = .ok (.bipush 48, 2) := by decide +kernel
theorem dX11_figureAt_11 : decode cX11_figureAt 11 = .ok (.isub, 1) := by decide +kernel
theorem dX11_figureAt_12 : decode cX11_figureAt 12 = .ok (.istore_n 2, 1) := by decide +kernel
theorem dX11_figureAt_13 : decode cX11_figureAt 13 = .ok (.iload_n 2, 1) := by decide +kernel
theorem dX11_figureAt_14 : decode cX11_figureAt 14 = .ok (.iconst 0, 1) := by decide +kernel
theorem dX11_figureAt_15 : decode cX11_figureAt 15 = .ok (.bipush 9, 2) := by decide +kernel
theorem dX11_figureAt_17 : decode cX11_figureAt 17 = .ok (.invokestatic 83, 3) := by decide +kernel
theorem dX11_figureAt_20 : decode cX11_figureAt 20 = .ok (.ifCond .eq 7, 3) := by decide +kernel
theorem dX11_figureAt_23 : decode cX11_figureAt 23 = .ok (.iload_n 2, 1) := by decide +kernel
theorem dX11_figureAt_24 : decode cX11_figureAt 24 = .ok (.goto 5, 3) := by decide +kernel
theorem dX11_figureAt_27 : decode cX11_figureAt 27 = .ok (.bipush (-9), 2) := by decide +kernel
theorem dX11_figureAt_29 : decode cX11_figureAt 29 = .ok (.ireturn, 1) := by decide +kernel
theorem dX11_readsWinds_0 : decode cX11_readsWinds 0 = .ok (.aload_n 0, 1) := by decide +kernel
theorem dX11_readsWinds_1 : decode cX11_readsWinds 1 = .ok (.iload_n 1, 1) := by decide +kernel
theorem dX11_readsWinds_2 : decode cX11_readsWinds 2 = .ok (.aload_n 0, 1) := by decide +kernel
theorem dX11_readsWinds_3 : decode cX11_readsWinds 3 = .ok (.getfield 111, 3) := by decide +kernel
theorem dX11_readsWinds_6 : decode cX11_readsWinds 6 = .ok (.invokevirtual 114, 3) := by decide +kernel
theorem dX11_readsWinds_9 : decode cX11_readsWinds 9 = .ok (.bipush 118, 2) := by decide +kernel
theorem dX11_readsWinds_11 : decode cX11_readsWinds 11 = .ok (.if_icmp .eq 5, 3) := by decide +kernel
theorem dX11_readsWinds_14 : decode cX11_readsWinds 14 = .ok (.iconst 0, 1) := by decide +kernel
theorem dX11_readsWinds_15 : decode cX11_readsWinds 15 = .ok (.ireturn, 1) := by decide +kernel
theorem dX11_readsWinds_16 : decode cX11_readsWinds 16 = .ok (.aload_n 0, 1) := by decide +kernel
theorem dX11_readsWinds_17 : decode cX11_readsWinds 17 = .ok (.dup, 1) := by decide +kernel
theorem dX11_readsWinds_18 : decode cX11_readsWinds 18 = .ok (.getfield 111, 3) := by decide +kernel
theorem dX11_readsWinds_21 : decode cX11_readsWinds 21 = .ok (.iconst 1, 1) := by decide +kernel
theorem dX11_readsWinds_22 : decode cX11_readsWinds 22 = .ok (.iadd, 1) := by decide +kernel
theorem dX11_readsWinds_23 : decode cX11_readsWinds 23 = .ok (.putfield 111, 3) := by decide +kernel
theorem dX11_readsWinds_26 : decode cX11_readsWinds 26 = .ok (.aload_n 0, 1) := by decide +kernel
theorem dX11_readsWinds_27 : decode cX11_readsWinds 27 = .ok (.iload_n 1, 1) := by decide +kernel
theorem dX11_readsWinds_28 : decode cX11_readsWinds 28 = .ok (.invokevirtual 117, 3) := by decide +kernel
theorem dX11_readsWinds_31 : decode cX11_readsWinds 31 = .ok (.bipush (-9), 2) := by decide +kernel
theorem dX11_readsWinds_33 : decode cX11_readsWinds 33 = .ok (.if_icmp .eq 60, 3) := by decide +kernel
theorem dX11_readsWinds_36 : decode cX11_readsWinds 36 = .ok (.aload_n 0, 1) := by decide +kernel
theorem dX11_readsWinds_37 : decode cX11_readsWinds 37 = .ok (.iload_n 1, 1) := by decide +kernel
theorem dX11_readsWinds_38 : decode cX11_readsWinds 38 = .ok (.invokevirtual 117, 3) := by decide +kernel
theorem dX11_readsWinds_41 : decode cX11_readsWinds 41 = .ok (.iconst 2, 1) := by decide +kernel
theorem dX11_readsWinds_42 : decode cX11_readsWinds 42 = .ok (.if_icmp .gt 12, 3) := by decide +kernel
theorem dX11_readsWinds_45 : decode cX11_readsWinds 45 = .ok (.aload_n 0, 1) := by decide +kernel
theorem dX11_readsWinds_46 : decode cX11_readsWinds 46 = .ok (.getfield 120, 3) := by decide +kernel
theorem dX11_readsWinds_49 : decode cX11_readsWinds 49 = .ok (.bipush 6, 2) := by decide +kernel
theorem dX11_readsWinds_51 : decode cX11_readsWinds 51 = .ok (.if_icmp .ne 5, 3) := by decide +kernel
theorem dX11_readsWinds_54 : decode cX11_readsWinds 54 = .ok (.iconst 0, 1) := by decide +kernel
theorem dX11_readsWinds_55 : decode cX11_readsWinds 55 = .ok (.ireturn, 1) := by decide +kernel
theorem dX11_readsWinds_56 : decode cX11_readsWinds 56 = .ok (.aload_n 0, 1) := by decide +kernel
theorem dX11_readsWinds_57 : decode cX11_readsWinds 57 = .ok (.getfield 42, 3) := by decide +kernel
theorem dX11_readsWinds_60 : decode cX11_readsWinds 60 = .ok (.aload_n 0, 1) := by decide +kernel
theorem dX11_readsWinds_61 : decode cX11_readsWinds 61 = .ok (.getfield 120, 3) := by decide +kernel
theorem dX11_readsWinds_64 : decode cX11_readsWinds 64 = .ok (.aload_n 0, 1) := by decide +kernel
theorem dX11_readsWinds_65 : decode cX11_readsWinds 65 = .ok (.iload_n 1, 1) := by decide +kernel
theorem dX11_readsWinds_66 : decode cX11_readsWinds 66 = .ok (.invokevirtual 117, 3) := by decide +kernel
theorem dX11_readsWinds_69 : decode cX11_readsWinds 69 = .ok (.iastore, 1) := by decide +kernel
theorem dX11_readsWinds_70 : decode cX11_readsWinds 70 = .ok (.aload_n 0, 1) := by decide +kernel
theorem dX11_readsWinds_71 : decode cX11_readsWinds 71 = .ok (.dup, 1) := by decide +kernel
theorem dX11_readsWinds_72 : decode cX11_readsWinds 72 = .ok (.getfield 120, 3) := by decide +kernel
theorem dX11_readsWinds_75 : decode cX11_readsWinds 75 = .ok (.iconst 1, 1) := by decide +kernel
theorem dX11_readsWinds_76 : decode cX11_readsWinds 76 = .ok (.iadd, 1) := by decide +kernel
theorem dX11_readsWinds_77 : decode cX11_readsWinds 77 = .ok (.putfield 120, 3) := by decide +kernel
theorem dX11_readsWinds_80 : decode cX11_readsWinds 80 = .ok (.aload_n 0, 1) := by decide +kernel
theorem dX11_readsWinds_81 : decode cX11_readsWinds 81 = .ok (.dup, 1) := by decide +kernel
theorem dX11_readsWinds_82 : decode cX11_readsWinds 82 = .ok (.getfield 111, 3) := by decide +kernel
theorem dX11_readsWinds_85 : decode cX11_readsWinds 85 = .ok (.iconst 1, 1) := by decide +kernel
theorem dX11_readsWinds_86 : decode cX11_readsWinds 86 = .ok (.iadd, 1) := by decide +kernel
theorem dX11_readsWinds_87 : decode cX11_readsWinds 87 = .ok (.putfield 111, 3) := by decide +kernel
theorem dX11_readsWinds_90 : decode cX11_readsWinds 90 = .ok (.goto (-64), 3) := by decide +kernel
theorem dX11_readsWinds_93 : decode cX11_readsWinds 93 = .ok (.aload_n 0, 1) := by decide +kernel
theorem dX11_readsWinds_94 : decode cX11_readsWinds 94 = .ok (.getfield 120, 3) := by decide +kernel
theorem dX11_readsWinds_97 : decode cX11_readsWinds 97 = .ok (.ifCond .le 7, 3) := by decide +kernel
theorem dX11_readsWinds_100 : decode cX11_readsWinds 100 = .ok (.iconst 1, 1) := by decide +kernel
theorem dX11_readsWinds_101 : decode cX11_readsWinds 101 = .ok (.goto 4, 3) := by decide +kernel
theorem dX11_readsWinds_104 : decode cX11_readsWinds 104 = .ok (.iconst 0, 1) := by decide +kernel
theorem dX11_readsWinds_105 : decode cX11_readsWinds 105 = .ok (.ireturn, 1) := by decide +kernel
theorem dX11_readsHouse_0 : decode cX11_readsHouse 0 = .ok (.aload_n 0, 1) := by decide +kernel
theorem dX11_readsHouse_1 : decode cX11_readsHouse 1 = .ok (.iload_n 1, 1) := by decide +kernel
theorem dX11_readsHouse_2 : decode cX11_readsHouse 2 = .ok (.aload_n 0, 1) := by decide +kernel
theorem dX11_readsHouse_3 : decode cX11_readsHouse 3 = .ok (.getfield 111, 3) := by decide +kernel
theorem dX11_readsHouse_6 : decode cX11_readsHouse 6 = .ok (.invokevirtual 114, 3) := by decide +kernel
theorem dX11_readsHouse_9 : decode cX11_readsHouse 9 = .ok (.invokestatic 123, 3) := by decide +kernel
theorem dX11_readsHouse_12 : decode cX11_readsHouse 12 = .ok (.istore_n 2, 1) := by decide +kernel
theorem dX11_readsHouse_13 : decode cX11_readsHouse 13 = .ok (.iload_n 2, 1) := by decide +kernel
theorem dX11_readsHouse_14 : decode cX11_readsHouse 14 = .ok (.bipush (-9), 2) := by decide +kernel
theorem dX11_readsHouse_16 : decode cX11_readsHouse 16 = .ok (.if_icmp .eq 11, 3) := by decide +kernel
theorem dX11_readsHouse_19 : decode cX11_readsHouse 19 = .ok (.aload_n 0, 1) := by decide +kernel
theorem dX11_readsHouse_20 : decode cX11_readsHouse 20 = .ok (.getfield 126, 3) := by decide +kernel
theorem dX11_readsHouse_23 : decode cX11_readsHouse 23 = .ok (.iconst 5, 1) := by decide +kernel
theorem dX11_readsHouse_24 : decode cX11_readsHouse 24 = .ok (.if_icmp .ne 5, 3) := by decide +kernel
theorem dX11_readsHouse_27 : decode cX11_readsHouse 27 = .ok (.iconst 0, 1) := by decide +kernel
theorem dX11_readsHouse_28 : decode cX11_readsHouse 28 = .ok (.ireturn, 1) := by decide +kernel
theorem dX11_readsHouse_29 : decode cX11_readsHouse 29 = .ok (.iconst 4, 1) := by decide +kernel
theorem dX11_readsHouse_30 : decode cX11_readsHouse 30 = .ok (.aload_n 0, 1) := by decide +kernel
theorem dX11_readsHouse_31 : decode cX11_readsHouse 31 = .ok (.getfield 126, 3) := by decide +kernel
theorem dX11_readsHouse_34 : decode cX11_readsHouse 34 = .ok (.imul, 1) := by decide +kernel
theorem dX11_readsHouse_35 : decode cX11_readsHouse 35 = .ok (.istore_n 3, 1) := by decide +kernel
theorem dX11_readsHouse_36 : decode cX11_readsHouse 36 = .ok (.aload_n 0, 1) := by decide +kernel
theorem dX11_readsHouse_37 : decode cX11_readsHouse 37 = .ok (.dup, 1) := by decide +kernel
theorem dX11_readsHouse_38 : decode cX11_readsHouse 38 = .ok (.getfield 111, 3) := by decide +kernel
theorem dX11_readsHouse_41 : decode cX11_readsHouse 41 = .ok (.iconst 1, 1) := by decide +kernel
theorem dX11_readsHouse_42 : decode cX11_readsHouse 42 = .ok (.iadd, 1) := by decide +kernel
theorem dX11_readsHouse_43 : decode cX11_readsHouse 43 = .ok (.putfield 111, 3) := by decide +kernel
theorem dX11_readsHouse_46 : decode cX11_readsHouse 46 = .ok (.aload_n 0, 1) := by decide +kernel
theorem dX11_readsHouse_47 : decode cX11_readsHouse 47 = .ok (.getfield 45, 3) := by decide +kernel
theorem dX11_readsHouse_50 : decode cX11_readsHouse 50 = .ok (.iload_n 3, 1) := by decide +kernel
theorem dX11_readsHouse_51 : decode cX11_readsHouse 51 = .ok (.iload_n 2, 1) := by decide +kernel
theorem dX11_readsHouse_52 : decode cX11_readsHouse 52 = .ok (.iastore, 1) := by decide +kernel
theorem dX11_readsHouse_53 : decode cX11_readsHouse 53 = .ok (.iconst 1, 1) := by decide +kernel
theorem dX11_readsHouse_54 : decode cX11_readsHouse 54 = .ok (.istore 4, 2) := by decide +kernel
theorem dX11_readsHouse_56 : decode cX11_readsHouse 56 = .ok (.iload 4, 2) := by decide +kernel
theorem dX11_readsHouse_58 : decode cX11_readsHouse 58 = .ok (.iconst 3, 1) := by decide +kernel
theorem dX11_readsHouse_59 : decode cX11_readsHouse 59 = .ok (.if_icmp .ge 58, 3) := by decide +kernel
theorem dX11_readsHouse_62 : decode cX11_readsHouse 62 = .ok (.aload_n 0, 1) := by decide +kernel
theorem dX11_readsHouse_63 : decode cX11_readsHouse 63 = .ok (.iload_n 1, 1) := by decide +kernel
theorem dX11_readsHouse_64 : decode cX11_readsHouse 64 = .ok (.invokevirtual 117, 3) := by decide +kernel
theorem dX11_readsHouse_67 : decode cX11_readsHouse 67 = .ok (.istore 5, 2) := by decide +kernel
theorem dX11_readsHouse_69 : decode cX11_readsHouse 69 = .ok (.iload 5, 2) := by decide +kernel
theorem dX11_readsHouse_71 : decode cX11_readsHouse 71 = .ok (.bipush (-9), 2) := by decide +kernel
theorem dX11_readsHouse_73 : decode cX11_readsHouse 73 = .ok (.if_icmp .eq 15, 3) := by decide +kernel
theorem dX11_readsHouse_76 : decode cX11_readsHouse 76 = .ok (.iload 4, 2) := by decide +kernel
theorem dX11_readsHouse_78 : decode cX11_readsHouse 78 = .ok (.iconst 2, 1) := by decide +kernel
theorem dX11_readsHouse_79 : decode cX11_readsHouse 79 = .ok (.if_icmp .ne 11, 3) := by decide +kernel
theorem dX11_readsHouse_82 : decode cX11_readsHouse 82 = .ok (.iload 5, 2) := by decide +kernel
theorem dX11_readsHouse_84 : decode cX11_readsHouse 84 = .ok (.iconst 3, 1) := by decide +kernel
theorem dX11_readsHouse_85 : decode cX11_readsHouse 85 = .ok (.if_icmp .le 5, 3) := by decide +kernel
theorem dX11_readsHouse_88 : decode cX11_readsHouse 88 = .ok (.iconst 0, 1) := by decide +kernel
theorem dX11_readsHouse_89 : decode cX11_readsHouse 89 = .ok (.ireturn, 1) := by decide +kernel
theorem dX11_readsHouse_90 : decode cX11_readsHouse 90 = .ok (.aload_n 0, 1) := by decide +kernel
theorem dX11_readsHouse_91 : decode cX11_readsHouse 91 = .ok (.getfield 45, 3) := by decide +kernel
theorem dX11_readsHouse_94 : decode cX11_readsHouse 94 = .ok (.iload_n 3, 1) := by decide +kernel
theorem dX11_readsHouse_95 : decode cX11_readsHouse 95 = .ok (.iload 4, 2) := by decide +kernel
theorem dX11_readsHouse_97 : decode cX11_readsHouse 97 = .ok (.iadd, 1) := by decide +kernel
theorem dX11_readsHouse_98 : decode cX11_readsHouse 98 = .ok (.iload 5, 2) := by decide +kernel
theorem dX11_readsHouse_100 : decode cX11_readsHouse 100 = .ok (.iastore, 1) := by decide +kernel
theorem dX11_readsHouse_101 : decode cX11_readsHouse 101 = .ok (.aload_n 0, 1) := by decide +kernel
theorem dX11_readsHouse_102 : decode cX11_readsHouse 102 = .ok (.dup, 1) := by decide +kernel
theorem dX11_readsHouse_103 : decode cX11_readsHouse 103 = .ok (.getfield 111, 3) := by decide +kernel
theorem dX11_readsHouse_106 : decode cX11_readsHouse 106 = .ok (.iconst 1, 1) := by decide +kernel
theorem dX11_readsHouse_107 : decode cX11_readsHouse 107 = .ok (.iadd, 1) := by decide +kernel
theorem dX11_readsHouse_108 : decode cX11_readsHouse 108 = .ok (.putfield 111, 3) := by decide +kernel
theorem dX11_readsHouse_111 : decode cX11_readsHouse 111 = .ok (.iinc 4 1, 3) := by decide +kernel
theorem dX11_readsHouse_114 : decode cX11_readsHouse 114 = .ok (.goto (-58), 3) := by decide +kernel
theorem dX11_readsHouse_117 : decode cX11_readsHouse 117 = .ok (.aload_n 0, 1) := by decide +kernel
theorem dX11_readsHouse_118 : decode cX11_readsHouse 118 = .ok (.iload_n 1, 1) := by decide +kernel
theorem dX11_readsHouse_119 : decode cX11_readsHouse 119 = .ok (.aload_n 0, 1) := by decide +kernel
theorem dX11_readsHouse_120 : decode cX11_readsHouse 120 = .ok (.getfield 111, 3) := by decide +kernel
theorem dX11_readsHouse_123 : decode cX11_readsHouse 123 = .ok (.invokevirtual 114, 3) := by decide +kernel
theorem dX11_readsHouse_126 : decode cX11_readsHouse 126 = .ok (.bipush 45, 2) := by decide +kernel
theorem dX11_readsHouse_128 : decode cX11_readsHouse 128 = .ok (.if_icmp .eq 15, 3) := by decide +kernel
theorem dX11_readsHouse_131 : decode cX11_readsHouse 131 = .ok (.aload_n 0, 1) := by decide +kernel
theorem dX11_readsHouse_132 : decode cX11_readsHouse 132 = .ok (.iload_n 1, 1) := by decide +kernel
theorem dX11_readsHouse_133 : decode cX11_readsHouse 133 = .ok (.invokevirtual 117, 3) := by decide +kernel
theorem dX11_readsHouse_136 : decode cX11_readsHouse 136 = .ok (.bipush (-9), 2) := by decide +kernel
theorem dX11_readsHouse_138 : decode cX11_readsHouse 138 = .ok (.if_icmp .ne 5, 3) := by decide +kernel
theorem dX11_readsHouse_141 : decode cX11_readsHouse 141 = .ok (.iconst 0, 1) := by decide +kernel
theorem dX11_readsHouse_142 : decode cX11_readsHouse 142 = .ok (.ireturn, 1) := by decide +kernel
theorem dX11_readsHouse_143 : decode cX11_readsHouse 143 = .ok (.aload_n 0, 1) := by decide +kernel
theorem dX11_readsHouse_144 : decode cX11_readsHouse 144 = .ok (.getfield 45, 3) := by decide +kernel
theorem dX11_readsHouse_147 : decode cX11_readsHouse 147 = .ok (.iload_n 3, 1) := by decide +kernel
theorem dX11_readsHouse_148 : decode cX11_readsHouse 148 = .ok (.iconst 3, 1) := by decide +kernel
theorem dX11_readsHouse_149 : decode cX11_readsHouse 149 = .ok (.iadd, 1) := by decide +kernel
theorem dX11_readsHouse_150 : decode cX11_readsHouse 150 = .ok (.aload_n 0, 1) := by decide +kernel
theorem dX11_readsHouse_151 : decode cX11_readsHouse 151 = .ok (.iload_n 1, 1) := by decide +kernel
theorem dX11_readsHouse_152 : decode cX11_readsHouse 152 = .ok (.invokevirtual 117, 3) := by decide +kernel
theorem dX11_readsHouse_155 : decode cX11_readsHouse 155 = .ok (.iastore, 1) := by decide +kernel
theorem dX11_readsHouse_156 : decode cX11_readsHouse 156 = .ok (.aload_n 0, 1) := by decide +kernel
theorem dX11_readsHouse_157 : decode cX11_readsHouse 157 = .ok (.dup, 1) := by decide +kernel
theorem dX11_readsHouse_158 : decode cX11_readsHouse 158 = .ok (.getfield 111, 3) := by decide +kernel
theorem dX11_readsHouse_161 : decode cX11_readsHouse 161 = .ok (.iconst 1, 1) := by decide +kernel
theorem dX11_readsHouse_162 : decode cX11_readsHouse 162 = .ok (.iadd, 1) := by decide +kernel
theorem dX11_readsHouse_163 : decode cX11_readsHouse 163 = .ok (.putfield 111, 3) := by decide +kernel
theorem dX11_readsHouse_166 : decode cX11_readsHouse 166 = .ok (.aload_n 0, 1) := by decide +kernel
theorem dX11_readsHouse_167 : decode cX11_readsHouse 167 = .ok (.dup, 1) := by decide +kernel
theorem dX11_readsHouse_168 : decode cX11_readsHouse 168 = .ok (.getfield 126, 3) := by decide +kernel
theorem dX11_readsHouse_171 : decode cX11_readsHouse 171 = .ok (.iconst 1, 1) := by decide +kernel
theorem dX11_readsHouse_172 : decode cX11_readsHouse 172 = .ok (.iadd, 1) := by decide +kernel
theorem dX11_readsHouse_173 : decode cX11_readsHouse 173 = .ok (.putfield 126, 3) := by decide +kernel
theorem dX11_readsHouse_176 : decode cX11_readsHouse 176 = .ok (.iconst 1, 1) := by decide +kernel
theorem dX11_readsHouse_177 : decode cX11_readsHouse 177 = .ok (.ireturn, 1) := by decide +kernel
theorem dX11_faultOf_0 : decode cX11_faultOf 0 = .ok (.aload_n 0, 1) := by decide +kernel
theorem dX11_faultOf_1 : decode cX11_faultOf 1 = .ok (.iconst 0, 1) := by decide +kernel
theorem dX11_faultOf_2 : decode cX11_faultOf 2 = .ok (.putfield 111, 3) := by decide +kernel
theorem dX11_faultOf_5 : decode cX11_faultOf 5 = .ok (.aload_n 0, 1) := by decide +kernel
theorem dX11_faultOf_6 : decode cX11_faultOf 6 = .ok (.iconst 0, 1) := by decide +kernel
theorem dX11_faultOf_7 : decode cX11_faultOf 7 = .ok (.putfield 126, 3) := by decide +kernel
theorem dX11_faultOf_10 : decode cX11_faultOf 10 = .ok (.aload_n 0, 1) := by decide +kernel
theorem dX11_faultOf_11 : decode cX11_faultOf 11 = .ok (.iconst 0, 1) := by decide +kernel
theorem dX11_faultOf_12 : decode cX11_faultOf 12 = .ok (.putfield 120, 3) := by decide +kernel
theorem dX11_faultOf_15 : decode cX11_faultOf 15 = .ok (.aload_n 0, 1) := by decide +kernel
theorem dX11_faultOf_16 : decode cX11_faultOf 16 = .ok (.getfield 111, 3) := by decide +kernel
theorem dX11_faultOf_19 : decode cX11_faultOf 19 = .ok (.aload_n 0, 1) := by decide +kernel
theorem dX11_faultOf_20 : decode cX11_faultOf 20 = .ok (.getfield 26, 3) := by decide +kernel
theorem dX11_faultOf_23 : decode cX11_faultOf 23 = .ok (.iload_n 1, 1) := by decide +kernel
theorem dX11_faultOf_24 : decode cX11_faultOf 24 = .ok (.iaload, 1) := by decide +kernel
theorem dX11_faultOf_25 : decode cX11_faultOf 25 = .ok (.if_icmp .ge 61, 3) := by decide +kernel
theorem dX11_faultOf_28 : decode cX11_faultOf 28 = .ok (.aload_n 0, 1) := by decide +kernel
theorem dX11_faultOf_29 : decode cX11_faultOf 29 = .ok (.iload_n 1, 1) := by decide +kernel
theorem dX11_faultOf_30 : decode cX11_faultOf 30 = .ok (.aload_n 0, 1) := by decide +kernel
theorem dX11_faultOf_31 : decode cX11_faultOf 31 = .ok (.getfield 111, 3) := by decide +kernel
theorem dX11_faultOf_34 : decode cX11_faultOf 34 = .ok (.invokevirtual 114, 3) := by decide +kernel
theorem dX11_faultOf_37 : decode cX11_faultOf 37 = .ok (.bipush 32, 2) := by decide +kernel
theorem dX11_faultOf_39 : decode cX11_faultOf 39 = .ok (.if_icmp .ne 16, 3) := by decide +kernel
theorem dX11_faultOf_42 : decode cX11_faultOf 42 = .ok (.aload_n 0, 1) := by decide +kernel
theorem dX11_faultOf_43 : decode cX11_faultOf 43 = .ok (.dup, 1) := by decide +kernel
theorem dX11_faultOf_44 : decode cX11_faultOf 44 = .ok (.getfield 111, 3) := by decide +kernel
theorem dX11_faultOf_47 : decode cX11_faultOf 47 = .ok (.iconst 1, 1) := by decide +kernel
theorem dX11_faultOf_48 : decode cX11_faultOf 48 = .ok (.iadd, 1) := by decide +kernel
theorem dX11_faultOf_49 : decode cX11_faultOf 49 = .ok (.putfield 111, 3) := by decide +kernel
theorem dX11_faultOf_52 : decode cX11_faultOf 52 = .ok (.goto (-37), 3) := by decide +kernel
theorem dX11_faultOf_55 : decode cX11_faultOf 55 = .ok (.aload_n 0, 1) := by decide +kernel
theorem dX11_faultOf_56 : decode cX11_faultOf 56 = .ok (.getfield 120, 3) := by decide +kernel
theorem dX11_faultOf_59 : decode cX11_faultOf 59 = .ok (.ifCond .ne 14, 3) := by decide +kernel
theorem dX11_faultOf_62 : decode cX11_faultOf 62 = .ok (.aload_n 0, 1) := by decide +kernel
theorem dX11_faultOf_63 : decode cX11_faultOf 63 = .ok (.iload_n 1, 1) := by decide +kernel
theorem dX11_faultOf_64 : decode cX11_faultOf 64 = .ok (.invokevirtual 129, 3) := by decide +kernel
theorem dX11_faultOf_67 : decode cX11_faultOf 67 = .ok (.ifCond .eq 14, 3) := by decide +kernel
theorem dX11_faultOf_70 : decode cX11_faultOf 70 = .ok (.goto (-55), 3) := by decide +kernel
theorem dX11_faultOf_73 : decode cX11_faultOf 73 = .ok (.aload_n 0, 1) := by decide +kernel
theorem dX11_faultOf_74 : decode cX11_faultOf 74 = .ok (.iload_n 1, 1) := by decide +kernel
theorem dX11_faultOf_75 : decode cX11_faultOf 75 = .ok (.invokevirtual 132, 3) := by decide +kernel
theorem dX11_faultOf_78 : decode cX11_faultOf 78 = .ok (.ifCond .ne (-63), 3) := by decide +kernel
theorem dX11_faultOf_81 : decode cX11_faultOf 81 = .ok (.aload_n 0, 1) := by decide +kernel
theorem dX11_faultOf_82 : decode cX11_faultOf 82 = .ok (.getfield 111, 3) := by decide +kernel
theorem dX11_faultOf_85 : decode cX11_faultOf 85 = .ok (.ireturn, 1) := by decide +kernel
theorem dX11_faultOf_86 : decode cX11_faultOf 86 = .ok (.aload_n 0, 1) := by decide +kernel
theorem dX11_faultOf_87 : decode cX11_faultOf 87 = .ok (.getfield 126, 3) := by decide +kernel
theorem dX11_faultOf_90 : decode cX11_faultOf 90 = .ok (.ifCond .ne 12, 3) := by decide +kernel
theorem dX11_faultOf_93 : decode cX11_faultOf 93 = .ok (.aload_n 0, 1) := by decide +kernel
theorem dX11_faultOf_94 : decode cX11_faultOf 94 = .ok (.getfield 26, 3) := by decide +kernel
theorem dX11_faultOf_97 : decode cX11_faultOf 97 = .ok (.iload_n 1, 1) := by decide +kernel
theorem dX11_faultOf_98 : decode cX11_faultOf 98 = .ok (.iaload, 1) := by decide +kernel
theorem dX11_faultOf_99 : decode cX11_faultOf 99 = .ok (.goto 5, 3) := by decide +kernel
theorem dX11_faultOf_102 : decode cX11_faultOf 102 = .ok (.bipush (-9), 2) := by decide +kernel
theorem dX11_faultOf_104 : decode cX11_faultOf 104 = .ok (.ireturn, 1) := by decide +kernel
theorem dX11_fault_0 : decode cX11_fault 0 = .ok (.iload_n 1, 1) := by decide +kernel
theorem dX11_fault_1 : decode cX11_fault 1 = .ok (.invokestatic 108, 3) := by decide +kernel
theorem dX11_fault_4 : decode cX11_fault 4 = .ok (.ifCond .ne 5, 3) := by decide +kernel
theorem dX11_fault_7 : decode cX11_fault 7 = .ok (.iconst (-1), 1) := by decide +kernel
theorem dX11_fault_8 : decode cX11_fault 8 = .ok (.ireturn, 1) := by decide +kernel
theorem dX11_fault_9 : decode cX11_fault 9 = .ok (.aload_n 0, 1) := by decide +kernel
theorem dX11_fault_10 : decode cX11_fault 10 = .ok (.getfield 26, 3) := by decide +kernel
theorem dX11_fault_13 : decode cX11_fault 13 = .ok (.iload_n 1, 1) := by decide +kernel
theorem dX11_fault_14 : decode cX11_fault 14 = .ok (.iaload, 1) := by decide +kernel
theorem dX11_fault_15 : decode cX11_fault 15 = .ok (.ifCond .ge 11, 3) := by decide +kernel
theorem dX11_fault_18 : decode cX11_fault 18 = .ok (.aload_n 0, 1) := by decide +kernel
theorem dX11_fault_19 : decode cX11_fault 19 = .ok (.iconst 1, 1) := by decide +kernel
theorem dX11_fault_20 : decode cX11_fault 20 = .ok (.invokevirtual 97, 3) := by decide +kernel
theorem dX11_fault_23 : decode cX11_fault 23 = .ok (.goto 8, 3) := by decide +kernel
theorem dX11_fault_26 : decode cX11_fault 26 = .ok (.aload_n 0, 1) := by decide +kernel
theorem dX11_fault_27 : decode cX11_fault 27 = .ok (.iload_n 1, 1) := by decide +kernel
theorem dX11_fault_28 : decode cX11_fault 28 = .ok (.invokevirtual 135, 3) := by decide +kernel
theorem dX11_fault_31 : decode cX11_fault 31 = .ok (.ireturn, 1) := by decide +kernel
theorem dX11_village_0 : decode cX11_village 0 = .ok (.iload_n 1, 1) := by decide +kernel
theorem dX11_village_1 : decode cX11_village 1 = .ok (.invokestatic 108, 3) := by decide +kernel
theorem dX11_village_4 : decode cX11_village 4 = .ok (.ifCond .ne 5, 3) := by decide +kernel
theorem dX11_village_7 : decode cX11_village 7 = .ok (.iconst (-1), 1) := by decide +kernel
theorem dX11_village_8 : decode cX11_village 8 = .ok (.ireturn, 1) := by decide +kernel
theorem dX11_village_9 : decode cX11_village 9 = .ok (.aload_n 0, 1) := by decide +kernel
theorem dX11_village_10 : decode cX11_village 10 = .ok (.getfield 26, 3) := by decide +kernel
theorem dX11_village_13 : decode cX11_village 13 = .ok (.iload_n 1, 1) := by decide +kernel
theorem dX11_village_14 : decode cX11_village 14 = .ok (.iaload, 1) := by decide +kernel
theorem dX11_village_15 : decode cX11_village 15 = .ok (.ifCond .ge 9, 3) := by decide +kernel
theorem dX11_village_18 : decode cX11_village 18 = .ok (.aload_n 0, 1) := by decide +kernel
theorem dX11_village_19 : decode cX11_village 19 = .ok (.iconst 1, 1) := by decide +kernel
theorem dX11_village_20 : decode cX11_village 20 = .ok (.invokevirtual 97, 3) := by decide +kernel
theorem dX11_village_23 : decode cX11_village 23 = .ok (.ireturn, 1) := by decide +kernel
theorem dX11_village_24 : decode cX11_village 24 = .ok (.aload_n 0, 1) := by decide +kernel
theorem dX11_village_25 : decode cX11_village 25 = .ok (.iload_n 1, 1) := by decide +kernel
theorem dX11_village_26 : decode cX11_village 26 = .ok (.invokevirtual 135, 3) := by decide +kernel
theorem dX11_village_29 : decode cX11_village 29 = .ok (.bipush (-9), 2) := by decide +kernel
theorem dX11_village_31 : decode cX11_village 31 = .ok (.if_icmp .eq 6, 3) := by decide +kernel
theorem dX11_village_34 : decode cX11_village 34 = .ok (.bipush (-4), 2) := by decide +kernel
theorem dX11_village_36 : decode cX11_village 36 = .ok (.ireturn, 1) := by decide +kernel
theorem dX11_village_37 : decode cX11_village 37 = .ok (.aload_n 0, 1) := by decide +kernel
theorem dX11_village_38 : decode cX11_village 38 = .ok (.aload_n 0, 1) := by decide +kernel
theorem dX11_village_39 : decode cX11_village 39 = .ok (.getfield 126, 3) := by decide +kernel
theorem dX11_village_42 : decode cX11_village 42 = .ok (.putfield 138, 3) := by decide +kernel
theorem dX11_village_45 : decode cX11_village 45 = .ok (.aload_n 0, 1) := by decide +kernel
theorem dX11_village_46 : decode cX11_village 46 = .ok (.aload_n 0, 1) := by decide +kernel
theorem dX11_village_47 : decode cX11_village 47 = .ok (.getfield 120, 3) := by decide +kernel
theorem dX11_village_50 : decode cX11_village 50 = .ok (.putfield 141, 3) := by decide +kernel
theorem dX11_village_53 : decode cX11_village 53 = .ok (.iconst 0, 1) := by decide +kernel
theorem dX11_village_54 : decode cX11_village 54 = .ok (.istore_n 2, 1) := by decide +kernel
theorem dX11_village_55 : decode cX11_village 55 = .ok (.iload_n 2, 1) := by decide +kernel
theorem dX11_village_56 : decode cX11_village 56 = .ok (.aload_n 0, 1) := by decide +kernel
theorem dX11_village_57 : decode cX11_village 57 = .ok (.getfield 141, 3) := by decide +kernel
theorem dX11_village_60 : decode cX11_village 60 = .ok (.if_icmp .ge 21, 3) := by decide +kernel
theorem dX11_village_63 : decode cX11_village 63 = .ok (.aload_n 0, 1) := by decide +kernel
theorem dX11_village_64 : decode cX11_village 64 = .ok (.getfield 33, 3) := by decide +kernel
theorem dX11_village_67 : decode cX11_village 67 = .ok (.iload_n 2, 1) := by decide +kernel
theorem dX11_village_68 : decode cX11_village 68 = .ok (.aload_n 0, 1) := by decide +kernel
theorem dX11_village_69 : decode cX11_village 69 = .ok (.getfield 42, 3) := by decide +kernel
theorem dX11_village_72 : decode cX11_village 72 = .ok (.iload_n 2, 1) := by decide +kernel
theorem dX11_village_73 : decode cX11_village 73 = .ok (.iaload, 1) := by decide +kernel
theorem dX11_village_74 : decode cX11_village 74 = .ok (.iastore, 1) := by decide +kernel
theorem dX11_village_75 : decode cX11_village 75 = .ok (.iinc 2 1, 3) := by decide +kernel
theorem dX11_village_78 : decode cX11_village 78 = .ok (.goto (-23), 3) := by decide +kernel
theorem dX11_village_81 : decode cX11_village 81 = .ok (.iconst 0, 1) := by decide +kernel
theorem dX11_village_82 : decode cX11_village 82 = .ok (.istore_n 2, 1) := by decide +kernel
theorem dX11_village_83 : decode cX11_village 83 = .ok (.iload_n 2, 1) := by decide +kernel
theorem dX11_village_84 : decode cX11_village 84 = .ok (.bipush 18, 2) := by decide +kernel
theorem dX11_village_86 : decode cX11_village 86 = .ok (.if_icmp .ge 16, 3) := by decide +kernel
theorem dX11_village_89 : decode cX11_village 89 = .ok (.aload_n 0, 1) := by decide +kernel
theorem dX11_village_90 : decode cX11_village 90 = .ok (.getfield 48, 3) := by decide +kernel
theorem dX11_village_93 : decode cX11_village 93 = .ok (.iload_n 2, 1) := by decide +kernel
theorem dX11_village_94 : decode cX11_village 94 = .ok (.iconst 0, 1) := by decide +kernel
theorem dX11_village_95 : decode cX11_village 95 = .ok (.iastore, 1) := by decide +kernel
theorem dX11_village_96 : decode cX11_village 96 = .ok (.iinc 2 1, 3) := by decide +kernel
theorem dX11_village_99 : decode cX11_village 99 = .ok (.goto (-16), 3) := by decide +kernel
theorem dX11_village_102 : decode cX11_village 102 = .ok (.iconst 0, 1) := by decide +kernel
theorem dX11_village_103 : decode cX11_village 103 = .ok (.istore_n 2, 1) := by decide +kernel
theorem dX11_village_104 : decode cX11_village 104 = .ok (.iload_n 2, 1) := by decide +kernel
theorem dX11_village_105 : decode cX11_village 105 = .ok (.aload_n 0, 1) := by decide +kernel
theorem dX11_village_106 : decode cX11_village 106 = .ok (.getfield 138, 3) := by decide +kernel
theorem dX11_village_109 : decode cX11_village 109 = .ok (.if_icmp .ge 73, 3) := by decide +kernel
theorem dX11_village_112 : decode cX11_village 112 = .ok (.aload_n 0, 1) := by decide +kernel
theorem dX11_village_113 : decode cX11_village 113 = .ok (.getfield 36, 3) := by decide +kernel
theorem dX11_village_116 : decode cX11_village 116 = .ok (.iload_n 2, 1) := by decide +kernel
theorem dX11_village_117 : decode cX11_village 117 = .ok (.aload_n 0, 1) := by decide +kernel
theorem dX11_village_118 : decode cX11_village 118 = .ok (.getfield 45, 3) := by decide +kernel
theorem dX11_village_121 : decode cX11_village 121 = .ok (.iconst 4, 1) := by decide +kernel
theorem dX11_village_122 : decode cX11_village 122 = .ok (.iload_n 2, 1) := by decide +kernel
theorem dX11_village_123 : decode cX11_village 123 = .ok (.imul, 1) := by decide +kernel
theorem dX11_village_124 : decode cX11_village 124 = .ok (.iaload, 1) := by decide +kernel
theorem dX11_village_125 : decode cX11_village 125 = .ok (.iastore, 1) := by decide +kernel
theorem dX11_village_126 : decode cX11_village 126 = .ok (.aload_n 0, 1) := by decide +kernel
theorem dX11_village_127 : decode cX11_village 127 = .ok (.getfield 48, 3) := by decide +kernel
theorem dX11_village_130 : decode cX11_village 130 = .ok (.iload_n 2, 1) := by decide +kernel
theorem dX11_village_131 : decode cX11_village 131 = .ok (.aload_n 0, 1) := by decide +kernel
theorem dX11_village_132 : decode cX11_village 132 = .ok (.getfield 45, 3) := by decide +kernel
theorem dX11_village_135 : decode cX11_village 135 = .ok (.iconst 4, 1) := by decide +kernel
theorem dX11_village_136 : decode cX11_village 136 = .ok (.iload_n 2, 1) := by decide +kernel
theorem dX11_village_137 : decode cX11_village 137 = .ok (.imul, 1) := by decide +kernel
theorem dX11_village_138 : decode cX11_village 138 = .ok (.iconst 1, 1) := by decide +kernel
theorem dX11_village_139 : decode cX11_village 139 = .ok (.iadd, 1) := by decide +kernel
theorem dX11_village_140 : decode cX11_village 140 = .ok (.iaload, 1) := by decide +kernel
theorem dX11_village_141 : decode cX11_village 141 = .ok (.iastore, 1) := by decide +kernel
theorem dX11_village_142 : decode cX11_village 142 = .ok (.aload_n 0, 1) := by decide +kernel
theorem dX11_village_143 : decode cX11_village 143 = .ok (.getfield 48, 3) := by decide +kernel
theorem dX11_village_146 : decode cX11_village 146 = .ok (.iconst 5, 1) := by decide +kernel
theorem dX11_village_147 : decode cX11_village 147 = .ok (.iload_n 2, 1) := by decide +kernel
theorem dX11_village_148 : decode cX11_village 148 = .ok (.iadd, 1) := by decide +kernel
theorem dX11_village_149 : decode cX11_village 149 = .ok (.aload_n 0, 1) := by decide +kernel
theorem dX11_village_150 : decode cX11_village 150 = .ok (.getfield 45, 3) := by decide +kernel
theorem dX11_village_153 : decode cX11_village 153 = .ok (.iconst 4, 1) := by decide +kernel
theorem dX11_village_154 : decode cX11_village 154 = .ok (.iload_n 2, 1) := by decide +kernel
theorem dX11_village_155 : decode cX11_village 155 = .ok (.imul, 1) := by decide +kernel
theorem dX11_village_156 : decode cX11_village 156 = .ok (.iconst 2, 1) := by decide +kernel
theorem dX11_village_157 : decode cX11_village 157 = .ok (.iadd, 1) := by decide +kernel
theorem dX11_village_158 : decode cX11_village 158 = .ok (.iaload, 1) := by decide +kernel
theorem dX11_village_159 : decode cX11_village 159 = .ok (.iastore, 1) := by decide +kernel
theorem dX11_village_160 : decode cX11_village 160 = .ok (.aload_n 0, 1) := by decide +kernel
theorem dX11_village_161 : decode cX11_village 161 = .ok (.getfield 39, 3) := by decide +kernel
theorem dX11_village_164 : decode cX11_village 164 = .ok (.iload_n 2, 1) := by decide +kernel
theorem dX11_village_165 : decode cX11_village 165 = .ok (.aload_n 0, 1) := by decide +kernel
theorem dX11_village_166 : decode cX11_village 166 = .ok (.getfield 45, 3) := by decide +kernel
theorem dX11_village_169 : decode cX11_village 169 = .ok (.iconst 4, 1) := by decide +kernel
theorem dX11_village_170 : decode cX11_village 170 = .ok (.iload_n 2, 1) := by decide +kernel
theorem dX11_village_171 : decode cX11_village 171 = .ok (.imul, 1) := by decide +kernel
theorem dX11_village_172 : decode cX11_village 172 = .ok (.iconst 3, 1) := by decide +kernel
theorem dX11_village_173 : decode cX11_village 173 = .ok (.iadd, 1) := by decide +kernel
theorem dX11_village_174 : decode cX11_village 174 = .ok (.iaload, 1) := by decide +kernel
theorem dX11_village_175 : decode cX11_village 175 = .ok (.iastore, 1) := by decide +kernel
theorem dX11_village_176 : decode cX11_village 176 = .ok (.iinc 2 1, 3) := by decide +kernel
theorem dX11_village_179 : decode cX11_village 179 = .ok (.goto (-75), 3) := by decide +kernel
theorem dX11_village_182 : decode cX11_village 182 = .ok (.iconst 0, 1) := by decide +kernel
theorem dX11_village_183 : decode cX11_village 183 = .ok (.istore_n 2, 1) := by decide +kernel
theorem dX11_village_184 : decode cX11_village 184 = .ok (.iload_n 2, 1) := by decide +kernel
theorem dX11_village_185 : decode cX11_village 185 = .ok (.bipush 18, 2) := by decide +kernel
theorem dX11_village_187 : decode cX11_village 187 = .ok (.if_icmp .ge 21, 3) := by decide +kernel
theorem dX11_village_190 : decode cX11_village 190 = .ok (.aload_n 0, 1) := by decide +kernel
theorem dX11_village_191 : decode cX11_village 191 = .ok (.getfield 51, 3) := by decide +kernel
theorem dX11_village_194 : decode cX11_village 194 = .ok (.iload_n 2, 1) := by decide +kernel
theorem dX11_village_195 : decode cX11_village 195 = .ok (.aload_n 0, 1) := by decide +kernel
theorem dX11_village_196 : decode cX11_village 196 = .ok (.getfield 48, 3) := by decide +kernel
theorem dX11_village_199 : decode cX11_village 199 = .ok (.iload_n 2, 1) := by decide +kernel
theorem dX11_village_200 : decode cX11_village 200 = .ok (.iaload, 1) := by decide +kernel
theorem dX11_village_201 : decode cX11_village 201 = .ok (.iastore, 1) := by decide +kernel
theorem dX11_village_202 : decode cX11_village 202 = .ok (.iinc 2 1, 3) := by decide +kernel
theorem dX11_village_205 : decode cX11_village 205 = .ok (.goto (-21), 3) := by decide +kernel
theorem dX11_village_208 : decode cX11_village 208 = .ok (.aload_n 0, 1) := by decide +kernel
theorem dX11_village_209 : decode cX11_village 209 = .ok (.iconst 0, 1) := by decide +kernel
theorem dX11_village_210 : decode cX11_village 210 = .ok (.putfield 144, 3) := by decide +kernel
theorem dX11_village_213 : decode cX11_village 213 = .ok (.iconst 0, 1) := by decide +kernel
theorem dX11_village_214 : decode cX11_village 214 = .ok (.istore_n 2, 1) := by decide +kernel
theorem dX11_village_215 : decode cX11_village 215 = .ok (.iload_n 2, 1) := by decide +kernel
theorem dX11_village_216 : decode cX11_village 216 = .ok (.iconst 3, 1) := by decide +kernel
theorem dX11_village_217 : decode cX11_village 217 = .ok (.if_icmp .ge 16, 3) := by decide +kernel
theorem dX11_village_220 : decode cX11_village 220 = .ok (.aload_n 0, 1) := by decide +kernel
theorem dX11_village_221 : decode cX11_village 221 = .ok (.getfield 57, 3) := by decide +kernel
theorem dX11_village_224 : decode cX11_village 224 = .ok (.iload_n 2, 1) := by decide +kernel
theorem dX11_village_225 : decode cX11_village 225 = .ok (.iconst 0, 1) := by decide +kernel
theorem dX11_village_226 : decode cX11_village 226 = .ok (.bastore, 1) := by decide +kernel
theorem dX11_village_227 : decode cX11_village 227 = .ok (.iinc 2 1, 3) := by decide +kernel
theorem dX11_village_230 : decode cX11_village 230 = .ok (.goto (-15), 3) := by decide +kernel
theorem dX11_village_233 : decode cX11_village 233 = .ok (.aload_n 0, 1) := by decide +kernel
theorem dX11_village_234 : decode cX11_village 234 = .ok (.getfield 138, 3) := by decide +kernel
theorem dX11_village_237 : decode cX11_village 237 = .ok (.ireturn, 1) := by decide +kernel
theorem dX11_isHouse_0 : decode cX11_isHouse 0 = .ok (.iload_n 1, 1) := by decide +kernel
theorem dX11_isHouse_1 : decode cX11_isHouse 1 = .ok (.iconst 0, 1) := by decide +kernel
theorem dX11_isHouse_2 : decode cX11_isHouse 2 = .ok (.aload_n 0, 1) := by decide +kernel
theorem dX11_isHouse_3 : decode cX11_isHouse 3 = .ok (.getfield 138, 3) := by decide +kernel
theorem dX11_isHouse_6 : decode cX11_isHouse 6 = .ok (.iconst 1, 1) := by decide +kernel
theorem dX11_isHouse_7 : decode cX11_isHouse 7 = .ok (.isub, 1) := by decide +kernel
theorem dX11_isHouse_8 : decode cX11_isHouse 8 = .ok (.invokestatic 83, 3) := by decide +kernel
theorem dX11_isHouse_11 : decode cX11_isHouse 11 = .ok (.ireturn, 1) := by decide +kernel
theorem dX11_copyTo_0 : decode cX11_copyTo 0 = .ok (.iconst 0, 1) := by decide +kernel
theorem dX11_copyTo_1 : decode cX11_copyTo 1 = .ok (.istore_n 3, 1) := by decide +kernel
theorem dX11_copyTo_2 : decode cX11_copyTo 2 = .ok (.iload_n 3, 1) := by decide +kernel
theorem dX11_copyTo_3 : decode cX11_copyTo 3 = .ok (.bipush 18, 2) := by decide +kernel
theorem dX11_copyTo_5 : decode cX11_copyTo 5 = .ok (.if_icmp .ge 31, 3) := by decide +kernel
theorem dX11_copyTo_8 : decode cX11_copyTo 8 = .ok (.aload_n 0, 1) := by decide +kernel
theorem dX11_copyTo_9 : decode cX11_copyTo 9 = .ok (.getfield 51, 3) := by decide +kernel
theorem dX11_copyTo_12 : decode cX11_copyTo 12 = .ok (.bipush 18, 2) := by decide +kernel
theorem dX11_copyTo_14 : decode cX11_copyTo 14 = .ok (.iload_n 2, 1) := by decide +kernel
theorem dX11_copyTo_15 : decode cX11_copyTo 15 = .ok (.imul, 1) := by decide +kernel
theorem dX11_copyTo_16 : decode cX11_copyTo 16 = .ok (.iload_n 3, 1) := by decide +kernel
theorem dX11_copyTo_17 : decode cX11_copyTo 17 = .ok (.iadd, 1) := by decide +kernel
theorem dX11_copyTo_18 : decode cX11_copyTo 18 = .ok (.aload_n 0, 1) := by decide +kernel
theorem dX11_copyTo_19 : decode cX11_copyTo 19 = .ok (.getfield 51, 3) := by decide +kernel
theorem dX11_copyTo_22 : decode cX11_copyTo 22 = .ok (.bipush 18, 2) := by decide +kernel
theorem dX11_copyTo_24 : decode cX11_copyTo 24 = .ok (.iload_n 1, 1) := by decide +kernel
theorem dX11_copyTo_25 : decode cX11_copyTo 25 = .ok (.imul, 1) := by decide +kernel
theorem dX11_copyTo_26 : decode cX11_copyTo 26 = .ok (.iload_n 3, 1) := by decide +kernel
theorem dX11_copyTo_27 : decode cX11_copyTo 27 = .ok (.iadd, 1) := by decide +kernel
theorem dX11_copyTo_28 : decode cX11_copyTo 28 = .ok (.iaload, 1) := by decide +kernel
theorem dX11_copyTo_29 : decode cX11_copyTo 29 = .ok (.iastore, 1) := by decide +kernel
theorem dX11_copyTo_30 : decode cX11_copyTo 30 = .ok (.iinc 3 1, 3) := by decide +kernel
theorem dX11_copyTo_33 : decode cX11_copyTo 33 = .ok (.goto (-31), 3) := by decide +kernel
theorem dX11_copyTo_36 : decode cX11_copyTo 36 = .ok (.return_, 1) := by decide +kernel
theorem dX11_isBurning_0 : decode cX11_isBurning 0 = .ok (.aload_n 0, 1) := by decide +kernel
theorem dX11_isBurning_1 : decode cX11_isBurning 1 = .ok (.getfield 51, 3) := by decide +kernel
theorem dX11_isBurning_4 : decode cX11_isBurning 4 = .ok (.bipush 18, 2) := by decide +kernel
theorem dX11_isBurning_6 : decode cX11_isBurning 6 = .ok (.iload_n 1, 1) := by decide +kernel
theorem dX11_isBurning_7 : decode cX11_isBurning 7 = .ok (.imul, 1) := by decide +kernel
theorem dX11_isBurning_8 : decode cX11_isBurning 8 = .ok (.bipush 10, 2) := by decide +kernel
theorem dX11_isBurning_10 : decode cX11_isBurning 10 = .ok (.iadd, 1) := by decide +kernel
theorem dX11_isBurning_11 : decode cX11_isBurning 11 = .ok (.iload_n 2, 1) := by decide +kernel
theorem dX11_isBurning_12 : decode cX11_isBurning 12 = .ok (.iadd, 1) := by decide +kernel
theorem dX11_isBurning_13 : decode cX11_isBurning 13 = .ok (.iaload, 1) := by decide +kernel
theorem dX11_isBurning_14 : decode cX11_isBurning 14 = .ok (.iconst 1, 1) := by decide +kernel
theorem dX11_isBurning_15 : decode cX11_isBurning 15 = .ok (.if_icmp .ne 7, 3) := by decide +kernel
theorem dX11_isBurning_18 : decode cX11_isBurning 18 = .ok (.iconst 1, 1) := by decide +kernel
theorem dX11_isBurning_19 : decode cX11_isBurning 19 = .ok (.goto 4, 3) := by decide +kernel
theorem dX11_isBurning_22 : decode cX11_isBurning 22 = .ok (.iconst 0, 1) := by decide +kernel
theorem dX11_isBurning_23 : decode cX11_isBurning 23 = .ok (.ireturn, 1) := by decide +kernel
theorem dX11_isCatching_0 : decode cX11_isCatching 0 = .ok (.aload_n 0, 1) := by decide +kernel
theorem dX11_isCatching_1 : decode cX11_isCatching 1 = .ok (.getfield 51, 3) := by decide +kernel
theorem dX11_isCatching_4 : decode cX11_isCatching 4 = .ok (.bipush 18, 2) := by decide +kernel
theorem dX11_isCatching_6 : decode cX11_isCatching 6 = .ok (.iload_n 1, 1) := by decide +kernel
theorem dX11_isCatching_7 : decode cX11_isCatching 7 = .ok (.imul, 1) := by decide +kernel
theorem dX11_isCatching_8 : decode cX11_isCatching 8 = .ok (.iconst 5, 1) := by decide +kernel
theorem dX11_isCatching_9 : decode cX11_isCatching 9 = .ok (.iadd, 1) := by decide +kernel
theorem dX11_isCatching_10 : decode cX11_isCatching 10 = .ok (.iload_n 2, 1) := by decide +kernel
theorem dX11_isCatching_11 : decode cX11_isCatching 11 = .ok (.iadd, 1) := by decide +kernel
theorem dX11_isCatching_12 : decode cX11_isCatching 12 = .ok (.iaload, 1) := by decide +kernel
theorem dX11_isCatching_13 : decode cX11_isCatching 13 = .ok (.istore_n 3, 1) := by decide +kernel
theorem dX11_isCatching_14 : decode cX11_isCatching 14 = .ok (.aload_n 0, 1) := by decide +kernel
theorem dX11_isCatching_15 : decode cX11_isCatching 15 = .ok (.getfield 36, 3) := by decide +kernel
theorem dX11_isCatching_18 : decode cX11_isCatching 18 = .ok (.iload_n 2, 1) := by decide +kernel
theorem dX11_isCatching_19 : decode cX11_isCatching 19 = .ok (.iaload, 1) := by decide +kernel
theorem dX11_isCatching_20 : decode cX11_isCatching 20 = .ok (.iconst 5, 1) := by decide +kernel
theorem dX11_isCatching_21 : decode cX11_isCatching 21 = .ok (.if_icmp .ne 7, 3) := by decide +kernel
theorem dX11_isCatching_24 : decode cX11_isCatching 24 = .ok (.iconst 3, 1) := by decide +kernel
theorem dX11_isCatching_25 : decode cX11_isCatching 25 = .ok (.goto 18, 3) := by decide +kernel
theorem dX11_isCatching_28 : decode cX11_isCatching 28 = .ok (.aload_n 0, 1) := by decide +kernel
theorem dX11_isCatching_29 : decode cX11_isCatching 29 = .ok (.getfield 36, 3) := by decide +kernel
theorem dX11_isCatching_32 : decode cX11_isCatching 32 = .ok (.iload_n 2, 1) := by decide +kernel
theorem dX11_isCatching_33 : decode cX11_isCatching 33 = .ok (.iaload, 1) := by decide +kernel
theorem dX11_isCatching_34 : decode cX11_isCatching 34 = .ok (.iconst 2, 1) := by decide +kernel
theorem dX11_isCatching_35 : decode cX11_isCatching 35 = .ok (.if_icmp .ne 7, 3) := by decide +kernel
theorem dX11_isCatching_38 : decode cX11_isCatching 38 = .ok (.iconst 1, 1) := by decide +kernel
theorem dX11_isCatching_39 : decode cX11_isCatching 39 = .ok (.goto 4, 3) := by decide +kernel
theorem dX11_isCatching_42 : decode cX11_isCatching 42 = .ok (.iconst 0, 1) := by decide +kernel
theorem dX11_isCatching_43 : decode cX11_isCatching 43 = .ok (.istore 4, 2) := by decide +kernel
theorem dX11_isCatching_45 : decode cX11_isCatching 45 = .ok (.aload_n 0, 1) := by decide +kernel
theorem dX11_isCatching_46 : decode cX11_isCatching 46 = .ok (.getfield 51, 3) := by decide +kernel
theorem dX11_isCatching_49 : decode cX11_isCatching 49 = .ok (.bipush 18, 2) := by decide +kernel
theorem dX11_isCatching_51 : decode cX11_isCatching 51 = .ok (.iload_n 1, 1) := by decide +kernel
theorem dX11_isCatching_52 : decode cX11_isCatching 52 = .ok (.imul, 1) := by decide +kernel
theorem dX11_isCatching_53 : decode cX11_isCatching 53 = .ok (.iload_n 2, 1) := by decide +kernel
theorem dX11_isCatching_54 : decode cX11_isCatching 54 = .ok (.iadd, 1) := by decide +kernel
theorem dX11_isCatching_55 : decode cX11_isCatching 55 = .ok (.iaload, 1) := by decide +kernel
theorem dX11_isCatching_56 : decode cX11_isCatching 56 = .ok (.ifCond .le 13, 3) := by decide +kernel
theorem dX11_isCatching_59 : decode cX11_isCatching 59 = .ok (.iload_n 3, 1) := by decide +kernel
theorem dX11_isCatching_60 : decode cX11_isCatching 60 = .ok (.iload 4, 2) := by decide +kernel
theorem dX11_isCatching_62 : decode cX11_isCatching 62 = .ok (.if_icmp .gt 7, 3) := by decide +kernel
theorem dX11_isCatching_65 : decode cX11_isCatching 65 = .ok (.iconst 1, 1) := by decide +kernel
theorem dX11_isCatching_66 : decode cX11_isCatching 66 = .ok (.goto 4, 3) := by decide +kernel
theorem dX11_isCatching_69 : decode cX11_isCatching 69 = .ok (.iconst 0, 1) := by decide +kernel
theorem dX11_isCatching_70 : decode cX11_isCatching 70 = .ok (.ireturn, 1) := by decide +kernel
theorem dX11_hourOf_0 : decode cX11_hourOf 0 = .ok (.aload_n 0, 1) := by decide +kernel
theorem dX11_hourOf_1 : decode cX11_hourOf 1 = .ok (.getfield 51, 3) := by decide +kernel
theorem dX11_hourOf_4 : decode cX11_hourOf 4 = .ok (.bipush 18, 2) := by decide +kernel
theorem dX11_hourOf_6 : decode cX11_hourOf 6 = .ok (.iload_n 1, 1) := by decide +kernel
theorem dX11_hourOf_7 : decode cX11_hourOf 7 = .ok (.imul, 1) := by decide +kernel
theorem dX11_hourOf_8 : decode cX11_hourOf 8 = .ok (.bipush 15, 2) := by decide +kernel
theorem dX11_hourOf_10 : decode cX11_hourOf 10 = .ok (.iadd, 1) := by decide +kernel
theorem dX11_hourOf_11 : decode cX11_hourOf 11 = .ok (.iaload, 1) := by decide +kernel
theorem dX11_hourOf_12 : decode cX11_hourOf 12 = .ok (.ireturn, 1) := by decide +kernel
theorem dX11_windOf_0 : decode cX11_windOf 0 = .ok (.aload_n 0, 1) := by decide +kernel
theorem dX11_windOf_1 : decode cX11_windOf 1 = .ok (.getfield 33, 3) := by decide +kernel
theorem dX11_windOf_4 : decode cX11_windOf 4 = .ok (.iload_n 1, 1) := by decide +kernel
theorem dX11_windOf_5 : decode cX11_windOf 5 = .ok (.aload_n 0, 1) := by decide +kernel
theorem dX11_windOf_6 : decode cX11_windOf 6 = .ok (.getfield 141, 3) := by decide +kernel
theorem dX11_windOf_9 : decode cX11_windOf 9 = .ok (.irem, 1) := by decide +kernel
theorem dX11_windOf_10 : decode cX11_windOf 10 = .ok (.iaload, 1) := by decide +kernel
theorem dX11_windOf_11 : decode cX11_windOf 11 = .ok (.ireturn, 1) := by decide +kernel
theorem dX11_canCarry_0 : decode cX11_canCarry 0 = .ok (.iload_n 2, 1) := by decide +kernel
theorem dX11_canCarry_1 : decode cX11_canCarry 1 = .ok (.iload_n 3, 1) := by decide +kernel
theorem dX11_canCarry_2 : decode cX11_canCarry 2 = .ok (.if_icmp .eq 49, 3) := by decide +kernel
theorem dX11_canCarry_5 : decode cX11_canCarry 5 = .ok (.aload_n 0, 1) := by decide +kernel
theorem dX11_canCarry_6 : decode cX11_canCarry 6 = .ok (.getfield 51, 3) := by decide +kernel
theorem dX11_canCarry_9 : decode cX11_canCarry 9 = .ok (.bipush 18, 2) := by decide +kernel
theorem dX11_canCarry_11 : decode cX11_canCarry 11 = .ok (.iload_n 1, 1) := by decide +kernel
theorem dX11_canCarry_12 : decode cX11_canCarry 12 = .ok (.imul, 1) := by decide +kernel
theorem dX11_canCarry_13 : decode cX11_canCarry 13 = .ok (.bipush 17, 2) := by decide +kernel
theorem dX11_canCarry_15 : decode cX11_canCarry 15 = .ok (.iadd, 1) := by decide +kernel
theorem dX11_canCarry_16 : decode cX11_canCarry 16 = .ok (.iaload, 1) := by decide +kernel
theorem dX11_canCarry_17 : decode cX11_canCarry 17 = .ok (.ifCond .ne 34, 3) := by decide +kernel
theorem dX11_canCarry_20 : decode cX11_canCarry 20 = .ok (.aload_n 0, 1) := by decide +kernel
theorem dX11_canCarry_21 : decode cX11_canCarry 21 = .ok (.iload_n 1, 1) := by decide +kernel
theorem dX11_canCarry_22 : decode cX11_canCarry 22 = .ok (.iload_n 2, 1) := by decide +kernel
theorem dX11_canCarry_23 : decode cX11_canCarry 23 = .ok (.invokevirtual 147, 3) := by decide +kernel
theorem dX11_canCarry_26 : decode cX11_canCarry 26 = .ok (.ifCond .eq 25, 3) := by decide +kernel
theorem dX11_canCarry_29 : decode cX11_canCarry 29 = .ok (.aload_n 0, 1) := by decide +kernel
theorem dX11_canCarry_30 : decode cX11_canCarry 30 = .ok (.iload_n 1, 1) := by decide +kernel
theorem dX11_canCarry_31 : decode cX11_canCarry 31 = .ok (.iload_n 3, 1) := by decide +kernel
theorem dX11_canCarry_32 : decode cX11_canCarry 32 = .ok (.invokevirtual 147, 3) := by decide +kernel
theorem dX11_canCarry_35 : decode cX11_canCarry 35 = .ok (.ifCond .ne 16, 3) := by decide +kernel
theorem dX11_canCarry_38 : decode cX11_canCarry 38 = .ok (.aload_n 0, 1) := by decide +kernel
theorem dX11_canCarry_39 : decode cX11_canCarry 39 = .ok (.iload_n 1, 1) := by decide +kernel
theorem dX11_canCarry_40 : decode cX11_canCarry 40 = .ok (.iload_n 3, 1) := by decide +kernel
theorem dX11_canCarry_41 : decode cX11_canCarry 41 = .ok (.invokevirtual 151, 3) := by decide +kernel
theorem dX11_canCarry_44 : decode cX11_canCarry 44 = .ok (.ifCond .eq 7, 3) := by decide +kernel
theorem dX11_canCarry_47 : decode cX11_canCarry 47 = .ok (.iconst 1, 1) := by decide +kernel
theorem dX11_canCarry_48 : decode cX11_canCarry 48 = .ok (.goto 4, 3) := by decide +kernel
theorem dX11_canCarry_51 : decode cX11_canCarry 51 = .ok (.iconst 0, 1) := by decide +kernel
theorem dX11_canCarry_52 : decode cX11_canCarry 52 = .ok (.istore 4, 2) := by decide +kernel
theorem dX11_canCarry_54 : decode cX11_canCarry 54 = .ok (.iload 4, 2) := by decide +kernel
theorem dX11_canCarry_56 : decode cX11_canCarry 56 = .ok (.ifCond .eq 27, 3) := by decide +kernel
theorem dX11_canCarry_59 : decode cX11_canCarry 59 = .ok (.iload_n 2, 1) := by decide +kernel
theorem dX11_canCarry_60 : decode cX11_canCarry 60 = .ok (.iload_n 3, 1) := by decide +kernel
theorem dX11_canCarry_61 : decode cX11_canCarry 61 = .ok (.isub, 1) := by decide +kernel
theorem dX11_canCarry_62 : decode cX11_canCarry 62 = .ok (.invokestatic 154, 3) := by decide +kernel
theorem dX11_canCarry_65 : decode cX11_canCarry 65 = .ok (.iconst 3, 1) := by decide +kernel
theorem dX11_canCarry_66 : decode cX11_canCarry 66 = .ok (.aload_n 0, 1) := by decide +kernel
theorem dX11_canCarry_67 : decode cX11_canCarry 67 = .ok (.aload_n 0, 1) := by decide +kernel
theorem dX11_canCarry_68 : decode cX11_canCarry 68 = .ok (.iload_n 1, 1) := by decide +kernel
theorem dX11_canCarry_69 : decode cX11_canCarry 69 = .ok (.invokevirtual 157, 3) := by decide +kernel
theorem dX11_canCarry_72 : decode cX11_canCarry 72 = .ok (.invokevirtual 160, 3) := by decide +kernel
theorem dX11_canCarry_75 : decode cX11_canCarry 75 = .ok (.isub, 1) := by decide +kernel
theorem dX11_canCarry_76 : decode cX11_canCarry 76 = .ok (.if_icmp .gt 7, 3) := by decide +kernel
theorem dX11_canCarry_79 : decode cX11_canCarry 79 = .ok (.iconst 1, 1) := by decide +kernel
theorem dX11_canCarry_80 : decode cX11_canCarry 80 = .ok (.goto 4, 3) := by decide +kernel
theorem dX11_canCarry_83 : decode cX11_canCarry 83 = .ok (.iconst 0, 1) := by decide +kernel
theorem dX11_canCarry_84 : decode cX11_canCarry 84 = .ok (.ireturn, 1) := by decide +kernel
theorem dX11_carries_0 : decode cX11_carries 0 = .ok (.aload_n 0, 1) := by decide +kernel
theorem dX11_carries_1 : decode cX11_carries 1 = .ok (.getfield 51, 3) := by decide +kernel
theorem dX11_carries_4 : decode cX11_carries 4 = .ok (.bipush 18, 2) := by decide +kernel
theorem dX11_carries_6 : decode cX11_carries 6 = .ok (.iload_n 1, 1) := by decide +kernel
theorem dX11_carries_7 : decode cX11_carries 7 = .ok (.imul, 1) := by decide +kernel
theorem dX11_carries_8 : decode cX11_carries 8 = .ok (.bipush 10, 2) := by decide +kernel
theorem dX11_carries_10 : decode cX11_carries 10 = .ok (.iadd, 1) := by decide +kernel
theorem dX11_carries_11 : decode cX11_carries 11 = .ok (.iload_n 2, 1) := by decide +kernel
theorem dX11_carries_12 : decode cX11_carries 12 = .ok (.iadd, 1) := by decide +kernel
theorem dX11_carries_13 : decode cX11_carries 13 = .ok (.iconst 1, 1) := by decide +kernel
theorem dX11_carries_14 : decode cX11_carries 14 = .ok (.iastore, 1) := by decide +kernel
theorem dX11_carries_15 : decode cX11_carries 15 = .ok (.aload_n 0, 1) := by decide +kernel
theorem dX11_carries_16 : decode cX11_carries 16 = .ok (.getfield 51, 3) := by decide +kernel
theorem dX11_carries_19 : decode cX11_carries 19 = .ok (.bipush 18, 2) := by decide +kernel
theorem dX11_carries_21 : decode cX11_carries 21 = .ok (.iload_n 1, 1) := by decide +kernel
theorem dX11_carries_22 : decode cX11_carries 22 = .ok (.imul, 1) := by decide +kernel
theorem dX11_carries_23 : decode cX11_carries 23 = .ok (.bipush 17, 2) := by decide +kernel
theorem dX11_carries_25 : decode cX11_carries 25 = .ok (.iadd, 1) := by decide +kernel
theorem dX11_carries_26 : decode cX11_carries 26 = .ok (.iconst 1, 1) := by decide +kernel
theorem dX11_carries_27 : decode cX11_carries 27 = .ok (.iastore, 1) := by decide +kernel
theorem dX11_carries_28 : decode cX11_carries 28 = .ok (.return_, 1) := by decide +kernel
theorem dX11_takesIn_0 : decode cX11_takesIn 0 = .ok (.aload_n 0, 1) := by decide +kernel
theorem dX11_takesIn_1 : decode cX11_takesIn 1 = .ok (.getfield 36, 3) := by decide +kernel
theorem dX11_takesIn_4 : decode cX11_takesIn 4 = .ok (.iload_n 1, 1) := by decide +kernel
theorem dX11_takesIn_5 : decode cX11_takesIn 5 = .ok (.iaload, 1) := by decide +kernel
theorem dX11_takesIn_6 : decode cX11_takesIn 6 = .ok (.tableswitch 57 1 4 #[30, 57, 55, 43], 30) := by decide +kernel
theorem dX11_takesIn_36 : decode cX11_takesIn 36 = .ok (.iload_n 2, 1) := by decide +kernel
theorem dX11_takesIn_37 : decode cX11_takesIn 37 = .ok (.iconst 2, 1) := by decide +kernel
theorem dX11_takesIn_38 : decode cX11_takesIn 38 = .ok (.irem, 1) := by decide +kernel
theorem dX11_takesIn_39 : decode cX11_takesIn 39 = .ok (.iconst 1, 1) := by decide +kernel
theorem dX11_takesIn_40 : decode cX11_takesIn 40 = .ok (.if_icmp .ne 7, 3) := by decide +kernel
theorem dX11_takesIn_43 : decode cX11_takesIn 43 = .ok (.iconst 0, 1) := by decide +kernel
theorem dX11_takesIn_44 : decode cX11_takesIn 44 = .ok (.goto 4, 3) := by decide +kernel
theorem dX11_takesIn_47 : decode cX11_takesIn 47 = .ok (.iconst 1, 1) := by decide +kernel
theorem dX11_takesIn_48 : decode cX11_takesIn 48 = .ok (.ireturn, 1) := by decide +kernel
theorem dX11_takesIn_49 : decode cX11_takesIn 49 = .ok (.iload_n 2, 1) := by decide +kernel
theorem dX11_takesIn_50 : decode cX11_takesIn 50 = .ok (.iconst 4, 1) := by decide +kernel
theorem dX11_takesIn_51 : decode cX11_takesIn 51 = .ok (.irem, 1) := by decide +kernel
theorem dX11_takesIn_52 : decode cX11_takesIn 52 = .ok (.ifCond .ne 7, 3) := by decide +kernel
theorem dX11_takesIn_55 : decode cX11_takesIn 55 = .ok (.iconst 1, 1) := by decide +kernel
theorem dX11_takesIn_56 : decode cX11_takesIn 56 = .ok (.goto 4, 3) := by decide +kernel
theorem dX11_takesIn_59 : decode cX11_takesIn 59 = .ok (.iconst 0, 1) := by decide +kernel
theorem dX11_takesIn_60 : decode cX11_takesIn 60 = .ok (.ireturn, 1) := by decide +kernel
theorem dX11_takesIn_61 : decode cX11_takesIn 61 = .ok (.iconst 2, 1) := by decide +kernel
theorem dX11_takesIn_62 : decode cX11_takesIn 62 = .ok (.ireturn, 1) := by decide +kernel
theorem dX11_takesIn_63 : decode cX11_takesIn 63 = .ok (.iconst 1, 1) := by decide +kernel
theorem dX11_takesIn_64 : decode cX11_takesIn 64 = .ok (.ireturn, 1) := by decide +kernel
theorem dX11_burning_0 : decode cX11_burning 0 = .ok (.iconst 0, 1) := by decide +kernel
theorem dX11_burning_1 : decode cX11_burning 1 = .ok (.istore_n 2, 1) := by decide +kernel
theorem dX11_burning_2 : decode cX11_burning 2 = .ok (.iconst 0, 1) := by decide +kernel
theorem dX11_burning_3 : decode cX11_burning 3 = .ok (.istore_n 3, 1) := by decide +kernel
theorem dX11_burning_4 : decode cX11_burning 4 = .ok (.iload_n 3, 1) := by decide +kernel
theorem dX11_burning_5 : decode cX11_burning 5 = .ok (.aload_n 0, 1) := by decide +kernel
theorem dX11_burning_6 : decode cX11_burning 6 = .ok (.getfield 138, 3) := by decide +kernel
theorem dX11_burning_9 : decode cX11_burning 9 = .ok (.if_icmp .ge 28, 3) := by decide +kernel
theorem dX11_burning_12 : decode cX11_burning 12 = .ok (.iload_n 2, 1) := by decide +kernel
theorem dX11_burning_13 : decode cX11_burning 13 = .ok (.aload_n 0, 1) := by decide +kernel
theorem dX11_burning_14 : decode cX11_burning 14 = .ok (.iload_n 1, 1) := by decide +kernel
theorem dX11_burning_15 : decode cX11_burning 15 = .ok (.iload_n 3, 1) := by decide +kernel
theorem dX11_burning_16 : decode cX11_burning 16 = .ok (.invokevirtual 147, 3) := by decide +kernel
theorem dX11_burning_19 : decode cX11_burning 19 = .ok (.ifCond .eq 9, 3) := by decide +kernel
theorem dX11_burning_22 : decode cX11_burning 22 = .ok (.iconst 1, 1) := by decide +kernel
theorem dX11_burning_23 : decode cX11_burning 23 = .ok (.iload_n 3, 1) := by decide +kernel
theorem dX11_burning_24 : decode cX11_burning 24 = .ok (.ishl, 1) := by decide +kernel
theorem dX11_burning_25 : decode cX11_burning 25 = .ok (.goto 4, 3) := by decide +kernel
theorem dX11_burning_28 : decode cX11_burning 28 = .ok (.iconst 0, 1) := by decide +kernel
theorem dX11_burning_29 : decode cX11_burning 29 = .ok (.ior, 1) := by decide +kernel
theorem dX11_burning_30 : decode cX11_burning 30 = .ok (.istore_n 2, 1) := by decide +kernel
theorem dX11_burning_31 : decode cX11_burning 31 = .ok (.iinc 3 1, 3) := by decide +kernel
theorem dX11_burning_34 : decode cX11_burning 34 = .ok (.goto (-30), 3) := by decide +kernel
theorem dX11_burning_37 : decode cX11_burning 37 = .ok (.iload_n 2, 1) := by decide +kernel
theorem dX11_burning_38 : decode cX11_burning 38 = .ok (.ireturn, 1) := by decide +kernel
theorem dX11_passes_0 : decode cX11_passes 0 = .ok (.aload_n 0, 1) := by decide +kernel
theorem dX11_passes_1 : decode cX11_passes 1 = .ok (.iload_n 1, 1) := by decide +kernel
theorem dX11_passes_2 : decode cX11_passes 2 = .ok (.invokevirtual 163, 3) := by decide +kernel
theorem dX11_passes_5 : decode cX11_passes 5 = .ok (.istore_n 2, 1) := by decide +kernel
theorem dX11_passes_6 : decode cX11_passes 6 = .ok (.bipush 18, 2) := by decide +kernel
theorem dX11_passes_8 : decode cX11_passes 8 = .ok (.iload_n 1, 1) := by decide +kernel
theorem dX11_passes_9 : decode cX11_passes 9 = .ok (.imul, 1) := by decide +kernel
theorem dX11_passes_10 : decode cX11_passes 10 = .ok (.istore_n 3, 1) := by decide +kernel
theorem dX11_passes_11 : decode cX11_passes 11 = .ok (.iconst 0, 1) := by decide +kernel
theorem dX11_passes_12 : decode cX11_passes 12 = .ok (.istore 4, 2) := by decide +kernel
theorem dX11_passes_14 : decode cX11_passes 14 = .ok (.iload 4, 2) := by decide +kernel
theorem dX11_passes_16 : decode cX11_passes 16 = .ok (.aload_n 0, 1) := by decide +kernel
theorem dX11_passes_17 : decode cX11_passes 17 = .ok (.getfield 138, 3) := by decide +kernel
theorem dX11_passes_20 : decode cX11_passes 20 = .ok (.if_icmp .ge 166, 3) := by decide +kernel
theorem dX11_passes_23 : decode cX11_passes 23 = .ok (.iload_n 2, 1) := by decide +kernel
theorem dX11_passes_24 : decode cX11_passes 24 = .ok (.iload 4, 2) := by decide +kernel
theorem dX11_passes_26 : decode cX11_passes 26 = .ok (.invokestatic 166, 3) := by decide +kernel
theorem dX11_passes_29 : decode cX11_passes 29 = .ok (.ifCond .eq 91, 3) := by decide +kernel
theorem dX11_passes_32 : decode cX11_passes 32 = .ok (.aload_n 0, 1) := by decide +kernel
theorem dX11_passes_33 : decode cX11_passes 33 = .ok (.iload 4, 2) := by decide +kernel
theorem dX11_passes_35 : decode cX11_passes 35 = .ok (.aload_n 0, 1) := by decide +kernel
theorem dX11_passes_36 : decode cX11_passes 36 = .ok (.getfield 51, 3) := by decide +kernel
theorem dX11_passes_39 : decode cX11_passes 39 = .ok (.iload_n 3, 1) := by decide +kernel
theorem dX11_passes_40 : decode cX11_passes 40 = .ok (.bipush 15, 2) := by decide +kernel
theorem dX11_passes_42 : decode cX11_passes 42 = .ok (.iadd, 1) := by decide +kernel
theorem dX11_passes_43 : decode cX11_passes 43 = .ok (.iaload, 1) := by decide +kernel
theorem dX11_passes_44 : decode cX11_passes 44 = .ok (.invokevirtual 169, 3) := by decide +kernel
theorem dX11_passes_47 : decode cX11_passes 47 = .ok (.istore 5, 2) := by decide +kernel
theorem dX11_passes_49 : decode cX11_passes 49 = .ok (.aload_n 0, 1) := by decide +kernel
theorem dX11_passes_50 : decode cX11_passes 50 = .ok (.getfield 51, 3) := by decide +kernel
theorem dX11_passes_53 : decode cX11_passes 53 = .ok (.iload_n 3, 1) := by decide +kernel
theorem dX11_passes_54 : decode cX11_passes 54 = .ok (.iload 4, 2) := by decide +kernel
theorem dX11_passes_56 : decode cX11_passes 56 = .ok (.iadd, 1) := by decide +kernel
theorem dX11_passes_57 : decode cX11_passes 57 = .ok (.aload_n 0, 1) := by decide +kernel
theorem dX11_passes_58 : decode cX11_passes 58 = .ok (.getfield 51, 3) := by decide +kernel
theorem dX11_passes_61 : decode cX11_passes 61 = .ok (.iload_n 3, 1) := by decide +kernel
theorem dX11_passes_62 : decode cX11_passes 62 = .ok (.iload 4, 2) := by decide +kernel
theorem dX11_passes_64 : decode cX11_passes 64 = .ok (.iadd, 1) := by decide +kernel
theorem dX11_passes_65 : decode cX11_passes 65 = .ok (.iaload, 1) := by decide +kernel
theorem dX11_passes_66 : decode cX11_passes 66 = .ok (.iload 5, 2) := by decide +kernel
theorem dX11_passes_68 : decode cX11_passes 68 = .ok (.if_icmp .le 18, 3) := by decide +kernel
theorem dX11_passes_71 : decode cX11_passes 71 = .ok (.aload_n 0, 1) := by decide +kernel
theorem dX11_passes_72 : decode cX11_passes 72 = .ok (.getfield 51, 3) := by decide +kernel
theorem dX11_passes_75 : decode cX11_passes 75 = .ok (.iload_n 3, 1) := by decide +kernel
theorem dX11_passes_76 : decode cX11_passes 76 = .ok (.iload 4, 2) := by decide +kernel
theorem dX11_passes_78 : decode cX11_passes 78 = .ok (.iadd, 1) := by decide +kernel
theorem dX11_passes_79 : decode cX11_passes 79 = .ok (.iaload, 1) := by decide +kernel
theorem dX11_passes_80 : decode cX11_passes 80 = .ok (.iload 5, 2) := by decide +kernel
theorem dX11_passes_82 : decode cX11_passes 82 = .ok (.isub, 1) := by decide +kernel
theorem dX11_passes_83 : decode cX11_passes 83 = .ok (.goto 4, 3) := by decide +kernel
theorem dX11_passes_86 : decode cX11_passes 86 = .ok (.iconst 0, 1) := by decide +kernel
theorem dX11_passes_87 : decode cX11_passes 87 = .ok (.iastore, 1) := by decide +kernel
theorem dX11_passes_88 : decode cX11_passes 88 = .ok (.aload_n 0, 1) := by decide +kernel
theorem dX11_passes_89 : decode cX11_passes 89 = .ok (.getfield 51, 3) := by decide +kernel
theorem dX11_passes_92 : decode cX11_passes 92 = .ok (.iload_n 3, 1) := by decide +kernel
theorem dX11_passes_93 : decode cX11_passes 93 = .ok (.bipush 10, 2) := by decide +kernel
theorem dX11_passes_95 : decode cX11_passes 95 = .ok (.iadd, 1) := by decide +kernel
theorem dX11_passes_96 : decode cX11_passes 96 = .ok (.iload 4, 2) := by decide +kernel
theorem dX11_passes_98 : decode cX11_passes 98 = .ok (.iadd, 1) := by decide +kernel
theorem dX11_passes_99 : decode cX11_passes 99 = .ok (.aload_n 0, 1) := by decide +kernel
theorem dX11_passes_100 : decode cX11_passes 100 = .ok (.getfield 51, 3) := by decide +kernel
theorem dX11_passes_103 : decode cX11_passes 103 = .ok (.iload_n 3, 1) := by decide +kernel
theorem dX11_passes_104 : decode cX11_passes 104 = .ok (.iload 4, 2) := by decide +kernel
theorem dX11_passes_106 : decode cX11_passes 106 = .ok (.iadd, 1) := by decide +kernel
theorem dX11_passes_107 : decode cX11_passes 107 = .ok (.iaload, 1) := by decide +kernel
theorem dX11_passes_108 : decode cX11_passes 108 = .ok (.ifCond .le 7, 3) := by decide +kernel
theorem dX11_passes_111 : decode cX11_passes 111 = .ok (.iconst 1, 1) := by decide +kernel
theorem dX11_passes_112 : decode cX11_passes 112 = .ok (.goto 4, 3) := by decide +kernel
theorem dX11_passes_115 : decode cX11_passes 115 = .ok (.iconst 0, 1) := by decide +kernel
theorem dX11_passes_116 : decode cX11_passes 116 = .ok (.iastore, 1) := by decide +kernel
theorem dX11_passes_117 : decode cX11_passes 117 = .ok (.goto 63, 3) := by decide +kernel
theorem dX11_passes_120 : decode cX11_passes 120 = .ok (.iload_n 2, 1) := by decide +kernel
theorem dX11_passes_121 : decode cX11_passes 121 = .ok (.iload 4, 2) := by decide +kernel
theorem dX11_passes_123 : decode cX11_passes 123 = .ok (.iconst 1, 1) := by decide +kernel
theorem dX11_passes_124 : decode cX11_passes 124 = .ok (.iadd, 1) := by decide +kernel
theorem dX11_passes_125 : decode cX11_passes 125 = .ok (.invokestatic 166, 3) := by decide +kernel
theorem dX11_passes_128 : decode cX11_passes 128 = .ok (.ifCond .ne 19, 3) := by decide +kernel
theorem dX11_passes_131 : decode cX11_passes 131 = .ok (.iload 4, 2) := by decide +kernel
theorem dX11_passes_133 : decode cX11_passes 133 = .ok (.ifCond .le 47, 3) := by decide +kernel
theorem dX11_passes_136 : decode cX11_passes 136 = .ok (.iload_n 2, 1) := by decide +kernel
theorem dX11_passes_137 : decode cX11_passes 137 = .ok (.iload 4, 2) := by decide +kernel
theorem dX11_passes_139 : decode cX11_passes 139 = .ok (.iconst 1, 1) := by decide +kernel
theorem dX11_passes_140 : decode cX11_passes 140 = .ok (.isub, 1) := by decide +kernel
theorem dX11_passes_141 : decode cX11_passes 141 = .ok (.invokestatic 166, 3) := by decide +kernel
theorem dX11_passes_144 : decode cX11_passes 144 = .ok (.ifCond .eq 36, 3) := by decide +kernel
theorem dX11_passes_147 : decode cX11_passes 147 = .ok (.aload_n 0, 1) := by decide +kernel
theorem dX11_passes_148 : decode cX11_passes 148 = .ok (.getfield 51, 3) := by decide +kernel
theorem dX11_passes_151 : decode cX11_passes 151 = .ok (.iload_n 3, 1) := by decide +kernel
theorem dX11_passes_152 : decode cX11_passes 152 = .ok (.iconst 5, 1) := by decide +kernel
theorem dX11_passes_153 : decode cX11_passes 153 = .ok (.iadd, 1) := by decide +kernel
theorem dX11_passes_154 : decode cX11_passes 154 = .ok (.iload 4, 2) := by decide +kernel
theorem dX11_passes_156 : decode cX11_passes 156 = .ok (.iadd, 1) := by decide +kernel
theorem dX11_passes_157 : decode cX11_passes 157 = .ok (.dup2, 1) := by decide +kernel
theorem dX11_passes_158 : decode cX11_passes 158 = .ok (.iaload, 1) := by decide +kernel
theorem dX11_passes_159 : decode cX11_passes 159 = .ok (.aload_n 0, 1) := by decide +kernel
theorem dX11_passes_160 : decode cX11_passes 160 = .ok (.getfield 51, 3) := by decide +kernel
theorem dX11_passes_163 : decode cX11_passes 163 = .ok (.iload_n 3, 1) := by decide +kernel
theorem dX11_passes_164 : decode cX11_passes 164 = .ok (.iconst 5, 1) := by decide +kernel
theorem dX11_passes_165 : decode cX11_passes 165 = .ok (.iadd, 1) := by decide +kernel
theorem dX11_passes_166 : decode cX11_passes 166 = .ok (.iload 4, 2) := by decide +kernel
theorem dX11_passes_168 : decode cX11_passes 168 = .ok (.iadd, 1) := by decide +kernel
theorem dX11_passes_169 : decode cX11_passes 169 = .ok (.iaload, 1) := by decide +kernel
theorem dX11_passes_170 : decode cX11_passes 170 = .ok (.ifCond .le 7, 3) := by decide +kernel
theorem dX11_passes_173 : decode cX11_passes 173 = .ok (.iconst 1, 1) := by decide +kernel
theorem dX11_passes_174 : decode cX11_passes 174 = .ok (.goto 4, 3) := by decide +kernel
theorem dX11_passes_177 : decode cX11_passes 177 = .ok (.iconst 0, 1) := by decide +kernel
theorem dX11_passes_178 : decode cX11_passes 178 = .ok (.isub, 1) := by decide +kernel
theorem dX11_passes_179 : decode cX11_passes 179 = .ok (.iastore, 1) := by decide +kernel
theorem dX11_passes_180 : decode cX11_passes 180 = .ok (.iinc 4 1, 3) := by decide +kernel
theorem dX11_passes_183 : decode cX11_passes 183 = .ok (.goto (-169), 3) := by decide +kernel
theorem dX11_passes_186 : decode cX11_passes 186 = .ok (.aload_n 0, 1) := by decide +kernel
theorem dX11_passes_187 : decode cX11_passes 187 = .ok (.getfield 51, 3) := by decide +kernel
theorem dX11_passes_190 : decode cX11_passes 190 = .ok (.iload_n 3, 1) := by decide +kernel
theorem dX11_passes_191 : decode cX11_passes 191 = .ok (.bipush 15, 2) := by decide +kernel
theorem dX11_passes_193 : decode cX11_passes 193 = .ok (.iadd, 1) := by decide +kernel
theorem dX11_passes_194 : decode cX11_passes 194 = .ok (.dup2, 1) := by decide +kernel
theorem dX11_passes_195 : decode cX11_passes 195 = .ok (.iaload, 1) := by decide +kernel
theorem dX11_passes_196 : decode cX11_passes 196 = .ok (.iconst 1, 1) := by decide +kernel
theorem dX11_passes_197 : decode cX11_passes 197 = .ok (.iadd, 1) := by decide +kernel
theorem dX11_passes_198 : decode cX11_passes 198 = .ok (.iastore, 1) := by decide +kernel
theorem dX11_passes_199 : decode cX11_passes 199 = .ok (.aload_n 0, 1) := by decide +kernel
theorem dX11_passes_200 : decode cX11_passes 200 = .ok (.getfield 51, 3) := by decide +kernel
theorem dX11_passes_203 : decode cX11_passes 203 = .ok (.iload_n 3, 1) := by decide +kernel
theorem dX11_passes_204 : decode cX11_passes 204 = .ok (.bipush 17, 2) := by decide +kernel
theorem dX11_passes_206 : decode cX11_passes 206 = .ok (.iadd, 1) := by decide +kernel
theorem dX11_passes_207 : decode cX11_passes 207 = .ok (.iconst 0, 1) := by decide +kernel
theorem dX11_passes_208 : decode cX11_passes 208 = .ok (.iastore, 1) := by decide +kernel
theorem dX11_passes_209 : decode cX11_passes 209 = .ok (.return_, 1) := by decide +kernel
theorem dX11_houseTells_0 : decode cX11_houseTells 0 = .ok (.iload_n 2, 1) := by decide +kernel
theorem dX11_houseTells_1 : decode cX11_houseTells 1 = .ok (.tableswitch 75 0 4 #[35, 42, 49, 58, 65], 35) := by decide +kernel
theorem dX11_houseTells_36 : decode cX11_houseTells 36 = .ok (.aload_n 0, 1) := by decide +kernel
theorem dX11_houseTells_37 : decode cX11_houseTells 37 = .ok (.getfield 36, 3) := by decide +kernel
theorem dX11_houseTells_40 : decode cX11_houseTells 40 = .ok (.iload_n 1, 1) := by decide +kernel
theorem dX11_houseTells_41 : decode cX11_houseTells 41 = .ok (.iaload, 1) := by decide +kernel
theorem dX11_houseTells_42 : decode cX11_houseTells 42 = .ok (.ireturn, 1) := by decide +kernel
theorem dX11_houseTells_43 : decode cX11_houseTells 43 = .ok (.aload_n 0, 1) := by decide +kernel
theorem dX11_houseTells_44 : decode cX11_houseTells 44 = .ok (.getfield 51, 3) := by decide +kernel
theorem dX11_houseTells_47 : decode cX11_houseTells 47 = .ok (.iload_n 1, 1) := by decide +kernel
theorem dX11_houseTells_48 : decode cX11_houseTells 48 = .ok (.iaload, 1) := by decide +kernel
theorem dX11_houseTells_49 : decode cX11_houseTells 49 = .ok (.ireturn, 1) := by decide +kernel
theorem dX11_houseTells_50 : decode cX11_houseTells 50 = .ok (.aload_n 0, 1) := by decide +kernel
theorem dX11_houseTells_51 : decode cX11_houseTells 51 = .ok (.getfield 51, 3) := by decide +kernel
theorem dX11_houseTells_54 : decode cX11_houseTells 54 = .ok (.iconst 5, 1) := by decide +kernel
theorem dX11_houseTells_55 : decode cX11_houseTells 55 = .ok (.iload_n 1, 1) := by decide +kernel
theorem dX11_houseTells_56 : decode cX11_houseTells 56 = .ok (.iadd, 1) := by decide +kernel
theorem dX11_houseTells_57 : decode cX11_houseTells 57 = .ok (.iaload, 1) := by decide +kernel
theorem dX11_houseTells_58 : decode cX11_houseTells 58 = .ok (.ireturn, 1) := by decide +kernel
theorem dX11_houseTells_59 : decode cX11_houseTells 59 = .ok (.aload_n 0, 1) := by decide +kernel
theorem dX11_houseTells_60 : decode cX11_houseTells 60 = .ok (.getfield 39, 3) := by decide +kernel
theorem dX11_houseTells_63 : decode cX11_houseTells 63 = .ok (.iload_n 1, 1) := by decide +kernel
theorem dX11_houseTells_64 : decode cX11_houseTells 64 = .ok (.iaload, 1) := by decide +kernel
theorem dX11_houseTells_65 : decode cX11_houseTells 65 = .ok (.ireturn, 1) := by decide +kernel
theorem dX11_houseTells_66 : decode cX11_houseTells 66 = .ok (.aload_n 0, 1) := by decide +kernel
theorem dX11_houseTells_67 : decode cX11_houseTells 67 = .ok (.getfield 51, 3) := by decide +kernel
theorem dX11_houseTells_70 : decode cX11_houseTells 70 = .ok (.bipush 10, 2) := by decide +kernel
theorem dX11_houseTells_72 : decode cX11_houseTells 72 = .ok (.iload_n 1, 1) := by decide +kernel
theorem dX11_houseTells_73 : decode cX11_houseTells 73 = .ok (.iadd, 1) := by decide +kernel
theorem dX11_houseTells_74 : decode cX11_houseTells 74 = .ok (.iaload, 1) := by decide +kernel
theorem dX11_houseTells_75 : decode cX11_houseTells 75 = .ok (.ireturn, 1) := by decide +kernel
theorem dX11_houseTells_76 : decode cX11_houseTells 76 = .ok (.aload_n 0, 1) := by decide +kernel
theorem dX11_houseTells_77 : decode cX11_houseTells 77 = .ok (.iconst 0, 1) := by decide +kernel
theorem dX11_houseTells_78 : decode cX11_houseTells 78 = .ok (.iload_n 1, 1) := by decide +kernel
theorem dX11_houseTells_79 : decode cX11_houseTells 79 = .ok (.invokevirtual 151, 3) := by decide +kernel
theorem dX11_houseTells_82 : decode cX11_houseTells 82 = .ok (.ifCond .eq 7, 3) := by decide +kernel
theorem dX11_houseTells_85 : decode cX11_houseTells 85 = .ok (.iconst 1, 1) := by decide +kernel
theorem dX11_houseTells_86 : decode cX11_houseTells 86 = .ok (.goto 4, 3) := by decide +kernel
theorem dX11_houseTells_89 : decode cX11_houseTells 89 = .ok (.iconst 0, 1) := by decide +kernel
theorem dX11_houseTells_90 : decode cX11_houseTells 90 = .ok (.ireturn, 1) := by decide +kernel
theorem dX11_house_0 : decode cX11_house 0 = .ok (.aload_n 0, 1) := by decide +kernel
theorem dX11_house_1 : decode cX11_house 1 = .ok (.iload_n 1, 1) := by decide +kernel
theorem dX11_house_2 : decode cX11_house 2 = .ok (.invokevirtual 172, 3) := by decide +kernel
theorem dX11_house_5 : decode cX11_house 5 = .ok (.ifCond .eq 26, 3) := by decide +kernel
theorem dX11_house_8 : decode cX11_house 8 = .ok (.iload_n 2, 1) := by decide +kernel
theorem dX11_house_9 : decode cX11_house 9 = .ok (.iconst 0, 1) := by decide +kernel
theorem dX11_house_10 : decode cX11_house 10 = .ok (.iconst 5, 1) := by decide +kernel
theorem dX11_house_11 : decode cX11_house 11 = .ok (.invokestatic 83, 3) := by decide +kernel
theorem dX11_house_14 : decode cX11_house 14 = .ok (.ifCond .eq 17, 3) := by decide +kernel
theorem dX11_house_17 : decode cX11_house 17 = .ok (.aload_n 0, 1) := by decide +kernel
theorem dX11_house_18 : decode cX11_house 18 = .ok (.aload_n 0, 1) := by decide +kernel
theorem dX11_house_19 : decode cX11_house 19 = .ok (.iload_n 1, 1) := by decide +kernel
theorem dX11_house_20 : decode cX11_house 20 = .ok (.iload_n 2, 1) := by decide +kernel
theorem dX11_house_21 : decode cX11_house 21 = .ok (.invokevirtual 175, 3) := by decide +kernel
theorem dX11_house_24 : decode cX11_house 24 = .ok (.iconst 1, 1) := by decide +kernel
theorem dX11_house_25 : decode cX11_house 25 = .ok (.invokevirtual 105, 3) := by decide +kernel
theorem dX11_house_28 : decode cX11_house 28 = .ok (.goto 4, 3) := by decide +kernel
theorem dX11_house_31 : decode cX11_house 31 = .ok (.iconst (-1), 1) := by decide +kernel
theorem dX11_house_32 : decode cX11_house 32 = .ok (.ireturn, 1) := by decide +kernel
theorem dX11_wind_0 : decode cX11_wind 0 = .ok (.iload_n 1, 1) := by decide +kernel
theorem dX11_wind_1 : decode cX11_wind 1 = .ok (.iconst 0, 1) := by decide +kernel
theorem dX11_wind_2 : decode cX11_wind 2 = .ok (.sipush 999, 3) := by decide +kernel
theorem dX11_wind_5 : decode cX11_wind 5 = .ok (.invokestatic 83, 3) := by decide +kernel
theorem dX11_wind_8 : decode cX11_wind 8 = .ok (.ifCond .ne 7, 3) := by decide +kernel
theorem dX11_wind_11 : decode cX11_wind 11 = .ok (.iconst (-1), 1) := by decide +kernel
theorem dX11_wind_12 : decode cX11_wind 12 = .ok (.goto 20, 3) := by decide +kernel
theorem dX11_wind_15 : decode cX11_wind 15 = .ok (.aload_n 0, 1) := by decide +kernel
theorem dX11_wind_16 : decode cX11_wind 16 = .ok (.getfield 138, 3) := by decide +kernel
theorem dX11_wind_19 : decode cX11_wind 19 = .ok (.ifCond .ne 8, 3) := by decide +kernel
theorem dX11_wind_22 : decode cX11_wind 22 = .ok (.bipush (-4), 2) := by decide +kernel
theorem dX11_wind_24 : decode cX11_wind 24 = .ok (.goto 8, 3) := by decide +kernel
theorem dX11_wind_27 : decode cX11_wind 27 = .ok (.aload_n 0, 1) := by decide +kernel
theorem dX11_wind_28 : decode cX11_wind 28 = .ok (.iload_n 1, 1) := by decide +kernel
theorem dX11_wind_29 : decode cX11_wind 29 = .ok (.invokevirtual 160, 3) := by decide +kernel
theorem dX11_wind_32 : decode cX11_wind 32 = .ok (.ireturn, 1) := by decide +kernel
theorem dX11_springOf_0 : decode cX11_springOf 0 = .ok (.iconst 0, 1) := by decide +kernel
theorem dX11_springOf_1 : decode cX11_springOf 1 = .ok (.istore_n 3, 1) := by decide +kernel
theorem dX11_springOf_2 : decode cX11_springOf 2 = .ok (.iconst 0, 1) := by decide +kernel
theorem dX11_springOf_3 : decode cX11_springOf 3 = .ok (.istore 4, 2) := by decide +kernel
theorem dX11_springOf_5 : decode cX11_springOf 5 = .ok (.iload 4, 2) := by decide +kernel
theorem dX11_springOf_7 : decode cX11_springOf 7 = .ok (.iload_n 2, 1) := by decide +kernel
theorem dX11_springOf_8 : decode cX11_springOf 8 = .ok (.if_icmp .ge 27, 3) := by decide +kernel
theorem dX11_springOf_11 : decode cX11_springOf 11 = .ok (.iload_n 3, 1) := by decide +kernel
theorem dX11_springOf_12 : decode cX11_springOf 12 = .ok (.aload_n 0, 1) := by decide +kernel
theorem dX11_springOf_13 : decode cX11_springOf 13 = .ok (.iload_n 1, 1) := by decide +kernel
theorem dX11_springOf_14 : decode cX11_springOf 14 = .ok (.aload_n 0, 1) := by decide +kernel
theorem dX11_springOf_15 : decode cX11_springOf 15 = .ok (.getfield 51, 3) := by decide +kernel
theorem dX11_springOf_18 : decode cX11_springOf 18 = .ok (.bipush 15, 2) := by decide +kernel
theorem dX11_springOf_20 : decode cX11_springOf 20 = .ok (.iaload, 1) := by decide +kernel
theorem dX11_springOf_21 : decode cX11_springOf 21 = .ok (.iload 4, 2) := by decide +kernel
theorem dX11_springOf_23 : decode cX11_springOf 23 = .ok (.iadd, 1) := by decide +kernel
theorem dX11_springOf_24 : decode cX11_springOf 24 = .ok (.invokevirtual 169, 3) := by decide +kernel
theorem dX11_springOf_27 : decode cX11_springOf 27 = .ok (.iadd, 1) := by decide +kernel
theorem dX11_springOf_28 : decode cX11_springOf 28 = .ok (.istore_n 3, 1) := by decide +kernel
theorem dX11_springOf_29 : decode cX11_springOf 29 = .ok (.iinc 4 1, 3) := by decide +kernel
theorem dX11_springOf_32 : decode cX11_springOf 32 = .ok (.goto (-27), 3) := by decide +kernel
theorem dX11_springOf_35 : decode cX11_springOf 35 = .ok (.iload_n 3, 1) := by decide +kernel
theorem dX11_springOf_36 : decode cX11_springOf 36 = .ok (.ireturn, 1) := by decide +kernel
theorem dX11_wetBeside_0 : decode cX11_wetBeside 0 = .ok (.iconst 0, 1) := by decide +kernel
theorem dX11_wetBeside_1 : decode cX11_wetBeside 1 = .ok (.istore_n 2, 1) := by decide +kernel
theorem dX11_wetBeside_2 : decode cX11_wetBeside 2 = .ok (.iload_n 1, 1) := by decide +kernel
theorem dX11_wetBeside_3 : decode cX11_wetBeside 3 = .ok (.iconst 1, 1) := by decide +kernel
theorem dX11_wetBeside_4 : decode cX11_wetBeside 4 = .ok (.isub, 1) := by decide +kernel
theorem dX11_wetBeside_5 : decode cX11_wetBeside 5 = .ok (.istore_n 3, 1) := by decide +kernel
theorem dX11_wetBeside_6 : decode cX11_wetBeside 6 = .ok (.iload_n 3, 1) := by decide +kernel
theorem dX11_wetBeside_7 : decode cX11_wetBeside 7 = .ok (.iload_n 1, 1) := by decide +kernel
theorem dX11_wetBeside_8 : decode cX11_wetBeside 8 = .ok (.iconst 1, 1) := by decide +kernel
theorem dX11_wetBeside_9 : decode cX11_wetBeside 9 = .ok (.iadd, 1) := by decide +kernel
theorem dX11_wetBeside_10 : decode cX11_wetBeside 10 = .ok (.if_icmp .gt 36, 3) := by decide +kernel
theorem dX11_wetBeside_13 : decode cX11_wetBeside 13 = .ok (.iload_n 2, 1) := by decide +kernel
theorem dX11_wetBeside_14 : decode cX11_wetBeside 14 = .ok (.aload_n 0, 1) := by decide +kernel
theorem dX11_wetBeside_15 : decode cX11_wetBeside 15 = .ok (.iload_n 3, 1) := by decide +kernel
theorem dX11_wetBeside_16 : decode cX11_wetBeside 16 = .ok (.invokevirtual 172, 3) := by decide +kernel
theorem dX11_wetBeside_19 : decode cX11_wetBeside 19 = .ok (.ifCond .eq 18, 3) := by decide +kernel
theorem dX11_wetBeside_22 : decode cX11_wetBeside 22 = .ok (.aload_n 0, 1) := by decide +kernel
theorem dX11_wetBeside_23 : decode cX11_wetBeside 23 = .ok (.getfield 51, 3) := by decide +kernel
theorem dX11_wetBeside_26 : decode cX11_wetBeside 26 = .ok (.iconst 5, 1) := by decide +kernel
theorem dX11_wetBeside_27 : decode cX11_wetBeside 27 = .ok (.iload_n 3, 1) := by decide +kernel
theorem dX11_wetBeside_28 : decode cX11_wetBeside 28 = .ok (.iadd, 1) := by decide +kernel
theorem dX11_wetBeside_29 : decode cX11_wetBeside 29 = .ok (.iaload, 1) := by decide +kernel
theorem dX11_wetBeside_30 : decode cX11_wetBeside 30 = .ok (.ifCond .le 7, 3) := by decide +kernel
theorem dX11_wetBeside_33 : decode cX11_wetBeside 33 = .ok (.iconst 1, 1) := by decide +kernel
theorem dX11_wetBeside_34 : decode cX11_wetBeside 34 = .ok (.goto 4, 3) := by decide +kernel
theorem dX11_wetBeside_37 : decode cX11_wetBeside 37 = .ok (.iconst 0, 1) := by decide +kernel
theorem dX11_wetBeside_38 : decode cX11_wetBeside 38 = .ok (.iadd, 1) := by decide +kernel
theorem dX11_wetBeside_39 : decode cX11_wetBeside 39 = .ok (.istore_n 2, 1) := by decide +kernel
theorem dX11_wetBeside_40 : decode cX11_wetBeside 40 = .ok (.iinc 3 2, 3) := by decide +kernel
theorem dX11_wetBeside_43 : decode cX11_wetBeside 43 = .ok (.goto (-37), 3) := by decide +kernel
theorem dX11_wetBeside_46 : decode cX11_wetBeside 46 = .ok (.iload_n 2, 1) := by decide +kernel
theorem dX11_wetBeside_47 : decode cX11_wetBeside 47 = .ok (.ireturn, 1) := by decide +kernel
theorem dX11_mark_0 : decode cX11_mark 0 = .ok (.aload_n 0, 1) := by decide +kernel
theorem dX11_mark_1 : decode cX11_mark 1 = .ok (.iload_n 1, 1) := by decide +kernel
theorem dX11_mark_2 : decode cX11_mark 2 = .ok (.invokevirtual 172, 3) := by decide +kernel
theorem dX11_mark_5 : decode cX11_mark 5 = .ok (.ifCond .eq 12, 3) := by decide +kernel
theorem dX11_mark_8 : decode cX11_mark 8 = .ok (.iload_n 2, 1) := by decide +kernel
theorem dX11_mark_9 : decode cX11_mark 9 = .ok (.iconst 1, 1) := by decide +kernel
theorem dX11_mark_10 : decode cX11_mark 10 = .ok (.iconst 5, 1) := by decide +kernel
theorem dX11_mark_11 : decode cX11_mark 11 = .ok (.invokestatic 83, 3) := by decide +kernel
theorem dX11_mark_14 : decode cX11_mark 14 = .ok (.ifCond .ne 5, 3) := by decide +kernel
theorem dX11_mark_17 : decode cX11_mark 17 = .ok (.iconst (-1), 1) := by decide +kernel
theorem dX11_mark_18 : decode cX11_mark 18 = .ok (.ireturn, 1) := by decide +kernel
theorem dX11_mark_19 : decode cX11_mark 19 = .ok (.aload_n 0, 1) := by decide +kernel
theorem dX11_mark_20 : decode cX11_mark 20 = .ok (.getfield 36, 3) := by decide +kernel
theorem dX11_mark_23 : decode cX11_mark 23 = .ok (.iload_n 1, 1) := by decide +kernel
theorem dX11_mark_24 : decode cX11_mark 24 = .ok (.iaload, 1) := by decide +kernel
theorem dX11_mark_25 : decode cX11_mark 25 = .ok (.istore_n 3, 1) := by decide +kernel
theorem dX11_mark_26 : decode cX11_mark 26 = .ok (.iload_n 3, 1) := by decide +kernel
theorem dX11_mark_27 : decode cX11_mark 27 = .ok (.iload_n 2, 1) := by decide +kernel
theorem dX11_mark_28 : decode cX11_mark 28 = .ok (.if_icmp .eq 29, 3) := by decide +kernel
theorem dX11_mark_31 : decode cX11_mark 31 = .ok (.iload_n 2, 1) := by decide +kernel
theorem dX11_mark_32 : decode cX11_mark 32 = .ok (.iconst 1, 1) := by decide +kernel
theorem dX11_mark_33 : decode cX11_mark 33 = .ok (.if_icmp .ne 8, 3) := by decide +kernel
theorem dX11_mark_36 : decode cX11_mark 36 = .ok (.iload_n 3, 1) := by decide +kernel
theorem dX11_mark_37 : decode cX11_mark 37 = .ok (.iconst 4, 1) := by decide +kernel
theorem dX11_mark_38 : decode cX11_mark 38 = .ok (.if_icmp .eq 19, 3) := by decide +kernel
theorem dX11_mark_41 : decode cX11_mark 41 = .ok (.iload_n 2, 1) := by decide +kernel
theorem dX11_mark_42 : decode cX11_mark 42 = .ok (.iconst 2, 1) := by decide +kernel
theorem dX11_mark_43 : decode cX11_mark 43 = .ok (.if_icmp .ne 8, 3) := by decide +kernel
theorem dX11_mark_46 : decode cX11_mark 46 = .ok (.iload_n 3, 1) := by decide +kernel
theorem dX11_mark_47 : decode cX11_mark 47 = .ok (.iconst 5, 1) := by decide +kernel
theorem dX11_mark_48 : decode cX11_mark 48 = .ok (.if_icmp .eq 9, 3) := by decide +kernel
theorem dX11_mark_51 : decode cX11_mark 51 = .ok (.aload_n 0, 1) := by decide +kernel
theorem dX11_mark_52 : decode cX11_mark 52 = .ok (.iconst 3, 1) := by decide +kernel
theorem dX11_mark_53 : decode cX11_mark 53 = .ok (.invokevirtual 97, 3) := by decide +kernel
theorem dX11_mark_56 : decode cX11_mark 56 = .ok (.ireturn, 1) := by decide +kernel
theorem dX11_mark_57 : decode cX11_mark 57 = .ok (.iload_n 2, 1) := by decide +kernel
theorem dX11_mark_58 : decode cX11_mark 58 = .ok (.tableswitch 74 1 4 #[30, 38, 49, 60], 30) := by decide +kernel
theorem dX11_mark_88 : decode cX11_mark 88 = .ok (.aload_n 0, 1) := by decide +kernel
theorem dX11_mark_89 : decode cX11_mark 89 = .ok (.iload_n 1, 1) := by decide +kernel
theorem dX11_mark_90 : decode cX11_mark 90 = .ok (.bipush 8, 2) := by decide +kernel
theorem dX11_mark_92 : decode cX11_mark 92 = .ok (.invokevirtual 178, 3) := by decide +kernel
theorem dX11_mark_95 : decode cX11_mark 95 = .ok (.ireturn, 1) := by decide +kernel
theorem dX11_mark_96 : decode cX11_mark 96 = .ok (.iload_n 3, 1) := by decide +kernel
theorem dX11_mark_97 : decode cX11_mark 97 = .ok (.iconst 5, 1) := by decide +kernel
theorem dX11_mark_98 : decode cX11_mark 98 = .ok (.if_icmp .ne 7, 3) := by decide +kernel
theorem dX11_mark_101 : decode cX11_mark 101 = .ok (.iconst 0, 1) := by decide +kernel
theorem dX11_mark_102 : decode cX11_mark 102 = .ok (.goto 4, 3) := by decide +kernel
theorem dX11_mark_105 : decode cX11_mark 105 = .ok (.iconst 2, 1) := by decide +kernel
theorem dX11_mark_106 : decode cX11_mark 106 = .ok (.ireturn, 1) := by decide +kernel
theorem dX11_mark_107 : decode cX11_mark 107 = .ok (.aload_n 0, 1) := by decide +kernel
theorem dX11_mark_108 : decode cX11_mark 108 = .ok (.getfield 51, 3) := by decide +kernel
theorem dX11_mark_111 : decode cX11_mark 111 = .ok (.iload_n 1, 1) := by decide +kernel
theorem dX11_mark_112 : decode cX11_mark 112 = .ok (.iaload, 1) := by decide +kernel
theorem dX11_mark_113 : decode cX11_mark 113 = .ok (.iconst 1, 1) := by decide +kernel
theorem dX11_mark_114 : decode cX11_mark 114 = .ok (.iadd, 1) := by decide +kernel
theorem dX11_mark_115 : decode cX11_mark 115 = .ok (.iconst 2, 1) := by decide +kernel
theorem dX11_mark_116 : decode cX11_mark 116 = .ok (.idiv, 1) := by decide +kernel
theorem dX11_mark_117 : decode cX11_mark 117 = .ok (.ireturn, 1) := by decide +kernel
theorem dX11_mark_118 : decode cX11_mark 118 = .ok (.iconst 4, 1) := by decide +kernel
theorem dX11_mark_119 : decode cX11_mark 119 = .ok (.aload_n 0, 1) := by decide +kernel
theorem dX11_mark_120 : decode cX11_mark 120 = .ok (.getfield 51, 3) := by decide +kernel
theorem dX11_mark_123 : decode cX11_mark 123 = .ok (.bipush 15, 2) := by decide +kernel
theorem dX11_mark_125 : decode cX11_mark 125 = .ok (.iaload, 1) := by decide +kernel
theorem dX11_mark_126 : decode cX11_mark 126 = .ok (.iconst 4, 1) := by decide +kernel
theorem dX11_mark_127 : decode cX11_mark 127 = .ok (.irem, 1) := by decide +kernel
theorem dX11_mark_128 : decode cX11_mark 128 = .ok (.isub, 1) := by decide +kernel
theorem dX11_mark_129 : decode cX11_mark 129 = .ok (.iconst 4, 1) := by decide +kernel
theorem dX11_mark_130 : decode cX11_mark 130 = .ok (.irem, 1) := by decide +kernel
theorem dX11_mark_131 : decode cX11_mark 131 = .ok (.ireturn, 1) := by decide +kernel
theorem dX11_mark_132 : decode cX11_mark 132 = .ok (.aload_n 0, 1) := by decide +kernel
theorem dX11_mark_133 : decode cX11_mark 133 = .ok (.iload_n 1, 1) := by decide +kernel
theorem dX11_mark_134 : decode cX11_mark 134 = .ok (.invokevirtual 181, 3) := by decide +kernel
theorem dX11_mark_137 : decode cX11_mark 137 = .ok (.ireturn, 1) := by decide +kernel
theorem dX11_stack_0 : decode cX11_stack 0 = .ok (.aload_n 0, 1) := by decide +kernel
theorem dX11_stack_1 : decode cX11_stack 1 = .ok (.iload_n 1, 1) := by decide +kernel
theorem dX11_stack_2 : decode cX11_stack 2 = .ok (.invokevirtual 172, 3) := by decide +kernel
theorem dX11_stack_5 : decode cX11_stack 5 = .ok (.ifCond .eq 13, 3) := by decide +kernel
theorem dX11_stack_8 : decode cX11_stack 8 = .ok (.iload_n 2, 1) := by decide +kernel
theorem dX11_stack_9 : decode cX11_stack 9 = .ok (.iconst 0, 1) := by decide +kernel
theorem dX11_stack_10 : decode cX11_stack 10 = .ok (.bipush 9, 2) := by decide +kernel
theorem dX11_stack_12 : decode cX11_stack 12 = .ok (.invokestatic 83, 3) := by decide +kernel
theorem dX11_stack_15 : decode cX11_stack 15 = .ok (.ifCond .ne 5, 3) := by decide +kernel
theorem dX11_stack_18 : decode cX11_stack 18 = .ok (.iconst (-1), 1) := by decide +kernel
theorem dX11_stack_19 : decode cX11_stack 19 = .ok (.ireturn, 1) := by decide +kernel
theorem dX11_stack_20 : decode cX11_stack 20 = .ok (.aload_n 0, 1) := by decide +kernel
theorem dX11_stack_21 : decode cX11_stack 21 = .ok (.getfield 144, 3) := by decide +kernel
theorem dX11_stack_24 : decode cX11_stack 24 = .ok (.ifCond .le 6, 3) := by decide +kernel
theorem dX11_stack_27 : decode cX11_stack 27 = .ok (.bipush (-4), 2) := by decide +kernel
theorem dX11_stack_29 : decode cX11_stack 29 = .ok (.ireturn, 1) := by decide +kernel
theorem dX11_stack_30 : decode cX11_stack 30 = .ok (.aload_n 0, 1) := by decide +kernel
theorem dX11_stack_31 : decode cX11_stack 31 = .ok (.getfield 51, 3) := by decide +kernel
theorem dX11_stack_34 : decode cX11_stack 34 = .ok (.iload_n 1, 1) := by decide +kernel
theorem dX11_stack_35 : decode cX11_stack 35 = .ok (.iaload, 1) := by decide +kernel
theorem dX11_stack_36 : decode cX11_stack 36 = .ok (.istore_n 3, 1) := by decide +kernel
theorem dX11_stack_37 : decode cX11_stack 37 = .ok (.aload_n 0, 1) := by decide +kernel
theorem dX11_stack_38 : decode cX11_stack 38 = .ok (.getfield 51, 3) := by decide +kernel
theorem dX11_stack_41 : decode cX11_stack 41 = .ok (.iload_n 1, 1) := by decide +kernel
theorem dX11_stack_42 : decode cX11_stack 42 = .ok (.iload_n 2, 1) := by decide +kernel
theorem dX11_stack_43 : decode cX11_stack 43 = .ok (.iastore, 1) := by decide +kernel
theorem dX11_stack_44 : decode cX11_stack 44 = .ok (.aload_n 0, 1) := by decide +kernel
theorem dX11_stack_45 : decode cX11_stack 45 = .ok (.getfield 48, 3) := by decide +kernel
theorem dX11_stack_48 : decode cX11_stack 48 = .ok (.iload_n 1, 1) := by decide +kernel
theorem dX11_stack_49 : decode cX11_stack 49 = .ok (.iload_n 2, 1) := by decide +kernel
theorem dX11_stack_50 : decode cX11_stack 50 = .ok (.iastore, 1) := by decide +kernel
theorem dX11_stack_51 : decode cX11_stack 51 = .ok (.iload_n 3, 1) := by decide +kernel
theorem dX11_stack_52 : decode cX11_stack 52 = .ok (.ireturn, 1) := by decide +kernel
theorem dX11_remember_0 : decode cX11_remember 0 = .ok (.iconst 0, 1) := by decide +kernel
theorem dX11_remember_1 : decode cX11_remember 1 = .ok (.istore_n 1, 1) := by decide +kernel
theorem dX11_remember_2 : decode cX11_remember 2 = .ok (.iload_n 1, 1) := by decide +kernel
theorem dX11_remember_3 : decode cX11_remember 3 = .ok (.bipush 18, 2) := by decide +kernel
theorem dX11_remember_5 : decode cX11_remember 5 = .ok (.if_icmp .ge 29, 3) := by decide +kernel
theorem dX11_remember_8 : decode cX11_remember 8 = .ok (.aload_n 0, 1) := by decide +kernel
theorem dX11_remember_9 : decode cX11_remember 9 = .ok (.getfield 54, 3) := by decide +kernel
theorem dX11_remember_12 : decode cX11_remember 12 = .ok (.bipush 18, 2) := by decide +kernel
theorem dX11_remember_14 : decode cX11_remember 14 = .ok (.aload_n 0, 1) := by decide +kernel
theorem dX11_remember_15 : decode cX11_remember 15 = .ok (.getfield 144, 3) := by decide +kernel
theorem dX11_remember_18 : decode cX11_remember 18 = .ok (.imul, 1) := by decide +kernel
theorem dX11_remember_19 : decode cX11_remember 19 = .ok (.iload_n 1, 1) := by decide +kernel
theorem dX11_remember_20 : decode cX11_remember 20 = .ok (.iadd, 1) := by decide +kernel
theorem dX11_remember_21 : decode cX11_remember 21 = .ok (.aload_n 0, 1) := by decide +kernel
theorem dX11_remember_22 : decode cX11_remember 22 = .ok (.getfield 51, 3) := by decide +kernel
theorem dX11_remember_25 : decode cX11_remember 25 = .ok (.iload_n 1, 1) := by decide +kernel
theorem dX11_remember_26 : decode cX11_remember 26 = .ok (.iaload, 1) := by decide +kernel
theorem dX11_remember_27 : decode cX11_remember 27 = .ok (.iastore, 1) := by decide +kernel
theorem dX11_remember_28 : decode cX11_remember 28 = .ok (.iinc 1 1, 3) := by decide +kernel
theorem dX11_remember_31 : decode cX11_remember 31 = .ok (.goto (-29), 3) := by decide +kernel
theorem dX11_remember_34 : decode cX11_remember 34 = .ok (.aload_n 0, 1) := by decide +kernel
theorem dX11_remember_35 : decode cX11_remember 35 = .ok (.dup, 1) := by decide +kernel
theorem dX11_remember_36 : decode cX11_remember 36 = .ok (.getfield 144, 3) := by decide +kernel
theorem dX11_remember_39 : decode cX11_remember 39 = .ok (.iconst 1, 1) := by decide +kernel
theorem dX11_remember_40 : decode cX11_remember 40 = .ok (.iadd, 1) := by decide +kernel
theorem dX11_remember_41 : decode cX11_remember 41 = .ok (.putfield 144, 3) := by decide +kernel
theorem dX11_remember_44 : decode cX11_remember 44 = .ok (.return_, 1) := by decide +kernel
theorem dX11_strike_0 : decode cX11_strike 0 = .ok (.aload_n 0, 1) := by decide +kernel
theorem dX11_strike_1 : decode cX11_strike 1 = .ok (.iload_n 1, 1) := by decide +kernel
theorem dX11_strike_2 : decode cX11_strike 2 = .ok (.invokevirtual 172, 3) := by decide +kernel
theorem dX11_strike_5 : decode cX11_strike 5 = .ok (.ifCond .ne 5, 3) := by decide +kernel
theorem dX11_strike_8 : decode cX11_strike 8 = .ok (.iconst (-1), 1) := by decide +kernel
theorem dX11_strike_9 : decode cX11_strike 9 = .ok (.ireturn, 1) := by decide +kernel
theorem dX11_strike_10 : decode cX11_strike 10 = .ok (.aload_n 0, 1) := by decide +kernel
theorem dX11_strike_11 : decode cX11_strike 11 = .ok (.getfield 51, 3) := by decide +kernel
theorem dX11_strike_14 : decode cX11_strike 14 = .ok (.bipush 16, 2) := by decide +kernel
theorem dX11_strike_16 : decode cX11_strike 16 = .ok (.iaload, 1) := by decide +kernel
theorem dX11_strike_17 : decode cX11_strike 17 = .ok (.iconst 1, 1) := by decide +kernel
theorem dX11_strike_18 : decode cX11_strike 18 = .ok (.if_icmp .eq 12, 3) := by decide +kernel
theorem dX11_strike_21 : decode cX11_strike 21 = .ok (.aload_n 0, 1) := by decide +kernel
theorem dX11_strike_22 : decode cX11_strike 22 = .ok (.iconst 0, 1) := by decide +kernel
theorem dX11_strike_23 : decode cX11_strike 23 = .ok (.iload_n 1, 1) := by decide +kernel
theorem dX11_strike_24 : decode cX11_strike 24 = .ok (.invokevirtual 151, 3) := by decide +kernel
theorem dX11_strike_27 : decode cX11_strike 27 = .ok (.ifCond .ne 6, 3) := by decide +kernel
theorem dX11_strike_30 : decode cX11_strike 30 = .ok (.bipush (-4), 2) := by decide +kernel
theorem dX11_strike_32 : decode cX11_strike 32 = .ok (.ireturn, 1) := by decide +kernel
theorem dX11_strike_33 : decode cX11_strike 33 = .ok (.aload_n 0, 1) := by decide +kernel
theorem dX11_strike_34 : decode cX11_strike 34 = .ok (.getfield 144, 3) := by decide +kernel
theorem dX11_strike_37 : decode cX11_strike 37 = .ok (.bipush 40, 2) := by decide +kernel
theorem dX11_strike_39 : decode cX11_strike 39 = .ok (.if_icmp .ne 6, 3) := by decide +kernel
theorem dX11_strike_42 : decode cX11_strike 42 = .ok (.bipush (-2), 2) := by decide +kernel
theorem dX11_strike_44 : decode cX11_strike 44 = .ok (.ireturn, 1) := by decide +kernel
theorem dX11_strike_45 : decode cX11_strike 45 = .ok (.aload_n 0, 1) := by decide +kernel
theorem dX11_strike_46 : decode cX11_strike 46 = .ok (.invokevirtual 184, 3) := by decide +kernel
theorem dX11_strike_49 : decode cX11_strike 49 = .ok (.aload_n 0, 1) := by decide +kernel
theorem dX11_strike_50 : decode cX11_strike 50 = .ok (.getfield 51, 3) := by decide +kernel
theorem dX11_strike_53 : decode cX11_strike 53 = .ok (.bipush 16, 2) := by decide +kernel
theorem dX11_strike_55 : decode cX11_strike 55 = .ok (.iconst 1, 1) := by decide +kernel
theorem dX11_strike_56 : decode cX11_strike 56 = .ok (.iastore, 1) := by decide +kernel
theorem dX11_strike_57 : decode cX11_strike 57 = .ok (.aload_n 0, 1) := by decide +kernel
theorem dX11_strike_58 : decode cX11_strike 58 = .ok (.getfield 51, 3) := by decide +kernel
theorem dX11_strike_61 : decode cX11_strike 61 = .ok (.bipush 10, 2) := by decide +kernel
theorem dX11_strike_63 : decode cX11_strike 63 = .ok (.iload_n 1, 1) := by decide +kernel
theorem dX11_strike_64 : decode cX11_strike 64 = .ok (.iadd, 1) := by decide +kernel
theorem dX11_strike_65 : decode cX11_strike 65 = .ok (.iconst 1, 1) := by decide +kernel
theorem dX11_strike_66 : decode cX11_strike 66 = .ok (.iastore, 1) := by decide +kernel
theorem dX11_strike_67 : decode cX11_strike 67 = .ok (.iconst 1, 1) := by decide +kernel
theorem dX11_strike_68 : decode cX11_strike 68 = .ok (.ireturn, 1) := by decide +kernel
theorem dX11_carry_0 : decode cX11_carry 0 = .ok (.aload_n 0, 1) := by decide +kernel
theorem dX11_carry_1 : decode cX11_carry 1 = .ok (.iload_n 1, 1) := by decide +kernel
theorem dX11_carry_2 : decode cX11_carry 2 = .ok (.invokevirtual 172, 3) := by decide +kernel
theorem dX11_carry_5 : decode cX11_carry 5 = .ok (.ifCond .eq 16, 3) := by decide +kernel
theorem dX11_carry_8 : decode cX11_carry 8 = .ok (.aload_n 0, 1) := by decide +kernel
theorem dX11_carry_9 : decode cX11_carry 9 = .ok (.iload_n 2, 1) := by decide +kernel
theorem dX11_carry_10 : decode cX11_carry 10 = .ok (.invokevirtual 172, 3) := by decide +kernel
theorem dX11_carry_13 : decode cX11_carry 13 = .ok (.ifCond .eq 8, 3) := by decide +kernel
theorem dX11_carry_16 : decode cX11_carry 16 = .ok (.iload_n 1, 1) := by decide +kernel
theorem dX11_carry_17 : decode cX11_carry 17 = .ok (.iload_n 2, 1) := by decide +kernel
theorem dX11_carry_18 : decode cX11_carry 18 = .ok (.if_icmp .ne 5, 3) := by decide +kernel
theorem dX11_carry_21 : decode cX11_carry 21 = .ok (.iconst (-1), 1) := by decide +kernel
theorem dX11_carry_22 : decode cX11_carry 22 = .ok (.ireturn, 1) := by decide +kernel
theorem dX11_carry_23 : decode cX11_carry 23 = .ok (.aload_n 0, 1) := by decide +kernel
theorem dX11_carry_24 : decode cX11_carry 24 = .ok (.iconst 0, 1) := by decide +kernel
theorem dX11_carry_25 : decode cX11_carry 25 = .ok (.iload_n 1, 1) := by decide +kernel
theorem dX11_carry_26 : decode cX11_carry 26 = .ok (.iload_n 2, 1) := by decide +kernel
theorem dX11_carry_27 : decode cX11_carry 27 = .ok (.invokevirtual 187, 3) := by decide +kernel
theorem dX11_carry_30 : decode cX11_carry 30 = .ok (.ifCond .ne 6, 3) := by decide +kernel
theorem dX11_carry_33 : decode cX11_carry 33 = .ok (.bipush (-4), 2) := by decide +kernel
theorem dX11_carry_35 : decode cX11_carry 35 = .ok (.ireturn, 1) := by decide +kernel
theorem dX11_carry_36 : decode cX11_carry 36 = .ok (.aload_n 0, 1) := by decide +kernel
theorem dX11_carry_37 : decode cX11_carry 37 = .ok (.getfield 144, 3) := by decide +kernel
theorem dX11_carry_40 : decode cX11_carry 40 = .ok (.bipush 40, 2) := by decide +kernel
theorem dX11_carry_42 : decode cX11_carry 42 = .ok (.if_icmp .ne 6, 3) := by decide +kernel
theorem dX11_carry_45 : decode cX11_carry 45 = .ok (.bipush (-2), 2) := by decide +kernel
theorem dX11_carry_47 : decode cX11_carry 47 = .ok (.ireturn, 1) := by decide +kernel
theorem dX11_carry_48 : decode cX11_carry 48 = .ok (.aload_n 0, 1) := by decide +kernel
theorem dX11_carry_49 : decode cX11_carry 49 = .ok (.invokevirtual 184, 3) := by decide +kernel
theorem dX11_carry_52 : decode cX11_carry 52 = .ok (.aload_n 0, 1) := by decide +kernel
theorem dX11_carry_53 : decode cX11_carry 53 = .ok (.iconst 0, 1) := by decide +kernel
theorem dX11_carry_54 : decode cX11_carry 54 = .ok (.iload_n 2, 1) := by decide +kernel
theorem dX11_carry_55 : decode cX11_carry 55 = .ok (.invokevirtual 190, 3) := by decide +kernel
theorem dX11_carry_58 : decode cX11_carry 58 = .ok (.aload_n 0, 1) := by decide +kernel
theorem dX11_carry_59 : decode cX11_carry 59 = .ok (.iconst 0, 1) := by decide +kernel
theorem dX11_carry_60 : decode cX11_carry 60 = .ok (.invokevirtual 163, 3) := by decide +kernel
theorem dX11_carry_63 : decode cX11_carry 63 = .ok (.invokestatic 194, 3) := by decide +kernel
theorem dX11_carry_66 : decode cX11_carry 66 = .ok (.ireturn, 1) := by decide +kernel
theorem dX11_hour_0 : decode cX11_hour 0 = .ok (.aload_n 0, 1) := by decide +kernel
theorem dX11_hour_1 : decode cX11_hour 1 = .ok (.getfield 138, 3) := by decide +kernel
theorem dX11_hour_4 : decode cX11_hour 4 = .ok (.ifCond .ne 6, 3) := by decide +kernel
theorem dX11_hour_7 : decode cX11_hour 7 = .ok (.bipush (-4), 2) := by decide +kernel
theorem dX11_hour_9 : decode cX11_hour 9 = .ok (.ireturn, 1) := by decide +kernel
theorem dX11_hour_10 : decode cX11_hour 10 = .ok (.aload_n 0, 1) := by decide +kernel
theorem dX11_hour_11 : decode cX11_hour 11 = .ok (.getfield 144, 3) := by decide +kernel
theorem dX11_hour_14 : decode cX11_hour 14 = .ok (.bipush 40, 2) := by decide +kernel
theorem dX11_hour_16 : decode cX11_hour 16 = .ok (.if_icmp .ne 6, 3) := by decide +kernel
theorem dX11_hour_19 : decode cX11_hour 19 = .ok (.bipush (-2), 2) := by decide +kernel
theorem dX11_hour_21 : decode cX11_hour 21 = .ok (.ireturn, 1) := by decide +kernel
theorem dX11_hour_22 : decode cX11_hour 22 = .ok (.aload_n 0, 1) := by decide +kernel
theorem dX11_hour_23 : decode cX11_hour 23 = .ok (.invokevirtual 184, 3) := by decide +kernel
theorem dX11_hour_26 : decode cX11_hour 26 = .ok (.aload_n 0, 1) := by decide +kernel
theorem dX11_hour_27 : decode cX11_hour 27 = .ok (.iconst 0, 1) := by decide +kernel
theorem dX11_hour_28 : decode cX11_hour 28 = .ok (.invokevirtual 197, 3) := by decide +kernel
theorem dX11_hour_31 : decode cX11_hour 31 = .ok (.aload_n 0, 1) := by decide +kernel
theorem dX11_hour_32 : decode cX11_hour 32 = .ok (.iconst 0, 1) := by decide +kernel
theorem dX11_hour_33 : decode cX11_hour 33 = .ok (.invokevirtual 163, 3) := by decide +kernel
theorem dX11_hour_36 : decode cX11_hour 36 = .ok (.invokestatic 194, 3) := by decide +kernel
theorem dX11_hour_39 : decode cX11_hour 39 = .ok (.ireturn, 1) := by decide +kernel
theorem dX11_undo_0 : decode cX11_undo 0 = .ok (.iload_n 1, 1) := by decide +kernel
theorem dX11_undo_1 : decode cX11_undo 1 = .ok (.iconst 0, 1) := by decide +kernel
theorem dX11_undo_2 : decode cX11_undo 2 = .ok (.aload_n 0, 1) := by decide +kernel
theorem dX11_undo_3 : decode cX11_undo 3 = .ok (.getfield 144, 3) := by decide +kernel
theorem dX11_undo_6 : decode cX11_undo 6 = .ok (.invokestatic 83, 3) := by decide +kernel
theorem dX11_undo_9 : decode cX11_undo 9 = .ok (.ifCond .ne 5, 3) := by decide +kernel
theorem dX11_undo_12 : decode cX11_undo 12 = .ok (.iconst (-1), 1) := by decide +kernel
theorem dX11_undo_13 : decode cX11_undo 13 = .ok (.ireturn, 1) := by decide +kernel
theorem dX11_undo_14 : decode cX11_undo 14 = .ok (.aload_n 0, 1) := by decide +kernel
theorem dX11_undo_15 : decode cX11_undo 15 = .ok (.getfield 144, 3) := by decide +kernel
theorem dX11_undo_18 : decode cX11_undo 18 = .ok (.iload_n 1, 1) := by decide +kernel
theorem dX11_undo_19 : decode cX11_undo 19 = .ok (.isub, 1) := by decide +kernel
theorem dX11_undo_20 : decode cX11_undo 20 = .ok (.istore_n 2, 1) := by decide +kernel
theorem dX11_undo_21 : decode cX11_undo 21 = .ok (.iconst 0, 1) := by decide +kernel
theorem dX11_undo_22 : decode cX11_undo 22 = .ok (.istore_n 3, 1) := by decide +kernel
theorem dX11_undo_23 : decode cX11_undo 23 = .ok (.iload_n 3, 1) := by decide +kernel
theorem dX11_undo_24 : decode cX11_undo 24 = .ok (.bipush 18, 2) := by decide +kernel
theorem dX11_undo_26 : decode cX11_undo 26 = .ok (.if_icmp .ge 30, 3) := by decide +kernel
theorem dX11_undo_29 : decode cX11_undo 29 = .ok (.iload_n 2, 1) := by decide +kernel
theorem dX11_undo_30 : decode cX11_undo 30 = .ok (.ifCond .le 26, 3) := by decide +kernel
theorem dX11_undo_33 : decode cX11_undo 33 = .ok (.aload_n 0, 1) := by decide +kernel
theorem dX11_undo_34 : decode cX11_undo 34 = .ok (.getfield 51, 3) := by decide +kernel
theorem dX11_undo_37 : decode cX11_undo 37 = .ok (.iload_n 3, 1) := by decide +kernel
theorem dX11_undo_38 : decode cX11_undo 38 = .ok (.aload_n 0, 1) := by decide +kernel
theorem dX11_undo_39 : decode cX11_undo 39 = .ok (.getfield 54, 3) := by decide +kernel
theorem dX11_undo_42 : decode cX11_undo 42 = .ok (.bipush 18, 2) := by decide +kernel
theorem dX11_undo_44 : decode cX11_undo 44 = .ok (.iload_n 1, 1) := by decide +kernel
theorem dX11_undo_45 : decode cX11_undo 45 = .ok (.imul, 1) := by decide +kernel
theorem dX11_undo_46 : decode cX11_undo 46 = .ok (.iload_n 3, 1) := by decide +kernel
theorem dX11_undo_47 : decode cX11_undo 47 = .ok (.iadd, 1) := by decide +kernel
theorem dX11_undo_48 : decode cX11_undo 48 = .ok (.iaload, 1) := by decide +kernel
theorem dX11_undo_49 : decode cX11_undo 49 = .ok (.iastore, 1) := by decide +kernel
theorem dX11_undo_50 : decode cX11_undo 50 = .ok (.iinc 3 1, 3) := by decide +kernel
theorem dX11_undo_53 : decode cX11_undo 53 = .ok (.goto (-30), 3) := by decide +kernel
theorem dX11_undo_56 : decode cX11_undo 56 = .ok (.aload_n 0, 1) := by decide +kernel
theorem dX11_undo_57 : decode cX11_undo 57 = .ok (.iload_n 1, 1) := by decide +kernel
theorem dX11_undo_58 : decode cX11_undo 58 = .ok (.putfield 144, 3) := by decide +kernel
theorem dX11_undo_61 : decode cX11_undo 61 = .ok (.iload_n 2, 1) := by decide +kernel
theorem dX11_undo_62 : decode cX11_undo 62 = .ok (.ireturn, 1) := by decide +kernel
theorem dX11_keep_0 : decode cX11_keep 0 = .ok (.iload_n 1, 1) := by decide +kernel
theorem dX11_keep_1 : decode cX11_keep 1 = .ok (.iconst 0, 1) := by decide +kernel
theorem dX11_keep_2 : decode cX11_keep 2 = .ok (.iconst 2, 1) := by decide +kernel
theorem dX11_keep_3 : decode cX11_keep 3 = .ok (.invokestatic 83, 3) := by decide +kernel
theorem dX11_keep_6 : decode cX11_keep 6 = .ok (.ifCond .ne 5, 3) := by decide +kernel
theorem dX11_keep_9 : decode cX11_keep 9 = .ok (.iconst (-1), 1) := by decide +kernel
theorem dX11_keep_10 : decode cX11_keep 10 = .ok (.ireturn, 1) := by decide +kernel
theorem dX11_keep_11 : decode cX11_keep 11 = .ok (.aload_n 0, 1) := by decide +kernel
theorem dX11_keep_12 : decode cX11_keep 12 = .ok (.getfield 138, 3) := by decide +kernel
theorem dX11_keep_15 : decode cX11_keep 15 = .ok (.ifCond .ne 6, 3) := by decide +kernel
theorem dX11_keep_18 : decode cX11_keep 18 = .ok (.bipush (-4), 2) := by decide +kernel
theorem dX11_keep_20 : decode cX11_keep 20 = .ok (.ireturn, 1) := by decide +kernel
theorem dX11_keep_21 : decode cX11_keep 21 = .ok (.aload_n 0, 1) := by decide +kernel
theorem dX11_keep_22 : decode cX11_keep 22 = .ok (.getfield 57, 3) := by decide +kernel
theorem dX11_keep_25 : decode cX11_keep 25 = .ok (.iload_n 1, 1) := by decide +kernel
theorem dX11_keep_26 : decode cX11_keep 26 = .ok (.iconst 1, 1) := by decide +kernel
theorem dX11_keep_27 : decode cX11_keep 27 = .ok (.bastore, 1) := by decide +kernel
theorem dX11_keep_28 : decode cX11_keep 28 = .ok (.aload_n 0, 1) := by decide +kernel
theorem dX11_keep_29 : decode cX11_keep 29 = .ok (.getfield 61, 3) := by decide +kernel
theorem dX11_keep_32 : decode cX11_keep 32 = .ok (.iload_n 1, 1) := by decide +kernel
theorem dX11_keep_33 : decode cX11_keep 33 = .ok (.aload_n 0, 1) := by decide +kernel
theorem dX11_keep_34 : decode cX11_keep 34 = .ok (.getfield 144, 3) := by decide +kernel
theorem dX11_keep_37 : decode cX11_keep 37 = .ok (.iastore, 1) := by decide +kernel
theorem dX11_keep_38 : decode cX11_keep 38 = .ok (.iconst 0, 1) := by decide +kernel
theorem dX11_keep_39 : decode cX11_keep 39 = .ok (.istore_n 2, 1) := by decide +kernel
theorem dX11_keep_40 : decode cX11_keep 40 = .ok (.iload_n 2, 1) := by decide +kernel
theorem dX11_keep_41 : decode cX11_keep 41 = .ok (.bipush 18, 2) := by decide +kernel
theorem dX11_keep_43 : decode cX11_keep 43 = .ok (.if_icmp .ge 43, 3) := by decide +kernel
theorem dX11_keep_46 : decode cX11_keep 46 = .ok (.aload_n 0, 1) := by decide +kernel
theorem dX11_keep_47 : decode cX11_keep 47 = .ok (.getfield 64, 3) := by decide +kernel
theorem dX11_keep_50 : decode cX11_keep 50 = .ok (.bipush 18, 2) := by decide +kernel
theorem dX11_keep_52 : decode cX11_keep 52 = .ok (.iload_n 1, 1) := by decide +kernel
theorem dX11_keep_53 : decode cX11_keep 53 = .ok (.imul, 1) := by decide +kernel
theorem dX11_keep_54 : decode cX11_keep 54 = .ok (.iload_n 2, 1) := by decide +kernel
theorem dX11_keep_55 : decode cX11_keep 55 = .ok (.iadd, 1) := by decide +kernel
theorem dX11_keep_56 : decode cX11_keep 56 = .ok (.aload_n 0, 1) := by decide +kernel
theorem dX11_keep_57 : decode cX11_keep 57 = .ok (.getfield 48, 3) := by decide +kernel
theorem dX11_keep_60 : decode cX11_keep 60 = .ok (.iload_n 2, 1) := by decide +kernel
theorem dX11_keep_61 : decode cX11_keep 61 = .ok (.iaload, 1) := by decide +kernel
theorem dX11_keep_62 : decode cX11_keep 62 = .ok (.iastore, 1) := by decide +kernel
theorem dX11_keep_63 : decode cX11_keep 63 = .ok (.aload_n 0, 1) := by decide +kernel
theorem dX11_keep_64 : decode cX11_keep 64 = .ok (.getfield 67, 3) := by decide +kernel
theorem dX11_keep_67 : decode cX11_keep 67 = .ok (.bipush 18, 2) := by decide +kernel
theorem dX11_keep_69 : decode cX11_keep 69 = .ok (.iload_n 1, 1) := by decide +kernel
theorem dX11_keep_70 : decode cX11_keep 70 = .ok (.imul, 1) := by decide +kernel
theorem dX11_keep_71 : decode cX11_keep 71 = .ok (.iload_n 2, 1) := by decide +kernel
theorem dX11_keep_72 : decode cX11_keep 72 = .ok (.iadd, 1) := by decide +kernel
theorem dX11_keep_73 : decode cX11_keep 73 = .ok (.aload_n 0, 1) := by decide +kernel
theorem dX11_keep_74 : decode cX11_keep 74 = .ok (.getfield 51, 3) := by decide +kernel
theorem dX11_keep_77 : decode cX11_keep 77 = .ok (.iload_n 2, 1) := by decide +kernel
theorem dX11_keep_78 : decode cX11_keep 78 = .ok (.iaload, 1) := by decide +kernel
theorem dX11_keep_79 : decode cX11_keep 79 = .ok (.iastore, 1) := by decide +kernel
theorem dX11_keep_80 : decode cX11_keep 80 = .ok (.iinc 2 1, 3) := by decide +kernel
theorem dX11_keep_83 : decode cX11_keep 83 = .ok (.goto (-43), 3) := by decide +kernel
theorem dX11_keep_86 : decode cX11_keep 86 = .ok (.iconst 0, 1) := by decide +kernel
theorem dX11_keep_87 : decode cX11_keep 87 = .ok (.istore_n 2, 1) := by decide +kernel
theorem dX11_keep_88 : decode cX11_keep 88 = .ok (.iload_n 2, 1) := by decide +kernel
theorem dX11_keep_89 : decode cX11_keep 89 = .ok (.bipush 18, 2) := by decide +kernel
theorem dX11_keep_91 : decode cX11_keep 91 = .ok (.aload_n 0, 1) := by decide +kernel
theorem dX11_keep_92 : decode cX11_keep 92 = .ok (.getfield 144, 3) := by decide +kernel
theorem dX11_keep_95 : decode cX11_keep 95 = .ok (.imul, 1) := by decide +kernel
theorem dX11_keep_96 : decode cX11_keep 96 = .ok (.if_icmp .ge 27, 3) := by decide +kernel
theorem dX11_keep_99 : decode cX11_keep 99 = .ok (.aload_n 0, 1) := by decide +kernel
theorem dX11_keep_100 : decode cX11_keep 100 = .ok (.getfield 70, 3) := by decide +kernel
theorem dX11_keep_103 : decode cX11_keep 103 = .ok (.sipush 720, 3) := by decide +kernel
theorem dX11_keep_106 : decode cX11_keep 106 = .ok (.iload_n 1, 1) := by decide +kernel
theorem dX11_keep_107 : decode cX11_keep 107 = .ok (.imul, 1) := by decide +kernel
theorem dX11_keep_108 : decode cX11_keep 108 = .ok (.iload_n 2, 1) := by decide +kernel
theorem dX11_keep_109 : decode cX11_keep 109 = .ok (.iadd, 1) := by decide +kernel
theorem dX11_keep_110 : decode cX11_keep 110 = .ok (.aload_n 0, 1) := by decide +kernel
theorem dX11_keep_111 : decode cX11_keep 111 = .ok (.getfield 54, 3) := by decide +kernel
theorem dX11_keep_114 : decode cX11_keep 114 = .ok (.iload_n 2, 1) := by decide +kernel
theorem dX11_keep_115 : decode cX11_keep 115 = .ok (.iaload, 1) := by decide +kernel
theorem dX11_keep_116 : decode cX11_keep 116 = .ok (.iastore, 1) := by decide +kernel
theorem dX11_keep_117 : decode cX11_keep 117 = .ok (.iinc 2 1, 3) := by decide +kernel
theorem dX11_keep_120 : decode cX11_keep 120 = .ok (.goto (-32), 3) := by decide +kernel
theorem dX11_keep_123 : decode cX11_keep 123 = .ok (.aload_n 0, 1) := by decide +kernel
theorem dX11_keep_124 : decode cX11_keep 124 = .ok (.getfield 144, 3) := by decide +kernel
theorem dX11_keep_127 : decode cX11_keep 127 = .ok (.ireturn, 1) := by decide +kernel
theorem dX11_on_0 : decode cX11_on 0 = .ok (.iload_n 1, 1) := by decide +kernel
theorem dX11_on_1 : decode cX11_on 1 = .ok (.iconst 0, 1) := by decide +kernel
theorem dX11_on_2 : decode cX11_on 2 = .ok (.iconst 2, 1) := by decide +kernel
theorem dX11_on_3 : decode cX11_on 3 = .ok (.invokestatic 83, 3) := by decide +kernel
theorem dX11_on_6 : decode cX11_on 6 = .ok (.ifCond .ne 5, 3) := by decide +kernel
theorem dX11_on_9 : decode cX11_on 9 = .ok (.iconst (-1), 1) := by decide +kernel
theorem dX11_on_10 : decode cX11_on 10 = .ok (.ireturn, 1) := by decide +kernel
theorem dX11_on_11 : decode cX11_on 11 = .ok (.aload_n 0, 1) := by decide +kernel
theorem dX11_on_12 : decode cX11_on 12 = .ok (.getfield 57, 3) := by decide +kernel
theorem dX11_on_15 : decode cX11_on 15 = .ok (.iload_n 1, 1) := by decide +kernel
theorem dX11_on_16 : decode cX11_on 16 = .ok (.baload, 1) := by decide +kernel
theorem dX11_on_17 : decode cX11_on 17 = .ok (.ifCond .ne 9, 3) := by decide +kernel
theorem dX11_on_20 : decode cX11_on 20 = .ok (.aload_n 0, 1) := by decide +kernel
theorem dX11_on_21 : decode cX11_on 21 = .ok (.iconst 1, 1) := by decide +kernel
theorem dX11_on_22 : decode cX11_on 22 = .ok (.invokevirtual 97, 3) := by decide +kernel
theorem dX11_on_25 : decode cX11_on 25 = .ok (.ireturn, 1) := by decide +kernel
theorem dX11_on_26 : decode cX11_on 26 = .ok (.aload_n 0, 1) := by decide +kernel
theorem dX11_on_27 : decode cX11_on 27 = .ok (.aload_n 0, 1) := by decide +kernel
theorem dX11_on_28 : decode cX11_on 28 = .ok (.getfield 61, 3) := by decide +kernel
theorem dX11_on_31 : decode cX11_on 31 = .ok (.iload_n 1, 1) := by decide +kernel
theorem dX11_on_32 : decode cX11_on 32 = .ok (.iaload, 1) := by decide +kernel
theorem dX11_on_33 : decode cX11_on 33 = .ok (.putfield 144, 3) := by decide +kernel
theorem dX11_on_36 : decode cX11_on 36 = .ok (.iconst 0, 1) := by decide +kernel
theorem dX11_on_37 : decode cX11_on 37 = .ok (.istore_n 2, 1) := by decide +kernel
theorem dX11_on_38 : decode cX11_on 38 = .ok (.iload_n 2, 1) := by decide +kernel
theorem dX11_on_39 : decode cX11_on 39 = .ok (.bipush 18, 2) := by decide +kernel
theorem dX11_on_41 : decode cX11_on 41 = .ok (.if_icmp .ge 43, 3) := by decide +kernel
theorem dX11_on_44 : decode cX11_on 44 = .ok (.aload_n 0, 1) := by decide +kernel
theorem dX11_on_45 : decode cX11_on 45 = .ok (.getfield 48, 3) := by decide +kernel
theorem dX11_on_48 : decode cX11_on 48 = .ok (.iload_n 2, 1) := by decide +kernel
theorem dX11_on_49 : decode cX11_on 49 = .ok (.aload_n 0, 1) := by decide +kernel
theorem dX11_on_50 : decode cX11_on 50 = .ok (.getfield 64, 3) := by decide +kernel
theorem dX11_on_53 : decode cX11_on 53 = .ok (.bipush 18, 2) := by decide +kernel
theorem dX11_on_55 : decode cX11_on 55 = .ok (.iload_n 1, 1) := by decide +kernel
theorem dX11_on_56 : decode cX11_on 56 = .ok (.imul, 1) := by decide +kernel
theorem dX11_on_57 : decode cX11_on 57 = .ok (.iload_n 2, 1) := by decide +kernel
theorem dX11_on_58 : decode cX11_on 58 = .ok (.iadd, 1) := by decide +kernel
theorem dX11_on_59 : decode cX11_on 59 = .ok (.iaload, 1) := by decide +kernel
theorem dX11_on_60 : decode cX11_on 60 = .ok (.iastore, 1) := by decide +kernel
theorem dX11_on_61 : decode cX11_on 61 = .ok (.aload_n 0, 1) := by decide +kernel
theorem dX11_on_62 : decode cX11_on 62 = .ok (.getfield 51, 3) := by decide +kernel
theorem dX11_on_65 : decode cX11_on 65 = .ok (.iload_n 2, 1) := by decide +kernel
theorem dX11_on_66 : decode cX11_on 66 = .ok (.aload_n 0, 1) := by decide +kernel
theorem dX11_on_67 : decode cX11_on 67 = .ok (.getfield 67, 3) := by decide +kernel
theorem dX11_on_70 : decode cX11_on 70 = .ok (.bipush 18, 2) := by decide +kernel
theorem dX11_on_72 : decode cX11_on 72 = .ok (.iload_n 1, 1) := by decide +kernel
theorem dX11_on_73 : decode cX11_on 73 = .ok (.imul, 1) := by decide +kernel
theorem dX11_on_74 : decode cX11_on 74 = .ok (.iload_n 2, 1) := by decide +kernel
theorem dX11_on_75 : decode cX11_on 75 = .ok (.iadd, 1) := by decide +kernel
theorem dX11_on_76 : decode cX11_on 76 = .ok (.iaload, 1) := by decide +kernel
theorem dX11_on_77 : decode cX11_on 77 = .ok (.iastore, 1) := by decide +kernel
theorem dX11_on_78 : decode cX11_on 78 = .ok (.iinc 2 1, 3) := by decide +kernel
theorem dX11_on_81 : decode cX11_on 81 = .ok (.goto (-43), 3) := by decide +kernel
theorem dX11_on_84 : decode cX11_on 84 = .ok (.iconst 0, 1) := by decide +kernel
theorem dX11_on_85 : decode cX11_on 85 = .ok (.istore_n 2, 1) := by decide +kernel
theorem dX11_on_86 : decode cX11_on 86 = .ok (.iload_n 2, 1) := by decide +kernel
theorem dX11_on_87 : decode cX11_on 87 = .ok (.bipush 18, 2) := by decide +kernel
theorem dX11_on_89 : decode cX11_on 89 = .ok (.aload_n 0, 1) := by decide +kernel
theorem dX11_on_90 : decode cX11_on 90 = .ok (.getfield 144, 3) := by decide +kernel
theorem dX11_on_93 : decode cX11_on 93 = .ok (.imul, 1) := by decide +kernel
theorem dX11_on_94 : decode cX11_on 94 = .ok (.if_icmp .ge 27, 3) := by decide +kernel
theorem dX11_on_97 : decode cX11_on 97 = .ok (.aload_n 0, 1) := by decide +kernel
theorem dX11_on_98 : decode cX11_on 98 = .ok (.getfield 54, 3) := by decide +kernel
theorem dX11_on_101 : decode cX11_on 101 = .ok (.iload_n 2, 1) := by decide +kernel
theorem dX11_on_102 : decode cX11_on 102 = .ok (.aload_n 0, 1) := by decide +kernel
theorem dX11_on_103 : decode cX11_on 103 = .ok (.getfield 70, 3) := by decide +kernel
theorem dX11_on_106 : decode cX11_on 106 = .ok (.sipush 720, 3) := by decide +kernel
theorem dX11_on_109 : decode cX11_on 109 = .ok (.iload_n 1, 1) := by decide +kernel
theorem dX11_on_110 : decode cX11_on 110 = .ok (.imul, 1) := by decide +kernel
theorem dX11_on_111 : decode cX11_on 111 = .ok (.iload_n 2, 1) := by decide +kernel
theorem dX11_on_112 : decode cX11_on 112 = .ok (.iadd, 1) := by decide +kernel
theorem dX11_on_113 : decode cX11_on 113 = .ok (.iaload, 1) := by decide +kernel
theorem dX11_on_114 : decode cX11_on 114 = .ok (.iastore, 1) := by decide +kernel
theorem dX11_on_115 : decode cX11_on 115 = .ok (.iinc 2 1, 3) := by decide +kernel
theorem dX11_on_118 : decode cX11_on 118 = .ok (.goto (-32), 3) := by decide +kernel
theorem dX11_on_121 : decode cX11_on 121 = .ok (.aload_n 0, 1) := by decide +kernel
theorem dX11_on_122 : decode cX11_on 122 = .ok (.getfield 144, 3) := by decide +kernel
theorem dX11_on_125 : decode cX11_on 125 = .ok (.ireturn, 1) := by decide +kernel
theorem dX11_catching_0 : decode cX11_catching 0 = .ok (.iconst 0, 1) := by decide +kernel
theorem dX11_catching_1 : decode cX11_catching 1 = .ok (.istore_n 2, 1) := by decide +kernel
theorem dX11_catching_2 : decode cX11_catching 2 = .ok (.iconst 0, 1) := by decide +kernel
theorem dX11_catching_3 : decode cX11_catching 3 = .ok (.istore_n 3, 1) := by decide +kernel
theorem dX11_catching_4 : decode cX11_catching 4 = .ok (.iload_n 3, 1) := by decide +kernel
theorem dX11_catching_5 : decode cX11_catching 5 = .ok (.aload_n 0, 1) := by decide +kernel
theorem dX11_catching_6 : decode cX11_catching 6 = .ok (.getfield 138, 3) := by decide +kernel
theorem dX11_catching_9 : decode cX11_catching 9 = .ok (.if_icmp .ge 28, 3) := by decide +kernel
theorem dX11_catching_12 : decode cX11_catching 12 = .ok (.iload_n 2, 1) := by decide +kernel
theorem dX11_catching_13 : decode cX11_catching 13 = .ok (.aload_n 0, 1) := by decide +kernel
theorem dX11_catching_14 : decode cX11_catching 14 = .ok (.iload_n 1, 1) := by decide +kernel
theorem dX11_catching_15 : decode cX11_catching 15 = .ok (.iload_n 3, 1) := by decide +kernel
theorem dX11_catching_16 : decode cX11_catching 16 = .ok (.invokevirtual 151, 3) := by decide +kernel
theorem dX11_catching_19 : decode cX11_catching 19 = .ok (.ifCond .eq 9, 3) := by decide +kernel
theorem dX11_catching_22 : decode cX11_catching 22 = .ok (.iconst 1, 1) := by decide +kernel
theorem dX11_catching_23 : decode cX11_catching 23 = .ok (.iload_n 3, 1) := by decide +kernel
theorem dX11_catching_24 : decode cX11_catching 24 = .ok (.ishl, 1) := by decide +kernel
theorem dX11_catching_25 : decode cX11_catching 25 = .ok (.goto 4, 3) := by decide +kernel
theorem dX11_catching_28 : decode cX11_catching 28 = .ok (.iconst 0, 1) := by decide +kernel
theorem dX11_catching_29 : decode cX11_catching 29 = .ok (.ior, 1) := by decide +kernel
theorem dX11_catching_30 : decode cX11_catching 30 = .ok (.istore_n 2, 1) := by decide +kernel
theorem dX11_catching_31 : decode cX11_catching 31 = .ok (.iinc 3 1, 3) := by decide +kernel
theorem dX11_catching_34 : decode cX11_catching 34 = .ok (.goto (-30), 3) := by decide +kernel
theorem dX11_catching_37 : decode cX11_catching 37 = .ok (.iload_n 2, 1) := by decide +kernel
theorem dX11_catching_38 : decode cX11_catching 38 = .ok (.ireturn, 1) := by decide +kernel
theorem dX11_fires_0 : decode cX11_fires 0 = .ok (.aload_n 0, 1) := by decide +kernel
theorem dX11_fires_1 : decode cX11_fires 1 = .ok (.aload_n 0, 1) := by decide +kernel
theorem dX11_fires_2 : decode cX11_fires 2 = .ok (.iconst 0, 1) := by decide +kernel
theorem dX11_fires_3 : decode cX11_fires 3 = .ok (.invokevirtual 201, 3) := by decide +kernel
theorem dX11_fires_6 : decode cX11_fires 6 = .ok (.aload_n 0, 1) := by decide +kernel
theorem dX11_fires_7 : decode cX11_fires 7 = .ok (.iconst 0, 1) := by decide +kernel
theorem dX11_fires_8 : decode cX11_fires 8 = .ok (.invokevirtual 163, 3) := by decide +kernel
theorem dX11_fires_11 : decode cX11_fires 11 = .ok (.invokevirtual 105, 3) := by decide +kernel
theorem dX11_fires_14 : decode cX11_fires 14 = .ok (.ireturn, 1) := by decide +kernel
theorem dX11_reach_0 : decode cX11_reach 0 = .ok (.iconst 0, 1) := by decide +kernel
theorem dX11_reach_1 : decode cX11_reach 1 = .ok (.istore_n 1, 1) := by decide +kernel
theorem dX11_reach_2 : decode cX11_reach 2 = .ok (.iconst 0, 1) := by decide +kernel
theorem dX11_reach_3 : decode cX11_reach 3 = .ok (.istore_n 2, 1) := by decide +kernel
theorem dX11_reach_4 : decode cX11_reach 4 = .ok (.iload_n 2, 1) := by decide +kernel
theorem dX11_reach_5 : decode cX11_reach 5 = .ok (.aload_n 0, 1) := by decide +kernel
theorem dX11_reach_6 : decode cX11_reach 6 = .ok (.getfield 138, 3) := by decide +kernel
theorem dX11_reach_9 : decode cX11_reach 9 = .ok (.if_icmp .ge 45, 3) := by decide +kernel
theorem dX11_reach_12 : decode cX11_reach 12 = .ok (.iconst 0, 1) := by decide +kernel
theorem dX11_reach_13 : decode cX11_reach 13 = .ok (.istore_n 3, 1) := by decide +kernel
theorem dX11_reach_14 : decode cX11_reach 14 = .ok (.iload_n 3, 1) := by decide +kernel
theorem dX11_reach_15 : decode cX11_reach 15 = .ok (.aload_n 0, 1) := by decide +kernel
theorem dX11_reach_16 : decode cX11_reach 16 = .ok (.getfield 138, 3) := by decide +kernel
theorem dX11_reach_19 : decode cX11_reach 19 = .ok (.if_icmp .ge 29, 3) := by decide +kernel
theorem dX11_reach_22 : decode cX11_reach 22 = .ok (.iload_n 1, 1) := by decide +kernel
theorem dX11_reach_23 : decode cX11_reach 23 = .ok (.aload_n 0, 1) := by decide +kernel
theorem dX11_reach_24 : decode cX11_reach 24 = .ok (.iconst 0, 1) := by decide +kernel
theorem dX11_reach_25 : decode cX11_reach 25 = .ok (.iload_n 2, 1) := by decide +kernel
theorem dX11_reach_26 : decode cX11_reach 26 = .ok (.iload_n 3, 1) := by decide +kernel
theorem dX11_reach_27 : decode cX11_reach 27 = .ok (.invokevirtual 187, 3) := by decide +kernel
theorem dX11_reach_30 : decode cX11_reach 30 = .ok (.ifCond .eq 9, 3) := by decide +kernel
theorem dX11_reach_33 : decode cX11_reach 33 = .ok (.iconst 1, 1) := by decide +kernel
theorem dX11_reach_34 : decode cX11_reach 34 = .ok (.iload_n 3, 1) := by decide +kernel
theorem dX11_reach_35 : decode cX11_reach 35 = .ok (.ishl, 1) := by decide +kernel
theorem dX11_reach_36 : decode cX11_reach 36 = .ok (.goto 4, 3) := by decide +kernel
theorem dX11_reach_39 : decode cX11_reach 39 = .ok (.iconst 0, 1) := by decide +kernel
theorem dX11_reach_40 : decode cX11_reach 40 = .ok (.ior, 1) := by decide +kernel
theorem dX11_reach_41 : decode cX11_reach 41 = .ok (.istore_n 1, 1) := by decide +kernel
theorem dX11_reach_42 : decode cX11_reach 42 = .ok (.iinc 3 1, 3) := by decide +kernel
theorem dX11_reach_45 : decode cX11_reach 45 = .ok (.goto (-31), 3) := by decide +kernel
theorem dX11_reach_48 : decode cX11_reach 48 = .ok (.iinc 2 1, 3) := by decide +kernel
theorem dX11_reach_51 : decode cX11_reach 51 = .ok (.goto (-47), 3) := by decide +kernel
theorem dX11_reach_54 : decode cX11_reach 54 = .ok (.iload_n 1, 1) := by decide +kernel
theorem dX11_reach_55 : decode cX11_reach 55 = .ok (.ireturn, 1) := by decide +kernel
theorem dX11_outOf_0 : decode cX11_outOf 0 = .ok (.iconst 0, 1) := by decide +kernel
theorem dX11_outOf_1 : decode cX11_outOf 1 = .ok (.istore_n 2, 1) := by decide +kernel
theorem dX11_outOf_2 : decode cX11_outOf 2 = .ok (.aload_n 0, 1) := by decide +kernel
theorem dX11_outOf_3 : decode cX11_outOf 3 = .ok (.iconst 1, 1) := by decide +kernel
theorem dX11_outOf_4 : decode cX11_outOf 4 = .ok (.invokevirtual 163, 3) := by decide +kernel
theorem dX11_outOf_7 : decode cX11_outOf 7 = .ok (.iload_n 1, 1) := by decide +kernel
theorem dX11_outOf_8 : decode cX11_outOf 8 = .ok (.iand, 1) := by decide +kernel
theorem dX11_outOf_9 : decode cX11_outOf 9 = .ok (.ifCond .eq 14, 3) := by decide +kernel
theorem dX11_outOf_12 : decode cX11_outOf 12 = .ok (.aload_n 0, 1) := by decide +kernel
theorem dX11_outOf_13 : decode cX11_outOf 13 = .ok (.iconst 1, 1) := by decide +kernel
theorem dX11_outOf_14 : decode cX11_outOf 14 = .ok (.invokevirtual 197, 3) := by decide +kernel
theorem dX11_outOf_17 : decode cX11_outOf 17 = .ok (.iinc 2 1, 3) := by decide +kernel
theorem dX11_outOf_20 : decode cX11_outOf 20 = .ok (.goto (-18), 3) := by decide +kernel
theorem dX11_outOf_23 : decode cX11_outOf 23 = .ok (.iload_n 2, 1) := by decide +kernel
theorem dX11_outOf_24 : decode cX11_outOf 24 = .ok (.ireturn, 1) := by decide +kernel
theorem dX11_lasts_0 : decode cX11_lasts 0 = .ok (.aload_n 0, 1) := by decide +kernel
theorem dX11_lasts_1 : decode cX11_lasts 1 = .ok (.iload_n 1, 1) := by decide +kernel
theorem dX11_lasts_2 : decode cX11_lasts 2 = .ok (.invokevirtual 172, 3) := by decide +kernel
theorem dX11_lasts_5 : decode cX11_lasts 5 = .ok (.ifCond .ne 5, 3) := by decide +kernel
theorem dX11_lasts_8 : decode cX11_lasts 8 = .ok (.iconst (-1), 1) := by decide +kernel
theorem dX11_lasts_9 : decode cX11_lasts 9 = .ok (.ireturn, 1) := by decide +kernel
theorem dX11_lasts_10 : decode cX11_lasts 10 = .ok (.aload_n 0, 1) := by decide +kernel
theorem dX11_lasts_11 : decode cX11_lasts 11 = .ok (.iconst 0, 1) := by decide +kernel
theorem dX11_lasts_12 : decode cX11_lasts 12 = .ok (.iconst 1, 1) := by decide +kernel
theorem dX11_lasts_13 : decode cX11_lasts 13 = .ok (.invokevirtual 204, 3) := by decide +kernel
theorem dX11_lasts_16 : decode cX11_lasts 16 = .ok (.aload_n 0, 1) := by decide +kernel
theorem dX11_lasts_17 : decode cX11_lasts 17 = .ok (.iconst 1, 1) := by decide +kernel
theorem dX11_lasts_18 : decode cX11_lasts 18 = .ok (.iload_n 1, 1) := by decide +kernel
theorem dX11_lasts_19 : decode cX11_lasts 19 = .ok (.ishl, 1) := by decide +kernel
theorem dX11_lasts_20 : decode cX11_lasts 20 = .ok (.invokevirtual 207, 3) := by decide +kernel
theorem dX11_lasts_23 : decode cX11_lasts 23 = .ok (.ireturn, 1) := by decide +kernel
theorem dX11_everybody_0 : decode cX11_everybody 0 = .ok (.iconst 1, 1) := by decide +kernel
theorem dX11_everybody_1 : decode cX11_everybody 1 = .ok (.aload_n 0, 1) := by decide +kernel
theorem dX11_everybody_2 : decode cX11_everybody 2 = .ok (.getfield 138, 3) := by decide +kernel
theorem dX11_everybody_5 : decode cX11_everybody 5 = .ok (.ishl, 1) := by decide +kernel
theorem dX11_everybody_6 : decode cX11_everybody 6 = .ok (.iconst 1, 1) := by decide +kernel
theorem dX11_everybody_7 : decode cX11_everybody 7 = .ok (.isub, 1) := by decide +kernel
theorem dX11_everybody_8 : decode cX11_everybody 8 = .ok (.ireturn, 1) := by decide +kernel
theorem dX11_dark_0 : decode cX11_dark 0 = .ok (.aload_n 0, 1) := by decide +kernel
theorem dX11_dark_1 : decode cX11_dark 1 = .ok (.iconst 0, 1) := by decide +kernel
theorem dX11_dark_2 : decode cX11_dark 2 = .ok (.iconst 1, 1) := by decide +kernel
theorem dX11_dark_3 : decode cX11_dark 3 = .ok (.invokevirtual 204, 3) := by decide +kernel
theorem dX11_dark_6 : decode cX11_dark 6 = .ok (.aload_n 0, 1) := by decide +kernel
theorem dX11_dark_7 : decode cX11_dark 7 = .ok (.aload_n 0, 1) := by decide +kernel
theorem dX11_dark_8 : decode cX11_dark 8 = .ok (.invokevirtual 210, 3) := by decide +kernel
theorem dX11_dark_11 : decode cX11_dark 11 = .ok (.invokevirtual 207, 3) := by decide +kernel
theorem dX11_dark_14 : decode cX11_dark 14 = .ok (.ireturn, 1) := by decide +kernel
theorem dX11_worst_0 : decode cX11_worst 0 = .ok (.iload_n 1, 1) := by decide +kernel
theorem dX11_worst_1 : decode cX11_worst 1 = .ok (.iconst 1, 1) := by decide +kernel
theorem dX11_worst_2 : decode cX11_worst 2 = .ok (.bipush 20, 2) := by decide +kernel
theorem dX11_worst_4 : decode cX11_worst 4 = .ok (.invokestatic 83, 3) := by decide +kernel
theorem dX11_worst_7 : decode cX11_worst 7 = .ok (.ifCond .ne 5, 3) := by decide +kernel
theorem dX11_worst_10 : decode cX11_worst 10 = .ok (.iconst (-1), 1) := by decide +kernel
theorem dX11_worst_11 : decode cX11_worst 11 = .ok (.ireturn, 1) := by decide +kernel
theorem dX11_worst_12 : decode cX11_worst 12 = .ok (.aload_n 0, 1) := by decide +kernel
theorem dX11_worst_13 : decode cX11_worst 13 = .ok (.getfield 138, 3) := by decide +kernel
theorem dX11_worst_16 : decode cX11_worst 16 = .ok (.ifCond .ne 6, 3) := by decide +kernel
theorem dX11_worst_19 : decode cX11_worst 19 = .ok (.bipush (-4), 2) := by decide +kernel
theorem dX11_worst_21 : decode cX11_worst 21 = .ok (.ireturn, 1) := by decide +kernel
theorem dX11_worst_22 : decode cX11_worst 22 = .ok (.aload_n 0, 1) := by decide +kernel
theorem dX11_worst_23 : decode cX11_worst 23 = .ok (.iconst 0, 1) := by decide +kernel
theorem dX11_worst_24 : decode cX11_worst 24 = .ok (.iconst 1, 1) := by decide +kernel
theorem dX11_worst_25 : decode cX11_worst 25 = .ok (.invokevirtual 204, 3) := by decide +kernel
theorem dX11_worst_28 : decode cX11_worst 28 = .ok (.iconst 0, 1) := by decide +kernel
theorem dX11_worst_29 : decode cX11_worst 29 = .ok (.istore_n 2, 1) := by decide +kernel
theorem dX11_worst_30 : decode cX11_worst 30 = .ok (.bipush 6, 2) := by decide +kernel
theorem dX11_worst_32 : decode cX11_worst 32 = .ok (.istore_n 3, 1) := by decide +kernel
theorem dX11_worst_33 : decode cX11_worst 33 = .ok (.iconst 1, 1) := by decide +kernel
theorem dX11_worst_34 : decode cX11_worst 34 = .ok (.istore 4, 2) := by decide +kernel
theorem dX11_worst_36 : decode cX11_worst 36 = .ok (.iload 4, 2) := by decide +kernel
theorem dX11_worst_38 : decode cX11_worst 38 = .ok (.iload_n 1, 1) := by decide +kernel
theorem dX11_worst_39 : decode cX11_worst 39 = .ok (.if_icmp .gt 50, 3) := by decide +kernel
theorem dX11_worst_42 : decode cX11_worst 42 = .ok (.aload_n 0, 1) := by decide +kernel
theorem dX11_worst_43 : decode cX11_worst 43 = .ok (.iconst 1, 1) := by decide +kernel
theorem dX11_worst_44 : decode cX11_worst 44 = .ok (.invokevirtual 197, 3) := by decide +kernel
theorem dX11_worst_47 : decode cX11_worst 47 = .ok (.aload_n 0, 1) := by decide +kernel
theorem dX11_worst_48 : decode cX11_worst 48 = .ok (.iconst 1, 1) := by decide +kernel
theorem dX11_worst_49 : decode cX11_worst 49 = .ok (.invokevirtual 163, 3) := by decide +kernel
theorem dX11_worst_52 : decode cX11_worst 52 = .ok (.invokestatic 194, 3) := by decide +kernel
theorem dX11_worst_55 : decode cX11_worst 55 = .ok (.istore 5, 2) := by decide +kernel
theorem dX11_worst_57 : decode cX11_worst 57 = .ok (.iload 5, 2) := by decide +kernel
theorem dX11_worst_59 : decode cX11_worst 59 = .ok (.iload_n 3, 1) := by decide +kernel
theorem dX11_worst_60 : decode cX11_worst 60 = .ok (.if_icmp .ge 8, 3) := by decide +kernel
theorem dX11_worst_63 : decode cX11_worst 63 = .ok (.iload 4, 2) := by decide +kernel
theorem dX11_worst_65 : decode cX11_worst 65 = .ok (.goto 4, 3) := by decide +kernel
theorem dX11_worst_68 : decode cX11_worst 68 = .ok (.iload_n 2, 1) := by decide +kernel
theorem dX11_worst_69 : decode cX11_worst 69 = .ok (.istore_n 2, 1) := by decide +kernel
theorem dX11_worst_70 : decode cX11_worst 70 = .ok (.iload 5, 2) := by decide +kernel
theorem dX11_worst_72 : decode cX11_worst 72 = .ok (.iload_n 3, 1) := by decide +kernel
theorem dX11_worst_73 : decode cX11_worst 73 = .ok (.if_icmp .ge 8, 3) := by decide +kernel
theorem dX11_worst_76 : decode cX11_worst 76 = .ok (.iload 5, 2) := by decide +kernel
theorem dX11_worst_78 : decode cX11_worst 78 = .ok (.goto 4, 3) := by decide +kernel
theorem dX11_worst_81 : decode cX11_worst 81 = .ok (.iload_n 3, 1) := by decide +kernel
theorem dX11_worst_82 : decode cX11_worst 82 = .ok (.istore_n 3, 1) := by decide +kernel
theorem dX11_worst_83 : decode cX11_worst 83 = .ok (.iinc 4 1, 3) := by decide +kernel
theorem dX11_worst_86 : decode cX11_worst 86 = .ok (.goto (-50), 3) := by decide +kernel
theorem dX11_worst_89 : decode cX11_worst 89 = .ok (.aload_n 0, 1) := by decide +kernel
theorem dX11_worst_90 : decode cX11_worst 90 = .ok (.iload_n 3, 1) := by decide +kernel
theorem dX11_worst_91 : decode cX11_worst 91 = .ok (.iload_n 2, 1) := by decide +kernel
theorem dX11_worst_92 : decode cX11_worst 92 = .ok (.invokevirtual 105, 3) := by decide +kernel
theorem dX11_worst_95 : decode cX11_worst 95 = .ok (.ireturn, 1) := by decide +kernel
theorem dX11_isNone_0 : decode cX11_isNone 0 = .ok (.iload_n 0, 1) := by decide +kernel
theorem dX11_isNone_1 : decode cX11_isNone 1 = .ok (.bipush 36, 2) := by decide +kernel
theorem dX11_isNone_3 : decode cX11_isNone 3 = .ok (.if_icmp .ne 7, 3) := by decide +kernel
theorem dX11_isNone_6 : decode cX11_isNone 6 = .ok (.iconst 1, 1) := by decide +kernel
theorem dX11_isNone_7 : decode cX11_isNone 7 = .ok (.goto 4, 3) := by decide +kernel
theorem dX11_isNone_10 : decode cX11_isNone 10 = .ok (.iconst 0, 1) := by decide +kernel
theorem dX11_isNone_11 : decode cX11_isNone 11 = .ok (.ireturn, 1) := by decide +kernel
theorem dX11_canMove_0 : decode cX11_canMove 0 = .ok (.iload_n 2, 1) := by decide +kernel
theorem dX11_canMove_1 : decode cX11_canMove 1 = .ok (.invokestatic 214, 3) := by decide +kernel
theorem dX11_canMove_4 : decode cX11_canMove 4 = .ok (.ifCond .ne 41, 3) := by decide +kernel
theorem dX11_canMove_7 : decode cX11_canMove 7 = .ok (.iload_n 2, 1) := by decide +kernel
theorem dX11_canMove_8 : decode cX11_canMove 8 = .ok (.bipush 6, 2) := by decide +kernel
theorem dX11_canMove_10 : decode cX11_canMove 10 = .ok (.idiv, 1) := by decide +kernel
theorem dX11_canMove_11 : decode cX11_canMove 11 = .ok (.aload_n 0, 1) := by decide +kernel
theorem dX11_canMove_12 : decode cX11_canMove 12 = .ok (.getfield 138, 3) := by decide +kernel
theorem dX11_canMove_15 : decode cX11_canMove 15 = .ok (.if_icmp .ge 34, 3) := by decide +kernel
theorem dX11_canMove_18 : decode cX11_canMove 18 = .ok (.iload_n 2, 1) := by decide +kernel
theorem dX11_canMove_19 : decode cX11_canMove 19 = .ok (.bipush 6, 2) := by decide +kernel
theorem dX11_canMove_21 : decode cX11_canMove 21 = .ok (.irem, 1) := by decide +kernel
theorem dX11_canMove_22 : decode cX11_canMove 22 = .ok (.aload_n 0, 1) := by decide +kernel
theorem dX11_canMove_23 : decode cX11_canMove 23 = .ok (.getfield 138, 3) := by decide +kernel
theorem dX11_canMove_26 : decode cX11_canMove 26 = .ok (.if_icmp .ge 23, 3) := by decide +kernel
theorem dX11_canMove_29 : decode cX11_canMove 29 = .ok (.aload_n 0, 1) := by decide +kernel
theorem dX11_canMove_30 : decode cX11_canMove 30 = .ok (.iload_n 1, 1) := by decide +kernel
theorem dX11_canMove_31 : decode cX11_canMove 31 = .ok (.iload_n 2, 1) := by decide +kernel
theorem dX11_canMove_32 : decode cX11_canMove 32 = .ok (.bipush 6, 2) := by decide +kernel
theorem dX11_canMove_34 : decode cX11_canMove 34 = .ok (.idiv, 1) := by decide +kernel
theorem dX11_canMove_35 : decode cX11_canMove 35 = .ok (.iload_n 2, 1) := by decide +kernel
theorem dX11_canMove_36 : decode cX11_canMove 36 = .ok (.bipush 6, 2) := by decide +kernel
theorem dX11_canMove_38 : decode cX11_canMove 38 = .ok (.irem, 1) := by decide +kernel
theorem dX11_canMove_39 : decode cX11_canMove 39 = .ok (.invokevirtual 187, 3) := by decide +kernel
theorem dX11_canMove_42 : decode cX11_canMove 42 = .ok (.ifCond .eq 7, 3) := by decide +kernel
theorem dX11_canMove_45 : decode cX11_canMove 45 = .ok (.iconst 1, 1) := by decide +kernel
theorem dX11_canMove_46 : decode cX11_canMove 46 = .ok (.goto 4, 3) := by decide +kernel
theorem dX11_canMove_49 : decode cX11_canMove 49 = .ok (.iconst 0, 1) := by decide +kernel
theorem dX11_canMove_50 : decode cX11_canMove 50 = .ok (.ireturn, 1) := by decide +kernel
theorem dX11_takes_0 : decode cX11_takes 0 = .ok (.aload_n 0, 1) := by decide +kernel
theorem dX11_takes_1 : decode cX11_takes 1 = .ok (.iconst 1, 1) := by decide +kernel
theorem dX11_takes_2 : decode cX11_takes 2 = .ok (.putfield 217, 3) := by decide +kernel
theorem dX11_takes_5 : decode cX11_takes 5 = .ok (.iconst 0, 1) := by decide +kernel
theorem dX11_takes_6 : decode cX11_takes 6 = .ok (.istore_n 2, 1) := by decide +kernel
theorem dX11_takes_7 : decode cX11_takes 7 = .ok (.iload_n 2, 1) := by decide +kernel
theorem dX11_takes_8 : decode cX11_takes 8 = .ok (.iload_n 1, 1) := by decide +kernel
theorem dX11_takes_9 : decode cX11_takes 9 = .ok (.if_icmp .ge 21, 3) := by decide +kernel
theorem dX11_takes_12 : decode cX11_takes 12 = .ok (.aload_n 0, 1) := by decide +kernel
theorem dX11_takes_13 : decode cX11_takes 13 = .ok (.getfield 76, 3) := by decide +kernel
theorem dX11_takes_16 : decode cX11_takes 16 = .ok (.iload_n 2, 1) := by decide +kernel
theorem dX11_takes_17 : decode cX11_takes 17 = .ok (.aload_n 0, 1) := by decide +kernel
theorem dX11_takes_18 : decode cX11_takes 18 = .ok (.getfield 73, 3) := by decide +kernel
theorem dX11_takes_21 : decode cX11_takes 21 = .ok (.iload_n 2, 1) := by decide +kernel
theorem dX11_takes_22 : decode cX11_takes 22 = .ok (.iaload, 1) := by decide +kernel
theorem dX11_takes_23 : decode cX11_takes 23 = .ok (.iastore, 1) := by decide +kernel
theorem dX11_takes_24 : decode cX11_takes 24 = .ok (.iinc 2 1, 3) := by decide +kernel
theorem dX11_takes_27 : decode cX11_takes 27 = .ok (.goto (-20), 3) := by decide +kernel
theorem dX11_takes_30 : decode cX11_takes 30 = .ok (.return_, 1) := by decide +kernel
theorem dX11_ends_0 : decode cX11_ends 0 = .ok (.aload_n 0, 1) := by decide +kernel
theorem dX11_ends_1 : decode cX11_ends 1 = .ok (.iload_n 3, 1) := by decide +kernel
theorem dX11_ends_2 : decode cX11_ends 2 = .ok (.invokevirtual 163, 3) := by decide +kernel
theorem dX11_ends_5 : decode cX11_ends 5 = .ok (.istore 4, 2) := by decide +kernel
theorem dX11_ends_7 : decode cX11_ends 7 = .ok (.aload_n 0, 1) := by decide +kernel
theorem dX11_ends_8 : decode cX11_ends 8 = .ok (.dup, 1) := by decide +kernel
theorem dX11_ends_9 : decode cX11_ends 9 = .ok (.getfield 221, 3) := by decide +kernel
theorem dX11_ends_12 : decode cX11_ends 12 = .ok (.iconst 1, 1) := by decide +kernel
theorem dX11_ends_13 : decode cX11_ends 13 = .ok (.iadd, 1) := by decide +kernel
theorem dX11_ends_14 : decode cX11_ends 14 = .ok (.putfield 221, 3) := by decide +kernel
theorem dX11_ends_17 : decode cX11_ends 17 = .ok (.aload_n 0, 1) := by decide +kernel
theorem dX11_ends_18 : decode cX11_ends 18 = .ok (.dup, 1) := by decide +kernel
theorem dX11_ends_19 : decode cX11_ends 19 = .ok (.getfield 224, 3) := by decide +kernel
theorem dX11_ends_22 : decode cX11_ends 22 = .ok (.iload 4, 2) := by decide +kernel
theorem dX11_ends_24 : decode cX11_ends 24 = .ok (.ior, 1) := by decide +kernel
theorem dX11_ends_25 : decode cX11_ends 25 = .ok (.putfield 224, 3) := by decide +kernel
theorem dX11_ends_28 : decode cX11_ends 28 = .ok (.aload_n 0, 1) := by decide +kernel
theorem dX11_ends_29 : decode cX11_ends 29 = .ok (.dup, 1) := by decide +kernel
theorem dX11_ends_30 : decode cX11_ends 30 = .ok (.getfield 227, 3) := by decide +kernel
theorem dX11_ends_33 : decode cX11_ends 33 = .ok (.iload 4, 2) := by decide +kernel
theorem dX11_ends_35 : decode cX11_ends 35 = .ok (.aload_n 0, 1) := by decide +kernel
theorem dX11_ends_36 : decode cX11_ends 36 = .ok (.getfield 230, 3) := by decide +kernel
theorem dX11_ends_39 : decode cX11_ends 39 = .ok (.invokestatic 166, 3) := by decide +kernel
theorem dX11_ends_42 : decode cX11_ends 42 = .ok (.ifCond .eq 7, 3) := by decide +kernel
theorem dX11_ends_45 : decode cX11_ends 45 = .ok (.iconst 1, 1) := by decide +kernel
theorem dX11_ends_46 : decode cX11_ends 46 = .ok (.goto 4, 3) := by decide +kernel
theorem dX11_ends_49 : decode cX11_ends 49 = .ok (.iconst 0, 1) := by decide +kernel
theorem dX11_ends_50 : decode cX11_ends 50 = .ok (.iadd, 1) := by decide +kernel
theorem dX11_ends_51 : decode cX11_ends 51 = .ok (.putfield 227, 3) := by decide +kernel
theorem dX11_ends_54 : decode cX11_ends 54 = .ok (.iload_n 1, 1) := by decide +kernel
theorem dX11_ends_55 : decode cX11_ends 55 = .ok (.tableswitch 108 1 4 #[29, 108, 56, 85], 29) := by decide +kernel
theorem dX11_ends_84 : decode cX11_ends 84 = .ok (.aload_n 0, 1) := by decide +kernel
theorem dX11_ends_85 : decode cX11_ends 85 = .ok (.getfield 217, 3) := by decide +kernel
theorem dX11_ends_88 : decode cX11_ends 88 = .ok (.ifCond .ne 75, 3) := by decide +kernel
theorem dX11_ends_91 : decode cX11_ends 91 = .ok (.iload 4, 2) := by decide +kernel
theorem dX11_ends_93 : decode cX11_ends 93 = .ok (.aload_n 0, 1) := by decide +kernel
theorem dX11_ends_94 : decode cX11_ends 94 = .ok (.getfield 230, 3) := by decide +kernel
theorem dX11_ends_97 : decode cX11_ends 97 = .ok (.invokestatic 166, 3) := by decide +kernel
theorem dX11_ends_100 : decode cX11_ends 100 = .ok (.ifCond .eq 63, 3) := by decide +kernel
theorem dX11_ends_103 : decode cX11_ends 103 = .ok (.aload_n 0, 1) := by decide +kernel
theorem dX11_ends_104 : decode cX11_ends 104 = .ok (.iload_n 2, 1) := by decide +kernel
theorem dX11_ends_105 : decode cX11_ends 105 = .ok (.invokevirtual 233, 3) := by decide +kernel
theorem dX11_ends_108 : decode cX11_ends 108 = .ok (.goto 55, 3) := by decide +kernel
theorem dX11_ends_111 : decode cX11_ends 111 = .ok (.iload 4, 2) := by decide +kernel
theorem dX11_ends_113 : decode cX11_ends 113 = .ok (.invokestatic 194, 3) := by decide +kernel
theorem dX11_ends_116 : decode cX11_ends 116 = .ok (.aload_n 0, 1) := by decide +kernel
theorem dX11_ends_117 : decode cX11_ends 117 = .ok (.getfield 236, 3) := by decide +kernel
theorem dX11_ends_120 : decode cX11_ends 120 = .ok (.if_icmp .le 43, 3) := by decide +kernel
theorem dX11_ends_123 : decode cX11_ends 123 = .ok (.aload_n 0, 1) := by decide +kernel
theorem dX11_ends_124 : decode cX11_ends 124 = .ok (.iload 4, 2) := by decide +kernel
theorem dX11_ends_126 : decode cX11_ends 126 = .ok (.invokestatic 194, 3) := by decide +kernel
theorem dX11_ends_129 : decode cX11_ends 129 = .ok (.putfield 236, 3) := by decide +kernel
theorem dX11_ends_132 : decode cX11_ends 132 = .ok (.aload_n 0, 1) := by decide +kernel
theorem dX11_ends_133 : decode cX11_ends 133 = .ok (.iload_n 2, 1) := by decide +kernel
theorem dX11_ends_134 : decode cX11_ends 134 = .ok (.invokevirtual 233, 3) := by decide +kernel
theorem dX11_ends_137 : decode cX11_ends 137 = .ok (.goto 26, 3) := by decide +kernel
theorem dX11_ends_140 : decode cX11_ends 140 = .ok (.aload_n 0, 1) := by decide +kernel
theorem dX11_ends_141 : decode cX11_ends 141 = .ok (.getfield 217, 3) := by decide +kernel
theorem dX11_ends_144 : decode cX11_ends 144 = .ok (.ifCond .ne 19, 3) := by decide +kernel
theorem dX11_ends_147 : decode cX11_ends 147 = .ok (.aload_n 0, 1) := by decide +kernel
theorem dX11_ends_148 : decode cX11_ends 148 = .ok (.iload_n 3, 1) := by decide +kernel
theorem dX11_ends_149 : decode cX11_ends 149 = .ok (.invokevirtual 239, 3) := by decide +kernel
theorem dX11_ends_152 : decode cX11_ends 152 = .ok (.ifCond .eq 11, 3) := by decide +kernel
theorem dX11_ends_155 : decode cX11_ends 155 = .ok (.aload_n 0, 1) := by decide +kernel
theorem dX11_ends_156 : decode cX11_ends 156 = .ok (.iload_n 2, 1) := by decide +kernel
theorem dX11_ends_157 : decode cX11_ends 157 = .ok (.invokevirtual 233, 3) := by decide +kernel
theorem dX11_ends_160 : decode cX11_ends 160 = .ok (.goto 3, 3) := by decide +kernel
theorem dX11_ends_163 : decode cX11_ends 163 = .ok (.return_, 1) := by decide +kernel
theorem dX11_isServed_0 : decode cX11_isServed 0 = .ok (.iconst 1, 1) := by decide +kernel
theorem dX11_isServed_1 : decode cX11_isServed 1 = .ok (.istore_n 2, 1) := by decide +kernel
theorem dX11_isServed_2 : decode cX11_isServed 2 = .ok (.iconst 0, 1) := by decide +kernel
theorem dX11_isServed_3 : decode cX11_isServed 3 = .ok (.istore_n 3, 1) := by decide +kernel
theorem dX11_isServed_4 : decode cX11_isServed 4 = .ok (.iload_n 3, 1) := by decide +kernel
theorem dX11_isServed_5 : decode cX11_isServed 5 = .ok (.aload_n 0, 1) := by decide +kernel
theorem dX11_isServed_6 : decode cX11_isServed 6 = .ok (.getfield 138, 3) := by decide +kernel
theorem dX11_isServed_9 : decode cX11_isServed 9 = .ok (.if_icmp .ge 42, 3) := by decide +kernel
theorem dX11_isServed_12 : decode cX11_isServed 12 = .ok (.iload_n 2, 1) := by decide +kernel
theorem dX11_isServed_13 : decode cX11_isServed 13 = .ok (.ifCond .eq 30, 3) := by decide +kernel
theorem dX11_isServed_16 : decode cX11_isServed 16 = .ok (.aload_n 0, 1) := by decide +kernel
theorem dX11_isServed_17 : decode cX11_isServed 17 = .ok (.getfield 39, 3) := by decide +kernel
theorem dX11_isServed_20 : decode cX11_isServed 20 = .ok (.iload_n 3, 1) := by decide +kernel
theorem dX11_isServed_21 : decode cX11_isServed 21 = .ok (.iaload, 1) := by decide +kernel
theorem dX11_isServed_22 : decode cX11_isServed 22 = .ok (.aload_n 0, 1) := by decide +kernel
theorem dX11_isServed_23 : decode cX11_isServed 23 = .ok (.iload_n 1, 1) := by decide +kernel
theorem dX11_isServed_24 : decode cX11_isServed 24 = .ok (.invokevirtual 157, 3) := by decide +kernel
theorem dX11_isServed_27 : decode cX11_isServed 27 = .ok (.if_icmp .ne 12, 3) := by decide +kernel
theorem dX11_isServed_30 : decode cX11_isServed 30 = .ok (.aload_n 0, 1) := by decide +kernel
theorem dX11_isServed_31 : decode cX11_isServed 31 = .ok (.iload_n 1, 1) := by decide +kernel
theorem dX11_isServed_32 : decode cX11_isServed 32 = .ok (.iload_n 3, 1) := by decide +kernel
theorem dX11_isServed_33 : decode cX11_isServed 33 = .ok (.invokevirtual 147, 3) := by decide +kernel
theorem dX11_isServed_36 : decode cX11_isServed 36 = .ok (.ifCond .eq 7, 3) := by decide +kernel
theorem dX11_isServed_39 : decode cX11_isServed 39 = .ok (.iconst 1, 1) := by decide +kernel
theorem dX11_isServed_40 : decode cX11_isServed 40 = .ok (.goto 4, 3) := by decide +kernel
theorem dX11_isServed_43 : decode cX11_isServed 43 = .ok (.iconst 0, 1) := by decide +kernel
theorem dX11_isServed_44 : decode cX11_isServed 44 = .ok (.istore_n 2, 1) := by decide +kernel
theorem dX11_isServed_45 : decode cX11_isServed 45 = .ok (.iinc 3 1, 3) := by decide +kernel
theorem dX11_isServed_48 : decode cX11_isServed 48 = .ok (.goto (-44), 3) := by decide +kernel
theorem dX11_isServed_51 : decode cX11_isServed 51 = .ok (.iload_n 2, 1) := by decide +kernel
theorem dX11_isServed_52 : decode cX11_isServed 52 = .ok (.ireturn, 1) := by decide +kernel
theorem dX11_layPlans_0 : decode cX11_layPlans 0 = .ok (.iconst 1, 1) := by decide +kernel
theorem dX11_layPlans_1 : decode cX11_layPlans 1 = .ok (.iload_n 2, 1) := by decide +kernel
theorem dX11_layPlans_2 : decode cX11_layPlans 2 = .ok (.iadd, 1) := by decide +kernel
theorem dX11_layPlans_3 : decode cX11_layPlans 3 = .ok (.istore 4, 2) := by decide +kernel
theorem dX11_layPlans_5 : decode cX11_layPlans 5 = .ok (.iload_n 2, 1) := by decide +kernel
theorem dX11_layPlans_6 : decode cX11_layPlans 6 = .ok (.iload_n 3, 1) := by decide +kernel
theorem dX11_layPlans_7 : decode cX11_layPlans 7 = .ok (.if_icmp .ne 12, 3) := by decide +kernel
theorem dX11_layPlans_10 : decode cX11_layPlans 10 = .ok (.aload_n 0, 1) := by decide +kernel
theorem dX11_layPlans_11 : decode cX11_layPlans 11 = .ok (.iload_n 1, 1) := by decide +kernel
theorem dX11_layPlans_12 : decode cX11_layPlans 12 = .ok (.iload_n 3, 1) := by decide +kernel
theorem dX11_layPlans_13 : decode cX11_layPlans 13 = .ok (.iload 4, 2) := by decide +kernel
theorem dX11_layPlans_15 : decode cX11_layPlans 15 = .ok (.invokevirtual 242, 3) := by decide +kernel
theorem dX11_layPlans_18 : decode cX11_layPlans 18 = .ok (.return_, 1) := by decide +kernel
theorem dX11_layPlans_19 : decode cX11_layPlans 19 = .ok (.iconst 0, 1) := by decide +kernel
theorem dX11_layPlans_20 : decode cX11_layPlans 20 = .ok (.istore 5, 2) := by decide +kernel
theorem dX11_layPlans_22 : decode cX11_layPlans 22 = .ok (.iload 5, 2) := by decide +kernel
theorem dX11_layPlans_24 : decode cX11_layPlans 24 = .ok (.bipush 36, 2) := by decide +kernel
theorem dX11_layPlans_26 : decode cX11_layPlans 26 = .ok (.if_icmp .gt 92, 3) := by decide +kernel
theorem dX11_layPlans_29 : decode cX11_layPlans 29 = .ok (.aload_n 0, 1) := by decide +kernel
theorem dX11_layPlans_30 : decode cX11_layPlans 30 = .ok (.iload 4, 2) := by decide +kernel
theorem dX11_layPlans_32 : decode cX11_layPlans 32 = .ok (.iload 5, 2) := by decide +kernel
theorem dX11_layPlans_34 : decode cX11_layPlans 34 = .ok (.invokevirtual 246, 3) := by decide +kernel
theorem dX11_layPlans_37 : decode cX11_layPlans 37 = .ok (.ifCond .eq 75, 3) := by decide +kernel
theorem dX11_layPlans_40 : decode cX11_layPlans 40 = .ok (.aload_n 0, 1) := by decide +kernel
theorem dX11_layPlans_41 : decode cX11_layPlans 41 = .ok (.iload 4, 2) := by decide +kernel
theorem dX11_layPlans_43 : decode cX11_layPlans 43 = .ok (.iload 4, 2) := by decide +kernel
theorem dX11_layPlans_45 : decode cX11_layPlans 45 = .ok (.iconst 1, 1) := by decide +kernel
theorem dX11_layPlans_46 : decode cX11_layPlans 46 = .ok (.iadd, 1) := by decide +kernel
theorem dX11_layPlans_47 : decode cX11_layPlans 47 = .ok (.invokevirtual 204, 3) := by decide +kernel
theorem dX11_layPlans_50 : decode cX11_layPlans 50 = .ok (.iload 5, 2) := by decide +kernel
theorem dX11_layPlans_52 : decode cX11_layPlans 52 = .ok (.invokestatic 214, 3) := by decide +kernel
theorem dX11_layPlans_55 : decode cX11_layPlans 55 = .ok (.ifCond .ne 16, 3) := by decide +kernel
theorem dX11_layPlans_58 : decode cX11_layPlans 58 = .ok (.aload_n 0, 1) := by decide +kernel
theorem dX11_layPlans_59 : decode cX11_layPlans 59 = .ok (.iload 4, 2) := by decide +kernel
theorem dX11_layPlans_61 : decode cX11_layPlans 61 = .ok (.iconst 1, 1) := by decide +kernel
theorem dX11_layPlans_62 : decode cX11_layPlans 62 = .ok (.iadd, 1) := by decide +kernel
theorem dX11_layPlans_63 : decode cX11_layPlans 63 = .ok (.iload 5, 2) := by decide +kernel
theorem dX11_layPlans_65 : decode cX11_layPlans 65 = .ok (.bipush 6, 2) := by decide +kernel
theorem dX11_layPlans_67 : decode cX11_layPlans 67 = .ok (.irem, 1) := by decide +kernel
theorem dX11_layPlans_68 : decode cX11_layPlans 68 = .ok (.invokevirtual 190, 3) := by decide +kernel
theorem dX11_layPlans_71 : decode cX11_layPlans 71 = .ok (.iload_n 1, 1) := by decide +kernel
theorem dX11_layPlans_72 : decode cX11_layPlans 72 = .ok (.iconst 4, 1) := by decide +kernel
theorem dX11_layPlans_73 : decode cX11_layPlans 73 = .ok (.if_icmp .ne 14, 3) := by decide +kernel
theorem dX11_layPlans_76 : decode cX11_layPlans 76 = .ok (.aload_n 0, 1) := by decide +kernel
theorem dX11_layPlans_77 : decode cX11_layPlans 77 = .ok (.iload 4, 2) := by decide +kernel
theorem dX11_layPlans_79 : decode cX11_layPlans 79 = .ok (.iconst 1, 1) := by decide +kernel
theorem dX11_layPlans_80 : decode cX11_layPlans 80 = .ok (.iadd, 1) := by decide +kernel
theorem dX11_layPlans_81 : decode cX11_layPlans 81 = .ok (.invokevirtual 239, 3) := by decide +kernel
theorem dX11_layPlans_84 : decode cX11_layPlans 84 = .ok (.ifCond .eq 28, 3) := by decide +kernel
theorem dX11_layPlans_87 : decode cX11_layPlans 87 = .ok (.aload_n 0, 1) := by decide +kernel
theorem dX11_layPlans_88 : decode cX11_layPlans 88 = .ok (.iload 4, 2) := by decide +kernel
theorem dX11_layPlans_90 : decode cX11_layPlans 90 = .ok (.iconst 1, 1) := by decide +kernel
theorem dX11_layPlans_91 : decode cX11_layPlans 91 = .ok (.iadd, 1) := by decide +kernel
theorem dX11_layPlans_92 : decode cX11_layPlans 92 = .ok (.invokevirtual 197, 3) := by decide +kernel
theorem dX11_layPlans_95 : decode cX11_layPlans 95 = .ok (.aload_n 0, 1) := by decide +kernel
theorem dX11_layPlans_96 : decode cX11_layPlans 96 = .ok (.getfield 73, 3) := by decide +kernel
theorem dX11_layPlans_99 : decode cX11_layPlans 99 = .ok (.iload_n 2, 1) := by decide +kernel
theorem dX11_layPlans_100 : decode cX11_layPlans 100 = .ok (.iload 5, 2) := by decide +kernel
theorem dX11_layPlans_102 : decode cX11_layPlans 102 = .ok (.iastore, 1) := by decide +kernel
theorem dX11_layPlans_103 : decode cX11_layPlans 103 = .ok (.aload_n 0, 1) := by decide +kernel
theorem dX11_layPlans_104 : decode cX11_layPlans 104 = .ok (.iload_n 1, 1) := by decide +kernel
theorem dX11_layPlans_105 : decode cX11_layPlans 105 = .ok (.iload_n 2, 1) := by decide +kernel
theorem dX11_layPlans_106 : decode cX11_layPlans 106 = .ok (.iconst 1, 1) := by decide +kernel
theorem dX11_layPlans_107 : decode cX11_layPlans 107 = .ok (.iadd, 1) := by decide +kernel
theorem dX11_layPlans_108 : decode cX11_layPlans 108 = .ok (.iload_n 3, 1) := by decide +kernel
theorem dX11_layPlans_109 : decode cX11_layPlans 109 = .ok (.invokevirtual 249, 3) := by decide +kernel
theorem dX11_layPlans_112 : decode cX11_layPlans 112 = .ok (.iinc 5 1, 3) := by decide +kernel
theorem dX11_layPlans_115 : decode cX11_layPlans 115 = .ok (.goto (-93), 3) := by decide +kernel
theorem dX11_layPlans_118 : decode cX11_layPlans 118 = .ok (.return_, 1) := by decide +kernel
theorem dX11_allPlans_0 : decode cX11_allPlans 0 = .ok (.aload_n 0, 1) := by decide +kernel
theorem dX11_allPlans_1 : decode cX11_allPlans 1 = .ok (.iconst 0, 1) := by decide +kernel
theorem dX11_allPlans_2 : decode cX11_allPlans 2 = .ok (.putfield 217, 3) := by decide +kernel
theorem dX11_allPlans_5 : decode cX11_allPlans 5 = .ok (.aload_n 0, 1) := by decide +kernel
theorem dX11_allPlans_6 : decode cX11_allPlans 6 = .ok (.iconst (-1), 1) := by decide +kernel
theorem dX11_allPlans_7 : decode cX11_allPlans 7 = .ok (.putfield 236, 3) := by decide +kernel
theorem dX11_allPlans_10 : decode cX11_allPlans 10 = .ok (.aload_n 0, 1) := by decide +kernel
theorem dX11_allPlans_11 : decode cX11_allPlans 11 = .ok (.iconst 0, 1) := by decide +kernel
theorem dX11_allPlans_12 : decode cX11_allPlans 12 = .ok (.putfield 224, 3) := by decide +kernel
theorem dX11_allPlans_15 : decode cX11_allPlans 15 = .ok (.aload_n 0, 1) := by decide +kernel
theorem dX11_allPlans_16 : decode cX11_allPlans 16 = .ok (.iconst 0, 1) := by decide +kernel
theorem dX11_allPlans_17 : decode cX11_allPlans 17 = .ok (.putfield 221, 3) := by decide +kernel
theorem dX11_allPlans_20 : decode cX11_allPlans 20 = .ok (.aload_n 0, 1) := by decide +kernel
theorem dX11_allPlans_21 : decode cX11_allPlans 21 = .ok (.iconst 0, 1) := by decide +kernel
theorem dX11_allPlans_22 : decode cX11_allPlans 22 = .ok (.putfield 227, 3) := by decide +kernel
theorem dX11_allPlans_25 : decode cX11_allPlans 25 = .ok (.aload_n 0, 1) := by decide +kernel
theorem dX11_allPlans_26 : decode cX11_allPlans 26 = .ok (.iload_n 3, 1) := by decide +kernel
theorem dX11_allPlans_27 : decode cX11_allPlans 27 = .ok (.putfield 230, 3) := by decide +kernel
theorem dX11_allPlans_30 : decode cX11_allPlans 30 = .ok (.aload_n 0, 1) := by decide +kernel
theorem dX11_allPlans_31 : decode cX11_allPlans 31 = .ok (.iconst 0, 1) := by decide +kernel
theorem dX11_allPlans_32 : decode cX11_allPlans 32 = .ok (.iconst 1, 1) := by decide +kernel
theorem dX11_allPlans_33 : decode cX11_allPlans 33 = .ok (.invokevirtual 204, 3) := by decide +kernel
theorem dX11_allPlans_36 : decode cX11_allPlans 36 = .ok (.aload_n 0, 1) := by decide +kernel
theorem dX11_allPlans_37 : decode cX11_allPlans 37 = .ok (.iload_n 1, 1) := by decide +kernel
theorem dX11_allPlans_38 : decode cX11_allPlans 38 = .ok (.iconst 0, 1) := by decide +kernel
theorem dX11_allPlans_39 : decode cX11_allPlans 39 = .ok (.iload_n 2, 1) := by decide +kernel
theorem dX11_allPlans_40 : decode cX11_allPlans 40 = .ok (.invokevirtual 249, 3) := by decide +kernel
theorem dX11_allPlans_43 : decode cX11_allPlans 43 = .ok (.return_, 1) := by decide +kernel
theorem dX11_embers_0 : decode cX11_embers 0 = .ok (.iconst 0, 1) := by decide +kernel
theorem dX11_embers_1 : decode cX11_embers 1 = .ok (.istore_n 2, 1) := by decide +kernel
theorem dX11_embers_2 : decode cX11_embers 2 = .ok (.iconst 0, 1) := by decide +kernel
theorem dX11_embers_3 : decode cX11_embers 3 = .ok (.istore_n 3, 1) := by decide +kernel
theorem dX11_embers_4 : decode cX11_embers 4 = .ok (.iload_n 3, 1) := by decide +kernel
theorem dX11_embers_5 : decode cX11_embers 5 = .ok (.iload_n 1, 1) := by decide +kernel
theorem dX11_embers_6 : decode cX11_embers 6 = .ok (.if_icmp .ge 29, 3) := by decide +kernel
theorem dX11_embers_9 : decode cX11_embers 9 = .ok (.iload_n 2, 1) := by decide +kernel
theorem dX11_embers_10 : decode cX11_embers 10 = .ok (.aload_n 0, 1) := by decide +kernel
theorem dX11_embers_11 : decode cX11_embers 11 = .ok (.getfield 76, 3) := by decide +kernel
theorem dX11_embers_14 : decode cX11_embers 14 = .ok (.iload_n 3, 1) := by decide +kernel
theorem dX11_embers_15 : decode cX11_embers 15 = .ok (.iaload, 1) := by decide +kernel
theorem dX11_embers_16 : decode cX11_embers 16 = .ok (.invokestatic 214, 3) := by decide +kernel
theorem dX11_embers_19 : decode cX11_embers 19 = .ok (.ifCond .eq 7, 3) := by decide +kernel
theorem dX11_embers_22 : decode cX11_embers 22 = .ok (.iconst 0, 1) := by decide +kernel
theorem dX11_embers_23 : decode cX11_embers 23 = .ok (.goto 4, 3) := by decide +kernel
theorem dX11_embers_26 : decode cX11_embers 26 = .ok (.iconst 1, 1) := by decide +kernel
theorem dX11_embers_27 : decode cX11_embers 27 = .ok (.iadd, 1) := by decide +kernel
theorem dX11_embers_28 : decode cX11_embers 28 = .ok (.istore_n 2, 1) := by decide +kernel
theorem dX11_embers_29 : decode cX11_embers 29 = .ok (.iinc 3 1, 3) := by decide +kernel
theorem dX11_embers_32 : decode cX11_embers 32 = .ok (.goto (-28), 3) := by decide +kernel
theorem dX11_embers_35 : decode cX11_embers 35 = .ok (.iload_n 2, 1) := by decide +kernel
theorem dX11_embers_36 : decode cX11_embers 36 = .ok (.ireturn, 1) := by decide +kernel
theorem dX11_can_0 : decode cX11_can 0 = .ok (.iload_n 1, 1) := by decide +kernel
theorem dX11_can_1 : decode cX11_can 1 = .ok (.iconst 0, 1) := by decide +kernel
theorem dX11_can_2 : decode cX11_can 2 = .ok (.iconst 4, 1) := by decide +kernel
theorem dX11_can_3 : decode cX11_can 3 = .ok (.invokestatic 83, 3) := by decide +kernel
theorem dX11_can_6 : decode cX11_can 6 = .ok (.ifCond .ne 5, 3) := by decide +kernel
theorem dX11_can_9 : decode cX11_can 9 = .ok (.iconst (-1), 1) := by decide +kernel
theorem dX11_can_10 : decode cX11_can 10 = .ok (.ireturn, 1) := by decide +kernel
theorem dX11_can_11 : decode cX11_can 11 = .ok (.aload_n 0, 1) := by decide +kernel
theorem dX11_can_12 : decode cX11_can 12 = .ok (.getfield 138, 3) := by decide +kernel
theorem dX11_can_15 : decode cX11_can 15 = .ok (.ifCond .ne 5, 3) := by decide +kernel
theorem dX11_can_18 : decode cX11_can 18 = .ok (.iconst 0, 1) := by decide +kernel
theorem dX11_can_19 : decode cX11_can 19 = .ok (.ireturn, 1) := by decide +kernel
theorem dX11_can_20 : decode cX11_can 20 = .ok (.aload_n 0, 1) := by decide +kernel
theorem dX11_can_21 : decode cX11_can 21 = .ok (.iconst 0, 1) := by decide +kernel
theorem dX11_can_22 : decode cX11_can 22 = .ok (.iload_n 1, 1) := by decide +kernel
theorem dX11_can_23 : decode cX11_can 23 = .ok (.iconst 0, 1) := by decide +kernel
theorem dX11_can_24 : decode cX11_can 24 = .ok (.invokevirtual 252, 3) := by decide +kernel
theorem dX11_can_27 : decode cX11_can 27 = .ok (.aload_n 0, 1) := by decide +kernel
theorem dX11_can_28 : decode cX11_can 28 = .ok (.getfield 224, 3) := by decide +kernel
theorem dX11_can_31 : decode cX11_can 31 = .ok (.ireturn, 1) := by decide +kernel
theorem dX11_plan_0 : decode cX11_plan 0 = .ok (.aload_n 0, 1) := by decide +kernel
theorem dX11_plan_1 : decode cX11_plan 1 = .ok (.iload_n 1, 1) := by decide +kernel
theorem dX11_plan_2 : decode cX11_plan 2 = .ok (.invokevirtual 172, 3) := by decide +kernel
theorem dX11_plan_5 : decode cX11_plan 5 = .ok (.ifCond .eq 19, 3) := by decide +kernel
theorem dX11_plan_8 : decode cX11_plan 8 = .ok (.iload_n 2, 1) := by decide +kernel
theorem dX11_plan_9 : decode cX11_plan 9 = .ok (.iconst 0, 1) := by decide +kernel
theorem dX11_plan_10 : decode cX11_plan 10 = .ok (.iconst 4, 1) := by decide +kernel
theorem dX11_plan_11 : decode cX11_plan 11 = .ok (.invokestatic 83, 3) := by decide +kernel
theorem dX11_plan_14 : decode cX11_plan 14 = .ok (.ifCond .eq 10, 3) := by decide +kernel
theorem dX11_plan_17 : decode cX11_plan 17 = .ok (.iload_n 3, 1) := by decide +kernel
theorem dX11_plan_18 : decode cX11_plan 18 = .ok (.invokestatic 93, 3) := by decide +kernel
theorem dX11_plan_21 : decode cX11_plan 21 = .ok (.ifCond .ne 5, 3) := by decide +kernel
theorem dX11_plan_24 : decode cX11_plan 24 = .ok (.iconst (-1), 1) := by decide +kernel
theorem dX11_plan_25 : decode cX11_plan 25 = .ok (.ireturn, 1) := by decide +kernel
theorem dX11_plan_26 : decode cX11_plan 26 = .ok (.aload_n 0, 1) := by decide +kernel
theorem dX11_plan_27 : decode cX11_plan 27 = .ok (.iconst 1, 1) := by decide +kernel
theorem dX11_plan_28 : decode cX11_plan 28 = .ok (.iload_n 2, 1) := by decide +kernel
theorem dX11_plan_29 : decode cX11_plan 29 = .ok (.iload_n 1, 1) := by decide +kernel
theorem dX11_plan_30 : decode cX11_plan 30 = .ok (.invokevirtual 252, 3) := by decide +kernel
theorem dX11_plan_33 : decode cX11_plan 33 = .ok (.aload_n 0, 1) := by decide +kernel
theorem dX11_plan_34 : decode cX11_plan 34 = .ok (.getfield 217, 3) := by decide +kernel
theorem dX11_plan_37 : decode cX11_plan 37 = .ok (.ifCond .ne 6, 3) := by decide +kernel
theorem dX11_plan_40 : decode cX11_plan 40 = .ok (.bipush (-9), 2) := by decide +kernel
theorem dX11_plan_42 : decode cX11_plan 42 = .ok (.ireturn, 1) := by decide +kernel
theorem dX11_plan_43 : decode cX11_plan 43 = .ok (.aload_n 0, 1) := by decide +kernel
theorem dX11_plan_44 : decode cX11_plan 44 = .ok (.iload_n 3, 1) := by decide +kernel
theorem dX11_plan_45 : decode cX11_plan 45 = .ok (.aload_n 0, 1) := by decide +kernel
theorem dX11_plan_46 : decode cX11_plan 46 = .ok (.getfield 76, 3) := by decide +kernel
theorem dX11_plan_49 : decode cX11_plan 49 = .ok (.iload_n 2, 1) := by decide +kernel
theorem dX11_plan_50 : decode cX11_plan 50 = .ok (.invokevirtual 255, 3) := by decide +kernel
theorem dX11_plan_53 : decode cX11_plan 53 = .ok (.aload_n 0, 1) := by decide +kernel
theorem dX11_plan_54 : decode cX11_plan 54 = .ok (.iload_n 2, 1) := by decide +kernel
theorem dX11_plan_55 : decode cX11_plan 55 = .ok (.invokevirtual 259, 3) := by decide +kernel
theorem dX11_plan_58 : decode cX11_plan 58 = .ok (.ireturn, 1) := by decide +kernel
theorem dX11_ways_0 : decode cX11_ways 0 = .ok (.aload_n 0, 1) := by decide +kernel
theorem dX11_ways_1 : decode cX11_ways 1 = .ok (.iload_n 1, 1) := by decide +kernel
theorem dX11_ways_2 : decode cX11_ways 2 = .ok (.invokevirtual 172, 3) := by decide +kernel
theorem dX11_ways_5 : decode cX11_ways 5 = .ok (.ifCond .eq 12, 3) := by decide +kernel
theorem dX11_ways_8 : decode cX11_ways 8 = .ok (.iload_n 2, 1) := by decide +kernel
theorem dX11_ways_9 : decode cX11_ways 9 = .ok (.iconst 0, 1) := by decide +kernel
theorem dX11_ways_10 : decode cX11_ways 10 = .ok (.iconst 4, 1) := by decide +kernel
theorem dX11_ways_11 : decode cX11_ways 11 = .ok (.invokestatic 83, 3) := by decide +kernel
theorem dX11_ways_14 : decode cX11_ways 14 = .ok (.ifCond .ne 5, 3) := by decide +kernel
theorem dX11_ways_17 : decode cX11_ways 17 = .ok (.iconst (-1), 1) := by decide +kernel
theorem dX11_ways_18 : decode cX11_ways 18 = .ok (.ireturn, 1) := by decide +kernel
theorem dX11_ways_19 : decode cX11_ways 19 = .ok (.aload_n 0, 1) := by decide +kernel
theorem dX11_ways_20 : decode cX11_ways 20 = .ok (.iconst 2, 1) := by decide +kernel
theorem dX11_ways_21 : decode cX11_ways 21 = .ok (.iload_n 2, 1) := by decide +kernel
theorem dX11_ways_22 : decode cX11_ways 22 = .ok (.iload_n 1, 1) := by decide +kernel
theorem dX11_ways_23 : decode cX11_ways 23 = .ok (.invokevirtual 252, 3) := by decide +kernel
theorem dX11_ways_26 : decode cX11_ways 26 = .ok (.aload_n 0, 1) := by decide +kernel
theorem dX11_ways_27 : decode cX11_ways 27 = .ok (.aload_n 0, 1) := by decide +kernel
theorem dX11_ways_28 : decode cX11_ways 28 = .ok (.getfield 221, 3) := by decide +kernel
theorem dX11_ways_31 : decode cX11_ways 31 = .ok (.i2l, 1) := by decide +kernel
theorem dX11_ways_32 : decode cX11_ways 32 = .ok (.lconst 1, 1) := by decide +kernel
theorem dX11_ways_33 : decode cX11_ways 33 = .ok (.invokevirtual 262, 3) := by decide +kernel
theorem dX11_ways_36 : decode cX11_ways 36 = .ok (.pop, 1) := by decide +kernel
theorem dX11_ways_37 : decode cX11_ways 37 = .ok (.aload_n 0, 1) := by decide +kernel
theorem dX11_ways_38 : decode cX11_ways 38 = .ok (.aload_n 0, 1) := by decide +kernel
theorem dX11_ways_39 : decode cX11_ways 39 = .ok (.getfield 227, 3) := by decide +kernel
theorem dX11_ways_42 : decode cX11_ways 42 = .ok (.iconst 1, 1) := by decide +kernel
theorem dX11_ways_43 : decode cX11_ways 43 = .ok (.invokevirtual 105, 3) := by decide +kernel
theorem dX11_ways_46 : decode cX11_ways 46 = .ok (.ireturn, 1) := by decide +kernel
theorem dX11_most_0 : decode cX11_most 0 = .ok (.iload_n 1, 1) := by decide +kernel
theorem dX11_most_1 : decode cX11_most 1 = .ok (.iconst 0, 1) := by decide +kernel
theorem dX11_most_2 : decode cX11_most 2 = .ok (.iconst 4, 1) := by decide +kernel
theorem dX11_most_3 : decode cX11_most 3 = .ok (.invokestatic 83, 3) := by decide +kernel
theorem dX11_most_6 : decode cX11_most 6 = .ok (.ifCond .eq 10, 3) := by decide +kernel
theorem dX11_most_9 : decode cX11_most 9 = .ok (.iload_n 2, 1) := by decide +kernel
theorem dX11_most_10 : decode cX11_most 10 = .ok (.invokestatic 93, 3) := by decide +kernel
theorem dX11_most_13 : decode cX11_most 13 = .ok (.ifCond .ne 5, 3) := by decide +kernel
theorem dX11_most_16 : decode cX11_most 16 = .ok (.iconst (-1), 1) := by decide +kernel
theorem dX11_most_17 : decode cX11_most 17 = .ok (.ireturn, 1) := by decide +kernel
theorem dX11_most_18 : decode cX11_most 18 = .ok (.aload_n 0, 1) := by decide +kernel
theorem dX11_most_19 : decode cX11_most 19 = .ok (.getfield 138, 3) := by decide +kernel
theorem dX11_most_22 : decode cX11_most 22 = .ok (.ifCond .ne 6, 3) := by decide +kernel
theorem dX11_most_25 : decode cX11_most 25 = .ok (.bipush (-4), 2) := by decide +kernel
theorem dX11_most_27 : decode cX11_most 27 = .ok (.ireturn, 1) := by decide +kernel
theorem dX11_most_28 : decode cX11_most 28 = .ok (.aload_n 0, 1) := by decide +kernel
theorem dX11_most_29 : decode cX11_most 29 = .ok (.iconst 3, 1) := by decide +kernel
theorem dX11_most_30 : decode cX11_most 30 = .ok (.iload_n 1, 1) := by decide +kernel
theorem dX11_most_31 : decode cX11_most 31 = .ok (.iconst 0, 1) := by decide +kernel
theorem dX11_most_32 : decode cX11_most 32 = .ok (.invokevirtual 252, 3) := by decide +kernel
theorem dX11_most_35 : decode cX11_most 35 = .ok (.aload_n 0, 1) := by decide +kernel
theorem dX11_most_36 : decode cX11_most 36 = .ok (.iload_n 2, 1) := by decide +kernel
theorem dX11_most_37 : decode cX11_most 37 = .ok (.aload_n 0, 1) := by decide +kernel
theorem dX11_most_38 : decode cX11_most 38 = .ok (.getfield 76, 3) := by decide +kernel
theorem dX11_most_41 : decode cX11_most 41 = .ok (.iload_n 1, 1) := by decide +kernel
theorem dX11_most_42 : decode cX11_most 42 = .ok (.invokevirtual 255, 3) := by decide +kernel
theorem dX11_most_45 : decode cX11_most 45 = .ok (.aload_n 0, 1) := by decide +kernel
theorem dX11_most_46 : decode cX11_most 46 = .ok (.getfield 236, 3) := by decide +kernel
theorem dX11_most_49 : decode cX11_most 49 = .ok (.ireturn, 1) := by decide +kernel
theorem dX11_serve_0 : decode cX11_serve 0 = .ok (.iload_n 1, 1) := by decide +kernel
theorem dX11_serve_1 : decode cX11_serve 1 = .ok (.iconst 0, 1) := by decide +kernel
theorem dX11_serve_2 : decode cX11_serve 2 = .ok (.iconst 4, 1) := by decide +kernel
theorem dX11_serve_3 : decode cX11_serve 3 = .ok (.invokestatic 83, 3) := by decide +kernel
theorem dX11_serve_6 : decode cX11_serve 6 = .ok (.ifCond .eq 10, 3) := by decide +kernel
theorem dX11_serve_9 : decode cX11_serve 9 = .ok (.iload_n 2, 1) := by decide +kernel
theorem dX11_serve_10 : decode cX11_serve 10 = .ok (.invokestatic 93, 3) := by decide +kernel
theorem dX11_serve_13 : decode cX11_serve 13 = .ok (.ifCond .ne 5, 3) := by decide +kernel
theorem dX11_serve_16 : decode cX11_serve 16 = .ok (.iconst (-1), 1) := by decide +kernel
theorem dX11_serve_17 : decode cX11_serve 17 = .ok (.ireturn, 1) := by decide +kernel
theorem dX11_serve_18 : decode cX11_serve 18 = .ok (.aload_n 0, 1) := by decide +kernel
theorem dX11_serve_19 : decode cX11_serve 19 = .ok (.getfield 138, 3) := by decide +kernel
theorem dX11_serve_22 : decode cX11_serve 22 = .ok (.ifCond .ne 6, 3) := by decide +kernel
theorem dX11_serve_25 : decode cX11_serve 25 = .ok (.bipush (-4), 2) := by decide +kernel
theorem dX11_serve_27 : decode cX11_serve 27 = .ok (.ireturn, 1) := by decide +kernel
theorem dX11_serve_28 : decode cX11_serve 28 = .ok (.aload_n 0, 1) := by decide +kernel
theorem dX11_serve_29 : decode cX11_serve 29 = .ok (.iconst 4, 1) := by decide +kernel
theorem dX11_serve_30 : decode cX11_serve 30 = .ok (.iload_n 1, 1) := by decide +kernel
theorem dX11_serve_31 : decode cX11_serve 31 = .ok (.iconst 0, 1) := by decide +kernel
theorem dX11_serve_32 : decode cX11_serve 32 = .ok (.invokevirtual 252, 3) := by decide +kernel
theorem dX11_serve_35 : decode cX11_serve 35 = .ok (.aload_n 0, 1) := by decide +kernel
theorem dX11_serve_36 : decode cX11_serve 36 = .ok (.getfield 217, 3) := by decide +kernel
theorem dX11_serve_39 : decode cX11_serve 39 = .ok (.ifCond .ne 6, 3) := by decide +kernel
theorem dX11_serve_42 : decode cX11_serve 42 = .ok (.bipush (-9), 2) := by decide +kernel
theorem dX11_serve_44 : decode cX11_serve 44 = .ok (.ireturn, 1) := by decide +kernel
theorem dX11_serve_45 : decode cX11_serve 45 = .ok (.aload_n 0, 1) := by decide +kernel
theorem dX11_serve_46 : decode cX11_serve 46 = .ok (.iload_n 2, 1) := by decide +kernel
theorem dX11_serve_47 : decode cX11_serve 47 = .ok (.aload_n 0, 1) := by decide +kernel
theorem dX11_serve_48 : decode cX11_serve 48 = .ok (.getfield 76, 3) := by decide +kernel
theorem dX11_serve_51 : decode cX11_serve 51 = .ok (.iload_n 1, 1) := by decide +kernel
theorem dX11_serve_52 : decode cX11_serve 52 = .ok (.invokevirtual 255, 3) := by decide +kernel
theorem dX11_serve_55 : decode cX11_serve 55 = .ok (.aload_n 0, 1) := by decide +kernel
theorem dX11_serve_56 : decode cX11_serve 56 = .ok (.iload_n 1, 1) := by decide +kernel
theorem dX11_serve_57 : decode cX11_serve 57 = .ok (.invokevirtual 259, 3) := by decide +kernel
theorem dX11_serve_60 : decode cX11_serve 60 = .ok (.ireturn, 1) := by decide +kernel
theorem dX11_areMoves_0 : decode cX11_areMoves 0 = .ok (.iconst 1, 1) := by decide +kernel
theorem dX11_areMoves_1 : decode cX11_areMoves 1 = .ok (.istore_n 2, 1) := by decide +kernel
theorem dX11_areMoves_2 : decode cX11_areMoves 2 = .ok (.iconst 0, 1) := by decide +kernel
theorem dX11_areMoves_3 : decode cX11_areMoves 3 = .ok (.istore_n 3, 1) := by decide +kernel
theorem dX11_areMoves_4 : decode cX11_areMoves 4 = .ok (.iload_n 3, 1) := by decide +kernel
theorem dX11_areMoves_5 : decode cX11_areMoves 5 = .ok (.aload_n 0, 1) := by decide +kernel
theorem dX11_areMoves_6 : decode cX11_areMoves 6 = .ok (.getfield 17, 3) := by decide +kernel
theorem dX11_areMoves_9 : decode cX11_areMoves 9 = .ok (.iload_n 1, 1) := by decide +kernel
theorem dX11_areMoves_10 : decode cX11_areMoves 10 = .ok (.iaload, 1) := by decide +kernel
theorem dX11_areMoves_11 : decode cX11_areMoves 11 = .ok (.if_icmp .ge 34, 3) := by decide +kernel
theorem dX11_areMoves_14 : decode cX11_areMoves 14 = .ok (.iload_n 2, 1) := by decide +kernel
theorem dX11_areMoves_15 : decode cX11_areMoves 15 = .ok (.ifCond .eq 22, 3) := by decide +kernel
theorem dX11_areMoves_18 : decode cX11_areMoves 18 = .ok (.aload_n 0, 1) := by decide +kernel
theorem dX11_areMoves_19 : decode cX11_areMoves 19 = .ok (.iload_n 1, 1) := by decide +kernel
theorem dX11_areMoves_20 : decode cX11_areMoves 20 = .ok (.iload_n 3, 1) := by decide +kernel
theorem dX11_areMoves_21 : decode cX11_areMoves 21 = .ok (.invokevirtual 101, 3) := by decide +kernel
theorem dX11_areMoves_24 : decode cX11_areMoves 24 = .ok (.iconst 0, 1) := by decide +kernel
theorem dX11_areMoves_25 : decode cX11_areMoves 25 = .ok (.bipush 36, 2) := by decide +kernel
theorem dX11_areMoves_27 : decode cX11_areMoves 27 = .ok (.invokestatic 83, 3) := by decide +kernel
theorem dX11_areMoves_30 : decode cX11_areMoves 30 = .ok (.ifCond .eq 7, 3) := by decide +kernel
theorem dX11_areMoves_33 : decode cX11_areMoves 33 = .ok (.iconst 1, 1) := by decide +kernel
theorem dX11_areMoves_34 : decode cX11_areMoves 34 = .ok (.goto 4, 3) := by decide +kernel
theorem dX11_areMoves_37 : decode cX11_areMoves 37 = .ok (.iconst 0, 1) := by decide +kernel
theorem dX11_areMoves_38 : decode cX11_areMoves 38 = .ok (.istore_n 2, 1) := by decide +kernel
theorem dX11_areMoves_39 : decode cX11_areMoves 39 = .ok (.iinc 3 1, 3) := by decide +kernel
theorem dX11_areMoves_42 : decode cX11_areMoves 42 = .ok (.goto (-38), 3) := by decide +kernel
theorem dX11_areMoves_45 : decode cX11_areMoves 45 = .ok (.iload_n 2, 1) := by decide +kernel
theorem dX11_areMoves_46 : decode cX11_areMoves 46 = .ok (.ireturn, 1) := by decide +kernel
theorem dX11_run_0 : decode cX11_run 0 = .ok (.iload_n 1, 1) := by decide +kernel
theorem dX11_run_1 : decode cX11_run 1 = .ok (.invokestatic 93, 3) := by decide +kernel
theorem dX11_run_4 : decode cX11_run 4 = .ok (.ifCond .ne 5, 3) := by decide +kernel
theorem dX11_run_7 : decode cX11_run 7 = .ok (.iconst (-1), 1) := by decide +kernel
theorem dX11_run_8 : decode cX11_run 8 = .ok (.ireturn, 1) := by decide +kernel
theorem dX11_run_9 : decode cX11_run 9 = .ok (.aload_n 0, 1) := by decide +kernel
theorem dX11_run_10 : decode cX11_run 10 = .ok (.getfield 138, 3) := by decide +kernel
theorem dX11_run_13 : decode cX11_run 13 = .ok (.ifCond .ne 6, 3) := by decide +kernel
theorem dX11_run_16 : decode cX11_run 16 = .ok (.bipush (-4), 2) := by decide +kernel
theorem dX11_run_18 : decode cX11_run 18 = .ok (.ireturn, 1) := by decide +kernel
theorem dX11_run_19 : decode cX11_run 19 = .ok (.aload_n 0, 1) := by decide +kernel
theorem dX11_run_20 : decode cX11_run 20 = .ok (.getfield 17, 3) := by decide +kernel
theorem dX11_run_23 : decode cX11_run 23 = .ok (.iload_n 1, 1) := by decide +kernel
theorem dX11_run_24 : decode cX11_run 24 = .ok (.iaload, 1) := by decide +kernel
theorem dX11_run_25 : decode cX11_run 25 = .ok (.ifCond .ge 9, 3) := by decide +kernel
theorem dX11_run_28 : decode cX11_run 28 = .ok (.aload_n 0, 1) := by decide +kernel
theorem dX11_run_29 : decode cX11_run 29 = .ok (.iconst 1, 1) := by decide +kernel
theorem dX11_run_30 : decode cX11_run 30 = .ok (.invokevirtual 97, 3) := by decide +kernel
theorem dX11_run_33 : decode cX11_run 33 = .ok (.ireturn, 1) := by decide +kernel
theorem dX11_run_34 : decode cX11_run 34 = .ok (.aload_n 0, 1) := by decide +kernel
theorem dX11_run_35 : decode cX11_run 35 = .ok (.getfield 17, 3) := by decide +kernel
theorem dX11_run_38 : decode cX11_run 38 = .ok (.iload_n 1, 1) := by decide +kernel
theorem dX11_run_39 : decode cX11_run 39 = .ok (.iaload, 1) := by decide +kernel
theorem dX11_run_40 : decode cX11_run 40 = .ok (.bipush 10, 2) := by decide +kernel
theorem dX11_run_42 : decode cX11_run 42 = .ok (.if_icmp .le 9, 3) := by decide +kernel
theorem dX11_run_45 : decode cX11_run 45 = .ok (.aload_n 0, 1) := by decide +kernel
theorem dX11_run_46 : decode cX11_run 46 = .ok (.iconst 5, 1) := by decide +kernel
theorem dX11_run_47 : decode cX11_run 47 = .ok (.invokevirtual 97, 3) := by decide +kernel
theorem dX11_run_50 : decode cX11_run 50 = .ok (.ireturn, 1) := by decide +kernel
theorem dX11_run_51 : decode cX11_run 51 = .ok (.aload_n 0, 1) := by decide +kernel
theorem dX11_run_52 : decode cX11_run 52 = .ok (.iload_n 1, 1) := by decide +kernel
theorem dX11_run_53 : decode cX11_run 53 = .ok (.invokevirtual 266, 3) := by decide +kernel
theorem dX11_run_56 : decode cX11_run 56 = .ok (.ifCond .ne 9, 3) := by decide +kernel
theorem dX11_run_59 : decode cX11_run 59 = .ok (.aload_n 0, 1) := by decide +kernel
theorem dX11_run_60 : decode cX11_run 60 = .ok (.iconst 3, 1) := by decide +kernel
theorem dX11_run_61 : decode cX11_run 61 = .ok (.invokevirtual 97, 3) := by decide +kernel
theorem dX11_run_64 : decode cX11_run 64 = .ok (.ireturn, 1) := by decide +kernel
theorem dX11_run_65 : decode cX11_run 65 = .ok (.aload_n 0, 1) := by decide +kernel
theorem dX11_run_66 : decode cX11_run 66 = .ok (.iconst 0, 1) := by decide +kernel
theorem dX11_run_67 : decode cX11_run 67 = .ok (.iconst 1, 1) := by decide +kernel
theorem dX11_run_68 : decode cX11_run 68 = .ok (.invokevirtual 204, 3) := by decide +kernel
theorem dX11_run_71 : decode cX11_run 71 = .ok (.iconst 0, 1) := by decide +kernel
theorem dX11_run_72 : decode cX11_run 72 = .ok (.istore_n 2, 1) := by decide +kernel
theorem dX11_run_73 : decode cX11_run 73 = .ok (.iload_n 2, 1) := by decide +kernel
theorem dX11_run_74 : decode cX11_run 74 = .ok (.aload_n 0, 1) := by decide +kernel
theorem dX11_run_75 : decode cX11_run 75 = .ok (.getfield 17, 3) := by decide +kernel
theorem dX11_run_78 : decode cX11_run 78 = .ok (.iload_n 1, 1) := by decide +kernel
theorem dX11_run_79 : decode cX11_run 79 = .ok (.iaload, 1) := by decide +kernel
theorem dX11_run_80 : decode cX11_run 80 = .ok (.if_icmp .ge 46, 3) := by decide +kernel
theorem dX11_run_83 : decode cX11_run 83 = .ok (.aload_n 0, 1) := by decide +kernel
theorem dX11_run_84 : decode cX11_run 84 = .ok (.iload_n 1, 1) := by decide +kernel
theorem dX11_run_85 : decode cX11_run 85 = .ok (.iload_n 2, 1) := by decide +kernel
theorem dX11_run_86 : decode cX11_run 86 = .ok (.invokevirtual 101, 3) := by decide +kernel
theorem dX11_run_89 : decode cX11_run 89 = .ok (.istore_n 3, 1) := by decide +kernel
theorem dX11_run_90 : decode cX11_run 90 = .ok (.iload_n 3, 1) := by decide +kernel
theorem dX11_run_91 : decode cX11_run 91 = .ok (.invokestatic 214, 3) := by decide +kernel
theorem dX11_run_94 : decode cX11_run 94 = .ok (.ifCond .ne 21, 3) := by decide +kernel
theorem dX11_run_97 : decode cX11_run 97 = .ok (.aload_n 0, 1) := by decide +kernel
theorem dX11_run_98 : decode cX11_run 98 = .ok (.iconst 1, 1) := by decide +kernel
theorem dX11_run_99 : decode cX11_run 99 = .ok (.iload_n 3, 1) := by decide +kernel
theorem dX11_run_100 : decode cX11_run 100 = .ok (.invokevirtual 246, 3) := by decide +kernel
theorem dX11_run_103 : decode cX11_run 103 = .ok (.ifCond .eq 12, 3) := by decide +kernel
theorem dX11_run_106 : decode cX11_run 106 = .ok (.aload_n 0, 1) := by decide +kernel
theorem dX11_run_107 : decode cX11_run 107 = .ok (.iconst 1, 1) := by decide +kernel
theorem dX11_run_108 : decode cX11_run 108 = .ok (.iload_n 3, 1) := by decide +kernel
theorem dX11_run_109 : decode cX11_run 109 = .ok (.bipush 6, 2) := by decide +kernel
theorem dX11_run_111 : decode cX11_run 111 = .ok (.irem, 1) := by decide +kernel
theorem dX11_run_112 : decode cX11_run 112 = .ok (.invokevirtual 190, 3) := by decide +kernel
theorem dX11_run_115 : decode cX11_run 115 = .ok (.aload_n 0, 1) := by decide +kernel
theorem dX11_run_116 : decode cX11_run 116 = .ok (.iconst 1, 1) := by decide +kernel
theorem dX11_run_117 : decode cX11_run 117 = .ok (.invokevirtual 197, 3) := by decide +kernel
theorem dX11_run_120 : decode cX11_run 120 = .ok (.iinc 2 1, 3) := by decide +kernel
theorem dX11_run_123 : decode cX11_run 123 = .ok (.goto (-50), 3) := by decide +kernel
theorem dX11_run_126 : decode cX11_run 126 = .ok (.iconst 0, 1) := by decide +kernel
theorem dX11_run_127 : decode cX11_run 127 = .ok (.istore_n 2, 1) := by decide +kernel
theorem dX11_run_128 : decode cX11_run 128 = .ok (.iconst 0, 1) := by decide +kernel
theorem dX11_run_129 : decode cX11_run 129 = .ok (.istore_n 3, 1) := by decide +kernel
theorem dX11_run_130 : decode cX11_run 130 = .ok (.iload_n 3, 1) := by decide +kernel
theorem dX11_run_131 : decode cX11_run 131 = .ok (.aload_n 0, 1) := by decide +kernel
theorem dX11_run_132 : decode cX11_run 132 = .ok (.getfield 138, 3) := by decide +kernel
theorem dX11_run_135 : decode cX11_run 135 = .ok (.if_icmp .ge 21, 3) := by decide +kernel
theorem dX11_run_138 : decode cX11_run 138 = .ok (.iload_n 2, 1) := by decide +kernel
theorem dX11_run_139 : decode cX11_run 139 = .ok (.aload_n 0, 1) := by decide +kernel
theorem dX11_run_140 : decode cX11_run 140 = .ok (.getfield 51, 3) := by decide +kernel
theorem dX11_run_143 : decode cX11_run 143 = .ok (.bipush 18, 2) := by decide +kernel
theorem dX11_run_145 : decode cX11_run 145 = .ok (.iload_n 3, 1) := by decide +kernel
theorem dX11_run_146 : decode cX11_run 146 = .ok (.iadd, 1) := by decide +kernel
theorem dX11_run_147 : decode cX11_run 147 = .ok (.iaload, 1) := by decide +kernel
theorem dX11_run_148 : decode cX11_run 148 = .ok (.iadd, 1) := by decide +kernel
theorem dX11_run_149 : decode cX11_run 149 = .ok (.istore_n 2, 1) := by decide +kernel
theorem dX11_run_150 : decode cX11_run 150 = .ok (.iinc 3 1, 3) := by decide +kernel
theorem dX11_run_153 : decode cX11_run 153 = .ok (.goto (-23), 3) := by decide +kernel
theorem dX11_run_156 : decode cX11_run 156 = .ok (.aload_n 0, 1) := by decide +kernel
theorem dX11_run_157 : decode cX11_run 157 = .ok (.iload_n 2, 1) := by decide +kernel
theorem dX11_run_158 : decode cX11_run 158 = .ok (.aload_n 0, 1) := by decide +kernel
theorem dX11_run_159 : decode cX11_run 159 = .ok (.iconst 1, 1) := by decide +kernel
theorem dX11_run_160 : decode cX11_run 160 = .ok (.invokevirtual 163, 3) := by decide +kernel
theorem dX11_run_163 : decode cX11_run 163 = .ok (.invokevirtual 105, 3) := by decide +kernel
theorem dX11_run_166 : decode cX11_run 166 = .ok (.ireturn, 1) := by decide +kernel
theorem dX11_layFirst_0 : decode cX11_layFirst 0 = .ok (.iconst 0, 1) := by decide +kernel
theorem dX11_layFirst_1 : decode cX11_layFirst 1 = .ok (.istore_n 2, 1) := by decide +kernel
theorem dX11_layFirst_2 : decode cX11_layFirst 2 = .ok (.iload_n 2, 1) := by decide +kernel
theorem dX11_layFirst_3 : decode cX11_layFirst 3 = .ok (.bipush 18, 2) := by decide +kernel
theorem dX11_layFirst_5 : decode cX11_layFirst 5 = .ok (.if_icmp .ge 26, 3) := by decide +kernel
theorem dX11_layFirst_8 : decode cX11_layFirst 8 = .ok (.aload_n 0, 1) := by decide +kernel
theorem dX11_layFirst_9 : decode cX11_layFirst 9 = .ok (.getfield 51, 3) := by decide +kernel
theorem dX11_layFirst_12 : decode cX11_layFirst 12 = .ok (.bipush 18, 2) := by decide +kernel
theorem dX11_layFirst_14 : decode cX11_layFirst 14 = .ok (.iload_n 1, 1) := by decide +kernel
theorem dX11_layFirst_15 : decode cX11_layFirst 15 = .ok (.imul, 1) := by decide +kernel
theorem dX11_layFirst_16 : decode cX11_layFirst 16 = .ok (.iload_n 2, 1) := by decide +kernel
theorem dX11_layFirst_17 : decode cX11_layFirst 17 = .ok (.iadd, 1) := by decide +kernel
theorem dX11_layFirst_18 : decode cX11_layFirst 18 = .ok (.aload_n 0, 1) := by decide +kernel
theorem dX11_layFirst_19 : decode cX11_layFirst 19 = .ok (.getfield 48, 3) := by decide +kernel
theorem dX11_layFirst_22 : decode cX11_layFirst 22 = .ok (.iload_n 2, 1) := by decide +kernel
theorem dX11_layFirst_23 : decode cX11_layFirst 23 = .ok (.iaload, 1) := by decide +kernel
theorem dX11_layFirst_24 : decode cX11_layFirst 24 = .ok (.iastore, 1) := by decide +kernel
theorem dX11_layFirst_25 : decode cX11_layFirst 25 = .ok (.iinc 2 1, 3) := by decide +kernel
theorem dX11_layFirst_28 : decode cX11_layFirst 28 = .ok (.goto (-26), 3) := by decide +kernel
theorem dX11_layFirst_31 : decode cX11_layFirst 31 = .ok (.return_, 1) := by decide +kernel
theorem dX11_where_0 : decode cX11_where 0 = .ok (.aload_n 0, 1) := by decide +kernel
theorem dX11_where_1 : decode cX11_where 1 = .ok (.iconst 2, 1) := by decide +kernel
theorem dX11_where_2 : decode cX11_where 2 = .ok (.invokevirtual 269, 3) := by decide +kernel
theorem dX11_where_5 : decode cX11_where 5 = .ok (.aload_n 0, 1) := by decide +kernel
theorem dX11_where_6 : decode cX11_where 6 = .ok (.iconst 2, 1) := by decide +kernel
theorem dX11_where_7 : decode cX11_where 7 = .ok (.invokevirtual 201, 3) := by decide +kernel
theorem dX11_where_10 : decode cX11_where 10 = .ok (.istore_n 1, 1) := by decide +kernel
theorem dX11_where_11 : decode cX11_where 11 = .ok (.bipush (-9), 2) := by decide +kernel
theorem dX11_where_13 : decode cX11_where 13 = .ok (.istore_n 2, 1) := by decide +kernel
theorem dX11_where_14 : decode cX11_where 14 = .ok (.iconst (-1), 1) := by decide +kernel
theorem dX11_where_15 : decode cX11_where 15 = .ok (.istore_n 3, 1) := by decide +kernel
theorem dX11_where_16 : decode cX11_where 16 = .ok (.iconst 0, 1) := by decide +kernel
theorem dX11_where_17 : decode cX11_where 17 = .ok (.istore 4, 2) := by decide +kernel
theorem dX11_where_19 : decode cX11_where 19 = .ok (.iload 4, 2) := by decide +kernel
theorem dX11_where_21 : decode cX11_where 21 = .ok (.aload_n 0, 1) := by decide +kernel
theorem dX11_where_22 : decode cX11_where 22 = .ok (.getfield 138, 3) := by decide +kernel
theorem dX11_where_25 : decode cX11_where 25 = .ok (.if_icmp .ge 70, 3) := by decide +kernel
theorem dX11_where_28 : decode cX11_where 28 = .ok (.iload_n 1, 1) := by decide +kernel
theorem dX11_where_29 : decode cX11_where 29 = .ok (.iload 4, 2) := by decide +kernel
theorem dX11_where_31 : decode cX11_where 31 = .ok (.invokestatic 166, 3) := by decide +kernel
theorem dX11_where_34 : decode cX11_where 34 = .ok (.ifCond .eq 55, 3) := by decide +kernel
theorem dX11_where_37 : decode cX11_where 37 = .ok (.aload_n 0, 1) := by decide +kernel
theorem dX11_where_38 : decode cX11_where 38 = .ok (.iconst 1, 1) := by decide +kernel
theorem dX11_where_39 : decode cX11_where 39 = .ok (.invokevirtual 269, 3) := by decide +kernel
theorem dX11_where_42 : decode cX11_where 42 = .ok (.aload_n 0, 1) := by decide +kernel
theorem dX11_where_43 : decode cX11_where 43 = .ok (.getfield 51, 3) := by decide +kernel
theorem dX11_where_46 : decode cX11_where 46 = .ok (.bipush 28, 2) := by decide +kernel
theorem dX11_where_48 : decode cX11_where 48 = .ok (.iload 4, 2) := by decide +kernel
theorem dX11_where_50 : decode cX11_where 50 = .ok (.iadd, 1) := by decide +kernel
theorem dX11_where_51 : decode cX11_where 51 = .ok (.iconst 1, 1) := by decide +kernel
theorem dX11_where_52 : decode cX11_where 52 = .ok (.iastore, 1) := by decide +kernel
theorem dX11_where_53 : decode cX11_where 53 = .ok (.aload_n 0, 1) := by decide +kernel
theorem dX11_where_54 : decode cX11_where 54 = .ok (.iconst 1, 1) := by decide +kernel
theorem dX11_where_55 : decode cX11_where 55 = .ok (.iload 4, 2) := by decide +kernel
theorem dX11_where_57 : decode cX11_where 57 = .ok (.ishl, 1) := by decide +kernel
theorem dX11_where_58 : decode cX11_where 58 = .ok (.invokevirtual 207, 3) := by decide +kernel
theorem dX11_where_61 : decode cX11_where 61 = .ok (.istore 5, 2) := by decide +kernel
theorem dX11_where_63 : decode cX11_where 63 = .ok (.iload 5, 2) := by decide +kernel
theorem dX11_where_65 : decode cX11_where 65 = .ok (.iload_n 3, 1) := by decide +kernel
theorem dX11_where_66 : decode cX11_where 66 = .ok (.if_icmp .le 8, 3) := by decide +kernel
theorem dX11_where_69 : decode cX11_where 69 = .ok (.iload 4, 2) := by decide +kernel
theorem dX11_where_71 : decode cX11_where 71 = .ok (.goto 4, 3) := by decide +kernel
theorem dX11_where_74 : decode cX11_where 74 = .ok (.iload_n 2, 1) := by decide +kernel
theorem dX11_where_75 : decode cX11_where 75 = .ok (.istore_n 2, 1) := by decide +kernel
theorem dX11_where_76 : decode cX11_where 76 = .ok (.iload 5, 2) := by decide +kernel
theorem dX11_where_78 : decode cX11_where 78 = .ok (.iload_n 3, 1) := by decide +kernel
theorem dX11_where_79 : decode cX11_where 79 = .ok (.if_icmp .le 8, 3) := by decide +kernel
theorem dX11_where_82 : decode cX11_where 82 = .ok (.iload 5, 2) := by decide +kernel
theorem dX11_where_84 : decode cX11_where 84 = .ok (.goto 4, 3) := by decide +kernel
theorem dX11_where_87 : decode cX11_where 87 = .ok (.iload_n 3, 1) := by decide +kernel
theorem dX11_where_88 : decode cX11_where 88 = .ok (.istore_n 3, 1) := by decide +kernel
theorem dX11_where_89 : decode cX11_where 89 = .ok (.iinc 4 1, 3) := by decide +kernel
theorem dX11_where_92 : decode cX11_where 92 = .ok (.goto (-73), 3) := by decide +kernel
theorem dX11_where_95 : decode cX11_where 95 = .ok (.aload_n 0, 1) := by decide +kernel
theorem dX11_where_96 : decode cX11_where 96 = .ok (.iload_n 2, 1) := by decide +kernel
theorem dX11_where_97 : decode cX11_where 97 = .ok (.iload_n 1, 1) := by decide +kernel
theorem dX11_where_98 : decode cX11_where 98 = .ok (.invokevirtual 105, 3) := by decide +kernel
theorem dX11_where_101 : decode cX11_where 101 = .ok (.ireturn, 1) := by decide +kernel
theorem dX11_needBook_0 : decode cX11_needBook 0 = .ok (.iload_n 2, 1) := by decide +kernel
theorem dX11_needBook_1 : decode cX11_needBook 1 = .ok (.ifCond .eq 10, 3) := by decide +kernel
theorem dX11_needBook_4 : decode cX11_needBook 4 = .ok (.iload_n 1, 1) := by decide +kernel
theorem dX11_needBook_5 : decode cX11_needBook 5 = .ok (.invokestatic 93, 3) := by decide +kernel
theorem dX11_needBook_8 : decode cX11_needBook 8 = .ok (.ifCond .ne 5, 3) := by decide +kernel
theorem dX11_needBook_11 : decode cX11_needBook 11 = .ok (.iconst (-1), 1) := by decide +kernel
theorem dX11_needBook_12 : decode cX11_needBook 12 = .ok (.ireturn, 1) := by decide +kernel
theorem dX11_needBook_13 : decode cX11_needBook 13 = .ok (.aload_n 0, 1) := by decide +kernel
theorem dX11_needBook_14 : decode cX11_needBook 14 = .ok (.getfield 138, 3) := by decide +kernel
theorem dX11_needBook_17 : decode cX11_needBook 17 = .ok (.ifCond .ne 6, 3) := by decide +kernel
theorem dX11_needBook_20 : decode cX11_needBook 20 = .ok (.bipush (-4), 2) := by decide +kernel
theorem dX11_needBook_22 : decode cX11_needBook 22 = .ok (.ireturn, 1) := by decide +kernel
theorem dX11_needBook_23 : decode cX11_needBook 23 = .ok (.aload_n 0, 1) := by decide +kernel
theorem dX11_needBook_24 : decode cX11_needBook 24 = .ok (.getfield 17, 3) := by decide +kernel
theorem dX11_needBook_27 : decode cX11_needBook 27 = .ok (.iload_n 1, 1) := by decide +kernel
theorem dX11_needBook_28 : decode cX11_needBook 28 = .ok (.iaload, 1) := by decide +kernel
theorem dX11_needBook_29 : decode cX11_needBook 29 = .ok (.ifCond .ge 9, 3) := by decide +kernel
theorem dX11_needBook_32 : decode cX11_needBook 32 = .ok (.aload_n 0, 1) := by decide +kernel
theorem dX11_needBook_33 : decode cX11_needBook 33 = .ok (.iconst 1, 1) := by decide +kernel
theorem dX11_needBook_34 : decode cX11_needBook 34 = .ok (.invokevirtual 97, 3) := by decide +kernel
theorem dX11_needBook_37 : decode cX11_needBook 37 = .ok (.ireturn, 1) := by decide +kernel
theorem dX11_needBook_38 : decode cX11_needBook 38 = .ok (.aload_n 0, 1) := by decide +kernel
theorem dX11_needBook_39 : decode cX11_needBook 39 = .ok (.getfield 17, 3) := by decide +kernel
theorem dX11_needBook_42 : decode cX11_needBook 42 = .ok (.iload_n 1, 1) := by decide +kernel
theorem dX11_needBook_43 : decode cX11_needBook 43 = .ok (.iaload, 1) := by decide +kernel
theorem dX11_needBook_44 : decode cX11_needBook 44 = .ok (.iconst 1, 1) := by decide +kernel
theorem dX11_needBook_45 : decode cX11_needBook 45 = .ok (.iconst 5, 1) := by decide +kernel
theorem dX11_needBook_46 : decode cX11_needBook 46 = .ok (.invokestatic 83, 3) := by decide +kernel
theorem dX11_needBook_49 : decode cX11_needBook 49 = .ok (.ifCond .ne 9, 3) := by decide +kernel
theorem dX11_needBook_52 : decode cX11_needBook 52 = .ok (.aload_n 0, 1) := by decide +kernel
theorem dX11_needBook_53 : decode cX11_needBook 53 = .ok (.iconst 5, 1) := by decide +kernel
theorem dX11_needBook_54 : decode cX11_needBook 54 = .ok (.invokevirtual 97, 3) := by decide +kernel
theorem dX11_needBook_57 : decode cX11_needBook 57 = .ok (.ireturn, 1) := by decide +kernel
theorem dX11_needBook_58 : decode cX11_needBook 58 = .ok (.iconst 1, 1) := by decide +kernel
theorem dX11_needBook_59 : decode cX11_needBook 59 = .ok (.istore_n 3, 1) := by decide +kernel
theorem dX11_needBook_60 : decode cX11_needBook 60 = .ok (.iconst 0, 1) := by decide +kernel
theorem dX11_needBook_61 : decode cX11_needBook 61 = .ok (.istore 4, 2) := by decide +kernel
theorem dX11_needBook_63 : decode cX11_needBook 63 = .ok (.iload 4, 2) := by decide +kernel
theorem dX11_needBook_65 : decode cX11_needBook 65 = .ok (.aload_n 0, 1) := by decide +kernel
theorem dX11_needBook_66 : decode cX11_needBook 66 = .ok (.getfield 17, 3) := by decide +kernel
theorem dX11_needBook_69 : decode cX11_needBook 69 = .ok (.iload_n 1, 1) := by decide +kernel
theorem dX11_needBook_70 : decode cX11_needBook 70 = .ok (.iaload, 1) := by decide +kernel
theorem dX11_needBook_71 : decode cX11_needBook 71 = .ok (.if_icmp .ge 37, 3) := by decide +kernel
theorem dX11_needBook_74 : decode cX11_needBook 74 = .ok (.iload_n 3, 1) := by decide +kernel
theorem dX11_needBook_75 : decode cX11_needBook 75 = .ok (.ifCond .eq 25, 3) := by decide +kernel
theorem dX11_needBook_78 : decode cX11_needBook 78 = .ok (.aload_n 0, 1) := by decide +kernel
theorem dX11_needBook_79 : decode cX11_needBook 79 = .ok (.iload_n 1, 1) := by decide +kernel
theorem dX11_needBook_80 : decode cX11_needBook 80 = .ok (.iload 4, 2) := by decide +kernel
theorem dX11_needBook_82 : decode cX11_needBook 82 = .ok (.invokevirtual 101, 3) := by decide +kernel
theorem dX11_needBook_85 : decode cX11_needBook 85 = .ok (.iconst 0, 1) := by decide +kernel
theorem dX11_needBook_86 : decode cX11_needBook 86 = .ok (.aload_n 0, 1) := by decide +kernel
theorem dX11_needBook_87 : decode cX11_needBook 87 = .ok (.invokevirtual 210, 3) := by decide +kernel
theorem dX11_needBook_90 : decode cX11_needBook 90 = .ok (.invokestatic 83, 3) := by decide +kernel
theorem dX11_needBook_93 : decode cX11_needBook 93 = .ok (.ifCond .eq 7, 3) := by decide +kernel
theorem dX11_needBook_96 : decode cX11_needBook 96 = .ok (.iconst 1, 1) := by decide +kernel
theorem dX11_needBook_97 : decode cX11_needBook 97 = .ok (.goto 4, 3) := by decide +kernel
theorem dX11_needBook_100 : decode cX11_needBook 100 = .ok (.iconst 0, 1) := by decide +kernel
theorem dX11_needBook_101 : decode cX11_needBook 101 = .ok (.istore_n 3, 1) := by decide +kernel
theorem dX11_needBook_102 : decode cX11_needBook 102 = .ok (.iinc 4 1, 3) := by decide +kernel
theorem dX11_needBook_105 : decode cX11_needBook 105 = .ok (.goto (-42), 3) := by decide +kernel
theorem dX11_needBook_108 : decode cX11_needBook 108 = .ok (.iload_n 3, 1) := by decide +kernel
theorem dX11_needBook_109 : decode cX11_needBook 109 = .ok (.ifCond .eq 7, 3) := by decide +kernel
theorem dX11_needBook_112 : decode cX11_needBook 112 = .ok (.iconst 0, 1) := by decide +kernel
theorem dX11_needBook_113 : decode cX11_needBook 113 = .ok (.goto 8, 3) := by decide +kernel
theorem dX11_needBook_116 : decode cX11_needBook 116 = .ok (.aload_n 0, 1) := by decide +kernel
theorem dX11_needBook_117 : decode cX11_needBook 117 = .ok (.iconst 3, 1) := by decide +kernel
theorem dX11_needBook_118 : decode cX11_needBook 118 = .ok (.invokevirtual 97, 3) := by decide +kernel
theorem dX11_needBook_121 : decode cX11_needBook 121 = .ok (.ireturn, 1) := by decide +kernel
theorem dX11_smokes_0 : decode cX11_smokes 0 = .ok (.iload_n 2, 1) := by decide +kernel
theorem dX11_smokes_1 : decode cX11_smokes 1 = .ok (.aload_n 0, 1) := by decide +kernel
theorem dX11_smokes_2 : decode cX11_smokes 2 = .ok (.getfield 17, 3) := by decide +kernel
theorem dX11_smokes_5 : decode cX11_smokes 5 = .ok (.iload_n 1, 1) := by decide +kernel
theorem dX11_smokes_6 : decode cX11_smokes 6 = .ok (.iaload, 1) := by decide +kernel
theorem dX11_smokes_7 : decode cX11_smokes 7 = .ok (.if_icmp .ne 5, 3) := by decide +kernel
theorem dX11_smokes_10 : decode cX11_smokes 10 = .ok (.iconst 1, 1) := by decide +kernel
theorem dX11_smokes_11 : decode cX11_smokes 11 = .ok (.ireturn, 1) := by decide +kernel
theorem dX11_smokes_12 : decode cX11_smokes 12 = .ok (.iconst 1, 1) := by decide +kernel
theorem dX11_smokes_13 : decode cX11_smokes 13 = .ok (.iload_n 2, 1) := by decide +kernel
theorem dX11_smokes_14 : decode cX11_smokes 14 = .ok (.iadd, 1) := by decide +kernel
theorem dX11_smokes_15 : decode cX11_smokes 15 = .ok (.istore_n 3, 1) := by decide +kernel
theorem dX11_smokes_16 : decode cX11_smokes 16 = .ok (.iconst 0, 1) := by decide +kernel
theorem dX11_smokes_17 : decode cX11_smokes 17 = .ok (.istore 4, 2) := by decide +kernel
theorem dX11_smokes_19 : decode cX11_smokes 19 = .ok (.iconst 0, 1) := by decide +kernel
theorem dX11_smokes_20 : decode cX11_smokes 20 = .ok (.istore 5, 2) := by decide +kernel
theorem dX11_smokes_22 : decode cX11_smokes 22 = .ok (.iload 5, 2) := by decide +kernel
theorem dX11_smokes_24 : decode cX11_smokes 24 = .ok (.bipush 36, 2) := by decide +kernel
theorem dX11_smokes_26 : decode cX11_smokes 26 = .ok (.if_icmp .gt 87, 3) := by decide +kernel
theorem dX11_smokes_29 : decode cX11_smokes 29 = .ok (.aload_n 0, 1) := by decide +kernel
theorem dX11_smokes_30 : decode cX11_smokes 30 = .ok (.iload_n 3, 1) := by decide +kernel
theorem dX11_smokes_31 : decode cX11_smokes 31 = .ok (.iload 5, 2) := by decide +kernel
theorem dX11_smokes_33 : decode cX11_smokes 33 = .ok (.invokevirtual 246, 3) := by decide +kernel
theorem dX11_smokes_36 : decode cX11_smokes 36 = .ok (.ifCond .eq 71, 3) := by decide +kernel
theorem dX11_smokes_39 : decode cX11_smokes 39 = .ok (.aload_n 0, 1) := by decide +kernel
theorem dX11_smokes_40 : decode cX11_smokes 40 = .ok (.iload_n 3, 1) := by decide +kernel
theorem dX11_smokes_41 : decode cX11_smokes 41 = .ok (.iload_n 3, 1) := by decide +kernel
theorem dX11_smokes_42 : decode cX11_smokes 42 = .ok (.iconst 1, 1) := by decide +kernel
theorem dX11_smokes_43 : decode cX11_smokes 43 = .ok (.iadd, 1) := by decide +kernel
theorem dX11_smokes_44 : decode cX11_smokes 44 = .ok (.invokevirtual 204, 3) := by decide +kernel
theorem dX11_smokes_47 : decode cX11_smokes 47 = .ok (.iload 5, 2) := by decide +kernel
theorem dX11_smokes_49 : decode cX11_smokes 49 = .ok (.invokestatic 214, 3) := by decide +kernel
theorem dX11_smokes_52 : decode cX11_smokes 52 = .ok (.ifCond .ne 15, 3) := by decide +kernel
theorem dX11_smokes_55 : decode cX11_smokes 55 = .ok (.aload_n 0, 1) := by decide +kernel
theorem dX11_smokes_56 : decode cX11_smokes 56 = .ok (.iload_n 3, 1) := by decide +kernel
theorem dX11_smokes_57 : decode cX11_smokes 57 = .ok (.iconst 1, 1) := by decide +kernel
theorem dX11_smokes_58 : decode cX11_smokes 58 = .ok (.iadd, 1) := by decide +kernel
theorem dX11_smokes_59 : decode cX11_smokes 59 = .ok (.iload 5, 2) := by decide +kernel
theorem dX11_smokes_61 : decode cX11_smokes 61 = .ok (.bipush 6, 2) := by decide +kernel
theorem dX11_smokes_63 : decode cX11_smokes 63 = .ok (.irem, 1) := by decide +kernel
theorem dX11_smokes_64 : decode cX11_smokes 64 = .ok (.invokevirtual 190, 3) := by decide +kernel
theorem dX11_smokes_67 : decode cX11_smokes 67 = .ok (.aload_n 0, 1) := by decide +kernel
theorem dX11_smokes_68 : decode cX11_smokes 68 = .ok (.iload_n 3, 1) := by decide +kernel
theorem dX11_smokes_69 : decode cX11_smokes 69 = .ok (.iconst 1, 1) := by decide +kernel
theorem dX11_smokes_70 : decode cX11_smokes 70 = .ok (.iadd, 1) := by decide +kernel
theorem dX11_smokes_71 : decode cX11_smokes 71 = .ok (.invokevirtual 197, 3) := by decide +kernel
theorem dX11_smokes_74 : decode cX11_smokes 74 = .ok (.iload 4, 2) := by decide +kernel
theorem dX11_smokes_76 : decode cX11_smokes 76 = .ok (.aload_n 0, 1) := by decide +kernel
theorem dX11_smokes_77 : decode cX11_smokes 77 = .ok (.iload_n 3, 1) := by decide +kernel
theorem dX11_smokes_78 : decode cX11_smokes 78 = .ok (.iconst 1, 1) := by decide +kernel
theorem dX11_smokes_79 : decode cX11_smokes 79 = .ok (.iadd, 1) := by decide +kernel
theorem dX11_smokes_80 : decode cX11_smokes 80 = .ok (.invokevirtual 163, 3) := by decide +kernel
theorem dX11_smokes_83 : decode cX11_smokes 83 = .ok (.aload_n 0, 1) := by decide +kernel
theorem dX11_smokes_84 : decode cX11_smokes 84 = .ok (.iload_n 1, 1) := by decide +kernel
theorem dX11_smokes_85 : decode cX11_smokes 85 = .ok (.iload_n 2, 1) := by decide +kernel
theorem dX11_smokes_86 : decode cX11_smokes 86 = .ok (.invokevirtual 101, 3) := by decide +kernel
theorem dX11_smokes_89 : decode cX11_smokes 89 = .ok (.if_icmp .ne 14, 3) := by decide +kernel
theorem dX11_smokes_92 : decode cX11_smokes 92 = .ok (.aload_n 0, 1) := by decide +kernel
theorem dX11_smokes_93 : decode cX11_smokes 93 = .ok (.iload_n 1, 1) := by decide +kernel
theorem dX11_smokes_94 : decode cX11_smokes 94 = .ok (.iload_n 2, 1) := by decide +kernel
theorem dX11_smokes_95 : decode cX11_smokes 95 = .ok (.iconst 1, 1) := by decide +kernel
theorem dX11_smokes_96 : decode cX11_smokes 96 = .ok (.iadd, 1) := by decide +kernel
theorem dX11_smokes_97 : decode cX11_smokes 97 = .ok (.invokevirtual 272, 3) := by decide +kernel
theorem dX11_smokes_100 : decode cX11_smokes 100 = .ok (.goto 4, 3) := by decide +kernel
theorem dX11_smokes_103 : decode cX11_smokes 103 = .ok (.iconst 0, 1) := by decide +kernel
theorem dX11_smokes_104 : decode cX11_smokes 104 = .ok (.iadd, 1) := by decide +kernel
theorem dX11_smokes_105 : decode cX11_smokes 105 = .ok (.istore 4, 2) := by decide +kernel
theorem dX11_smokes_107 : decode cX11_smokes 107 = .ok (.iinc 5 1, 3) := by decide +kernel
theorem dX11_smokes_110 : decode cX11_smokes 110 = .ok (.goto (-88), 3) := by decide +kernel
theorem dX11_smokes_113 : decode cX11_smokes 113 = .ok (.iload 4, 2) := by decide +kernel
theorem dX11_smokes_115 : decode cX11_smokes 115 = .ok (.ireturn, 1) := by decide +kernel
theorem dX11_smoke_0 : decode cX11_smoke 0 = .ok (.aload_n 0, 1) := by decide +kernel
theorem dX11_smoke_1 : decode cX11_smoke 1 = .ok (.iload_n 1, 1) := by decide +kernel
theorem dX11_smoke_2 : decode cX11_smoke 2 = .ok (.iconst 1, 1) := by decide +kernel
theorem dX11_smoke_3 : decode cX11_smoke 3 = .ok (.invokevirtual 275, 3) := by decide +kernel
theorem dX11_smoke_6 : decode cX11_smoke 6 = .ok (.istore_n 2, 1) := by decide +kernel
theorem dX11_smoke_7 : decode cX11_smoke 7 = .ok (.iload_n 2, 1) := by decide +kernel
theorem dX11_smoke_8 : decode cX11_smoke 8 = .ok (.ifCond .ge 5, 3) := by decide +kernel
theorem dX11_smoke_11 : decode cX11_smoke 11 = .ok (.iload_n 2, 1) := by decide +kernel
theorem dX11_smoke_12 : decode cX11_smoke 12 = .ok (.ireturn, 1) := by decide +kernel
theorem dX11_smoke_13 : decode cX11_smoke 13 = .ok (.iconst 0, 1) := by decide +kernel
theorem dX11_smoke_14 : decode cX11_smoke 14 = .ok (.istore_n 3, 1) := by decide +kernel
theorem dX11_smoke_15 : decode cX11_smoke 15 = .ok (.iconst 0, 1) := by decide +kernel
theorem dX11_smoke_16 : decode cX11_smoke 16 = .ok (.istore 4, 2) := by decide +kernel
theorem dX11_smoke_18 : decode cX11_smoke 18 = .ok (.iconst 0, 1) := by decide +kernel
theorem dX11_smoke_19 : decode cX11_smoke 19 = .ok (.istore 5, 2) := by decide +kernel
theorem dX11_smoke_21 : decode cX11_smoke 21 = .ok (.iload 5, 2) := by decide +kernel
theorem dX11_smoke_23 : decode cX11_smoke 23 = .ok (.aload_n 0, 1) := by decide +kernel
theorem dX11_smoke_24 : decode cX11_smoke 24 = .ok (.getfield 138, 3) := by decide +kernel
theorem dX11_smoke_27 : decode cX11_smoke 27 = .ok (.if_icmp .ge 66, 3) := by decide +kernel
theorem dX11_smoke_30 : decode cX11_smoke 30 = .ok (.aload_n 0, 1) := by decide +kernel
theorem dX11_smoke_31 : decode cX11_smoke 31 = .ok (.iconst 1, 1) := by decide +kernel
theorem dX11_smoke_32 : decode cX11_smoke 32 = .ok (.invokevirtual 269, 3) := by decide +kernel
theorem dX11_smoke_35 : decode cX11_smoke 35 = .ok (.aload_n 0, 1) := by decide +kernel
theorem dX11_smoke_36 : decode cX11_smoke 36 = .ok (.iconst 1, 1) := by decide +kernel
theorem dX11_smoke_37 : decode cX11_smoke 37 = .ok (.iload 5, 2) := by decide +kernel
theorem dX11_smoke_39 : decode cX11_smoke 39 = .ok (.invokevirtual 151, 3) := by decide +kernel
theorem dX11_smoke_42 : decode cX11_smoke 42 = .ok (.ifCond .eq 45, 3) := by decide +kernel
theorem dX11_smoke_45 : decode cX11_smoke 45 = .ok (.aload_n 0, 1) := by decide +kernel
theorem dX11_smoke_46 : decode cX11_smoke 46 = .ok (.getfield 51, 3) := by decide +kernel
theorem dX11_smoke_49 : decode cX11_smoke 49 = .ok (.bipush 28, 2) := by decide +kernel
theorem dX11_smoke_51 : decode cX11_smoke 51 = .ok (.iload 5, 2) := by decide +kernel
theorem dX11_smoke_53 : decode cX11_smoke 53 = .ok (.iadd, 1) := by decide +kernel
theorem dX11_smoke_54 : decode cX11_smoke 54 = .ok (.iconst 1, 1) := by decide +kernel
theorem dX11_smoke_55 : decode cX11_smoke 55 = .ok (.iastore, 1) := by decide +kernel
theorem dX11_smoke_56 : decode cX11_smoke 56 = .ok (.aload_n 0, 1) := by decide +kernel
theorem dX11_smoke_57 : decode cX11_smoke 57 = .ok (.iload_n 1, 1) := by decide +kernel
theorem dX11_smoke_58 : decode cX11_smoke 58 = .ok (.iconst 0, 1) := by decide +kernel
theorem dX11_smoke_59 : decode cX11_smoke 59 = .ok (.invokevirtual 272, 3) := by decide +kernel
theorem dX11_smoke_62 : decode cX11_smoke 62 = .ok (.istore 6, 2) := by decide +kernel
theorem dX11_smoke_64 : decode cX11_smoke 64 = .ok (.iload_n 3, 1) := by decide +kernel
theorem dX11_smoke_65 : decode cX11_smoke 65 = .ok (.iload 6, 2) := by decide +kernel
theorem dX11_smoke_67 : decode cX11_smoke 67 = .ok (.iadd, 1) := by decide +kernel
theorem dX11_smoke_68 : decode cX11_smoke 68 = .ok (.istore_n 3, 1) := by decide +kernel
theorem dX11_smoke_69 : decode cX11_smoke 69 = .ok (.iload 4, 2) := by decide +kernel
theorem dX11_smoke_71 : decode cX11_smoke 71 = .ok (.iload 6, 2) := by decide +kernel
theorem dX11_smoke_73 : decode cX11_smoke 73 = .ok (.ifCond .le 10, 3) := by decide +kernel
theorem dX11_smoke_76 : decode cX11_smoke 76 = .ok (.iconst 1, 1) := by decide +kernel
theorem dX11_smoke_77 : decode cX11_smoke 77 = .ok (.iload 5, 2) := by decide +kernel
theorem dX11_smoke_79 : decode cX11_smoke 79 = .ok (.ishl, 1) := by decide +kernel
theorem dX11_smoke_80 : decode cX11_smoke 80 = .ok (.goto 4, 3) := by decide +kernel
theorem dX11_smoke_83 : decode cX11_smoke 83 = .ok (.iconst 0, 1) := by decide +kernel
theorem dX11_smoke_84 : decode cX11_smoke 84 = .ok (.ior, 1) := by decide +kernel
theorem dX11_smoke_85 : decode cX11_smoke 85 = .ok (.istore 4, 2) := by decide +kernel
theorem dX11_smoke_87 : decode cX11_smoke 87 = .ok (.iinc 5 1, 3) := by decide +kernel
theorem dX11_smoke_90 : decode cX11_smoke 90 = .ok (.goto (-69), 3) := by decide +kernel
theorem dX11_smoke_93 : decode cX11_smoke 93 = .ok (.aload_n 0, 1) := by decide +kernel
theorem dX11_smoke_94 : decode cX11_smoke 94 = .ok (.iload_n 3, 1) := by decide +kernel
theorem dX11_smoke_95 : decode cX11_smoke 95 = .ok (.i2l, 1) := by decide +kernel
theorem dX11_smoke_96 : decode cX11_smoke 96 = .ok (.lconst 1, 1) := by decide +kernel
theorem dX11_smoke_97 : decode cX11_smoke 97 = .ok (.invokevirtual 262, 3) := by decide +kernel
theorem dX11_smoke_100 : decode cX11_smoke 100 = .ok (.pop, 1) := by decide +kernel
theorem dX11_smoke_101 : decode cX11_smoke 101 = .ok (.aload_n 0, 1) := by decide +kernel
theorem dX11_smoke_102 : decode cX11_smoke 102 = .ok (.iload 4, 2) := by decide +kernel
theorem dX11_smoke_104 : decode cX11_smoke 104 = .ok (.iconst 1, 1) := by decide +kernel
theorem dX11_smoke_105 : decode cX11_smoke 105 = .ok (.invokevirtual 105, 3) := by decide +kernel
theorem dX11_smoke_108 : decode cX11_smoke 108 = .ok (.ireturn, 1) := by decide +kernel
theorem dX11_hides_0 : decode cX11_hides 0 = .ok (.aload_n 0, 1) := by decide +kernel
theorem dX11_hides_1 : decode cX11_hides 1 = .ok (.iload_n 1, 1) := by decide +kernel
theorem dX11_hides_2 : decode cX11_hides 2 = .ok (.iload_n 2, 1) := by decide +kernel
theorem dX11_hides_3 : decode cX11_hides 3 = .ok (.iconst 0, 1) := by decide +kernel
theorem dX11_hides_4 : decode cX11_hides 4 = .ok (.aload_n 0, 1) := by decide +kernel
theorem dX11_hides_5 : decode cX11_hides 5 = .ok (.invokevirtual 210, 3) := by decide +kernel
theorem dX11_hides_8 : decode cX11_hides 8 = .ok (.invokestatic 83, 3) := by decide +kernel
theorem dX11_hides_11 : decode cX11_hides 11 = .ok (.invokevirtual 275, 3) := by decide +kernel
theorem dX11_hides_14 : decode cX11_hides 14 = .ok (.istore_n 3, 1) := by decide +kernel
theorem dX11_hides_15 : decode cX11_hides 15 = .ok (.iload_n 3, 1) := by decide +kernel
theorem dX11_hides_16 : decode cX11_hides 16 = .ok (.ifCond .ge 5, 3) := by decide +kernel
theorem dX11_hides_19 : decode cX11_hides 19 = .ok (.iload_n 3, 1) := by decide +kernel
theorem dX11_hides_20 : decode cX11_hides 20 = .ok (.ireturn, 1) := by decide +kernel
theorem dX11_hides_21 : decode cX11_hides 21 = .ok (.iconst 0, 1) := by decide +kernel
theorem dX11_hides_22 : decode cX11_hides 22 = .ok (.istore 4, 2) := by decide +kernel
theorem dX11_hides_24 : decode cX11_hides 24 = .ok (.iconst 0, 1) := by decide +kernel
theorem dX11_hides_25 : decode cX11_hides 25 = .ok (.istore 5, 2) := by decide +kernel
theorem dX11_hides_27 : decode cX11_hides 27 = .ok (.iload 5, 2) := by decide +kernel
theorem dX11_hides_29 : decode cX11_hides 29 = .ok (.aload_n 0, 1) := by decide +kernel
theorem dX11_hides_30 : decode cX11_hides 30 = .ok (.getfield 17, 3) := by decide +kernel
theorem dX11_hides_33 : decode cX11_hides 33 = .ok (.iload_n 1, 1) := by decide +kernel
theorem dX11_hides_34 : decode cX11_hides 34 = .ok (.iaload, 1) := by decide +kernel
theorem dX11_hides_35 : decode cX11_hides 35 = .ok (.if_icmp .ge 21, 3) := by decide +kernel
theorem dX11_hides_38 : decode cX11_hides 38 = .ok (.iload 4, 2) := by decide +kernel
theorem dX11_hides_40 : decode cX11_hides 40 = .ok (.aload_n 0, 1) := by decide +kernel
theorem dX11_hides_41 : decode cX11_hides 41 = .ok (.iload_n 1, 1) := by decide +kernel
theorem dX11_hides_42 : decode cX11_hides 42 = .ok (.iload 5, 2) := by decide +kernel
theorem dX11_hides_44 : decode cX11_hides 44 = .ok (.invokevirtual 101, 3) := by decide +kernel
theorem dX11_hides_47 : decode cX11_hides 47 = .ok (.ior, 1) := by decide +kernel
theorem dX11_hides_48 : decode cX11_hides 48 = .ok (.istore 4, 2) := by decide +kernel
theorem dX11_hides_50 : decode cX11_hides 50 = .ok (.iinc 5 1, 3) := by decide +kernel
theorem dX11_hides_53 : decode cX11_hides 53 = .ok (.goto (-26), 3) := by decide +kernel
theorem dX11_hides_56 : decode cX11_hides 56 = .ok (.iconst 0, 1) := by decide +kernel
theorem dX11_hides_57 : decode cX11_hides 57 = .ok (.istore 5, 2) := by decide +kernel
theorem dX11_hides_59 : decode cX11_hides 59 = .ok (.iload 5, 2) := by decide +kernel
theorem dX11_hides_61 : decode cX11_hides 61 = .ok (.aload_n 0, 1) := by decide +kernel
theorem dX11_hides_62 : decode cX11_hides 62 = .ok (.getfield 138, 3) := by decide +kernel
theorem dX11_hides_65 : decode cX11_hides 65 = .ok (.if_icmp .ge 26, 3) := by decide +kernel
theorem dX11_hides_68 : decode cX11_hides 68 = .ok (.iload 4, 2) := by decide +kernel
theorem dX11_hides_70 : decode cX11_hides 70 = .ok (.iload_n 2, 1) := by decide +kernel
theorem dX11_hides_71 : decode cX11_hides 71 = .ok (.iconst (-1), 1) := by decide +kernel
theorem dX11_hides_72 : decode cX11_hides 72 = .ok (.ixor, 1) := by decide +kernel
theorem dX11_hides_73 : decode cX11_hides 73 = .ok (.iand, 1) := by decide +kernel
theorem dX11_hides_74 : decode cX11_hides 74 = .ok (.iload 5, 2) := by decide +kernel
theorem dX11_hides_76 : decode cX11_hides 76 = .ok (.invokestatic 166, 3) := by decide +kernel
theorem dX11_hides_79 : decode cX11_hides 79 = .ok (.ifCond .eq 6, 3) := by decide +kernel
theorem dX11_hides_82 : decode cX11_hides 82 = .ok (.iload 5, 2) := by decide +kernel
theorem dX11_hides_84 : decode cX11_hides 84 = .ok (.ireturn, 1) := by decide +kernel
theorem dX11_hides_85 : decode cX11_hides 85 = .ok (.iinc 5 1, 3) := by decide +kernel
theorem dX11_hides_88 : decode cX11_hides 88 = .ok (.goto (-29), 3) := by decide +kernel
theorem dX11_hides_91 : decode cX11_hides 91 = .ok (.bipush (-9), 2) := by decide +kernel
theorem dX11_hides_93 : decode cX11_hides 93 = .ok (.ireturn, 1) := by decide +kernel
theorem dX11_spring_0 : decode cX11_spring 0 = .ok (.aload_n 0, 1) := by decide +kernel
theorem dX11_spring_1 : decode cX11_spring 1 = .ok (.iload_n 1, 1) := by decide +kernel
theorem dX11_spring_2 : decode cX11_spring 2 = .ok (.invokevirtual 172, 3) := by decide +kernel
theorem dX11_spring_5 : decode cX11_spring 5 = .ok (.ifCond .eq 22, 3) := by decide +kernel
theorem dX11_spring_8 : decode cX11_spring 8 = .ok (.iload_n 2, 1) := by decide +kernel
theorem dX11_spring_9 : decode cX11_spring 9 = .ok (.iconst 0, 1) := by decide +kernel
theorem dX11_spring_10 : decode cX11_spring 10 = .ok (.bipush 20, 2) := by decide +kernel
theorem dX11_spring_12 : decode cX11_spring 12 = .ok (.invokestatic 83, 3) := by decide +kernel
theorem dX11_spring_15 : decode cX11_spring 15 = .ok (.ifCond .eq 12, 3) := by decide +kernel
theorem dX11_spring_18 : decode cX11_spring 18 = .ok (.aload_n 0, 1) := by decide +kernel
theorem dX11_spring_19 : decode cX11_spring 19 = .ok (.iload_n 1, 1) := by decide +kernel
theorem dX11_spring_20 : decode cX11_spring 20 = .ok (.iload_n 2, 1) := by decide +kernel
theorem dX11_spring_21 : decode cX11_spring 21 = .ok (.invokevirtual 178, 3) := by decide +kernel
theorem dX11_spring_24 : decode cX11_spring 24 = .ok (.goto 4, 3) := by decide +kernel
theorem dX11_spring_27 : decode cX11_spring 27 = .ok (.iconst (-1), 1) := by decide +kernel
theorem dX11_spring_28 : decode cX11_spring 28 = .ok (.ireturn, 1) := by decide +kernel
theorem dX11_partsOf_0 : decode cX11_partsOf 0 = .ok (.iconst 1, 1) := by decide +kernel
theorem dX11_partsOf_1 : decode cX11_partsOf 1 = .ok (.iload 4, 2) := by decide +kernel
theorem dX11_partsOf_3 : decode cX11_partsOf 3 = .ok (.iadd, 1) := by decide +kernel
theorem dX11_partsOf_4 : decode cX11_partsOf 4 = .ok (.istore 5, 2) := by decide +kernel
theorem dX11_partsOf_6 : decode cX11_partsOf 6 = .ok (.iload 4, 2) := by decide +kernel
theorem dX11_partsOf_8 : decode cX11_partsOf 8 = .ok (.aload_n 0, 1) := by decide +kernel
theorem dX11_partsOf_9 : decode cX11_partsOf 9 = .ok (.getfield 17, 3) := by decide +kernel
theorem dX11_partsOf_12 : decode cX11_partsOf 12 = .ok (.iload_n 2, 1) := by decide +kernel
theorem dX11_partsOf_13 : decode cX11_partsOf 13 = .ok (.iaload, 1) := by decide +kernel
theorem dX11_partsOf_14 : decode cX11_partsOf 14 = .ok (.if_icmp .ne 19, 3) := by decide +kernel
theorem dX11_partsOf_17 : decode cX11_partsOf 17 = .ok (.aload_n 0, 1) := by decide +kernel
theorem dX11_partsOf_18 : decode cX11_partsOf 18 = .ok (.iload 5, 2) := by decide +kernel
theorem dX11_partsOf_20 : decode cX11_partsOf 20 = .ok (.iload_n 1, 1) := by decide +kernel
theorem dX11_partsOf_21 : decode cX11_partsOf 21 = .ok (.invokevirtual 147, 3) := by decide +kernel
theorem dX11_partsOf_24 : decode cX11_partsOf 24 = .ok (.ifCond .eq 7, 3) := by decide +kernel
theorem dX11_partsOf_27 : decode cX11_partsOf 27 = .ok (.lconst 1, 1) := by decide +kernel
theorem dX11_partsOf_28 : decode cX11_partsOf 28 = .ok (.goto 4, 3) := by decide +kernel
theorem dX11_partsOf_31 : decode cX11_partsOf 31 = .ok (.lconst 0, 1) := by decide +kernel
theorem dX11_partsOf_32 : decode cX11_partsOf 32 = .ok (.lreturn, 1) := by decide +kernel
theorem dX11_partsOf_33 : decode cX11_partsOf 33 = .ok (.aload_n 0, 1) := by decide +kernel
theorem dX11_partsOf_34 : decode cX11_partsOf 34 = .ok (.iload_n 2, 1) := by decide +kernel
theorem dX11_partsOf_35 : decode cX11_partsOf 35 = .ok (.iload 4, 2) := by decide +kernel
theorem dX11_partsOf_37 : decode cX11_partsOf 37 = .ok (.invokevirtual 101, 3) := by decide +kernel
theorem dX11_partsOf_40 : decode cX11_partsOf 40 = .ok (.istore 6, 2) := by decide +kernel
theorem dX11_partsOf_42 : decode cX11_partsOf 42 = .ok (.iload 6, 2) := by decide +kernel
theorem dX11_partsOf_44 : decode cX11_partsOf 44 = .ok (.invokestatic 214, 3) := by decide +kernel
theorem dX11_partsOf_47 : decode cX11_partsOf 47 = .ok (.ifCond .ne 18, 3) := by decide +kernel
theorem dX11_partsOf_50 : decode cX11_partsOf 50 = .ok (.aload_n 0, 1) := by decide +kernel
theorem dX11_partsOf_51 : decode cX11_partsOf 51 = .ok (.iload 5, 2) := by decide +kernel
theorem dX11_partsOf_53 : decode cX11_partsOf 53 = .ok (.iload 6, 2) := by decide +kernel
theorem dX11_partsOf_55 : decode cX11_partsOf 55 = .ok (.invokevirtual 246, 3) := by decide +kernel
theorem dX11_partsOf_58 : decode cX11_partsOf 58 = .ok (.ifCond .eq 7, 3) := by decide +kernel
theorem dX11_partsOf_61 : decode cX11_partsOf 61 = .ok (.iconst 1, 1) := by decide +kernel
theorem dX11_partsOf_62 : decode cX11_partsOf 62 = .ok (.goto 4, 3) := by decide +kernel
theorem dX11_partsOf_65 : decode cX11_partsOf 65 = .ok (.iconst 0, 1) := by decide +kernel
theorem dX11_partsOf_66 : decode cX11_partsOf 66 = .ok (.istore 7, 2) := by decide +kernel
theorem dX11_partsOf_68 : decode cX11_partsOf 68 = .ok (.aload_n 0, 1) := by decide +kernel
theorem dX11_partsOf_69 : decode cX11_partsOf 69 = .ok (.iload 5, 2) := by decide +kernel
theorem dX11_partsOf_71 : decode cX11_partsOf 71 = .ok (.iload 5, 2) := by decide +kernel
theorem dX11_partsOf_73 : decode cX11_partsOf 73 = .ok (.iconst 1, 1) := by decide +kernel
theorem dX11_partsOf_74 : decode cX11_partsOf 74 = .ok (.iadd, 1) := by decide +kernel
theorem dX11_partsOf_75 : decode cX11_partsOf 75 = .ok (.invokevirtual 204, 3) := by decide +kernel
theorem dX11_partsOf_78 : decode cX11_partsOf 78 = .ok (.aload_n 0, 1) := by decide +kernel
theorem dX11_partsOf_79 : decode cX11_partsOf 79 = .ok (.iload 5, 2) := by decide +kernel
theorem dX11_partsOf_81 : decode cX11_partsOf 81 = .ok (.iconst 1, 1) := by decide +kernel
theorem dX11_partsOf_82 : decode cX11_partsOf 82 = .ok (.iadd, 1) := by decide +kernel
theorem dX11_partsOf_83 : decode cX11_partsOf 83 = .ok (.invokevirtual 197, 3) := by decide +kernel
theorem dX11_partsOf_86 : decode cX11_partsOf 86 = .ok (.aload_n 0, 1) := by decide +kernel
theorem dX11_partsOf_87 : decode cX11_partsOf 87 = .ok (.iload_n 1, 1) := by decide +kernel
theorem dX11_partsOf_88 : decode cX11_partsOf 88 = .ok (.iload_n 2, 1) := by decide +kernel
theorem dX11_partsOf_89 : decode cX11_partsOf 89 = .ok (.iload_n 3, 1) := by decide +kernel
theorem dX11_partsOf_90 : decode cX11_partsOf 90 = .ok (.iload 4, 2) := by decide +kernel
theorem dX11_partsOf_92 : decode cX11_partsOf 92 = .ok (.iconst 1, 1) := by decide +kernel
theorem dX11_partsOf_93 : decode cX11_partsOf 93 = .ok (.iadd, 1) := by decide +kernel
theorem dX11_partsOf_94 : decode cX11_partsOf 94 = .ok (.invokevirtual 279, 3) := by decide +kernel
theorem dX11_partsOf_97 : decode cX11_partsOf 97 = .ok (.lstore 8, 2) := by decide +kernel
theorem dX11_partsOf_99 : decode cX11_partsOf 99 = .ok (.iload 7, 2) := by decide +kernel
theorem dX11_partsOf_101 : decode cX11_partsOf 101 = .ok (.ifCond .ne 10, 3) := by decide +kernel
theorem dX11_partsOf_104 : decode cX11_partsOf 104 = .ok (.ldc2_w 283, 3) := by decide +kernel
theorem dX11_partsOf_107 : decode cX11_partsOf 107 = .ok (.lload 8, 2) := by decide +kernel
theorem dX11_partsOf_109 : decode cX11_partsOf 109 = .ok (.lmul, 1) := by decide +kernel
theorem dX11_partsOf_110 : decode cX11_partsOf 110 = .ok (.lreturn, 1) := by decide +kernel
theorem dX11_partsOf_111 : decode cX11_partsOf 111 = .ok (.aload_n 0, 1) := by decide +kernel
theorem dX11_partsOf_112 : decode cX11_partsOf 112 = .ok (.iload 5, 2) := by decide +kernel
theorem dX11_partsOf_114 : decode cX11_partsOf 114 = .ok (.iload 5, 2) := by decide +kernel
theorem dX11_partsOf_116 : decode cX11_partsOf 116 = .ok (.iconst 1, 1) := by decide +kernel
theorem dX11_partsOf_117 : decode cX11_partsOf 117 = .ok (.iadd, 1) := by decide +kernel
theorem dX11_partsOf_118 : decode cX11_partsOf 118 = .ok (.invokevirtual 204, 3) := by decide +kernel
theorem dX11_partsOf_121 : decode cX11_partsOf 121 = .ok (.aload_n 0, 1) := by decide +kernel
theorem dX11_partsOf_122 : decode cX11_partsOf 122 = .ok (.iload 5, 2) := by decide +kernel
theorem dX11_partsOf_124 : decode cX11_partsOf 124 = .ok (.iconst 1, 1) := by decide +kernel
theorem dX11_partsOf_125 : decode cX11_partsOf 125 = .ok (.iadd, 1) := by decide +kernel
theorem dX11_partsOf_126 : decode cX11_partsOf 126 = .ok (.iload 6, 2) := by decide +kernel
theorem dX11_partsOf_128 : decode cX11_partsOf 128 = .ok (.bipush 6, 2) := by decide +kernel
theorem dX11_partsOf_130 : decode cX11_partsOf 130 = .ok (.irem, 1) := by decide +kernel
theorem dX11_partsOf_131 : decode cX11_partsOf 131 = .ok (.invokevirtual 190, 3) := by decide +kernel
theorem dX11_partsOf_134 : decode cX11_partsOf 134 = .ok (.aload_n 0, 1) := by decide +kernel
theorem dX11_partsOf_135 : decode cX11_partsOf 135 = .ok (.iload 5, 2) := by decide +kernel
theorem dX11_partsOf_137 : decode cX11_partsOf 137 = .ok (.iconst 1, 1) := by decide +kernel
theorem dX11_partsOf_138 : decode cX11_partsOf 138 = .ok (.iadd, 1) := by decide +kernel
theorem dX11_partsOf_139 : decode cX11_partsOf 139 = .ok (.invokevirtual 197, 3) := by decide +kernel
theorem dX11_partsOf_142 : decode cX11_partsOf 142 = .ok (.iload_n 3, 1) := by decide +kernel
theorem dX11_partsOf_143 : decode cX11_partsOf 143 = .ok (.i2l, 1) := by decide +kernel
theorem dX11_partsOf_144 : decode cX11_partsOf 144 = .ok (.lload 8, 2) := by decide +kernel
theorem dX11_partsOf_146 : decode cX11_partsOf 146 = .ok (.lmul, 1) := by decide +kernel
theorem dX11_partsOf_147 : decode cX11_partsOf 147 = .ok (.bipush 12, 2) := by decide +kernel
theorem dX11_partsOf_149 : decode cX11_partsOf 149 = .ok (.iload_n 3, 1) := by decide +kernel
theorem dX11_partsOf_150 : decode cX11_partsOf 150 = .ok (.isub, 1) := by decide +kernel
theorem dX11_partsOf_151 : decode cX11_partsOf 151 = .ok (.i2l, 1) := by decide +kernel
theorem dX11_partsOf_152 : decode cX11_partsOf 152 = .ok (.aload_n 0, 1) := by decide +kernel
theorem dX11_partsOf_153 : decode cX11_partsOf 153 = .ok (.iload_n 1, 1) := by decide +kernel
theorem dX11_partsOf_154 : decode cX11_partsOf 154 = .ok (.iload_n 2, 1) := by decide +kernel
theorem dX11_partsOf_155 : decode cX11_partsOf 155 = .ok (.iload_n 3, 1) := by decide +kernel
theorem dX11_partsOf_156 : decode cX11_partsOf 156 = .ok (.iload 4, 2) := by decide +kernel
theorem dX11_partsOf_158 : decode cX11_partsOf 158 = .ok (.iconst 1, 1) := by decide +kernel
theorem dX11_partsOf_159 : decode cX11_partsOf 159 = .ok (.iadd, 1) := by decide +kernel
theorem dX11_partsOf_160 : decode cX11_partsOf 160 = .ok (.invokevirtual 279, 3) := by decide +kernel
theorem dX11_partsOf_163 : decode cX11_partsOf 163 = .ok (.lmul, 1) := by decide +kernel
theorem dX11_partsOf_164 : decode cX11_partsOf 164 = .ok (.ladd, 1) := by decide +kernel
theorem dX11_partsOf_165 : decode cX11_partsOf 165 = .ok (.lreturn, 1) := by decide +kernel
theorem dX11_odds_0 : decode cX11_odds 0 = .ok (.aload_n 0, 1) := by decide +kernel
theorem dX11_odds_1 : decode cX11_odds 1 = .ok (.iload_n 1, 1) := by decide +kernel
theorem dX11_odds_2 : decode cX11_odds 2 = .ok (.invokevirtual 172, 3) := by decide +kernel
theorem dX11_odds_5 : decode cX11_odds 5 = .ok (.ifCond .eq 20, 3) := by decide +kernel
theorem dX11_odds_8 : decode cX11_odds 8 = .ok (.iload_n 2, 1) := by decide +kernel
theorem dX11_odds_9 : decode cX11_odds 9 = .ok (.invokestatic 93, 3) := by decide +kernel
theorem dX11_odds_12 : decode cX11_odds 12 = .ok (.ifCond .eq 13, 3) := by decide +kernel
theorem dX11_odds_15 : decode cX11_odds 15 = .ok (.iload_n 3, 1) := by decide +kernel
theorem dX11_odds_16 : decode cX11_odds 16 = .ok (.iconst 0, 1) := by decide +kernel
theorem dX11_odds_17 : decode cX11_odds 17 = .ok (.bipush 12, 2) := by decide +kernel
theorem dX11_odds_19 : decode cX11_odds 19 = .ok (.invokestatic 83, 3) := by decide +kernel
theorem dX11_odds_22 : decode cX11_odds 22 = .ok (.ifCond .ne 5, 3) := by decide +kernel
theorem dX11_odds_25 : decode cX11_odds 25 = .ok (.iconst (-1), 1) := by decide +kernel
theorem dX11_odds_26 : decode cX11_odds 26 = .ok (.ireturn, 1) := by decide +kernel
theorem dX11_odds_27 : decode cX11_odds 27 = .ok (.aload_n 0, 1) := by decide +kernel
theorem dX11_odds_28 : decode cX11_odds 28 = .ok (.getfield 17, 3) := by decide +kernel
theorem dX11_odds_31 : decode cX11_odds 31 = .ok (.iload_n 2, 1) := by decide +kernel
theorem dX11_odds_32 : decode cX11_odds 32 = .ok (.iaload, 1) := by decide +kernel
theorem dX11_odds_33 : decode cX11_odds 33 = .ok (.ifCond .ge 9, 3) := by decide +kernel
theorem dX11_odds_36 : decode cX11_odds 36 = .ok (.aload_n 0, 1) := by decide +kernel
theorem dX11_odds_37 : decode cX11_odds 37 = .ok (.iconst 1, 1) := by decide +kernel
theorem dX11_odds_38 : decode cX11_odds 38 = .ok (.invokevirtual 97, 3) := by decide +kernel
theorem dX11_odds_41 : decode cX11_odds 41 = .ok (.ireturn, 1) := by decide +kernel
theorem dX11_odds_42 : decode cX11_odds 42 = .ok (.aload_n 0, 1) := by decide +kernel
theorem dX11_odds_43 : decode cX11_odds 43 = .ok (.getfield 17, 3) := by decide +kernel
theorem dX11_odds_46 : decode cX11_odds 46 = .ok (.iload_n 2, 1) := by decide +kernel
theorem dX11_odds_47 : decode cX11_odds 47 = .ok (.iaload, 1) := by decide +kernel
theorem dX11_odds_48 : decode cX11_odds 48 = .ok (.iconst 4, 1) := by decide +kernel
theorem dX11_odds_49 : decode cX11_odds 49 = .ok (.if_icmp .le 9, 3) := by decide +kernel
theorem dX11_odds_52 : decode cX11_odds 52 = .ok (.aload_n 0, 1) := by decide +kernel
theorem dX11_odds_53 : decode cX11_odds 53 = .ok (.iconst 5, 1) := by decide +kernel
theorem dX11_odds_54 : decode cX11_odds 54 = .ok (.invokevirtual 97, 3) := by decide +kernel
theorem dX11_odds_57 : decode cX11_odds 57 = .ok (.ireturn, 1) := by decide +kernel
theorem dX11_odds_58 : decode cX11_odds 58 = .ok (.aload_n 0, 1) := by decide +kernel
theorem dX11_odds_59 : decode cX11_odds 59 = .ok (.iload_n 2, 1) := by decide +kernel
theorem dX11_odds_60 : decode cX11_odds 60 = .ok (.invokevirtual 266, 3) := by decide +kernel
theorem dX11_odds_63 : decode cX11_odds 63 = .ok (.ifCond .ne 9, 3) := by decide +kernel
theorem dX11_odds_66 : decode cX11_odds 66 = .ok (.aload_n 0, 1) := by decide +kernel
theorem dX11_odds_67 : decode cX11_odds 67 = .ok (.iconst 3, 1) := by decide +kernel
theorem dX11_odds_68 : decode cX11_odds 68 = .ok (.invokevirtual 97, 3) := by decide +kernel
theorem dX11_odds_71 : decode cX11_odds 71 = .ok (.ireturn, 1) := by decide +kernel
theorem dX11_odds_72 : decode cX11_odds 72 = .ok (.lconst 1, 1) := by decide +kernel
theorem dX11_odds_73 : decode cX11_odds 73 = .ok (.lstore 4, 2) := by decide +kernel
theorem dX11_odds_75 : decode cX11_odds 75 = .ok (.iconst 0, 1) := by decide +kernel
theorem dX11_odds_76 : decode cX11_odds 76 = .ok (.istore 6, 2) := by decide +kernel
theorem dX11_odds_78 : decode cX11_odds 78 = .ok (.iload 6, 2) := by decide +kernel
theorem dX11_odds_80 : decode cX11_odds 80 = .ok (.aload_n 0, 1) := by decide +kernel
theorem dX11_odds_81 : decode cX11_odds 81 = .ok (.getfield 17, 3) := by decide +kernel
theorem dX11_odds_84 : decode cX11_odds 84 = .ok (.iload_n 2, 1) := by decide +kernel
theorem dX11_odds_85 : decode cX11_odds 85 = .ok (.iaload, 1) := by decide +kernel
theorem dX11_odds_86 : decode cX11_odds 86 = .ok (.if_icmp .ge 17, 3) := by decide +kernel
theorem dX11_odds_89 : decode cX11_odds 89 = .ok (.lload 4, 2) := by decide +kernel
theorem dX11_odds_91 : decode cX11_odds 91 = .ok (.ldc2_w 283, 3) := by decide +kernel
theorem dX11_odds_94 : decode cX11_odds 94 = .ok (.lmul, 1) := by decide +kernel
theorem dX11_odds_95 : decode cX11_odds 95 = .ok (.lstore 4, 2) := by decide +kernel
theorem dX11_odds_97 : decode cX11_odds 97 = .ok (.iinc 6 1, 3) := by decide +kernel
theorem dX11_odds_100 : decode cX11_odds 100 = .ok (.goto (-22), 3) := by decide +kernel
theorem dX11_odds_103 : decode cX11_odds 103 = .ok (.aload_n 0, 1) := by decide +kernel
theorem dX11_odds_104 : decode cX11_odds 104 = .ok (.iconst 0, 1) := by decide +kernel
theorem dX11_odds_105 : decode cX11_odds 105 = .ok (.iconst 1, 1) := by decide +kernel
theorem dX11_odds_106 : decode cX11_odds 106 = .ok (.invokevirtual 204, 3) := by decide +kernel
theorem dX11_odds_109 : decode cX11_odds 109 = .ok (.aload_n 0, 1) := by decide +kernel
theorem dX11_odds_110 : decode cX11_odds 110 = .ok (.aload_n 0, 1) := by decide +kernel
theorem dX11_odds_111 : decode cX11_odds 111 = .ok (.iload_n 1, 1) := by decide +kernel
theorem dX11_odds_112 : decode cX11_odds 112 = .ok (.iload_n 2, 1) := by decide +kernel
theorem dX11_odds_113 : decode cX11_odds 113 = .ok (.iload_n 3, 1) := by decide +kernel
theorem dX11_odds_114 : decode cX11_odds 114 = .ok (.iconst 0, 1) := by decide +kernel
theorem dX11_odds_115 : decode cX11_odds 115 = .ok (.invokevirtual 279, 3) := by decide +kernel
theorem dX11_odds_118 : decode cX11_odds 118 = .ok (.lload 4, 2) := by decide +kernel
theorem dX11_odds_120 : decode cX11_odds 120 = .ok (.invokevirtual 262, 3) := by decide +kernel
theorem dX11_odds_123 : decode cX11_odds 123 = .ok (.ireturn, 1) := by decide +kernel
theorem dX11_lots_0 : decode cX11_lots 0 = .ok (.iload_n 1, 1) := by decide +kernel
theorem dX11_lots_1 : decode cX11_lots 1 = .ok (.iconst 1, 1) := by decide +kernel
theorem dX11_lots_2 : decode cX11_lots 2 = .ok (.bipush 10, 2) := by decide +kernel
theorem dX11_lots_4 : decode cX11_lots 4 = .ok (.invokestatic 83, 3) := by decide +kernel
theorem dX11_lots_7 : decode cX11_lots 7 = .ok (.ifCond .eq 14, 3) := by decide +kernel
theorem dX11_lots_10 : decode cX11_lots 10 = .ok (.iload_n 2, 1) := by decide +kernel
theorem dX11_lots_11 : decode cX11_lots 11 = .ok (.iconst 1, 1) := by decide +kernel
theorem dX11_lots_12 : decode cX11_lots 12 = .ok (.ldc_w 285, 3) := by decide +kernel
theorem dX11_lots_15 : decode cX11_lots 15 = .ok (.invokestatic 83, 3) := by decide +kernel
theorem dX11_lots_18 : decode cX11_lots 18 = .ok (.ifCond .ne 5, 3) := by decide +kernel
theorem dX11_lots_21 : decode cX11_lots 21 = .ok (.iconst (-1), 1) := by decide +kernel
theorem dX11_lots_22 : decode cX11_lots 22 = .ok (.ireturn, 1) := by decide +kernel
theorem dX11_lots_23 : decode cX11_lots 23 = .ok (.aload_n 0, 1) := by decide +kernel
theorem dX11_lots_24 : decode cX11_lots 24 = .ok (.getfield 138, 3) := by decide +kernel
theorem dX11_lots_27 : decode cX11_lots 27 = .ok (.ifCond .ne 6, 3) := by decide +kernel
theorem dX11_lots_30 : decode cX11_lots 30 = .ok (.bipush (-4), 2) := by decide +kernel
theorem dX11_lots_32 : decode cX11_lots 32 = .ok (.ireturn, 1) := by decide +kernel
theorem dX11_lots_33 : decode cX11_lots 33 = .ok (.aload_n 0, 1) := by decide +kernel
theorem dX11_lots_34 : decode cX11_lots 34 = .ok (.getfield 144, 3) := by decide +kernel
theorem dX11_lots_37 : decode cX11_lots 37 = .ok (.iconst 2, 1) := by decide +kernel
theorem dX11_lots_38 : decode cX11_lots 38 = .ok (.iload_n 1, 1) := by decide +kernel
theorem dX11_lots_39 : decode cX11_lots 39 = .ok (.imul, 1) := by decide +kernel
theorem dX11_lots_40 : decode cX11_lots 40 = .ok (.iadd, 1) := by decide +kernel
theorem dX11_lots_41 : decode cX11_lots 41 = .ok (.bipush 40, 2) := by decide +kernel
theorem dX11_lots_43 : decode cX11_lots 43 = .ok (.if_icmp .le 6, 3) := by decide +kernel
theorem dX11_lots_46 : decode cX11_lots 46 = .ok (.bipush (-2), 2) := by decide +kernel
theorem dX11_lots_48 : decode cX11_lots 48 = .ok (.ireturn, 1) := by decide +kernel
theorem dX11_lots_49 : decode cX11_lots 49 = .ok (.iload_n 2, 1) := by decide +kernel
theorem dX11_lots_50 : decode cX11_lots 50 = .ok (.i2l, 1) := by decide +kernel
theorem dX11_lots_51 : decode cX11_lots 51 = .ok (.lstore_n 3, 1) := by decide +kernel
theorem dX11_lots_52 : decode cX11_lots 52 = .ok (.iconst 0, 1) := by decide +kernel
theorem dX11_lots_53 : decode cX11_lots 53 = .ok (.istore 5, 2) := by decide +kernel
theorem dX11_lots_55 : decode cX11_lots 55 = .ok (.iload 5, 2) := by decide +kernel
theorem dX11_lots_57 : decode cX11_lots 57 = .ok (.iload_n 1, 1) := by decide +kernel
theorem dX11_lots_58 : decode cX11_lots 58 = .ok (.if_icmp .ge 75, 3) := by decide +kernel
theorem dX11_lots_61 : decode cX11_lots 61 = .ok (.ldc2_w 286, 3) := by decide +kernel
theorem dX11_lots_64 : decode cX11_lots 64 = .ok (.lload_n 3, 1) := by decide +kernel
theorem dX11_lots_65 : decode cX11_lots 65 = .ok (.lmul, 1) := by decide +kernel
theorem dX11_lots_66 : decode cX11_lots 66 = .ok (.ldc2_w 288, 3) := by decide +kernel
theorem dX11_lots_69 : decode cX11_lots 69 = .ok (.lrem, 1) := by decide +kernel
theorem dX11_lots_70 : decode cX11_lots 70 = .ok (.lstore_n 3, 1) := by decide +kernel
theorem dX11_lots_71 : decode cX11_lots 71 = .ok (.lload_n 3, 1) := by decide +kernel
theorem dX11_lots_72 : decode cX11_lots 72 = .ok (.aload_n 0, 1) := by decide +kernel
theorem dX11_lots_73 : decode cX11_lots 73 = .ok (.getfield 138, 3) := by decide +kernel
theorem dX11_lots_76 : decode cX11_lots 76 = .ok (.i2l, 1) := by decide +kernel
theorem dX11_lots_77 : decode cX11_lots 77 = .ok (.lrem, 1) := by decide +kernel
theorem dX11_lots_78 : decode cX11_lots 78 = .ok (.l2i, 1) := by decide +kernel
theorem dX11_lots_79 : decode cX11_lots 79 = .ok (.istore 6, 2) := by decide +kernel
theorem dX11_lots_81 : decode cX11_lots 81 = .ok (.lload_n 3, 1) := by decide +kernel
theorem dX11_lots_82 : decode cX11_lots 82 = .ok (.ldc2_w 290, 3) := by decide +kernel
theorem dX11_lots_85 : decode cX11_lots 85 = .ok (.ldiv, 1) := by decide +kernel
theorem dX11_lots_86 : decode cX11_lots 86 = .ok (.aload_n 0, 1) := by decide +kernel
theorem dX11_lots_87 : decode cX11_lots 87 = .ok (.getfield 138, 3) := by decide +kernel
theorem dX11_lots_90 : decode cX11_lots 90 = .ok (.i2l, 1) := by decide +kernel
theorem dX11_lots_91 : decode cX11_lots 91 = .ok (.lrem, 1) := by decide +kernel
theorem dX11_lots_92 : decode cX11_lots 92 = .ok (.l2i, 1) := by decide +kernel
theorem dX11_lots_93 : decode cX11_lots 93 = .ok (.istore 7, 2) := by decide +kernel
theorem dX11_lots_95 : decode cX11_lots 95 = .ok (.aload_n 0, 1) := by decide +kernel
theorem dX11_lots_96 : decode cX11_lots 96 = .ok (.iconst 0, 1) := by decide +kernel
theorem dX11_lots_97 : decode cX11_lots 97 = .ok (.iload 6, 2) := by decide +kernel
theorem dX11_lots_99 : decode cX11_lots 99 = .ok (.iload 7, 2) := by decide +kernel
theorem dX11_lots_101 : decode cX11_lots 101 = .ok (.invokevirtual 187, 3) := by decide +kernel
theorem dX11_lots_104 : decode cX11_lots 104 = .ok (.ifCond .eq 14, 3) := by decide +kernel
theorem dX11_lots_107 : decode cX11_lots 107 = .ok (.aload_n 0, 1) := by decide +kernel
theorem dX11_lots_108 : decode cX11_lots 108 = .ok (.invokevirtual 184, 3) := by decide +kernel
theorem dX11_lots_111 : decode cX11_lots 111 = .ok (.aload_n 0, 1) := by decide +kernel
theorem dX11_lots_112 : decode cX11_lots 112 = .ok (.iconst 0, 1) := by decide +kernel
theorem dX11_lots_113 : decode cX11_lots 113 = .ok (.iload 7, 2) := by decide +kernel
theorem dX11_lots_115 : decode cX11_lots 115 = .ok (.invokevirtual 190, 3) := by decide +kernel
theorem dX11_lots_118 : decode cX11_lots 118 = .ok (.aload_n 0, 1) := by decide +kernel
theorem dX11_lots_119 : decode cX11_lots 119 = .ok (.invokevirtual 184, 3) := by decide +kernel
theorem dX11_lots_122 : decode cX11_lots 122 = .ok (.aload_n 0, 1) := by decide +kernel
theorem dX11_lots_123 : decode cX11_lots 123 = .ok (.iconst 0, 1) := by decide +kernel
theorem dX11_lots_124 : decode cX11_lots 124 = .ok (.invokevirtual 197, 3) := by decide +kernel
theorem dX11_lots_127 : decode cX11_lots 127 = .ok (.iinc 5 1, 3) := by decide +kernel
theorem dX11_lots_130 : decode cX11_lots 130 = .ok (.goto (-75), 3) := by decide +kernel
theorem dX11_lots_133 : decode cX11_lots 133 = .ok (.aload_n 0, 1) := by decide +kernel
theorem dX11_lots_134 : decode cX11_lots 134 = .ok (.iconst 0, 1) := by decide +kernel
theorem dX11_lots_135 : decode cX11_lots 135 = .ok (.invokevirtual 163, 3) := by decide +kernel
theorem dX11_lots_138 : decode cX11_lots 138 = .ok (.invokestatic 194, 3) := by decide +kernel
theorem dX11_lots_141 : decode cX11_lots 141 = .ok (.ireturn, 1) := by decide +kernel
theorem dX11_counted_0 : decode cX11_counted 0 = .ok (.iconst 0, 1) := by decide +kernel
theorem dX11_counted_1 : decode cX11_counted 1 = .ok (.istore_n 2, 1) := by decide +kernel
theorem dX11_counted_2 : decode cX11_counted 2 = .ok (.iconst 0, 1) := by decide +kernel
theorem dX11_counted_3 : decode cX11_counted 3 = .ok (.istore_n 3, 1) := by decide +kernel
theorem dX11_counted_4 : decode cX11_counted 4 = .ok (.iload_n 3, 1) := by decide +kernel
theorem dX11_counted_5 : decode cX11_counted 5 = .ok (.aload_n 0, 1) := by decide +kernel
theorem dX11_counted_6 : decode cX11_counted 6 = .ok (.getfield 138, 3) := by decide +kernel
theorem dX11_counted_9 : decode cX11_counted 9 = .ok (.if_icmp .ge 56, 3) := by decide +kernel
theorem dX11_counted_12 : decode cX11_counted 12 = .ok (.iload_n 2, 1) := by decide +kernel
theorem dX11_counted_13 : decode cX11_counted 13 = .ok (.iload_n 1, 1) := by decide +kernel
theorem dX11_counted_14 : decode cX11_counted 14 = .ok (.iconst 4, 1) := by decide +kernel
theorem dX11_counted_15 : decode cX11_counted 15 = .ok (.if_icmp .ne 12, 3) := by decide +kernel
theorem dX11_counted_18 : decode cX11_counted 18 = .ok (.aload_n 0, 1) := by decide +kernel
theorem dX11_counted_19 : decode cX11_counted 19 = .ok (.getfield 51, 3) := by decide +kernel
theorem dX11_counted_22 : decode cX11_counted 22 = .ok (.iload_n 3, 1) := by decide +kernel
theorem dX11_counted_23 : decode cX11_counted 23 = .ok (.iaload, 1) := by decide +kernel
theorem dX11_counted_24 : decode cX11_counted 24 = .ok (.goto 33, 3) := by decide +kernel
theorem dX11_counted_27 : decode cX11_counted 27 = .ok (.iload_n 1, 1) := by decide +kernel
theorem dX11_counted_28 : decode cX11_counted 28 = .ok (.iconst 5, 1) := by decide +kernel
theorem dX11_counted_29 : decode cX11_counted 29 = .ok (.if_icmp .ne 27, 3) := by decide +kernel
theorem dX11_counted_32 : decode cX11_counted 32 = .ok (.aload_n 0, 1) := by decide +kernel
theorem dX11_counted_33 : decode cX11_counted 33 = .ok (.getfield 36, 3) := by decide +kernel
theorem dX11_counted_36 : decode cX11_counted 36 = .ok (.iload_n 3, 1) := by decide +kernel
theorem dX11_counted_37 : decode cX11_counted 37 = .ok (.iaload, 1) := by decide +kernel
theorem dX11_counted_38 : decode cX11_counted 38 = .ok (.iconst 1, 1) := by decide +kernel
theorem dX11_counted_39 : decode cX11_counted 39 = .ok (.if_icmp .eq 13, 3) := by decide +kernel
theorem dX11_counted_42 : decode cX11_counted 42 = .ok (.aload_n 0, 1) := by decide +kernel
theorem dX11_counted_43 : decode cX11_counted 43 = .ok (.getfield 36, 3) := by decide +kernel
theorem dX11_counted_46 : decode cX11_counted 46 = .ok (.iload_n 3, 1) := by decide +kernel
theorem dX11_counted_47 : decode cX11_counted 47 = .ok (.iaload, 1) := by decide +kernel
theorem dX11_counted_48 : decode cX11_counted 48 = .ok (.iconst 4, 1) := by decide +kernel
theorem dX11_counted_49 : decode cX11_counted 49 = .ok (.if_icmp .ne 7, 3) := by decide +kernel
theorem dX11_counted_52 : decode cX11_counted 52 = .ok (.iconst 1, 1) := by decide +kernel
theorem dX11_counted_53 : decode cX11_counted 53 = .ok (.goto 4, 3) := by decide +kernel
theorem dX11_counted_56 : decode cX11_counted 56 = .ok (.iconst 0, 1) := by decide +kernel
theorem dX11_counted_57 : decode cX11_counted 57 = .ok (.iadd, 1) := by decide +kernel
theorem dX11_counted_58 : decode cX11_counted 58 = .ok (.istore_n 2, 1) := by decide +kernel
theorem dX11_counted_59 : decode cX11_counted 59 = .ok (.iinc 3 1, 3) := by decide +kernel
theorem dX11_counted_62 : decode cX11_counted 62 = .ok (.goto (-58), 3) := by decide +kernel
theorem dX11_counted_65 : decode cX11_counted 65 = .ok (.iconst 0, 1) := by decide +kernel
theorem dX11_counted_66 : decode cX11_counted 66 = .ok (.istore_n 3, 1) := by decide +kernel
theorem dX11_counted_67 : decode cX11_counted 67 = .ok (.iload_n 3, 1) := by decide +kernel
theorem dX11_counted_68 : decode cX11_counted 68 = .ok (.bipush 6, 2) := by decide +kernel
theorem dX11_counted_70 : decode cX11_counted 70 = .ok (.if_icmp .ge 32, 3) := by decide +kernel
theorem dX11_counted_73 : decode cX11_counted 73 = .ok (.iload_n 2, 1) := by decide +kernel
theorem dX11_counted_74 : decode cX11_counted 74 = .ok (.iload_n 1, 1) := by decide +kernel
theorem dX11_counted_75 : decode cX11_counted 75 = .ok (.bipush 6, 2) := by decide +kernel
theorem dX11_counted_77 : decode cX11_counted 77 = .ok (.if_icmp .ne 16, 3) := by decide +kernel
theorem dX11_counted_80 : decode cX11_counted 80 = .ok (.aload_n 0, 1) := by decide +kernel
theorem dX11_counted_81 : decode cX11_counted 81 = .ok (.getfield 17, 3) := by decide +kernel
theorem dX11_counted_84 : decode cX11_counted 84 = .ok (.iload_n 3, 1) := by decide +kernel
theorem dX11_counted_85 : decode cX11_counted 85 = .ok (.iaload, 1) := by decide +kernel
theorem dX11_counted_86 : decode cX11_counted 86 = .ok (.ifCond .lt 7, 3) := by decide +kernel
theorem dX11_counted_89 : decode cX11_counted 89 = .ok (.iconst 1, 1) := by decide +kernel
theorem dX11_counted_90 : decode cX11_counted 90 = .ok (.goto 4, 3) := by decide +kernel
theorem dX11_counted_93 : decode cX11_counted 93 = .ok (.iconst 0, 1) := by decide +kernel
theorem dX11_counted_94 : decode cX11_counted 94 = .ok (.iadd, 1) := by decide +kernel
theorem dX11_counted_95 : decode cX11_counted 95 = .ok (.istore_n 2, 1) := by decide +kernel
theorem dX11_counted_96 : decode cX11_counted 96 = .ok (.iinc 3 1, 3) := by decide +kernel
theorem dX11_counted_99 : decode cX11_counted 99 = .ok (.goto (-32), 3) := by decide +kernel
theorem dX11_counted_102 : decode cX11_counted 102 = .ok (.iconst 0, 1) := by decide +kernel
theorem dX11_counted_103 : decode cX11_counted 103 = .ok (.istore_n 3, 1) := by decide +kernel
theorem dX11_counted_104 : decode cX11_counted 104 = .ok (.iload_n 3, 1) := by decide +kernel
theorem dX11_counted_105 : decode cX11_counted 105 = .ok (.iconst 4, 1) := by decide +kernel
theorem dX11_counted_106 : decode cX11_counted 106 = .ok (.if_icmp .ge 32, 3) := by decide +kernel
theorem dX11_counted_109 : decode cX11_counted 109 = .ok (.iload_n 2, 1) := by decide +kernel
theorem dX11_counted_110 : decode cX11_counted 110 = .ok (.iload_n 1, 1) := by decide +kernel
theorem dX11_counted_111 : decode cX11_counted 111 = .ok (.bipush 7, 2) := by decide +kernel
theorem dX11_counted_113 : decode cX11_counted 113 = .ok (.if_icmp .ne 16, 3) := by decide +kernel
theorem dX11_counted_116 : decode cX11_counted 116 = .ok (.aload_n 0, 1) := by decide +kernel
theorem dX11_counted_117 : decode cX11_counted 117 = .ok (.getfield 26, 3) := by decide +kernel
theorem dX11_counted_120 : decode cX11_counted 120 = .ok (.iload_n 3, 1) := by decide +kernel
theorem dX11_counted_121 : decode cX11_counted 121 = .ok (.iaload, 1) := by decide +kernel
theorem dX11_counted_122 : decode cX11_counted 122 = .ok (.ifCond .lt 7, 3) := by decide +kernel
theorem dX11_counted_125 : decode cX11_counted 125 = .ok (.iconst 1, 1) := by decide +kernel
theorem dX11_counted_126 : decode cX11_counted 126 = .ok (.goto 4, 3) := by decide +kernel
theorem dX11_counted_129 : decode cX11_counted 129 = .ok (.iconst 0, 1) := by decide +kernel
theorem dX11_counted_130 : decode cX11_counted 130 = .ok (.iadd, 1) := by decide +kernel
theorem dX11_counted_131 : decode cX11_counted 131 = .ok (.istore_n 2, 1) := by decide +kernel
theorem dX11_counted_132 : decode cX11_counted 132 = .ok (.iinc 3 1, 3) := by decide +kernel
theorem dX11_counted_135 : decode cX11_counted 135 = .ok (.goto (-31), 3) := by decide +kernel
theorem dX11_counted_138 : decode cX11_counted 138 = .ok (.iconst 0, 1) := by decide +kernel
theorem dX11_counted_139 : decode cX11_counted 139 = .ok (.istore_n 3, 1) := by decide +kernel
theorem dX11_counted_140 : decode cX11_counted 140 = .ok (.iload_n 3, 1) := by decide +kernel
theorem dX11_counted_141 : decode cX11_counted 141 = .ok (.iconst 3, 1) := by decide +kernel
theorem dX11_counted_142 : decode cX11_counted 142 = .ok (.if_icmp .ge 32, 3) := by decide +kernel
theorem dX11_counted_145 : decode cX11_counted 145 = .ok (.iload_n 2, 1) := by decide +kernel
theorem dX11_counted_146 : decode cX11_counted 146 = .ok (.iload_n 1, 1) := by decide +kernel
theorem dX11_counted_147 : decode cX11_counted 147 = .ok (.bipush 8, 2) := by decide +kernel
theorem dX11_counted_149 : decode cX11_counted 149 = .ok (.if_icmp .ne 16, 3) := by decide +kernel
theorem dX11_counted_152 : decode cX11_counted 152 = .ok (.aload_n 0, 1) := by decide +kernel
theorem dX11_counted_153 : decode cX11_counted 153 = .ok (.getfield 57, 3) := by decide +kernel
theorem dX11_counted_156 : decode cX11_counted 156 = .ok (.iload_n 3, 1) := by decide +kernel
theorem dX11_counted_157 : decode cX11_counted 157 = .ok (.baload, 1) := by decide +kernel
theorem dX11_counted_158 : decode cX11_counted 158 = .ok (.ifCond .eq 7, 3) := by decide +kernel
theorem dX11_counted_161 : decode cX11_counted 161 = .ok (.iconst 1, 1) := by decide +kernel
theorem dX11_counted_162 : decode cX11_counted 162 = .ok (.goto 4, 3) := by decide +kernel
theorem dX11_counted_165 : decode cX11_counted 165 = .ok (.iconst 0, 1) := by decide +kernel
theorem dX11_counted_166 : decode cX11_counted 166 = .ok (.iadd, 1) := by decide +kernel
theorem dX11_counted_167 : decode cX11_counted 167 = .ok (.istore_n 2, 1) := by decide +kernel
theorem dX11_counted_168 : decode cX11_counted 168 = .ok (.iinc 3 1, 3) := by decide +kernel
theorem dX11_counted_171 : decode cX11_counted 171 = .ok (.goto (-31), 3) := by decide +kernel
theorem dX11_counted_174 : decode cX11_counted 174 = .ok (.iload_n 1, 1) := by decide +kernel
theorem dX11_counted_175 : decode cX11_counted 175 = .ok (.tableswitch 55 0 3 #[29, 34, 42, 50], 29) := by decide +kernel
theorem dX11_counted_204 : decode cX11_counted 204 = .ok (.aload_n 0, 1) := by decide +kernel
theorem dX11_counted_205 : decode cX11_counted 205 = .ok (.getfield 138, 3) := by decide +kernel
theorem dX11_counted_208 : decode cX11_counted 208 = .ok (.ireturn, 1) := by decide +kernel
theorem dX11_counted_209 : decode cX11_counted 209 = .ok (.aload_n 0, 1) := by decide +kernel
theorem dX11_counted_210 : decode cX11_counted 210 = .ok (.getfield 51, 3) := by decide +kernel
theorem dX11_counted_213 : decode cX11_counted 213 = .ok (.bipush 15, 2) := by decide +kernel
theorem dX11_counted_215 : decode cX11_counted 215 = .ok (.iaload, 1) := by decide +kernel
theorem dX11_counted_216 : decode cX11_counted 216 = .ok (.ireturn, 1) := by decide +kernel
theorem dX11_counted_217 : decode cX11_counted 217 = .ok (.aload_n 0, 1) := by decide +kernel
theorem dX11_counted_218 : decode cX11_counted 218 = .ok (.getfield 51, 3) := by decide +kernel
theorem dX11_counted_221 : decode cX11_counted 221 = .ok (.bipush 16, 2) := by decide +kernel
theorem dX11_counted_223 : decode cX11_counted 223 = .ok (.iaload, 1) := by decide +kernel
theorem dX11_counted_224 : decode cX11_counted 224 = .ok (.ireturn, 1) := by decide +kernel
theorem dX11_counted_225 : decode cX11_counted 225 = .ok (.aload_n 0, 1) := by decide +kernel
theorem dX11_counted_226 : decode cX11_counted 226 = .ok (.getfield 144, 3) := by decide +kernel
theorem dX11_counted_229 : decode cX11_counted 229 = .ok (.ireturn, 1) := by decide +kernel
theorem dX11_counted_230 : decode cX11_counted 230 = .ok (.iload_n 2, 1) := by decide +kernel
theorem dX11_counted_231 : decode cX11_counted 231 = .ok (.ireturn, 1) := by decide +kernel
theorem dX11_count_0 : decode cX11_count 0 = .ok (.iload_n 1, 1) := by decide +kernel
theorem dX11_count_1 : decode cX11_count 1 = .ok (.iconst 0, 1) := by decide +kernel
theorem dX11_count_2 : decode cX11_count 2 = .ok (.bipush 8, 2) := by decide +kernel
theorem dX11_count_4 : decode cX11_count 4 = .ok (.invokestatic 83, 3) := by decide +kernel
theorem dX11_count_7 : decode cX11_count 7 = .ok (.ifCond .eq 11, 3) := by decide +kernel
theorem dX11_count_10 : decode cX11_count 10 = .ok (.aload_n 0, 1) := by decide +kernel
theorem dX11_count_11 : decode cX11_count 11 = .ok (.iload_n 1, 1) := by decide +kernel
theorem dX11_count_12 : decode cX11_count 12 = .ok (.invokevirtual 292, 3) := by decide +kernel
theorem dX11_count_15 : decode cX11_count 15 = .ok (.goto 4, 3) := by decide +kernel
theorem dX11_count_18 : decode cX11_count 18 = .ok (.iconst (-1), 1) := by decide +kernel
theorem dX11_count_19 : decode cX11_count 19 = .ok (.ireturn, 1) := by decide +kernel
theorem dX11_mix_0 : decode cX11_mix 0 = .ok (.aload_n 0, 1) := by decide +kernel
theorem dX11_mix_1 : decode cX11_mix 1 = .ok (.ldc2_w 295, 3) := by decide +kernel
theorem dX11_mix_4 : decode cX11_mix 4 = .ok (.aload_n 0, 1) := by decide +kernel
theorem dX11_mix_5 : decode cX11_mix 5 = .ok (.getfield 297, 3) := by decide +kernel
theorem dX11_mix_8 : decode cX11_mix 8 = .ok (.lmul, 1) := by decide +kernel
theorem dX11_mix_9 : decode cX11_mix 9 = .ok (.lload_n 1, 1) := by decide +kernel
theorem dX11_mix_10 : decode cX11_mix 10 = .ok (.ladd, 1) := by decide +kernel
theorem dX11_mix_11 : decode cX11_mix 11 = .ok (.putfield 297, 3) := by decide +kernel
theorem dX11_mix_14 : decode cX11_mix 14 = .ok (.return_, 1) := by decide +kernel
theorem dX11_mixVillage_0 : decode cX11_mixVillage 0 = .ok (.iconst 0, 1) := by decide +kernel
theorem dX11_mixVillage_1 : decode cX11_mixVillage 1 = .ok (.istore_n 1, 1) := by decide +kernel
theorem dX11_mixVillage_2 : decode cX11_mixVillage 2 = .ok (.iload_n 1, 1) := by decide +kernel
theorem dX11_mixVillage_3 : decode cX11_mixVillage 3 = .ok (.aload_n 0, 1) := by decide +kernel
theorem dX11_mixVillage_4 : decode cX11_mixVillage 4 = .ok (.getfield 138, 3) := by decide +kernel
theorem dX11_mixVillage_7 : decode cX11_mixVillage 7 = .ok (.if_icmp .ge 34, 3) := by decide +kernel
theorem dX11_mixVillage_10 : decode cX11_mixVillage 10 = .ok (.iconst 0, 1) := by decide +kernel
theorem dX11_mixVillage_11 : decode cX11_mixVillage 11 = .ok (.istore_n 2, 1) := by decide +kernel
theorem dX11_mixVillage_12 : decode cX11_mixVillage 12 = .ok (.iload_n 2, 1) := by decide +kernel
theorem dX11_mixVillage_13 : decode cX11_mixVillage 13 = .ok (.bipush 6, 2) := by decide +kernel
theorem dX11_mixVillage_15 : decode cX11_mixVillage 15 = .ok (.if_icmp .ge 20, 3) := by decide +kernel
theorem dX11_mixVillage_18 : decode cX11_mixVillage 18 = .ok (.aload_n 0, 1) := by decide +kernel
theorem dX11_mixVillage_19 : decode cX11_mixVillage 19 = .ok (.aload_n 0, 1) := by decide +kernel
theorem dX11_mixVillage_20 : decode cX11_mixVillage 20 = .ok (.iload_n 1, 1) := by decide +kernel
theorem dX11_mixVillage_21 : decode cX11_mixVillage 21 = .ok (.iload_n 2, 1) := by decide +kernel
theorem dX11_mixVillage_22 : decode cX11_mixVillage 22 = .ok (.invokevirtual 175, 3) := by decide +kernel
theorem dX11_mixVillage_25 : decode cX11_mixVillage 25 = .ok (.i2l, 1) := by decide +kernel
theorem dX11_mixVillage_26 : decode cX11_mixVillage 26 = .ok (.invokevirtual 300, 3) := by decide +kernel
theorem dX11_mixVillage_29 : decode cX11_mixVillage 29 = .ok (.iinc 2 1, 3) := by decide +kernel
theorem dX11_mixVillage_32 : decode cX11_mixVillage 32 = .ok (.goto (-20), 3) := by decide +kernel
theorem dX11_mixVillage_35 : decode cX11_mixVillage 35 = .ok (.iinc 1 1, 3) := by decide +kernel
theorem dX11_mixVillage_38 : decode cX11_mixVillage 38 = .ok (.goto (-36), 3) := by decide +kernel
theorem dX11_mixVillage_41 : decode cX11_mixVillage 41 = .ok (.iconst 0, 1) := by decide +kernel
theorem dX11_mixVillage_42 : decode cX11_mixVillage 42 = .ok (.istore_n 1, 1) := by decide +kernel
theorem dX11_mixVillage_43 : decode cX11_mixVillage 43 = .ok (.iload_n 1, 1) := by decide +kernel
theorem dX11_mixVillage_44 : decode cX11_mixVillage 44 = .ok (.iconst 3, 1) := by decide +kernel
theorem dX11_mixVillage_45 : decode cX11_mixVillage 45 = .ok (.if_icmp .ge 35, 3) := by decide +kernel
theorem dX11_mixVillage_48 : decode cX11_mixVillage 48 = .ok (.aload_n 0, 1) := by decide +kernel
theorem dX11_mixVillage_49 : decode cX11_mixVillage 49 = .ok (.aload_n 0, 1) := by decide +kernel
theorem dX11_mixVillage_50 : decode cX11_mixVillage 50 = .ok (.getfield 57, 3) := by decide +kernel
theorem dX11_mixVillage_53 : decode cX11_mixVillage 53 = .ok (.iload_n 1, 1) := by decide +kernel
theorem dX11_mixVillage_54 : decode cX11_mixVillage 54 = .ok (.baload, 1) := by decide +kernel
theorem dX11_mixVillage_55 : decode cX11_mixVillage 55 = .ok (.ifCond .eq 13, 3) := by decide +kernel
theorem dX11_mixVillage_58 : decode cX11_mixVillage 58 = .ok (.aload_n 0, 1) := by decide +kernel
theorem dX11_mixVillage_59 : decode cX11_mixVillage 59 = .ok (.getfield 61, 3) := by decide +kernel
theorem dX11_mixVillage_62 : decode cX11_mixVillage 62 = .ok (.iload_n 1, 1) := by decide +kernel
theorem dX11_mixVillage_63 : decode cX11_mixVillage 63 = .ok (.iaload, 1) := by decide +kernel
theorem dX11_mixVillage_64 : decode cX11_mixVillage 64 = .ok (.i2l, 1) := by decide +kernel
theorem dX11_mixVillage_65 : decode cX11_mixVillage 65 = .ok (.goto 6, 3) := by decide +kernel
theorem dX11_mixVillage_68 : decode cX11_mixVillage 68 = .ok (.ldc2_w 304, 3) := by decide +kernel
theorem dX11_mixVillage_71 : decode cX11_mixVillage 71 = .ok (.invokevirtual 300, 3) := by decide +kernel
theorem dX11_mixVillage_74 : decode cX11_mixVillage 74 = .ok (.iinc 1 1, 3) := by decide +kernel
theorem dX11_mixVillage_77 : decode cX11_mixVillage 77 = .ok (.goto (-34), 3) := by decide +kernel
theorem dX11_mixVillage_80 : decode cX11_mixVillage 80 = .ok (.return_, 1) := by decide +kernel
theorem dX11_digest_0 : decode cX11_digest 0 = .ok (.aload_n 0, 1) := by decide +kernel
theorem dX11_digest_1 : decode cX11_digest 1 = .ok (.ldc2_w 306, 3) := by decide +kernel
theorem dX11_digest_4 : decode cX11_digest 4 = .ok (.putfield 297, 3) := by decide +kernel
theorem dX11_digest_7 : decode cX11_digest 7 = .ok (.iconst 0, 1) := by decide +kernel
theorem dX11_digest_8 : decode cX11_digest 8 = .ok (.istore_n 1, 1) := by decide +kernel
theorem dX11_digest_9 : decode cX11_digest 9 = .ok (.iload_n 1, 1) := by decide +kernel
theorem dX11_digest_10 : decode cX11_digest 10 = .ok (.bipush 9, 2) := by decide +kernel
theorem dX11_digest_12 : decode cX11_digest 12 = .ok (.if_icmp .ge 19, 3) := by decide +kernel
theorem dX11_digest_15 : decode cX11_digest 15 = .ok (.aload_n 0, 1) := by decide +kernel
theorem dX11_digest_16 : decode cX11_digest 16 = .ok (.aload_n 0, 1) := by decide +kernel
theorem dX11_digest_17 : decode cX11_digest 17 = .ok (.iload_n 1, 1) := by decide +kernel
theorem dX11_digest_18 : decode cX11_digest 18 = .ok (.invokevirtual 292, 3) := by decide +kernel
theorem dX11_digest_21 : decode cX11_digest 21 = .ok (.i2l, 1) := by decide +kernel
theorem dX11_digest_22 : decode cX11_digest 22 = .ok (.invokevirtual 300, 3) := by decide +kernel
theorem dX11_digest_25 : decode cX11_digest 25 = .ok (.iinc 1 1, 3) := by decide +kernel
theorem dX11_digest_28 : decode cX11_digest 28 = .ok (.goto (-19), 3) := by decide +kernel
theorem dX11_digest_31 : decode cX11_digest 31 = .ok (.aload_n 0, 1) := by decide +kernel
theorem dX11_digest_32 : decode cX11_digest 32 = .ok (.invokevirtual 308, 3) := by decide +kernel
theorem dX11_digest_35 : decode cX11_digest 35 = .ok (.iconst 0, 1) := by decide +kernel
theorem dX11_digest_36 : decode cX11_digest 36 = .ok (.istore_n 1, 1) := by decide +kernel
theorem dX11_digest_37 : decode cX11_digest 37 = .ok (.iload_n 1, 1) := by decide +kernel
theorem dX11_digest_38 : decode cX11_digest 38 = .ok (.bipush 6, 2) := by decide +kernel
theorem dX11_digest_40 : decode cX11_digest 40 = .ok (.if_icmp .ge 49, 3) := by decide +kernel
theorem dX11_digest_43 : decode cX11_digest 43 = .ok (.aload_n 0, 1) := by decide +kernel
theorem dX11_digest_44 : decode cX11_digest 44 = .ok (.aload_n 0, 1) := by decide +kernel
theorem dX11_digest_45 : decode cX11_digest 45 = .ok (.getfield 17, 3) := by decide +kernel
theorem dX11_digest_48 : decode cX11_digest 48 = .ok (.iload_n 1, 1) := by decide +kernel
theorem dX11_digest_49 : decode cX11_digest 49 = .ok (.iaload, 1) := by decide +kernel
theorem dX11_digest_50 : decode cX11_digest 50 = .ok (.i2l, 1) := by decide +kernel
theorem dX11_digest_51 : decode cX11_digest 51 = .ok (.invokevirtual 300, 3) := by decide +kernel
theorem dX11_digest_54 : decode cX11_digest 54 = .ok (.iconst 0, 1) := by decide +kernel
theorem dX11_digest_55 : decode cX11_digest 55 = .ok (.istore_n 2, 1) := by decide +kernel
theorem dX11_digest_56 : decode cX11_digest 56 = .ok (.iload_n 2, 1) := by decide +kernel
theorem dX11_digest_57 : decode cX11_digest 57 = .ok (.aload_n 0, 1) := by decide +kernel
theorem dX11_digest_58 : decode cX11_digest 58 = .ok (.getfield 17, 3) := by decide +kernel
theorem dX11_digest_61 : decode cX11_digest 61 = .ok (.iload_n 1, 1) := by decide +kernel
theorem dX11_digest_62 : decode cX11_digest 62 = .ok (.iaload, 1) := by decide +kernel
theorem dX11_digest_63 : decode cX11_digest 63 = .ok (.if_icmp .ge 20, 3) := by decide +kernel
theorem dX11_digest_66 : decode cX11_digest 66 = .ok (.aload_n 0, 1) := by decide +kernel
theorem dX11_digest_67 : decode cX11_digest 67 = .ok (.aload_n 0, 1) := by decide +kernel
theorem dX11_digest_68 : decode cX11_digest 68 = .ok (.iload_n 1, 1) := by decide +kernel
theorem dX11_digest_69 : decode cX11_digest 69 = .ok (.iload_n 2, 1) := by decide +kernel
theorem dX11_digest_70 : decode cX11_digest 70 = .ok (.invokevirtual 101, 3) := by decide +kernel
theorem dX11_digest_73 : decode cX11_digest 73 = .ok (.i2l, 1) := by decide +kernel
theorem dX11_digest_74 : decode cX11_digest 74 = .ok (.invokevirtual 300, 3) := by decide +kernel
theorem dX11_digest_77 : decode cX11_digest 77 = .ok (.iinc 2 1, 3) := by decide +kernel
theorem dX11_digest_80 : decode cX11_digest 80 = .ok (.goto (-24), 3) := by decide +kernel
theorem dX11_digest_83 : decode cX11_digest 83 = .ok (.iinc 1 1, 3) := by decide +kernel
theorem dX11_digest_86 : decode cX11_digest 86 = .ok (.goto (-49), 3) := by decide +kernel
theorem dX11_digest_89 : decode cX11_digest 89 = .ok (.iconst 0, 1) := by decide +kernel
theorem dX11_digest_90 : decode cX11_digest 90 = .ok (.istore_n 1, 1) := by decide +kernel
theorem dX11_digest_91 : decode cX11_digest 91 = .ok (.iload_n 1, 1) := by decide +kernel
theorem dX11_digest_92 : decode cX11_digest 92 = .ok (.iconst 4, 1) := by decide +kernel
theorem dX11_digest_93 : decode cX11_digest 93 = .ok (.if_icmp .ge 49, 3) := by decide +kernel
theorem dX11_digest_96 : decode cX11_digest 96 = .ok (.aload_n 0, 1) := by decide +kernel
theorem dX11_digest_97 : decode cX11_digest 97 = .ok (.aload_n 0, 1) := by decide +kernel
theorem dX11_digest_98 : decode cX11_digest 98 = .ok (.getfield 26, 3) := by decide +kernel
theorem dX11_digest_101 : decode cX11_digest 101 = .ok (.iload_n 1, 1) := by decide +kernel
theorem dX11_digest_102 : decode cX11_digest 102 = .ok (.iaload, 1) := by decide +kernel
theorem dX11_digest_103 : decode cX11_digest 103 = .ok (.i2l, 1) := by decide +kernel
theorem dX11_digest_104 : decode cX11_digest 104 = .ok (.invokevirtual 300, 3) := by decide +kernel
theorem dX11_digest_107 : decode cX11_digest 107 = .ok (.iconst 0, 1) := by decide +kernel
theorem dX11_digest_108 : decode cX11_digest 108 = .ok (.istore_n 2, 1) := by decide +kernel
theorem dX11_digest_109 : decode cX11_digest 109 = .ok (.iload_n 2, 1) := by decide +kernel
theorem dX11_digest_110 : decode cX11_digest 110 = .ok (.aload_n 0, 1) := by decide +kernel
theorem dX11_digest_111 : decode cX11_digest 111 = .ok (.getfield 26, 3) := by decide +kernel
theorem dX11_digest_114 : decode cX11_digest 114 = .ok (.iload_n 1, 1) := by decide +kernel
theorem dX11_digest_115 : decode cX11_digest 115 = .ok (.iaload, 1) := by decide +kernel
theorem dX11_digest_116 : decode cX11_digest 116 = .ok (.if_icmp .ge 20, 3) := by decide +kernel
theorem dX11_digest_119 : decode cX11_digest 119 = .ok (.aload_n 0, 1) := by decide +kernel
theorem dX11_digest_120 : decode cX11_digest 120 = .ok (.aload_n 0, 1) := by decide +kernel
theorem dX11_digest_121 : decode cX11_digest 121 = .ok (.iload_n 1, 1) := by decide +kernel
theorem dX11_digest_122 : decode cX11_digest 122 = .ok (.iload_n 2, 1) := by decide +kernel
theorem dX11_digest_123 : decode cX11_digest 123 = .ok (.invokevirtual 114, 3) := by decide +kernel
theorem dX11_digest_126 : decode cX11_digest 126 = .ok (.i2l, 1) := by decide +kernel
theorem dX11_digest_127 : decode cX11_digest 127 = .ok (.invokevirtual 300, 3) := by decide +kernel
theorem dX11_digest_130 : decode cX11_digest 130 = .ok (.iinc 2 1, 3) := by decide +kernel
theorem dX11_digest_133 : decode cX11_digest 133 = .ok (.goto (-24), 3) := by decide +kernel
theorem dX11_digest_136 : decode cX11_digest 136 = .ok (.iinc 1 1, 3) := by decide +kernel
theorem dX11_digest_139 : decode cX11_digest 139 = .ok (.goto (-48), 3) := by decide +kernel
theorem dX11_digest_142 : decode cX11_digest 142 = .ok (.aload_n 0, 1) := by decide +kernel
theorem dX11_digest_143 : decode cX11_digest 143 = .ok (.getfield 297, 3) := by decide +kernel
theorem dX11_digest_146 : decode cX11_digest 146 = .ok (.lreturn, 1) := by decide +kernel
end
section
theorem dL_law_0 : decode cL_law 0 = .ok (.new 7, 3) := by decide +kernel
theorem dL_law_3 : decode cL_law 3 = .ok (.dup, 1) := by decide +kernel
theorem dL_law_4 : decode cL_law 4 = .ok (.invokespecial 9, 3) := by decide +kernel
theorem dL_law_7 : decode cL_law 7 = .ok (.astore_n 1, 1) := by decide +kernel
theorem dL_law_8 : decode cL_law 8 = .ok (.new 10, 3) := by decide +kernel
theorem dL_law_11 : decode cL_law 11 = .ok (.dup, 1) := by decide +kernel
theorem dL_law_12 : decode cL_law 12 = .ok (.invokespecial 12, 3) := by decide +kernel
theorem dL_law_15 : decode cL_law 15 = .ok (.astore_n 2, 1) := by decide +kernel
theorem dL_law_16 : decode cL_law 16 = .ok (.iconst 0, 1) := by decide +kernel
theorem dL_law_17 : decode cL_law 17 = .ok (.istore_n 3, 1) := by decide +kernel
theorem dL_law_18 : decode cL_law 18 = .ok (.iload_n 3, 1) := by decide +kernel
theorem dL_law_19 : decode cL_law 19 = .ok (.aload_n 0, 1) := by decide +kernel
theorem dL_law_20 : decode cL_law 20 = .ok (.arraylength, 1) := by decide +kernel
theorem dL_law_21 : decode cL_law 21 = .ok (.bipush 6, 2) := by decide +kernel
theorem dL_law_23 : decode cL_law 23 = .ok (.isub, 1) := by decide +kernel
theorem dL_law_24 : decode cL_law 24 = .ok (.if_icmp .gt 1371, 3) := by decide +kernel
theorem dL_law_27 : decode cL_law 27 = .ok (.aload_n 0, 1) := by decide +kernel
theorem dL_law_28 : decode cL_law 28 = .ok (.iload_n 3, 1) := by decide +kernel
theorem dL_law_29 : decode cL_law 29 = .ok (.iaload, 1) := by decide +kernel
theorem dL_law_30 : decode cL_law 30 = .ok (.bipush 63, 2) := by decide +kernel
theorem dL_law_32 : decode cL_law 32 = .ok (.iand, 1) := by decide +kernel
theorem dL_law_33 : decode cL_law 33 = .ok (.tableswitch 1356 0 43 #[191, 224, 267, 300, 323, 386, 409, 442, 485, 508, 531, 564, 587, 620, 653, 676, 709, 722, 745, 768, 791, 804, 817, 840, 853, 876, 899, 942, 975, 1008, 1041, 1064, 1077, 1100, 1133, 1166, 1209, 1242, 1255, 1269, 1283, 1306, 1319, 1342], 191) := by decide +kernel
theorem dL_law_224 : decode cL_law 224 = .ok (.aload_n 1, 1) := by decide +kernel
theorem dL_law_225 : decode cL_law 225 = .ok (.aload_n 0, 1) := by decide +kernel
theorem dL_law_226 : decode cL_law 226 = .ok (.iload_n 3, 1) := by decide +kernel
theorem dL_law_227 : decode cL_law 227 = .ok (.iconst 1, 1) := by decide +kernel
theorem dL_law_228 : decode cL_law 228 = .ok (.iadd, 1) := by decide +kernel
theorem dL_law_229 : decode cL_law 229 = .ok (.iaload, 1) := by decide +kernel
theorem dL_law_230 : decode cL_law 230 = .ok (.aload_n 0, 1) := by decide +kernel
theorem dL_law_231 : decode cL_law 231 = .ok (.iload_n 3, 1) := by decide +kernel
theorem dL_law_232 : decode cL_law 232 = .ok (.iconst 2, 1) := by decide +kernel
theorem dL_law_233 : decode cL_law 233 = .ok (.iadd, 1) := by decide +kernel
theorem dL_law_234 : decode cL_law 234 = .ok (.iaload, 1) := by decide +kernel
theorem dL_law_235 : decode cL_law 235 = .ok (.invokevirtual 13, 3) := by decide +kernel
theorem dL_law_238 : decode cL_law 238 = .ok (.aload_n 2, 1) := by decide +kernel
theorem dL_law_239 : decode cL_law 239 = .ok (.aload_n 0, 1) := by decide +kernel
theorem dL_law_240 : decode cL_law 240 = .ok (.iload_n 3, 1) := by decide +kernel
theorem dL_law_241 : decode cL_law 241 = .ok (.iconst 1, 1) := by decide +kernel
theorem dL_law_242 : decode cL_law 242 = .ok (.iadd, 1) := by decide +kernel
theorem dL_law_243 : decode cL_law 243 = .ok (.iaload, 1) := by decide +kernel
theorem dL_law_244 : decode cL_law 244 = .ok (.aload_n 0, 1) := by decide +kernel
theorem dL_law_245 : decode cL_law 245 = .ok (.iload_n 3, 1) := by decide +kernel
theorem dL_law_246 : decode cL_law 246 = .ok (.iconst 2, 1) := by decide +kernel
theorem dL_law_247 : decode cL_law 247 = .ok (.iadd, 1) := by decide +kernel
theorem dL_law_248 : decode cL_law 248 = .ok (.iaload, 1) := by decide +kernel
theorem dL_law_249 : decode cL_law 249 = .ok (.invokevirtual 17, 3) := by decide +kernel
theorem dL_law_252 : decode cL_law 252 = .ok (.if_icmp .eq 1137, 3) := by decide +kernel
theorem dL_law_255 : decode cL_law 255 = .ok (.iconst 0, 1) := by decide +kernel
theorem dL_law_256 : decode cL_law 256 = .ok (.ireturn, 1) := by decide +kernel
theorem dL_law_257 : decode cL_law 257 = .ok (.aload_n 1, 1) := by decide +kernel
theorem dL_law_258 : decode cL_law 258 = .ok (.aload_n 0, 1) := by decide +kernel
theorem dL_law_259 : decode cL_law 259 = .ok (.iload_n 3, 1) := by decide +kernel
theorem dL_law_260 : decode cL_law 260 = .ok (.iconst 1, 1) := by decide +kernel
theorem dL_law_261 : decode cL_law 261 = .ok (.iadd, 1) := by decide +kernel
theorem dL_law_262 : decode cL_law 262 = .ok (.iaload, 1) := by decide +kernel
theorem dL_law_263 : decode cL_law 263 = .ok (.aload_n 0, 1) := by decide +kernel
theorem dL_law_264 : decode cL_law 264 = .ok (.iload_n 3, 1) := by decide +kernel
theorem dL_law_265 : decode cL_law 265 = .ok (.iconst 2, 1) := by decide +kernel
theorem dL_law_266 : decode cL_law 266 = .ok (.iadd, 1) := by decide +kernel
theorem dL_law_267 : decode cL_law 267 = .ok (.iaload, 1) := by decide +kernel
theorem dL_law_268 : decode cL_law 268 = .ok (.aload_n 0, 1) := by decide +kernel
theorem dL_law_269 : decode cL_law 269 = .ok (.iload_n 3, 1) := by decide +kernel
theorem dL_law_270 : decode cL_law 270 = .ok (.iconst 3, 1) := by decide +kernel
theorem dL_law_271 : decode cL_law 271 = .ok (.iadd, 1) := by decide +kernel
theorem dL_law_272 : decode cL_law 272 = .ok (.iaload, 1) := by decide +kernel
theorem dL_law_273 : decode cL_law 273 = .ok (.invokevirtual 18, 3) := by decide +kernel
theorem dL_law_276 : decode cL_law 276 = .ok (.aload_n 2, 1) := by decide +kernel
theorem dL_law_277 : decode cL_law 277 = .ok (.aload_n 0, 1) := by decide +kernel
theorem dL_law_278 : decode cL_law 278 = .ok (.iload_n 3, 1) := by decide +kernel
theorem dL_law_279 : decode cL_law 279 = .ok (.iconst 1, 1) := by decide +kernel
theorem dL_law_280 : decode cL_law 280 = .ok (.iadd, 1) := by decide +kernel
theorem dL_law_281 : decode cL_law 281 = .ok (.iaload, 1) := by decide +kernel
theorem dL_law_282 : decode cL_law 282 = .ok (.aload_n 0, 1) := by decide +kernel
theorem dL_law_283 : decode cL_law 283 = .ok (.iload_n 3, 1) := by decide +kernel
theorem dL_law_284 : decode cL_law 284 = .ok (.iconst 2, 1) := by decide +kernel
theorem dL_law_285 : decode cL_law 285 = .ok (.iadd, 1) := by decide +kernel
theorem dL_law_286 : decode cL_law 286 = .ok (.iaload, 1) := by decide +kernel
theorem dL_law_287 : decode cL_law 287 = .ok (.aload_n 0, 1) := by decide +kernel
theorem dL_law_288 : decode cL_law 288 = .ok (.iload_n 3, 1) := by decide +kernel
theorem dL_law_289 : decode cL_law 289 = .ok (.iconst 3, 1) := by decide +kernel
theorem dL_law_290 : decode cL_law 290 = .ok (.iadd, 1) := by decide +kernel
theorem dL_law_291 : decode cL_law 291 = .ok (.iaload, 1) := by decide +kernel
theorem dL_law_292 : decode cL_law 292 = .ok (.invokevirtual 22, 3) := by decide +kernel
theorem dL_law_295 : decode cL_law 295 = .ok (.if_icmp .eq 1094, 3) := by decide +kernel
theorem dL_law_298 : decode cL_law 298 = .ok (.iconst 0, 1) := by decide +kernel
theorem dL_law_299 : decode cL_law 299 = .ok (.ireturn, 1) := by decide +kernel
theorem dL_law_300 : decode cL_law 300 = .ok (.aload_n 1, 1) := by decide +kernel
theorem dL_law_301 : decode cL_law 301 = .ok (.aload_n 0, 1) := by decide +kernel
theorem dL_law_302 : decode cL_law 302 = .ok (.iload_n 3, 1) := by decide +kernel
theorem dL_law_303 : decode cL_law 303 = .ok (.iconst 1, 1) := by decide +kernel
theorem dL_law_304 : decode cL_law 304 = .ok (.iadd, 1) := by decide +kernel
theorem dL_law_305 : decode cL_law 305 = .ok (.iaload, 1) := by decide +kernel
theorem dL_law_306 : decode cL_law 306 = .ok (.aload_n 0, 1) := by decide +kernel
theorem dL_law_307 : decode cL_law 307 = .ok (.iload_n 3, 1) := by decide +kernel
theorem dL_law_308 : decode cL_law 308 = .ok (.iconst 2, 1) := by decide +kernel
theorem dL_law_309 : decode cL_law 309 = .ok (.iadd, 1) := by decide +kernel
theorem dL_law_310 : decode cL_law 310 = .ok (.iaload, 1) := by decide +kernel
theorem dL_law_311 : decode cL_law 311 = .ok (.invokevirtual 23, 3) := by decide +kernel
theorem dL_law_314 : decode cL_law 314 = .ok (.aload_n 2, 1) := by decide +kernel
theorem dL_law_315 : decode cL_law 315 = .ok (.aload_n 0, 1) := by decide +kernel
theorem dL_law_316 : decode cL_law 316 = .ok (.iload_n 3, 1) := by decide +kernel
theorem dL_law_317 : decode cL_law 317 = .ok (.iconst 1, 1) := by decide +kernel
theorem dL_law_318 : decode cL_law 318 = .ok (.iadd, 1) := by decide +kernel
theorem dL_law_319 : decode cL_law 319 = .ok (.iaload, 1) := by decide +kernel
theorem dL_law_320 : decode cL_law 320 = .ok (.aload_n 0, 1) := by decide +kernel
theorem dL_law_321 : decode cL_law 321 = .ok (.iload_n 3, 1) := by decide +kernel
theorem dL_law_322 : decode cL_law 322 = .ok (.iconst 2, 1) := by decide +kernel
theorem dL_law_323 : decode cL_law 323 = .ok (.iadd, 1) := by decide +kernel
theorem dL_law_324 : decode cL_law 324 = .ok (.iaload, 1) := by decide +kernel
theorem dL_law_325 : decode cL_law 325 = .ok (.invokevirtual 26, 3) := by decide +kernel
theorem dL_law_328 : decode cL_law 328 = .ok (.if_icmp .eq 1061, 3) := by decide +kernel
theorem dL_law_331 : decode cL_law 331 = .ok (.iconst 0, 1) := by decide +kernel
theorem dL_law_332 : decode cL_law 332 = .ok (.ireturn, 1) := by decide +kernel
theorem dL_law_333 : decode cL_law 333 = .ok (.aload_n 1, 1) := by decide +kernel
theorem dL_law_334 : decode cL_law 334 = .ok (.aload_n 0, 1) := by decide +kernel
theorem dL_law_335 : decode cL_law 335 = .ok (.iload_n 3, 1) := by decide +kernel
theorem dL_law_336 : decode cL_law 336 = .ok (.iconst 1, 1) := by decide +kernel
theorem dL_law_337 : decode cL_law 337 = .ok (.iadd, 1) := by decide +kernel
theorem dL_law_338 : decode cL_law 338 = .ok (.iaload, 1) := by decide +kernel
theorem dL_law_339 : decode cL_law 339 = .ok (.invokevirtual 27, 3) := by decide +kernel
theorem dL_law_342 : decode cL_law 342 = .ok (.aload_n 2, 1) := by decide +kernel
theorem dL_law_343 : decode cL_law 343 = .ok (.aload_n 0, 1) := by decide +kernel
theorem dL_law_344 : decode cL_law 344 = .ok (.iload_n 3, 1) := by decide +kernel
theorem dL_law_345 : decode cL_law 345 = .ok (.iconst 1, 1) := by decide +kernel
theorem dL_law_346 : decode cL_law 346 = .ok (.iadd, 1) := by decide +kernel
theorem dL_law_347 : decode cL_law 347 = .ok (.iaload, 1) := by decide +kernel
theorem dL_law_348 : decode cL_law 348 = .ok (.invokevirtual 31, 3) := by decide +kernel
theorem dL_law_351 : decode cL_law 351 = .ok (.if_icmp .eq 1038, 3) := by decide +kernel
theorem dL_law_354 : decode cL_law 354 = .ok (.iconst 0, 1) := by decide +kernel
theorem dL_law_355 : decode cL_law 355 = .ok (.ireturn, 1) := by decide +kernel
theorem dL_law_356 : decode cL_law 356 = .ok (.aload_n 1, 1) := by decide +kernel
theorem dL_law_357 : decode cL_law 357 = .ok (.aload_n 0, 1) := by decide +kernel
theorem dL_law_358 : decode cL_law 358 = .ok (.iload_n 3, 1) := by decide +kernel
theorem dL_law_359 : decode cL_law 359 = .ok (.iconst 1, 1) := by decide +kernel
theorem dL_law_360 : decode cL_law 360 = .ok (.iadd, 1) := by decide +kernel
theorem dL_law_361 : decode cL_law 361 = .ok (.iaload, 1) := by decide +kernel
theorem dL_law_362 : decode cL_law 362 = .ok (.aload_n 0, 1) := by decide +kernel
theorem dL_law_363 : decode cL_law 363 = .ok (.iload_n 3, 1) := by decide +kernel
theorem dL_law_364 : decode cL_law 364 = .ok (.iconst 2, 1) := by decide +kernel
theorem dL_law_365 : decode cL_law 365 = .ok (.iadd, 1) := by decide +kernel
theorem dL_law_366 : decode cL_law 366 = .ok (.iaload, 1) := by decide +kernel
theorem dL_law_367 : decode cL_law 367 = .ok (.aload_n 0, 1) := by decide +kernel
theorem dL_law_368 : decode cL_law 368 = .ok (.iload_n 3, 1) := by decide +kernel
theorem dL_law_369 : decode cL_law 369 = .ok (.iconst 3, 1) := by decide +kernel
theorem dL_law_370 : decode cL_law 370 = .ok (.iadd, 1) := by decide +kernel
theorem dL_law_371 : decode cL_law 371 = .ok (.iaload, 1) := by decide +kernel
theorem dL_law_372 : decode cL_law 372 = .ok (.aload_n 0, 1) := by decide +kernel
theorem dL_law_373 : decode cL_law 373 = .ok (.iload_n 3, 1) := by decide +kernel
theorem dL_law_374 : decode cL_law 374 = .ok (.iconst 4, 1) := by decide +kernel
theorem dL_law_375 : decode cL_law 375 = .ok (.iadd, 1) := by decide +kernel
theorem dL_law_376 : decode cL_law 376 = .ok (.iaload, 1) := by decide +kernel
theorem dL_law_377 : decode cL_law 377 = .ok (.aload_n 0, 1) := by decide +kernel
theorem dL_law_378 : decode cL_law 378 = .ok (.iload_n 3, 1) := by decide +kernel
theorem dL_law_379 : decode cL_law 379 = .ok (.iconst 5, 1) := by decide +kernel
theorem dL_law_380 : decode cL_law 380 = .ok (.iadd, 1) := by decide +kernel
theorem dL_law_381 : decode cL_law 381 = .ok (.iaload, 1) := by decide +kernel
theorem dL_law_382 : decode cL_law 382 = .ok (.invokevirtual 32, 3) := by decide +kernel
theorem dL_law_385 : decode cL_law 385 = .ok (.aload_n 2, 1) := by decide +kernel
theorem dL_law_386 : decode cL_law 386 = .ok (.aload_n 0, 1) := by decide +kernel
theorem dL_law_387 : decode cL_law 387 = .ok (.iload_n 3, 1) := by decide +kernel
theorem dL_law_388 : decode cL_law 388 = .ok (.iconst 1, 1) := by decide +kernel
theorem dL_law_389 : decode cL_law 389 = .ok (.iadd, 1) := by decide +kernel
theorem dL_law_390 : decode cL_law 390 = .ok (.iaload, 1) := by decide +kernel
theorem dL_law_391 : decode cL_law 391 = .ok (.aload_n 0, 1) := by decide +kernel
theorem dL_law_392 : decode cL_law 392 = .ok (.iload_n 3, 1) := by decide +kernel
theorem dL_law_393 : decode cL_law 393 = .ok (.iconst 2, 1) := by decide +kernel
theorem dL_law_394 : decode cL_law 394 = .ok (.iadd, 1) := by decide +kernel
theorem dL_law_395 : decode cL_law 395 = .ok (.iaload, 1) := by decide +kernel
theorem dL_law_396 : decode cL_law 396 = .ok (.aload_n 0, 1) := by decide +kernel
theorem dL_law_397 : decode cL_law 397 = .ok (.iload_n 3, 1) := by decide +kernel
theorem dL_law_398 : decode cL_law 398 = .ok (.iconst 3, 1) := by decide +kernel
theorem dL_law_399 : decode cL_law 399 = .ok (.iadd, 1) := by decide +kernel
theorem dL_law_400 : decode cL_law 400 = .ok (.iaload, 1) := by decide +kernel
theorem dL_law_401 : decode cL_law 401 = .ok (.aload_n 0, 1) := by decide +kernel
theorem dL_law_402 : decode cL_law 402 = .ok (.iload_n 3, 1) := by decide +kernel
theorem dL_law_403 : decode cL_law 403 = .ok (.iconst 4, 1) := by decide +kernel
theorem dL_law_404 : decode cL_law 404 = .ok (.iadd, 1) := by decide +kernel
theorem dL_law_405 : decode cL_law 405 = .ok (.iaload, 1) := by decide +kernel
theorem dL_law_406 : decode cL_law 406 = .ok (.aload_n 0, 1) := by decide +kernel
theorem dL_law_407 : decode cL_law 407 = .ok (.iload_n 3, 1) := by decide +kernel
theorem dL_law_408 : decode cL_law 408 = .ok (.iconst 5, 1) := by decide +kernel
theorem dL_law_409 : decode cL_law 409 = .ok (.iadd, 1) := by decide +kernel
theorem dL_law_410 : decode cL_law 410 = .ok (.iaload, 1) := by decide +kernel
theorem dL_law_411 : decode cL_law 411 = .ok (.invokevirtual 36, 3) := by decide +kernel
theorem dL_law_414 : decode cL_law 414 = .ok (.if_icmp .eq 975, 3) := by decide +kernel
theorem dL_law_417 : decode cL_law 417 = .ok (.iconst 0, 1) := by decide +kernel
theorem dL_law_418 : decode cL_law 418 = .ok (.ireturn, 1) := by decide +kernel
theorem dL_law_419 : decode cL_law 419 = .ok (.aload_n 1, 1) := by decide +kernel
theorem dL_law_420 : decode cL_law 420 = .ok (.aload_n 0, 1) := by decide +kernel
theorem dL_law_421 : decode cL_law 421 = .ok (.iload_n 3, 1) := by decide +kernel
theorem dL_law_422 : decode cL_law 422 = .ok (.iconst 1, 1) := by decide +kernel
theorem dL_law_423 : decode cL_law 423 = .ok (.iadd, 1) := by decide +kernel
theorem dL_law_424 : decode cL_law 424 = .ok (.iaload, 1) := by decide +kernel
theorem dL_law_425 : decode cL_law 425 = .ok (.invokevirtual 37, 3) := by decide +kernel
theorem dL_law_428 : decode cL_law 428 = .ok (.aload_n 2, 1) := by decide +kernel
theorem dL_law_429 : decode cL_law 429 = .ok (.aload_n 0, 1) := by decide +kernel
theorem dL_law_430 : decode cL_law 430 = .ok (.iload_n 3, 1) := by decide +kernel
theorem dL_law_431 : decode cL_law 431 = .ok (.iconst 1, 1) := by decide +kernel
theorem dL_law_432 : decode cL_law 432 = .ok (.iadd, 1) := by decide +kernel
theorem dL_law_433 : decode cL_law 433 = .ok (.iaload, 1) := by decide +kernel
theorem dL_law_434 : decode cL_law 434 = .ok (.invokevirtual 40, 3) := by decide +kernel
theorem dL_law_437 : decode cL_law 437 = .ok (.if_icmp .eq 952, 3) := by decide +kernel
theorem dL_law_440 : decode cL_law 440 = .ok (.iconst 0, 1) := by decide +kernel
theorem dL_law_441 : decode cL_law 441 = .ok (.ireturn, 1) := by decide +kernel
theorem dL_law_442 : decode cL_law 442 = .ok (.aload_n 1, 1) := by decide +kernel
theorem dL_law_443 : decode cL_law 443 = .ok (.aload_n 0, 1) := by decide +kernel
theorem dL_law_444 : decode cL_law 444 = .ok (.iload_n 3, 1) := by decide +kernel
theorem dL_law_445 : decode cL_law 445 = .ok (.iconst 1, 1) := by decide +kernel
theorem dL_law_446 : decode cL_law 446 = .ok (.iadd, 1) := by decide +kernel
theorem dL_law_447 : decode cL_law 447 = .ok (.iaload, 1) := by decide +kernel
theorem dL_law_448 : decode cL_law 448 = .ok (.aload_n 0, 1) := by decide +kernel
theorem dL_law_449 : decode cL_law 449 = .ok (.iload_n 3, 1) := by decide +kernel
theorem dL_law_450 : decode cL_law 450 = .ok (.iconst 2, 1) := by decide +kernel
theorem dL_law_451 : decode cL_law 451 = .ok (.iadd, 1) := by decide +kernel
theorem dL_law_452 : decode cL_law 452 = .ok (.iaload, 1) := by decide +kernel
theorem dL_law_453 : decode cL_law 453 = .ok (.invokevirtual 41, 3) := by decide +kernel
theorem dL_law_456 : decode cL_law 456 = .ok (.aload_n 2, 1) := by decide +kernel
theorem dL_law_457 : decode cL_law 457 = .ok (.aload_n 0, 1) := by decide +kernel
theorem dL_law_458 : decode cL_law 458 = .ok (.iload_n 3, 1) := by decide +kernel
theorem dL_law_459 : decode cL_law 459 = .ok (.iconst 1, 1) := by decide +kernel
theorem dL_law_460 : decode cL_law 460 = .ok (.iadd, 1) := by decide +kernel
theorem dL_law_461 : decode cL_law 461 = .ok (.iaload, 1) := by decide +kernel
theorem dL_law_462 : decode cL_law 462 = .ok (.aload_n 0, 1) := by decide +kernel
theorem dL_law_463 : decode cL_law 463 = .ok (.iload_n 3, 1) := by decide +kernel
theorem dL_law_464 : decode cL_law 464 = .ok (.iconst 2, 1) := by decide +kernel
theorem dL_law_465 : decode cL_law 465 = .ok (.iadd, 1) := by decide +kernel
theorem dL_law_466 : decode cL_law 466 = .ok (.iaload, 1) := by decide +kernel
theorem dL_law_467 : decode cL_law 467 = .ok (.invokevirtual 44, 3) := by decide +kernel
theorem dL_law_470 : decode cL_law 470 = .ok (.if_icmp .eq 919, 3) := by decide +kernel
theorem dL_law_473 : decode cL_law 473 = .ok (.iconst 0, 1) := by decide +kernel
theorem dL_law_474 : decode cL_law 474 = .ok (.ireturn, 1) := by decide +kernel
theorem dL_law_475 : decode cL_law 475 = .ok (.aload_n 1, 1) := by decide +kernel
theorem dL_law_476 : decode cL_law 476 = .ok (.aload_n 0, 1) := by decide +kernel
theorem dL_law_477 : decode cL_law 477 = .ok (.iload_n 3, 1) := by decide +kernel
theorem dL_law_478 : decode cL_law 478 = .ok (.iconst 1, 1) := by decide +kernel
theorem dL_law_479 : decode cL_law 479 = .ok (.iadd, 1) := by decide +kernel
theorem dL_law_480 : decode cL_law 480 = .ok (.iaload, 1) := by decide +kernel
theorem dL_law_481 : decode cL_law 481 = .ok (.aload_n 0, 1) := by decide +kernel
theorem dL_law_482 : decode cL_law 482 = .ok (.iload_n 3, 1) := by decide +kernel
theorem dL_law_483 : decode cL_law 483 = .ok (.iconst 2, 1) := by decide +kernel
theorem dL_law_484 : decode cL_law 484 = .ok (.iadd, 1) := by decide +kernel
theorem dL_law_485 : decode cL_law 485 = .ok (.iaload, 1) := by decide +kernel
theorem dL_law_486 : decode cL_law 486 = .ok (.aload_n 0, 1) := by decide +kernel
theorem dL_law_487 : decode cL_law 487 = .ok (.iload_n 3, 1) := by decide +kernel
theorem dL_law_488 : decode cL_law 488 = .ok (.iconst 3, 1) := by decide +kernel
theorem dL_law_489 : decode cL_law 489 = .ok (.iadd, 1) := by decide +kernel
theorem dL_law_490 : decode cL_law 490 = .ok (.iaload, 1) := by decide +kernel
theorem dL_law_491 : decode cL_law 491 = .ok (.invokevirtual 45, 3) := by decide +kernel
theorem dL_law_494 : decode cL_law 494 = .ok (.aload_n 2, 1) := by decide +kernel
theorem dL_law_495 : decode cL_law 495 = .ok (.aload_n 0, 1) := by decide +kernel
theorem dL_law_496 : decode cL_law 496 = .ok (.iload_n 3, 1) := by decide +kernel
theorem dL_law_497 : decode cL_law 497 = .ok (.iconst 1, 1) := by decide +kernel
theorem dL_law_498 : decode cL_law 498 = .ok (.iadd, 1) := by decide +kernel
theorem dL_law_499 : decode cL_law 499 = .ok (.iaload, 1) := by decide +kernel
theorem dL_law_500 : decode cL_law 500 = .ok (.aload_n 0, 1) := by decide +kernel
theorem dL_law_501 : decode cL_law 501 = .ok (.iload_n 3, 1) := by decide +kernel
theorem dL_law_502 : decode cL_law 502 = .ok (.iconst 2, 1) := by decide +kernel
theorem dL_law_503 : decode cL_law 503 = .ok (.iadd, 1) := by decide +kernel
theorem dL_law_504 : decode cL_law 504 = .ok (.iaload, 1) := by decide +kernel
theorem dL_law_505 : decode cL_law 505 = .ok (.aload_n 0, 1) := by decide +kernel
theorem dL_law_506 : decode cL_law 506 = .ok (.iload_n 3, 1) := by decide +kernel
theorem dL_law_507 : decode cL_law 507 = .ok (.iconst 3, 1) := by decide +kernel
theorem dL_law_508 : decode cL_law 508 = .ok (.iadd, 1) := by decide +kernel
theorem dL_law_509 : decode cL_law 509 = .ok (.iaload, 1) := by decide +kernel
theorem dL_law_510 : decode cL_law 510 = .ok (.invokevirtual 48, 3) := by decide +kernel
theorem dL_law_513 : decode cL_law 513 = .ok (.if_icmp .eq 876, 3) := by decide +kernel
theorem dL_law_516 : decode cL_law 516 = .ok (.iconst 0, 1) := by decide +kernel
theorem dL_law_517 : decode cL_law 517 = .ok (.ireturn, 1) := by decide +kernel
theorem dL_law_518 : decode cL_law 518 = .ok (.aload_n 1, 1) := by decide +kernel
theorem dL_law_519 : decode cL_law 519 = .ok (.aload_n 0, 1) := by decide +kernel
theorem dL_law_520 : decode cL_law 520 = .ok (.iload_n 3, 1) := by decide +kernel
theorem dL_law_521 : decode cL_law 521 = .ok (.iconst 1, 1) := by decide +kernel
theorem dL_law_522 : decode cL_law 522 = .ok (.iadd, 1) := by decide +kernel
theorem dL_law_523 : decode cL_law 523 = .ok (.iaload, 1) := by decide +kernel
theorem dL_law_524 : decode cL_law 524 = .ok (.invokevirtual 49, 3) := by decide +kernel
theorem dL_law_527 : decode cL_law 527 = .ok (.aload_n 2, 1) := by decide +kernel
theorem dL_law_528 : decode cL_law 528 = .ok (.aload_n 0, 1) := by decide +kernel
theorem dL_law_529 : decode cL_law 529 = .ok (.iload_n 3, 1) := by decide +kernel
theorem dL_law_530 : decode cL_law 530 = .ok (.iconst 1, 1) := by decide +kernel
theorem dL_law_531 : decode cL_law 531 = .ok (.iadd, 1) := by decide +kernel
theorem dL_law_532 : decode cL_law 532 = .ok (.iaload, 1) := by decide +kernel
theorem dL_law_533 : decode cL_law 533 = .ok (.invokevirtual 52, 3) := by decide +kernel
theorem dL_law_536 : decode cL_law 536 = .ok (.if_icmp .eq 853, 3) := by decide +kernel
theorem dL_law_539 : decode cL_law 539 = .ok (.iconst 0, 1) := by decide +kernel
theorem dL_law_540 : decode cL_law 540 = .ok (.ireturn, 1) := by decide +kernel
theorem dL_law_541 : decode cL_law 541 = .ok (.aload_n 1, 1) := by decide +kernel
theorem dL_law_542 : decode cL_law 542 = .ok (.aload_n 0, 1) := by decide +kernel
theorem dL_law_543 : decode cL_law 543 = .ok (.iload_n 3, 1) := by decide +kernel
theorem dL_law_544 : decode cL_law 544 = .ok (.iconst 1, 1) := by decide +kernel
theorem dL_law_545 : decode cL_law 545 = .ok (.iadd, 1) := by decide +kernel
theorem dL_law_546 : decode cL_law 546 = .ok (.iaload, 1) := by decide +kernel
theorem dL_law_547 : decode cL_law 547 = .ok (.invokevirtual 53, 3) := by decide +kernel
theorem dL_law_550 : decode cL_law 550 = .ok (.aload_n 2, 1) := by decide +kernel
theorem dL_law_551 : decode cL_law 551 = .ok (.aload_n 0, 1) := by decide +kernel
theorem dL_law_552 : decode cL_law 552 = .ok (.iload_n 3, 1) := by decide +kernel
theorem dL_law_553 : decode cL_law 553 = .ok (.iconst 1, 1) := by decide +kernel
theorem dL_law_554 : decode cL_law 554 = .ok (.iadd, 1) := by decide +kernel
theorem dL_law_555 : decode cL_law 555 = .ok (.iaload, 1) := by decide +kernel
theorem dL_law_556 : decode cL_law 556 = .ok (.invokevirtual 56, 3) := by decide +kernel
theorem dL_law_559 : decode cL_law 559 = .ok (.if_icmp .eq 830, 3) := by decide +kernel
theorem dL_law_562 : decode cL_law 562 = .ok (.iconst 0, 1) := by decide +kernel
theorem dL_law_563 : decode cL_law 563 = .ok (.ireturn, 1) := by decide +kernel
theorem dL_law_564 : decode cL_law 564 = .ok (.aload_n 1, 1) := by decide +kernel
theorem dL_law_565 : decode cL_law 565 = .ok (.aload_n 0, 1) := by decide +kernel
theorem dL_law_566 : decode cL_law 566 = .ok (.iload_n 3, 1) := by decide +kernel
theorem dL_law_567 : decode cL_law 567 = .ok (.iconst 1, 1) := by decide +kernel
theorem dL_law_568 : decode cL_law 568 = .ok (.iadd, 1) := by decide +kernel
theorem dL_law_569 : decode cL_law 569 = .ok (.iaload, 1) := by decide +kernel
theorem dL_law_570 : decode cL_law 570 = .ok (.aload_n 0, 1) := by decide +kernel
theorem dL_law_571 : decode cL_law 571 = .ok (.iload_n 3, 1) := by decide +kernel
theorem dL_law_572 : decode cL_law 572 = .ok (.iconst 2, 1) := by decide +kernel
theorem dL_law_573 : decode cL_law 573 = .ok (.iadd, 1) := by decide +kernel
theorem dL_law_574 : decode cL_law 574 = .ok (.iaload, 1) := by decide +kernel
theorem dL_law_575 : decode cL_law 575 = .ok (.invokevirtual 57, 3) := by decide +kernel
theorem dL_law_578 : decode cL_law 578 = .ok (.aload_n 2, 1) := by decide +kernel
theorem dL_law_579 : decode cL_law 579 = .ok (.aload_n 0, 1) := by decide +kernel
theorem dL_law_580 : decode cL_law 580 = .ok (.iload_n 3, 1) := by decide +kernel
theorem dL_law_581 : decode cL_law 581 = .ok (.iconst 1, 1) := by decide +kernel
theorem dL_law_582 : decode cL_law 582 = .ok (.iadd, 1) := by decide +kernel
theorem dL_law_583 : decode cL_law 583 = .ok (.iaload, 1) := by decide +kernel
theorem dL_law_584 : decode cL_law 584 = .ok (.aload_n 0, 1) := by decide +kernel
theorem dL_law_585 : decode cL_law 585 = .ok (.iload_n 3, 1) := by decide +kernel
theorem dL_law_586 : decode cL_law 586 = .ok (.iconst 2, 1) := by decide +kernel
theorem dL_law_587 : decode cL_law 587 = .ok (.iadd, 1) := by decide +kernel
theorem dL_law_588 : decode cL_law 588 = .ok (.iaload, 1) := by decide +kernel
theorem dL_law_589 : decode cL_law 589 = .ok (.invokevirtual 60, 3) := by decide +kernel
theorem dL_law_592 : decode cL_law 592 = .ok (.if_icmp .eq 797, 3) := by decide +kernel
theorem dL_law_595 : decode cL_law 595 = .ok (.iconst 0, 1) := by decide +kernel
theorem dL_law_596 : decode cL_law 596 = .ok (.ireturn, 1) := by decide +kernel
theorem dL_law_597 : decode cL_law 597 = .ok (.aload_n 1, 1) := by decide +kernel
theorem dL_law_598 : decode cL_law 598 = .ok (.aload_n 0, 1) := by decide +kernel
theorem dL_law_599 : decode cL_law 599 = .ok (.iload_n 3, 1) := by decide +kernel
theorem dL_law_600 : decode cL_law 600 = .ok (.iconst 1, 1) := by decide +kernel
theorem dL_law_601 : decode cL_law 601 = .ok (.iadd, 1) := by decide +kernel
theorem dL_law_602 : decode cL_law 602 = .ok (.iaload, 1) := by decide +kernel
theorem dL_law_603 : decode cL_law 603 = .ok (.invokevirtual 61, 3) := by decide +kernel
theorem dL_law_606 : decode cL_law 606 = .ok (.aload_n 2, 1) := by decide +kernel
theorem dL_law_607 : decode cL_law 607 = .ok (.aload_n 0, 1) := by decide +kernel
theorem dL_law_608 : decode cL_law 608 = .ok (.iload_n 3, 1) := by decide +kernel
theorem dL_law_609 : decode cL_law 609 = .ok (.iconst 1, 1) := by decide +kernel
theorem dL_law_610 : decode cL_law 610 = .ok (.iadd, 1) := by decide +kernel
theorem dL_law_611 : decode cL_law 611 = .ok (.iaload, 1) := by decide +kernel
theorem dL_law_612 : decode cL_law 612 = .ok (.invokevirtual 64, 3) := by decide +kernel
theorem dL_law_615 : decode cL_law 615 = .ok (.if_icmp .eq 774, 3) := by decide +kernel
theorem dL_law_618 : decode cL_law 618 = .ok (.iconst 0, 1) := by decide +kernel
theorem dL_law_619 : decode cL_law 619 = .ok (.ireturn, 1) := by decide +kernel
theorem dL_law_620 : decode cL_law 620 = .ok (.aload_n 1, 1) := by decide +kernel
theorem dL_law_621 : decode cL_law 621 = .ok (.aload_n 0, 1) := by decide +kernel
theorem dL_law_622 : decode cL_law 622 = .ok (.iload_n 3, 1) := by decide +kernel
theorem dL_law_623 : decode cL_law 623 = .ok (.iconst 1, 1) := by decide +kernel
theorem dL_law_624 : decode cL_law 624 = .ok (.iadd, 1) := by decide +kernel
theorem dL_law_625 : decode cL_law 625 = .ok (.iaload, 1) := by decide +kernel
theorem dL_law_626 : decode cL_law 626 = .ok (.aload_n 0, 1) := by decide +kernel
theorem dL_law_627 : decode cL_law 627 = .ok (.iload_n 3, 1) := by decide +kernel
theorem dL_law_628 : decode cL_law 628 = .ok (.iconst 2, 1) := by decide +kernel
theorem dL_law_629 : decode cL_law 629 = .ok (.iadd, 1) := by decide +kernel
theorem dL_law_630 : decode cL_law 630 = .ok (.iaload, 1) := by decide +kernel
theorem dL_law_631 : decode cL_law 631 = .ok (.invokevirtual 65, 3) := by decide +kernel
theorem dL_law_634 : decode cL_law 634 = .ok (.aload_n 2, 1) := by decide +kernel
theorem dL_law_635 : decode cL_law 635 = .ok (.aload_n 0, 1) := by decide +kernel
theorem dL_law_636 : decode cL_law 636 = .ok (.iload_n 3, 1) := by decide +kernel
theorem dL_law_637 : decode cL_law 637 = .ok (.iconst 1, 1) := by decide +kernel
theorem dL_law_638 : decode cL_law 638 = .ok (.iadd, 1) := by decide +kernel
theorem dL_law_639 : decode cL_law 639 = .ok (.iaload, 1) := by decide +kernel
theorem dL_law_640 : decode cL_law 640 = .ok (.aload_n 0, 1) := by decide +kernel
theorem dL_law_641 : decode cL_law 641 = .ok (.iload_n 3, 1) := by decide +kernel
theorem dL_law_642 : decode cL_law 642 = .ok (.iconst 2, 1) := by decide +kernel
theorem dL_law_643 : decode cL_law 643 = .ok (.iadd, 1) := by decide +kernel
theorem dL_law_644 : decode cL_law 644 = .ok (.iaload, 1) := by decide +kernel
theorem dL_law_645 : decode cL_law 645 = .ok (.invokevirtual 68, 3) := by decide +kernel
theorem dL_law_648 : decode cL_law 648 = .ok (.if_icmp .eq 741, 3) := by decide +kernel
theorem dL_law_651 : decode cL_law 651 = .ok (.iconst 0, 1) := by decide +kernel
theorem dL_law_652 : decode cL_law 652 = .ok (.ireturn, 1) := by decide +kernel
theorem dL_law_653 : decode cL_law 653 = .ok (.aload_n 1, 1) := by decide +kernel
theorem dL_law_654 : decode cL_law 654 = .ok (.aload_n 0, 1) := by decide +kernel
theorem dL_law_655 : decode cL_law 655 = .ok (.iload_n 3, 1) := by decide +kernel
theorem dL_law_656 : decode cL_law 656 = .ok (.iconst 1, 1) := by decide +kernel
theorem dL_law_657 : decode cL_law 657 = .ok (.iadd, 1) := by decide +kernel
theorem dL_law_658 : decode cL_law 658 = .ok (.iaload, 1) := by decide +kernel
theorem dL_law_659 : decode cL_law 659 = .ok (.aload_n 0, 1) := by decide +kernel
theorem dL_law_660 : decode cL_law 660 = .ok (.iload_n 3, 1) := by decide +kernel
theorem dL_law_661 : decode cL_law 661 = .ok (.iconst 2, 1) := by decide +kernel
theorem dL_law_662 : decode cL_law 662 = .ok (.iadd, 1) := by decide +kernel
theorem dL_law_663 : decode cL_law 663 = .ok (.iaload, 1) := by decide +kernel
theorem dL_law_664 : decode cL_law 664 = .ok (.invokevirtual 69, 3) := by decide +kernel
theorem dL_law_667 : decode cL_law 667 = .ok (.aload_n 2, 1) := by decide +kernel
theorem dL_law_668 : decode cL_law 668 = .ok (.aload_n 0, 1) := by decide +kernel
theorem dL_law_669 : decode cL_law 669 = .ok (.iload_n 3, 1) := by decide +kernel
theorem dL_law_670 : decode cL_law 670 = .ok (.iconst 1, 1) := by decide +kernel
theorem dL_law_671 : decode cL_law 671 = .ok (.iadd, 1) := by decide +kernel
theorem dL_law_672 : decode cL_law 672 = .ok (.iaload, 1) := by decide +kernel
theorem dL_law_673 : decode cL_law 673 = .ok (.aload_n 0, 1) := by decide +kernel
theorem dL_law_674 : decode cL_law 674 = .ok (.iload_n 3, 1) := by decide +kernel
theorem dL_law_675 : decode cL_law 675 = .ok (.iconst 2, 1) := by decide +kernel
theorem dL_law_676 : decode cL_law 676 = .ok (.iadd, 1) := by decide +kernel
theorem dL_law_677 : decode cL_law 677 = .ok (.iaload, 1) := by decide +kernel
theorem dL_law_678 : decode cL_law 678 = .ok (.invokevirtual 72, 3) := by decide +kernel
theorem dL_law_681 : decode cL_law 681 = .ok (.if_icmp .eq 708, 3) := by decide +kernel
theorem dL_law_684 : decode cL_law 684 = .ok (.iconst 0, 1) := by decide +kernel
theorem dL_law_685 : decode cL_law 685 = .ok (.ireturn, 1) := by decide +kernel
theorem dL_law_686 : decode cL_law 686 = .ok (.aload_n 1, 1) := by decide +kernel
theorem dL_law_687 : decode cL_law 687 = .ok (.aload_n 0, 1) := by decide +kernel
theorem dL_law_688 : decode cL_law 688 = .ok (.iload_n 3, 1) := by decide +kernel
theorem dL_law_689 : decode cL_law 689 = .ok (.iconst 1, 1) := by decide +kernel
theorem dL_law_690 : decode cL_law 690 = .ok (.iadd, 1) := by decide +kernel
theorem dL_law_691 : decode cL_law 691 = .ok (.iaload, 1) := by decide +kernel
theorem dL_law_692 : decode cL_law 692 = .ok (.invokevirtual 73, 3) := by decide +kernel
theorem dL_law_695 : decode cL_law 695 = .ok (.aload_n 2, 1) := by decide +kernel
theorem dL_law_696 : decode cL_law 696 = .ok (.aload_n 0, 1) := by decide +kernel
theorem dL_law_697 : decode cL_law 697 = .ok (.iload_n 3, 1) := by decide +kernel
theorem dL_law_698 : decode cL_law 698 = .ok (.iconst 1, 1) := by decide +kernel
theorem dL_law_699 : decode cL_law 699 = .ok (.iadd, 1) := by decide +kernel
theorem dL_law_700 : decode cL_law 700 = .ok (.iaload, 1) := by decide +kernel
theorem dL_law_701 : decode cL_law 701 = .ok (.invokevirtual 76, 3) := by decide +kernel
theorem dL_law_704 : decode cL_law 704 = .ok (.if_icmp .eq 685, 3) := by decide +kernel
theorem dL_law_707 : decode cL_law 707 = .ok (.iconst 0, 1) := by decide +kernel
theorem dL_law_708 : decode cL_law 708 = .ok (.ireturn, 1) := by decide +kernel
theorem dL_law_709 : decode cL_law 709 = .ok (.aload_n 1, 1) := by decide +kernel
theorem dL_law_710 : decode cL_law 710 = .ok (.aload_n 0, 1) := by decide +kernel
theorem dL_law_711 : decode cL_law 711 = .ok (.iload_n 3, 1) := by decide +kernel
theorem dL_law_712 : decode cL_law 712 = .ok (.iconst 1, 1) := by decide +kernel
theorem dL_law_713 : decode cL_law 713 = .ok (.iadd, 1) := by decide +kernel
theorem dL_law_714 : decode cL_law 714 = .ok (.iaload, 1) := by decide +kernel
theorem dL_law_715 : decode cL_law 715 = .ok (.aload_n 0, 1) := by decide +kernel
theorem dL_law_716 : decode cL_law 716 = .ok (.iload_n 3, 1) := by decide +kernel
theorem dL_law_717 : decode cL_law 717 = .ok (.iconst 2, 1) := by decide +kernel
theorem dL_law_718 : decode cL_law 718 = .ok (.iadd, 1) := by decide +kernel
theorem dL_law_719 : decode cL_law 719 = .ok (.iaload, 1) := by decide +kernel
theorem dL_law_720 : decode cL_law 720 = .ok (.invokevirtual 77, 3) := by decide +kernel
theorem dL_law_723 : decode cL_law 723 = .ok (.aload_n 2, 1) := by decide +kernel
theorem dL_law_724 : decode cL_law 724 = .ok (.aload_n 0, 1) := by decide +kernel
theorem dL_law_725 : decode cL_law 725 = .ok (.iload_n 3, 1) := by decide +kernel
theorem dL_law_726 : decode cL_law 726 = .ok (.iconst 1, 1) := by decide +kernel
theorem dL_law_727 : decode cL_law 727 = .ok (.iadd, 1) := by decide +kernel
theorem dL_law_728 : decode cL_law 728 = .ok (.iaload, 1) := by decide +kernel
theorem dL_law_729 : decode cL_law 729 = .ok (.aload_n 0, 1) := by decide +kernel
theorem dL_law_730 : decode cL_law 730 = .ok (.iload_n 3, 1) := by decide +kernel
theorem dL_law_731 : decode cL_law 731 = .ok (.iconst 2, 1) := by decide +kernel
theorem dL_law_732 : decode cL_law 732 = .ok (.iadd, 1) := by decide +kernel
theorem dL_law_733 : decode cL_law 733 = .ok (.iaload, 1) := by decide +kernel
theorem dL_law_734 : decode cL_law 734 = .ok (.invokevirtual 80, 3) := by decide +kernel
theorem dL_law_737 : decode cL_law 737 = .ok (.if_icmp .eq 652, 3) := by decide +kernel
theorem dL_law_740 : decode cL_law 740 = .ok (.iconst 0, 1) := by decide +kernel
theorem dL_law_741 : decode cL_law 741 = .ok (.ireturn, 1) := by decide +kernel
theorem dL_law_742 : decode cL_law 742 = .ok (.aload_n 1, 1) := by decide +kernel
theorem dL_law_743 : decode cL_law 743 = .ok (.invokevirtual 81, 3) := by decide +kernel
theorem dL_law_746 : decode cL_law 746 = .ok (.aload_n 2, 1) := by decide +kernel
theorem dL_law_747 : decode cL_law 747 = .ok (.invokevirtual 85, 3) := by decide +kernel
theorem dL_law_750 : decode cL_law 750 = .ok (.if_icmp .eq 639, 3) := by decide +kernel
theorem dL_law_753 : decode cL_law 753 = .ok (.iconst 0, 1) := by decide +kernel
theorem dL_law_754 : decode cL_law 754 = .ok (.ireturn, 1) := by decide +kernel
theorem dL_law_755 : decode cL_law 755 = .ok (.aload_n 1, 1) := by decide +kernel
theorem dL_law_756 : decode cL_law 756 = .ok (.aload_n 0, 1) := by decide +kernel
theorem dL_law_757 : decode cL_law 757 = .ok (.iload_n 3, 1) := by decide +kernel
theorem dL_law_758 : decode cL_law 758 = .ok (.iconst 1, 1) := by decide +kernel
theorem dL_law_759 : decode cL_law 759 = .ok (.iadd, 1) := by decide +kernel
theorem dL_law_760 : decode cL_law 760 = .ok (.iaload, 1) := by decide +kernel
theorem dL_law_761 : decode cL_law 761 = .ok (.invokevirtual 86, 3) := by decide +kernel
theorem dL_law_764 : decode cL_law 764 = .ok (.aload_n 2, 1) := by decide +kernel
theorem dL_law_765 : decode cL_law 765 = .ok (.aload_n 0, 1) := by decide +kernel
theorem dL_law_766 : decode cL_law 766 = .ok (.iload_n 3, 1) := by decide +kernel
theorem dL_law_767 : decode cL_law 767 = .ok (.iconst 1, 1) := by decide +kernel
theorem dL_law_768 : decode cL_law 768 = .ok (.iadd, 1) := by decide +kernel
theorem dL_law_769 : decode cL_law 769 = .ok (.iaload, 1) := by decide +kernel
theorem dL_law_770 : decode cL_law 770 = .ok (.invokevirtual 89, 3) := by decide +kernel
theorem dL_law_773 : decode cL_law 773 = .ok (.if_icmp .eq 616, 3) := by decide +kernel
theorem dL_law_776 : decode cL_law 776 = .ok (.iconst 0, 1) := by decide +kernel
theorem dL_law_777 : decode cL_law 777 = .ok (.ireturn, 1) := by decide +kernel
theorem dL_law_778 : decode cL_law 778 = .ok (.aload_n 1, 1) := by decide +kernel
theorem dL_law_779 : decode cL_law 779 = .ok (.aload_n 0, 1) := by decide +kernel
theorem dL_law_780 : decode cL_law 780 = .ok (.iload_n 3, 1) := by decide +kernel
theorem dL_law_781 : decode cL_law 781 = .ok (.iconst 1, 1) := by decide +kernel
theorem dL_law_782 : decode cL_law 782 = .ok (.iadd, 1) := by decide +kernel
theorem dL_law_783 : decode cL_law 783 = .ok (.iaload, 1) := by decide +kernel
theorem dL_law_784 : decode cL_law 784 = .ok (.invokevirtual 90, 3) := by decide +kernel
theorem dL_law_787 : decode cL_law 787 = .ok (.aload_n 2, 1) := by decide +kernel
theorem dL_law_788 : decode cL_law 788 = .ok (.aload_n 0, 1) := by decide +kernel
theorem dL_law_789 : decode cL_law 789 = .ok (.iload_n 3, 1) := by decide +kernel
theorem dL_law_790 : decode cL_law 790 = .ok (.iconst 1, 1) := by decide +kernel
theorem dL_law_791 : decode cL_law 791 = .ok (.iadd, 1) := by decide +kernel
theorem dL_law_792 : decode cL_law 792 = .ok (.iaload, 1) := by decide +kernel
theorem dL_law_793 : decode cL_law 793 = .ok (.invokevirtual 93, 3) := by decide +kernel
theorem dL_law_796 : decode cL_law 796 = .ok (.if_icmp .eq 593, 3) := by decide +kernel
theorem dL_law_799 : decode cL_law 799 = .ok (.iconst 0, 1) := by decide +kernel
theorem dL_law_800 : decode cL_law 800 = .ok (.ireturn, 1) := by decide +kernel
theorem dL_law_801 : decode cL_law 801 = .ok (.aload_n 1, 1) := by decide +kernel
theorem dL_law_802 : decode cL_law 802 = .ok (.aload_n 0, 1) := by decide +kernel
theorem dL_law_803 : decode cL_law 803 = .ok (.iload_n 3, 1) := by decide +kernel
theorem dL_law_804 : decode cL_law 804 = .ok (.iconst 1, 1) := by decide +kernel
theorem dL_law_805 : decode cL_law 805 = .ok (.iadd, 1) := by decide +kernel
theorem dL_law_806 : decode cL_law 806 = .ok (.iaload, 1) := by decide +kernel
theorem dL_law_807 : decode cL_law 807 = .ok (.invokevirtual 94, 3) := by decide +kernel
theorem dL_law_810 : decode cL_law 810 = .ok (.aload_n 2, 1) := by decide +kernel
theorem dL_law_811 : decode cL_law 811 = .ok (.aload_n 0, 1) := by decide +kernel
theorem dL_law_812 : decode cL_law 812 = .ok (.iload_n 3, 1) := by decide +kernel
theorem dL_law_813 : decode cL_law 813 = .ok (.iconst 1, 1) := by decide +kernel
theorem dL_law_814 : decode cL_law 814 = .ok (.iadd, 1) := by decide +kernel
theorem dL_law_815 : decode cL_law 815 = .ok (.iaload, 1) := by decide +kernel
theorem dL_law_816 : decode cL_law 816 = .ok (.invokevirtual 97, 3) := by decide +kernel
theorem dL_law_819 : decode cL_law 819 = .ok (.if_icmp .eq 570, 3) := by decide +kernel
theorem dL_law_822 : decode cL_law 822 = .ok (.iconst 0, 1) := by decide +kernel
theorem dL_law_823 : decode cL_law 823 = .ok (.ireturn, 1) := by decide +kernel
theorem dL_law_824 : decode cL_law 824 = .ok (.aload_n 1, 1) := by decide +kernel
theorem dL_law_825 : decode cL_law 825 = .ok (.invokevirtual 98, 3) := by decide +kernel
theorem dL_law_828 : decode cL_law 828 = .ok (.aload_n 2, 1) := by decide +kernel
theorem dL_law_829 : decode cL_law 829 = .ok (.invokevirtual 101, 3) := by decide +kernel
theorem dL_law_832 : decode cL_law 832 = .ok (.if_icmp .eq 557, 3) := by decide +kernel
theorem dL_law_835 : decode cL_law 835 = .ok (.iconst 0, 1) := by decide +kernel
theorem dL_law_836 : decode cL_law 836 = .ok (.ireturn, 1) := by decide +kernel
theorem dL_law_837 : decode cL_law 837 = .ok (.aload_n 1, 1) := by decide +kernel
theorem dL_law_838 : decode cL_law 838 = .ok (.invokevirtual 102, 3) := by decide +kernel
theorem dL_law_841 : decode cL_law 841 = .ok (.aload_n 2, 1) := by decide +kernel
theorem dL_law_842 : decode cL_law 842 = .ok (.invokevirtual 105, 3) := by decide +kernel
theorem dL_law_845 : decode cL_law 845 = .ok (.if_icmp .eq 544, 3) := by decide +kernel
theorem dL_law_848 : decode cL_law 848 = .ok (.iconst 0, 1) := by decide +kernel
theorem dL_law_849 : decode cL_law 849 = .ok (.ireturn, 1) := by decide +kernel
theorem dL_law_850 : decode cL_law 850 = .ok (.aload_n 1, 1) := by decide +kernel
theorem dL_law_851 : decode cL_law 851 = .ok (.aload_n 0, 1) := by decide +kernel
theorem dL_law_852 : decode cL_law 852 = .ok (.iload_n 3, 1) := by decide +kernel
theorem dL_law_853 : decode cL_law 853 = .ok (.iconst 1, 1) := by decide +kernel
theorem dL_law_854 : decode cL_law 854 = .ok (.iadd, 1) := by decide +kernel
theorem dL_law_855 : decode cL_law 855 = .ok (.iaload, 1) := by decide +kernel
theorem dL_law_856 : decode cL_law 856 = .ok (.invokevirtual 106, 3) := by decide +kernel
theorem dL_law_859 : decode cL_law 859 = .ok (.aload_n 2, 1) := by decide +kernel
theorem dL_law_860 : decode cL_law 860 = .ok (.aload_n 0, 1) := by decide +kernel
theorem dL_law_861 : decode cL_law 861 = .ok (.iload_n 3, 1) := by decide +kernel
theorem dL_law_862 : decode cL_law 862 = .ok (.iconst 1, 1) := by decide +kernel
theorem dL_law_863 : decode cL_law 863 = .ok (.iadd, 1) := by decide +kernel
theorem dL_law_864 : decode cL_law 864 = .ok (.iaload, 1) := by decide +kernel
theorem dL_law_865 : decode cL_law 865 = .ok (.invokevirtual 109, 3) := by decide +kernel
theorem dL_law_868 : decode cL_law 868 = .ok (.if_icmp .eq 521, 3) := by decide +kernel
theorem dL_law_871 : decode cL_law 871 = .ok (.iconst 0, 1) := by decide +kernel
theorem dL_law_872 : decode cL_law 872 = .ok (.ireturn, 1) := by decide +kernel
theorem dL_law_873 : decode cL_law 873 = .ok (.aload_n 1, 1) := by decide +kernel
theorem dL_law_874 : decode cL_law 874 = .ok (.invokevirtual 110, 3) := by decide +kernel
theorem dL_law_877 : decode cL_law 877 = .ok (.aload_n 2, 1) := by decide +kernel
theorem dL_law_878 : decode cL_law 878 = .ok (.invokevirtual 113, 3) := by decide +kernel
theorem dL_law_881 : decode cL_law 881 = .ok (.if_icmp .eq 508, 3) := by decide +kernel
theorem dL_law_884 : decode cL_law 884 = .ok (.iconst 0, 1) := by decide +kernel
theorem dL_law_885 : decode cL_law 885 = .ok (.ireturn, 1) := by decide +kernel
theorem dL_law_886 : decode cL_law 886 = .ok (.aload_n 1, 1) := by decide +kernel
theorem dL_law_887 : decode cL_law 887 = .ok (.aload_n 0, 1) := by decide +kernel
theorem dL_law_888 : decode cL_law 888 = .ok (.iload_n 3, 1) := by decide +kernel
theorem dL_law_889 : decode cL_law 889 = .ok (.iconst 1, 1) := by decide +kernel
theorem dL_law_890 : decode cL_law 890 = .ok (.iadd, 1) := by decide +kernel
theorem dL_law_891 : decode cL_law 891 = .ok (.iaload, 1) := by decide +kernel
theorem dL_law_892 : decode cL_law 892 = .ok (.invokevirtual 114, 3) := by decide +kernel
theorem dL_law_895 : decode cL_law 895 = .ok (.aload_n 2, 1) := by decide +kernel
theorem dL_law_896 : decode cL_law 896 = .ok (.aload_n 0, 1) := by decide +kernel
theorem dL_law_897 : decode cL_law 897 = .ok (.iload_n 3, 1) := by decide +kernel
theorem dL_law_898 : decode cL_law 898 = .ok (.iconst 1, 1) := by decide +kernel
theorem dL_law_899 : decode cL_law 899 = .ok (.iadd, 1) := by decide +kernel
theorem dL_law_900 : decode cL_law 900 = .ok (.iaload, 1) := by decide +kernel
theorem dL_law_901 : decode cL_law 901 = .ok (.invokevirtual 117, 3) := by decide +kernel
theorem dL_law_904 : decode cL_law 904 = .ok (.if_icmp .eq 485, 3) := by decide +kernel
theorem dL_law_907 : decode cL_law 907 = .ok (.iconst 0, 1) := by decide +kernel
theorem dL_law_908 : decode cL_law 908 = .ok (.ireturn, 1) := by decide +kernel
theorem dL_law_909 : decode cL_law 909 = .ok (.aload_n 1, 1) := by decide +kernel
theorem dL_law_910 : decode cL_law 910 = .ok (.aload_n 0, 1) := by decide +kernel
theorem dL_law_911 : decode cL_law 911 = .ok (.iload_n 3, 1) := by decide +kernel
theorem dL_law_912 : decode cL_law 912 = .ok (.iconst 1, 1) := by decide +kernel
theorem dL_law_913 : decode cL_law 913 = .ok (.iadd, 1) := by decide +kernel
theorem dL_law_914 : decode cL_law 914 = .ok (.iaload, 1) := by decide +kernel
theorem dL_law_915 : decode cL_law 915 = .ok (.invokevirtual 118, 3) := by decide +kernel
theorem dL_law_918 : decode cL_law 918 = .ok (.aload_n 2, 1) := by decide +kernel
theorem dL_law_919 : decode cL_law 919 = .ok (.aload_n 0, 1) := by decide +kernel
theorem dL_law_920 : decode cL_law 920 = .ok (.iload_n 3, 1) := by decide +kernel
theorem dL_law_921 : decode cL_law 921 = .ok (.iconst 1, 1) := by decide +kernel
theorem dL_law_922 : decode cL_law 922 = .ok (.iadd, 1) := by decide +kernel
theorem dL_law_923 : decode cL_law 923 = .ok (.iaload, 1) := by decide +kernel
theorem dL_law_924 : decode cL_law 924 = .ok (.invokevirtual 121, 3) := by decide +kernel
theorem dL_law_927 : decode cL_law 927 = .ok (.if_icmp .eq 462, 3) := by decide +kernel
theorem dL_law_930 : decode cL_law 930 = .ok (.iconst 0, 1) := by decide +kernel
theorem dL_law_931 : decode cL_law 931 = .ok (.ireturn, 1) := by decide +kernel
theorem dL_law_932 : decode cL_law 932 = .ok (.aload_n 1, 1) := by decide +kernel
theorem dL_law_933 : decode cL_law 933 = .ok (.aload_n 0, 1) := by decide +kernel
theorem dL_law_934 : decode cL_law 934 = .ok (.iload_n 3, 1) := by decide +kernel
theorem dL_law_935 : decode cL_law 935 = .ok (.iconst 1, 1) := by decide +kernel
theorem dL_law_936 : decode cL_law 936 = .ok (.iadd, 1) := by decide +kernel
theorem dL_law_937 : decode cL_law 937 = .ok (.iaload, 1) := by decide +kernel
theorem dL_law_938 : decode cL_law 938 = .ok (.aload_n 0, 1) := by decide +kernel
theorem dL_law_939 : decode cL_law 939 = .ok (.iload_n 3, 1) := by decide +kernel
theorem dL_law_940 : decode cL_law 940 = .ok (.iconst 2, 1) := by decide +kernel
theorem dL_law_941 : decode cL_law 941 = .ok (.iadd, 1) := by decide +kernel
theorem dL_law_942 : decode cL_law 942 = .ok (.iaload, 1) := by decide +kernel
theorem dL_law_943 : decode cL_law 943 = .ok (.aload_n 0, 1) := by decide +kernel
theorem dL_law_944 : decode cL_law 944 = .ok (.iload_n 3, 1) := by decide +kernel
theorem dL_law_945 : decode cL_law 945 = .ok (.iconst 3, 1) := by decide +kernel
theorem dL_law_946 : decode cL_law 946 = .ok (.iadd, 1) := by decide +kernel
theorem dL_law_947 : decode cL_law 947 = .ok (.iaload, 1) := by decide +kernel
theorem dL_law_948 : decode cL_law 948 = .ok (.invokevirtual 122, 3) := by decide +kernel
theorem dL_law_951 : decode cL_law 951 = .ok (.aload_n 2, 1) := by decide +kernel
theorem dL_law_952 : decode cL_law 952 = .ok (.aload_n 0, 1) := by decide +kernel
theorem dL_law_953 : decode cL_law 953 = .ok (.iload_n 3, 1) := by decide +kernel
theorem dL_law_954 : decode cL_law 954 = .ok (.iconst 1, 1) := by decide +kernel
theorem dL_law_955 : decode cL_law 955 = .ok (.iadd, 1) := by decide +kernel
theorem dL_law_956 : decode cL_law 956 = .ok (.iaload, 1) := by decide +kernel
theorem dL_law_957 : decode cL_law 957 = .ok (.aload_n 0, 1) := by decide +kernel
theorem dL_law_958 : decode cL_law 958 = .ok (.iload_n 3, 1) := by decide +kernel
theorem dL_law_959 : decode cL_law 959 = .ok (.iconst 2, 1) := by decide +kernel
theorem dL_law_960 : decode cL_law 960 = .ok (.iadd, 1) := by decide +kernel
theorem dL_law_961 : decode cL_law 961 = .ok (.iaload, 1) := by decide +kernel
theorem dL_law_962 : decode cL_law 962 = .ok (.aload_n 0, 1) := by decide +kernel
theorem dL_law_963 : decode cL_law 963 = .ok (.iload_n 3, 1) := by decide +kernel
theorem dL_law_964 : decode cL_law 964 = .ok (.iconst 3, 1) := by decide +kernel
theorem dL_law_965 : decode cL_law 965 = .ok (.iadd, 1) := by decide +kernel
theorem dL_law_966 : decode cL_law 966 = .ok (.iaload, 1) := by decide +kernel
theorem dL_law_967 : decode cL_law 967 = .ok (.invokevirtual 125, 3) := by decide +kernel
theorem dL_law_970 : decode cL_law 970 = .ok (.if_icmp .eq 419, 3) := by decide +kernel
theorem dL_law_973 : decode cL_law 973 = .ok (.iconst 0, 1) := by decide +kernel
theorem dL_law_974 : decode cL_law 974 = .ok (.ireturn, 1) := by decide +kernel
theorem dL_law_975 : decode cL_law 975 = .ok (.aload_n 1, 1) := by decide +kernel
theorem dL_law_976 : decode cL_law 976 = .ok (.aload_n 0, 1) := by decide +kernel
theorem dL_law_977 : decode cL_law 977 = .ok (.iload_n 3, 1) := by decide +kernel
theorem dL_law_978 : decode cL_law 978 = .ok (.iconst 1, 1) := by decide +kernel
theorem dL_law_979 : decode cL_law 979 = .ok (.iadd, 1) := by decide +kernel
theorem dL_law_980 : decode cL_law 980 = .ok (.iaload, 1) := by decide +kernel
theorem dL_law_981 : decode cL_law 981 = .ok (.aload_n 0, 1) := by decide +kernel
theorem dL_law_982 : decode cL_law 982 = .ok (.iload_n 3, 1) := by decide +kernel
theorem dL_law_983 : decode cL_law 983 = .ok (.iconst 2, 1) := by decide +kernel
theorem dL_law_984 : decode cL_law 984 = .ok (.iadd, 1) := by decide +kernel
theorem dL_law_985 : decode cL_law 985 = .ok (.iaload, 1) := by decide +kernel
theorem dL_law_986 : decode cL_law 986 = .ok (.invokevirtual 126, 3) := by decide +kernel
theorem dL_law_989 : decode cL_law 989 = .ok (.aload_n 2, 1) := by decide +kernel
theorem dL_law_990 : decode cL_law 990 = .ok (.aload_n 0, 1) := by decide +kernel
theorem dL_law_991 : decode cL_law 991 = .ok (.iload_n 3, 1) := by decide +kernel
theorem dL_law_992 : decode cL_law 992 = .ok (.iconst 1, 1) := by decide +kernel
theorem dL_law_993 : decode cL_law 993 = .ok (.iadd, 1) := by decide +kernel
theorem dL_law_994 : decode cL_law 994 = .ok (.iaload, 1) := by decide +kernel
theorem dL_law_995 : decode cL_law 995 = .ok (.aload_n 0, 1) := by decide +kernel
theorem dL_law_996 : decode cL_law 996 = .ok (.iload_n 3, 1) := by decide +kernel
theorem dL_law_997 : decode cL_law 997 = .ok (.iconst 2, 1) := by decide +kernel
theorem dL_law_998 : decode cL_law 998 = .ok (.iadd, 1) := by decide +kernel
theorem dL_law_999 : decode cL_law 999 = .ok (.iaload, 1) := by decide +kernel
theorem dL_law_1000 : decode cL_law 1000 = .ok (.invokevirtual 129, 3) := by decide +kernel
theorem dL_law_1003 : decode cL_law 1003 = .ok (.if_icmp .eq 386, 3) := by decide +kernel
theorem dL_law_1006 : decode cL_law 1006 = .ok (.iconst 0, 1) := by decide +kernel
theorem dL_law_1007 : decode cL_law 1007 = .ok (.ireturn, 1) := by decide +kernel
theorem dL_law_1008 : decode cL_law 1008 = .ok (.aload_n 1, 1) := by decide +kernel
theorem dL_law_1009 : decode cL_law 1009 = .ok (.aload_n 0, 1) := by decide +kernel
theorem dL_law_1010 : decode cL_law 1010 = .ok (.iload_n 3, 1) := by decide +kernel
theorem dL_law_1011 : decode cL_law 1011 = .ok (.iconst 1, 1) := by decide +kernel
theorem dL_law_1012 : decode cL_law 1012 = .ok (.iadd, 1) := by decide +kernel
theorem dL_law_1013 : decode cL_law 1013 = .ok (.iaload, 1) := by decide +kernel
theorem dL_law_1014 : decode cL_law 1014 = .ok (.aload_n 0, 1) := by decide +kernel
theorem dL_law_1015 : decode cL_law 1015 = .ok (.iload_n 3, 1) := by decide +kernel
theorem dL_law_1016 : decode cL_law 1016 = .ok (.iconst 2, 1) := by decide +kernel
theorem dL_law_1017 : decode cL_law 1017 = .ok (.iadd, 1) := by decide +kernel
theorem dL_law_1018 : decode cL_law 1018 = .ok (.iaload, 1) := by decide +kernel
theorem dL_law_1019 : decode cL_law 1019 = .ok (.invokevirtual 130, 3) := by decide +kernel
theorem dL_law_1022 : decode cL_law 1022 = .ok (.aload_n 2, 1) := by decide +kernel
theorem dL_law_1023 : decode cL_law 1023 = .ok (.aload_n 0, 1) := by decide +kernel
theorem dL_law_1024 : decode cL_law 1024 = .ok (.iload_n 3, 1) := by decide +kernel
theorem dL_law_1025 : decode cL_law 1025 = .ok (.iconst 1, 1) := by decide +kernel
theorem dL_law_1026 : decode cL_law 1026 = .ok (.iadd, 1) := by decide +kernel
theorem dL_law_1027 : decode cL_law 1027 = .ok (.iaload, 1) := by decide +kernel
theorem dL_law_1028 : decode cL_law 1028 = .ok (.aload_n 0, 1) := by decide +kernel
theorem dL_law_1029 : decode cL_law 1029 = .ok (.iload_n 3, 1) := by decide +kernel
theorem dL_law_1030 : decode cL_law 1030 = .ok (.iconst 2, 1) := by decide +kernel
theorem dL_law_1031 : decode cL_law 1031 = .ok (.iadd, 1) := by decide +kernel
theorem dL_law_1032 : decode cL_law 1032 = .ok (.iaload, 1) := by decide +kernel
theorem dL_law_1033 : decode cL_law 1033 = .ok (.invokevirtual 133, 3) := by decide +kernel
theorem dL_law_1036 : decode cL_law 1036 = .ok (.if_icmp .eq 353, 3) := by decide +kernel
theorem dL_law_1039 : decode cL_law 1039 = .ok (.iconst 0, 1) := by decide +kernel
theorem dL_law_1040 : decode cL_law 1040 = .ok (.ireturn, 1) := by decide +kernel
theorem dL_law_1041 : decode cL_law 1041 = .ok (.aload_n 1, 1) := by decide +kernel
theorem dL_law_1042 : decode cL_law 1042 = .ok (.aload_n 0, 1) := by decide +kernel
theorem dL_law_1043 : decode cL_law 1043 = .ok (.iload_n 3, 1) := by decide +kernel
theorem dL_law_1044 : decode cL_law 1044 = .ok (.iconst 1, 1) := by decide +kernel
theorem dL_law_1045 : decode cL_law 1045 = .ok (.iadd, 1) := by decide +kernel
theorem dL_law_1046 : decode cL_law 1046 = .ok (.iaload, 1) := by decide +kernel
theorem dL_law_1047 : decode cL_law 1047 = .ok (.aload_n 0, 1) := by decide +kernel
theorem dL_law_1048 : decode cL_law 1048 = .ok (.iload_n 3, 1) := by decide +kernel
theorem dL_law_1049 : decode cL_law 1049 = .ok (.iconst 2, 1) := by decide +kernel
theorem dL_law_1050 : decode cL_law 1050 = .ok (.iadd, 1) := by decide +kernel
theorem dL_law_1051 : decode cL_law 1051 = .ok (.iaload, 1) := by decide +kernel
theorem dL_law_1052 : decode cL_law 1052 = .ok (.invokevirtual 134, 3) := by decide +kernel
theorem dL_law_1055 : decode cL_law 1055 = .ok (.aload_n 2, 1) := by decide +kernel
theorem dL_law_1056 : decode cL_law 1056 = .ok (.aload_n 0, 1) := by decide +kernel
theorem dL_law_1057 : decode cL_law 1057 = .ok (.iload_n 3, 1) := by decide +kernel
theorem dL_law_1058 : decode cL_law 1058 = .ok (.iconst 1, 1) := by decide +kernel
theorem dL_law_1059 : decode cL_law 1059 = .ok (.iadd, 1) := by decide +kernel
theorem dL_law_1060 : decode cL_law 1060 = .ok (.iaload, 1) := by decide +kernel
theorem dL_law_1061 : decode cL_law 1061 = .ok (.aload_n 0, 1) := by decide +kernel
theorem dL_law_1062 : decode cL_law 1062 = .ok (.iload_n 3, 1) := by decide +kernel
theorem dL_law_1063 : decode cL_law 1063 = .ok (.iconst 2, 1) := by decide +kernel
theorem dL_law_1064 : decode cL_law 1064 = .ok (.iadd, 1) := by decide +kernel
theorem dL_law_1065 : decode cL_law 1065 = .ok (.iaload, 1) := by decide +kernel
theorem dL_law_1066 : decode cL_law 1066 = .ok (.invokevirtual 137, 3) := by decide +kernel
theorem dL_law_1069 : decode cL_law 1069 = .ok (.if_icmp .eq 320, 3) := by decide +kernel
theorem dL_law_1072 : decode cL_law 1072 = .ok (.iconst 0, 1) := by decide +kernel
theorem dL_law_1073 : decode cL_law 1073 = .ok (.ireturn, 1) := by decide +kernel
theorem dL_law_1074 : decode cL_law 1074 = .ok (.aload_n 1, 1) := by decide +kernel
theorem dL_law_1075 : decode cL_law 1075 = .ok (.aload_n 0, 1) := by decide +kernel
theorem dL_law_1076 : decode cL_law 1076 = .ok (.iload_n 3, 1) := by decide +kernel
theorem dL_law_1077 : decode cL_law 1077 = .ok (.iconst 1, 1) := by decide +kernel
theorem dL_law_1078 : decode cL_law 1078 = .ok (.iadd, 1) := by decide +kernel
theorem dL_law_1079 : decode cL_law 1079 = .ok (.iaload, 1) := by decide +kernel
theorem dL_law_1080 : decode cL_law 1080 = .ok (.invokevirtual 138, 3) := by decide +kernel
theorem dL_law_1083 : decode cL_law 1083 = .ok (.aload_n 2, 1) := by decide +kernel
theorem dL_law_1084 : decode cL_law 1084 = .ok (.aload_n 0, 1) := by decide +kernel
theorem dL_law_1085 : decode cL_law 1085 = .ok (.iload_n 3, 1) := by decide +kernel
theorem dL_law_1086 : decode cL_law 1086 = .ok (.iconst 1, 1) := by decide +kernel
theorem dL_law_1087 : decode cL_law 1087 = .ok (.iadd, 1) := by decide +kernel
theorem dL_law_1088 : decode cL_law 1088 = .ok (.iaload, 1) := by decide +kernel
theorem dL_law_1089 : decode cL_law 1089 = .ok (.invokevirtual 141, 3) := by decide +kernel
theorem dL_law_1092 : decode cL_law 1092 = .ok (.if_icmp .eq 297, 3) := by decide +kernel
theorem dL_law_1095 : decode cL_law 1095 = .ok (.iconst 0, 1) := by decide +kernel
theorem dL_law_1096 : decode cL_law 1096 = .ok (.ireturn, 1) := by decide +kernel
theorem dL_law_1097 : decode cL_law 1097 = .ok (.aload_n 1, 1) := by decide +kernel
theorem dL_law_1098 : decode cL_law 1098 = .ok (.invokevirtual 142, 3) := by decide +kernel
theorem dL_law_1101 : decode cL_law 1101 = .ok (.aload_n 2, 1) := by decide +kernel
theorem dL_law_1102 : decode cL_law 1102 = .ok (.invokevirtual 145, 3) := by decide +kernel
theorem dL_law_1105 : decode cL_law 1105 = .ok (.if_icmp .eq 284, 3) := by decide +kernel
theorem dL_law_1108 : decode cL_law 1108 = .ok (.iconst 0, 1) := by decide +kernel
theorem dL_law_1109 : decode cL_law 1109 = .ok (.ireturn, 1) := by decide +kernel
theorem dL_law_1110 : decode cL_law 1110 = .ok (.aload_n 1, 1) := by decide +kernel
theorem dL_law_1111 : decode cL_law 1111 = .ok (.aload_n 0, 1) := by decide +kernel
theorem dL_law_1112 : decode cL_law 1112 = .ok (.iload_n 3, 1) := by decide +kernel
theorem dL_law_1113 : decode cL_law 1113 = .ok (.iconst 1, 1) := by decide +kernel
theorem dL_law_1114 : decode cL_law 1114 = .ok (.iadd, 1) := by decide +kernel
theorem dL_law_1115 : decode cL_law 1115 = .ok (.iaload, 1) := by decide +kernel
theorem dL_law_1116 : decode cL_law 1116 = .ok (.invokevirtual 146, 3) := by decide +kernel
theorem dL_law_1119 : decode cL_law 1119 = .ok (.aload_n 2, 1) := by decide +kernel
theorem dL_law_1120 : decode cL_law 1120 = .ok (.aload_n 0, 1) := by decide +kernel
theorem dL_law_1121 : decode cL_law 1121 = .ok (.iload_n 3, 1) := by decide +kernel
theorem dL_law_1122 : decode cL_law 1122 = .ok (.iconst 1, 1) := by decide +kernel
theorem dL_law_1123 : decode cL_law 1123 = .ok (.iadd, 1) := by decide +kernel
theorem dL_law_1124 : decode cL_law 1124 = .ok (.iaload, 1) := by decide +kernel
theorem dL_law_1125 : decode cL_law 1125 = .ok (.invokevirtual 149, 3) := by decide +kernel
theorem dL_law_1128 : decode cL_law 1128 = .ok (.if_icmp .eq 261, 3) := by decide +kernel
theorem dL_law_1131 : decode cL_law 1131 = .ok (.iconst 0, 1) := by decide +kernel
theorem dL_law_1132 : decode cL_law 1132 = .ok (.ireturn, 1) := by decide +kernel
theorem dL_law_1133 : decode cL_law 1133 = .ok (.aload_n 1, 1) := by decide +kernel
theorem dL_law_1134 : decode cL_law 1134 = .ok (.aload_n 0, 1) := by decide +kernel
theorem dL_law_1135 : decode cL_law 1135 = .ok (.iload_n 3, 1) := by decide +kernel
theorem dL_law_1136 : decode cL_law 1136 = .ok (.iconst 1, 1) := by decide +kernel
theorem dL_law_1137 : decode cL_law 1137 = .ok (.iadd, 1) := by decide +kernel
theorem dL_law_1138 : decode cL_law 1138 = .ok (.iaload, 1) := by decide +kernel
theorem dL_law_1139 : decode cL_law 1139 = .ok (.aload_n 0, 1) := by decide +kernel
theorem dL_law_1140 : decode cL_law 1140 = .ok (.iload_n 3, 1) := by decide +kernel
theorem dL_law_1141 : decode cL_law 1141 = .ok (.iconst 2, 1) := by decide +kernel
theorem dL_law_1142 : decode cL_law 1142 = .ok (.iadd, 1) := by decide +kernel
theorem dL_law_1143 : decode cL_law 1143 = .ok (.iaload, 1) := by decide +kernel
theorem dL_law_1144 : decode cL_law 1144 = .ok (.invokevirtual 150, 3) := by decide +kernel
theorem dL_law_1147 : decode cL_law 1147 = .ok (.aload_n 2, 1) := by decide +kernel
theorem dL_law_1148 : decode cL_law 1148 = .ok (.aload_n 0, 1) := by decide +kernel
theorem dL_law_1149 : decode cL_law 1149 = .ok (.iload_n 3, 1) := by decide +kernel
theorem dL_law_1150 : decode cL_law 1150 = .ok (.iconst 1, 1) := by decide +kernel
theorem dL_law_1151 : decode cL_law 1151 = .ok (.iadd, 1) := by decide +kernel
theorem dL_law_1152 : decode cL_law 1152 = .ok (.iaload, 1) := by decide +kernel
theorem dL_law_1153 : decode cL_law 1153 = .ok (.aload_n 0, 1) := by decide +kernel
theorem dL_law_1154 : decode cL_law 1154 = .ok (.iload_n 3, 1) := by decide +kernel
theorem dL_law_1155 : decode cL_law 1155 = .ok (.iconst 2, 1) := by decide +kernel
theorem dL_law_1156 : decode cL_law 1156 = .ok (.iadd, 1) := by decide +kernel
theorem dL_law_1157 : decode cL_law 1157 = .ok (.iaload, 1) := by decide +kernel
theorem dL_law_1158 : decode cL_law 1158 = .ok (.invokevirtual 153, 3) := by decide +kernel
theorem dL_law_1161 : decode cL_law 1161 = .ok (.if_icmp .eq 228, 3) := by decide +kernel
theorem dL_law_1164 : decode cL_law 1164 = .ok (.iconst 0, 1) := by decide +kernel
theorem dL_law_1165 : decode cL_law 1165 = .ok (.ireturn, 1) := by decide +kernel
theorem dL_law_1166 : decode cL_law 1166 = .ok (.aload_n 1, 1) := by decide +kernel
theorem dL_law_1167 : decode cL_law 1167 = .ok (.aload_n 0, 1) := by decide +kernel
theorem dL_law_1168 : decode cL_law 1168 = .ok (.iload_n 3, 1) := by decide +kernel
theorem dL_law_1169 : decode cL_law 1169 = .ok (.iconst 1, 1) := by decide +kernel
theorem dL_law_1170 : decode cL_law 1170 = .ok (.iadd, 1) := by decide +kernel
theorem dL_law_1171 : decode cL_law 1171 = .ok (.iaload, 1) := by decide +kernel
theorem dL_law_1172 : decode cL_law 1172 = .ok (.aload_n 0, 1) := by decide +kernel
theorem dL_law_1173 : decode cL_law 1173 = .ok (.iload_n 3, 1) := by decide +kernel
theorem dL_law_1174 : decode cL_law 1174 = .ok (.iconst 2, 1) := by decide +kernel
theorem dL_law_1175 : decode cL_law 1175 = .ok (.iadd, 1) := by decide +kernel
theorem dL_law_1176 : decode cL_law 1176 = .ok (.iaload, 1) := by decide +kernel
theorem dL_law_1177 : decode cL_law 1177 = .ok (.invokevirtual 154, 3) := by decide +kernel
theorem dL_law_1180 : decode cL_law 1180 = .ok (.aload_n 2, 1) := by decide +kernel
theorem dL_law_1181 : decode cL_law 1181 = .ok (.aload_n 0, 1) := by decide +kernel
theorem dL_law_1182 : decode cL_law 1182 = .ok (.iload_n 3, 1) := by decide +kernel
theorem dL_law_1183 : decode cL_law 1183 = .ok (.iconst 1, 1) := by decide +kernel
theorem dL_law_1184 : decode cL_law 1184 = .ok (.iadd, 1) := by decide +kernel
theorem dL_law_1185 : decode cL_law 1185 = .ok (.iaload, 1) := by decide +kernel
theorem dL_law_1186 : decode cL_law 1186 = .ok (.aload_n 0, 1) := by decide +kernel
theorem dL_law_1187 : decode cL_law 1187 = .ok (.iload_n 3, 1) := by decide +kernel
theorem dL_law_1188 : decode cL_law 1188 = .ok (.iconst 2, 1) := by decide +kernel
theorem dL_law_1189 : decode cL_law 1189 = .ok (.iadd, 1) := by decide +kernel
theorem dL_law_1190 : decode cL_law 1190 = .ok (.iaload, 1) := by decide +kernel
theorem dL_law_1191 : decode cL_law 1191 = .ok (.invokevirtual 157, 3) := by decide +kernel
theorem dL_law_1194 : decode cL_law 1194 = .ok (.if_icmp .eq 195, 3) := by decide +kernel
theorem dL_law_1197 : decode cL_law 1197 = .ok (.iconst 0, 1) := by decide +kernel
theorem dL_law_1198 : decode cL_law 1198 = .ok (.ireturn, 1) := by decide +kernel
theorem dL_law_1199 : decode cL_law 1199 = .ok (.aload_n 1, 1) := by decide +kernel
theorem dL_law_1200 : decode cL_law 1200 = .ok (.aload_n 0, 1) := by decide +kernel
theorem dL_law_1201 : decode cL_law 1201 = .ok (.iload_n 3, 1) := by decide +kernel
theorem dL_law_1202 : decode cL_law 1202 = .ok (.iconst 1, 1) := by decide +kernel
theorem dL_law_1203 : decode cL_law 1203 = .ok (.iadd, 1) := by decide +kernel
theorem dL_law_1204 : decode cL_law 1204 = .ok (.iaload, 1) := by decide +kernel
theorem dL_law_1205 : decode cL_law 1205 = .ok (.aload_n 0, 1) := by decide +kernel
theorem dL_law_1206 : decode cL_law 1206 = .ok (.iload_n 3, 1) := by decide +kernel
theorem dL_law_1207 : decode cL_law 1207 = .ok (.iconst 2, 1) := by decide +kernel
theorem dL_law_1208 : decode cL_law 1208 = .ok (.iadd, 1) := by decide +kernel
theorem dL_law_1209 : decode cL_law 1209 = .ok (.iaload, 1) := by decide +kernel
theorem dL_law_1210 : decode cL_law 1210 = .ok (.aload_n 0, 1) := by decide +kernel
theorem dL_law_1211 : decode cL_law 1211 = .ok (.iload_n 3, 1) := by decide +kernel
theorem dL_law_1212 : decode cL_law 1212 = .ok (.iconst 3, 1) := by decide +kernel
theorem dL_law_1213 : decode cL_law 1213 = .ok (.iadd, 1) := by decide +kernel
theorem dL_law_1214 : decode cL_law 1214 = .ok (.iaload, 1) := by decide +kernel
theorem dL_law_1215 : decode cL_law 1215 = .ok (.invokevirtual 158, 3) := by decide +kernel
theorem dL_law_1218 : decode cL_law 1218 = .ok (.aload_n 2, 1) := by decide +kernel
theorem dL_law_1219 : decode cL_law 1219 = .ok (.aload_n 0, 1) := by decide +kernel
theorem dL_law_1220 : decode cL_law 1220 = .ok (.iload_n 3, 1) := by decide +kernel
theorem dL_law_1221 : decode cL_law 1221 = .ok (.iconst 1, 1) := by decide +kernel
theorem dL_law_1222 : decode cL_law 1222 = .ok (.iadd, 1) := by decide +kernel
theorem dL_law_1223 : decode cL_law 1223 = .ok (.iaload, 1) := by decide +kernel
theorem dL_law_1224 : decode cL_law 1224 = .ok (.aload_n 0, 1) := by decide +kernel
theorem dL_law_1225 : decode cL_law 1225 = .ok (.iload_n 3, 1) := by decide +kernel
theorem dL_law_1226 : decode cL_law 1226 = .ok (.iconst 2, 1) := by decide +kernel
theorem dL_law_1227 : decode cL_law 1227 = .ok (.iadd, 1) := by decide +kernel
theorem dL_law_1228 : decode cL_law 1228 = .ok (.iaload, 1) := by decide +kernel
theorem dL_law_1229 : decode cL_law 1229 = .ok (.aload_n 0, 1) := by decide +kernel
theorem dL_law_1230 : decode cL_law 1230 = .ok (.iload_n 3, 1) := by decide +kernel
theorem dL_law_1231 : decode cL_law 1231 = .ok (.iconst 3, 1) := by decide +kernel
theorem dL_law_1232 : decode cL_law 1232 = .ok (.iadd, 1) := by decide +kernel
theorem dL_law_1233 : decode cL_law 1233 = .ok (.iaload, 1) := by decide +kernel
theorem dL_law_1234 : decode cL_law 1234 = .ok (.invokevirtual 161, 3) := by decide +kernel
theorem dL_law_1237 : decode cL_law 1237 = .ok (.if_icmp .eq 152, 3) := by decide +kernel
theorem dL_law_1240 : decode cL_law 1240 = .ok (.iconst 0, 1) := by decide +kernel
theorem dL_law_1241 : decode cL_law 1241 = .ok (.ireturn, 1) := by decide +kernel
theorem dL_law_1242 : decode cL_law 1242 = .ok (.aload_n 1, 1) := by decide +kernel
theorem dL_law_1243 : decode cL_law 1243 = .ok (.aload_n 0, 1) := by decide +kernel
theorem dL_law_1244 : decode cL_law 1244 = .ok (.iload_n 3, 1) := by decide +kernel
theorem dL_law_1245 : decode cL_law 1245 = .ok (.iconst 1, 1) := by decide +kernel
theorem dL_law_1246 : decode cL_law 1246 = .ok (.iadd, 1) := by decide +kernel
theorem dL_law_1247 : decode cL_law 1247 = .ok (.iaload, 1) := by decide +kernel
theorem dL_law_1248 : decode cL_law 1248 = .ok (.aload_n 0, 1) := by decide +kernel
theorem dL_law_1249 : decode cL_law 1249 = .ok (.iload_n 3, 1) := by decide +kernel
theorem dL_law_1250 : decode cL_law 1250 = .ok (.iconst 2, 1) := by decide +kernel
theorem dL_law_1251 : decode cL_law 1251 = .ok (.iadd, 1) := by decide +kernel
theorem dL_law_1252 : decode cL_law 1252 = .ok (.iaload, 1) := by decide +kernel
theorem dL_law_1253 : decode cL_law 1253 = .ok (.invokevirtual 162, 3) := by decide +kernel
theorem dL_law_1256 : decode cL_law 1256 = .ok (.aload_n 2, 1) := by decide +kernel
theorem dL_law_1257 : decode cL_law 1257 = .ok (.aload_n 0, 1) := by decide +kernel
theorem dL_law_1258 : decode cL_law 1258 = .ok (.iload_n 3, 1) := by decide +kernel
theorem dL_law_1259 : decode cL_law 1259 = .ok (.iconst 1, 1) := by decide +kernel
theorem dL_law_1260 : decode cL_law 1260 = .ok (.iadd, 1) := by decide +kernel
theorem dL_law_1261 : decode cL_law 1261 = .ok (.iaload, 1) := by decide +kernel
theorem dL_law_1262 : decode cL_law 1262 = .ok (.aload_n 0, 1) := by decide +kernel
theorem dL_law_1263 : decode cL_law 1263 = .ok (.iload_n 3, 1) := by decide +kernel
theorem dL_law_1264 : decode cL_law 1264 = .ok (.iconst 2, 1) := by decide +kernel
theorem dL_law_1265 : decode cL_law 1265 = .ok (.iadd, 1) := by decide +kernel
theorem dL_law_1266 : decode cL_law 1266 = .ok (.iaload, 1) := by decide +kernel
theorem dL_law_1267 : decode cL_law 1267 = .ok (.invokevirtual 165, 3) := by decide +kernel
theorem dL_law_1270 : decode cL_law 1270 = .ok (.if_icmp .eq 119, 3) := by decide +kernel
theorem dL_law_1273 : decode cL_law 1273 = .ok (.iconst 0, 1) := by decide +kernel
theorem dL_law_1274 : decode cL_law 1274 = .ok (.ireturn, 1) := by decide +kernel
theorem dL_law_1275 : decode cL_law 1275 = .ok (.aload_n 1, 1) := by decide +kernel
theorem dL_law_1276 : decode cL_law 1276 = .ok (.invokevirtual 166, 3) := by decide +kernel
theorem dL_law_1279 : decode cL_law 1279 = .ok (.aload_n 2, 1) := by decide +kernel
theorem dL_law_1280 : decode cL_law 1280 = .ok (.invokevirtual 169, 3) := by decide +kernel
theorem dL_law_1283 : decode cL_law 1283 = .ok (.if_icmp .eq 106, 3) := by decide +kernel
theorem dL_law_1286 : decode cL_law 1286 = .ok (.iconst 0, 1) := by decide +kernel
theorem dL_law_1287 : decode cL_law 1287 = .ok (.ireturn, 1) := by decide +kernel
theorem dL_law_1288 : decode cL_law 1288 = .ok (.aload_n 1, 1) := by decide +kernel
theorem dL_law_1289 : decode cL_law 1289 = .ok (.invokevirtual 170, 3) := by decide +kernel
theorem dL_law_1292 : decode cL_law 1292 = .ok (.aload_n 2, 1) := by decide +kernel
theorem dL_law_1293 : decode cL_law 1293 = .ok (.invokevirtual 174, 3) := by decide +kernel
theorem dL_law_1296 : decode cL_law 1296 = .ok (.lcmp, 1) := by decide +kernel
theorem dL_law_1297 : decode cL_law 1297 = .ok (.ifCond .eq 92, 3) := by decide +kernel
theorem dL_law_1300 : decode cL_law 1300 = .ok (.iconst 0, 1) := by decide +kernel
theorem dL_law_1301 : decode cL_law 1301 = .ok (.ireturn, 1) := by decide +kernel
theorem dL_law_1302 : decode cL_law 1302 = .ok (.aload_n 1, 1) := by decide +kernel
theorem dL_law_1303 : decode cL_law 1303 = .ok (.invokevirtual 175, 3) := by decide +kernel
theorem dL_law_1306 : decode cL_law 1306 = .ok (.aload_n 2, 1) := by decide +kernel
theorem dL_law_1307 : decode cL_law 1307 = .ok (.invokevirtual 178, 3) := by decide +kernel
theorem dL_law_1310 : decode cL_law 1310 = .ok (.lcmp, 1) := by decide +kernel
theorem dL_law_1311 : decode cL_law 1311 = .ok (.ifCond .eq 78, 3) := by decide +kernel
theorem dL_law_1314 : decode cL_law 1314 = .ok (.iconst 0, 1) := by decide +kernel
theorem dL_law_1315 : decode cL_law 1315 = .ok (.ireturn, 1) := by decide +kernel
theorem dL_law_1316 : decode cL_law 1316 = .ok (.aload_n 1, 1) := by decide +kernel
theorem dL_law_1317 : decode cL_law 1317 = .ok (.aload_n 0, 1) := by decide +kernel
theorem dL_law_1318 : decode cL_law 1318 = .ok (.iload_n 3, 1) := by decide +kernel
theorem dL_law_1319 : decode cL_law 1319 = .ok (.iconst 1, 1) := by decide +kernel
theorem dL_law_1320 : decode cL_law 1320 = .ok (.iadd, 1) := by decide +kernel
theorem dL_law_1321 : decode cL_law 1321 = .ok (.iaload, 1) := by decide +kernel
theorem dL_law_1322 : decode cL_law 1322 = .ok (.invokevirtual 179, 3) := by decide +kernel
theorem dL_law_1325 : decode cL_law 1325 = .ok (.aload_n 2, 1) := by decide +kernel
theorem dL_law_1326 : decode cL_law 1326 = .ok (.aload_n 0, 1) := by decide +kernel
theorem dL_law_1327 : decode cL_law 1327 = .ok (.iload_n 3, 1) := by decide +kernel
theorem dL_law_1328 : decode cL_law 1328 = .ok (.iconst 1, 1) := by decide +kernel
theorem dL_law_1329 : decode cL_law 1329 = .ok (.iadd, 1) := by decide +kernel
theorem dL_law_1330 : decode cL_law 1330 = .ok (.iaload, 1) := by decide +kernel
theorem dL_law_1331 : decode cL_law 1331 = .ok (.invokevirtual 182, 3) := by decide +kernel
theorem dL_law_1334 : decode cL_law 1334 = .ok (.if_icmp .eq 55, 3) := by decide +kernel
theorem dL_law_1337 : decode cL_law 1337 = .ok (.iconst 0, 1) := by decide +kernel
theorem dL_law_1338 : decode cL_law 1338 = .ok (.ireturn, 1) := by decide +kernel
theorem dL_law_1339 : decode cL_law 1339 = .ok (.aload_n 1, 1) := by decide +kernel
theorem dL_law_1340 : decode cL_law 1340 = .ok (.invokevirtual 183, 3) := by decide +kernel
theorem dL_law_1343 : decode cL_law 1343 = .ok (.aload_n 2, 1) := by decide +kernel
theorem dL_law_1344 : decode cL_law 1344 = .ok (.invokevirtual 186, 3) := by decide +kernel
theorem dL_law_1347 : decode cL_law 1347 = .ok (.if_icmp .eq 42, 3) := by decide +kernel
theorem dL_law_1350 : decode cL_law 1350 = .ok (.iconst 0, 1) := by decide +kernel
theorem dL_law_1351 : decode cL_law 1351 = .ok (.ireturn, 1) := by decide +kernel
theorem dL_law_1352 : decode cL_law 1352 = .ok (.aload_n 1, 1) := by decide +kernel
theorem dL_law_1353 : decode cL_law 1353 = .ok (.aload_n 0, 1) := by decide +kernel
theorem dL_law_1354 : decode cL_law 1354 = .ok (.iload_n 3, 1) := by decide +kernel
theorem dL_law_1355 : decode cL_law 1355 = .ok (.iconst 1, 1) := by decide +kernel
theorem dL_law_1356 : decode cL_law 1356 = .ok (.iadd, 1) := by decide +kernel
theorem dL_law_1357 : decode cL_law 1357 = .ok (.iaload, 1) := by decide +kernel
theorem dL_law_1358 : decode cL_law 1358 = .ok (.invokevirtual 187, 3) := by decide +kernel
theorem dL_law_1361 : decode cL_law 1361 = .ok (.aload_n 2, 1) := by decide +kernel
theorem dL_law_1362 : decode cL_law 1362 = .ok (.aload_n 0, 1) := by decide +kernel
theorem dL_law_1363 : decode cL_law 1363 = .ok (.iload_n 3, 1) := by decide +kernel
theorem dL_law_1364 : decode cL_law 1364 = .ok (.iconst 1, 1) := by decide +kernel
theorem dL_law_1365 : decode cL_law 1365 = .ok (.iadd, 1) := by decide +kernel
theorem dL_law_1366 : decode cL_law 1366 = .ok (.iaload, 1) := by decide +kernel
theorem dL_law_1367 : decode cL_law 1367 = .ok (.invokevirtual 190, 3) := by decide +kernel
theorem dL_law_1370 : decode cL_law 1370 = .ok (.if_icmp .eq 19, 3) := by decide +kernel
theorem dL_law_1373 : decode cL_law 1373 = .ok (.iconst 0, 1) := by decide +kernel
theorem dL_law_1374 : decode cL_law 1374 = .ok (.ireturn, 1) := by decide +kernel
theorem dL_law_1375 : decode cL_law 1375 = .ok (.aload_n 1, 1) := by decide +kernel
theorem dL_law_1376 : decode cL_law 1376 = .ok (.invokevirtual 191, 3) := by decide +kernel
theorem dL_law_1379 : decode cL_law 1379 = .ok (.aload_n 2, 1) := by decide +kernel
theorem dL_law_1380 : decode cL_law 1380 = .ok (.invokevirtual 194, 3) := by decide +kernel
theorem dL_law_1383 : decode cL_law 1383 = .ok (.lcmp, 1) := by decide +kernel
theorem dL_law_1384 : decode cL_law 1384 = .ok (.ifCond .eq 5, 3) := by decide +kernel
theorem dL_law_1387 : decode cL_law 1387 = .ok (.iconst 0, 1) := by decide +kernel
theorem dL_law_1388 : decode cL_law 1388 = .ok (.ireturn, 1) := by decide +kernel
theorem dL_law_1389 : decode cL_law 1389 = .ok (.iinc 3 6, 3) := by decide +kernel
theorem dL_law_1392 : decode cL_law 1392 = .ok (.goto (-1374), 3) := by decide +kernel
theorem dL_law_1395 : decode cL_law 1395 = .ok (.iconst 1, 1) := by decide +kernel
theorem dL_law_1396 : decode cL_law 1396 = .ok (.ireturn, 1) := by decide +kernel
end
section
/-! ===== THE CORE: one judgement (ORuns) over the kit's W, with a typed picture of all cells ===== -/
def GW : List Cond := lw_tbl.filter goodWord
theorem gw_in {w : Cond} (i : Nat) (hm : lw_tbl[i]? = some w) (hg : goodWord w = true) : w ∈ GW := List.mem_filter.mpr ⟨List.mem_of_getElem? hm, hg⟩
theorem gw_good : GoodIn GW GW := fun w h => ⟨h, good_of_word (List.mem_filter.mp h).2⟩
/-- a method: name, code, locals, return type -/
abbrev MI : Type := MethodName × ByteArray × Nat × Option FieldType
def miCode (mi : MI) : Cond := Cond.code mi.1 mi.2.1 mi.2.2.1 mi.2.2.2
def wsM (mi : MI) : List Cond := miCode mi :: GW
theorem gw_wsM {mi : MI} (h : miCode mi ∈ GW) : GoodIn GW (wsM mi) := fun w hw => by
  rcases List.mem_cons.mp hw with e | e
  · rw [e]; exact gw_good _ h
  · exact gw_good _ e
/-- the launch, the base of our cells (cell a lies at base + a), the classes, the array classes, the script -/
abbrev OG : Type := Launch × Nat × va_G × (Nat → ClassId) × Nat × Cell
abbrev og_l (g : OG) : Launch := g.1
abbrev og_b (g : OG) : Nat := g.2.1
abbrev og_D (g : OG) : va_G := g.2.2.1
abbrev og_A (g : OG) : Nat → ClassId := g.2.2.2.1
abbrev og_s (g : OG) : Nat := g.2.2.2.2.1
abbrev og_c (g : OG) : Cell := g.2.2.2.2.2
def og_tys (g : OG) : List (ClassId × FieldType) := [(og_A g 11, .int), (og_A g 12, .byte), (og_A g 13, .boolean), (og_A g 14, .object "OneMatch$Row"), (og_A g 15, .object "OneMatch$Text"), (og_A g 16, .object "OneMatch$Campaign"), (og_A g 17, .object "OneMatch$Fire")]
/-- the cells: how many, what kind, how long; their ints, longs, references (0: null) -/
abbrev OH : Type := (Nat × (Nat → Nat) × (Nat → Nat)) × (Nat → Nat → Int32) × (Nat → Nat → Int64) × (Nat → Nat → Nat)
abbrev oh_n (h : OH) : Nat := h.1.1
abbrev oh_t (h : OH) : Nat → Nat := h.1.2.1
abbrev oh_z (h : OH) : Nat → Nat := h.1.2.2
abbrev oh_I (h : OH) : Nat → Nat → Int32 := h.2.1
abbrev oh_L (h : OH) : Nat → Nat → Int64 := h.2.2.1
abbrev oh_R (h : OH) : Nat → Nat → Nat := h.2.2.2
def set2 (I : Nat → Nat → Int32) (a k : Nat) (v : Int32) : Nat → Nat → Int32 := fun b => if b = a then upd (I a) k v else I b
def set2L (L : Nat → Nat → Int64) (a k : Nat) (v : Int64) : Nat → Nat → Int64 := fun b => if b = a then vp_updL (L a) k v else L b
def set2R (R : Nat → Nat → Nat) (a k v : Nat) : Nat → Nat → Nat := fun b => if b = a then va_up (R a) k v else R b
def oh_setI (h : OH) (a k : Nat) (v : Int32) : OH := (h.1, set2 h.2.1 a k v, h.2.2.1, h.2.2.2)
def oh_setL (h : OH) (a k : Nat) (v : Int64) : OH := (h.1, h.2.1, set2L h.2.2.1 a k v, h.2.2.2)
def oh_setR (h : OH) (a k v : Nat) : OH := (h.1, h.2.1, h.2.2.1, set2R h.2.2.2 a k v)
def oh_setRow (h : OH) (a : Nat) (f : Nat → Int32) : OH := (h.1, (fun b => if b = a then f else h.2.1 b), h.2.2.1, h.2.2.2)
def or_e (b r : Nat) : Option Nat := if r = 0 then none else some (b + r)
/-- the kinds of the fields: 0 an int (byte, boolean), 1 a long, 2 a reference -/
def fkT : List (List Nat) := [[2,2,2,0,0],[2,2,2,0,0,0,0],[2,2,2,0,0],[2,2,0,0,1,1],[2,2,2,0,0,0,0,0,0,0],[],[2,0],[2,2,2,0,0],[2,0],[2,2,2,2,2,2,2,2,2,2,2,2,2,0,0,1,1],[0,2,0,1,1,2,2,2,2,2,0,0,2,2,2,0,0,0,2,2,2,2,0,2,2,2,2,2,2,2,2,0,0,0,0,0,0,1]]
def fk (t k : Nat) : Nat := (fkT.getD t []).getD k 0
def fNT : List Nat := [5,7,5,6,10,0,2,5,2,17,38]
def fN (t : Nat) : Nat := fNT.getD t 0
def fval (g : OG) (h : OH) (t a k : Nat) : Value := if fk t k = 0 then .int (oh_I h a k) else if fk t k = 1 then .long (oh_L h a k) else va_rf (or_e (og_b g) (oh_R h a k))
def cellOf (g : OG) (h : OH) (a : Nat) : va_E :=
  if oh_t h a < 11 then .inr (oh_t h a, (List.range (fN (oh_t h a))).map (fval g h (oh_t h a) a))
  else if oh_t h a < 14 then .inl (og_A g (oh_t h a), oh_z h a, .inl (oh_I h a))
  else .inl (og_A g (oh_t h a), oh_z h a, .inr (.inr (.inr (.inr (fun i => or_e (og_b g) (oh_R h a i))))))
def wsO (g : OG) (h : OH) : va_W := (List.range (oh_n h)).map (fun i => (og_b g + (i + 1), cellOf g h (i + 1)))
theorem wsO_at {g : OG} {h : OH} {i : Nat} (hi : i < oh_n h) : (wsO g h)[i]? = some (og_b g + (i + 1), cellOf g h (i + 1)) := by
  simp [wsO, hi]
theorem wsO_len (g : OG) (h : OH) : (wsO g h).length = oh_n h := by simp [wsO]
theorem wsO_inv {g : OG} {h : OH} {i : Nat} {q : Nat × va_E} (e : (wsO g h)[i]? = some q) : i < oh_n h ∧ q.1 = og_b g + (i + 1) := by
  have hl : i < (wsO g h).length := (List.getElem?_eq_some_iff.mp e).1
  rw [wsO_len] at hl
  rw [wsO_at hl] at e
  cases e
  exact ⟨hl, rfl⟩
theorem wsO_set {g : OG} {h h' : OH} {i : Nat} (hn : oh_n h' = oh_n h) (ho : ∀ a, a ≠ i + 1 → cellOf g h' a = cellOf g h a) : (wsO g h).set i (og_b g + (i + 1), cellOf g h' (i + 1)) = wsO g h' := by
  apply List.ext_getElem?
  intro j
  rw [List.getElem?_set]
  by_cases hj : i = j
  · subst hj
    rw [if_pos rfl, wsO_len]
    by_cases hl : i < oh_n h
    · rw [if_pos hl, wsO_at (by rw [hn]; exact hl)]
    · rw [if_neg hl, List.getElem?_eq_none (by rw [wsO_len, hn]; exact Nat.le_of_not_lt hl)]
  · rw [if_neg hj]
    by_cases hl : j < oh_n h
    · rw [wsO_at hl, wsO_at (by rw [hn]; exact hl), ho (j + 1) (by omega)]
    · rw [List.getElem?_eq_none (by rw [wsO_len]; exact Nat.le_of_not_lt hl), List.getElem?_eq_none (by rw [wsO_len, hn]; exact Nat.le_of_not_lt hl)]
theorem wsO_D (g : OG) (h : OH) : va_D (fun q => og_b g < q) (wsO g h) := by
  refine ⟨fun i j p q hp hq e => ?_, fun k q hq => ?_⟩
  · have h1 := (wsO_inv hp).2
    have h2 := (wsO_inv hq).2
    omega
  · have h1 := (wsO_inv hq).2
    show og_b g < q.1
    omega
/-- the heap holds the picture, and the script as it was -/
def HOk (g : OG) (h : OH) (H : Heap) : Prop := H.size = og_b g + 1 + oh_n h ∧ va_P (og_D g) vwCl (wsO g h) H ∧ H[og_s g]? = some (og_c g) ∧ og_s g ≤ og_b g
def nW1 : Cond := .methodLinkNest RX10 15 yX7_init RX10
def nW2 : Cond := .methodLinkNest RX10 22 yX9_init RX10
def nW3 : Cond := .methodLinkNest RX10 25 yX3_init RX10
def nW4 : Cond := .methodLinkNest RX10 45 yX6_init RX10
def nW5 : Cond := .fieldLinkNest RX1 45 RX3 "kinds" "[I" RX10
def nW6 : Cond := .fieldLinkNest RX1 118 RX3 "needs" "[I" RX10
def KN (U : State) : Prop := (va_Nw nW1 U ∧ va_Nw nW2 U ∧ va_Nw nW3 U ∧ va_Nw nW4 U) ∧ va_Nw nW5 U ∧ va_Nw nW6 U
def KA (U : State) : Prop := va_AO "OneMatch$Row" U ∧ va_AO "OneMatch$Text" U ∧ va_AO "OneMatch$Campaign" U ∧ va_AO "OneMatch$Fire" U
/-- the script is an array of ints -/
def KS (g : OG) (U : State) : Prop := U.isArrayOf (og_c g) .int ∧ (og_c g).vm ≠ .unknown
def KOk (g : OG) (U : State) : Prop := va_K (og_D g) vwCl (og_tys g) U ∧ KN U ∧ KA U ∧ KS g U
theorem KOk.warm {g : OG} {s U : State} (hW : s.WarmedH U.vm) (h : KOk g s) : KOk g U := by
  obtain ⟨h1, ⟨⟨a1, a2, a3, a4⟩, a5, a6⟩, ⟨b1, b2, b3, b4⟩, c1, c2⟩ := h
  exact ⟨va_K.moved hW.alike h1, ⟨⟨va_Nw.warmM hW a1, va_Nw.warmM hW a2, va_Nw.warmM hW a3, va_Nw.warmM hW a4⟩, va_Nw.warmF hW a5, va_Nw.warmF hW a6⟩, ⟨va_AO.moved hW.alike b1, va_AO.moved hW.alike b2, va_AO.moved hW.alike b3, va_AO.moved hW.alike b4⟩, State.isArrayOf_alike hW.alike c1, c2⟩
theorem KOk.same {g : OG} {u U : State} (e : u.vm = U.vm) (h : KOk g u) : KOk g U := by
  obtain ⟨h1, ⟨⟨a1, a2, a3, a4⟩, a5, a6⟩, ⟨b1, b2, b3, b4⟩, c1, c2⟩ := h
  have ha : u.vm.Alike U.vm := by rw [e]; exact Vm.Alike.refl U.vm
  exact ⟨va_K.moved ha h1, ⟨⟨va_Nw.same rfl e a1, va_Nw.same rfl e a2, va_Nw.same rfl e a3, va_Nw.same rfl e a4⟩, va_Nw.same rfl e a5, va_Nw.same rfl e a6⟩, ⟨va_AO.moved ha b1, va_AO.moved ha b2, va_AO.moved ha b3, va_AO.moved ha b4⟩, State.isArrayOf_alike ha c1, c2⟩
abbrev OQ : Type := Option Value → OH → Prop
def QC (g : OG) (Q : OQ) : Array Value → State → Outcome → State → Prop := fun _ _ oc t => ∃ (v : Option Value) (h' : OH), oc = .returned v ∧ Q v h' ∧ HOk g h' t.heap
def PCO (g : OG) (args : List Value) (h : OH) : Array Value → State → Prop := va_Pc args (fun U => HOk g h U.heap ∧ KOk g U)
def roomO (d mc ms : Nat) : Room := { frames := d, cells := mc, slots := ms, locals := 64 * d }
/-- the method mi, called with args over h, comes back with Q -/
def OCall (g : OG) (d mc ms : Nat) (mi : MI) (args : List Value) (h : OH) (Q : OQ) : Prop :=
  Met (og_l g) mi.1 (wsM mi) (roomO d mc ms) (PCO g args h) (QC g Q) mc ms (fun q => og_b g < q)
def RC (g : OG) (mi : MI) (d : Nat) (p : Program) (R : Room) (s : State) (m : MethodId) (args : Array Value) (meth : Method) (c : Code) (tc ts : Nat) : Prop :=
  p.tables.exec = Jvm.exec ∧ c.code = mi.2.1 ∧ c.maxLocals = mi.2.2.1 ∧ s.vm.findClass mi.1.cls = some m.cls ∧ (∀ w ∈ GW, w.before args s = true) ∧ KOk g s ∧ meth.sig.returnType = mi.2.2.2 ∧ meth.locks = false ∧ meth.name = mi.1.name ∧ d ≤ R.frames ∧ 64 * d ≤ R.locals ∧ tc ≤ R.cells ∧ ts ≤ R.slots
/-- the method mi at pc, with locals lv and stack st, over h, comes back with Q; it may still make mc cells of ms slots -/
def ORuns (g : OG) (d mc ms : Nat) (mi : MI) (pc : Nat) (lv : List (Nat × Value)) (st : List Value) (h : OH) (Q : OQ) : Prop :=
  ∀ (p : Program) (e : Env) (R : Room) (s : State) (m : MethodId) (args : Array Value) (below : List Frame) (meth : Method) (c : Code) (H : Heap) (locs : List Loc) (cells slots tc ts : Nat) (ls : Array Slot),
    RC g mi d p R s m args meth c tc ts → cells + mc ≤ tc → slots + ms ≤ ts → HOk g h H → va_S (fun q => og_b g < q) s.heap H locs → lv_has ls mi.2.2.1 lv →
    W p (og_l g) e R s m args below meth c H locs cells slots (MQ below (QC g Q) args s tc ts (fun q => og_b g < q)) (F0 m pc ls st)
theorem ocall_of {g : OG} {d mc ms : Nat} {mi : MI} {args : List Value} {h : OH} {Q : OQ} (hpl : plainName mi.1.cls = true) (hfit : (lg_sl args).length ≤ mi.2.2.1)
    (k : ORuns g d mc ms mi 0 (lv_args 0 args) [] h Q) : OCall g d mc ms mi args h Q := by
  refine Met.ofW (cc := mi.2.1) (maxL := mi.2.2.1) (ret := mi.2.2.2) hpl rfl ?_
  intro p e s m args' below meth c s₁ B hml hv
  obtain ⟨rfl, hH, hK⟩ := hv
  have hts := atoms_spec (ws := wsM mi) B.pre
  have hl := lv_entry args (n := mi.2.2.1) hfit
  rw [lg_entry_eq]
  exact k p e _ s m _ below meth c s.heap [] 0 0 mc ms _ ⟨B.exec, B.bytes, hml, findClass_of_methodNamed B.named, fun w hw => hts w (List.mem_cons_of_mem _ hw), hK, B.returns, B.notSynchronized, (name_of_methodNamed B.named B.method).1, Nat.le_refl _, Nat.le_refl _, Nat.le_refl _, Nat.le_refl _⟩ (by omega) (by omega) hH va_S.rf hl
theorem pco_blind (g : OG) (args : List Value) (h : OH) : FrameBlind (PCO g args h) := fun _ _ _ _ q => by
  obtain ⟨e, hH, hK⟩ := q
  exact ⟨e, hH, KOk.same rfl hK⟩
theorem oruns_mono {g : OG} {d mc ms : Nat} {mi : MI} {pc : Nat} {lv : List (Nat × Value)} {st : List Value} {h : OH} {Q Q' : OQ} (hq : ∀ v h', Q v h' → Q' v h') (k : ORuns g d mc ms mi pc lv st h Q) : ORuns g d mc ms mi pc lv st h Q' := by
  intro p e R s m args below meth c H locs cells slots tc ts ls C hc hs hH hS hl T hT X
  obtain ⟨t, a, o, b1, b2, ⟨v, h', c1, c2, c3⟩, b4⟩ := k p e R s m args below meth c H locs cells slots tc ts ls C hc hs hH hS hl T hT X
  exact ⟨t, a, o, b1, b2, ⟨v, h', c1, hq _ _ c2, c3⟩, b4⟩
theorem ocall_mono {g : OG} {d mc ms : Nat} {mi : MI} {args : List Value} {h : OH} {Q Q' : OQ} (hq : ∀ v h', Q v h' → Q' v h') (k : OCall g d mc ms mi args h Q) : OCall g d mc ms mi args h Q' := by
  have hi : ∀ (a : Array Value) (st : State) (o : Outcome) (t : State), QC g Q a st o t → QC g Q' a st o t := fun _ _ _ _ ⟨v, h', c1, c2, c3⟩ => ⟨v, h', c1, hq _ _ c2, c3⟩
  unfold OCall Met MetFree at k ⊢
  intro p e ha hc hk s m args below hf happ hpre hk2
  obtain ⟨n, o, b1, b2, b3, b4, b5⟩ := k p e ha hc hk s m args below hf happ hpre hk2
  exact ⟨n, o, b1, b2, b3, hi _ _ _ _ b4, b5⟩
end
section
theorem zz_ok : True := trivial
end
