section
-- ===== PART A: goes FIRST, ahead of the names: the tables' words, and 'selects' of the private methods out of them =====
/-- a private method of a class that the tables say can be made, by its rows of tables_1 -/
def lw_okq (q : MethodName × Nat) : Prop := (q.1.cls ≠ "java/lang/invoke/MethodHandle" ∧ q.1.cls ≠ "java/lang/invoke/VarHandle") ∧ Cond.instantiable q.1.cls q.2 ∈ tables_1 ∧ Cond.privateMethod q.1 ∈ tables_1 ∧ Cond.instanceMethod q.1 ∈ tables_1
theorem lw_p0 : lw_okq (⟨"SixMaps", "isMark", "(I)Z"⟩, 11) := ⟨⟨by decide +kernel, by decide +kernel⟩, List.mem_of_getElem? (i := 17) (by decide +kernel), List.mem_of_getElem? (i := 472) (by decide +kernel), List.mem_of_getElem? (i := 473) (by decide +kernel)⟩
theorem lw_p1 : lw_okq (⟨"SixMaps", "digAt", "(III)V"⟩, 11) := ⟨⟨by decide +kernel, by decide +kernel⟩, List.mem_of_getElem? (i := 17) (by decide +kernel), List.mem_of_getElem? (i := 523) (by decide +kernel), List.mem_of_getElem? (i := 524) (by decide +kernel)⟩
theorem lw_p2 : lw_okq (⟨"SixMaps", "takeTurn", "(I)V"⟩, 11) := ⟨⟨by decide +kernel, by decide +kernel⟩, List.mem_of_getElem? (i := 17) (by decide +kernel), List.mem_of_getElem? (i := 762) (by decide +kernel), List.mem_of_getElem? (i := 763) (by decide +kernel)⟩
theorem lw_p3 : lw_okq (⟨"SixMaps", "tradeByDraws", "(I)V"⟩, 11) := ⟨⟨by decide +kernel, by decide +kernel⟩, List.mem_of_getElem? (i := 17) (by decide +kernel), List.mem_of_getElem? (i := 766) (by decide +kernel), List.mem_of_getElem? (i := 767) (by decide +kernel)⟩
theorem lw_p4 : lw_okq (⟨"SixMapsModel", "bare", "()V"⟩, 56) := ⟨⟨by decide +kernel, by decide +kernel⟩, List.mem_of_getElem? (i := 795) (by decide +kernel), List.mem_of_getElem? (i := 801) (by decide +kernel), List.mem_of_getElem? (i := 802) (by decide +kernel)⟩
theorem lw_p5 : lw_okq (⟨"SixMapsModel", "here", "()I"⟩, 56) := ⟨⟨by decide +kernel, by decide +kernel⟩, List.mem_of_getElem? (i := 795) (by decide +kernel), List.mem_of_getElem? (i := 989) (by decide +kernel), List.mem_of_getElem? (i := 990) (by decide +kernel)⟩
theorem lw_p6 : lw_okq (⟨"SixMapsModel", "takeClause", "()I"⟩, 56) := ⟨⟨by decide +kernel, by decide +kernel⟩, List.mem_of_getElem? (i := 795) (by decide +kernel), List.mem_of_getElem? (i := 993) (by decide +kernel), List.mem_of_getElem? (i := 994) (by decide +kernel)⟩
theorem lw_p7 : lw_okq (⟨"SixMapsModel", "readWord", "()V"⟩, 56) := ⟨⟨by decide +kernel, by decide +kernel⟩, List.mem_of_getElem? (i := 795) (by decide +kernel), List.mem_of_getElem? (i := 997) (by decide +kernel), List.mem_of_getElem? (i := 998) (by decide +kernel)⟩
theorem lw_p8 : lw_okq (⟨"SixMapsModel", "clauseOf", "()I"⟩, 56) := ⟨⟨by decide +kernel, by decide +kernel⟩, List.mem_of_getElem? (i := 795) (by decide +kernel), List.mem_of_getElem? (i := 1007) (by decide +kernel), List.mem_of_getElem? (i := 1008) (by decide +kernel)⟩
theorem lw_p9 : lw_okq (⟨"SixMapsModel", "fails", "(II)I"⟩, 56) := ⟨⟨by decide +kernel, by decide +kernel⟩, List.mem_of_getElem? (i := 795) (by decide +kernel), List.mem_of_getElem? (i := 1017) (by decide +kernel), List.mem_of_getElem? (i := 1018) (by decide +kernel)⟩
theorem lw_p10 : lw_okq (⟨"SixMapsModel", "takeOf", "(I)I"⟩, 56) := ⟨⟨by decide +kernel, by decide +kernel⟩, List.mem_of_getElem? (i := 795) (by decide +kernel), List.mem_of_getElem? (i := 1024) (by decide +kernel), List.mem_of_getElem? (i := 1025) (by decide +kernel)⟩
theorem lw_p11 : lw_okq (⟨"SixMapsModel", "takeMark", "()I"⟩, 56) := ⟨⟨by decide +kernel, by decide +kernel⟩, List.mem_of_getElem? (i := 795) (by decide +kernel), List.mem_of_getElem? (i := 1028) (by decide +kernel), List.mem_of_getElem? (i := 1029) (by decide +kernel)⟩
theorem lw_p12 : lw_okq (⟨"SixMapsModel", "takeNumber", "(II)I"⟩, 56) := ⟨⟨by decide +kernel, by decide +kernel⟩, List.mem_of_getElem? (i := 795) (by decide +kernel), List.mem_of_getElem? (i := 1032) (by decide +kernel), List.mem_of_getElem? (i := 1033) (by decide +kernel)⟩
theorem lw_p13 : lw_okq (⟨"SixMapsModel", "takeGoal", "()I"⟩, 56) := ⟨⟨by decide +kernel, by decide +kernel⟩, List.mem_of_getElem? (i := 795) (by decide +kernel), List.mem_of_getElem? (i := 1039) (by decide +kernel), List.mem_of_getElem? (i := 1040) (by decide +kernel)⟩
theorem lw_p14 : lw_okq (⟨"SixMapsModel", "takeLie", "()I"⟩, 56) := ⟨⟨by decide +kernel, by decide +kernel⟩, List.mem_of_getElem? (i := 795) (by decide +kernel), List.mem_of_getElem? (i := 1043) (by decide +kernel), List.mem_of_getElem? (i := 1044) (by decide +kernel)⟩
theorem lw_p15 : lw_okq (⟨"SixMapsModel", "takeCorner", "(Z)I"⟩, 56) := ⟨⟨by decide +kernel, by decide +kernel⟩, List.mem_of_getElem? (i := 795) (by decide +kernel), List.mem_of_getElem? (i := 1047) (by decide +kernel), List.mem_of_getElem? (i := 1048) (by decide +kernel)⟩
def lw_privs_1 : List (MethodName × Nat) := [(⟨"SixMaps", "isMark", "(I)Z"⟩, 11), (⟨"SixMaps", "digAt", "(III)V"⟩, 11), (⟨"SixMaps", "takeTurn", "(I)V"⟩, 11), (⟨"SixMaps", "tradeByDraws", "(I)V"⟩, 11), (⟨"SixMapsModel", "bare", "()V"⟩, 56), (⟨"SixMapsModel", "here", "()I"⟩, 56), (⟨"SixMapsModel", "takeClause", "()I"⟩, 56), (⟨"SixMapsModel", "readWord", "()V"⟩, 56), (⟨"SixMapsModel", "clauseOf", "()I"⟩, 56), (⟨"SixMapsModel", "fails", "(II)I"⟩, 56), (⟨"SixMapsModel", "takeOf", "(I)I"⟩, 56), (⟨"SixMapsModel", "takeMark", "()I"⟩, 56), (⟨"SixMapsModel", "takeNumber", "(II)I"⟩, 56), (⟨"SixMapsModel", "takeGoal", "()I"⟩, 56), (⟨"SixMapsModel", "takeLie", "()I"⟩, 56), (⟨"SixMapsModel", "takeCorner", "(Z)I"⟩, 56)]
theorem lw_r1 : ∀ q ∈ lw_privs_1, lw_okq q := List.forall_mem_cons.mpr ⟨lw_p0, List.forall_mem_cons.mpr ⟨lw_p1, List.forall_mem_cons.mpr ⟨lw_p2, List.forall_mem_cons.mpr ⟨lw_p3, List.forall_mem_cons.mpr ⟨lw_p4, List.forall_mem_cons.mpr ⟨lw_p5, List.forall_mem_cons.mpr ⟨lw_p6, List.forall_mem_cons.mpr ⟨lw_p7, List.forall_mem_cons.mpr ⟨lw_p8, List.forall_mem_cons.mpr ⟨lw_p9, List.forall_mem_cons.mpr ⟨lw_p10, List.forall_mem_cons.mpr ⟨lw_p11, List.forall_mem_cons.mpr ⟨lw_p12, List.forall_mem_cons.mpr ⟨lw_p13, List.forall_mem_cons.mpr ⟨lw_p14, List.forall_mem_cons.mpr ⟨lw_p15, fun _ h => absurd h List.not_mem_nil⟩⟩⟩⟩⟩⟩⟩⟩⟩⟩⟩⟩⟩⟩⟩⟩
theorem lw_p16 : lw_okq (⟨"SixMapsModel", "takeErr", "()I"⟩, 56) := ⟨⟨by decide +kernel, by decide +kernel⟩, List.mem_of_getElem? (i := 795) (by decide +kernel), List.mem_of_getElem? (i := 1054) (by decide +kernel), List.mem_of_getElem? (i := 1055) (by decide +kernel)⟩
theorem lw_p17 : lw_okq (⟨"SixMapsModel", "takeIsland", "()V"⟩, 56) := ⟨⟨by decide +kernel, by decide +kernel⟩, List.mem_of_getElem? (i := 795) (by decide +kernel), List.mem_of_getElem? (i := 1058) (by decide +kernel), List.mem_of_getElem? (i := 1059) (by decide +kernel)⟩
theorem lw_p18 : lw_okq (⟨"SixMapsModel", "isMark", "(I)Z"⟩, 56) := ⟨⟨by decide +kernel, by decide +kernel⟩, List.mem_of_getElem? (i := 795) (by decide +kernel), List.mem_of_getElem? (i := 1074) (by decide +kernel), List.mem_of_getElem? (i := 1075) (by decide +kernel)⟩
theorem lw_p19 : lw_okq (⟨"SixMapsModel", "narrow", "(III)V"⟩, 56) := ⟨⟨by decide +kernel, by decide +kernel⟩, List.mem_of_getElem? (i := 795) (by decide +kernel), List.mem_of_getElem? (i := 1093) (by decide +kernel), List.mem_of_getElem? (i := 1094) (by decide +kernel)⟩
theorem lw_p20 : lw_okq (⟨"SixMapsModel", "findArea", "()V"⟩, 56) := ⟨⟨by decide +kernel, by decide +kernel⟩, List.mem_of_getElem? (i := 795) (by decide +kernel), List.mem_of_getElem? (i := 1097) (by decide +kernel), List.mem_of_getElem? (i := 1098) (by decide +kernel)⟩
theorem lw_p21 : lw_okq (⟨"SixMapsModel", "endOf", "(II)I"⟩, 56) := ⟨⟨by decide +kernel, by decide +kernel⟩, List.mem_of_getElem? (i := 795) (by decide +kernel), List.mem_of_getElem? (i := 1101) (by decide +kernel), List.mem_of_getElem? (i := 1102) (by decide +kernel)⟩
theorem lw_p22 : lw_okq (⟨"SixMapsModel", "digNow", "(III)I"⟩, 56) := ⟨⟨by decide +kernel, by decide +kernel⟩, List.mem_of_getElem? (i := 795) (by decide +kernel), List.mem_of_getElem? (i := 1128) (by decide +kernel), List.mem_of_getElem? (i := 1129) (by decide +kernel)⟩
theorem lw_p23 : lw_okq (⟨"SixMapsModel", "mayMany", "(I)I"⟩, 56) := ⟨⟨by decide +kernel, by decide +kernel⟩, List.mem_of_getElem? (i := 795) (by decide +kernel), List.mem_of_getElem? (i := 1140) (by decide +kernel), List.mem_of_getElem? (i := 1141) (by decide +kernel)⟩
theorem lw_p24 : lw_okq (⟨"SixMapsModel", "mayLie", "(II)Z"⟩, 56) := ⟨⟨by decide +kernel, by decide +kernel⟩, List.mem_of_getElem? (i := 795) (by decide +kernel), List.mem_of_getElem? (i := 1144) (by decide +kernel), List.mem_of_getElem? (i := 1145) (by decide +kernel)⟩
theorem lw_p25 : lw_okq (⟨"SixMapsModel", "findLeft", "(II)V"⟩, 56) := ⟨⟨by decide +kernel, by decide +kernel⟩, List.mem_of_getElem? (i := 795) (by decide +kernel), List.mem_of_getElem? (i := 1148) (by decide +kernel), List.mem_of_getElem? (i := 1149) (by decide +kernel)⟩
theorem lw_p26 : lw_okq (⟨"SixMapsModel", "isLeft", "(I)Z"⟩, 56) := ⟨⟨by decide +kernel, by decide +kernel⟩, List.mem_of_getElem? (i := 795) (by decide +kernel), List.mem_of_getElem? (i := 1152) (by decide +kernel), List.mem_of_getElem? (i := 1153) (by decide +kernel)⟩
theorem lw_p27 : lw_okq (⟨"SixMapsModel", "offTimes", "(II)I"⟩, 56) := ⟨⟨by decide +kernel, by decide +kernel⟩, List.mem_of_getElem? (i := 795) (by decide +kernel), List.mem_of_getElem? (i := 1156) (by decide +kernel), List.mem_of_getElem? (i := 1157) (by decide +kernel)⟩
theorem lw_p28 : lw_okq (⟨"SixMapsModel", "isApart", "(II)Z"⟩, 56) := ⟨⟨by decide +kernel, by decide +kernel⟩, List.mem_of_getElem? (i := 795) (by decide +kernel), List.mem_of_getElem? (i := 1160) (by decide +kernel), List.mem_of_getElem? (i := 1161) (by decide +kernel)⟩
theorem lw_p29 : lw_okq (⟨"SixMapsModel", "couldBe", "(II)Z"⟩, 56) := ⟨⟨by decide +kernel, by decide +kernel⟩, List.mem_of_getElem? (i := 795) (by decide +kernel), List.mem_of_getElem? (i := 1164) (by decide +kernel), List.mem_of_getElem? (i := 1165) (by decide +kernel)⟩
theorem lw_p30 : lw_okq (⟨"SixMapsModel", "isWithin", "(II)Z"⟩, 56) := ⟨⟨by decide +kernel, by decide +kernel⟩, List.mem_of_getElem? (i := 795) (by decide +kernel), List.mem_of_getElem? (i := 1168) (by decide +kernel), List.mem_of_getElem? (i := 1169) (by decide +kernel)⟩
theorem lw_p31 : lw_okq (⟨"SixMapsModel", "quarrels", "(II)I"⟩, 56) := ⟨⟨by decide +kernel, by decide +kernel⟩, List.mem_of_getElem? (i := 795) (by decide +kernel), List.mem_of_getElem? (i := 1172) (by decide +kernel), List.mem_of_getElem? (i := 1173) (by decide +kernel)⟩
def lw_privs_2 : List (MethodName × Nat) := [(⟨"SixMapsModel", "takeErr", "()I"⟩, 56), (⟨"SixMapsModel", "takeIsland", "()V"⟩, 56), (⟨"SixMapsModel", "isMark", "(I)Z"⟩, 56), (⟨"SixMapsModel", "narrow", "(III)V"⟩, 56), (⟨"SixMapsModel", "findArea", "()V"⟩, 56), (⟨"SixMapsModel", "endOf", "(II)I"⟩, 56), (⟨"SixMapsModel", "digNow", "(III)I"⟩, 56), (⟨"SixMapsModel", "mayMany", "(I)I"⟩, 56), (⟨"SixMapsModel", "mayLie", "(II)Z"⟩, 56), (⟨"SixMapsModel", "findLeft", "(II)V"⟩, 56), (⟨"SixMapsModel", "isLeft", "(I)Z"⟩, 56), (⟨"SixMapsModel", "offTimes", "(II)I"⟩, 56), (⟨"SixMapsModel", "isApart", "(II)Z"⟩, 56), (⟨"SixMapsModel", "couldBe", "(II)Z"⟩, 56), (⟨"SixMapsModel", "isWithin", "(II)Z"⟩, 56), (⟨"SixMapsModel", "quarrels", "(II)I"⟩, 56)]
theorem lw_r2 : ∀ q ∈ lw_privs_2, lw_okq q := List.forall_mem_cons.mpr ⟨lw_p16, List.forall_mem_cons.mpr ⟨lw_p17, List.forall_mem_cons.mpr ⟨lw_p18, List.forall_mem_cons.mpr ⟨lw_p19, List.forall_mem_cons.mpr ⟨lw_p20, List.forall_mem_cons.mpr ⟨lw_p21, List.forall_mem_cons.mpr ⟨lw_p22, List.forall_mem_cons.mpr ⟨lw_p23, List.forall_mem_cons.mpr ⟨lw_p24, List.forall_mem_cons.mpr ⟨lw_p25, List.forall_mem_cons.mpr ⟨lw_p26, List.forall_mem_cons.mpr ⟨lw_p27, List.forall_mem_cons.mpr ⟨lw_p28, List.forall_mem_cons.mpr ⟨lw_p29, List.forall_mem_cons.mpr ⟨lw_p30, List.forall_mem_cons.mpr ⟨lw_p31, fun _ h => absurd h List.not_mem_nil⟩⟩⟩⟩⟩⟩⟩⟩⟩⟩⟩⟩⟩⟩⟩⟩
theorem lw_p32 : lw_okq (⟨"SixMapsModel", "isFelled", "()Z"⟩, 56) := ⟨⟨by decide +kernel, by decide +kernel⟩, List.mem_of_getElem? (i := 795) (by decide +kernel), List.mem_of_getElem? (i := 1176) (by decide +kernel), List.mem_of_getElem? (i := 1177) (by decide +kernel)⟩
theorem lw_p33 : lw_okq (⟨"SixMapsModel", "isOne", "(I)Z"⟩, 56) := ⟨⟨by decide +kernel, by decide +kernel⟩, List.mem_of_getElem? (i := 795) (by decide +kernel), List.mem_of_getElem? (i := 1180) (by decide +kernel), List.mem_of_getElem? (i := 1181) (by decide +kernel)⟩
theorem lw_p34 : lw_okq (⟨"SixMapsModel", "lead", "(I)I"⟩, 56) := ⟨⟨by decide +kernel, by decide +kernel⟩, List.mem_of_getElem? (i := 795) (by decide +kernel), List.mem_of_getElem? (i := 1184) (by decide +kernel), List.mem_of_getElem? (i := 1185) (by decide +kernel)⟩
theorem lw_p35 : lw_okq (⟨"SixMapsModel", "findPlaces", "(I)V"⟩, 56) := ⟨⟨by decide +kernel, by decide +kernel⟩, List.mem_of_getElem? (i := 795) (by decide +kernel), List.mem_of_getElem? (i := 1201) (by decide +kernel), List.mem_of_getElem? (i := 1202) (by decide +kernel)⟩
theorem lw_p36 : lw_okq (⟨"SixMapsModel", "addPlace", "(II)V"⟩, 56) := ⟨⟨by decide +kernel, by decide +kernel⟩, List.mem_of_getElem? (i := 795) (by decide +kernel), List.mem_of_getElem? (i := 1205) (by decide +kernel), List.mem_of_getElem? (i := 1206) (by decide +kernel)⟩
theorem lw_p37 : lw_okq (⟨"SixMapsModel", "bestPlace", "()I"⟩, 56) := ⟨⟨by decide +kernel, by decide +kernel⟩, List.mem_of_getElem? (i := 795) (by decide +kernel), List.mem_of_getElem? (i := 1209) (by decide +kernel), List.mem_of_getElem? (i := 1210) (by decide +kernel)⟩
theorem lw_p38 : lw_okq (⟨"SixMapsModel", "worthOf", "(I)I"⟩, 56) := ⟨⟨by decide +kernel, by decide +kernel⟩, List.mem_of_getElem? (i := 795) (by decide +kernel), List.mem_of_getElem? (i := 1213) (by decide +kernel), List.mem_of_getElem? (i := 1214) (by decide +kernel)⟩
theorem lw_p39 : lw_okq (⟨"SixMapsModel", "worstOf", "(III)I"⟩, 56) := ⟨⟨by decide +kernel, by decide +kernel⟩, List.mem_of_getElem? (i := 795) (by decide +kernel), List.mem_of_getElem? (i := 1221) (by decide +kernel), List.mem_of_getElem? (i := 1222) (by decide +kernel)⟩
theorem lw_p40 : lw_okq (⟨"SixMapsModel", "isTrue", "(I)Z"⟩, 56) := ⟨⟨by decide +kernel, by decide +kernel⟩, List.mem_of_getElem? (i := 795) (by decide +kernel), List.mem_of_getElem? (i := 1250) (by decide +kernel), List.mem_of_getElem? (i := 1251) (by decide +kernel)⟩
theorem lw_p41 : lw_okq (⟨"SixMapsModel", "bandDay", "(I)V"⟩, 56) := ⟨⟨by decide +kernel, by decide +kernel⟩, List.mem_of_getElem? (i := 795) (by decide +kernel), List.mem_of_getElem? (i := 1263) (by decide +kernel), List.mem_of_getElem? (i := 1264) (by decide +kernel)⟩
theorem lw_p42 : lw_okq (⟨"SixMapsModel", "draw", "(I)I"⟩, 56) := ⟨⟨by decide +kernel, by decide +kernel⟩, List.mem_of_getElem? (i := 795) (by decide +kernel), List.mem_of_getElem? (i := 1267) (by decide +kernel), List.mem_of_getElem? (i := 1268) (by decide +kernel)⟩
def lw_privs_3 : List (MethodName × Nat) := [(⟨"SixMapsModel", "isFelled", "()Z"⟩, 56), (⟨"SixMapsModel", "isOne", "(I)Z"⟩, 56), (⟨"SixMapsModel", "lead", "(I)I"⟩, 56), (⟨"SixMapsModel", "findPlaces", "(I)V"⟩, 56), (⟨"SixMapsModel", "addPlace", "(II)V"⟩, 56), (⟨"SixMapsModel", "bestPlace", "()I"⟩, 56), (⟨"SixMapsModel", "worthOf", "(I)I"⟩, 56), (⟨"SixMapsModel", "worstOf", "(III)I"⟩, 56), (⟨"SixMapsModel", "isTrue", "(I)Z"⟩, 56), (⟨"SixMapsModel", "bandDay", "(I)V"⟩, 56), (⟨"SixMapsModel", "draw", "(I)I"⟩, 56)]
theorem lw_r3 : ∀ q ∈ lw_privs_3, lw_okq q := List.forall_mem_cons.mpr ⟨lw_p32, List.forall_mem_cons.mpr ⟨lw_p33, List.forall_mem_cons.mpr ⟨lw_p34, List.forall_mem_cons.mpr ⟨lw_p35, List.forall_mem_cons.mpr ⟨lw_p36, List.forall_mem_cons.mpr ⟨lw_p37, List.forall_mem_cons.mpr ⟨lw_p38, List.forall_mem_cons.mpr ⟨lw_p39, List.forall_mem_cons.mpr ⟨lw_p40, List.forall_mem_cons.mpr ⟨lw_p41, List.forall_mem_cons.mpr ⟨lw_p42, fun _ h => absurd h List.not_mem_nil⟩⟩⟩⟩⟩⟩⟩⟩⟩⟩⟩
def lw_privs : List (MethodName × Nat) := lw_privs_1 ++ (lw_privs_2 ++ (lw_privs_3))
def lw_tbl : List Cond := k2_sels lw_privs ++ tables_1
theorem lw_privs_ok : ∀ q ∈ lw_privs, lw_okq q := by
  show ∀ q ∈ lw_privs_1 ++ (lw_privs_2 ++ (lw_privs_3)), lw_okq q
  exact List.forall_mem_append.mpr ⟨lw_r1, List.forall_mem_append.mpr ⟨lw_r2, lw_r3⟩⟩
end
section
def RX0 : String := "SixMaps$Island"
def TX0 : u_T := fun k => match k with
  | 0 => ("SixMaps$Island", "x", "[I", true)
  | 1 => ("SixMaps$Island", "y", "[I", true)
  | 2 => ("SixMaps$Island", "mapX", "[I", true)
  | 3 => ("SixMaps$Island", "mapY", "[I", true)
  | 4 => ("SixMaps$Island", "marks", "I", false)
  | 5 => ("SixMaps$Island", "liars", "I", false)
  | 6 => ("SixMaps$Island", "lies", "I", false)
  | 7 => ("SixMaps$Island", "within", "I", false)
  | 8 => ("SixMaps$Island", "goalA", "I", false)
  | 9 => ("SixMaps$Island", "goalB", "I", false)
  | 10 => ("SixMaps$Island", "goalC", "I", false)
  | 11 => ("SixMaps$Island", "price", "I", false)
  | _ => ("SixMaps$Island", "prize", "I", false)
def tyX0 : Nat → FieldType := fun k => match k with
  | 0 => .array .int
  | 1 => .array .int
  | 2 => .array .int
  | 3 => .array .int
  | 4 => .int
  | 5 => .int
  | 6 => .int
  | 7 => .int
  | 8 => .int
  | 9 => .int
  | 10 => .int
  | 11 => .int
  | _ => .int
abbrev wsX00 : List Cond := u_ws RX0 TX0 13
theorem nmX0 : ∀ a, a < 13 → ∀ b, b < 13 → a ≠ b → (TX0 a).2.1 ≠ (TX0 b).2.1 := by decide +kernel
theorem tyX0_ok : ∀ k, k < 13 → parseFieldDescriptor (TX0 k).2.2.1 = some (tyX0 k) := by decide +kernel
abbrev cX0_init : ByteArray := prog_2_method_1_code
def yX0_init : MethodName := ⟨RX0, "<init>", "()V"⟩
abbrev cX0_clear : ByteArray := prog_2_method_2_code
def yX0_clear : MethodName := ⟨RX0, "clear", "()V"⟩
abbrev cX0_addMark : ByteArray := prog_2_method_3_code
def yX0_addMark : MethodName := ⟨RX0, "addMark", "(II)V"⟩
abbrev cX0_addLie : ByteArray := prog_2_method_4_code
def yX0_addLie : MethodName := ⟨RX0, "addLie", "(IIII)V"⟩
abbrev cX0_put : ByteArray := prog_2_method_5_code
def yX0_put : MethodName := ⟨RX0, "put", "(IIII)V"⟩
abbrev cX0_soughtX : ByteArray := prog_2_method_6_code
def yX0_soughtX : MethodName := ⟨RX0, "soughtX", "()I"⟩
abbrev cX0_soughtY : ByteArray := prog_2_method_7_code
def yX0_soughtY : MethodName := ⟨RX0, "soughtY", "()I"⟩
def RX1 : String := "SixMaps$Judge"
def TX1 : u_T := fun k => match k with
  | 0 => ("SixMaps$Judge", "known", "[I", true)
  | 1 => ("SixMaps$Judge", "mapX", "[I", true)
  | 2 => ("SixMaps$Judge", "mapY", "[I", true)
  | 3 => ("SixMaps$Judge", "fromX", "[I", true)
  | 4 => ("SixMaps$Judge", "toX", "[I", true)
  | 5 => ("SixMaps$Judge", "fromY", "[I", true)
  | 6 => ("SixMaps$Judge", "toY", "[I", true)
  | 7 => ("SixMaps$Judge", "sets", "[I", true)
  | 8 => ("SixMaps$Judge", "ends", "[I", true)
  | 9 => ("SixMaps$Judge", "isle", "LSixMaps$Island;", false)
  | 10 => ("SixMaps$Judge", "spadesOf", "LSixMaps$Standing;", false)
  | 11 => ("SixMaps$Judge", "spadesHeard", "I", false)
  | 12 => ("SixMaps$Judge", "count", "I", false)
  | 13 => ("SixMaps$Judge", "narrowed", "I", false)
  | 14 => ("SixMaps$Judge", "digIn", "I", false)
  | _ => ("SixMaps$Judge", "digOf", "I", false)
def tyX1 : Nat → FieldType := fun k => match k with
  | 0 => .array .int
  | 1 => .array .int
  | 2 => .array .int
  | 3 => .array .int
  | 4 => .array .int
  | 5 => .array .int
  | 6 => .array .int
  | 7 => .array .int
  | 8 => .array .int
  | 9 => .object "SixMaps$Island"
  | 10 => .object "SixMaps$Standing"
  | 11 => .int
  | 12 => .int
  | 13 => .int
  | 14 => .int
  | _ => .int
abbrev wsX10 : List Cond := u_ws RX1 TX1 16
theorem nmX1 : ∀ a, a < 16 → ∀ b, b < 16 → a ≠ b → (TX1 a).2.1 ≠ (TX1 b).2.1 := by decide +kernel
theorem tyX1_ok : ∀ k, k < 16 → parseFieldDescriptor (TX1 k).2.2.1 = some (tyX1 k) := by decide +kernel
abbrev cX1_init : ByteArray := prog_3_method_1_code
def yX1_init : MethodName := ⟨RX1, "<init>", "()V"⟩
abbrev cX1_weigh : ByteArray := prog_3_method_2_code
def yX1_weigh : MethodName := ⟨RX1, "weigh", "(LSixMaps$Island;LSixMaps$Standing;I)V"⟩
abbrev cX1_weighOwnAlone : ByteArray := prog_3_method_3_code
def yX1_weighOwnAlone : MethodName := ⟨RX1, "weighOwnAlone", "(LSixMaps$Island;I)V"⟩
abbrev cX1_takeMaps : ByteArray := prog_3_method_4_code
def yX1_takeMaps : MethodName := ⟨RX1, "takeMaps", "(LSixMaps$Island;)V"⟩
abbrev cX1_hear : ByteArray := prog_3_method_5_code
def yX1_hear : MethodName := ⟨RX1, "hear", "(II)V"⟩
abbrev cX1_leftAtWorst : ByteArray := prog_3_method_6_code
def yX1_leftAtWorst : MethodName := ⟨RX1, "leftAtWorst", "(II)I"⟩
abbrev cX1_isTriedAlready : ByteArray := prog_3_method_7_code
def yX1_isTriedAlready : MethodName := ⟨RX1, "isTriedAlready", "(III)Z"⟩
abbrev cX1_leftWith : ByteArray := prog_3_method_8_code
def yX1_leftWith : MethodName := ⟨RX1, "leftWith", "(IIII)I"⟩
abbrev cX1_collect : ByteArray := prog_3_method_9_code
def yX1_collect : MethodName := ⟨RX1, "collect", "()V"⟩
abbrev cX1_mayLie : ByteArray := prog_3_method_10_code
def yX1_mayLie : MethodName := ⟨RX1, "mayLie", "(I)Z"⟩
abbrev cX1_arePlacesLeft : ByteArray := prog_3_method_11_code
def yX1_arePlacesLeft : MethodName := ⟨RX1, "arePlacesLeft", "(I)Z"⟩
abbrev cX1_narrow : ByteArray := prog_3_method_12_code
def yX1_narrow : MethodName := ⟨RX1, "narrow", "(II)V"⟩
abbrev cX1_timesOff : ByteArray := prog_3_method_13_code
def yX1_timesOff : MethodName := ⟨RX1, "timesOff", "(I)I"⟩
abbrev cX1_hasNoPlaceLeft : ByteArray := prog_3_method_14_code
def yX1_hasNoPlaceLeft : MethodName := ⟨RX1, "hasNoPlaceLeft", "(II)Z"⟩
abbrev cX1_quarrels : ByteArray := prog_3_method_15_code
def yX1_quarrels : MethodName := ⟨RX1, "quarrels", "(I)I"⟩
abbrev cX1_lowestOf : ByteArray := prog_3_method_16_code
def yX1_lowestOf : MethodName := ⟨RX1, "lowestOf", "(I)I"⟩
abbrev cX1_areApart : ByteArray := prog_3_method_17_code
def yX1_areApart : MethodName := ⟨RX1, "areApart", "(III)Z"⟩
abbrev cX1_couldBeOff : ByteArray := prog_3_method_18_code
def yX1_couldBeOff : MethodName := ⟨RX1, "couldBeOff", "(I)Z"⟩
abbrev cX1_hasAllPlacesLeft : ByteArray := prog_3_method_19_code
def yX1_hasAllPlacesLeft : MethodName := ⟨RX1, "hasAllPlacesLeft", "(II)Z"⟩
abbrev cX1_isFelled : ByteArray := prog_3_method_20_code
def yX1_isFelled : MethodName := ⟨RX1, "isFelled", "()Z"⟩
abbrev cX1_isOnePlace : ByteArray := prog_3_method_21_code
def yX1_isOnePlace : MethodName := ⟨RX1, "isOnePlace", "(I)Z"⟩
abbrev cX1_noteArea : ByteArray := prog_3_method_22_code
def yX1_noteArea : MethodName := ⟨RX1, "noteArea", "(I)V"⟩
abbrev cX1_least : ByteArray := prog_3_method_23_code
def yX1_least : MethodName := ⟨RX1, "least", "([II)I"⟩
abbrev cX1_most : ByteArray := prog_3_method_24_code
def yX1_most : MethodName := ⟨RX1, "most", "([II)I"⟩
abbrev cX1_inAll : ByteArray := prog_3_method_25_code
def yX1_inAll : MethodName := ⟨RX1, "inAll", "()I"⟩
abbrev cX1_inNone : ByteArray := prog_3_method_26_code
def yX1_inNone : MethodName := ⟨RX1, "inNone", "()I"⟩
abbrev cX1_indexOf : ByteArray := prog_3_method_27_code
def yX1_indexOf : MethodName := ⟨RX1, "indexOf", "(I)I"⟩
abbrev cX1_isPlace : ByteArray := prog_3_method_28_code
def yX1_isPlace : MethodName := ⟨RX1, "isPlace", "(I)Z"⟩
abbrev cX1_placeX : ByteArray := prog_3_method_29_code
def yX1_placeX : MethodName := ⟨RX1, "placeX", "(I)I"⟩
abbrev cX1_placeY : ByteArray := prog_3_method_30_code
def yX1_placeY : MethodName := ⟨RX1, "placeY", "(I)I"⟩
abbrev cX1_areSamePlace : ByteArray := prog_3_method_31_code
def yX1_areSamePlace : MethodName := ⟨RX1, "areSamePlace", "(II)Z"⟩
abbrev cX1_choosePlace : ByteArray := prog_3_method_32_code
def yX1_choosePlace : MethodName := ⟨RX1, "choosePlace", "()V"⟩
abbrev cX1_comesAhead : ByteArray := prog_3_method_33_code
def yX1_comesAhead : MethodName := ⟨RX1, "comesAhead", "(II)Z"⟩
abbrev cX1_worth : ByteArray := prog_3_method_34_code
def yX1_worth : MethodName := ⟨RX1, "worth", "()I"⟩
abbrev cX1_unlikePlaces : ByteArray := prog_3_method_35_code
def yX1_unlikePlaces : MethodName := ⟨RX1, "unlikePlaces", "()I"⟩
abbrev cX1_ofHundred : ByteArray := prog_3_method_36_code
def yX1_ofHundred : MethodName := ⟨RX1, "ofHundred", "(IZ)I"⟩
def RX2 : String := "SixMaps$Reader"
def TX2 : u_T := fun k => match k with
  | 0 => ("SixMaps$Reader", "times", "[I", true)
  | 1 => ("SixMaps$Reader", "numbers", "[I", true)
  | 2 => ("SixMaps$Reader", "changed", "[I", true)
  | 3 => ("SixMaps$Reader", "text", "[B", false)
  | 4 => ("SixMaps$Reader", "length", "I", false)
  | 5 => ("SixMaps$Reader", "at", "I", false)
  | _ => ("SixMaps$Reader", "start", "I", false)
def tyX2 : Nat → FieldType := fun k => match k with
  | 0 => .array .int
  | 1 => .array .int
  | 2 => .array .int
  | 3 => .array .byte
  | 4 => .int
  | 5 => .int
  | _ => .int
abbrev wsX20 : List Cond := u_ws RX2 TX2 7
theorem nmX2 : ∀ a, a < 7 → ∀ b, b < 7 → a ≠ b → (TX2 a).2.1 ≠ (TX2 b).2.1 := by decide +kernel
theorem tyX2_ok : ∀ k, k < 7 → parseFieldDescriptor (TX2 k).2.2.1 = some (tyX2 k) := by decide +kernel
abbrev cX2_init : ByteArray := prog_4_method_1_code
def yX2_init : MethodName := ⟨RX2, "<init>", "()V"⟩
abbrev cX2_read : ByteArray := prog_4_method_2_code
def yX2_read : MethodName := ⟨RX2, "read", "([BILSixMaps$Island;)I"⟩
abbrev cX2_toNext : ByteArray := prog_4_method_3_code
def yX2_toNext : MethodName := ⟨RX2, "toNext", "()V"⟩
abbrev cX2_readClause : ByteArray := prog_4_method_4_code
def yX2_readClause : MethodName := ⟨RX2, "readClause", "(LSixMaps$Island;)I"⟩
abbrev cX2_readWord : ByteArray := prog_4_method_5_code
def yX2_readWord : MethodName := ⟨RX2, "readWord", "()I"⟩
abbrev cX2_nameOf : ByteArray := prog_4_method_6_code
def yX2_nameOf : MethodName := ⟨RX2, "nameOf", "(I)Ljava/lang/String;"⟩
abbrev cX2_isSpelt : ByteArray := prog_4_method_7_code
def yX2_isSpelt : MethodName := ⟨RX2, "isSpelt", "(Ljava/lang/String;)Z"⟩
abbrev cX2_comesTooLate : ByteArray := prog_4_method_8_code
def yX2_comesTooLate : MethodName := ⟨RX2, "comesTooLate", "(I)Z"⟩
abbrev cX2_readNumber : ByteArray := prog_4_method_9_code
def yX2_readNumber : MethodName := ⟨RX2, "readNumber", "()I"⟩
abbrev cX2_numberFault : ByteArray := prog_4_method_10_code
def yX2_numberFault : MethodName := ⟨RX2, "numberFault", "(IIILSixMaps$Island;)I"⟩
abbrev cX2_above : ByteArray := prog_4_method_11_code
def yX2_above : MethodName := ⟨RX2, "above", "(II)I"⟩
abbrev cX2_mapFault : ByteArray := prog_4_method_12_code
def yX2_mapFault : MethodName := ⟨RX2, "mapFault", "(IILSixMaps$Island;)I"⟩
abbrev cX2_markFault : ByteArray := prog_4_method_13_code
def yX2_markFault : MethodName := ⟨RX2, "markFault", "(ILSixMaps$Island;)I"⟩
abbrev cX2_lieFault : ByteArray := prog_4_method_14_code
def yX2_lieFault : MethodName := ⟨RX2, "lieFault", "(ILSixMaps$Island;)I"⟩
abbrev cX2_tell : ByteArray := prog_4_method_15_code
def yX2_tell : MethodName := ⟨RX2, "tell", "(ILSixMaps$Island;)V"⟩
abbrev cX2_changeMap : ByteArray := prog_4_method_16_code
def yX2_changeMap : MethodName := ⟨RX2, "changeMap", "(ILSixMaps$Island;)V"⟩
def RX3 : String := "SixMaps$Sayings"
def TX3 : u_T := fun k => match k with
  | 0 => ("SixMaps$Sayings", "bands", "[I", true)
  | 1 => ("SixMaps$Sayings", "maps", "[I", true)
  | 2 => ("SixMaps$Sayings", "lies", "[Z", true)
  | _ => ("SixMaps$Sayings", "count", "I", false)
def tyX3 : Nat → FieldType := fun k => match k with
  | 0 => .array .int
  | 1 => .array .int
  | 2 => .array .boolean
  | _ => .int
abbrev wsX30 : List Cond := u_ws RX3 TX3 4
theorem nmX3 : ∀ a, a < 4 → ∀ b, b < 4 → a ≠ b → (TX3 a).2.1 ≠ (TX3 b).2.1 := by decide +kernel
theorem tyX3_ok : ∀ k, k < 4 → parseFieldDescriptor (TX3 k).2.2.1 = some (tyX3 k) := by decide +kernel
abbrev cX3_init : ByteArray := prog_5_method_1_code
def yX3_init : MethodName := ⟨RX3, "<init>", "()V"⟩
abbrev cX3_add : ByteArray := prog_5_method_2_code
def yX3_add : MethodName := ⟨RX3, "add", "(IIZ)I"⟩
abbrev cX3_isTrue : ByteArray := prog_5_method_3_code
def yX3_isTrue : MethodName := ⟨RX3, "isTrue", "(II)Z"⟩
abbrev cX3_untrueOf : ByteArray := prog_5_method_4_code
def yX3_untrueOf : MethodName := ⟨RX3, "untrueOf", "(II)I"⟩
abbrev cX3_bandOfMostUntrue : ByteArray := prog_5_method_5_code
def yX3_bandOfMostUntrue : MethodName := ⟨RX3, "bandOfMostUntrue", "(I)I"⟩
def RX4 : String := "SixMaps$Standing"
def TX4 : u_T := fun k => match k with
  | 0 => ("SixMaps$Standing", "known", "[I", true)
  | 1 => ("SixMaps$Standing", "spadeX", "[I", true)
  | 2 => ("SixMaps$Standing", "spadeY", "[I", true)
  | 3 => ("SixMaps$Standing", "purses", "[I", true)
  | 4 => ("SixMaps$Standing", "spades", "I", false)
  | 5 => ("SixMaps$Standing", "finder", "I", false)
  | _ => ("SixMaps$Standing", "seed", "I", false)
def tyX4 : Nat → FieldType := fun k => match k with
  | 0 => .array .int
  | 1 => .array .int
  | 2 => .array .int
  | 3 => .array .int
  | 4 => .int
  | 5 => .int
  | _ => .int
abbrev wsX40 : List Cond := u_ws RX4 TX4 7
theorem nmX4 : ∀ a, a < 7 → ∀ b, b < 7 → a ≠ b → (TX4 a).2.1 ≠ (TX4 b).2.1 := by decide +kernel
theorem tyX4_ok : ∀ k, k < 7 → parseFieldDescriptor (TX4 k).2.2.1 = some (tyX4 k) := by decide +kernel
abbrev cX4_init : ByteArray := prog_6_method_1_code
def yX4_init : MethodName := ⟨RX4, "<init>", "()V"⟩
abbrev cX4_begin : ByteArray := prog_6_method_2_code
def yX4_begin : MethodName := ⟨RX4, "begin", "(I)V"⟩
abbrev cX4_copyFrom : ByteArray := prog_6_method_3_code
def yX4_copyFrom : MethodName := ⟨RX4, "copyFrom", "(LSixMaps$Standing;)V"⟩
abbrev cX4_has : ByteArray := prog_6_method_4_code
def yX4_has : MethodName := ⟨RX4, "has", "(III)Z"⟩
abbrev cX4_learn : ByteArray := prog_6_method_5_code
def yX4_learn : MethodName := ⟨RX4, "learn", "(III)V"⟩
abbrev cX4_draw : ByteArray := prog_6_method_6_code
def yX4_draw : MethodName := ⟨RX4, "draw", "(I)I"⟩
def RX5 : String := "SixMaps"
def TX5 : u_T := fun k => match k with
  | 0 => ("SixMaps", "text", "[B", true)
  | 1 => ("SixMaps", "length", "I", false)
  | 2 => ("SixMaps", "faultAt", "I", false)
  | 3 => ("SixMaps", "isle", "LSixMaps$Island;", false)
  | 4 => ("SixMaps", "spare", "LSixMaps$Island;", false)
  | 5 => ("SixMaps", "reader", "LSixMaps$Reader;", true)
  | 6 => ("SixMaps", "now", "LSixMaps$Standing;", true)
  | 7 => ("SixMaps", "images", "[LSixMaps$Standing;", true)
  | 8 => ("SixMaps", "kept", "[Z", true)
  | 9 => ("SixMaps", "sayings", "LSixMaps$Sayings;", true)
  | _ => ("SixMaps", "judge", "LSixMaps$Judge;", true)
def tyX5 : Nat → FieldType := fun k => match k with
  | 0 => .array .byte
  | 1 => .int
  | 2 => .int
  | 3 => .object "SixMaps$Island"
  | 4 => .object "SixMaps$Island"
  | 5 => .object "SixMaps$Reader"
  | 6 => .object "SixMaps$Standing"
  | 7 => .array (.object "SixMaps$Standing")
  | 8 => .array .boolean
  | 9 => .object "SixMaps$Sayings"
  | _ => .object "SixMaps$Judge"
abbrev wsX50 : List Cond := u_ws RX5 TX5 11
theorem nmX5 : ∀ a, a < 11 → ∀ b, b < 11 → a ≠ b → (TX5 a).2.1 ≠ (TX5 b).2.1 := by decide +kernel
theorem tyX5_ok : ∀ k, k < 11 → parseFieldDescriptor (TX5 k).2.2.1 = some (tyX5 k) := by decide +kernel
abbrev cX5_init : ByteArray := prog_1_method_1_code
def yX5_init : MethodName := ⟨RX5, "<init>", "()V"⟩
abbrev cX5_feed : ByteArray := prog_1_method_2_code
def yX5_feed : MethodName := ⟨RX5, "feed", "(IJ)I"⟩
abbrev cX5_island : ByteArray := prog_1_method_3_code
def yX5_island : MethodName := ⟨RX5, "island", "()I"⟩
abbrev cX5_fault : ByteArray := prog_1_method_4_code
def yX5_fault : MethodName := ⟨RX5, "fault", "()I"⟩
abbrev cX5_told : ByteArray := prog_1_method_5_code
def yX5_told : MethodName := ⟨RX5, "told", "(I)I"⟩
abbrev cX5_mark : ByteArray := prog_1_method_6_code
def yX5_mark : MethodName := ⟨RX5, "mark", "(II)I"⟩
abbrev cX5_map : ByteArray := prog_1_method_7_code
def yX5_map : MethodName := ⟨RX5, "map", "(III)I"⟩
abbrev cX5_leads : ByteArray := prog_1_method_8_code
def yX5_leads : MethodName := ⟨RX5, "leads", "(II)I"⟩
abbrev cX5_knows : ByteArray := prog_1_method_9_code
def yX5_knows : MethodName := ⟨RX5, "knows", "(II)I"⟩
abbrev cX5_show : ByteArray := prog_1_method_10_code
def yX5_show : MethodName := ⟨RX5, "show", "(III)I"⟩
abbrev cX5_trade : ByteArray := prog_1_method_11_code
def yX5_trade : MethodName := ⟨RX5, "trade", "(IIII)I"⟩
abbrev cX5_dig : ByteArray := prog_1_method_12_code
def yX5_dig : MethodName := ⟨RX5, "dig", "(III)I"⟩
abbrev cX5_purse : ByteArray := prog_1_method_13_code
def yX5_purse : MethodName := ⟨RX5, "purse", "(I)I"⟩
abbrev cX5_may : ByteArray := prog_1_method_14_code
def yX5_may : MethodName := ⟨RX5, "may", "(II)I"⟩
abbrev cX5_sure : ByteArray := prog_1_method_15_code
def yX5_sure : MethodName := ⟨RX5, "sure", "(II)I"⟩
abbrev cX5_area : ByteArray := prog_1_method_16_code
def yX5_area : MethodName := ⟨RX5, "area", "(III)I"⟩
abbrev cX5_best : ByteArray := prog_1_method_17_code
def yX5_best : MethodName := ⟨RX5, "best", "(II)I"⟩
abbrev cX5_corner : ByteArray := prog_1_method_18_code
def yX5_corner : MethodName := ⟨RX5, "corner", "(III)I"⟩
abbrev cX5_bestCorner : ByteArray := prog_1_method_19_code
def yX5_bestCorner : MethodName := ⟨RX5, "bestCorner", "(II)I"⟩
abbrev cX5_spades : ByteArray := prog_1_method_20_code
def yX5_spades : MethodName := ⟨RX5, "spades", "(I)I"⟩
abbrev cX5_found : ByteArray := prog_1_method_21_code
def yX5_found : MethodName := ⟨RX5, "found", "(I)I"⟩
abbrev cX5_say : ByteArray := prog_1_method_22_code
def yX5_say : MethodName := ⟨RX5, "say", "(IIZ)I"⟩
abbrev cX5_forget : ByteArray := prog_1_method_23_code
def yX5_forget : MethodName := ⟨RX5, "forget", "()I"⟩
abbrev cX5_saying : ByteArray := prog_1_method_24_code
def yX5_saying : MethodName := ⟨RX5, "saying", "(II)I"⟩
abbrev cX5_loudest : ByteArray := prog_1_method_25_code
def yX5_loudest : MethodName := ⟨RX5, "loudest", "()I"⟩
abbrev cX5_hunt : ByteArray := prog_1_method_26_code
def yX5_hunt : MethodName := ⟨RX5, "hunt", "(I)I"⟩
abbrev cX5_seed : ByteArray := prog_1_method_27_code
def yX5_seed : MethodName := ⟨RX5, "seed", "(I)I"⟩
abbrev cX5_keep : ByteArray := prog_1_method_28_code
def yX5_keep : MethodName := ⟨RX5, "keep", "(I)I"⟩
abbrev cX5_goBack : ByteArray := prog_1_method_29_code
def yX5_goBack : MethodName := ⟨RX5, "goBack", "(I)I"⟩
abbrev cX5_isBand : ByteArray := prog_1_method_30_code
def yX5_isBand : MethodName := ⟨RX5, "isBand", "(I)Z"⟩
abbrev cX5_areTwoBands : ByteArray := prog_1_method_31_code
def yX5_areTwoBands : MethodName := ⟨RX5, "areTwoBands", "(II)Z"⟩
abbrev cX5_isMark : ByteArray := prog_1_method_32_code
def yX5_isMark : MethodName := ⟨RX5, "isMark", "(I)Z"⟩
abbrev cX5_isIn : ByteArray := prog_1_method_33_code
def yX5_isIn : MethodName := ⟨RX5, "isIn", "(II)Z"⟩
abbrev cX5_digAt : ByteArray := prog_1_method_34_code
def yX5_digAt : MethodName := ⟨RX5, "digAt", "(III)V"⟩
abbrev cX5_takeTurn : ByteArray := prog_1_method_35_code
def yX5_takeTurn : MethodName := ⟨RX5, "takeTurn", "(I)V"⟩
abbrev cX5_tradeByDraws : ByteArray := prog_1_method_36_code
def yX5_tradeByDraws : MethodName := ⟨RX5, "tradeByDraws", "(I)V"⟩
def RX6 : String := "SixMapsModel"
def TX6 : u_T := fun k => match k with
  | 0 => ("SixMapsModel", "marks", "I", false)
  | 1 => ("SixMapsModel", "markX", "[I", true)
  | 2 => ("SixMapsModel", "markY", "[I", true)
  | 3 => ("SixMapsModel", "mapX", "[I", true)
  | 4 => ("SixMapsModel", "mapY", "[I", true)
  | 5 => ("SixMapsModel", "liars", "I", false)
  | 6 => ("SixMapsModel", "liarSet", "I", false)
  | 7 => ("SixMapsModel", "within", "I", false)
  | 8 => ("SixMapsModel", "goal", "[I", true)
  | 9 => ("SixMapsModel", "price", "I", false)
  | 10 => ("SixMapsModel", "prize", "I", false)
  | 11 => ("SixMapsModel", "known", "[I", true)
  | 12 => ("SixMapsModel", "purses", "[I", true)
  | 13 => ("SixMapsModel", "spades", "I", false)
  | 14 => ("SixMapsModel", "spadeX", "[I", true)
  | 15 => ("SixMapsModel", "spadeY", "[I", true)
  | 16 => ("SixMapsModel", "finder", "I", false)
  | 17 => ("SixMapsModel", "seed", "I", false)
  | 18 => ("SixMapsModel", "text", "[I", true)
  | 19 => ("SixMapsModel", "texted", "I", false)
  | 20 => ("SixMapsModel", "faultPlace", "I", false)
  | 21 => ("SixMapsModel", "at0", "I", false)
  | 22 => ("SixMapsModel", "said", "J", false)
  | 23 => ("SixMapsModel", "wordEnd", "I", false)
  | 24 => ("SixMapsModel", "number", "I", false)
  | 25 => ("SixMapsModel", "numberAt", "I", false)
  | 26 => ("SixMapsModel", "readMarks", "I", false)
  | 27 => ("SixMapsModel", "readX", "[I", true)
  | 28 => ("SixMapsModel", "readY", "[I", true)
  | 29 => ("SixMapsModel", "readMapX", "[I", true)
  | 30 => ("SixMapsModel", "readMapY", "[I", true)
  | 31 => ("SixMapsModel", "isOther", "[Z", true)
  | 32 => ("SixMapsModel", "readLies", "I", false)
  | 33 => ("SixMapsModel", "readLiars", "I", false)
  | 34 => ("SixMapsModel", "readErrs", "I", false)
  | 35 => ("SixMapsModel", "readGoal", "[I", true)
  | 36 => ("SixMapsModel", "readWithin", "I", false)
  | 37 => ("SixMapsModel", "readPrice", "I", false)
  | 38 => ("SixMapsModel", "readPrize", "I", false)
  | 39 => ("SixMapsModel", "seen", "I", false)
  | 40 => ("SixMapsModel", "corner", "I", false)
  | 41 => ("SixMapsModel", "isAll", "[Z", true)
  | 42 => ("SixMapsModel", "left", "[I", true)
  | 43 => ("SixMapsModel", "area", "[I", true)
  | 44 => ("SixMapsModel", "places", "I", false)
  | 45 => ("SixMapsModel", "setsAll", "I", false)
  | 46 => ("SixMapsModel", "placeX", "[I", true)
  | 47 => ("SixMapsModel", "placeY", "[I", true)
  | 48 => ("SixMapsModel", "placeSets", "[I", true)
  | 49 => ("SixMapsModel", "wasKnown", "[I", true)
  | 50 => ("SixMapsModel", "sayings", "I", false)
  | 51 => ("SixMapsModel", "sayWho", "[I", true)
  | 52 => ("SixMapsModel", "sayMap", "[I", true)
  | 53 => ("SixMapsModel", "sayLies", "[Z", true)
  | 54 => ("SixMapsModel", "images", "[I", true)
  | _ => ("SixMapsModel", "isKept", "[Z", true)
def tyX6 : Nat → FieldType := fun k => match k with
  | 0 => .int
  | 1 => .array .int
  | 2 => .array .int
  | 3 => .array .int
  | 4 => .array .int
  | 5 => .int
  | 6 => .int
  | 7 => .int
  | 8 => .array .int
  | 9 => .int
  | 10 => .int
  | 11 => .array .int
  | 12 => .array .int
  | 13 => .int
  | 14 => .array .int
  | 15 => .array .int
  | 16 => .int
  | 17 => .int
  | 18 => .array .int
  | 19 => .int
  | 20 => .int
  | 21 => .int
  | 22 => .long
  | 23 => .int
  | 24 => .int
  | 25 => .int
  | 26 => .int
  | 27 => .array .int
  | 28 => .array .int
  | 29 => .array .int
  | 30 => .array .int
  | 31 => .array .boolean
  | 32 => .int
  | 33 => .int
  | 34 => .int
  | 35 => .array .int
  | 36 => .int
  | 37 => .int
  | 38 => .int
  | 39 => .int
  | 40 => .int
  | 41 => .array .boolean
  | 42 => .array .int
  | 43 => .array .int
  | 44 => .int
  | 45 => .int
  | 46 => .array .int
  | 47 => .array .int
  | 48 => .array .int
  | 49 => .array .int
  | 50 => .int
  | 51 => .array .int
  | 52 => .array .int
  | 53 => .array .boolean
  | 54 => .array .int
  | _ => .array .boolean
abbrev wsX60 : List Cond := u_ws RX6 TX6 56
theorem nmX6 : ∀ a, a < 56 → ∀ b, b < 56 → a ≠ b → (TX6 a).2.1 ≠ (TX6 b).2.1 := by decide +kernel
theorem tyX6_ok : ∀ k, k < 56 → parseFieldDescriptor (TX6 k).2.2.1 = some (tyX6 k) := by decide +kernel
abbrev cX6_init : ByteArray := prog_8_method_1_code
def yX6_init : MethodName := ⟨RX6, "<init>", "()V"⟩
abbrev cX6_in : ByteArray := prog_8_method_3_code
def yX6_in : MethodName := ⟨RX6, "in", "(JJJ)Z"⟩
abbrev cX6_has : ByteArray := prog_8_method_4_code
def yX6_has : MethodName := ⟨RX6, "has", "(II)Z"⟩
abbrev cX6_bits : ByteArray := prog_8_method_5_code
def yX6_bits : MethodName := ⟨RX6, "bits", "(I)I"⟩
abbrev cX6_isMark : ByteArray := prog_8_method_6_code
def yX6_isMark : MethodName := ⟨RX6, "isMark", "(I)Z"⟩
abbrev cX6_isBand : ByteArray := prog_8_method_7_code
def yX6_isBand : MethodName := ⟨RX6, "isBand", "(I)Z"⟩
abbrev cX6_bare : ByteArray := prog_8_method_8_code
def yX6_bare : MethodName := ⟨RX6, "bare", "()V"⟩
abbrev cX6_feed : ByteArray := prog_8_method_9_code
def yX6_feed : MethodName := ⟨RX6, "feed", "(IJ)I"⟩
abbrev cX6_here : ByteArray := prog_8_method_10_code
def yX6_here : MethodName := ⟨RX6, "here", "()I"⟩
abbrev cX6_fails : ByteArray := prog_8_method_11_code
def yX6_fails : MethodName := ⟨RX6, "fails", "(II)I"⟩
abbrev cX6_readWord : ByteArray := prog_8_method_12_code
def yX6_readWord : MethodName := ⟨RX6, "readWord", "()V"⟩
abbrev cX6_code : ByteArray := prog_8_method_13_code
def yX6_code : MethodName := ⟨RX6, "code", "(III)J"⟩
abbrev cX6_longer : ByteArray := prog_8_method_14_code
def yX6_longer : MethodName := ⟨RX6, "longer", "(JII)J"⟩
abbrev cX6_takeNumber : ByteArray := prog_8_method_15_code
def yX6_takeNumber : MethodName := ⟨RX6, "takeNumber", "(II)I"⟩
abbrev cX6_takeMark : ByteArray := prog_8_method_16_code
def yX6_takeMark : MethodName := ⟨RX6, "takeMark", "()I"⟩
abbrev cX6_takeGoal : ByteArray := prog_8_method_17_code
def yX6_takeGoal : MethodName := ⟨RX6, "takeGoal", "()I"⟩
abbrev cX6_size : ByteArray := prog_8_method_18_code
def yX6_size : MethodName := ⟨RX6, "size", "(I)I"⟩
abbrev cX6_takeCorner : ByteArray := prog_8_method_19_code
def yX6_takeCorner : MethodName := ⟨RX6, "takeCorner", "(Z)I"⟩
abbrev cX6_takeLie : ByteArray := prog_8_method_20_code
def yX6_takeLie : MethodName := ⟨RX6, "takeLie", "()I"⟩
abbrev cX6_takeErr : ByteArray := prog_8_method_21_code
def yX6_takeErr : MethodName := ⟨RX6, "takeErr", "()I"⟩
abbrev cX6_clauseOf : ByteArray := prog_8_method_22_code
def yX6_clauseOf : MethodName := ⟨RX6, "clauseOf", "()I"⟩
abbrev cX6_takeOf : ByteArray := prog_8_method_23_code
def yX6_takeOf : MethodName := ⟨RX6, "takeOf", "(I)I"⟩
abbrev cX6_takeClause : ByteArray := prog_8_method_24_code
def yX6_takeClause : MethodName := ⟨RX6, "takeClause", "()I"⟩
abbrev cX6_island : ByteArray := prog_8_method_25_code
def yX6_island : MethodName := ⟨RX6, "island", "()I"⟩
abbrev cX6_takeIsland : ByteArray := prog_8_method_26_code
def yX6_takeIsland : MethodName := ⟨RX6, "takeIsland", "()V"⟩
abbrev cX6_fault : ByteArray := prog_8_method_27_code
def yX6_fault : MethodName := ⟨RX6, "fault", "()I"⟩
abbrev cX6_told : ByteArray := prog_8_method_28_code
def yX6_told : MethodName := ⟨RX6, "told", "(I)I"⟩
abbrev cX6_mark : ByteArray := prog_8_method_29_code
def yX6_mark : MethodName := ⟨RX6, "mark", "(II)I"⟩
abbrev cX6_map : ByteArray := prog_8_method_30_code
def yX6_map : MethodName := ⟨RX6, "map", "(III)I"⟩
abbrev cX6_narrow : ByteArray := prog_8_method_31_code
def yX6_narrow : MethodName := ⟨RX6, "narrow", "(III)V"⟩
abbrev cX6_isLeft : ByteArray := prog_8_method_32_code
def yX6_isLeft : MethodName := ⟨RX6, "isLeft", "(I)Z"⟩
abbrev cX6_findLeft : ByteArray := prog_8_method_33_code
def yX6_findLeft : MethodName := ⟨RX6, "findLeft", "(II)V"⟩
abbrev cX6_isApart : ByteArray := prog_8_method_34_code
def yX6_isApart : MethodName := ⟨RX6, "isApart", "(II)Z"⟩
abbrev cX6_isWithin : ByteArray := prog_8_method_35_code
def yX6_isWithin : MethodName := ⟨RX6, "isWithin", "(II)Z"⟩
abbrev cX6_offTimes : ByteArray := prog_8_method_36_code
def yX6_offTimes : MethodName := ⟨RX6, "offTimes", "(II)I"⟩
abbrev cX6_couldBe : ByteArray := prog_8_method_37_code
def yX6_couldBe : MethodName := ⟨RX6, "couldBe", "(II)Z"⟩
abbrev cX6_quarrels : ByteArray := prog_8_method_38_code
def yX6_quarrels : MethodName := ⟨RX6, "quarrels", "(II)I"⟩
abbrev cX6_isOne : ByteArray := prog_8_method_39_code
def yX6_isOne : MethodName := ⟨RX6, "isOne", "(I)Z"⟩
abbrev cX6_lead : ByteArray := prog_8_method_40_code
def yX6_lead : MethodName := ⟨RX6, "lead", "(I)I"⟩
abbrev cX6_isFelled : ByteArray := prog_8_method_41_code
def yX6_isFelled : MethodName := ⟨RX6, "isFelled", "()Z"⟩
abbrev cX6_mayLie : ByteArray := prog_8_method_42_code
def yX6_mayLie : MethodName := ⟨RX6, "mayLie", "(II)Z"⟩
abbrev cX6_mayMany : ByteArray := prog_8_method_43_code
def yX6_mayMany : MethodName := ⟨RX6, "mayMany", "(I)I"⟩
abbrev cX6_findArea : ByteArray := prog_8_method_44_code
def yX6_findArea : MethodName := ⟨RX6, "findArea", "()V"⟩
abbrev cX6_endOf : ByteArray := prog_8_method_45_code
def yX6_endOf : MethodName := ⟨RX6, "endOf", "(II)I"⟩
abbrev cX6_leads : ByteArray := prog_8_method_46_code
def yX6_leads : MethodName := ⟨RX6, "leads", "(II)I"⟩
abbrev cX6_knows : ByteArray := prog_8_method_47_code
def yX6_knows : MethodName := ⟨RX6, "knows", "(II)I"⟩
abbrev cX6_areTwo : ByteArray := prog_8_method_48_code
def yX6_areTwo : MethodName := ⟨RX6, "areTwo", "(II)Z"⟩
abbrev cX6_show : ByteArray := prog_8_method_49_code
def yX6_show : MethodName := ⟨RX6, "show", "(III)I"⟩
abbrev cX6_trade : ByteArray := prog_8_method_50_code
def yX6_trade : MethodName := ⟨RX6, "trade", "(IIII)I"⟩
abbrev cX6_digNow : ByteArray := prog_8_method_51_code
def yX6_digNow : MethodName := ⟨RX6, "digNow", "(III)I"⟩
abbrev cX6_dig : ByteArray := prog_8_method_52_code
def yX6_dig : MethodName := ⟨RX6, "dig", "(III)I"⟩
abbrev cX6_purse : ByteArray := prog_8_method_53_code
def yX6_purse : MethodName := ⟨RX6, "purse", "(I)I"⟩
abbrev cX6_may : ByteArray := prog_8_method_54_code
def yX6_may : MethodName := ⟨RX6, "may", "(II)I"⟩
abbrev cX6_sure : ByteArray := prog_8_method_55_code
def yX6_sure : MethodName := ⟨RX6, "sure", "(II)I"⟩
abbrev cX6_area : ByteArray := prog_8_method_56_code
def yX6_area : MethodName := ⟨RX6, "area", "(III)I"⟩
abbrev cX6_addPlace : ByteArray := prog_8_method_57_code
def yX6_addPlace : MethodName := ⟨RX6, "addPlace", "(II)V"⟩
abbrev cX6_findPlaces : ByteArray := prog_8_method_58_code
def yX6_findPlaces : MethodName := ⟨RX6, "findPlaces", "(I)V"⟩
abbrev cX6_bestPlace : ByteArray := prog_8_method_59_code
def yX6_bestPlace : MethodName := ⟨RX6, "bestPlace", "()I"⟩
abbrev cX6_worthOf : ByteArray := prog_8_method_60_code
def yX6_worthOf : MethodName := ⟨RX6, "worthOf", "(I)I"⟩
abbrev cX6_best : ByteArray := prog_8_method_61_code
def yX6_best : MethodName := ⟨RX6, "best", "(II)I"⟩
abbrev cX6_worstOf : ByteArray := prog_8_method_62_code
def yX6_worstOf : MethodName := ⟨RX6, "worstOf", "(III)I"⟩
abbrev cX6_corner : ByteArray := prog_8_method_63_code
def yX6_corner : MethodName := ⟨RX6, "corner", "(III)I"⟩
abbrev cX6_bestCorner : ByteArray := prog_8_method_64_code
def yX6_bestCorner : MethodName := ⟨RX6, "bestCorner", "(II)I"⟩
abbrev cX6_spades : ByteArray := prog_8_method_65_code
def yX6_spades : MethodName := ⟨RX6, "spades", "(I)I"⟩
abbrev cX6_found : ByteArray := prog_8_method_66_code
def yX6_found : MethodName := ⟨RX6, "found", "(I)I"⟩
abbrev cX6_say : ByteArray := prog_8_method_67_code
def yX6_say : MethodName := ⟨RX6, "say", "(IIZ)I"⟩
abbrev cX6_forget : ByteArray := prog_8_method_68_code
def yX6_forget : MethodName := ⟨RX6, "forget", "()I"⟩
abbrev cX6_isTrue : ByteArray := prog_8_method_69_code
def yX6_isTrue : MethodName := ⟨RX6, "isTrue", "(I)Z"⟩
abbrev cX6_saying : ByteArray := prog_8_method_70_code
def yX6_saying : MethodName := ⟨RX6, "saying", "(II)I"⟩
abbrev cX6_loudest : ByteArray := prog_8_method_71_code
def yX6_loudest : MethodName := ⟨RX6, "loudest", "()I"⟩
abbrev cX6_draw : ByteArray := prog_8_method_72_code
def yX6_draw : MethodName := ⟨RX6, "draw", "(I)I"⟩
abbrev cX6_bandDay : ByteArray := prog_8_method_73_code
def yX6_bandDay : MethodName := ⟨RX6, "bandDay", "(I)V"⟩
abbrev cX6_hunt : ByteArray := prog_8_method_74_code
def yX6_hunt : MethodName := ⟨RX6, "hunt", "(I)I"⟩
abbrev cX6_seed : ByteArray := prog_8_method_75_code
def yX6_seed : MethodName := ⟨RX6, "seed", "(I)I"⟩
abbrev cX6_keep : ByteArray := prog_8_method_76_code
def yX6_keep : MethodName := ⟨RX6, "keep", "(I)I"⟩
abbrev cX6_goBack : ByteArray := prog_8_method_77_code
def yX6_goBack : MethodName := ⟨RX6, "goBack", "(I)I"⟩
def RJx145de : String := "java/io/Serializable"
def TJx145de : u_T := fun k => match k with
  | _ => ("", "", "", false)
def tyJx145de : Nat → FieldType := fun k => match k with
  | _ => .int
theorem nmJx145de : ∀ a, a < 0 → ∀ b, b < 0 → a ≠ b → (TJx145de a).2.1 ≠ (TJx145de b).2.1 := by decide +kernel
theorem tyJx145de_ok : ∀ k, k < 0 → parseFieldDescriptor (TJx145de k).2.2.1 = some (tyJx145de k) := by decide +kernel
def RJx9f9b0 : String := "java/lang/CharSequence"
def TJx9f9b0 : u_T := fun k => match k with
  | _ => ("", "", "", false)
def tyJx9f9b0 : Nat → FieldType := fun k => match k with
  | _ => .int
theorem nmJx9f9b0 : ∀ a, a < 0 → ∀ b, b < 0 → a ≠ b → (TJx9f9b0 a).2.1 ≠ (TJx9f9b0 b).2.1 := by decide +kernel
theorem tyJx9f9b0_ok : ∀ k, k < 0 → parseFieldDescriptor (TJx9f9b0 k).2.2.1 = some (tyJx9f9b0 k) := by decide +kernel
def RJxb160c : String := "java/lang/Comparable"
def TJxb160c : u_T := fun k => match k with
  | _ => ("", "", "", false)
def tyJxb160c : Nat → FieldType := fun k => match k with
  | _ => .int
theorem nmJxb160c : ∀ a, a < 0 → ∀ b, b < 0 → a ≠ b → (TJxb160c a).2.1 ≠ (TJxb160c b).2.1 := by decide +kernel
theorem tyJxb160c_ok : ∀ k, k < 0 → parseFieldDescriptor (TJxb160c k).2.2.1 = some (tyJxb160c k) := by decide +kernel
def RJ6 : String := "java/lang/Integer"
def TJ6 : u_T := fun k => match k with
  | _ => ("", "", "", false)
def tyJ6 : Nat → FieldType := fun k => match k with
  | _ => .int
theorem nmJ6 : ∀ a, a < 0 → ∀ b, b < 0 → a ≠ b → (TJ6 a).2.1 ≠ (TJ6 b).2.1 := by decide +kernel
theorem tyJ6_ok : ∀ k, k < 0 → parseFieldDescriptor (TJ6 k).2.2.1 = some (tyJ6 k) := by decide +kernel
abbrev cJ6_bitCount_0f7a4 : ByteArray := prog_9_method_49_code
def yJ6_bitCount_0f7a4 : MethodName := ⟨RJ6, "bitCount", "(I)I"⟩
def RJ9 : String := "java/lang/Math"
def TJ9 : u_T := fun k => match k with
  | _ => ("", "", "", false)
def tyJ9 : Nat → FieldType := fun k => match k with
  | _ => .int
theorem nmJ9 : ∀ a, a < 0 → ∀ b, b < 0 → a ≠ b → (TJ9 a).2.1 ≠ (TJ9 b).2.1 := by decide +kernel
theorem tyJ9_ok : ∀ k, k < 0 → parseFieldDescriptor (TJ9 k).2.2.1 = some (tyJ9 k) := by decide +kernel
abbrev cJ9_abs_0f7a4 : ByteArray := prog_10_method_59_code
def yJ9_abs_0f7a4 : MethodName := ⟨RJ9, "abs", "(I)I"⟩
abbrev cJ9_max_7cf53 : ByteArray := prog_10_method_65_code
def yJ9_max_7cf53 : MethodName := ⟨RJ9, "max", "(II)I"⟩
abbrev cJ9_min_7cf53 : ByteArray := prog_10_method_69_code
def yJ9_min_7cf53 : MethodName := ⟨RJ9, "min", "(II)I"⟩
def RJ0 : String := "java/lang/String"
def TJ0 : u_T := fun k => match k with
  | _ => ("", "", "", false)
def tyJ0 : Nat → FieldType := fun k => match k with
  | _ => .int
theorem nmJ0 : ∀ a, a < 0 → ∀ b, b < 0 → a ≠ b → (TJ0 a).2.1 ≠ (TJ0 b).2.1 := by decide +kernel
theorem tyJ0_ok : ∀ k, k < 0 → parseFieldDescriptor (TJ0 k).2.2.1 = some (tyJ0 k) := by decide +kernel
abbrev cJ0_length_8abf5 : ByteArray := prog_11_method_54_code
def yJ0_length_8abf5 : MethodName := ⟨RJ0, "length", "()I"⟩
abbrev cJ0_charAt_5068e : ByteArray := prog_11_method_56_code
def yJ0_charAt_5068e : MethodName := ⟨RJ0, "charAt", "(I)C"⟩
abbrev cJ0_coder_7d493 : ByteArray := prog_11_method_152_code
def yJ0_coder_7d493 : MethodName := ⟨RJ0, "coder", "()B"⟩
abbrev cJ0_isLatin1_aae02 : ByteArray := prog_11_method_154_code
def yJ0_isLatin1_aae02 : MethodName := ⟨RJ0, "isLatin1", "()Z"⟩
abbrev cJ0_checkIndex_df160 : ByteArray := prog_11_method_155_code
def yJ0_checkIndex_df160 : MethodName := ⟨RJ0, "checkIndex", "(II)V"⟩
def RJ1 : String := "java/lang/StringLatin1"
def TJ1 : u_T := fun k => match k with
  | _ => ("", "", "", false)
def tyJ1 : Nat → FieldType := fun k => match k with
  | _ => .int
theorem nmJ1 : ∀ a, a < 0 → ∀ b, b < 0 → a ≠ b → (TJ1 a).2.1 ≠ (TJ1 b).2.1 := by decide +kernel
theorem tyJ1_ok : ∀ k, k < 0 → parseFieldDescriptor (TJ1 k).2.2.1 = some (tyJ1 k) := by decide +kernel
abbrev cJ1_charAt_3b067 : ByteArray := prog_12_method_2_code
def yJ1_charAt_3b067 : MethodName := ⟨RJ1, "charAt", "([BI)C"⟩
def RJ2 : String := "java/lang/StringUTF16"
def TJ2 : u_T := fun k => match k with
  | _ => ("", "", "", false)
def tyJ2 : Nat → FieldType := fun k => match k with
  | _ => .int
theorem nmJ2 : ∀ a, a < 0 → ∀ b, b < 0 → a ≠ b → (TJ2 a).2.1 ≠ (TJ2 b).2.1 := by decide +kernel
theorem tyJ2_ok : ∀ k, k < 0 → parseFieldDescriptor (TJ2 k).2.2.1 = some (tyJ2 k) := by decide +kernel
abbrev cJ2_getChar_3b067 : ByteArray := prog_13_method_5_code
def yJ2_getChar_3b067 : MethodName := ⟨RJ2, "getChar", "([BI)C"⟩
abbrev cJ2_length_9d52b : ByteArray := prog_13_method_6_code
def yJ2_length_9d52b : MethodName := ⟨RJ2, "length", "([B)I"⟩
abbrev cJ2_charAt_3b067 : ByteArray := prog_13_method_83_code
def yJ2_charAt_3b067 : MethodName := ⟨RJ2, "charAt", "([BI)C"⟩
abbrev cJ2_checkIndex_2214a : ByteArray := prog_13_method_91_code
def yJ2_checkIndex_2214a : MethodName := ⟨RJ2, "checkIndex", "(I[B)V"⟩
def RJ10 : String := "java/lang/System"
def TJ10 : u_T := fun k => match k with
  | _ => ("", "", "", false)
def tyJ10 : Nat → FieldType := fun k => match k with
  | _ => .int
theorem nmJ10 : ∀ a, a < 0 → ∀ b, b < 0 → a ≠ b → (TJ10 a).2.1 ≠ (TJ10 b).2.1 := by decide +kernel
theorem tyJ10_ok : ∀ k, k < 0 → parseFieldDescriptor (TJ10 k).2.2.1 = some (tyJ10 k) := by decide +kernel
def RJxfd54e : String := "java/lang/constant/Constable"
def TJxfd54e : u_T := fun k => match k with
  | _ => ("", "", "", false)
def tyJxfd54e : Nat → FieldType := fun k => match k with
  | _ => .int
theorem nmJxfd54e : ∀ a, a < 0 → ∀ b, b < 0 → a ≠ b → (TJxfd54e a).2.1 ≠ (TJxfd54e b).2.1 := by decide +kernel
theorem tyJxfd54e_ok : ∀ k, k < 0 → parseFieldDescriptor (TJxfd54e k).2.2.1 = some (tyJxfd54e k) := by decide +kernel
def RJx3cf43 : String := "java/lang/constant/ConstantDesc"
def TJx3cf43 : u_T := fun k => match k with
  | _ => ("", "", "", false)
def tyJx3cf43 : Nat → FieldType := fun k => match k with
  | _ => .int
theorem nmJx3cf43 : ∀ a, a < 0 → ∀ b, b < 0 → a ≠ b → (TJx3cf43 a).2.1 ≠ (TJx3cf43 b).2.1 := by decide +kernel
theorem tyJx3cf43_ok : ∀ k, k < 0 → parseFieldDescriptor (TJx3cf43 k).2.2.1 = some (tyJx3cf43 k) := by decide +kernel
def RJ7 : String := "java/util/Arrays"
def TJ7 : u_T := fun k => match k with
  | _ => ("", "", "", false)
def tyJ7 : Nat → FieldType := fun k => match k with
  | _ => .int
theorem nmJ7 : ∀ a, a < 0 → ∀ b, b < 0 → a ≠ b → (TJ7 a).2.1 ≠ (TJ7 b).2.1 := by decide +kernel
theorem tyJ7_ok : ∀ k, k < 0 → parseFieldDescriptor (TJ7 k).2.2.1 = some (tyJ7 k) := by decide +kernel
abbrev cJ7_fill_53178 : ByteArray := prog_15_method_103_code
def yJ7_fill_53178 : MethodName := ⟨RJ7, "fill", "([II)V"⟩
def RJ3 : String := "jdk/internal/util/Preconditions"
def TJ3 : u_T := fun k => match k with
  | _ => ("", "", "", false)
def tyJ3 : Nat → FieldType := fun k => match k with
  | _ => .int
theorem nmJ3 : ∀ a, a < 0 → ∀ b, b < 0 → a ≠ b → (TJ3 a).2.1 ≠ (TJ3 b).2.1 := by decide +kernel
theorem tyJ3_ok : ∀ k, k < 0 → parseFieldDescriptor (TJ3 k).2.2.1 = some (tyJ3 k) := by decide +kernel
abbrev cJ3_checkIndex_8e157 : ByteArray := prog_16_method_11_code
def yJ3_checkIndex_8e157 : MethodName := ⟨RJ3, "checkIndex", "(IILjava/util/function/BiFunction;)I"⟩
def RL : String := "SixMapsLaw"
abbrev cL_law : ByteArray := code
def yL_law : MethodName := ⟨RL, "law", "([I)Z"⟩
abbrev vwCl : List vw_C := [(RX0, TX0, 13), (RX1, TX1, 16), (RX2, TX2, 7), (RX3, TX3, 4), (RX4, TX4, 7), (RX5, TX5, 11), (RX6, TX6, 56)]
end
section
theorem dX0_init_0 : decode cX0_init 0 = .ok (.aload_n 0, 1) := by decide +kernel
theorem dX0_init_1 : decode cX0_init 1 = .ok (.invokespecial 3, 3) := by decide +kernel
theorem dX0_init_4 : decode cX0_init 4 = .ok (.aload_n 0, 1) := by decide +kernel
theorem dX0_init_5 : decode cX0_init 5 = .ok (.bipush 9, 2) := by decide +kernel
theorem dX0_init_7 : decode cX0_init 7 = .ok (.newarray .int, 2) := by decide +kernel
theorem dX0_init_9 : decode cX0_init 9 = .ok (.putfield 9, 3) := by decide +kernel
theorem dX0_init_12 : decode cX0_init 12 = .ok (.aload_n 0, 1) := by decide +kernel
theorem dX0_init_13 : decode cX0_init 13 = .ok (.bipush 9, 2) := by decide +kernel
theorem dX0_init_15 : decode cX0_init 15 = .ok (.newarray .int, 2) := by decide +kernel
theorem dX0_init_17 : decode cX0_init 17 = .ok (.putfield 15, 3) := by decide +kernel
theorem dX0_init_20 : decode cX0_init 20 = .ok (.aload_n 0, 1) := by decide +kernel
theorem dX0_init_21 : decode cX0_init 21 = .ok (.bipush 54, 2) := by decide +kernel
theorem dX0_init_23 : decode cX0_init 23 = .ok (.newarray .int, 2) := by decide +kernel
theorem dX0_init_25 : decode cX0_init 25 = .ok (.putfield 18, 3) := by decide +kernel
theorem dX0_init_28 : decode cX0_init 28 = .ok (.aload_n 0, 1) := by decide +kernel
theorem dX0_init_29 : decode cX0_init 29 = .ok (.bipush 54, 2) := by decide +kernel
theorem dX0_init_31 : decode cX0_init 31 = .ok (.newarray .int, 2) := by decide +kernel
theorem dX0_init_33 : decode cX0_init 33 = .ok (.putfield 21, 3) := by decide +kernel
theorem dX0_init_36 : decode cX0_init 36 = .ok (.aload_n 0, 1) := by decide +kernel
theorem dX0_init_37 : decode cX0_init 37 = .ok (.iconst 0, 1) := by decide +kernel
theorem dX0_init_38 : decode cX0_init 38 = .ok (.putfield 24, 3) := by decide +kernel
theorem dX0_init_41 : decode cX0_init 41 = .ok (.aload_n 0, 1) := by decide +kernel
theorem dX0_init_42 : decode cX0_init 42 = .ok (.iconst 0, 1) := by decide +kernel
theorem dX0_init_43 : decode cX0_init 43 = .ok (.putfield 28, 3) := by decide +kernel
theorem dX0_init_46 : decode cX0_init 46 = .ok (.aload_n 0, 1) := by decide +kernel
theorem dX0_init_47 : decode cX0_init 47 = .ok (.iconst 0, 1) := by decide +kernel
theorem dX0_init_48 : decode cX0_init 48 = .ok (.putfield 31, 3) := by decide +kernel
theorem dX0_init_51 : decode cX0_init 51 = .ok (.aload_n 0, 1) := by decide +kernel
theorem dX0_init_52 : decode cX0_init 52 = .ok (.iconst 0, 1) := by decide +kernel
theorem dX0_init_53 : decode cX0_init 53 = .ok (.putfield 34, 3) := by decide +kernel
theorem dX0_init_56 : decode cX0_init 56 = .ok (.aload_n 0, 1) := by decide +kernel
theorem dX0_init_57 : decode cX0_init 57 = .ok (.iconst 0, 1) := by decide +kernel
theorem dX0_init_58 : decode cX0_init 58 = .ok (.putfield 37, 3) := by decide +kernel
theorem dX0_init_61 : decode cX0_init 61 = .ok (.aload_n 0, 1) := by decide +kernel
theorem dX0_init_62 : decode cX0_init 62 = .ok (.iconst 0, 1) := by decide +kernel
theorem dX0_init_63 : decode cX0_init 63 = .ok (.putfield 40, 3) := by decide +kernel
theorem dX0_init_66 : decode cX0_init 66 = .ok (.aload_n 0, 1) := by decide +kernel
theorem dX0_init_67 : decode cX0_init 67 = .ok (.iconst 0, 1) := by decide +kernel
theorem dX0_init_68 : decode cX0_init 68 = .ok (.putfield 43, 3) := by decide +kernel
theorem dX0_init_71 : decode cX0_init 71 = .ok (.aload_n 0, 1) := by decide +kernel
theorem dX0_init_72 : decode cX0_init 72 = .ok (.bipush 10, 2) := by decide +kernel
theorem dX0_init_74 : decode cX0_init 74 = .ok (.putfield 46, 3) := by decide +kernel
theorem dX0_init_77 : decode cX0_init 77 = .ok (.aload_n 0, 1) := by decide +kernel
theorem dX0_init_78 : decode cX0_init 78 = .ok (.bipush 100, 2) := by decide +kernel
theorem dX0_init_80 : decode cX0_init 80 = .ok (.putfield 49, 3) := by decide +kernel
theorem dX0_init_83 : decode cX0_init 83 = .ok (.return_, 1) := by decide +kernel
theorem dX0_clear_0 : decode cX0_clear 0 = .ok (.aload_n 0, 1) := by decide +kernel
theorem dX0_clear_1 : decode cX0_clear 1 = .ok (.iconst 0, 1) := by decide +kernel
theorem dX0_clear_2 : decode cX0_clear 2 = .ok (.putfield 24, 3) := by decide +kernel
theorem dX0_clear_5 : decode cX0_clear 5 = .ok (.aload_n 0, 1) := by decide +kernel
theorem dX0_clear_6 : decode cX0_clear 6 = .ok (.iconst 0, 1) := by decide +kernel
theorem dX0_clear_7 : decode cX0_clear 7 = .ok (.putfield 28, 3) := by decide +kernel
theorem dX0_clear_10 : decode cX0_clear 10 = .ok (.aload_n 0, 1) := by decide +kernel
theorem dX0_clear_11 : decode cX0_clear 11 = .ok (.iconst 0, 1) := by decide +kernel
theorem dX0_clear_12 : decode cX0_clear 12 = .ok (.putfield 31, 3) := by decide +kernel
theorem dX0_clear_15 : decode cX0_clear 15 = .ok (.aload_n 0, 1) := by decide +kernel
theorem dX0_clear_16 : decode cX0_clear 16 = .ok (.iconst 0, 1) := by decide +kernel
theorem dX0_clear_17 : decode cX0_clear 17 = .ok (.putfield 34, 3) := by decide +kernel
theorem dX0_clear_20 : decode cX0_clear 20 = .ok (.aload_n 0, 1) := by decide +kernel
theorem dX0_clear_21 : decode cX0_clear 21 = .ok (.iconst 0, 1) := by decide +kernel
theorem dX0_clear_22 : decode cX0_clear 22 = .ok (.putfield 37, 3) := by decide +kernel
theorem dX0_clear_25 : decode cX0_clear 25 = .ok (.aload_n 0, 1) := by decide +kernel
theorem dX0_clear_26 : decode cX0_clear 26 = .ok (.iconst 0, 1) := by decide +kernel
theorem dX0_clear_27 : decode cX0_clear 27 = .ok (.putfield 40, 3) := by decide +kernel
theorem dX0_clear_30 : decode cX0_clear 30 = .ok (.aload_n 0, 1) := by decide +kernel
theorem dX0_clear_31 : decode cX0_clear 31 = .ok (.iconst 0, 1) := by decide +kernel
theorem dX0_clear_32 : decode cX0_clear 32 = .ok (.putfield 43, 3) := by decide +kernel
theorem dX0_clear_35 : decode cX0_clear 35 = .ok (.aload_n 0, 1) := by decide +kernel
theorem dX0_clear_36 : decode cX0_clear 36 = .ok (.bipush 10, 2) := by decide +kernel
theorem dX0_clear_38 : decode cX0_clear 38 = .ok (.putfield 46, 3) := by decide +kernel
theorem dX0_clear_41 : decode cX0_clear 41 = .ok (.aload_n 0, 1) := by decide +kernel
theorem dX0_clear_42 : decode cX0_clear 42 = .ok (.bipush 100, 2) := by decide +kernel
theorem dX0_clear_44 : decode cX0_clear 44 = .ok (.putfield 49, 3) := by decide +kernel
theorem dX0_clear_47 : decode cX0_clear 47 = .ok (.return_, 1) := by decide +kernel
theorem dX0_addMark_0 : decode cX0_addMark 0 = .ok (.aload_n 0, 1) := by decide +kernel
theorem dX0_addMark_1 : decode cX0_addMark 1 = .ok (.getfield 24, 3) := by decide +kernel
theorem dX0_addMark_4 : decode cX0_addMark 4 = .ok (.bipush 9, 2) := by decide +kernel
theorem dX0_addMark_6 : decode cX0_addMark 6 = .ok (.if_icmp .lt 4, 3) := by decide +kernel
theorem dX0_addMark_9 : decode cX0_addMark 9 = .ok (.return_, 1) := by decide +kernel
theorem dX0_addMark_10 : decode cX0_addMark 10 = .ok (.aload_n 0, 1) := by decide +kernel
theorem dX0_addMark_11 : decode cX0_addMark 11 = .ok (.getfield 9, 3) := by decide +kernel
theorem dX0_addMark_14 : decode cX0_addMark 14 = .ok (.aload_n 0, 1) := by decide +kernel
theorem dX0_addMark_15 : decode cX0_addMark 15 = .ok (.getfield 24, 3) := by decide +kernel
theorem dX0_addMark_18 : decode cX0_addMark 18 = .ok (.iload_n 1, 1) := by decide +kernel
theorem dX0_addMark_19 : decode cX0_addMark 19 = .ok (.iastore, 1) := by decide +kernel
theorem dX0_addMark_20 : decode cX0_addMark 20 = .ok (.aload_n 0, 1) := by decide +kernel
theorem dX0_addMark_21 : decode cX0_addMark 21 = .ok (.getfield 15, 3) := by decide +kernel
theorem dX0_addMark_24 : decode cX0_addMark 24 = .ok (.aload_n 0, 1) := by decide +kernel
theorem dX0_addMark_25 : decode cX0_addMark 25 = .ok (.getfield 24, 3) := by decide +kernel
theorem dX0_addMark_28 : decode cX0_addMark 28 = .ok (.iload_n 2, 1) := by decide +kernel
theorem dX0_addMark_29 : decode cX0_addMark 29 = .ok (.iastore, 1) := by decide +kernel
theorem dX0_addMark_30 : decode cX0_addMark 30 = .ok (.iconst 0, 1) := by decide +kernel
theorem dX0_addMark_31 : decode cX0_addMark 31 = .ok (.istore_n 3, 1) := by decide +kernel
theorem dX0_addMark_32 : decode cX0_addMark 32 = .ok (.iload_n 3, 1) := by decide +kernel
theorem dX0_addMark_33 : decode cX0_addMark 33 = .ok (.bipush 6, 2) := by decide +kernel
theorem dX0_addMark_35 : decode cX0_addMark 35 = .ok (.if_icmp .ge 20, 3) := by decide +kernel
theorem dX0_addMark_38 : decode cX0_addMark 38 = .ok (.aload_n 0, 1) := by decide +kernel
theorem dX0_addMark_39 : decode cX0_addMark 39 = .ok (.iload_n 3, 1) := by decide +kernel
theorem dX0_addMark_40 : decode cX0_addMark 40 = .ok (.aload_n 0, 1) := by decide +kernel
theorem dX0_addMark_41 : decode cX0_addMark 41 = .ok (.getfield 24, 3) := by decide +kernel
theorem dX0_addMark_44 : decode cX0_addMark 44 = .ok (.iload_n 1, 1) := by decide +kernel
theorem dX0_addMark_45 : decode cX0_addMark 45 = .ok (.iload_n 2, 1) := by decide +kernel
theorem dX0_addMark_46 : decode cX0_addMark 46 = .ok (.invokevirtual 52, 3) := by decide +kernel
theorem dX0_addMark_49 : decode cX0_addMark 49 = .ok (.iinc 3 1, 3) := by decide +kernel
theorem dX0_addMark_52 : decode cX0_addMark 52 = .ok (.goto (-20), 3) := by decide +kernel
theorem dX0_addMark_55 : decode cX0_addMark 55 = .ok (.aload_n 0, 1) := by decide +kernel
theorem dX0_addMark_56 : decode cX0_addMark 56 = .ok (.dup, 1) := by decide +kernel
theorem dX0_addMark_57 : decode cX0_addMark 57 = .ok (.getfield 24, 3) := by decide +kernel
theorem dX0_addMark_60 : decode cX0_addMark 60 = .ok (.iconst 1, 1) := by decide +kernel
theorem dX0_addMark_61 : decode cX0_addMark 61 = .ok (.iadd, 1) := by decide +kernel
theorem dX0_addMark_62 : decode cX0_addMark 62 = .ok (.putfield 24, 3) := by decide +kernel
theorem dX0_addMark_65 : decode cX0_addMark 65 = .ok (.return_, 1) := by decide +kernel
theorem dX0_addLie_0 : decode cX0_addLie 0 = .ok (.aload_n 0, 1) := by decide +kernel
theorem dX0_addLie_1 : decode cX0_addLie 1 = .ok (.iload_n 1, 1) := by decide +kernel
theorem dX0_addLie_2 : decode cX0_addLie 2 = .ok (.iload_n 2, 1) := by decide +kernel
theorem dX0_addLie_3 : decode cX0_addLie 3 = .ok (.iload_n 3, 1) := by decide +kernel
theorem dX0_addLie_4 : decode cX0_addLie 4 = .ok (.iload 4, 2) := by decide +kernel
theorem dX0_addLie_6 : decode cX0_addLie 6 = .ok (.invokevirtual 52, 3) := by decide +kernel
theorem dX0_addLie_9 : decode cX0_addLie 9 = .ok (.aload_n 0, 1) := by decide +kernel
theorem dX0_addLie_10 : decode cX0_addLie 10 = .ok (.dup, 1) := by decide +kernel
theorem dX0_addLie_11 : decode cX0_addLie 11 = .ok (.getfield 28, 3) := by decide +kernel
theorem dX0_addLie_14 : decode cX0_addLie 14 = .ok (.iconst 1, 1) := by decide +kernel
theorem dX0_addLie_15 : decode cX0_addLie 15 = .ok (.iload_n 1, 1) := by decide +kernel
theorem dX0_addLie_16 : decode cX0_addLie 16 = .ok (.ishl, 1) := by decide +kernel
theorem dX0_addLie_17 : decode cX0_addLie 17 = .ok (.ior, 1) := by decide +kernel
theorem dX0_addLie_18 : decode cX0_addLie 18 = .ok (.putfield 28, 3) := by decide +kernel
theorem dX0_addLie_21 : decode cX0_addLie 21 = .ok (.aload_n 0, 1) := by decide +kernel
theorem dX0_addLie_22 : decode cX0_addLie 22 = .ok (.dup, 1) := by decide +kernel
theorem dX0_addLie_23 : decode cX0_addLie 23 = .ok (.getfield 31, 3) := by decide +kernel
theorem dX0_addLie_26 : decode cX0_addLie 26 = .ok (.iconst 1, 1) := by decide +kernel
theorem dX0_addLie_27 : decode cX0_addLie 27 = .ok (.iadd, 1) := by decide +kernel
theorem dX0_addLie_28 : decode cX0_addLie 28 = .ok (.putfield 31, 3) := by decide +kernel
theorem dX0_addLie_31 : decode cX0_addLie 31 = .ok (.return_, 1) := by decide +kernel
theorem dX0_put_0 : decode cX0_put 0 = .ok (.aload_n 0, 1) := by decide +kernel
theorem dX0_put_1 : decode cX0_put 1 = .ok (.getfield 18, 3) := by decide +kernel
theorem dX0_put_4 : decode cX0_put 4 = .ok (.iload_n 1, 1) := by decide +kernel
theorem dX0_put_5 : decode cX0_put 5 = .ok (.bipush 9, 2) := by decide +kernel
theorem dX0_put_7 : decode cX0_put 7 = .ok (.imul, 1) := by decide +kernel
theorem dX0_put_8 : decode cX0_put 8 = .ok (.iload_n 2, 1) := by decide +kernel
theorem dX0_put_9 : decode cX0_put 9 = .ok (.iadd, 1) := by decide +kernel
theorem dX0_put_10 : decode cX0_put 10 = .ok (.iload_n 3, 1) := by decide +kernel
theorem dX0_put_11 : decode cX0_put 11 = .ok (.iastore, 1) := by decide +kernel
theorem dX0_put_12 : decode cX0_put 12 = .ok (.aload_n 0, 1) := by decide +kernel
theorem dX0_put_13 : decode cX0_put 13 = .ok (.getfield 21, 3) := by decide +kernel
theorem dX0_put_16 : decode cX0_put 16 = .ok (.iload_n 1, 1) := by decide +kernel
theorem dX0_put_17 : decode cX0_put 17 = .ok (.bipush 9, 2) := by decide +kernel
theorem dX0_put_19 : decode cX0_put 19 = .ok (.imul, 1) := by decide +kernel
theorem dX0_put_20 : decode cX0_put 20 = .ok (.iload_n 2, 1) := by decide +kernel
theorem dX0_put_21 : decode cX0_put 21 = .ok (.iadd, 1) := by decide +kernel
theorem dX0_put_22 : decode cX0_put 22 = .ok (.iload 4, 2) := by decide +kernel
theorem dX0_put_24 : decode cX0_put 24 = .ok (.iastore, 1) := by decide +kernel
theorem dX0_put_25 : decode cX0_put 25 = .ok (.return_, 1) := by decide +kernel
theorem dX0_soughtX_0 : decode cX0_soughtX 0 = .ok (.aload_n 0, 1) := by decide +kernel
theorem dX0_soughtX_1 : decode cX0_soughtX 1 = .ok (.getfield 9, 3) := by decide +kernel
theorem dX0_soughtX_4 : decode cX0_soughtX 4 = .ok (.aload_n 0, 1) := by decide +kernel
theorem dX0_soughtX_5 : decode cX0_soughtX 5 = .ok (.getfield 37, 3) := by decide +kernel
theorem dX0_soughtX_8 : decode cX0_soughtX 8 = .ok (.iaload, 1) := by decide +kernel
theorem dX0_soughtX_9 : decode cX0_soughtX 9 = .ok (.aload_n 0, 1) := by decide +kernel
theorem dX0_soughtX_10 : decode cX0_soughtX 10 = .ok (.getfield 9, 3) := by decide +kernel
theorem dX0_soughtX_13 : decode cX0_soughtX 13 = .ok (.aload_n 0, 1) := by decide +kernel
theorem dX0_soughtX_14 : decode cX0_soughtX 14 = .ok (.getfield 40, 3) := by decide +kernel
theorem dX0_soughtX_17 : decode cX0_soughtX 17 = .ok (.iaload, 1) := by decide +kernel
theorem dX0_soughtX_18 : decode cX0_soughtX 18 = .ok (.iadd, 1) := by decide +kernel
theorem dX0_soughtX_19 : decode cX0_soughtX 19 = .ok (.aload_n 0, 1) := by decide +kernel
theorem dX0_soughtX_20 : decode cX0_soughtX 20 = .ok (.getfield 9, 3) := by decide +kernel
theorem dX0_soughtX_23 : decode cX0_soughtX 23 = .ok (.aload_n 0, 1) := by decide +kernel
theorem dX0_soughtX_24 : decode cX0_soughtX 24 = .ok (.getfield 43, 3) := by decide +kernel
theorem dX0_soughtX_27 : decode cX0_soughtX 27 = .ok (.iaload, 1) := by decide +kernel
theorem dX0_soughtX_28 : decode cX0_soughtX 28 = .ok (.isub, 1) := by decide +kernel
theorem dX0_soughtX_29 : decode cX0_soughtX 29 = .ok (.ireturn, 1) := by decide +kernel
theorem dX0_soughtY_0 : decode cX0_soughtY 0 = .ok (.aload_n 0, 1) := by decide +kernel
theorem dX0_soughtY_1 : decode cX0_soughtY 1 = .ok (.getfield 15, 3) := by decide +kernel
theorem dX0_soughtY_4 : decode cX0_soughtY 4 = .ok (.aload_n 0, 1) := by decide +kernel
theorem dX0_soughtY_5 : decode cX0_soughtY 5 = .ok (.getfield 37, 3) := by decide +kernel
theorem dX0_soughtY_8 : decode cX0_soughtY 8 = .ok (.iaload, 1) := by decide +kernel
theorem dX0_soughtY_9 : decode cX0_soughtY 9 = .ok (.aload_n 0, 1) := by decide +kernel
theorem dX0_soughtY_10 : decode cX0_soughtY 10 = .ok (.getfield 15, 3) := by decide +kernel
theorem dX0_soughtY_13 : decode cX0_soughtY 13 = .ok (.aload_n 0, 1) := by decide +kernel
theorem dX0_soughtY_14 : decode cX0_soughtY 14 = .ok (.getfield 40, 3) := by decide +kernel
theorem dX0_soughtY_17 : decode cX0_soughtY 17 = .ok (.iaload, 1) := by decide +kernel
theorem dX0_soughtY_18 : decode cX0_soughtY 18 = .ok (.iadd, 1) := by decide +kernel
theorem dX0_soughtY_19 : decode cX0_soughtY 19 = .ok (.aload_n 0, 1) := by decide +kernel
theorem dX0_soughtY_20 : decode cX0_soughtY 20 = .ok (.getfield 15, 3) := by decide +kernel
theorem dX0_soughtY_23 : decode cX0_soughtY 23 = .ok (.aload_n 0, 1) := by decide +kernel
theorem dX0_soughtY_24 : decode cX0_soughtY 24 = .ok (.getfield 43, 3) := by decide +kernel
theorem dX0_soughtY_27 : decode cX0_soughtY 27 = .ok (.iaload, 1) := by decide +kernel
theorem dX0_soughtY_28 : decode cX0_soughtY 28 = .ok (.isub, 1) := by decide +kernel
theorem dX0_soughtY_29 : decode cX0_soughtY 29 = .ok (.ireturn, 1) := by decide +kernel
theorem dX1_init_0 : decode cX1_init 0 = .ok (.aload_n 0, 1) := by decide +kernel
theorem dX1_init_1 : decode cX1_init 1 = .ok (.invokespecial 3, 3) := by decide +kernel
theorem dX1_init_4 : decode cX1_init 4 = .ok (.aload_n 0, 1) := by decide +kernel
theorem dX1_init_5 : decode cX1_init 5 = .ok (.bipush 6, 2) := by decide +kernel
theorem dX1_init_7 : decode cX1_init 7 = .ok (.newarray .int, 2) := by decide +kernel
theorem dX1_init_9 : decode cX1_init 9 = .ok (.putfield 9, 3) := by decide +kernel
theorem dX1_init_12 : decode cX1_init 12 = .ok (.aload_n 0, 1) := by decide +kernel
theorem dX1_init_13 : decode cX1_init 13 = .ok (.bipush 54, 2) := by decide +kernel
theorem dX1_init_15 : decode cX1_init 15 = .ok (.newarray .int, 2) := by decide +kernel
theorem dX1_init_17 : decode cX1_init 17 = .ok (.putfield 15, 3) := by decide +kernel
theorem dX1_init_20 : decode cX1_init 20 = .ok (.aload_n 0, 1) := by decide +kernel
theorem dX1_init_21 : decode cX1_init 21 = .ok (.bipush 54, 2) := by decide +kernel
theorem dX1_init_23 : decode cX1_init 23 = .ok (.newarray .int, 2) := by decide +kernel
theorem dX1_init_25 : decode cX1_init 25 = .ok (.putfield 18, 3) := by decide +kernel
theorem dX1_init_28 : decode cX1_init 28 = .ok (.aload_n 0, 1) := by decide +kernel
theorem dX1_init_29 : decode cX1_init 29 = .ok (.bipush 9, 2) := by decide +kernel
theorem dX1_init_31 : decode cX1_init 31 = .ok (.newarray .int, 2) := by decide +kernel
theorem dX1_init_33 : decode cX1_init 33 = .ok (.putfield 21, 3) := by decide +kernel
theorem dX1_init_36 : decode cX1_init 36 = .ok (.aload_n 0, 1) := by decide +kernel
theorem dX1_init_37 : decode cX1_init 37 = .ok (.bipush 9, 2) := by decide +kernel
theorem dX1_init_39 : decode cX1_init 39 = .ok (.newarray .int, 2) := by decide +kernel
theorem dX1_init_41 : decode cX1_init 41 = .ok (.putfield 24, 3) := by decide +kernel
theorem dX1_init_44 : decode cX1_init 44 = .ok (.aload_n 0, 1) := by decide +kernel
theorem dX1_init_45 : decode cX1_init 45 = .ok (.bipush 9, 2) := by decide +kernel
theorem dX1_init_47 : decode cX1_init 47 = .ok (.newarray .int, 2) := by decide +kernel
theorem dX1_init_49 : decode cX1_init 49 = .ok (.putfield 27, 3) := by decide +kernel
theorem dX1_init_52 : decode cX1_init 52 = .ok (.aload_n 0, 1) := by decide +kernel
theorem dX1_init_53 : decode cX1_init 53 = .ok (.bipush 9, 2) := by decide +kernel
theorem dX1_init_55 : decode cX1_init 55 = .ok (.newarray .int, 2) := by decide +kernel
theorem dX1_init_57 : decode cX1_init 57 = .ok (.putfield 30, 3) := by decide +kernel
theorem dX1_init_60 : decode cX1_init 60 = .ok (.aload_n 0, 1) := by decide +kernel
theorem dX1_init_61 : decode cX1_init 61 = .ok (.bipush 15, 2) := by decide +kernel
theorem dX1_init_63 : decode cX1_init 63 = .ok (.newarray .int, 2) := by decide +kernel
theorem dX1_init_65 : decode cX1_init 65 = .ok (.putfield 33, 3) := by decide +kernel
theorem dX1_init_68 : decode cX1_init 68 = .ok (.aload_n 0, 1) := by decide +kernel
theorem dX1_init_69 : decode cX1_init 69 = .ok (.bipush 60, 2) := by decide +kernel
theorem dX1_init_71 : decode cX1_init 71 = .ok (.newarray .int, 2) := by decide +kernel
theorem dX1_init_73 : decode cX1_init 73 = .ok (.putfield 36, 3) := by decide +kernel
theorem dX1_init_76 : decode cX1_init 76 = .ok (.aload_n 0, 1) := by decide +kernel
theorem dX1_init_77 : decode cX1_init 77 = .ok (.new 39, 3) := by decide +kernel
theorem dX1_init_80 : decode cX1_init 80 = .ok (.dup, 1) := by decide +kernel
theorem dX1_init_81 : decode cX1_init 81 = .ok (.invokespecial 41, 3) := by decide +kernel
theorem dX1_init_84 : decode cX1_init 84 = .ok (.putfield 42, 3) := by decide +kernel
theorem dX1_init_87 : decode cX1_init 87 = .ok (.aload_n 0, 1) := by decide +kernel
theorem dX1_init_88 : decode cX1_init 88 = .ok (.new 46, 3) := by decide +kernel
theorem dX1_init_91 : decode cX1_init 91 = .ok (.dup, 1) := by decide +kernel
theorem dX1_init_92 : decode cX1_init 92 = .ok (.invokespecial 48, 3) := by decide +kernel
theorem dX1_init_95 : decode cX1_init 95 = .ok (.putfield 49, 3) := by decide +kernel
theorem dX1_init_98 : decode cX1_init 98 = .ok (.aload_n 0, 1) := by decide +kernel
theorem dX1_init_99 : decode cX1_init 99 = .ok (.iconst 0, 1) := by decide +kernel
theorem dX1_init_100 : decode cX1_init 100 = .ok (.putfield 53, 3) := by decide +kernel
theorem dX1_init_103 : decode cX1_init 103 = .ok (.aload_n 0, 1) := by decide +kernel
theorem dX1_init_104 : decode cX1_init 104 = .ok (.iconst 0, 1) := by decide +kernel
theorem dX1_init_105 : decode cX1_init 105 = .ok (.putfield 57, 3) := by decide +kernel
theorem dX1_init_108 : decode cX1_init 108 = .ok (.aload_n 0, 1) := by decide +kernel
theorem dX1_init_109 : decode cX1_init 109 = .ok (.iconst 0, 1) := by decide +kernel
theorem dX1_init_110 : decode cX1_init 110 = .ok (.putfield 60, 3) := by decide +kernel
theorem dX1_init_113 : decode cX1_init 113 = .ok (.aload_n 0, 1) := by decide +kernel
theorem dX1_init_114 : decode cX1_init 114 = .ok (.iconst (-1), 1) := by decide +kernel
theorem dX1_init_115 : decode cX1_init 115 = .ok (.putfield 63, 3) := by decide +kernel
theorem dX1_init_118 : decode cX1_init 118 = .ok (.aload_n 0, 1) := by decide +kernel
theorem dX1_init_119 : decode cX1_init 119 = .ok (.iconst 0, 1) := by decide +kernel
theorem dX1_init_120 : decode cX1_init 120 = .ok (.putfield 66, 3) := by decide +kernel
theorem dX1_init_123 : decode cX1_init 123 = .ok (.return_, 1) := by decide +kernel
theorem dX1_weigh_0 : decode cX1_weigh 0 = .ok (.aload_n 0, 1) := by decide +kernel
theorem dX1_weigh_1 : decode cX1_weigh 1 = .ok (.aload_n 1, 1) := by decide +kernel
theorem dX1_weigh_2 : decode cX1_weigh 2 = .ok (.invokevirtual 69, 3) := by decide +kernel
theorem dX1_weigh_5 : decode cX1_weigh 5 = .ok (.aload_n 0, 1) := by decide +kernel
theorem dX1_weigh_6 : decode cX1_weigh 6 = .ok (.aload_n 2, 1) := by decide +kernel
theorem dX1_weigh_7 : decode cX1_weigh 7 = .ok (.putfield 49, 3) := by decide +kernel
theorem dX1_weigh_10 : decode cX1_weigh 10 = .ok (.aload_n 0, 1) := by decide +kernel
theorem dX1_weigh_11 : decode cX1_weigh 11 = .ok (.aload_n 2, 1) := by decide +kernel
theorem dX1_weigh_12 : decode cX1_weigh 12 = .ok (.getfield 73, 3) := by decide +kernel
theorem dX1_weigh_15 : decode cX1_weigh 15 = .ok (.putfield 53, 3) := by decide +kernel
theorem dX1_weigh_18 : decode cX1_weigh 18 = .ok (.aload_n 2, 1) := by decide +kernel
theorem dX1_weigh_19 : decode cX1_weigh 19 = .ok (.getfield 76, 3) := by decide +kernel
theorem dX1_weigh_22 : decode cX1_weigh 22 = .ok (.iload_n 3, 1) := by decide +kernel
theorem dX1_weigh_23 : decode cX1_weigh 23 = .ok (.bipush 6, 2) := by decide +kernel
theorem dX1_weigh_25 : decode cX1_weigh 25 = .ok (.imul, 1) := by decide +kernel
theorem dX1_weigh_26 : decode cX1_weigh 26 = .ok (.aload_n 0, 1) := by decide +kernel
theorem dX1_weigh_27 : decode cX1_weigh 27 = .ok (.getfield 9, 3) := by decide +kernel
theorem dX1_weigh_30 : decode cX1_weigh 30 = .ok (.iconst 0, 1) := by decide +kernel
theorem dX1_weigh_31 : decode cX1_weigh 31 = .ok (.bipush 6, 2) := by decide +kernel
theorem dX1_weigh_33 : decode cX1_weigh 33 = .ok (.invokestatic 77, 3) := by decide +kernel
theorem dX1_weigh_36 : decode cX1_weigh 36 = .ok (.aload_n 0, 1) := by decide +kernel
theorem dX1_weigh_37 : decode cX1_weigh 37 = .ok (.invokevirtual 83, 3) := by decide +kernel
theorem dX1_weigh_40 : decode cX1_weigh 40 = .ok (.return_, 1) := by decide +kernel
theorem dX1_weighOwnAlone_0 : decode cX1_weighOwnAlone 0 = .ok (.aload_n 0, 1) := by decide +kernel
theorem dX1_weighOwnAlone_1 : decode cX1_weighOwnAlone 1 = .ok (.aload_n 1, 1) := by decide +kernel
theorem dX1_weighOwnAlone_2 : decode cX1_weighOwnAlone 2 = .ok (.invokevirtual 69, 3) := by decide +kernel
theorem dX1_weighOwnAlone_5 : decode cX1_weighOwnAlone 5 = .ok (.aload_n 0, 1) := by decide +kernel
theorem dX1_weighOwnAlone_6 : decode cX1_weighOwnAlone 6 = .ok (.iconst 0, 1) := by decide +kernel
theorem dX1_weighOwnAlone_7 : decode cX1_weighOwnAlone 7 = .ok (.putfield 53, 3) := by decide +kernel
theorem dX1_weighOwnAlone_10 : decode cX1_weighOwnAlone 10 = .ok (.aload_n 0, 1) := by decide +kernel
theorem dX1_weighOwnAlone_11 : decode cX1_weighOwnAlone 11 = .ok (.getfield 9, 3) := by decide +kernel
theorem dX1_weighOwnAlone_14 : decode cX1_weighOwnAlone 14 = .ok (.iconst 0, 1) := by decide +kernel
theorem dX1_weighOwnAlone_15 : decode cX1_weighOwnAlone 15 = .ok (.invokestatic 86, 3) := by decide +kernel
theorem dX1_weighOwnAlone_18 : decode cX1_weighOwnAlone 18 = .ok (.aload_n 0, 1) := by decide +kernel
theorem dX1_weighOwnAlone_19 : decode cX1_weighOwnAlone 19 = .ok (.iload_n 2, 1) := by decide +kernel
theorem dX1_weighOwnAlone_20 : decode cX1_weighOwnAlone 20 = .ok (.iconst 1, 1) := by decide +kernel
theorem dX1_weighOwnAlone_21 : decode cX1_weighOwnAlone 21 = .ok (.aload_n 0, 1) := by decide +kernel
theorem dX1_weighOwnAlone_22 : decode cX1_weighOwnAlone 22 = .ok (.getfield 42, 3) := by decide +kernel
theorem dX1_weighOwnAlone_25 : decode cX1_weighOwnAlone 25 = .ok (.getfield 92, 3) := by decide +kernel
theorem dX1_weighOwnAlone_28 : decode cX1_weighOwnAlone 28 = .ok (.ishl, 1) := by decide +kernel
theorem dX1_weighOwnAlone_29 : decode cX1_weighOwnAlone 29 = .ok (.iconst 1, 1) := by decide +kernel
theorem dX1_weighOwnAlone_30 : decode cX1_weighOwnAlone 30 = .ok (.isub, 1) := by decide +kernel
theorem dX1_weighOwnAlone_31 : decode cX1_weighOwnAlone 31 = .ok (.invokevirtual 95, 3) := by decide +kernel
theorem dX1_weighOwnAlone_34 : decode cX1_weighOwnAlone 34 = .ok (.return_, 1) := by decide +kernel
theorem dX1_takeMaps_0 : decode cX1_takeMaps 0 = .ok (.aload_n 0, 1) := by decide +kernel
theorem dX1_takeMaps_1 : decode cX1_takeMaps 1 = .ok (.aload_n 1, 1) := by decide +kernel
theorem dX1_takeMaps_2 : decode cX1_takeMaps 2 = .ok (.putfield 42, 3) := by decide +kernel
theorem dX1_takeMaps_5 : decode cX1_takeMaps 5 = .ok (.aload_n 1, 1) := by decide +kernel
theorem dX1_takeMaps_6 : decode cX1_takeMaps 6 = .ok (.getfield 99, 3) := by decide +kernel
theorem dX1_takeMaps_9 : decode cX1_takeMaps 9 = .ok (.iconst 0, 1) := by decide +kernel
theorem dX1_takeMaps_10 : decode cX1_takeMaps 10 = .ok (.aload_n 0, 1) := by decide +kernel
theorem dX1_takeMaps_11 : decode cX1_takeMaps 11 = .ok (.getfield 15, 3) := by decide +kernel
theorem dX1_takeMaps_14 : decode cX1_takeMaps 14 = .ok (.iconst 0, 1) := by decide +kernel
theorem dX1_takeMaps_15 : decode cX1_takeMaps 15 = .ok (.aload_n 0, 1) := by decide +kernel
theorem dX1_takeMaps_16 : decode cX1_takeMaps 16 = .ok (.getfield 15, 3) := by decide +kernel
theorem dX1_takeMaps_19 : decode cX1_takeMaps 19 = .ok (.arraylength, 1) := by decide +kernel
theorem dX1_takeMaps_20 : decode cX1_takeMaps 20 = .ok (.invokestatic 77, 3) := by decide +kernel
theorem dX1_takeMaps_23 : decode cX1_takeMaps 23 = .ok (.aload_n 1, 1) := by decide +kernel
theorem dX1_takeMaps_24 : decode cX1_takeMaps 24 = .ok (.getfield 100, 3) := by decide +kernel
theorem dX1_takeMaps_27 : decode cX1_takeMaps 27 = .ok (.iconst 0, 1) := by decide +kernel
theorem dX1_takeMaps_28 : decode cX1_takeMaps 28 = .ok (.aload_n 0, 1) := by decide +kernel
theorem dX1_takeMaps_29 : decode cX1_takeMaps 29 = .ok (.getfield 18, 3) := by decide +kernel
theorem dX1_takeMaps_32 : decode cX1_takeMaps 32 = .ok (.iconst 0, 1) := by decide +kernel
theorem dX1_takeMaps_33 : decode cX1_takeMaps 33 = .ok (.aload_n 0, 1) := by decide +kernel
theorem dX1_takeMaps_34 : decode cX1_takeMaps 34 = .ok (.getfield 18, 3) := by decide +kernel
theorem dX1_takeMaps_37 : decode cX1_takeMaps 37 = .ok (.arraylength, 1) := by decide +kernel
theorem dX1_takeMaps_38 : decode cX1_takeMaps 38 = .ok (.invokestatic 77, 3) := by decide +kernel
theorem dX1_takeMaps_41 : decode cX1_takeMaps 41 = .ok (.return_, 1) := by decide +kernel
theorem dX1_hear_0 : decode cX1_hear 0 = .ok (.aload_n 0, 1) := by decide +kernel
theorem dX1_hear_1 : decode cX1_hear 1 = .ok (.getfield 9, 3) := by decide +kernel
theorem dX1_hear_4 : decode cX1_hear 4 = .ok (.iload_n 1, 1) := by decide +kernel
theorem dX1_hear_5 : decode cX1_hear 5 = .ok (.dup2, 1) := by decide +kernel
theorem dX1_hear_6 : decode cX1_hear 6 = .ok (.iaload, 1) := by decide +kernel
theorem dX1_hear_7 : decode cX1_hear 7 = .ok (.iload_n 2, 1) := by decide +kernel
theorem dX1_hear_8 : decode cX1_hear 8 = .ok (.ior, 1) := by decide +kernel
theorem dX1_hear_9 : decode cX1_hear 9 = .ok (.iastore, 1) := by decide +kernel
theorem dX1_hear_10 : decode cX1_hear 10 = .ok (.aload_n 0, 1) := by decide +kernel
theorem dX1_hear_11 : decode cX1_hear 11 = .ok (.invokevirtual 83, 3) := by decide +kernel
theorem dX1_hear_14 : decode cX1_hear 14 = .ok (.return_, 1) := by decide +kernel
theorem dX1_leftAtWorst_0 : decode cX1_leftAtWorst 0 = .ok (.aload_n 0, 1) := by decide +kernel
theorem dX1_leftAtWorst_1 : decode cX1_leftAtWorst 1 = .ok (.getfield 9, 3) := by decide +kernel
theorem dX1_leftAtWorst_4 : decode cX1_leftAtWorst 4 = .ok (.iload_n 1, 1) := by decide +kernel
theorem dX1_leftAtWorst_5 : decode cX1_leftAtWorst 5 = .ok (.iaload, 1) := by decide +kernel
theorem dX1_leftAtWorst_6 : decode cX1_leftAtWorst 6 = .ok (.istore_n 3, 1) := by decide +kernel
theorem dX1_leftAtWorst_7 : decode cX1_leftAtWorst 7 = .ok (.aload_n 0, 1) := by decide +kernel
theorem dX1_leftAtWorst_8 : decode cX1_leftAtWorst 8 = .ok (.iload_n 1, 1) := by decide +kernel
theorem dX1_leftAtWorst_9 : decode cX1_leftAtWorst 9 = .ok (.iload_n 2, 1) := by decide +kernel
theorem dX1_leftAtWorst_10 : decode cX1_leftAtWorst 10 = .ok (.sipush 2000, 3) := by decide +kernel
theorem dX1_leftAtWorst_13 : decode cX1_leftAtWorst 13 = .ok (.sipush 2000, 3) := by decide +kernel
theorem dX1_leftAtWorst_16 : decode cX1_leftAtWorst 16 = .ok (.invokevirtual 101, 3) := by decide +kernel
theorem dX1_leftAtWorst_19 : decode cX1_leftAtWorst 19 = .ok (.istore 4, 2) := by decide +kernel
theorem dX1_leftAtWorst_21 : decode cX1_leftAtWorst 21 = .ok (.iconst 0, 1) := by decide +kernel
theorem dX1_leftAtWorst_22 : decode cX1_leftAtWorst 22 = .ok (.istore 5, 2) := by decide +kernel
theorem dX1_leftAtWorst_24 : decode cX1_leftAtWorst 24 = .ok (.iload 5, 2) := by decide +kernel
theorem dX1_leftAtWorst_26 : decode cX1_leftAtWorst 26 = .ok (.bipush 6, 2) := by decide +kernel
theorem dX1_leftAtWorst_28 : decode cX1_leftAtWorst 28 = .ok (.if_icmp .ge 76, 3) := by decide +kernel
theorem dX1_leftAtWorst_31 : decode cX1_leftAtWorst 31 = .ok (.iload 5, 2) := by decide +kernel
theorem dX1_leftAtWorst_33 : decode cX1_leftAtWorst 33 = .ok (.iload_n 1, 1) := by decide +kernel
theorem dX1_leftAtWorst_34 : decode cX1_leftAtWorst 34 = .ok (.if_icmp .eq 64, 3) := by decide +kernel
theorem dX1_leftAtWorst_37 : decode cX1_leftAtWorst 37 = .ok (.aload_n 0, 1) := by decide +kernel
theorem dX1_leftAtWorst_38 : decode cX1_leftAtWorst 38 = .ok (.getfield 9, 3) := by decide +kernel
theorem dX1_leftAtWorst_41 : decode cX1_leftAtWorst 41 = .ok (.iload 5, 2) := by decide +kernel
theorem dX1_leftAtWorst_43 : decode cX1_leftAtWorst 43 = .ok (.iaload, 1) := by decide +kernel
theorem dX1_leftAtWorst_44 : decode cX1_leftAtWorst 44 = .ok (.iload_n 2, 1) := by decide +kernel
theorem dX1_leftAtWorst_45 : decode cX1_leftAtWorst 45 = .ok (.invokestatic 105, 3) := by decide +kernel
theorem dX1_leftAtWorst_48 : decode cX1_leftAtWorst 48 = .ok (.ifCond .eq 50, 3) := by decide +kernel
theorem dX1_leftAtWorst_51 : decode cX1_leftAtWorst 51 = .ok (.aload_n 0, 1) := by decide +kernel
theorem dX1_leftAtWorst_52 : decode cX1_leftAtWorst 52 = .ok (.iload 5, 2) := by decide +kernel
theorem dX1_leftAtWorst_54 : decode cX1_leftAtWorst 54 = .ok (.iload_n 1, 1) := by decide +kernel
theorem dX1_leftAtWorst_55 : decode cX1_leftAtWorst 55 = .ok (.iload_n 2, 1) := by decide +kernel
theorem dX1_leftAtWorst_56 : decode cX1_leftAtWorst 56 = .ok (.invokevirtual 109, 3) := by decide +kernel
theorem dX1_leftAtWorst_59 : decode cX1_leftAtWorst 59 = .ok (.ifCond .ne 39, 3) := by decide +kernel
theorem dX1_leftAtWorst_62 : decode cX1_leftAtWorst 62 = .ok (.iload 5, 2) := by decide +kernel
theorem dX1_leftAtWorst_64 : decode cX1_leftAtWorst 64 = .ok (.bipush 9, 2) := by decide +kernel
theorem dX1_leftAtWorst_66 : decode cX1_leftAtWorst 66 = .ok (.imul, 1) := by decide +kernel
theorem dX1_leftAtWorst_67 : decode cX1_leftAtWorst 67 = .ok (.iload_n 2, 1) := by decide +kernel
theorem dX1_leftAtWorst_68 : decode cX1_leftAtWorst 68 = .ok (.iadd, 1) := by decide +kernel
theorem dX1_leftAtWorst_69 : decode cX1_leftAtWorst 69 = .ok (.istore 6, 2) := by decide +kernel
theorem dX1_leftAtWorst_71 : decode cX1_leftAtWorst 71 = .ok (.iload 4, 2) := by decide +kernel
theorem dX1_leftAtWorst_73 : decode cX1_leftAtWorst 73 = .ok (.aload_n 0, 1) := by decide +kernel
theorem dX1_leftAtWorst_74 : decode cX1_leftAtWorst 74 = .ok (.iload_n 1, 1) := by decide +kernel
theorem dX1_leftAtWorst_75 : decode cX1_leftAtWorst 75 = .ok (.iload_n 2, 1) := by decide +kernel
theorem dX1_leftAtWorst_76 : decode cX1_leftAtWorst 76 = .ok (.aload_n 0, 1) := by decide +kernel
theorem dX1_leftAtWorst_77 : decode cX1_leftAtWorst 77 = .ok (.getfield 15, 3) := by decide +kernel
theorem dX1_leftAtWorst_80 : decode cX1_leftAtWorst 80 = .ok (.iload 6, 2) := by decide +kernel
theorem dX1_leftAtWorst_82 : decode cX1_leftAtWorst 82 = .ok (.iaload, 1) := by decide +kernel
theorem dX1_leftAtWorst_83 : decode cX1_leftAtWorst 83 = .ok (.aload_n 0, 1) := by decide +kernel
theorem dX1_leftAtWorst_84 : decode cX1_leftAtWorst 84 = .ok (.getfield 18, 3) := by decide +kernel
theorem dX1_leftAtWorst_87 : decode cX1_leftAtWorst 87 = .ok (.iload 6, 2) := by decide +kernel
theorem dX1_leftAtWorst_89 : decode cX1_leftAtWorst 89 = .ok (.iaload, 1) := by decide +kernel
theorem dX1_leftAtWorst_90 : decode cX1_leftAtWorst 90 = .ok (.invokevirtual 101, 3) := by decide +kernel
theorem dX1_leftAtWorst_93 : decode cX1_leftAtWorst 93 = .ok (.invokestatic 113, 3) := by decide +kernel
theorem dX1_leftAtWorst_96 : decode cX1_leftAtWorst 96 = .ok (.istore 4, 2) := by decide +kernel
theorem dX1_leftAtWorst_98 : decode cX1_leftAtWorst 98 = .ok (.iinc 5 1, 3) := by decide +kernel
theorem dX1_leftAtWorst_101 : decode cX1_leftAtWorst 101 = .ok (.goto (-77), 3) := by decide +kernel
theorem dX1_leftAtWorst_104 : decode cX1_leftAtWorst 104 = .ok (.aload_n 0, 1) := by decide +kernel
theorem dX1_leftAtWorst_105 : decode cX1_leftAtWorst 105 = .ok (.getfield 9, 3) := by decide +kernel
theorem dX1_leftAtWorst_108 : decode cX1_leftAtWorst 108 = .ok (.iload_n 1, 1) := by decide +kernel
theorem dX1_leftAtWorst_109 : decode cX1_leftAtWorst 109 = .ok (.iload_n 3, 1) := by decide +kernel
theorem dX1_leftAtWorst_110 : decode cX1_leftAtWorst 110 = .ok (.iastore, 1) := by decide +kernel
theorem dX1_leftAtWorst_111 : decode cX1_leftAtWorst 111 = .ok (.iload 4, 2) := by decide +kernel
theorem dX1_leftAtWorst_113 : decode cX1_leftAtWorst 113 = .ok (.ireturn, 1) := by decide +kernel
theorem dX1_isTriedAlready_0 : decode cX1_isTriedAlready 0 = .ok (.iload_n 1, 1) := by decide +kernel
theorem dX1_isTriedAlready_1 : decode cX1_isTriedAlready 1 = .ok (.bipush 9, 2) := by decide +kernel
theorem dX1_isTriedAlready_3 : decode cX1_isTriedAlready 3 = .ok (.imul, 1) := by decide +kernel
theorem dX1_isTriedAlready_4 : decode cX1_isTriedAlready 4 = .ok (.iload_n 3, 1) := by decide +kernel
theorem dX1_isTriedAlready_5 : decode cX1_isTriedAlready 5 = .ok (.iadd, 1) := by decide +kernel
theorem dX1_isTriedAlready_6 : decode cX1_isTriedAlready 6 = .ok (.istore 4, 2) := by decide +kernel
theorem dX1_isTriedAlready_8 : decode cX1_isTriedAlready 8 = .ok (.iconst 0, 1) := by decide +kernel
theorem dX1_isTriedAlready_9 : decode cX1_isTriedAlready 9 = .ok (.istore 5, 2) := by decide +kernel
theorem dX1_isTriedAlready_11 : decode cX1_isTriedAlready 11 = .ok (.iload 5, 2) := by decide +kernel
theorem dX1_isTriedAlready_13 : decode cX1_isTriedAlready 13 = .ok (.iload_n 1, 1) := by decide +kernel
theorem dX1_isTriedAlready_14 : decode cX1_isTriedAlready 14 = .ok (.if_icmp .ge 74, 3) := by decide +kernel
theorem dX1_isTriedAlready_17 : decode cX1_isTriedAlready 17 = .ok (.iload 5, 2) := by decide +kernel
theorem dX1_isTriedAlready_19 : decode cX1_isTriedAlready 19 = .ok (.bipush 9, 2) := by decide +kernel
theorem dX1_isTriedAlready_21 : decode cX1_isTriedAlready 21 = .ok (.imul, 1) := by decide +kernel
theorem dX1_isTriedAlready_22 : decode cX1_isTriedAlready 22 = .ok (.iload_n 3, 1) := by decide +kernel
theorem dX1_isTriedAlready_23 : decode cX1_isTriedAlready 23 = .ok (.iadd, 1) := by decide +kernel
theorem dX1_isTriedAlready_24 : decode cX1_isTriedAlready 24 = .ok (.istore 6, 2) := by decide +kernel
theorem dX1_isTriedAlready_26 : decode cX1_isTriedAlready 26 = .ok (.iload 5, 2) := by decide +kernel
theorem dX1_isTriedAlready_28 : decode cX1_isTriedAlready 28 = .ok (.iload_n 2, 1) := by decide +kernel
theorem dX1_isTriedAlready_29 : decode cX1_isTriedAlready 29 = .ok (.if_icmp .eq 53, 3) := by decide +kernel
theorem dX1_isTriedAlready_32 : decode cX1_isTriedAlready 32 = .ok (.aload_n 0, 1) := by decide +kernel
theorem dX1_isTriedAlready_33 : decode cX1_isTriedAlready 33 = .ok (.getfield 9, 3) := by decide +kernel
theorem dX1_isTriedAlready_36 : decode cX1_isTriedAlready 36 = .ok (.iload 5, 2) := by decide +kernel
theorem dX1_isTriedAlready_38 : decode cX1_isTriedAlready 38 = .ok (.iaload, 1) := by decide +kernel
theorem dX1_isTriedAlready_39 : decode cX1_isTriedAlready 39 = .ok (.iload_n 3, 1) := by decide +kernel
theorem dX1_isTriedAlready_40 : decode cX1_isTriedAlready 40 = .ok (.invokestatic 105, 3) := by decide +kernel
theorem dX1_isTriedAlready_43 : decode cX1_isTriedAlready 43 = .ok (.ifCond .eq 39, 3) := by decide +kernel
theorem dX1_isTriedAlready_46 : decode cX1_isTriedAlready 46 = .ok (.aload_n 0, 1) := by decide +kernel
theorem dX1_isTriedAlready_47 : decode cX1_isTriedAlready 47 = .ok (.getfield 15, 3) := by decide +kernel
theorem dX1_isTriedAlready_50 : decode cX1_isTriedAlready 50 = .ok (.iload 4, 2) := by decide +kernel
theorem dX1_isTriedAlready_52 : decode cX1_isTriedAlready 52 = .ok (.iaload, 1) := by decide +kernel
theorem dX1_isTriedAlready_53 : decode cX1_isTriedAlready 53 = .ok (.aload_n 0, 1) := by decide +kernel
theorem dX1_isTriedAlready_54 : decode cX1_isTriedAlready 54 = .ok (.getfield 15, 3) := by decide +kernel
theorem dX1_isTriedAlready_57 : decode cX1_isTriedAlready 57 = .ok (.iload 6, 2) := by decide +kernel
theorem dX1_isTriedAlready_59 : decode cX1_isTriedAlready 59 = .ok (.iaload, 1) := by decide +kernel
theorem dX1_isTriedAlready_60 : decode cX1_isTriedAlready 60 = .ok (.if_icmp .ne 22, 3) := by decide +kernel
theorem dX1_isTriedAlready_63 : decode cX1_isTriedAlready 63 = .ok (.aload_n 0, 1) := by decide +kernel
theorem dX1_isTriedAlready_64 : decode cX1_isTriedAlready 64 = .ok (.getfield 18, 3) := by decide +kernel
theorem dX1_isTriedAlready_67 : decode cX1_isTriedAlready 67 = .ok (.iload 4, 2) := by decide +kernel
theorem dX1_isTriedAlready_69 : decode cX1_isTriedAlready 69 = .ok (.iaload, 1) := by decide +kernel
theorem dX1_isTriedAlready_70 : decode cX1_isTriedAlready 70 = .ok (.aload_n 0, 1) := by decide +kernel
theorem dX1_isTriedAlready_71 : decode cX1_isTriedAlready 71 = .ok (.getfield 18, 3) := by decide +kernel
theorem dX1_isTriedAlready_74 : decode cX1_isTriedAlready 74 = .ok (.iload 6, 2) := by decide +kernel
theorem dX1_isTriedAlready_76 : decode cX1_isTriedAlready 76 = .ok (.iaload, 1) := by decide +kernel
theorem dX1_isTriedAlready_77 : decode cX1_isTriedAlready 77 = .ok (.if_icmp .ne 5, 3) := by decide +kernel
theorem dX1_isTriedAlready_80 : decode cX1_isTriedAlready 80 = .ok (.iconst 1, 1) := by decide +kernel
theorem dX1_isTriedAlready_81 : decode cX1_isTriedAlready 81 = .ok (.ireturn, 1) := by decide +kernel
theorem dX1_isTriedAlready_82 : decode cX1_isTriedAlready 82 = .ok (.iinc 5 1, 3) := by decide +kernel
theorem dX1_isTriedAlready_85 : decode cX1_isTriedAlready 85 = .ok (.goto (-74), 3) := by decide +kernel
theorem dX1_isTriedAlready_88 : decode cX1_isTriedAlready 88 = .ok (.iconst 0, 1) := by decide +kernel
theorem dX1_isTriedAlready_89 : decode cX1_isTriedAlready 89 = .ok (.ireturn, 1) := by decide +kernel
theorem dX1_leftWith_0 : decode cX1_leftWith 0 = .ok (.aload_n 0, 1) := by decide +kernel
theorem dX1_leftWith_1 : decode cX1_leftWith 1 = .ok (.getfield 15, 3) := by decide +kernel
theorem dX1_leftWith_4 : decode cX1_leftWith 4 = .ok (.iload_n 1, 1) := by decide +kernel
theorem dX1_leftWith_5 : decode cX1_leftWith 5 = .ok (.bipush 9, 2) := by decide +kernel
theorem dX1_leftWith_7 : decode cX1_leftWith 7 = .ok (.imul, 1) := by decide +kernel
theorem dX1_leftWith_8 : decode cX1_leftWith 8 = .ok (.iload_n 2, 1) := by decide +kernel
theorem dX1_leftWith_9 : decode cX1_leftWith 9 = .ok (.iadd, 1) := by decide +kernel
theorem dX1_leftWith_10 : decode cX1_leftWith 10 = .ok (.iload_n 3, 1) := by decide +kernel
theorem dX1_leftWith_11 : decode cX1_leftWith 11 = .ok (.iastore, 1) := by decide +kernel
theorem dX1_leftWith_12 : decode cX1_leftWith 12 = .ok (.aload_n 0, 1) := by decide +kernel
theorem dX1_leftWith_13 : decode cX1_leftWith 13 = .ok (.getfield 18, 3) := by decide +kernel
theorem dX1_leftWith_16 : decode cX1_leftWith 16 = .ok (.iload_n 1, 1) := by decide +kernel
theorem dX1_leftWith_17 : decode cX1_leftWith 17 = .ok (.bipush 9, 2) := by decide +kernel
theorem dX1_leftWith_19 : decode cX1_leftWith 19 = .ok (.imul, 1) := by decide +kernel
theorem dX1_leftWith_20 : decode cX1_leftWith 20 = .ok (.iload_n 2, 1) := by decide +kernel
theorem dX1_leftWith_21 : decode cX1_leftWith 21 = .ok (.iadd, 1) := by decide +kernel
theorem dX1_leftWith_22 : decode cX1_leftWith 22 = .ok (.iload 4, 2) := by decide +kernel
theorem dX1_leftWith_24 : decode cX1_leftWith 24 = .ok (.iastore, 1) := by decide +kernel
theorem dX1_leftWith_25 : decode cX1_leftWith 25 = .ok (.aload_n 0, 1) := by decide +kernel
theorem dX1_leftWith_26 : decode cX1_leftWith 26 = .ok (.getfield 9, 3) := by decide +kernel
theorem dX1_leftWith_29 : decode cX1_leftWith 29 = .ok (.iload_n 1, 1) := by decide +kernel
theorem dX1_leftWith_30 : decode cX1_leftWith 30 = .ok (.dup2, 1) := by decide +kernel
theorem dX1_leftWith_31 : decode cX1_leftWith 31 = .ok (.iaload, 1) := by decide +kernel
theorem dX1_leftWith_32 : decode cX1_leftWith 32 = .ok (.iconst 1, 1) := by decide +kernel
theorem dX1_leftWith_33 : decode cX1_leftWith 33 = .ok (.iload_n 2, 1) := by decide +kernel
theorem dX1_leftWith_34 : decode cX1_leftWith 34 = .ok (.ishl, 1) := by decide +kernel
theorem dX1_leftWith_35 : decode cX1_leftWith 35 = .ok (.ior, 1) := by decide +kernel
theorem dX1_leftWith_36 : decode cX1_leftWith 36 = .ok (.iastore, 1) := by decide +kernel
theorem dX1_leftWith_37 : decode cX1_leftWith 37 = .ok (.aload_n 0, 1) := by decide +kernel
theorem dX1_leftWith_38 : decode cX1_leftWith 38 = .ok (.invokevirtual 83, 3) := by decide +kernel
theorem dX1_leftWith_41 : decode cX1_leftWith 41 = .ok (.aload_n 0, 1) := by decide +kernel
theorem dX1_leftWith_42 : decode cX1_leftWith 42 = .ok (.getfield 57, 3) := by decide +kernel
theorem dX1_leftWith_45 : decode cX1_leftWith 45 = .ok (.ireturn, 1) := by decide +kernel
theorem dX1_collect_0 : decode cX1_collect 0 = .ok (.aload_n 0, 1) := by decide +kernel
theorem dX1_collect_1 : decode cX1_collect 1 = .ok (.iconst 0, 1) := by decide +kernel
theorem dX1_collect_2 : decode cX1_collect 2 = .ok (.putfield 57, 3) := by decide +kernel
theorem dX1_collect_5 : decode cX1_collect 5 = .ok (.iconst 0, 1) := by decide +kernel
theorem dX1_collect_6 : decode cX1_collect 6 = .ok (.istore_n 1, 1) := by decide +kernel
theorem dX1_collect_7 : decode cX1_collect 7 = .ok (.iload_n 1, 1) := by decide +kernel
theorem dX1_collect_8 : decode cX1_collect 8 = .ok (.bipush 63, 2) := by decide +kernel
theorem dX1_collect_10 : decode cX1_collect 10 = .ok (.if_icmp .gt 70, 3) := by decide +kernel
theorem dX1_collect_13 : decode cX1_collect 13 = .ok (.iload_n 1, 1) := by decide +kernel
theorem dX1_collect_14 : decode cX1_collect 14 = .ok (.invokestatic 119, 3) := by decide +kernel
theorem dX1_collect_17 : decode cX1_collect 17 = .ok (.aload_n 0, 1) := by decide +kernel
theorem dX1_collect_18 : decode cX1_collect 18 = .ok (.getfield 42, 3) := by decide +kernel
theorem dX1_collect_21 : decode cX1_collect 21 = .ok (.getfield 125, 3) := by decide +kernel
theorem dX1_collect_24 : decode cX1_collect 24 = .ok (.if_icmp .ne 50, 3) := by decide +kernel
theorem dX1_collect_27 : decode cX1_collect 27 = .ok (.aload_n 0, 1) := by decide +kernel
theorem dX1_collect_28 : decode cX1_collect 28 = .ok (.getfield 57, 3) := by decide +kernel
theorem dX1_collect_31 : decode cX1_collect 31 = .ok (.bipush 15, 2) := by decide +kernel
theorem dX1_collect_33 : decode cX1_collect 33 = .ok (.if_icmp .ge 41, 3) := by decide +kernel
theorem dX1_collect_36 : decode cX1_collect 36 = .ok (.aload_n 0, 1) := by decide +kernel
theorem dX1_collect_37 : decode cX1_collect 37 = .ok (.iload_n 1, 1) := by decide +kernel
theorem dX1_collect_38 : decode cX1_collect 38 = .ok (.invokevirtual 128, 3) := by decide +kernel
theorem dX1_collect_41 : decode cX1_collect 41 = .ok (.ifCond .eq 33, 3) := by decide +kernel
theorem dX1_collect_44 : decode cX1_collect 44 = .ok (.aload_n 0, 1) := by decide +kernel
theorem dX1_collect_45 : decode cX1_collect 45 = .ok (.getfield 33, 3) := by decide +kernel
theorem dX1_collect_48 : decode cX1_collect 48 = .ok (.aload_n 0, 1) := by decide +kernel
theorem dX1_collect_49 : decode cX1_collect 49 = .ok (.getfield 57, 3) := by decide +kernel
theorem dX1_collect_52 : decode cX1_collect 52 = .ok (.iload_n 1, 1) := by decide +kernel
theorem dX1_collect_53 : decode cX1_collect 53 = .ok (.iastore, 1) := by decide +kernel
theorem dX1_collect_54 : decode cX1_collect 54 = .ok (.aload_n 0, 1) := by decide +kernel
theorem dX1_collect_55 : decode cX1_collect 55 = .ok (.aload_n 0, 1) := by decide +kernel
theorem dX1_collect_56 : decode cX1_collect 56 = .ok (.getfield 57, 3) := by decide +kernel
theorem dX1_collect_59 : decode cX1_collect 59 = .ok (.iconst 4, 1) := by decide +kernel
theorem dX1_collect_60 : decode cX1_collect 60 = .ok (.imul, 1) := by decide +kernel
theorem dX1_collect_61 : decode cX1_collect 61 = .ok (.invokevirtual 132, 3) := by decide +kernel
theorem dX1_collect_64 : decode cX1_collect 64 = .ok (.aload_n 0, 1) := by decide +kernel
theorem dX1_collect_65 : decode cX1_collect 65 = .ok (.dup, 1) := by decide +kernel
theorem dX1_collect_66 : decode cX1_collect 66 = .ok (.getfield 57, 3) := by decide +kernel
theorem dX1_collect_69 : decode cX1_collect 69 = .ok (.iconst 1, 1) := by decide +kernel
theorem dX1_collect_70 : decode cX1_collect 70 = .ok (.iadd, 1) := by decide +kernel
theorem dX1_collect_71 : decode cX1_collect 71 = .ok (.putfield 57, 3) := by decide +kernel
theorem dX1_collect_74 : decode cX1_collect 74 = .ok (.iinc 1 1, 3) := by decide +kernel
theorem dX1_collect_77 : decode cX1_collect 77 = .ok (.goto (-70), 3) := by decide +kernel
theorem dX1_collect_80 : decode cX1_collect 80 = .ok (.return_, 1) := by decide +kernel
theorem dX1_mayLie_0 : decode cX1_mayLie 0 = .ok (.aload_n 0, 1) := by decide +kernel
theorem dX1_mayLie_1 : decode cX1_mayLie 1 = .ok (.iload_n 1, 1) := by decide +kernel
theorem dX1_mayLie_2 : decode cX1_mayLie 2 = .ok (.invokevirtual 136, 3) := by decide +kernel
theorem dX1_mayLie_5 : decode cX1_mayLie 5 = .ok (.ifCond .ne 5, 3) := by decide +kernel
theorem dX1_mayLie_8 : decode cX1_mayLie 8 = .ok (.iconst 0, 1) := by decide +kernel
theorem dX1_mayLie_9 : decode cX1_mayLie 9 = .ok (.ireturn, 1) := by decide +kernel
theorem dX1_mayLie_10 : decode cX1_mayLie 10 = .ok (.iload_n 1, 1) := by decide +kernel
theorem dX1_mayLie_11 : decode cX1_mayLie 11 = .ok (.istore_n 2, 1) := by decide +kernel
theorem dX1_mayLie_12 : decode cX1_mayLie 12 = .ok (.iconst 0, 1) := by decide +kernel
theorem dX1_mayLie_13 : decode cX1_mayLie 13 = .ok (.istore_n 3, 1) := by decide +kernel
theorem dX1_mayLie_14 : decode cX1_mayLie 14 = .ok (.iload_n 3, 1) := by decide +kernel
theorem dX1_mayLie_15 : decode cX1_mayLie 15 = .ok (.bipush 6, 2) := by decide +kernel
theorem dX1_mayLie_17 : decode cX1_mayLie 17 = .ok (.if_icmp .ge 50, 3) := by decide +kernel
theorem dX1_mayLie_20 : decode cX1_mayLie 20 = .ok (.iload_n 1, 1) := by decide +kernel
theorem dX1_mayLie_21 : decode cX1_mayLie 21 = .ok (.iload_n 3, 1) := by decide +kernel
theorem dX1_mayLie_22 : decode cX1_mayLie 22 = .ok (.invokestatic 105, 3) := by decide +kernel
theorem dX1_mayLie_25 : decode cX1_mayLie 25 = .ok (.ifCond .eq 11, 3) := by decide +kernel
theorem dX1_mayLie_28 : decode cX1_mayLie 28 = .ok (.aload_n 0, 1) := by decide +kernel
theorem dX1_mayLie_29 : decode cX1_mayLie 29 = .ok (.iload_n 3, 1) := by decide +kernel
theorem dX1_mayLie_30 : decode cX1_mayLie 30 = .ok (.invokevirtual 139, 3) := by decide +kernel
theorem dX1_mayLie_33 : decode cX1_mayLie 33 = .ok (.goto 4, 3) := by decide +kernel
theorem dX1_mayLie_36 : decode cX1_mayLie 36 = .ok (.iconst 0, 1) := by decide +kernel
theorem dX1_mayLie_37 : decode cX1_mayLie 37 = .ok (.istore 4, 2) := by decide +kernel
theorem dX1_mayLie_39 : decode cX1_mayLie 39 = .ok (.iload 4, 2) := by decide +kernel
theorem dX1_mayLie_41 : decode cX1_mayLie 41 = .ok (.iconst 1, 1) := by decide +kernel
theorem dX1_mayLie_42 : decode cX1_mayLie 42 = .ok (.if_icmp .le 5, 3) := by decide +kernel
theorem dX1_mayLie_45 : decode cX1_mayLie 45 = .ok (.iconst 0, 1) := by decide +kernel
theorem dX1_mayLie_46 : decode cX1_mayLie 46 = .ok (.ireturn, 1) := by decide +kernel
theorem dX1_mayLie_47 : decode cX1_mayLie 47 = .ok (.iload 4, 2) := by decide +kernel
theorem dX1_mayLie_49 : decode cX1_mayLie 49 = .ok (.iconst 1, 1) := by decide +kernel
theorem dX1_mayLie_50 : decode cX1_mayLie 50 = .ok (.if_icmp .ne 11, 3) := by decide +kernel
theorem dX1_mayLie_53 : decode cX1_mayLie 53 = .ok (.iload_n 2, 1) := by decide +kernel
theorem dX1_mayLie_54 : decode cX1_mayLie 54 = .ok (.iconst 1, 1) := by decide +kernel
theorem dX1_mayLie_55 : decode cX1_mayLie 55 = .ok (.iload_n 3, 1) := by decide +kernel
theorem dX1_mayLie_56 : decode cX1_mayLie 56 = .ok (.ishl, 1) := by decide +kernel
theorem dX1_mayLie_57 : decode cX1_mayLie 57 = .ok (.iconst (-1), 1) := by decide +kernel
theorem dX1_mayLie_58 : decode cX1_mayLie 58 = .ok (.ixor, 1) := by decide +kernel
theorem dX1_mayLie_59 : decode cX1_mayLie 59 = .ok (.iand, 1) := by decide +kernel
theorem dX1_mayLie_60 : decode cX1_mayLie 60 = .ok (.istore_n 2, 1) := by decide +kernel
theorem dX1_mayLie_61 : decode cX1_mayLie 61 = .ok (.iinc 3 1, 3) := by decide +kernel
theorem dX1_mayLie_64 : decode cX1_mayLie 64 = .ok (.goto (-50), 3) := by decide +kernel
theorem dX1_mayLie_67 : decode cX1_mayLie 67 = .ok (.aload_n 0, 1) := by decide +kernel
theorem dX1_mayLie_68 : decode cX1_mayLie 68 = .ok (.iload_n 1, 1) := by decide +kernel
theorem dX1_mayLie_69 : decode cX1_mayLie 69 = .ok (.invokevirtual 142, 3) := by decide +kernel
theorem dX1_mayLie_72 : decode cX1_mayLie 72 = .ok (.iload_n 2, 1) := by decide +kernel
theorem dX1_mayLie_73 : decode cX1_mayLie 73 = .ok (.invokestatic 119, 3) := by decide +kernel
theorem dX1_mayLie_76 : decode cX1_mayLie 76 = .ok (.if_icmp .le 5, 3) := by decide +kernel
theorem dX1_mayLie_79 : decode cX1_mayLie 79 = .ok (.iconst 0, 1) := by decide +kernel
theorem dX1_mayLie_80 : decode cX1_mayLie 80 = .ok (.ireturn, 1) := by decide +kernel
theorem dX1_mayLie_81 : decode cX1_mayLie 81 = .ok (.iconst 0, 1) := by decide +kernel
theorem dX1_mayLie_82 : decode cX1_mayLie 82 = .ok (.istore_n 3, 1) := by decide +kernel
theorem dX1_mayLie_83 : decode cX1_mayLie 83 = .ok (.iload_n 3, 1) := by decide +kernel
theorem dX1_mayLie_84 : decode cX1_mayLie 84 = .ok (.bipush 6, 2) := by decide +kernel
theorem dX1_mayLie_86 : decode cX1_mayLie 86 = .ok (.if_icmp .ge 27, 3) := by decide +kernel
theorem dX1_mayLie_89 : decode cX1_mayLie 89 = .ok (.iload_n 2, 1) := by decide +kernel
theorem dX1_mayLie_90 : decode cX1_mayLie 90 = .ok (.iload_n 3, 1) := by decide +kernel
theorem dX1_mayLie_91 : decode cX1_mayLie 91 = .ok (.invokestatic 105, 3) := by decide +kernel
theorem dX1_mayLie_94 : decode cX1_mayLie 94 = .ok (.ifCond .eq 13, 3) := by decide +kernel
theorem dX1_mayLie_97 : decode cX1_mayLie 97 = .ok (.aload_n 0, 1) := by decide +kernel
theorem dX1_mayLie_98 : decode cX1_mayLie 98 = .ok (.iload_n 3, 1) := by decide +kernel
theorem dX1_mayLie_99 : decode cX1_mayLie 99 = .ok (.invokevirtual 145, 3) := by decide +kernel
theorem dX1_mayLie_102 : decode cX1_mayLie 102 = .ok (.ifCond .ne 5, 3) := by decide +kernel
theorem dX1_mayLie_105 : decode cX1_mayLie 105 = .ok (.iconst 0, 1) := by decide +kernel
theorem dX1_mayLie_106 : decode cX1_mayLie 106 = .ok (.ireturn, 1) := by decide +kernel
theorem dX1_mayLie_107 : decode cX1_mayLie 107 = .ok (.iinc 3 1, 3) := by decide +kernel
theorem dX1_mayLie_110 : decode cX1_mayLie 110 = .ok (.goto (-27), 3) := by decide +kernel
theorem dX1_mayLie_113 : decode cX1_mayLie 113 = .ok (.aload_n 0, 1) := by decide +kernel
theorem dX1_mayLie_114 : decode cX1_mayLie 114 = .ok (.invokevirtual 148, 3) := by decide +kernel
theorem dX1_mayLie_117 : decode cX1_mayLie 117 = .ok (.ifCond .ne 7, 3) := by decide +kernel
theorem dX1_mayLie_120 : decode cX1_mayLie 120 = .ok (.iconst 1, 1) := by decide +kernel
theorem dX1_mayLie_121 : decode cX1_mayLie 121 = .ok (.goto 4, 3) := by decide +kernel
theorem dX1_mayLie_124 : decode cX1_mayLie 124 = .ok (.iconst 0, 1) := by decide +kernel
theorem dX1_mayLie_125 : decode cX1_mayLie 125 = .ok (.ireturn, 1) := by decide +kernel
theorem dX1_arePlacesLeft_0 : decode cX1_arePlacesLeft 0 = .ok (.aload_n 0, 1) := by decide +kernel
theorem dX1_arePlacesLeft_1 : decode cX1_arePlacesLeft 1 = .ok (.iconst 0, 1) := by decide +kernel
theorem dX1_arePlacesLeft_2 : decode cX1_arePlacesLeft 2 = .ok (.putfield 60, 3) := by decide +kernel
theorem dX1_arePlacesLeft_5 : decode cX1_arePlacesLeft 5 = .ok (.iconst 0, 1) := by decide +kernel
theorem dX1_arePlacesLeft_6 : decode cX1_arePlacesLeft 6 = .ok (.istore_n 2, 1) := by decide +kernel
theorem dX1_arePlacesLeft_7 : decode cX1_arePlacesLeft 7 = .ok (.iload_n 2, 1) := by decide +kernel
theorem dX1_arePlacesLeft_8 : decode cX1_arePlacesLeft 8 = .ok (.aload_n 0, 1) := by decide +kernel
theorem dX1_arePlacesLeft_9 : decode cX1_arePlacesLeft 9 = .ok (.getfield 42, 3) := by decide +kernel
theorem dX1_arePlacesLeft_12 : decode cX1_arePlacesLeft 12 = .ok (.getfield 92, 3) := by decide +kernel
theorem dX1_arePlacesLeft_15 : decode cX1_arePlacesLeft 15 = .ok (.if_icmp .ge 114, 3) := by decide +kernel
theorem dX1_arePlacesLeft_18 : decode cX1_arePlacesLeft 18 = .ok (.aload_n 0, 1) := by decide +kernel
theorem dX1_arePlacesLeft_19 : decode cX1_arePlacesLeft 19 = .ok (.getfield 21, 3) := by decide +kernel
theorem dX1_arePlacesLeft_22 : decode cX1_arePlacesLeft 22 = .ok (.iload_n 2, 1) := by decide +kernel
theorem dX1_arePlacesLeft_23 : decode cX1_arePlacesLeft 23 = .ok (.ldc 152, 2) := by decide +kernel
theorem dX1_arePlacesLeft_25 : decode cX1_arePlacesLeft 25 = .ok (.iastore, 1) := by decide +kernel
theorem dX1_arePlacesLeft_26 : decode cX1_arePlacesLeft 26 = .ok (.aload_n 0, 1) := by decide +kernel
theorem dX1_arePlacesLeft_27 : decode cX1_arePlacesLeft 27 = .ok (.getfield 24, 3) := by decide +kernel
theorem dX1_arePlacesLeft_30 : decode cX1_arePlacesLeft 30 = .ok (.iload_n 2, 1) := by decide +kernel
theorem dX1_arePlacesLeft_31 : decode cX1_arePlacesLeft 31 = .ok (.ldc 153, 2) := by decide +kernel
theorem dX1_arePlacesLeft_33 : decode cX1_arePlacesLeft 33 = .ok (.iastore, 1) := by decide +kernel
theorem dX1_arePlacesLeft_34 : decode cX1_arePlacesLeft 34 = .ok (.aload_n 0, 1) := by decide +kernel
theorem dX1_arePlacesLeft_35 : decode cX1_arePlacesLeft 35 = .ok (.getfield 27, 3) := by decide +kernel
theorem dX1_arePlacesLeft_38 : decode cX1_arePlacesLeft 38 = .ok (.iload_n 2, 1) := by decide +kernel
theorem dX1_arePlacesLeft_39 : decode cX1_arePlacesLeft 39 = .ok (.ldc 152, 2) := by decide +kernel
theorem dX1_arePlacesLeft_41 : decode cX1_arePlacesLeft 41 = .ok (.iastore, 1) := by decide +kernel
theorem dX1_arePlacesLeft_42 : decode cX1_arePlacesLeft 42 = .ok (.aload_n 0, 1) := by decide +kernel
theorem dX1_arePlacesLeft_43 : decode cX1_arePlacesLeft 43 = .ok (.getfield 30, 3) := by decide +kernel
theorem dX1_arePlacesLeft_46 : decode cX1_arePlacesLeft 46 = .ok (.iload_n 2, 1) := by decide +kernel
theorem dX1_arePlacesLeft_47 : decode cX1_arePlacesLeft 47 = .ok (.ldc 153, 2) := by decide +kernel
theorem dX1_arePlacesLeft_49 : decode cX1_arePlacesLeft 49 = .ok (.iastore, 1) := by decide +kernel
theorem dX1_arePlacesLeft_50 : decode cX1_arePlacesLeft 50 = .ok (.iconst 0, 1) := by decide +kernel
theorem dX1_arePlacesLeft_51 : decode cX1_arePlacesLeft 51 = .ok (.istore_n 3, 1) := by decide +kernel
theorem dX1_arePlacesLeft_52 : decode cX1_arePlacesLeft 52 = .ok (.iload_n 3, 1) := by decide +kernel
theorem dX1_arePlacesLeft_53 : decode cX1_arePlacesLeft 53 = .ok (.bipush 6, 2) := by decide +kernel
theorem dX1_arePlacesLeft_55 : decode cX1_arePlacesLeft 55 = .ok (.if_icmp .ge 36, 3) := by decide +kernel
theorem dX1_arePlacesLeft_58 : decode cX1_arePlacesLeft 58 = .ok (.iload_n 1, 1) := by decide +kernel
theorem dX1_arePlacesLeft_59 : decode cX1_arePlacesLeft 59 = .ok (.iload_n 3, 1) := by decide +kernel
theorem dX1_arePlacesLeft_60 : decode cX1_arePlacesLeft 60 = .ok (.invokestatic 105, 3) := by decide +kernel
theorem dX1_arePlacesLeft_63 : decode cX1_arePlacesLeft 63 = .ok (.ifCond .ne 22, 3) := by decide +kernel
theorem dX1_arePlacesLeft_66 : decode cX1_arePlacesLeft 66 = .ok (.aload_n 0, 1) := by decide +kernel
theorem dX1_arePlacesLeft_67 : decode cX1_arePlacesLeft 67 = .ok (.getfield 9, 3) := by decide +kernel
theorem dX1_arePlacesLeft_70 : decode cX1_arePlacesLeft 70 = .ok (.iload_n 3, 1) := by decide +kernel
theorem dX1_arePlacesLeft_71 : decode cX1_arePlacesLeft 71 = .ok (.iaload, 1) := by decide +kernel
theorem dX1_arePlacesLeft_72 : decode cX1_arePlacesLeft 72 = .ok (.iload_n 2, 1) := by decide +kernel
theorem dX1_arePlacesLeft_73 : decode cX1_arePlacesLeft 73 = .ok (.invokestatic 105, 3) := by decide +kernel
theorem dX1_arePlacesLeft_76 : decode cX1_arePlacesLeft 76 = .ok (.ifCond .eq 9, 3) := by decide +kernel
theorem dX1_arePlacesLeft_79 : decode cX1_arePlacesLeft 79 = .ok (.aload_n 0, 1) := by decide +kernel
theorem dX1_arePlacesLeft_80 : decode cX1_arePlacesLeft 80 = .ok (.iload_n 3, 1) := by decide +kernel
theorem dX1_arePlacesLeft_81 : decode cX1_arePlacesLeft 81 = .ok (.iload_n 2, 1) := by decide +kernel
theorem dX1_arePlacesLeft_82 : decode cX1_arePlacesLeft 82 = .ok (.invokevirtual 154, 3) := by decide +kernel
theorem dX1_arePlacesLeft_85 : decode cX1_arePlacesLeft 85 = .ok (.iinc 3 1, 3) := by decide +kernel
theorem dX1_arePlacesLeft_88 : decode cX1_arePlacesLeft 88 = .ok (.goto (-36), 3) := by decide +kernel
theorem dX1_arePlacesLeft_91 : decode cX1_arePlacesLeft 91 = .ok (.aload_n 0, 1) := by decide +kernel
theorem dX1_arePlacesLeft_92 : decode cX1_arePlacesLeft 92 = .ok (.getfield 21, 3) := by decide +kernel
theorem dX1_arePlacesLeft_95 : decode cX1_arePlacesLeft 95 = .ok (.iload_n 2, 1) := by decide +kernel
theorem dX1_arePlacesLeft_96 : decode cX1_arePlacesLeft 96 = .ok (.iaload, 1) := by decide +kernel
theorem dX1_arePlacesLeft_97 : decode cX1_arePlacesLeft 97 = .ok (.aload_n 0, 1) := by decide +kernel
theorem dX1_arePlacesLeft_98 : decode cX1_arePlacesLeft 98 = .ok (.getfield 24, 3) := by decide +kernel
theorem dX1_arePlacesLeft_101 : decode cX1_arePlacesLeft 101 = .ok (.iload_n 2, 1) := by decide +kernel
theorem dX1_arePlacesLeft_102 : decode cX1_arePlacesLeft 102 = .ok (.iaload, 1) := by decide +kernel
theorem dX1_arePlacesLeft_103 : decode cX1_arePlacesLeft 103 = .ok (.if_icmp .gt 18, 3) := by decide +kernel
theorem dX1_arePlacesLeft_106 : decode cX1_arePlacesLeft 106 = .ok (.aload_n 0, 1) := by decide +kernel
theorem dX1_arePlacesLeft_107 : decode cX1_arePlacesLeft 107 = .ok (.getfield 27, 3) := by decide +kernel
theorem dX1_arePlacesLeft_110 : decode cX1_arePlacesLeft 110 = .ok (.iload_n 2, 1) := by decide +kernel
theorem dX1_arePlacesLeft_111 : decode cX1_arePlacesLeft 111 = .ok (.iaload, 1) := by decide +kernel
theorem dX1_arePlacesLeft_112 : decode cX1_arePlacesLeft 112 = .ok (.aload_n 0, 1) := by decide +kernel
theorem dX1_arePlacesLeft_113 : decode cX1_arePlacesLeft 113 = .ok (.getfield 30, 3) := by decide +kernel
theorem dX1_arePlacesLeft_116 : decode cX1_arePlacesLeft 116 = .ok (.iload_n 2, 1) := by decide +kernel
theorem dX1_arePlacesLeft_117 : decode cX1_arePlacesLeft 117 = .ok (.iaload, 1) := by decide +kernel
theorem dX1_arePlacesLeft_118 : decode cX1_arePlacesLeft 118 = .ok (.if_icmp .le 5, 3) := by decide +kernel
theorem dX1_arePlacesLeft_121 : decode cX1_arePlacesLeft 121 = .ok (.iconst 0, 1) := by decide +kernel
theorem dX1_arePlacesLeft_122 : decode cX1_arePlacesLeft 122 = .ok (.ireturn, 1) := by decide +kernel
theorem dX1_arePlacesLeft_123 : decode cX1_arePlacesLeft 123 = .ok (.iinc 2 1, 3) := by decide +kernel
theorem dX1_arePlacesLeft_126 : decode cX1_arePlacesLeft 126 = .ok (.goto (-119), 3) := by decide +kernel
theorem dX1_arePlacesLeft_129 : decode cX1_arePlacesLeft 129 = .ok (.iconst 1, 1) := by decide +kernel
theorem dX1_arePlacesLeft_130 : decode cX1_arePlacesLeft 130 = .ok (.ireturn, 1) := by decide +kernel
theorem dX1_narrow_0 : decode cX1_narrow 0 = .ok (.aload_n 0, 1) := by decide +kernel
theorem dX1_narrow_1 : decode cX1_narrow 1 = .ok (.getfield 15, 3) := by decide +kernel
theorem dX1_narrow_4 : decode cX1_narrow 4 = .ok (.iload_n 1, 1) := by decide +kernel
theorem dX1_narrow_5 : decode cX1_narrow 5 = .ok (.bipush 9, 2) := by decide +kernel
theorem dX1_narrow_7 : decode cX1_narrow 7 = .ok (.imul, 1) := by decide +kernel
theorem dX1_narrow_8 : decode cX1_narrow 8 = .ok (.iload_n 2, 1) := by decide +kernel
theorem dX1_narrow_9 : decode cX1_narrow 9 = .ok (.iadd, 1) := by decide +kernel
theorem dX1_narrow_10 : decode cX1_narrow 10 = .ok (.iaload, 1) := by decide +kernel
theorem dX1_narrow_11 : decode cX1_narrow 11 = .ok (.istore_n 3, 1) := by decide +kernel
theorem dX1_narrow_12 : decode cX1_narrow 12 = .ok (.aload_n 0, 1) := by decide +kernel
theorem dX1_narrow_13 : decode cX1_narrow 13 = .ok (.getfield 18, 3) := by decide +kernel
theorem dX1_narrow_16 : decode cX1_narrow 16 = .ok (.iload_n 1, 1) := by decide +kernel
theorem dX1_narrow_17 : decode cX1_narrow 17 = .ok (.bipush 9, 2) := by decide +kernel
theorem dX1_narrow_19 : decode cX1_narrow 19 = .ok (.imul, 1) := by decide +kernel
theorem dX1_narrow_20 : decode cX1_narrow 20 = .ok (.iload_n 2, 1) := by decide +kernel
theorem dX1_narrow_21 : decode cX1_narrow 21 = .ok (.iadd, 1) := by decide +kernel
theorem dX1_narrow_22 : decode cX1_narrow 22 = .ok (.iaload, 1) := by decide +kernel
theorem dX1_narrow_23 : decode cX1_narrow 23 = .ok (.istore 4, 2) := by decide +kernel
theorem dX1_narrow_25 : decode cX1_narrow 25 = .ok (.aload_n 0, 1) := by decide +kernel
theorem dX1_narrow_26 : decode cX1_narrow 26 = .ok (.getfield 21, 3) := by decide +kernel
theorem dX1_narrow_29 : decode cX1_narrow 29 = .ok (.iload_n 2, 1) := by decide +kernel
theorem dX1_narrow_30 : decode cX1_narrow 30 = .ok (.aload_n 0, 1) := by decide +kernel
theorem dX1_narrow_31 : decode cX1_narrow 31 = .ok (.getfield 21, 3) := by decide +kernel
theorem dX1_narrow_34 : decode cX1_narrow 34 = .ok (.iload_n 2, 1) := by decide +kernel
theorem dX1_narrow_35 : decode cX1_narrow 35 = .ok (.iaload, 1) := by decide +kernel
theorem dX1_narrow_36 : decode cX1_narrow 36 = .ok (.iload_n 3, 1) := by decide +kernel
theorem dX1_narrow_37 : decode cX1_narrow 37 = .ok (.aload_n 0, 1) := by decide +kernel
theorem dX1_narrow_38 : decode cX1_narrow 38 = .ok (.getfield 42, 3) := by decide +kernel
theorem dX1_narrow_41 : decode cX1_narrow 41 = .ok (.getfield 157, 3) := by decide +kernel
theorem dX1_narrow_44 : decode cX1_narrow 44 = .ok (.isub, 1) := by decide +kernel
theorem dX1_narrow_45 : decode cX1_narrow 45 = .ok (.invokestatic 113, 3) := by decide +kernel
theorem dX1_narrow_48 : decode cX1_narrow 48 = .ok (.iastore, 1) := by decide +kernel
theorem dX1_narrow_49 : decode cX1_narrow 49 = .ok (.aload_n 0, 1) := by decide +kernel
theorem dX1_narrow_50 : decode cX1_narrow 50 = .ok (.getfield 24, 3) := by decide +kernel
theorem dX1_narrow_53 : decode cX1_narrow 53 = .ok (.iload_n 2, 1) := by decide +kernel
theorem dX1_narrow_54 : decode cX1_narrow 54 = .ok (.aload_n 0, 1) := by decide +kernel
theorem dX1_narrow_55 : decode cX1_narrow 55 = .ok (.getfield 24, 3) := by decide +kernel
theorem dX1_narrow_58 : decode cX1_narrow 58 = .ok (.iload_n 2, 1) := by decide +kernel
theorem dX1_narrow_59 : decode cX1_narrow 59 = .ok (.iaload, 1) := by decide +kernel
theorem dX1_narrow_60 : decode cX1_narrow 60 = .ok (.iload_n 3, 1) := by decide +kernel
theorem dX1_narrow_61 : decode cX1_narrow 61 = .ok (.aload_n 0, 1) := by decide +kernel
theorem dX1_narrow_62 : decode cX1_narrow 62 = .ok (.getfield 42, 3) := by decide +kernel
theorem dX1_narrow_65 : decode cX1_narrow 65 = .ok (.getfield 157, 3) := by decide +kernel
theorem dX1_narrow_68 : decode cX1_narrow 68 = .ok (.iadd, 1) := by decide +kernel
theorem dX1_narrow_69 : decode cX1_narrow 69 = .ok (.invokestatic 160, 3) := by decide +kernel
theorem dX1_narrow_72 : decode cX1_narrow 72 = .ok (.iastore, 1) := by decide +kernel
theorem dX1_narrow_73 : decode cX1_narrow 73 = .ok (.aload_n 0, 1) := by decide +kernel
theorem dX1_narrow_74 : decode cX1_narrow 74 = .ok (.getfield 27, 3) := by decide +kernel
theorem dX1_narrow_77 : decode cX1_narrow 77 = .ok (.iload_n 2, 1) := by decide +kernel
theorem dX1_narrow_78 : decode cX1_narrow 78 = .ok (.aload_n 0, 1) := by decide +kernel
theorem dX1_narrow_79 : decode cX1_narrow 79 = .ok (.getfield 27, 3) := by decide +kernel
theorem dX1_narrow_82 : decode cX1_narrow 82 = .ok (.iload_n 2, 1) := by decide +kernel
theorem dX1_narrow_83 : decode cX1_narrow 83 = .ok (.iaload, 1) := by decide +kernel
theorem dX1_narrow_84 : decode cX1_narrow 84 = .ok (.iload 4, 2) := by decide +kernel
theorem dX1_narrow_86 : decode cX1_narrow 86 = .ok (.aload_n 0, 1) := by decide +kernel
theorem dX1_narrow_87 : decode cX1_narrow 87 = .ok (.getfield 42, 3) := by decide +kernel
theorem dX1_narrow_90 : decode cX1_narrow 90 = .ok (.getfield 157, 3) := by decide +kernel
theorem dX1_narrow_93 : decode cX1_narrow 93 = .ok (.isub, 1) := by decide +kernel
theorem dX1_narrow_94 : decode cX1_narrow 94 = .ok (.invokestatic 113, 3) := by decide +kernel
theorem dX1_narrow_97 : decode cX1_narrow 97 = .ok (.iastore, 1) := by decide +kernel
theorem dX1_narrow_98 : decode cX1_narrow 98 = .ok (.aload_n 0, 1) := by decide +kernel
theorem dX1_narrow_99 : decode cX1_narrow 99 = .ok (.getfield 30, 3) := by decide +kernel
theorem dX1_narrow_102 : decode cX1_narrow 102 = .ok (.iload_n 2, 1) := by decide +kernel
theorem dX1_narrow_103 : decode cX1_narrow 103 = .ok (.aload_n 0, 1) := by decide +kernel
theorem dX1_narrow_104 : decode cX1_narrow 104 = .ok (.getfield 30, 3) := by decide +kernel
theorem dX1_narrow_107 : decode cX1_narrow 107 = .ok (.iload_n 2, 1) := by decide +kernel
theorem dX1_narrow_108 : decode cX1_narrow 108 = .ok (.iaload, 1) := by decide +kernel
theorem dX1_narrow_109 : decode cX1_narrow 109 = .ok (.iload 4, 2) := by decide +kernel
theorem dX1_narrow_111 : decode cX1_narrow 111 = .ok (.aload_n 0, 1) := by decide +kernel
theorem dX1_narrow_112 : decode cX1_narrow 112 = .ok (.getfield 42, 3) := by decide +kernel
theorem dX1_narrow_115 : decode cX1_narrow 115 = .ok (.getfield 157, 3) := by decide +kernel
theorem dX1_narrow_118 : decode cX1_narrow 118 = .ok (.iadd, 1) := by decide +kernel
theorem dX1_narrow_119 : decode cX1_narrow 119 = .ok (.invokestatic 160, 3) := by decide +kernel
theorem dX1_narrow_122 : decode cX1_narrow 122 = .ok (.iastore, 1) := by decide +kernel
theorem dX1_narrow_123 : decode cX1_narrow 123 = .ok (.aload_n 0, 1) := by decide +kernel
theorem dX1_narrow_124 : decode cX1_narrow 124 = .ok (.dup, 1) := by decide +kernel
theorem dX1_narrow_125 : decode cX1_narrow 125 = .ok (.getfield 60, 3) := by decide +kernel
theorem dX1_narrow_128 : decode cX1_narrow 128 = .ok (.iconst 1, 1) := by decide +kernel
theorem dX1_narrow_129 : decode cX1_narrow 129 = .ok (.iload_n 2, 1) := by decide +kernel
theorem dX1_narrow_130 : decode cX1_narrow 130 = .ok (.ishl, 1) := by decide +kernel
theorem dX1_narrow_131 : decode cX1_narrow 131 = .ok (.ior, 1) := by decide +kernel
theorem dX1_narrow_132 : decode cX1_narrow 132 = .ok (.putfield 60, 3) := by decide +kernel
theorem dX1_narrow_135 : decode cX1_narrow 135 = .ok (.return_, 1) := by decide +kernel
theorem dX1_timesOff_0 : decode cX1_timesOff 0 = .ok (.iconst 0, 1) := by decide +kernel
theorem dX1_timesOff_1 : decode cX1_timesOff 1 = .ok (.istore_n 2, 1) := by decide +kernel
theorem dX1_timesOff_2 : decode cX1_timesOff 2 = .ok (.iconst 0, 1) := by decide +kernel
theorem dX1_timesOff_3 : decode cX1_timesOff 3 = .ok (.istore_n 3, 1) := by decide +kernel
theorem dX1_timesOff_4 : decode cX1_timesOff 4 = .ok (.iload_n 3, 1) := by decide +kernel
theorem dX1_timesOff_5 : decode cX1_timesOff 5 = .ok (.aload_n 0, 1) := by decide +kernel
theorem dX1_timesOff_6 : decode cX1_timesOff 6 = .ok (.getfield 42, 3) := by decide +kernel
theorem dX1_timesOff_9 : decode cX1_timesOff 9 = .ok (.getfield 92, 3) := by decide +kernel
theorem dX1_timesOff_12 : decode cX1_timesOff 12 = .ok (.if_icmp .ge 34, 3) := by decide +kernel
theorem dX1_timesOff_15 : decode cX1_timesOff 15 = .ok (.aload_n 0, 1) := by decide +kernel
theorem dX1_timesOff_16 : decode cX1_timesOff 16 = .ok (.getfield 9, 3) := by decide +kernel
theorem dX1_timesOff_19 : decode cX1_timesOff 19 = .ok (.iload_n 1, 1) := by decide +kernel
theorem dX1_timesOff_20 : decode cX1_timesOff 20 = .ok (.iaload, 1) := by decide +kernel
theorem dX1_timesOff_21 : decode cX1_timesOff 21 = .ok (.iload_n 3, 1) := by decide +kernel
theorem dX1_timesOff_22 : decode cX1_timesOff 22 = .ok (.invokestatic 105, 3) := by decide +kernel
theorem dX1_timesOff_25 : decode cX1_timesOff 25 = .ok (.ifCond .eq 15, 3) := by decide +kernel
theorem dX1_timesOff_28 : decode cX1_timesOff 28 = .ok (.aload_n 0, 1) := by decide +kernel
theorem dX1_timesOff_29 : decode cX1_timesOff 29 = .ok (.iload_n 1, 1) := by decide +kernel
theorem dX1_timesOff_30 : decode cX1_timesOff 30 = .ok (.iload_n 3, 1) := by decide +kernel
theorem dX1_timesOff_31 : decode cX1_timesOff 31 = .ok (.invokevirtual 163, 3) := by decide +kernel
theorem dX1_timesOff_34 : decode cX1_timesOff 34 = .ok (.ifCond .eq 6, 3) := by decide +kernel
theorem dX1_timesOff_37 : decode cX1_timesOff 37 = .ok (.iinc 2 1, 3) := by decide +kernel
theorem dX1_timesOff_40 : decode cX1_timesOff 40 = .ok (.iinc 3 1, 3) := by decide +kernel
theorem dX1_timesOff_43 : decode cX1_timesOff 43 = .ok (.goto (-39), 3) := by decide +kernel
theorem dX1_timesOff_46 : decode cX1_timesOff 46 = .ok (.iload_n 2, 1) := by decide +kernel
theorem dX1_timesOff_47 : decode cX1_timesOff 47 = .ok (.ireturn, 1) := by decide +kernel
theorem dX1_hasNoPlaceLeft_0 : decode cX1_hasNoPlaceLeft 0 = .ok (.aload_n 0, 1) := by decide +kernel
theorem dX1_hasNoPlaceLeft_1 : decode cX1_hasNoPlaceLeft 1 = .ok (.getfield 15, 3) := by decide +kernel
theorem dX1_hasNoPlaceLeft_4 : decode cX1_hasNoPlaceLeft 4 = .ok (.iload_n 1, 1) := by decide +kernel
theorem dX1_hasNoPlaceLeft_5 : decode cX1_hasNoPlaceLeft 5 = .ok (.bipush 9, 2) := by decide +kernel
theorem dX1_hasNoPlaceLeft_7 : decode cX1_hasNoPlaceLeft 7 = .ok (.imul, 1) := by decide +kernel
theorem dX1_hasNoPlaceLeft_8 : decode cX1_hasNoPlaceLeft 8 = .ok (.iload_n 2, 1) := by decide +kernel
theorem dX1_hasNoPlaceLeft_9 : decode cX1_hasNoPlaceLeft 9 = .ok (.iadd, 1) := by decide +kernel
theorem dX1_hasNoPlaceLeft_10 : decode cX1_hasNoPlaceLeft 10 = .ok (.iaload, 1) := by decide +kernel
theorem dX1_hasNoPlaceLeft_11 : decode cX1_hasNoPlaceLeft 11 = .ok (.istore_n 3, 1) := by decide +kernel
theorem dX1_hasNoPlaceLeft_12 : decode cX1_hasNoPlaceLeft 12 = .ok (.aload_n 0, 1) := by decide +kernel
theorem dX1_hasNoPlaceLeft_13 : decode cX1_hasNoPlaceLeft 13 = .ok (.getfield 18, 3) := by decide +kernel
theorem dX1_hasNoPlaceLeft_16 : decode cX1_hasNoPlaceLeft 16 = .ok (.iload_n 1, 1) := by decide +kernel
theorem dX1_hasNoPlaceLeft_17 : decode cX1_hasNoPlaceLeft 17 = .ok (.bipush 9, 2) := by decide +kernel
theorem dX1_hasNoPlaceLeft_19 : decode cX1_hasNoPlaceLeft 19 = .ok (.imul, 1) := by decide +kernel
theorem dX1_hasNoPlaceLeft_20 : decode cX1_hasNoPlaceLeft 20 = .ok (.iload_n 2, 1) := by decide +kernel
theorem dX1_hasNoPlaceLeft_21 : decode cX1_hasNoPlaceLeft 21 = .ok (.iadd, 1) := by decide +kernel
theorem dX1_hasNoPlaceLeft_22 : decode cX1_hasNoPlaceLeft 22 = .ok (.iaload, 1) := by decide +kernel
theorem dX1_hasNoPlaceLeft_23 : decode cX1_hasNoPlaceLeft 23 = .ok (.istore 4, 2) := by decide +kernel
theorem dX1_hasNoPlaceLeft_25 : decode cX1_hasNoPlaceLeft 25 = .ok (.iload_n 3, 1) := by decide +kernel
theorem dX1_hasNoPlaceLeft_26 : decode cX1_hasNoPlaceLeft 26 = .ok (.aload_n 0, 1) := by decide +kernel
theorem dX1_hasNoPlaceLeft_27 : decode cX1_hasNoPlaceLeft 27 = .ok (.getfield 42, 3) := by decide +kernel
theorem dX1_hasNoPlaceLeft_30 : decode cX1_hasNoPlaceLeft 30 = .ok (.getfield 157, 3) := by decide +kernel
theorem dX1_hasNoPlaceLeft_33 : decode cX1_hasNoPlaceLeft 33 = .ok (.iadd, 1) := by decide +kernel
theorem dX1_hasNoPlaceLeft_34 : decode cX1_hasNoPlaceLeft 34 = .ok (.aload_n 0, 1) := by decide +kernel
theorem dX1_hasNoPlaceLeft_35 : decode cX1_hasNoPlaceLeft 35 = .ok (.getfield 21, 3) := by decide +kernel
theorem dX1_hasNoPlaceLeft_38 : decode cX1_hasNoPlaceLeft 38 = .ok (.iload_n 2, 1) := by decide +kernel
theorem dX1_hasNoPlaceLeft_39 : decode cX1_hasNoPlaceLeft 39 = .ok (.iaload, 1) := by decide +kernel
theorem dX1_hasNoPlaceLeft_40 : decode cX1_hasNoPlaceLeft 40 = .ok (.if_icmp .lt 59, 3) := by decide +kernel
theorem dX1_hasNoPlaceLeft_43 : decode cX1_hasNoPlaceLeft 43 = .ok (.iload_n 3, 1) := by decide +kernel
theorem dX1_hasNoPlaceLeft_44 : decode cX1_hasNoPlaceLeft 44 = .ok (.aload_n 0, 1) := by decide +kernel
theorem dX1_hasNoPlaceLeft_45 : decode cX1_hasNoPlaceLeft 45 = .ok (.getfield 42, 3) := by decide +kernel
theorem dX1_hasNoPlaceLeft_48 : decode cX1_hasNoPlaceLeft 48 = .ok (.getfield 157, 3) := by decide +kernel
theorem dX1_hasNoPlaceLeft_51 : decode cX1_hasNoPlaceLeft 51 = .ok (.isub, 1) := by decide +kernel
theorem dX1_hasNoPlaceLeft_52 : decode cX1_hasNoPlaceLeft 52 = .ok (.aload_n 0, 1) := by decide +kernel
theorem dX1_hasNoPlaceLeft_53 : decode cX1_hasNoPlaceLeft 53 = .ok (.getfield 24, 3) := by decide +kernel
theorem dX1_hasNoPlaceLeft_56 : decode cX1_hasNoPlaceLeft 56 = .ok (.iload_n 2, 1) := by decide +kernel
theorem dX1_hasNoPlaceLeft_57 : decode cX1_hasNoPlaceLeft 57 = .ok (.iaload, 1) := by decide +kernel
theorem dX1_hasNoPlaceLeft_58 : decode cX1_hasNoPlaceLeft 58 = .ok (.if_icmp .gt 41, 3) := by decide +kernel
theorem dX1_hasNoPlaceLeft_61 : decode cX1_hasNoPlaceLeft 61 = .ok (.iload 4, 2) := by decide +kernel
theorem dX1_hasNoPlaceLeft_63 : decode cX1_hasNoPlaceLeft 63 = .ok (.aload_n 0, 1) := by decide +kernel
theorem dX1_hasNoPlaceLeft_64 : decode cX1_hasNoPlaceLeft 64 = .ok (.getfield 42, 3) := by decide +kernel
theorem dX1_hasNoPlaceLeft_67 : decode cX1_hasNoPlaceLeft 67 = .ok (.getfield 157, 3) := by decide +kernel
theorem dX1_hasNoPlaceLeft_70 : decode cX1_hasNoPlaceLeft 70 = .ok (.iadd, 1) := by decide +kernel
theorem dX1_hasNoPlaceLeft_71 : decode cX1_hasNoPlaceLeft 71 = .ok (.aload_n 0, 1) := by decide +kernel
theorem dX1_hasNoPlaceLeft_72 : decode cX1_hasNoPlaceLeft 72 = .ok (.getfield 27, 3) := by decide +kernel
theorem dX1_hasNoPlaceLeft_75 : decode cX1_hasNoPlaceLeft 75 = .ok (.iload_n 2, 1) := by decide +kernel
theorem dX1_hasNoPlaceLeft_76 : decode cX1_hasNoPlaceLeft 76 = .ok (.iaload, 1) := by decide +kernel
theorem dX1_hasNoPlaceLeft_77 : decode cX1_hasNoPlaceLeft 77 = .ok (.if_icmp .lt 22, 3) := by decide +kernel
theorem dX1_hasNoPlaceLeft_80 : decode cX1_hasNoPlaceLeft 80 = .ok (.iload 4, 2) := by decide +kernel
theorem dX1_hasNoPlaceLeft_82 : decode cX1_hasNoPlaceLeft 82 = .ok (.aload_n 0, 1) := by decide +kernel
theorem dX1_hasNoPlaceLeft_83 : decode cX1_hasNoPlaceLeft 83 = .ok (.getfield 42, 3) := by decide +kernel
theorem dX1_hasNoPlaceLeft_86 : decode cX1_hasNoPlaceLeft 86 = .ok (.getfield 157, 3) := by decide +kernel
theorem dX1_hasNoPlaceLeft_89 : decode cX1_hasNoPlaceLeft 89 = .ok (.isub, 1) := by decide +kernel
theorem dX1_hasNoPlaceLeft_90 : decode cX1_hasNoPlaceLeft 90 = .ok (.aload_n 0, 1) := by decide +kernel
theorem dX1_hasNoPlaceLeft_91 : decode cX1_hasNoPlaceLeft 91 = .ok (.getfield 30, 3) := by decide +kernel
theorem dX1_hasNoPlaceLeft_94 : decode cX1_hasNoPlaceLeft 94 = .ok (.iload_n 2, 1) := by decide +kernel
theorem dX1_hasNoPlaceLeft_95 : decode cX1_hasNoPlaceLeft 95 = .ok (.iaload, 1) := by decide +kernel
theorem dX1_hasNoPlaceLeft_96 : decode cX1_hasNoPlaceLeft 96 = .ok (.if_icmp .le 7, 3) := by decide +kernel
theorem dX1_hasNoPlaceLeft_99 : decode cX1_hasNoPlaceLeft 99 = .ok (.iconst 1, 1) := by decide +kernel
theorem dX1_hasNoPlaceLeft_100 : decode cX1_hasNoPlaceLeft 100 = .ok (.goto 4, 3) := by decide +kernel
theorem dX1_hasNoPlaceLeft_103 : decode cX1_hasNoPlaceLeft 103 = .ok (.iconst 0, 1) := by decide +kernel
theorem dX1_hasNoPlaceLeft_104 : decode cX1_hasNoPlaceLeft 104 = .ok (.ireturn, 1) := by decide +kernel
theorem dX1_quarrels_0 : decode cX1_quarrels 0 = .ok (.iload_n 1, 1) := by decide +kernel
theorem dX1_quarrels_1 : decode cX1_quarrels 1 = .ok (.invokestatic 119, 3) := by decide +kernel
theorem dX1_quarrels_4 : decode cX1_quarrels 4 = .ok (.iconst 2, 1) := by decide +kernel
theorem dX1_quarrels_5 : decode cX1_quarrels 5 = .ok (.if_icmp .ge 5, 3) := by decide +kernel
theorem dX1_quarrels_8 : decode cX1_quarrels 8 = .ok (.iconst 0, 1) := by decide +kernel
theorem dX1_quarrels_9 : decode cX1_quarrels 9 = .ok (.ireturn, 1) := by decide +kernel
theorem dX1_quarrels_10 : decode cX1_quarrels 10 = .ok (.iload_n 1, 1) := by decide +kernel
theorem dX1_quarrels_11 : decode cX1_quarrels 11 = .ok (.invokestatic 166, 3) := by decide +kernel
theorem dX1_quarrels_14 : decode cX1_quarrels 14 = .ok (.istore_n 2, 1) := by decide +kernel
theorem dX1_quarrels_15 : decode cX1_quarrels 15 = .ok (.iload_n 1, 1) := by decide +kernel
theorem dX1_quarrels_16 : decode cX1_quarrels 16 = .ok (.iconst 1, 1) := by decide +kernel
theorem dX1_quarrels_17 : decode cX1_quarrels 17 = .ok (.iload_n 2, 1) := by decide +kernel
theorem dX1_quarrels_18 : decode cX1_quarrels 18 = .ok (.ishl, 1) := by decide +kernel
theorem dX1_quarrels_19 : decode cX1_quarrels 19 = .ok (.iconst (-1), 1) := by decide +kernel
theorem dX1_quarrels_20 : decode cX1_quarrels 20 = .ok (.ixor, 1) := by decide +kernel
theorem dX1_quarrels_21 : decode cX1_quarrels 21 = .ok (.iand, 1) := by decide +kernel
theorem dX1_quarrels_22 : decode cX1_quarrels 22 = .ok (.invokestatic 166, 3) := by decide +kernel
theorem dX1_quarrels_25 : decode cX1_quarrels 25 = .ok (.istore_n 3, 1) := by decide +kernel
theorem dX1_quarrels_26 : decode cX1_quarrels 26 = .ok (.iconst 0, 1) := by decide +kernel
theorem dX1_quarrels_27 : decode cX1_quarrels 27 = .ok (.istore 4, 2) := by decide +kernel
theorem dX1_quarrels_29 : decode cX1_quarrels 29 = .ok (.iconst 0, 1) := by decide +kernel
theorem dX1_quarrels_30 : decode cX1_quarrels 30 = .ok (.istore 5, 2) := by decide +kernel
theorem dX1_quarrels_32 : decode cX1_quarrels 32 = .ok (.iload 5, 2) := by decide +kernel
theorem dX1_quarrels_34 : decode cX1_quarrels 34 = .ok (.aload_n 0, 1) := by decide +kernel
theorem dX1_quarrels_35 : decode cX1_quarrels 35 = .ok (.getfield 42, 3) := by decide +kernel
theorem dX1_quarrels_38 : decode cX1_quarrels 38 = .ok (.getfield 92, 3) := by decide +kernel
theorem dX1_quarrels_41 : decode cX1_quarrels 41 = .ok (.if_icmp .ge 63, 3) := by decide +kernel
theorem dX1_quarrels_44 : decode cX1_quarrels 44 = .ok (.aload_n 0, 1) := by decide +kernel
theorem dX1_quarrels_45 : decode cX1_quarrels 45 = .ok (.getfield 60, 3) := by decide +kernel
theorem dX1_quarrels_48 : decode cX1_quarrels 48 = .ok (.iload 5, 2) := by decide +kernel
theorem dX1_quarrels_50 : decode cX1_quarrels 50 = .ok (.invokestatic 105, 3) := by decide +kernel
theorem dX1_quarrels_53 : decode cX1_quarrels 53 = .ok (.ifCond .ne 45, 3) := by decide +kernel
theorem dX1_quarrels_56 : decode cX1_quarrels 56 = .ok (.aload_n 0, 1) := by decide +kernel
theorem dX1_quarrels_57 : decode cX1_quarrels 57 = .ok (.getfield 9, 3) := by decide +kernel
theorem dX1_quarrels_60 : decode cX1_quarrels 60 = .ok (.iload_n 2, 1) := by decide +kernel
theorem dX1_quarrels_61 : decode cX1_quarrels 61 = .ok (.iaload, 1) := by decide +kernel
theorem dX1_quarrels_62 : decode cX1_quarrels 62 = .ok (.iload 5, 2) := by decide +kernel
theorem dX1_quarrels_64 : decode cX1_quarrels 64 = .ok (.invokestatic 105, 3) := by decide +kernel
theorem dX1_quarrels_67 : decode cX1_quarrels 67 = .ok (.ifCond .eq 31, 3) := by decide +kernel
theorem dX1_quarrels_70 : decode cX1_quarrels 70 = .ok (.aload_n 0, 1) := by decide +kernel
theorem dX1_quarrels_71 : decode cX1_quarrels 71 = .ok (.getfield 9, 3) := by decide +kernel
theorem dX1_quarrels_74 : decode cX1_quarrels 74 = .ok (.iload_n 3, 1) := by decide +kernel
theorem dX1_quarrels_75 : decode cX1_quarrels 75 = .ok (.iaload, 1) := by decide +kernel
theorem dX1_quarrels_76 : decode cX1_quarrels 76 = .ok (.iload 5, 2) := by decide +kernel
theorem dX1_quarrels_78 : decode cX1_quarrels 78 = .ok (.invokestatic 105, 3) := by decide +kernel
theorem dX1_quarrels_81 : decode cX1_quarrels 81 = .ok (.ifCond .eq 17, 3) := by decide +kernel
theorem dX1_quarrels_84 : decode cX1_quarrels 84 = .ok (.aload_n 0, 1) := by decide +kernel
theorem dX1_quarrels_85 : decode cX1_quarrels 85 = .ok (.iload_n 2, 1) := by decide +kernel
theorem dX1_quarrels_86 : decode cX1_quarrels 86 = .ok (.iload_n 3, 1) := by decide +kernel
theorem dX1_quarrels_87 : decode cX1_quarrels 87 = .ok (.iload 5, 2) := by decide +kernel
theorem dX1_quarrels_89 : decode cX1_quarrels 89 = .ok (.invokevirtual 169, 3) := by decide +kernel
theorem dX1_quarrels_92 : decode cX1_quarrels 92 = .ok (.ifCond .eq 6, 3) := by decide +kernel
theorem dX1_quarrels_95 : decode cX1_quarrels 95 = .ok (.iinc 4 1, 3) := by decide +kernel
theorem dX1_quarrels_98 : decode cX1_quarrels 98 = .ok (.iinc 5 1, 3) := by decide +kernel
theorem dX1_quarrels_101 : decode cX1_quarrels 101 = .ok (.goto (-69), 3) := by decide +kernel
theorem dX1_quarrels_104 : decode cX1_quarrels 104 = .ok (.iload 4, 2) := by decide +kernel
theorem dX1_quarrels_106 : decode cX1_quarrels 106 = .ok (.ireturn, 1) := by decide +kernel
theorem dX1_lowestOf_0 : decode cX1_lowestOf 0 = .ok (.iload_n 0, 1) := by decide +kernel
theorem dX1_lowestOf_1 : decode cX1_lowestOf 1 = .ok (.iload_n 0, 1) := by decide +kernel
theorem dX1_lowestOf_2 : decode cX1_lowestOf 2 = .ok (.ineg, 1) := by decide +kernel
theorem dX1_lowestOf_3 : decode cX1_lowestOf 3 = .ok (.iand, 1) := by decide +kernel
theorem dX1_lowestOf_4 : decode cX1_lowestOf 4 = .ok (.iconst 1, 1) := by decide +kernel
theorem dX1_lowestOf_5 : decode cX1_lowestOf 5 = .ok (.isub, 1) := by decide +kernel
theorem dX1_lowestOf_6 : decode cX1_lowestOf 6 = .ok (.invokestatic 119, 3) := by decide +kernel
theorem dX1_lowestOf_9 : decode cX1_lowestOf 9 = .ok (.ireturn, 1) := by decide +kernel
theorem dX1_areApart_0 : decode cX1_areApart 0 = .ok (.iload_n 1, 1) := by decide +kernel
theorem dX1_areApart_1 : decode cX1_areApart 1 = .ok (.bipush 9, 2) := by decide +kernel
theorem dX1_areApart_3 : decode cX1_areApart 3 = .ok (.imul, 1) := by decide +kernel
theorem dX1_areApart_4 : decode cX1_areApart 4 = .ok (.iload_n 3, 1) := by decide +kernel
theorem dX1_areApart_5 : decode cX1_areApart 5 = .ok (.iadd, 1) := by decide +kernel
theorem dX1_areApart_6 : decode cX1_areApart 6 = .ok (.istore 4, 2) := by decide +kernel
theorem dX1_areApart_8 : decode cX1_areApart 8 = .ok (.iload_n 2, 1) := by decide +kernel
theorem dX1_areApart_9 : decode cX1_areApart 9 = .ok (.bipush 9, 2) := by decide +kernel
theorem dX1_areApart_11 : decode cX1_areApart 11 = .ok (.imul, 1) := by decide +kernel
theorem dX1_areApart_12 : decode cX1_areApart 12 = .ok (.iload_n 3, 1) := by decide +kernel
theorem dX1_areApart_13 : decode cX1_areApart 13 = .ok (.iadd, 1) := by decide +kernel
theorem dX1_areApart_14 : decode cX1_areApart 14 = .ok (.istore 5, 2) := by decide +kernel
theorem dX1_areApart_16 : decode cX1_areApart 16 = .ok (.iconst 2, 1) := by decide +kernel
theorem dX1_areApart_17 : decode cX1_areApart 17 = .ok (.aload_n 0, 1) := by decide +kernel
theorem dX1_areApart_18 : decode cX1_areApart 18 = .ok (.getfield 42, 3) := by decide +kernel
theorem dX1_areApart_21 : decode cX1_areApart 21 = .ok (.getfield 157, 3) := by decide +kernel
theorem dX1_areApart_24 : decode cX1_areApart 24 = .ok (.imul, 1) := by decide +kernel
theorem dX1_areApart_25 : decode cX1_areApart 25 = .ok (.istore 6, 2) := by decide +kernel
theorem dX1_areApart_27 : decode cX1_areApart 27 = .ok (.aload_n 0, 1) := by decide +kernel
theorem dX1_areApart_28 : decode cX1_areApart 28 = .ok (.getfield 15, 3) := by decide +kernel
theorem dX1_areApart_31 : decode cX1_areApart 31 = .ok (.iload 4, 2) := by decide +kernel
theorem dX1_areApart_33 : decode cX1_areApart 33 = .ok (.iaload, 1) := by decide +kernel
theorem dX1_areApart_34 : decode cX1_areApart 34 = .ok (.aload_n 0, 1) := by decide +kernel
theorem dX1_areApart_35 : decode cX1_areApart 35 = .ok (.getfield 15, 3) := by decide +kernel
theorem dX1_areApart_38 : decode cX1_areApart 38 = .ok (.iload 5, 2) := by decide +kernel
theorem dX1_areApart_40 : decode cX1_areApart 40 = .ok (.iaload, 1) := by decide +kernel
theorem dX1_areApart_41 : decode cX1_areApart 41 = .ok (.isub, 1) := by decide +kernel
theorem dX1_areApart_42 : decode cX1_areApart 42 = .ok (.invokestatic 172, 3) := by decide +kernel
theorem dX1_areApart_45 : decode cX1_areApart 45 = .ok (.iload 6, 2) := by decide +kernel
theorem dX1_areApart_47 : decode cX1_areApart 47 = .ok (.if_icmp .gt 26, 3) := by decide +kernel
theorem dX1_areApart_50 : decode cX1_areApart 50 = .ok (.aload_n 0, 1) := by decide +kernel
theorem dX1_areApart_51 : decode cX1_areApart 51 = .ok (.getfield 18, 3) := by decide +kernel
theorem dX1_areApart_54 : decode cX1_areApart 54 = .ok (.iload 4, 2) := by decide +kernel
theorem dX1_areApart_56 : decode cX1_areApart 56 = .ok (.iaload, 1) := by decide +kernel
theorem dX1_areApart_57 : decode cX1_areApart 57 = .ok (.aload_n 0, 1) := by decide +kernel
theorem dX1_areApart_58 : decode cX1_areApart 58 = .ok (.getfield 18, 3) := by decide +kernel
theorem dX1_areApart_61 : decode cX1_areApart 61 = .ok (.iload 5, 2) := by decide +kernel
theorem dX1_areApart_63 : decode cX1_areApart 63 = .ok (.iaload, 1) := by decide +kernel
theorem dX1_areApart_64 : decode cX1_areApart 64 = .ok (.isub, 1) := by decide +kernel
theorem dX1_areApart_65 : decode cX1_areApart 65 = .ok (.invokestatic 172, 3) := by decide +kernel
theorem dX1_areApart_68 : decode cX1_areApart 68 = .ok (.iload 6, 2) := by decide +kernel
theorem dX1_areApart_70 : decode cX1_areApart 70 = .ok (.if_icmp .le 7, 3) := by decide +kernel
theorem dX1_areApart_73 : decode cX1_areApart 73 = .ok (.iconst 1, 1) := by decide +kernel
theorem dX1_areApart_74 : decode cX1_areApart 74 = .ok (.goto 4, 3) := by decide +kernel
theorem dX1_areApart_77 : decode cX1_areApart 77 = .ok (.iconst 0, 1) := by decide +kernel
theorem dX1_areApart_78 : decode cX1_areApart 78 = .ok (.ireturn, 1) := by decide +kernel
theorem dX1_couldBeOff_0 : decode cX1_couldBeOff 0 = .ok (.iconst 0, 1) := by decide +kernel
theorem dX1_couldBeOff_1 : decode cX1_couldBeOff 1 = .ok (.istore_n 2, 1) := by decide +kernel
theorem dX1_couldBeOff_2 : decode cX1_couldBeOff 2 = .ok (.iload_n 2, 1) := by decide +kernel
theorem dX1_couldBeOff_3 : decode cX1_couldBeOff 3 = .ok (.aload_n 0, 1) := by decide +kernel
theorem dX1_couldBeOff_4 : decode cX1_couldBeOff 4 = .ok (.getfield 42, 3) := by decide +kernel
theorem dX1_couldBeOff_7 : decode cX1_couldBeOff 7 = .ok (.getfield 92, 3) := by decide +kernel
theorem dX1_couldBeOff_10 : decode cX1_couldBeOff 10 = .ok (.if_icmp .ge 33, 3) := by decide +kernel
theorem dX1_couldBeOff_13 : decode cX1_couldBeOff 13 = .ok (.aload_n 0, 1) := by decide +kernel
theorem dX1_couldBeOff_14 : decode cX1_couldBeOff 14 = .ok (.getfield 9, 3) := by decide +kernel
theorem dX1_couldBeOff_17 : decode cX1_couldBeOff 17 = .ok (.iload_n 1, 1) := by decide +kernel
theorem dX1_couldBeOff_18 : decode cX1_couldBeOff 18 = .ok (.iaload, 1) := by decide +kernel
theorem dX1_couldBeOff_19 : decode cX1_couldBeOff 19 = .ok (.iload_n 2, 1) := by decide +kernel
theorem dX1_couldBeOff_20 : decode cX1_couldBeOff 20 = .ok (.invokestatic 105, 3) := by decide +kernel
theorem dX1_couldBeOff_23 : decode cX1_couldBeOff 23 = .ok (.ifCond .eq 12, 3) := by decide +kernel
theorem dX1_couldBeOff_26 : decode cX1_couldBeOff 26 = .ok (.aload_n 0, 1) := by decide +kernel
theorem dX1_couldBeOff_27 : decode cX1_couldBeOff 27 = .ok (.iload_n 1, 1) := by decide +kernel
theorem dX1_couldBeOff_28 : decode cX1_couldBeOff 28 = .ok (.iload_n 2, 1) := by decide +kernel
theorem dX1_couldBeOff_29 : decode cX1_couldBeOff 29 = .ok (.invokevirtual 175, 3) := by decide +kernel
theorem dX1_couldBeOff_32 : decode cX1_couldBeOff 32 = .ok (.ifCond .ne 5, 3) := by decide +kernel
theorem dX1_couldBeOff_35 : decode cX1_couldBeOff 35 = .ok (.iconst 1, 1) := by decide +kernel
theorem dX1_couldBeOff_36 : decode cX1_couldBeOff 36 = .ok (.ireturn, 1) := by decide +kernel
theorem dX1_couldBeOff_37 : decode cX1_couldBeOff 37 = .ok (.iinc 2 1, 3) := by decide +kernel
theorem dX1_couldBeOff_40 : decode cX1_couldBeOff 40 = .ok (.goto (-38), 3) := by decide +kernel
theorem dX1_couldBeOff_43 : decode cX1_couldBeOff 43 = .ok (.iconst 0, 1) := by decide +kernel
theorem dX1_couldBeOff_44 : decode cX1_couldBeOff 44 = .ok (.ireturn, 1) := by decide +kernel
theorem dX1_hasAllPlacesLeft_0 : decode cX1_hasAllPlacesLeft 0 = .ok (.aload_n 0, 1) := by decide +kernel
theorem dX1_hasAllPlacesLeft_1 : decode cX1_hasAllPlacesLeft 1 = .ok (.getfield 15, 3) := by decide +kernel
theorem dX1_hasAllPlacesLeft_4 : decode cX1_hasAllPlacesLeft 4 = .ok (.iload_n 1, 1) := by decide +kernel
theorem dX1_hasAllPlacesLeft_5 : decode cX1_hasAllPlacesLeft 5 = .ok (.bipush 9, 2) := by decide +kernel
theorem dX1_hasAllPlacesLeft_7 : decode cX1_hasAllPlacesLeft 7 = .ok (.imul, 1) := by decide +kernel
theorem dX1_hasAllPlacesLeft_8 : decode cX1_hasAllPlacesLeft 8 = .ok (.iload_n 2, 1) := by decide +kernel
theorem dX1_hasAllPlacesLeft_9 : decode cX1_hasAllPlacesLeft 9 = .ok (.iadd, 1) := by decide +kernel
theorem dX1_hasAllPlacesLeft_10 : decode cX1_hasAllPlacesLeft 10 = .ok (.iaload, 1) := by decide +kernel
theorem dX1_hasAllPlacesLeft_11 : decode cX1_hasAllPlacesLeft 11 = .ok (.istore_n 3, 1) := by decide +kernel
theorem dX1_hasAllPlacesLeft_12 : decode cX1_hasAllPlacesLeft 12 = .ok (.aload_n 0, 1) := by decide +kernel
theorem dX1_hasAllPlacesLeft_13 : decode cX1_hasAllPlacesLeft 13 = .ok (.getfield 18, 3) := by decide +kernel
theorem dX1_hasAllPlacesLeft_16 : decode cX1_hasAllPlacesLeft 16 = .ok (.iload_n 1, 1) := by decide +kernel
theorem dX1_hasAllPlacesLeft_17 : decode cX1_hasAllPlacesLeft 17 = .ok (.bipush 9, 2) := by decide +kernel
theorem dX1_hasAllPlacesLeft_19 : decode cX1_hasAllPlacesLeft 19 = .ok (.imul, 1) := by decide +kernel
theorem dX1_hasAllPlacesLeft_20 : decode cX1_hasAllPlacesLeft 20 = .ok (.iload_n 2, 1) := by decide +kernel
theorem dX1_hasAllPlacesLeft_21 : decode cX1_hasAllPlacesLeft 21 = .ok (.iadd, 1) := by decide +kernel
theorem dX1_hasAllPlacesLeft_22 : decode cX1_hasAllPlacesLeft 22 = .ok (.iaload, 1) := by decide +kernel
theorem dX1_hasAllPlacesLeft_23 : decode cX1_hasAllPlacesLeft 23 = .ok (.istore 4, 2) := by decide +kernel
theorem dX1_hasAllPlacesLeft_25 : decode cX1_hasAllPlacesLeft 25 = .ok (.iload_n 3, 1) := by decide +kernel
theorem dX1_hasAllPlacesLeft_26 : decode cX1_hasAllPlacesLeft 26 = .ok (.aload_n 0, 1) := by decide +kernel
theorem dX1_hasAllPlacesLeft_27 : decode cX1_hasAllPlacesLeft 27 = .ok (.getfield 42, 3) := by decide +kernel
theorem dX1_hasAllPlacesLeft_30 : decode cX1_hasAllPlacesLeft 30 = .ok (.getfield 157, 3) := by decide +kernel
theorem dX1_hasAllPlacesLeft_33 : decode cX1_hasAllPlacesLeft 33 = .ok (.isub, 1) := by decide +kernel
theorem dX1_hasAllPlacesLeft_34 : decode cX1_hasAllPlacesLeft 34 = .ok (.aload_n 0, 1) := by decide +kernel
theorem dX1_hasAllPlacesLeft_35 : decode cX1_hasAllPlacesLeft 35 = .ok (.getfield 21, 3) := by decide +kernel
theorem dX1_hasAllPlacesLeft_38 : decode cX1_hasAllPlacesLeft 38 = .ok (.iload_n 2, 1) := by decide +kernel
theorem dX1_hasAllPlacesLeft_39 : decode cX1_hasAllPlacesLeft 39 = .ok (.iaload, 1) := by decide +kernel
theorem dX1_hasAllPlacesLeft_40 : decode cX1_hasAllPlacesLeft 40 = .ok (.if_icmp .gt 63, 3) := by decide +kernel
theorem dX1_hasAllPlacesLeft_43 : decode cX1_hasAllPlacesLeft 43 = .ok (.aload_n 0, 1) := by decide +kernel
theorem dX1_hasAllPlacesLeft_44 : decode cX1_hasAllPlacesLeft 44 = .ok (.getfield 24, 3) := by decide +kernel
theorem dX1_hasAllPlacesLeft_47 : decode cX1_hasAllPlacesLeft 47 = .ok (.iload_n 2, 1) := by decide +kernel
theorem dX1_hasAllPlacesLeft_48 : decode cX1_hasAllPlacesLeft 48 = .ok (.iaload, 1) := by decide +kernel
theorem dX1_hasAllPlacesLeft_49 : decode cX1_hasAllPlacesLeft 49 = .ok (.iload_n 3, 1) := by decide +kernel
theorem dX1_hasAllPlacesLeft_50 : decode cX1_hasAllPlacesLeft 50 = .ok (.aload_n 0, 1) := by decide +kernel
theorem dX1_hasAllPlacesLeft_51 : decode cX1_hasAllPlacesLeft 51 = .ok (.getfield 42, 3) := by decide +kernel
theorem dX1_hasAllPlacesLeft_54 : decode cX1_hasAllPlacesLeft 54 = .ok (.getfield 157, 3) := by decide +kernel
theorem dX1_hasAllPlacesLeft_57 : decode cX1_hasAllPlacesLeft 57 = .ok (.iadd, 1) := by decide +kernel
theorem dX1_hasAllPlacesLeft_58 : decode cX1_hasAllPlacesLeft 58 = .ok (.if_icmp .gt 45, 3) := by decide +kernel
theorem dX1_hasAllPlacesLeft_61 : decode cX1_hasAllPlacesLeft 61 = .ok (.iload 4, 2) := by decide +kernel
theorem dX1_hasAllPlacesLeft_63 : decode cX1_hasAllPlacesLeft 63 = .ok (.aload_n 0, 1) := by decide +kernel
theorem dX1_hasAllPlacesLeft_64 : decode cX1_hasAllPlacesLeft 64 = .ok (.getfield 42, 3) := by decide +kernel
theorem dX1_hasAllPlacesLeft_67 : decode cX1_hasAllPlacesLeft 67 = .ok (.getfield 157, 3) := by decide +kernel
theorem dX1_hasAllPlacesLeft_70 : decode cX1_hasAllPlacesLeft 70 = .ok (.isub, 1) := by decide +kernel
theorem dX1_hasAllPlacesLeft_71 : decode cX1_hasAllPlacesLeft 71 = .ok (.aload_n 0, 1) := by decide +kernel
theorem dX1_hasAllPlacesLeft_72 : decode cX1_hasAllPlacesLeft 72 = .ok (.getfield 27, 3) := by decide +kernel
theorem dX1_hasAllPlacesLeft_75 : decode cX1_hasAllPlacesLeft 75 = .ok (.iload_n 2, 1) := by decide +kernel
theorem dX1_hasAllPlacesLeft_76 : decode cX1_hasAllPlacesLeft 76 = .ok (.iaload, 1) := by decide +kernel
theorem dX1_hasAllPlacesLeft_77 : decode cX1_hasAllPlacesLeft 77 = .ok (.if_icmp .gt 26, 3) := by decide +kernel
theorem dX1_hasAllPlacesLeft_80 : decode cX1_hasAllPlacesLeft 80 = .ok (.aload_n 0, 1) := by decide +kernel
theorem dX1_hasAllPlacesLeft_81 : decode cX1_hasAllPlacesLeft 81 = .ok (.getfield 30, 3) := by decide +kernel
theorem dX1_hasAllPlacesLeft_84 : decode cX1_hasAllPlacesLeft 84 = .ok (.iload_n 2, 1) := by decide +kernel
theorem dX1_hasAllPlacesLeft_85 : decode cX1_hasAllPlacesLeft 85 = .ok (.iaload, 1) := by decide +kernel
theorem dX1_hasAllPlacesLeft_86 : decode cX1_hasAllPlacesLeft 86 = .ok (.iload 4, 2) := by decide +kernel
theorem dX1_hasAllPlacesLeft_88 : decode cX1_hasAllPlacesLeft 88 = .ok (.aload_n 0, 1) := by decide +kernel
theorem dX1_hasAllPlacesLeft_89 : decode cX1_hasAllPlacesLeft 89 = .ok (.getfield 42, 3) := by decide +kernel
theorem dX1_hasAllPlacesLeft_92 : decode cX1_hasAllPlacesLeft 92 = .ok (.getfield 157, 3) := by decide +kernel
theorem dX1_hasAllPlacesLeft_95 : decode cX1_hasAllPlacesLeft 95 = .ok (.iadd, 1) := by decide +kernel
theorem dX1_hasAllPlacesLeft_96 : decode cX1_hasAllPlacesLeft 96 = .ok (.if_icmp .gt 7, 3) := by decide +kernel
theorem dX1_hasAllPlacesLeft_99 : decode cX1_hasAllPlacesLeft 99 = .ok (.iconst 1, 1) := by decide +kernel
theorem dX1_hasAllPlacesLeft_100 : decode cX1_hasAllPlacesLeft 100 = .ok (.goto 4, 3) := by decide +kernel
theorem dX1_hasAllPlacesLeft_103 : decode cX1_hasAllPlacesLeft 103 = .ok (.iconst 0, 1) := by decide +kernel
theorem dX1_hasAllPlacesLeft_104 : decode cX1_hasAllPlacesLeft 104 = .ok (.ireturn, 1) := by decide +kernel
theorem dX1_isFelled_0 : decode cX1_isFelled 0 = .ok (.aload_n 0, 1) := by decide +kernel
theorem dX1_isFelled_1 : decode cX1_isFelled 1 = .ok (.aload_n 0, 1) := by decide +kernel
theorem dX1_isFelled_2 : decode cX1_isFelled 2 = .ok (.getfield 42, 3) := by decide +kernel
theorem dX1_isFelled_5 : decode cX1_isFelled 5 = .ok (.getfield 178, 3) := by decide +kernel
theorem dX1_isFelled_8 : decode cX1_isFelled 8 = .ok (.invokevirtual 181, 3) := by decide +kernel
theorem dX1_isFelled_11 : decode cX1_isFelled 11 = .ok (.ifCond .eq 31, 3) := by decide +kernel
theorem dX1_isFelled_14 : decode cX1_isFelled 14 = .ok (.aload_n 0, 1) := by decide +kernel
theorem dX1_isFelled_15 : decode cX1_isFelled 15 = .ok (.aload_n 0, 1) := by decide +kernel
theorem dX1_isFelled_16 : decode cX1_isFelled 16 = .ok (.getfield 42, 3) := by decide +kernel
theorem dX1_isFelled_19 : decode cX1_isFelled 19 = .ok (.getfield 184, 3) := by decide +kernel
theorem dX1_isFelled_22 : decode cX1_isFelled 22 = .ok (.invokevirtual 181, 3) := by decide +kernel
theorem dX1_isFelled_25 : decode cX1_isFelled 25 = .ok (.ifCond .eq 17, 3) := by decide +kernel
theorem dX1_isFelled_28 : decode cX1_isFelled 28 = .ok (.aload_n 0, 1) := by decide +kernel
theorem dX1_isFelled_29 : decode cX1_isFelled 29 = .ok (.aload_n 0, 1) := by decide +kernel
theorem dX1_isFelled_30 : decode cX1_isFelled 30 = .ok (.getfield 42, 3) := by decide +kernel
theorem dX1_isFelled_33 : decode cX1_isFelled 33 = .ok (.getfield 187, 3) := by decide +kernel
theorem dX1_isFelled_36 : decode cX1_isFelled 36 = .ok (.invokevirtual 181, 3) := by decide +kernel
theorem dX1_isFelled_39 : decode cX1_isFelled 39 = .ok (.ifCond .ne 5, 3) := by decide +kernel
theorem dX1_isFelled_42 : decode cX1_isFelled 42 = .ok (.iconst 0, 1) := by decide +kernel
theorem dX1_isFelled_43 : decode cX1_isFelled 43 = .ok (.ireturn, 1) := by decide +kernel
theorem dX1_isFelled_44 : decode cX1_isFelled 44 = .ok (.aload_n 0, 1) := by decide +kernel
theorem dX1_isFelled_45 : decode cX1_isFelled 45 = .ok (.getfield 21, 3) := by decide +kernel
theorem dX1_isFelled_48 : decode cX1_isFelled 48 = .ok (.aload_n 0, 1) := by decide +kernel
theorem dX1_isFelled_49 : decode cX1_isFelled 49 = .ok (.getfield 42, 3) := by decide +kernel
theorem dX1_isFelled_52 : decode cX1_isFelled 52 = .ok (.getfield 178, 3) := by decide +kernel
theorem dX1_isFelled_55 : decode cX1_isFelled 55 = .ok (.iaload, 1) := by decide +kernel
theorem dX1_isFelled_56 : decode cX1_isFelled 56 = .ok (.aload_n 0, 1) := by decide +kernel
theorem dX1_isFelled_57 : decode cX1_isFelled 57 = .ok (.getfield 21, 3) := by decide +kernel
theorem dX1_isFelled_60 : decode cX1_isFelled 60 = .ok (.aload_n 0, 1) := by decide +kernel
theorem dX1_isFelled_61 : decode cX1_isFelled 61 = .ok (.getfield 42, 3) := by decide +kernel
theorem dX1_isFelled_64 : decode cX1_isFelled 64 = .ok (.getfield 184, 3) := by decide +kernel
theorem dX1_isFelled_67 : decode cX1_isFelled 67 = .ok (.iaload, 1) := by decide +kernel
theorem dX1_isFelled_68 : decode cX1_isFelled 68 = .ok (.iadd, 1) := by decide +kernel
theorem dX1_isFelled_69 : decode cX1_isFelled 69 = .ok (.aload_n 0, 1) := by decide +kernel
theorem dX1_isFelled_70 : decode cX1_isFelled 70 = .ok (.getfield 21, 3) := by decide +kernel
theorem dX1_isFelled_73 : decode cX1_isFelled 73 = .ok (.aload_n 0, 1) := by decide +kernel
theorem dX1_isFelled_74 : decode cX1_isFelled 74 = .ok (.getfield 42, 3) := by decide +kernel
theorem dX1_isFelled_77 : decode cX1_isFelled 77 = .ok (.getfield 187, 3) := by decide +kernel
theorem dX1_isFelled_80 : decode cX1_isFelled 80 = .ok (.iaload, 1) := by decide +kernel
theorem dX1_isFelled_81 : decode cX1_isFelled 81 = .ok (.isub, 1) := by decide +kernel
theorem dX1_isFelled_82 : decode cX1_isFelled 82 = .ok (.istore_n 1, 1) := by decide +kernel
theorem dX1_isFelled_83 : decode cX1_isFelled 83 = .ok (.aload_n 0, 1) := by decide +kernel
theorem dX1_isFelled_84 : decode cX1_isFelled 84 = .ok (.getfield 27, 3) := by decide +kernel
theorem dX1_isFelled_87 : decode cX1_isFelled 87 = .ok (.aload_n 0, 1) := by decide +kernel
theorem dX1_isFelled_88 : decode cX1_isFelled 88 = .ok (.getfield 42, 3) := by decide +kernel
theorem dX1_isFelled_91 : decode cX1_isFelled 91 = .ok (.getfield 178, 3) := by decide +kernel
theorem dX1_isFelled_94 : decode cX1_isFelled 94 = .ok (.iaload, 1) := by decide +kernel
theorem dX1_isFelled_95 : decode cX1_isFelled 95 = .ok (.aload_n 0, 1) := by decide +kernel
theorem dX1_isFelled_96 : decode cX1_isFelled 96 = .ok (.getfield 27, 3) := by decide +kernel
theorem dX1_isFelled_99 : decode cX1_isFelled 99 = .ok (.aload_n 0, 1) := by decide +kernel
theorem dX1_isFelled_100 : decode cX1_isFelled 100 = .ok (.getfield 42, 3) := by decide +kernel
theorem dX1_isFelled_103 : decode cX1_isFelled 103 = .ok (.getfield 184, 3) := by decide +kernel
theorem dX1_isFelled_106 : decode cX1_isFelled 106 = .ok (.iaload, 1) := by decide +kernel
theorem dX1_isFelled_107 : decode cX1_isFelled 107 = .ok (.iadd, 1) := by decide +kernel
theorem dX1_isFelled_108 : decode cX1_isFelled 108 = .ok (.aload_n 0, 1) := by decide +kernel
theorem dX1_isFelled_109 : decode cX1_isFelled 109 = .ok (.getfield 27, 3) := by decide +kernel
theorem dX1_isFelled_112 : decode cX1_isFelled 112 = .ok (.aload_n 0, 1) := by decide +kernel
theorem dX1_isFelled_113 : decode cX1_isFelled 113 = .ok (.getfield 42, 3) := by decide +kernel
theorem dX1_isFelled_116 : decode cX1_isFelled 116 = .ok (.getfield 187, 3) := by decide +kernel
theorem dX1_isFelled_119 : decode cX1_isFelled 119 = .ok (.iaload, 1) := by decide +kernel
theorem dX1_isFelled_120 : decode cX1_isFelled 120 = .ok (.isub, 1) := by decide +kernel
theorem dX1_isFelled_121 : decode cX1_isFelled 121 = .ok (.istore_n 2, 1) := by decide +kernel
theorem dX1_isFelled_122 : decode cX1_isFelled 122 = .ok (.iconst 0, 1) := by decide +kernel
theorem dX1_isFelled_123 : decode cX1_isFelled 123 = .ok (.istore_n 3, 1) := by decide +kernel
theorem dX1_isFelled_124 : decode cX1_isFelled 124 = .ok (.iload_n 3, 1) := by decide +kernel
theorem dX1_isFelled_125 : decode cX1_isFelled 125 = .ok (.aload_n 0, 1) := by decide +kernel
theorem dX1_isFelled_126 : decode cX1_isFelled 126 = .ok (.getfield 53, 3) := by decide +kernel
theorem dX1_isFelled_129 : decode cX1_isFelled 129 = .ok (.if_icmp .ge 37, 3) := by decide +kernel
theorem dX1_isFelled_132 : decode cX1_isFelled 132 = .ok (.aload_n 0, 1) := by decide +kernel
theorem dX1_isFelled_133 : decode cX1_isFelled 133 = .ok (.getfield 49, 3) := by decide +kernel
theorem dX1_isFelled_136 : decode cX1_isFelled 136 = .ok (.getfield 190, 3) := by decide +kernel
theorem dX1_isFelled_139 : decode cX1_isFelled 139 = .ok (.iload_n 3, 1) := by decide +kernel
theorem dX1_isFelled_140 : decode cX1_isFelled 140 = .ok (.iaload, 1) := by decide +kernel
theorem dX1_isFelled_141 : decode cX1_isFelled 141 = .ok (.iload_n 1, 1) := by decide +kernel
theorem dX1_isFelled_142 : decode cX1_isFelled 142 = .ok (.if_icmp .ne 18, 3) := by decide +kernel
theorem dX1_isFelled_145 : decode cX1_isFelled 145 = .ok (.aload_n 0, 1) := by decide +kernel
theorem dX1_isFelled_146 : decode cX1_isFelled 146 = .ok (.getfield 49, 3) := by decide +kernel
theorem dX1_isFelled_149 : decode cX1_isFelled 149 = .ok (.getfield 193, 3) := by decide +kernel
theorem dX1_isFelled_152 : decode cX1_isFelled 152 = .ok (.iload_n 3, 1) := by decide +kernel
theorem dX1_isFelled_153 : decode cX1_isFelled 153 = .ok (.iaload, 1) := by decide +kernel
theorem dX1_isFelled_154 : decode cX1_isFelled 154 = .ok (.iload_n 2, 1) := by decide +kernel
theorem dX1_isFelled_155 : decode cX1_isFelled 155 = .ok (.if_icmp .ne 5, 3) := by decide +kernel
theorem dX1_isFelled_158 : decode cX1_isFelled 158 = .ok (.iconst 1, 1) := by decide +kernel
theorem dX1_isFelled_159 : decode cX1_isFelled 159 = .ok (.ireturn, 1) := by decide +kernel
theorem dX1_isFelled_160 : decode cX1_isFelled 160 = .ok (.iinc 3 1, 3) := by decide +kernel
theorem dX1_isFelled_163 : decode cX1_isFelled 163 = .ok (.goto (-39), 3) := by decide +kernel
theorem dX1_isFelled_166 : decode cX1_isFelled 166 = .ok (.iconst 0, 1) := by decide +kernel
theorem dX1_isFelled_167 : decode cX1_isFelled 167 = .ok (.ireturn, 1) := by decide +kernel
theorem dX1_isOnePlace_0 : decode cX1_isOnePlace 0 = .ok (.aload_n 0, 1) := by decide +kernel
theorem dX1_isOnePlace_1 : decode cX1_isOnePlace 1 = .ok (.getfield 60, 3) := by decide +kernel
theorem dX1_isOnePlace_4 : decode cX1_isOnePlace 4 = .ok (.iload_n 1, 1) := by decide +kernel
theorem dX1_isOnePlace_5 : decode cX1_isOnePlace 5 = .ok (.invokestatic 105, 3) := by decide +kernel
theorem dX1_isOnePlace_8 : decode cX1_isOnePlace 8 = .ok (.ifCond .eq 37, 3) := by decide +kernel
theorem dX1_isOnePlace_11 : decode cX1_isOnePlace 11 = .ok (.aload_n 0, 1) := by decide +kernel
theorem dX1_isOnePlace_12 : decode cX1_isOnePlace 12 = .ok (.getfield 21, 3) := by decide +kernel
theorem dX1_isOnePlace_15 : decode cX1_isOnePlace 15 = .ok (.iload_n 1, 1) := by decide +kernel
theorem dX1_isOnePlace_16 : decode cX1_isOnePlace 16 = .ok (.iaload, 1) := by decide +kernel
theorem dX1_isOnePlace_17 : decode cX1_isOnePlace 17 = .ok (.aload_n 0, 1) := by decide +kernel
theorem dX1_isOnePlace_18 : decode cX1_isOnePlace 18 = .ok (.getfield 24, 3) := by decide +kernel
theorem dX1_isOnePlace_21 : decode cX1_isOnePlace 21 = .ok (.iload_n 1, 1) := by decide +kernel
theorem dX1_isOnePlace_22 : decode cX1_isOnePlace 22 = .ok (.iaload, 1) := by decide +kernel
theorem dX1_isOnePlace_23 : decode cX1_isOnePlace 23 = .ok (.if_icmp .ne 22, 3) := by decide +kernel
theorem dX1_isOnePlace_26 : decode cX1_isOnePlace 26 = .ok (.aload_n 0, 1) := by decide +kernel
theorem dX1_isOnePlace_27 : decode cX1_isOnePlace 27 = .ok (.getfield 27, 3) := by decide +kernel
theorem dX1_isOnePlace_30 : decode cX1_isOnePlace 30 = .ok (.iload_n 1, 1) := by decide +kernel
theorem dX1_isOnePlace_31 : decode cX1_isOnePlace 31 = .ok (.iaload, 1) := by decide +kernel
theorem dX1_isOnePlace_32 : decode cX1_isOnePlace 32 = .ok (.aload_n 0, 1) := by decide +kernel
theorem dX1_isOnePlace_33 : decode cX1_isOnePlace 33 = .ok (.getfield 30, 3) := by decide +kernel
theorem dX1_isOnePlace_36 : decode cX1_isOnePlace 36 = .ok (.iload_n 1, 1) := by decide +kernel
theorem dX1_isOnePlace_37 : decode cX1_isOnePlace 37 = .ok (.iaload, 1) := by decide +kernel
theorem dX1_isOnePlace_38 : decode cX1_isOnePlace 38 = .ok (.if_icmp .ne 7, 3) := by decide +kernel
theorem dX1_isOnePlace_41 : decode cX1_isOnePlace 41 = .ok (.iconst 1, 1) := by decide +kernel
theorem dX1_isOnePlace_42 : decode cX1_isOnePlace 42 = .ok (.goto 4, 3) := by decide +kernel
theorem dX1_isOnePlace_45 : decode cX1_isOnePlace 45 = .ok (.iconst 0, 1) := by decide +kernel
theorem dX1_isOnePlace_46 : decode cX1_isOnePlace 46 = .ok (.ireturn, 1) := by decide +kernel
theorem dX1_noteArea_0 : decode cX1_noteArea 0 = .ok (.aload_n 0, 1) := by decide +kernel
theorem dX1_noteArea_1 : decode cX1_noteArea 1 = .ok (.getfield 42, 3) := by decide +kernel
theorem dX1_noteArea_4 : decode cX1_noteArea 4 = .ok (.getfield 178, 3) := by decide +kernel
theorem dX1_noteArea_7 : decode cX1_noteArea 7 = .ok (.istore_n 2, 1) := by decide +kernel
theorem dX1_noteArea_8 : decode cX1_noteArea 8 = .ok (.aload_n 0, 1) := by decide +kernel
theorem dX1_noteArea_9 : decode cX1_noteArea 9 = .ok (.getfield 42, 3) := by decide +kernel
theorem dX1_noteArea_12 : decode cX1_noteArea 12 = .ok (.getfield 184, 3) := by decide +kernel
theorem dX1_noteArea_15 : decode cX1_noteArea 15 = .ok (.istore_n 3, 1) := by decide +kernel
theorem dX1_noteArea_16 : decode cX1_noteArea 16 = .ok (.aload_n 0, 1) := by decide +kernel
theorem dX1_noteArea_17 : decode cX1_noteArea 17 = .ok (.getfield 42, 3) := by decide +kernel
theorem dX1_noteArea_20 : decode cX1_noteArea 20 = .ok (.getfield 187, 3) := by decide +kernel
theorem dX1_noteArea_23 : decode cX1_noteArea 23 = .ok (.istore 4, 2) := by decide +kernel
theorem dX1_noteArea_25 : decode cX1_noteArea 25 = .ok (.aload_n 0, 1) := by decide +kernel
theorem dX1_noteArea_26 : decode cX1_noteArea 26 = .ok (.getfield 36, 3) := by decide +kernel
theorem dX1_noteArea_29 : decode cX1_noteArea 29 = .ok (.iload_n 1, 1) := by decide +kernel
theorem dX1_noteArea_30 : decode cX1_noteArea 30 = .ok (.aload_n 0, 1) := by decide +kernel
theorem dX1_noteArea_31 : decode cX1_noteArea 31 = .ok (.aload_n 0, 1) := by decide +kernel
theorem dX1_noteArea_32 : decode cX1_noteArea 32 = .ok (.getfield 21, 3) := by decide +kernel
theorem dX1_noteArea_35 : decode cX1_noteArea 35 = .ok (.iload_n 2, 1) := by decide +kernel
theorem dX1_noteArea_36 : decode cX1_noteArea 36 = .ok (.invokevirtual 196, 3) := by decide +kernel
theorem dX1_noteArea_39 : decode cX1_noteArea 39 = .ok (.aload_n 0, 1) := by decide +kernel
theorem dX1_noteArea_40 : decode cX1_noteArea 40 = .ok (.aload_n 0, 1) := by decide +kernel
theorem dX1_noteArea_41 : decode cX1_noteArea 41 = .ok (.getfield 21, 3) := by decide +kernel
theorem dX1_noteArea_44 : decode cX1_noteArea 44 = .ok (.iload_n 3, 1) := by decide +kernel
theorem dX1_noteArea_45 : decode cX1_noteArea 45 = .ok (.invokevirtual 196, 3) := by decide +kernel
theorem dX1_noteArea_48 : decode cX1_noteArea 48 = .ok (.iadd, 1) := by decide +kernel
theorem dX1_noteArea_49 : decode cX1_noteArea 49 = .ok (.aload_n 0, 1) := by decide +kernel
theorem dX1_noteArea_50 : decode cX1_noteArea 50 = .ok (.aload_n 0, 1) := by decide +kernel
theorem dX1_noteArea_51 : decode cX1_noteArea 51 = .ok (.getfield 24, 3) := by decide +kernel
theorem dX1_noteArea_54 : decode cX1_noteArea 54 = .ok (.iload 4, 2) := by decide +kernel
theorem dX1_noteArea_56 : decode cX1_noteArea 56 = .ok (.invokevirtual 200, 3) := by decide +kernel
theorem dX1_noteArea_59 : decode cX1_noteArea 59 = .ok (.isub, 1) := by decide +kernel
theorem dX1_noteArea_60 : decode cX1_noteArea 60 = .ok (.iastore, 1) := by decide +kernel
theorem dX1_noteArea_61 : decode cX1_noteArea 61 = .ok (.aload_n 0, 1) := by decide +kernel
theorem dX1_noteArea_62 : decode cX1_noteArea 62 = .ok (.getfield 36, 3) := by decide +kernel
theorem dX1_noteArea_65 : decode cX1_noteArea 65 = .ok (.iload_n 1, 1) := by decide +kernel
theorem dX1_noteArea_66 : decode cX1_noteArea 66 = .ok (.iconst 1, 1) := by decide +kernel
theorem dX1_noteArea_67 : decode cX1_noteArea 67 = .ok (.iadd, 1) := by decide +kernel
theorem dX1_noteArea_68 : decode cX1_noteArea 68 = .ok (.aload_n 0, 1) := by decide +kernel
theorem dX1_noteArea_69 : decode cX1_noteArea 69 = .ok (.aload_n 0, 1) := by decide +kernel
theorem dX1_noteArea_70 : decode cX1_noteArea 70 = .ok (.getfield 24, 3) := by decide +kernel
theorem dX1_noteArea_73 : decode cX1_noteArea 73 = .ok (.iload_n 2, 1) := by decide +kernel
theorem dX1_noteArea_74 : decode cX1_noteArea 74 = .ok (.invokevirtual 200, 3) := by decide +kernel
theorem dX1_noteArea_77 : decode cX1_noteArea 77 = .ok (.aload_n 0, 1) := by decide +kernel
theorem dX1_noteArea_78 : decode cX1_noteArea 78 = .ok (.aload_n 0, 1) := by decide +kernel
theorem dX1_noteArea_79 : decode cX1_noteArea 79 = .ok (.getfield 24, 3) := by decide +kernel
theorem dX1_noteArea_82 : decode cX1_noteArea 82 = .ok (.iload_n 3, 1) := by decide +kernel
theorem dX1_noteArea_83 : decode cX1_noteArea 83 = .ok (.invokevirtual 200, 3) := by decide +kernel
theorem dX1_noteArea_86 : decode cX1_noteArea 86 = .ok (.iadd, 1) := by decide +kernel
theorem dX1_noteArea_87 : decode cX1_noteArea 87 = .ok (.aload_n 0, 1) := by decide +kernel
theorem dX1_noteArea_88 : decode cX1_noteArea 88 = .ok (.aload_n 0, 1) := by decide +kernel
theorem dX1_noteArea_89 : decode cX1_noteArea 89 = .ok (.getfield 21, 3) := by decide +kernel
theorem dX1_noteArea_92 : decode cX1_noteArea 92 = .ok (.iload 4, 2) := by decide +kernel
theorem dX1_noteArea_94 : decode cX1_noteArea 94 = .ok (.invokevirtual 196, 3) := by decide +kernel
theorem dX1_noteArea_97 : decode cX1_noteArea 97 = .ok (.isub, 1) := by decide +kernel
theorem dX1_noteArea_98 : decode cX1_noteArea 98 = .ok (.iastore, 1) := by decide +kernel
theorem dX1_noteArea_99 : decode cX1_noteArea 99 = .ok (.aload_n 0, 1) := by decide +kernel
theorem dX1_noteArea_100 : decode cX1_noteArea 100 = .ok (.getfield 36, 3) := by decide +kernel
theorem dX1_noteArea_103 : decode cX1_noteArea 103 = .ok (.iload_n 1, 1) := by decide +kernel
theorem dX1_noteArea_104 : decode cX1_noteArea 104 = .ok (.iconst 2, 1) := by decide +kernel
theorem dX1_noteArea_105 : decode cX1_noteArea 105 = .ok (.iadd, 1) := by decide +kernel
theorem dX1_noteArea_106 : decode cX1_noteArea 106 = .ok (.aload_n 0, 1) := by decide +kernel
theorem dX1_noteArea_107 : decode cX1_noteArea 107 = .ok (.aload_n 0, 1) := by decide +kernel
theorem dX1_noteArea_108 : decode cX1_noteArea 108 = .ok (.getfield 27, 3) := by decide +kernel
theorem dX1_noteArea_111 : decode cX1_noteArea 111 = .ok (.iload_n 2, 1) := by decide +kernel
theorem dX1_noteArea_112 : decode cX1_noteArea 112 = .ok (.invokevirtual 196, 3) := by decide +kernel
theorem dX1_noteArea_115 : decode cX1_noteArea 115 = .ok (.aload_n 0, 1) := by decide +kernel
theorem dX1_noteArea_116 : decode cX1_noteArea 116 = .ok (.aload_n 0, 1) := by decide +kernel
theorem dX1_noteArea_117 : decode cX1_noteArea 117 = .ok (.getfield 27, 3) := by decide +kernel
theorem dX1_noteArea_120 : decode cX1_noteArea 120 = .ok (.iload_n 3, 1) := by decide +kernel
theorem dX1_noteArea_121 : decode cX1_noteArea 121 = .ok (.invokevirtual 196, 3) := by decide +kernel
theorem dX1_noteArea_124 : decode cX1_noteArea 124 = .ok (.iadd, 1) := by decide +kernel
theorem dX1_noteArea_125 : decode cX1_noteArea 125 = .ok (.aload_n 0, 1) := by decide +kernel
theorem dX1_noteArea_126 : decode cX1_noteArea 126 = .ok (.aload_n 0, 1) := by decide +kernel
theorem dX1_noteArea_127 : decode cX1_noteArea 127 = .ok (.getfield 30, 3) := by decide +kernel
theorem dX1_noteArea_130 : decode cX1_noteArea 130 = .ok (.iload 4, 2) := by decide +kernel
theorem dX1_noteArea_132 : decode cX1_noteArea 132 = .ok (.invokevirtual 200, 3) := by decide +kernel
theorem dX1_noteArea_135 : decode cX1_noteArea 135 = .ok (.isub, 1) := by decide +kernel
theorem dX1_noteArea_136 : decode cX1_noteArea 136 = .ok (.iastore, 1) := by decide +kernel
theorem dX1_noteArea_137 : decode cX1_noteArea 137 = .ok (.aload_n 0, 1) := by decide +kernel
theorem dX1_noteArea_138 : decode cX1_noteArea 138 = .ok (.getfield 36, 3) := by decide +kernel
theorem dX1_noteArea_141 : decode cX1_noteArea 141 = .ok (.iload_n 1, 1) := by decide +kernel
theorem dX1_noteArea_142 : decode cX1_noteArea 142 = .ok (.iconst 3, 1) := by decide +kernel
theorem dX1_noteArea_143 : decode cX1_noteArea 143 = .ok (.iadd, 1) := by decide +kernel
theorem dX1_noteArea_144 : decode cX1_noteArea 144 = .ok (.aload_n 0, 1) := by decide +kernel
theorem dX1_noteArea_145 : decode cX1_noteArea 145 = .ok (.aload_n 0, 1) := by decide +kernel
theorem dX1_noteArea_146 : decode cX1_noteArea 146 = .ok (.getfield 30, 3) := by decide +kernel
theorem dX1_noteArea_149 : decode cX1_noteArea 149 = .ok (.iload_n 2, 1) := by decide +kernel
theorem dX1_noteArea_150 : decode cX1_noteArea 150 = .ok (.invokevirtual 200, 3) := by decide +kernel
theorem dX1_noteArea_153 : decode cX1_noteArea 153 = .ok (.aload_n 0, 1) := by decide +kernel
theorem dX1_noteArea_154 : decode cX1_noteArea 154 = .ok (.aload_n 0, 1) := by decide +kernel
theorem dX1_noteArea_155 : decode cX1_noteArea 155 = .ok (.getfield 30, 3) := by decide +kernel
theorem dX1_noteArea_158 : decode cX1_noteArea 158 = .ok (.iload_n 3, 1) := by decide +kernel
theorem dX1_noteArea_159 : decode cX1_noteArea 159 = .ok (.invokevirtual 200, 3) := by decide +kernel
theorem dX1_noteArea_162 : decode cX1_noteArea 162 = .ok (.iadd, 1) := by decide +kernel
theorem dX1_noteArea_163 : decode cX1_noteArea 163 = .ok (.aload_n 0, 1) := by decide +kernel
theorem dX1_noteArea_164 : decode cX1_noteArea 164 = .ok (.aload_n 0, 1) := by decide +kernel
theorem dX1_noteArea_165 : decode cX1_noteArea 165 = .ok (.getfield 27, 3) := by decide +kernel
theorem dX1_noteArea_168 : decode cX1_noteArea 168 = .ok (.iload 4, 2) := by decide +kernel
theorem dX1_noteArea_170 : decode cX1_noteArea 170 = .ok (.invokevirtual 196, 3) := by decide +kernel
theorem dX1_noteArea_173 : decode cX1_noteArea 173 = .ok (.isub, 1) := by decide +kernel
theorem dX1_noteArea_174 : decode cX1_noteArea 174 = .ok (.iastore, 1) := by decide +kernel
theorem dX1_noteArea_175 : decode cX1_noteArea 175 = .ok (.return_, 1) := by decide +kernel
theorem dX1_least_0 : decode cX1_least 0 = .ok (.aload_n 0, 1) := by decide +kernel
theorem dX1_least_1 : decode cX1_least 1 = .ok (.getfield 60, 3) := by decide +kernel
theorem dX1_least_4 : decode cX1_least 4 = .ok (.iload_n 2, 1) := by decide +kernel
theorem dX1_least_5 : decode cX1_least 5 = .ok (.invokestatic 105, 3) := by decide +kernel
theorem dX1_least_8 : decode cX1_least 8 = .ok (.ifCond .eq 9, 3) := by decide +kernel
theorem dX1_least_11 : decode cX1_least 11 = .ok (.aload_n 1, 1) := by decide +kernel
theorem dX1_least_12 : decode cX1_least 12 = .ok (.iload_n 2, 1) := by decide +kernel
theorem dX1_least_13 : decode cX1_least 13 = .ok (.iaload, 1) := by decide +kernel
theorem dX1_least_14 : decode cX1_least 14 = .ok (.goto 4, 3) := by decide +kernel
theorem dX1_least_17 : decode cX1_least 17 = .ok (.iconst 0, 1) := by decide +kernel
theorem dX1_least_18 : decode cX1_least 18 = .ok (.ireturn, 1) := by decide +kernel
theorem dX1_most_0 : decode cX1_most 0 = .ok (.aload_n 0, 1) := by decide +kernel
theorem dX1_most_1 : decode cX1_most 1 = .ok (.getfield 60, 3) := by decide +kernel
theorem dX1_most_4 : decode cX1_most 4 = .ok (.iload_n 2, 1) := by decide +kernel
theorem dX1_most_5 : decode cX1_most 5 = .ok (.invokestatic 105, 3) := by decide +kernel
theorem dX1_most_8 : decode cX1_most 8 = .ok (.ifCond .eq 9, 3) := by decide +kernel
theorem dX1_most_11 : decode cX1_most 11 = .ok (.aload_n 1, 1) := by decide +kernel
theorem dX1_most_12 : decode cX1_most 12 = .ok (.iload_n 2, 1) := by decide +kernel
theorem dX1_most_13 : decode cX1_most 13 = .ok (.iaload, 1) := by decide +kernel
theorem dX1_most_14 : decode cX1_most 14 = .ok (.goto 5, 3) := by decide +kernel
theorem dX1_most_17 : decode cX1_most 17 = .ok (.bipush 99, 2) := by decide +kernel
theorem dX1_most_19 : decode cX1_most 19 = .ok (.ireturn, 1) := by decide +kernel
theorem dX1_inAll_0 : decode cX1_inAll 0 = .ok (.bipush 63, 2) := by decide +kernel
theorem dX1_inAll_2 : decode cX1_inAll 2 = .ok (.istore_n 1, 1) := by decide +kernel
theorem dX1_inAll_3 : decode cX1_inAll 3 = .ok (.iconst 0, 1) := by decide +kernel
theorem dX1_inAll_4 : decode cX1_inAll 4 = .ok (.istore_n 2, 1) := by decide +kernel
theorem dX1_inAll_5 : decode cX1_inAll 5 = .ok (.iload_n 2, 1) := by decide +kernel
theorem dX1_inAll_6 : decode cX1_inAll 6 = .ok (.aload_n 0, 1) := by decide +kernel
theorem dX1_inAll_7 : decode cX1_inAll 7 = .ok (.getfield 57, 3) := by decide +kernel
theorem dX1_inAll_10 : decode cX1_inAll 10 = .ok (.if_icmp .ge 18, 3) := by decide +kernel
theorem dX1_inAll_13 : decode cX1_inAll 13 = .ok (.iload_n 1, 1) := by decide +kernel
theorem dX1_inAll_14 : decode cX1_inAll 14 = .ok (.aload_n 0, 1) := by decide +kernel
theorem dX1_inAll_15 : decode cX1_inAll 15 = .ok (.getfield 33, 3) := by decide +kernel
theorem dX1_inAll_18 : decode cX1_inAll 18 = .ok (.iload_n 2, 1) := by decide +kernel
theorem dX1_inAll_19 : decode cX1_inAll 19 = .ok (.iaload, 1) := by decide +kernel
theorem dX1_inAll_20 : decode cX1_inAll 20 = .ok (.iand, 1) := by decide +kernel
theorem dX1_inAll_21 : decode cX1_inAll 21 = .ok (.istore_n 1, 1) := by decide +kernel
theorem dX1_inAll_22 : decode cX1_inAll 22 = .ok (.iinc 2 1, 3) := by decide +kernel
theorem dX1_inAll_25 : decode cX1_inAll 25 = .ok (.goto (-20), 3) := by decide +kernel
theorem dX1_inAll_28 : decode cX1_inAll 28 = .ok (.iload_n 1, 1) := by decide +kernel
theorem dX1_inAll_29 : decode cX1_inAll 29 = .ok (.ireturn, 1) := by decide +kernel
theorem dX1_inNone_0 : decode cX1_inNone 0 = .ok (.bipush 63, 2) := by decide +kernel
theorem dX1_inNone_2 : decode cX1_inNone 2 = .ok (.istore_n 1, 1) := by decide +kernel
theorem dX1_inNone_3 : decode cX1_inNone 3 = .ok (.iconst 0, 1) := by decide +kernel
theorem dX1_inNone_4 : decode cX1_inNone 4 = .ok (.istore_n 2, 1) := by decide +kernel
theorem dX1_inNone_5 : decode cX1_inNone 5 = .ok (.iload_n 2, 1) := by decide +kernel
theorem dX1_inNone_6 : decode cX1_inNone 6 = .ok (.aload_n 0, 1) := by decide +kernel
theorem dX1_inNone_7 : decode cX1_inNone 7 = .ok (.getfield 57, 3) := by decide +kernel
theorem dX1_inNone_10 : decode cX1_inNone 10 = .ok (.if_icmp .ge 20, 3) := by decide +kernel
theorem dX1_inNone_13 : decode cX1_inNone 13 = .ok (.iload_n 1, 1) := by decide +kernel
theorem dX1_inNone_14 : decode cX1_inNone 14 = .ok (.aload_n 0, 1) := by decide +kernel
theorem dX1_inNone_15 : decode cX1_inNone 15 = .ok (.getfield 33, 3) := by decide +kernel
theorem dX1_inNone_18 : decode cX1_inNone 18 = .ok (.iload_n 2, 1) := by decide +kernel
theorem dX1_inNone_19 : decode cX1_inNone 19 = .ok (.iaload, 1) := by decide +kernel
theorem dX1_inNone_20 : decode cX1_inNone 20 = .ok (.iconst (-1), 1) := by decide +kernel
theorem dX1_inNone_21 : decode cX1_inNone 21 = .ok (.ixor, 1) := by decide +kernel
theorem dX1_inNone_22 : decode cX1_inNone 22 = .ok (.iand, 1) := by decide +kernel
theorem dX1_inNone_23 : decode cX1_inNone 23 = .ok (.istore_n 1, 1) := by decide +kernel
theorem dX1_inNone_24 : decode cX1_inNone 24 = .ok (.iinc 2 1, 3) := by decide +kernel
theorem dX1_inNone_27 : decode cX1_inNone 27 = .ok (.goto (-22), 3) := by decide +kernel
theorem dX1_inNone_30 : decode cX1_inNone 30 = .ok (.iload_n 1, 1) := by decide +kernel
theorem dX1_inNone_31 : decode cX1_inNone 31 = .ok (.ireturn, 1) := by decide +kernel
theorem dX1_indexOf_0 : decode cX1_indexOf 0 = .ok (.iconst 0, 1) := by decide +kernel
theorem dX1_indexOf_1 : decode cX1_indexOf 1 = .ok (.istore_n 2, 1) := by decide +kernel
theorem dX1_indexOf_2 : decode cX1_indexOf 2 = .ok (.iload_n 2, 1) := by decide +kernel
theorem dX1_indexOf_3 : decode cX1_indexOf 3 = .ok (.aload_n 0, 1) := by decide +kernel
theorem dX1_indexOf_4 : decode cX1_indexOf 4 = .ok (.getfield 57, 3) := by decide +kernel
theorem dX1_indexOf_7 : decode cX1_indexOf 7 = .ok (.if_icmp .ge 21, 3) := by decide +kernel
theorem dX1_indexOf_10 : decode cX1_indexOf 10 = .ok (.aload_n 0, 1) := by decide +kernel
theorem dX1_indexOf_11 : decode cX1_indexOf 11 = .ok (.getfield 33, 3) := by decide +kernel
theorem dX1_indexOf_14 : decode cX1_indexOf 14 = .ok (.iload_n 2, 1) := by decide +kernel
theorem dX1_indexOf_15 : decode cX1_indexOf 15 = .ok (.iaload, 1) := by decide +kernel
theorem dX1_indexOf_16 : decode cX1_indexOf 16 = .ok (.iload_n 1, 1) := by decide +kernel
theorem dX1_indexOf_17 : decode cX1_indexOf 17 = .ok (.if_icmp .ne 5, 3) := by decide +kernel
theorem dX1_indexOf_20 : decode cX1_indexOf 20 = .ok (.iload_n 2, 1) := by decide +kernel
theorem dX1_indexOf_21 : decode cX1_indexOf 21 = .ok (.ireturn, 1) := by decide +kernel
theorem dX1_indexOf_22 : decode cX1_indexOf 22 = .ok (.iinc 2 1, 3) := by decide +kernel
theorem dX1_indexOf_25 : decode cX1_indexOf 25 = .ok (.goto (-23), 3) := by decide +kernel
theorem dX1_indexOf_28 : decode cX1_indexOf 28 = .ok (.iconst (-1), 1) := by decide +kernel
theorem dX1_indexOf_29 : decode cX1_indexOf 29 = .ok (.ireturn, 1) := by decide +kernel
theorem dX1_isPlace_0 : decode cX1_isPlace 0 = .ok (.aload_n 0, 1) := by decide +kernel
theorem dX1_isPlace_1 : decode cX1_isPlace 1 = .ok (.getfield 36, 3) := by decide +kernel
theorem dX1_isPlace_4 : decode cX1_isPlace 4 = .ok (.iload_n 1, 1) := by decide +kernel
theorem dX1_isPlace_5 : decode cX1_isPlace 5 = .ok (.iconst 4, 1) := by decide +kernel
theorem dX1_isPlace_6 : decode cX1_isPlace 6 = .ok (.imul, 1) := by decide +kernel
theorem dX1_isPlace_7 : decode cX1_isPlace 7 = .ok (.iaload, 1) := by decide +kernel
theorem dX1_isPlace_8 : decode cX1_isPlace 8 = .ok (.aload_n 0, 1) := by decide +kernel
theorem dX1_isPlace_9 : decode cX1_isPlace 9 = .ok (.getfield 36, 3) := by decide +kernel
theorem dX1_isPlace_12 : decode cX1_isPlace 12 = .ok (.iload_n 1, 1) := by decide +kernel
theorem dX1_isPlace_13 : decode cX1_isPlace 13 = .ok (.iconst 4, 1) := by decide +kernel
theorem dX1_isPlace_14 : decode cX1_isPlace 14 = .ok (.imul, 1) := by decide +kernel
theorem dX1_isPlace_15 : decode cX1_isPlace 15 = .ok (.iconst 1, 1) := by decide +kernel
theorem dX1_isPlace_16 : decode cX1_isPlace 16 = .ok (.iadd, 1) := by decide +kernel
theorem dX1_isPlace_17 : decode cX1_isPlace 17 = .ok (.iaload, 1) := by decide +kernel
theorem dX1_isPlace_18 : decode cX1_isPlace 18 = .ok (.if_icmp .ne 30, 3) := by decide +kernel
theorem dX1_isPlace_21 : decode cX1_isPlace 21 = .ok (.aload_n 0, 1) := by decide +kernel
theorem dX1_isPlace_22 : decode cX1_isPlace 22 = .ok (.getfield 36, 3) := by decide +kernel
theorem dX1_isPlace_25 : decode cX1_isPlace 25 = .ok (.iload_n 1, 1) := by decide +kernel
theorem dX1_isPlace_26 : decode cX1_isPlace 26 = .ok (.iconst 4, 1) := by decide +kernel
theorem dX1_isPlace_27 : decode cX1_isPlace 27 = .ok (.imul, 1) := by decide +kernel
theorem dX1_isPlace_28 : decode cX1_isPlace 28 = .ok (.iconst 2, 1) := by decide +kernel
theorem dX1_isPlace_29 : decode cX1_isPlace 29 = .ok (.iadd, 1) := by decide +kernel
theorem dX1_isPlace_30 : decode cX1_isPlace 30 = .ok (.iaload, 1) := by decide +kernel
theorem dX1_isPlace_31 : decode cX1_isPlace 31 = .ok (.aload_n 0, 1) := by decide +kernel
theorem dX1_isPlace_32 : decode cX1_isPlace 32 = .ok (.getfield 36, 3) := by decide +kernel
theorem dX1_isPlace_35 : decode cX1_isPlace 35 = .ok (.iload_n 1, 1) := by decide +kernel
theorem dX1_isPlace_36 : decode cX1_isPlace 36 = .ok (.iconst 4, 1) := by decide +kernel
theorem dX1_isPlace_37 : decode cX1_isPlace 37 = .ok (.imul, 1) := by decide +kernel
theorem dX1_isPlace_38 : decode cX1_isPlace 38 = .ok (.iconst 3, 1) := by decide +kernel
theorem dX1_isPlace_39 : decode cX1_isPlace 39 = .ok (.iadd, 1) := by decide +kernel
theorem dX1_isPlace_40 : decode cX1_isPlace 40 = .ok (.iaload, 1) := by decide +kernel
theorem dX1_isPlace_41 : decode cX1_isPlace 41 = .ok (.if_icmp .ne 7, 3) := by decide +kernel
theorem dX1_isPlace_44 : decode cX1_isPlace 44 = .ok (.iconst 1, 1) := by decide +kernel
theorem dX1_isPlace_45 : decode cX1_isPlace 45 = .ok (.goto 4, 3) := by decide +kernel
theorem dX1_isPlace_48 : decode cX1_isPlace 48 = .ok (.iconst 0, 1) := by decide +kernel
theorem dX1_isPlace_49 : decode cX1_isPlace 49 = .ok (.ireturn, 1) := by decide +kernel
theorem dX1_placeX_0 : decode cX1_placeX 0 = .ok (.aload_n 0, 1) := by decide +kernel
theorem dX1_placeX_1 : decode cX1_placeX 1 = .ok (.getfield 36, 3) := by decide +kernel
theorem dX1_placeX_4 : decode cX1_placeX 4 = .ok (.iload_n 1, 1) := by decide +kernel
theorem dX1_placeX_5 : decode cX1_placeX 5 = .ok (.iconst 4, 1) := by decide +kernel
theorem dX1_placeX_6 : decode cX1_placeX 6 = .ok (.imul, 1) := by decide +kernel
theorem dX1_placeX_7 : decode cX1_placeX 7 = .ok (.iaload, 1) := by decide +kernel
theorem dX1_placeX_8 : decode cX1_placeX 8 = .ok (.ireturn, 1) := by decide +kernel
theorem dX1_placeY_0 : decode cX1_placeY 0 = .ok (.aload_n 0, 1) := by decide +kernel
theorem dX1_placeY_1 : decode cX1_placeY 1 = .ok (.getfield 36, 3) := by decide +kernel
theorem dX1_placeY_4 : decode cX1_placeY 4 = .ok (.iload_n 1, 1) := by decide +kernel
theorem dX1_placeY_5 : decode cX1_placeY 5 = .ok (.iconst 4, 1) := by decide +kernel
theorem dX1_placeY_6 : decode cX1_placeY 6 = .ok (.imul, 1) := by decide +kernel
theorem dX1_placeY_7 : decode cX1_placeY 7 = .ok (.iconst 2, 1) := by decide +kernel
theorem dX1_placeY_8 : decode cX1_placeY 8 = .ok (.iadd, 1) := by decide +kernel
theorem dX1_placeY_9 : decode cX1_placeY 9 = .ok (.iaload, 1) := by decide +kernel
theorem dX1_placeY_10 : decode cX1_placeY 10 = .ok (.ireturn, 1) := by decide +kernel
theorem dX1_areSamePlace_0 : decode cX1_areSamePlace 0 = .ok (.aload_n 0, 1) := by decide +kernel
theorem dX1_areSamePlace_1 : decode cX1_areSamePlace 1 = .ok (.iload_n 1, 1) := by decide +kernel
theorem dX1_areSamePlace_2 : decode cX1_areSamePlace 2 = .ok (.invokevirtual 203, 3) := by decide +kernel
theorem dX1_areSamePlace_5 : decode cX1_areSamePlace 5 = .ok (.ifCond .eq 41, 3) := by decide +kernel
theorem dX1_areSamePlace_8 : decode cX1_areSamePlace 8 = .ok (.aload_n 0, 1) := by decide +kernel
theorem dX1_areSamePlace_9 : decode cX1_areSamePlace 9 = .ok (.iload_n 2, 1) := by decide +kernel
theorem dX1_areSamePlace_10 : decode cX1_areSamePlace 10 = .ok (.invokevirtual 203, 3) := by decide +kernel
theorem dX1_areSamePlace_13 : decode cX1_areSamePlace 13 = .ok (.ifCond .eq 33, 3) := by decide +kernel
theorem dX1_areSamePlace_16 : decode cX1_areSamePlace 16 = .ok (.aload_n 0, 1) := by decide +kernel
theorem dX1_areSamePlace_17 : decode cX1_areSamePlace 17 = .ok (.iload_n 1, 1) := by decide +kernel
theorem dX1_areSamePlace_18 : decode cX1_areSamePlace 18 = .ok (.invokevirtual 206, 3) := by decide +kernel
theorem dX1_areSamePlace_21 : decode cX1_areSamePlace 21 = .ok (.aload_n 0, 1) := by decide +kernel
theorem dX1_areSamePlace_22 : decode cX1_areSamePlace 22 = .ok (.iload_n 2, 1) := by decide +kernel
theorem dX1_areSamePlace_23 : decode cX1_areSamePlace 23 = .ok (.invokevirtual 206, 3) := by decide +kernel
theorem dX1_areSamePlace_26 : decode cX1_areSamePlace 26 = .ok (.if_icmp .ne 20, 3) := by decide +kernel
theorem dX1_areSamePlace_29 : decode cX1_areSamePlace 29 = .ok (.aload_n 0, 1) := by decide +kernel
theorem dX1_areSamePlace_30 : decode cX1_areSamePlace 30 = .ok (.iload_n 1, 1) := by decide +kernel
theorem dX1_areSamePlace_31 : decode cX1_areSamePlace 31 = .ok (.invokevirtual 209, 3) := by decide +kernel
theorem dX1_areSamePlace_34 : decode cX1_areSamePlace 34 = .ok (.aload_n 0, 1) := by decide +kernel
theorem dX1_areSamePlace_35 : decode cX1_areSamePlace 35 = .ok (.iload_n 2, 1) := by decide +kernel
theorem dX1_areSamePlace_36 : decode cX1_areSamePlace 36 = .ok (.invokevirtual 209, 3) := by decide +kernel
theorem dX1_areSamePlace_39 : decode cX1_areSamePlace 39 = .ok (.if_icmp .ne 7, 3) := by decide +kernel
theorem dX1_areSamePlace_42 : decode cX1_areSamePlace 42 = .ok (.iconst 1, 1) := by decide +kernel
theorem dX1_areSamePlace_43 : decode cX1_areSamePlace 43 = .ok (.goto 4, 3) := by decide +kernel
theorem dX1_areSamePlace_46 : decode cX1_areSamePlace 46 = .ok (.iconst 0, 1) := by decide +kernel
theorem dX1_areSamePlace_47 : decode cX1_areSamePlace 47 = .ok (.ireturn, 1) := by decide +kernel
theorem dX1_choosePlace_0 : decode cX1_choosePlace 0 = .ok (.aload_n 0, 1) := by decide +kernel
theorem dX1_choosePlace_1 : decode cX1_choosePlace 1 = .ok (.iconst (-1), 1) := by decide +kernel
theorem dX1_choosePlace_2 : decode cX1_choosePlace 2 = .ok (.putfield 63, 3) := by decide +kernel
theorem dX1_choosePlace_5 : decode cX1_choosePlace 5 = .ok (.aload_n 0, 1) := by decide +kernel
theorem dX1_choosePlace_6 : decode cX1_choosePlace 6 = .ok (.iconst 0, 1) := by decide +kernel
theorem dX1_choosePlace_7 : decode cX1_choosePlace 7 = .ok (.putfield 66, 3) := by decide +kernel
theorem dX1_choosePlace_10 : decode cX1_choosePlace 10 = .ok (.iconst 0, 1) := by decide +kernel
theorem dX1_choosePlace_11 : decode cX1_choosePlace 11 = .ok (.istore_n 1, 1) := by decide +kernel
theorem dX1_choosePlace_12 : decode cX1_choosePlace 12 = .ok (.iload_n 1, 1) := by decide +kernel
theorem dX1_choosePlace_13 : decode cX1_choosePlace 13 = .ok (.aload_n 0, 1) := by decide +kernel
theorem dX1_choosePlace_14 : decode cX1_choosePlace 14 = .ok (.getfield 57, 3) := by decide +kernel
theorem dX1_choosePlace_17 : decode cX1_choosePlace 17 = .ok (.if_icmp .ge 81, 3) := by decide +kernel
theorem dX1_choosePlace_20 : decode cX1_choosePlace 20 = .ok (.iconst 0, 1) := by decide +kernel
theorem dX1_choosePlace_21 : decode cX1_choosePlace 21 = .ok (.istore_n 2, 1) := by decide +kernel
theorem dX1_choosePlace_22 : decode cX1_choosePlace 22 = .ok (.iconst 0, 1) := by decide +kernel
theorem dX1_choosePlace_23 : decode cX1_choosePlace 23 = .ok (.istore_n 3, 1) := by decide +kernel
theorem dX1_choosePlace_24 : decode cX1_choosePlace 24 = .ok (.iload_n 3, 1) := by decide +kernel
theorem dX1_choosePlace_25 : decode cX1_choosePlace 25 = .ok (.aload_n 0, 1) := by decide +kernel
theorem dX1_choosePlace_26 : decode cX1_choosePlace 26 = .ok (.getfield 57, 3) := by decide +kernel
theorem dX1_choosePlace_29 : decode cX1_choosePlace 29 = .ok (.if_icmp .ge 21, 3) := by decide +kernel
theorem dX1_choosePlace_32 : decode cX1_choosePlace 32 = .ok (.aload_n 0, 1) := by decide +kernel
theorem dX1_choosePlace_33 : decode cX1_choosePlace 33 = .ok (.iload_n 1, 1) := by decide +kernel
theorem dX1_choosePlace_34 : decode cX1_choosePlace 34 = .ok (.iload_n 3, 1) := by decide +kernel
theorem dX1_choosePlace_35 : decode cX1_choosePlace 35 = .ok (.invokevirtual 212, 3) := by decide +kernel
theorem dX1_choosePlace_38 : decode cX1_choosePlace 38 = .ok (.ifCond .eq 6, 3) := by decide +kernel
theorem dX1_choosePlace_41 : decode cX1_choosePlace 41 = .ok (.iinc 2 1, 3) := by decide +kernel
theorem dX1_choosePlace_44 : decode cX1_choosePlace 44 = .ok (.iinc 3 1, 3) := by decide +kernel
theorem dX1_choosePlace_47 : decode cX1_choosePlace 47 = .ok (.goto (-23), 3) := by decide +kernel
theorem dX1_choosePlace_50 : decode cX1_choosePlace 50 = .ok (.iload_n 2, 1) := by decide +kernel
theorem dX1_choosePlace_51 : decode cX1_choosePlace 51 = .ok (.aload_n 0, 1) := by decide +kernel
theorem dX1_choosePlace_52 : decode cX1_choosePlace 52 = .ok (.getfield 66, 3) := by decide +kernel
theorem dX1_choosePlace_55 : decode cX1_choosePlace 55 = .ok (.if_icmp .gt 27, 3) := by decide +kernel
theorem dX1_choosePlace_58 : decode cX1_choosePlace 58 = .ok (.iload_n 2, 1) := by decide +kernel
theorem dX1_choosePlace_59 : decode cX1_choosePlace 59 = .ok (.ifCond .le 33, 3) := by decide +kernel
theorem dX1_choosePlace_62 : decode cX1_choosePlace 62 = .ok (.iload_n 2, 1) := by decide +kernel
theorem dX1_choosePlace_63 : decode cX1_choosePlace 63 = .ok (.aload_n 0, 1) := by decide +kernel
theorem dX1_choosePlace_64 : decode cX1_choosePlace 64 = .ok (.getfield 66, 3) := by decide +kernel
theorem dX1_choosePlace_67 : decode cX1_choosePlace 67 = .ok (.if_icmp .ne 25, 3) := by decide +kernel
theorem dX1_choosePlace_70 : decode cX1_choosePlace 70 = .ok (.aload_n 0, 1) := by decide +kernel
theorem dX1_choosePlace_71 : decode cX1_choosePlace 71 = .ok (.iload_n 1, 1) := by decide +kernel
theorem dX1_choosePlace_72 : decode cX1_choosePlace 72 = .ok (.aload_n 0, 1) := by decide +kernel
theorem dX1_choosePlace_73 : decode cX1_choosePlace 73 = .ok (.getfield 63, 3) := by decide +kernel
theorem dX1_choosePlace_76 : decode cX1_choosePlace 76 = .ok (.invokevirtual 215, 3) := by decide +kernel
theorem dX1_choosePlace_79 : decode cX1_choosePlace 79 = .ok (.ifCond .eq 13, 3) := by decide +kernel
theorem dX1_choosePlace_82 : decode cX1_choosePlace 82 = .ok (.aload_n 0, 1) := by decide +kernel
theorem dX1_choosePlace_83 : decode cX1_choosePlace 83 = .ok (.iload_n 1, 1) := by decide +kernel
theorem dX1_choosePlace_84 : decode cX1_choosePlace 84 = .ok (.putfield 63, 3) := by decide +kernel
theorem dX1_choosePlace_87 : decode cX1_choosePlace 87 = .ok (.aload_n 0, 1) := by decide +kernel
theorem dX1_choosePlace_88 : decode cX1_choosePlace 88 = .ok (.iload_n 2, 1) := by decide +kernel
theorem dX1_choosePlace_89 : decode cX1_choosePlace 89 = .ok (.putfield 66, 3) := by decide +kernel
theorem dX1_choosePlace_92 : decode cX1_choosePlace 92 = .ok (.iinc 1 1, 3) := by decide +kernel
theorem dX1_choosePlace_95 : decode cX1_choosePlace 95 = .ok (.goto (-83), 3) := by decide +kernel
theorem dX1_choosePlace_98 : decode cX1_choosePlace 98 = .ok (.return_, 1) := by decide +kernel
theorem dX1_comesAhead_0 : decode cX1_comesAhead 0 = .ok (.aload_n 0, 1) := by decide +kernel
theorem dX1_comesAhead_1 : decode cX1_comesAhead 1 = .ok (.iload_n 1, 1) := by decide +kernel
theorem dX1_comesAhead_2 : decode cX1_comesAhead 2 = .ok (.invokevirtual 206, 3) := by decide +kernel
theorem dX1_comesAhead_5 : decode cX1_comesAhead 5 = .ok (.aload_n 0, 1) := by decide +kernel
theorem dX1_comesAhead_6 : decode cX1_comesAhead 6 = .ok (.iload_n 2, 1) := by decide +kernel
theorem dX1_comesAhead_7 : decode cX1_comesAhead 7 = .ok (.invokevirtual 206, 3) := by decide +kernel
theorem dX1_comesAhead_10 : decode cX1_comesAhead 10 = .ok (.if_icmp .eq 22, 3) := by decide +kernel
theorem dX1_comesAhead_13 : decode cX1_comesAhead 13 = .ok (.aload_n 0, 1) := by decide +kernel
theorem dX1_comesAhead_14 : decode cX1_comesAhead 14 = .ok (.iload_n 1, 1) := by decide +kernel
theorem dX1_comesAhead_15 : decode cX1_comesAhead 15 = .ok (.invokevirtual 206, 3) := by decide +kernel
theorem dX1_comesAhead_18 : decode cX1_comesAhead 18 = .ok (.aload_n 0, 1) := by decide +kernel
theorem dX1_comesAhead_19 : decode cX1_comesAhead 19 = .ok (.iload_n 2, 1) := by decide +kernel
theorem dX1_comesAhead_20 : decode cX1_comesAhead 20 = .ok (.invokevirtual 206, 3) := by decide +kernel
theorem dX1_comesAhead_23 : decode cX1_comesAhead 23 = .ok (.if_icmp .ge 7, 3) := by decide +kernel
theorem dX1_comesAhead_26 : decode cX1_comesAhead 26 = .ok (.iconst 1, 1) := by decide +kernel
theorem dX1_comesAhead_27 : decode cX1_comesAhead 27 = .ok (.goto 4, 3) := by decide +kernel
theorem dX1_comesAhead_30 : decode cX1_comesAhead 30 = .ok (.iconst 0, 1) := by decide +kernel
theorem dX1_comesAhead_31 : decode cX1_comesAhead 31 = .ok (.ireturn, 1) := by decide +kernel
theorem dX1_comesAhead_32 : decode cX1_comesAhead 32 = .ok (.aload_n 0, 1) := by decide +kernel
theorem dX1_comesAhead_33 : decode cX1_comesAhead 33 = .ok (.iload_n 1, 1) := by decide +kernel
theorem dX1_comesAhead_34 : decode cX1_comesAhead 34 = .ok (.invokevirtual 209, 3) := by decide +kernel
theorem dX1_comesAhead_37 : decode cX1_comesAhead 37 = .ok (.aload_n 0, 1) := by decide +kernel
theorem dX1_comesAhead_38 : decode cX1_comesAhead 38 = .ok (.iload_n 2, 1) := by decide +kernel
theorem dX1_comesAhead_39 : decode cX1_comesAhead 39 = .ok (.invokevirtual 209, 3) := by decide +kernel
theorem dX1_comesAhead_42 : decode cX1_comesAhead 42 = .ok (.if_icmp .ge 7, 3) := by decide +kernel
theorem dX1_comesAhead_45 : decode cX1_comesAhead 45 = .ok (.iconst 1, 1) := by decide +kernel
theorem dX1_comesAhead_46 : decode cX1_comesAhead 46 = .ok (.goto 4, 3) := by decide +kernel
theorem dX1_comesAhead_49 : decode cX1_comesAhead 49 = .ok (.iconst 0, 1) := by decide +kernel
theorem dX1_comesAhead_50 : decode cX1_comesAhead 50 = .ok (.ireturn, 1) := by decide +kernel
theorem dX1_worth_0 : decode cX1_worth 0 = .ok (.aload_n 0, 1) := by decide +kernel
theorem dX1_worth_1 : decode cX1_worth 1 = .ok (.getfield 57, 3) := by decide +kernel
theorem dX1_worth_4 : decode cX1_worth 4 = .ok (.ifCond .ne 7, 3) := by decide +kernel
theorem dX1_worth_7 : decode cX1_worth 7 = .ok (.iconst (-1), 1) := by decide +kernel
theorem dX1_worth_8 : decode cX1_worth 8 = .ok (.goto 28, 3) := by decide +kernel
theorem dX1_worth_11 : decode cX1_worth 11 = .ok (.aload_n 0, 1) := by decide +kernel
theorem dX1_worth_12 : decode cX1_worth 12 = .ok (.getfield 42, 3) := by decide +kernel
theorem dX1_worth_15 : decode cX1_worth 15 = .ok (.getfield 218, 3) := by decide +kernel
theorem dX1_worth_18 : decode cX1_worth 18 = .ok (.aload_n 0, 1) := by decide +kernel
theorem dX1_worth_19 : decode cX1_worth 19 = .ok (.getfield 66, 3) := by decide +kernel
theorem dX1_worth_22 : decode cX1_worth 22 = .ok (.imul, 1) := by decide +kernel
theorem dX1_worth_23 : decode cX1_worth 23 = .ok (.aload_n 0, 1) := by decide +kernel
theorem dX1_worth_24 : decode cX1_worth 24 = .ok (.getfield 57, 3) := by decide +kernel
theorem dX1_worth_27 : decode cX1_worth 27 = .ok (.idiv, 1) := by decide +kernel
theorem dX1_worth_28 : decode cX1_worth 28 = .ok (.aload_n 0, 1) := by decide +kernel
theorem dX1_worth_29 : decode cX1_worth 29 = .ok (.getfield 42, 3) := by decide +kernel
theorem dX1_worth_32 : decode cX1_worth 32 = .ok (.getfield 221, 3) := by decide +kernel
theorem dX1_worth_35 : decode cX1_worth 35 = .ok (.isub, 1) := by decide +kernel
theorem dX1_worth_36 : decode cX1_worth 36 = .ok (.ireturn, 1) := by decide +kernel
theorem dX1_unlikePlaces_0 : decode cX1_unlikePlaces 0 = .ok (.iconst 0, 1) := by decide +kernel
theorem dX1_unlikePlaces_1 : decode cX1_unlikePlaces 1 = .ok (.istore_n 1, 1) := by decide +kernel
theorem dX1_unlikePlaces_2 : decode cX1_unlikePlaces 2 = .ok (.iconst 0, 1) := by decide +kernel
theorem dX1_unlikePlaces_3 : decode cX1_unlikePlaces 3 = .ok (.istore_n 2, 1) := by decide +kernel
theorem dX1_unlikePlaces_4 : decode cX1_unlikePlaces 4 = .ok (.iload_n 2, 1) := by decide +kernel
theorem dX1_unlikePlaces_5 : decode cX1_unlikePlaces 5 = .ok (.aload_n 0, 1) := by decide +kernel
theorem dX1_unlikePlaces_6 : decode cX1_unlikePlaces 6 = .ok (.getfield 57, 3) := by decide +kernel
theorem dX1_unlikePlaces_9 : decode cX1_unlikePlaces 9 = .ok (.if_icmp .ge 68, 3) := by decide +kernel
theorem dX1_unlikePlaces_12 : decode cX1_unlikePlaces 12 = .ok (.aload_n 0, 1) := by decide +kernel
theorem dX1_unlikePlaces_13 : decode cX1_unlikePlaces 13 = .ok (.iload_n 2, 1) := by decide +kernel
theorem dX1_unlikePlaces_14 : decode cX1_unlikePlaces 14 = .ok (.invokevirtual 203, 3) := by decide +kernel
theorem dX1_unlikePlaces_17 : decode cX1_unlikePlaces 17 = .ok (.ifCond .ne 5, 3) := by decide +kernel
theorem dX1_unlikePlaces_20 : decode cX1_unlikePlaces 20 = .ok (.iconst (-1), 1) := by decide +kernel
theorem dX1_unlikePlaces_21 : decode cX1_unlikePlaces 21 = .ok (.ireturn, 1) := by decide +kernel
theorem dX1_unlikePlaces_22 : decode cX1_unlikePlaces 22 = .ok (.iconst 1, 1) := by decide +kernel
theorem dX1_unlikePlaces_23 : decode cX1_unlikePlaces 23 = .ok (.istore_n 3, 1) := by decide +kernel
theorem dX1_unlikePlaces_24 : decode cX1_unlikePlaces 24 = .ok (.iconst 0, 1) := by decide +kernel
theorem dX1_unlikePlaces_25 : decode cX1_unlikePlaces 25 = .ok (.istore 4, 2) := by decide +kernel
theorem dX1_unlikePlaces_27 : decode cX1_unlikePlaces 27 = .ok (.iload 4, 2) := by decide +kernel
theorem dX1_unlikePlaces_29 : decode cX1_unlikePlaces 29 = .ok (.iload_n 2, 1) := by decide +kernel
theorem dX1_unlikePlaces_30 : decode cX1_unlikePlaces 30 = .ok (.if_icmp .ge 29, 3) := by decide +kernel
theorem dX1_unlikePlaces_33 : decode cX1_unlikePlaces 33 = .ok (.iload_n 3, 1) := by decide +kernel
theorem dX1_unlikePlaces_34 : decode cX1_unlikePlaces 34 = .ok (.ifCond .eq 17, 3) := by decide +kernel
theorem dX1_unlikePlaces_37 : decode cX1_unlikePlaces 37 = .ok (.aload_n 0, 1) := by decide +kernel
theorem dX1_unlikePlaces_38 : decode cX1_unlikePlaces 38 = .ok (.iload_n 2, 1) := by decide +kernel
theorem dX1_unlikePlaces_39 : decode cX1_unlikePlaces 39 = .ok (.iload 4, 2) := by decide +kernel
theorem dX1_unlikePlaces_41 : decode cX1_unlikePlaces 41 = .ok (.invokevirtual 212, 3) := by decide +kernel
theorem dX1_unlikePlaces_44 : decode cX1_unlikePlaces 44 = .ok (.ifCond .ne 7, 3) := by decide +kernel
theorem dX1_unlikePlaces_47 : decode cX1_unlikePlaces 47 = .ok (.iconst 1, 1) := by decide +kernel
theorem dX1_unlikePlaces_48 : decode cX1_unlikePlaces 48 = .ok (.goto 4, 3) := by decide +kernel
theorem dX1_unlikePlaces_51 : decode cX1_unlikePlaces 51 = .ok (.iconst 0, 1) := by decide +kernel
theorem dX1_unlikePlaces_52 : decode cX1_unlikePlaces 52 = .ok (.istore_n 3, 1) := by decide +kernel
theorem dX1_unlikePlaces_53 : decode cX1_unlikePlaces 53 = .ok (.iinc 4 1, 3) := by decide +kernel
theorem dX1_unlikePlaces_56 : decode cX1_unlikePlaces 56 = .ok (.goto (-29), 3) := by decide +kernel
theorem dX1_unlikePlaces_59 : decode cX1_unlikePlaces 59 = .ok (.iload_n 1, 1) := by decide +kernel
theorem dX1_unlikePlaces_60 : decode cX1_unlikePlaces 60 = .ok (.iload_n 3, 1) := by decide +kernel
theorem dX1_unlikePlaces_61 : decode cX1_unlikePlaces 61 = .ok (.ifCond .eq 7, 3) := by decide +kernel
theorem dX1_unlikePlaces_64 : decode cX1_unlikePlaces 64 = .ok (.iconst 1, 1) := by decide +kernel
theorem dX1_unlikePlaces_65 : decode cX1_unlikePlaces 65 = .ok (.goto 4, 3) := by decide +kernel
theorem dX1_unlikePlaces_68 : decode cX1_unlikePlaces 68 = .ok (.iconst 0, 1) := by decide +kernel
theorem dX1_unlikePlaces_69 : decode cX1_unlikePlaces 69 = .ok (.iadd, 1) := by decide +kernel
theorem dX1_unlikePlaces_70 : decode cX1_unlikePlaces 70 = .ok (.istore_n 1, 1) := by decide +kernel
theorem dX1_unlikePlaces_71 : decode cX1_unlikePlaces 71 = .ok (.iinc 2 1, 3) := by decide +kernel
theorem dX1_unlikePlaces_74 : decode cX1_unlikePlaces 74 = .ok (.goto (-70), 3) := by decide +kernel
theorem dX1_unlikePlaces_77 : decode cX1_unlikePlaces 77 = .ok (.aload_n 0, 1) := by decide +kernel
theorem dX1_unlikePlaces_78 : decode cX1_unlikePlaces 78 = .ok (.getfield 57, 3) := by decide +kernel
theorem dX1_unlikePlaces_81 : decode cX1_unlikePlaces 81 = .ok (.ifCond .ne 7, 3) := by decide +kernel
theorem dX1_unlikePlaces_84 : decode cX1_unlikePlaces 84 = .ok (.iconst (-1), 1) := by decide +kernel
theorem dX1_unlikePlaces_85 : decode cX1_unlikePlaces 85 = .ok (.goto 4, 3) := by decide +kernel
theorem dX1_unlikePlaces_88 : decode cX1_unlikePlaces 88 = .ok (.iload_n 1, 1) := by decide +kernel
theorem dX1_unlikePlaces_89 : decode cX1_unlikePlaces 89 = .ok (.ireturn, 1) := by decide +kernel
theorem dX1_ofHundred_0 : decode cX1_ofHundred 0 = .ok (.aload_n 0, 1) := by decide +kernel
theorem dX1_ofHundred_1 : decode cX1_ofHundred 1 = .ok (.getfield 57, 3) := by decide +kernel
theorem dX1_ofHundred_4 : decode cX1_ofHundred 4 = .ok (.ifCond .ne 5, 3) := by decide +kernel
theorem dX1_ofHundred_7 : decode cX1_ofHundred 7 = .ok (.iconst (-1), 1) := by decide +kernel
theorem dX1_ofHundred_8 : decode cX1_ofHundred 8 = .ok (.ireturn, 1) := by decide +kernel
theorem dX1_ofHundred_9 : decode cX1_ofHundred 9 = .ok (.iconst 0, 1) := by decide +kernel
theorem dX1_ofHundred_10 : decode cX1_ofHundred 10 = .ok (.istore_n 3, 1) := by decide +kernel
theorem dX1_ofHundred_11 : decode cX1_ofHundred 11 = .ok (.iconst 0, 1) := by decide +kernel
theorem dX1_ofHundred_12 : decode cX1_ofHundred 12 = .ok (.istore 4, 2) := by decide +kernel
theorem dX1_ofHundred_14 : decode cX1_ofHundred 14 = .ok (.iload 4, 2) := by decide +kernel
theorem dX1_ofHundred_16 : decode cX1_ofHundred 16 = .ok (.aload_n 0, 1) := by decide +kernel
theorem dX1_ofHundred_17 : decode cX1_ofHundred 17 = .ok (.getfield 57, 3) := by decide +kernel
theorem dX1_ofHundred_20 : decode cX1_ofHundred 20 = .ok (.if_icmp .ge 27, 3) := by decide +kernel
theorem dX1_ofHundred_23 : decode cX1_ofHundred 23 = .ok (.aload_n 0, 1) := by decide +kernel
theorem dX1_ofHundred_24 : decode cX1_ofHundred 24 = .ok (.getfield 33, 3) := by decide +kernel
theorem dX1_ofHundred_27 : decode cX1_ofHundred 27 = .ok (.iload 4, 2) := by decide +kernel
theorem dX1_ofHundred_29 : decode cX1_ofHundred 29 = .ok (.iaload, 1) := by decide +kernel
theorem dX1_ofHundred_30 : decode cX1_ofHundred 30 = .ok (.iload_n 1, 1) := by decide +kernel
theorem dX1_ofHundred_31 : decode cX1_ofHundred 31 = .ok (.invokestatic 105, 3) := by decide +kernel
theorem dX1_ofHundred_34 : decode cX1_ofHundred 34 = .ok (.iload_n 2, 1) := by decide +kernel
theorem dX1_ofHundred_35 : decode cX1_ofHundred 35 = .ok (.if_icmp .ne 6, 3) := by decide +kernel
theorem dX1_ofHundred_38 : decode cX1_ofHundred 38 = .ok (.iinc 3 1, 3) := by decide +kernel
theorem dX1_ofHundred_41 : decode cX1_ofHundred 41 = .ok (.iinc 4 1, 3) := by decide +kernel
theorem dX1_ofHundred_44 : decode cX1_ofHundred 44 = .ok (.goto (-30), 3) := by decide +kernel
theorem dX1_ofHundred_47 : decode cX1_ofHundred 47 = .ok (.bipush 100, 2) := by decide +kernel
theorem dX1_ofHundred_49 : decode cX1_ofHundred 49 = .ok (.iload_n 3, 1) := by decide +kernel
theorem dX1_ofHundred_50 : decode cX1_ofHundred 50 = .ok (.imul, 1) := by decide +kernel
theorem dX1_ofHundred_51 : decode cX1_ofHundred 51 = .ok (.aload_n 0, 1) := by decide +kernel
theorem dX1_ofHundred_52 : decode cX1_ofHundred 52 = .ok (.getfield 57, 3) := by decide +kernel
theorem dX1_ofHundred_55 : decode cX1_ofHundred 55 = .ok (.idiv, 1) := by decide +kernel
theorem dX1_ofHundred_56 : decode cX1_ofHundred 56 = .ok (.ireturn, 1) := by decide +kernel
theorem dX2_init_0 : decode cX2_init 0 = .ok (.aload_n 0, 1) := by decide +kernel
theorem dX2_init_1 : decode cX2_init 1 = .ok (.invokespecial 3, 3) := by decide +kernel
theorem dX2_init_4 : decode cX2_init 4 = .ok (.aload_n 0, 1) := by decide +kernel
theorem dX2_init_5 : decode cX2_init 5 = .ok (.bipush 7, 2) := by decide +kernel
theorem dX2_init_7 : decode cX2_init 7 = .ok (.newarray .int, 2) := by decide +kernel
theorem dX2_init_9 : decode cX2_init 9 = .ok (.putfield 11, 3) := by decide +kernel
theorem dX2_init_12 : decode cX2_init 12 = .ok (.aload_n 0, 1) := by decide +kernel
theorem dX2_init_13 : decode cX2_init 13 = .ok (.iconst 4, 1) := by decide +kernel
theorem dX2_init_14 : decode cX2_init 14 = .ok (.newarray .int, 2) := by decide +kernel
theorem dX2_init_16 : decode cX2_init 16 = .ok (.putfield 15, 3) := by decide +kernel
theorem dX2_init_19 : decode cX2_init 19 = .ok (.aload_n 0, 1) := by decide +kernel
theorem dX2_init_20 : decode cX2_init 20 = .ok (.bipush 6, 2) := by decide +kernel
theorem dX2_init_22 : decode cX2_init 22 = .ok (.newarray .int, 2) := by decide +kernel
theorem dX2_init_24 : decode cX2_init 24 = .ok (.putfield 18, 3) := by decide +kernel
theorem dX2_init_27 : decode cX2_init 27 = .ok (.aload_n 0, 1) := by decide +kernel
theorem dX2_init_28 : decode cX2_init 28 = .ok (.iconst 0, 1) := by decide +kernel
theorem dX2_init_29 : decode cX2_init 29 = .ok (.newarray .byte, 2) := by decide +kernel
theorem dX2_init_31 : decode cX2_init 31 = .ok (.putfield 21, 3) := by decide +kernel
theorem dX2_init_34 : decode cX2_init 34 = .ok (.aload_n 0, 1) := by decide +kernel
theorem dX2_init_35 : decode cX2_init 35 = .ok (.iconst 0, 1) := by decide +kernel
theorem dX2_init_36 : decode cX2_init 36 = .ok (.putfield 25, 3) := by decide +kernel
theorem dX2_init_39 : decode cX2_init 39 = .ok (.aload_n 0, 1) := by decide +kernel
theorem dX2_init_40 : decode cX2_init 40 = .ok (.iconst 0, 1) := by decide +kernel
theorem dX2_init_41 : decode cX2_init 41 = .ok (.putfield 29, 3) := by decide +kernel
theorem dX2_init_44 : decode cX2_init 44 = .ok (.aload_n 0, 1) := by decide +kernel
theorem dX2_init_45 : decode cX2_init 45 = .ok (.iconst 0, 1) := by decide +kernel
theorem dX2_init_46 : decode cX2_init 46 = .ok (.putfield 32, 3) := by decide +kernel
theorem dX2_init_49 : decode cX2_init 49 = .ok (.return_, 1) := by decide +kernel
theorem dX2_read_0 : decode cX2_read 0 = .ok (.aload_n 0, 1) := by decide +kernel
theorem dX2_read_1 : decode cX2_read 1 = .ok (.aload_n 1, 1) := by decide +kernel
theorem dX2_read_2 : decode cX2_read 2 = .ok (.putfield 21, 3) := by decide +kernel
theorem dX2_read_5 : decode cX2_read 5 = .ok (.aload_n 0, 1) := by decide +kernel
theorem dX2_read_6 : decode cX2_read 6 = .ok (.iload_n 2, 1) := by decide +kernel
theorem dX2_read_7 : decode cX2_read 7 = .ok (.aload_n 1, 1) := by decide +kernel
theorem dX2_read_8 : decode cX2_read 8 = .ok (.arraylength, 1) := by decide +kernel
theorem dX2_read_9 : decode cX2_read 9 = .ok (.invokestatic 35, 3) := by decide +kernel
theorem dX2_read_12 : decode cX2_read 12 = .ok (.putfield 25, 3) := by decide +kernel
theorem dX2_read_15 : decode cX2_read 15 = .ok (.aload_n 0, 1) := by decide +kernel
theorem dX2_read_16 : decode cX2_read 16 = .ok (.iconst 0, 1) := by decide +kernel
theorem dX2_read_17 : decode cX2_read 17 = .ok (.putfield 29, 3) := by decide +kernel
theorem dX2_read_20 : decode cX2_read 20 = .ok (.aload_n 0, 1) := by decide +kernel
theorem dX2_read_21 : decode cX2_read 21 = .ok (.getfield 11, 3) := by decide +kernel
theorem dX2_read_24 : decode cX2_read 24 = .ok (.iconst 0, 1) := by decide +kernel
theorem dX2_read_25 : decode cX2_read 25 = .ok (.invokestatic 41, 3) := by decide +kernel
theorem dX2_read_28 : decode cX2_read 28 = .ok (.aload_n 0, 1) := by decide +kernel
theorem dX2_read_29 : decode cX2_read 29 = .ok (.getfield 18, 3) := by decide +kernel
theorem dX2_read_32 : decode cX2_read 32 = .ok (.iconst 0, 1) := by decide +kernel
theorem dX2_read_33 : decode cX2_read 33 = .ok (.invokestatic 41, 3) := by decide +kernel
theorem dX2_read_36 : decode cX2_read 36 = .ok (.aload_n 3, 1) := by decide +kernel
theorem dX2_read_37 : decode cX2_read 37 = .ok (.invokevirtual 47, 3) := by decide +kernel
theorem dX2_read_40 : decode cX2_read 40 = .ok (.aload_n 0, 1) := by decide +kernel
theorem dX2_read_41 : decode cX2_read 41 = .ok (.invokevirtual 52, 3) := by decide +kernel
theorem dX2_read_44 : decode cX2_read 44 = .ok (.iconst 0, 1) := by decide +kernel
theorem dX2_read_45 : decode cX2_read 45 = .ok (.istore 4, 2) := by decide +kernel
theorem dX2_read_47 : decode cX2_read 47 = .ok (.iload 4, 2) := by decide +kernel
theorem dX2_read_49 : decode cX2_read 49 = .ok (.sipush 400, 3) := by decide +kernel
theorem dX2_read_52 : decode cX2_read 52 = .ok (.if_icmp .ge 39, 3) := by decide +kernel
theorem dX2_read_55 : decode cX2_read 55 = .ok (.aload_n 0, 1) := by decide +kernel
theorem dX2_read_56 : decode cX2_read 56 = .ok (.getfield 29, 3) := by decide +kernel
theorem dX2_read_59 : decode cX2_read 59 = .ok (.aload_n 0, 1) := by decide +kernel
theorem dX2_read_60 : decode cX2_read 60 = .ok (.getfield 25, 3) := by decide +kernel
theorem dX2_read_63 : decode cX2_read 63 = .ok (.if_icmp .ge 28, 3) := by decide +kernel
theorem dX2_read_66 : decode cX2_read 66 = .ok (.aload_n 0, 1) := by decide +kernel
theorem dX2_read_67 : decode cX2_read 67 = .ok (.aload_n 3, 1) := by decide +kernel
theorem dX2_read_68 : decode cX2_read 68 = .ok (.invokevirtual 55, 3) := by decide +kernel
theorem dX2_read_71 : decode cX2_read 71 = .ok (.istore 5, 2) := by decide +kernel
theorem dX2_read_73 : decode cX2_read 73 = .ok (.iload 5, 2) := by decide +kernel
theorem dX2_read_75 : decode cX2_read 75 = .ok (.ifCond .eq 6, 3) := by decide +kernel
theorem dX2_read_78 : decode cX2_read 78 = .ok (.iload 5, 2) := by decide +kernel
theorem dX2_read_80 : decode cX2_read 80 = .ok (.ireturn, 1) := by decide +kernel
theorem dX2_read_81 : decode cX2_read 81 = .ok (.aload_n 0, 1) := by decide +kernel
theorem dX2_read_82 : decode cX2_read 82 = .ok (.invokevirtual 52, 3) := by decide +kernel
theorem dX2_read_85 : decode cX2_read 85 = .ok (.iinc 4 1, 3) := by decide +kernel
theorem dX2_read_88 : decode cX2_read 88 = .ok (.goto (-41), 3) := by decide +kernel
theorem dX2_read_91 : decode cX2_read 91 = .ok (.iconst 0, 1) := by decide +kernel
theorem dX2_read_92 : decode cX2_read 92 = .ok (.ireturn, 1) := by decide +kernel
theorem dX2_toNext_0 : decode cX2_toNext 0 = .ok (.aload_n 0, 1) := by decide +kernel
theorem dX2_toNext_1 : decode cX2_toNext 1 = .ok (.getfield 29, 3) := by decide +kernel
theorem dX2_toNext_4 : decode cX2_toNext 4 = .ok (.aload_n 0, 1) := by decide +kernel
theorem dX2_toNext_5 : decode cX2_toNext 5 = .ok (.getfield 25, 3) := by decide +kernel
theorem dX2_toNext_8 : decode cX2_toNext 8 = .ok (.if_icmp .ge 30, 3) := by decide +kernel
theorem dX2_toNext_11 : decode cX2_toNext 11 = .ok (.aload_n 0, 1) := by decide +kernel
theorem dX2_toNext_12 : decode cX2_toNext 12 = .ok (.getfield 21, 3) := by decide +kernel
theorem dX2_toNext_15 : decode cX2_toNext 15 = .ok (.aload_n 0, 1) := by decide +kernel
theorem dX2_toNext_16 : decode cX2_toNext 16 = .ok (.getfield 29, 3) := by decide +kernel
theorem dX2_toNext_19 : decode cX2_toNext 19 = .ok (.baload, 1) := by decide +kernel
theorem dX2_toNext_20 : decode cX2_toNext 20 = .ok (.bipush 32, 2) := by decide +kernel
theorem dX2_toNext_22 : decode cX2_toNext 22 = .ok (.if_icmp .ne 16, 3) := by decide +kernel
theorem dX2_toNext_25 : decode cX2_toNext 25 = .ok (.aload_n 0, 1) := by decide +kernel
theorem dX2_toNext_26 : decode cX2_toNext 26 = .ok (.dup, 1) := by decide +kernel
theorem dX2_toNext_27 : decode cX2_toNext 27 = .ok (.getfield 29, 3) := by decide +kernel
theorem dX2_toNext_30 : decode cX2_toNext 30 = .ok (.iconst 1, 1) := by decide +kernel
theorem dX2_toNext_31 : decode cX2_toNext 31 = .ok (.iadd, 1) := by decide +kernel
theorem dX2_toNext_32 : decode cX2_toNext 32 = .ok (.putfield 29, 3) := by decide +kernel
theorem dX2_toNext_35 : decode cX2_toNext 35 = .ok (.goto (-35), 3) := by decide +kernel
theorem dX2_toNext_38 : decode cX2_toNext 38 = .ok (.aload_n 0, 1) := by decide +kernel
theorem dX2_toNext_39 : decode cX2_toNext 39 = .ok (.aload_n 0, 1) := by decide +kernel
theorem dX2_toNext_40 : decode cX2_toNext 40 = .ok (.getfield 29, 3) := by decide +kernel
theorem dX2_toNext_43 : decode cX2_toNext 43 = .ok (.putfield 32, 3) := by decide +kernel
theorem dX2_toNext_46 : decode cX2_toNext 46 = .ok (.return_, 1) := by decide +kernel
theorem dX2_readClause_0 : decode cX2_readClause 0 = .ok (.aload_n 0, 1) := by decide +kernel
theorem dX2_readClause_1 : decode cX2_readClause 1 = .ok (.invokevirtual 59, 3) := by decide +kernel
theorem dX2_readClause_4 : decode cX2_readClause 4 = .ok (.istore_n 2, 1) := by decide +kernel
theorem dX2_readClause_5 : decode cX2_readClause 5 = .ok (.iload_n 2, 1) := by decide +kernel
theorem dX2_readClause_6 : decode cX2_readClause 6 = .ok (.iconst (-1), 1) := by decide +kernel
theorem dX2_readClause_7 : decode cX2_readClause 7 = .ok (.if_icmp .eq 11, 3) := by decide +kernel
theorem dX2_readClause_10 : decode cX2_readClause 10 = .ok (.aload_n 0, 1) := by decide +kernel
theorem dX2_readClause_11 : decode cX2_readClause 11 = .ok (.iload_n 2, 1) := by decide +kernel
theorem dX2_readClause_12 : decode cX2_readClause 12 = .ok (.invokevirtual 63, 3) := by decide +kernel
theorem dX2_readClause_15 : decode cX2_readClause 15 = .ok (.ifCond .eq 5, 3) := by decide +kernel
theorem dX2_readClause_18 : decode cX2_readClause 18 = .ok (.iconst 1, 1) := by decide +kernel
theorem dX2_readClause_19 : decode cX2_readClause 19 = .ok (.ireturn, 1) := by decide +kernel
theorem dX2_readClause_20 : decode cX2_readClause 20 = .ok (.aload_n 0, 1) := by decide +kernel
theorem dX2_readClause_21 : decode cX2_readClause 21 = .ok (.getfield 11, 3) := by decide +kernel
theorem dX2_readClause_24 : decode cX2_readClause 24 = .ok (.iload_n 2, 1) := by decide +kernel
theorem dX2_readClause_25 : decode cX2_readClause 25 = .ok (.iaload, 1) := by decide +kernel
theorem dX2_readClause_26 : decode cX2_readClause 26 = .ok (.getstatic 67, 3) := by decide +kernel
theorem dX2_readClause_29 : decode cX2_readClause 29 = .ok (.iload_n 2, 1) := by decide +kernel
theorem dX2_readClause_30 : decode cX2_readClause 30 = .ok (.iaload, 1) := by decide +kernel
theorem dX2_readClause_31 : decode cX2_readClause 31 = .ok (.if_icmp .lt 5, 3) := by decide +kernel
theorem dX2_readClause_34 : decode cX2_readClause 34 = .ok (.iconst 3, 1) := by decide +kernel
theorem dX2_readClause_35 : decode cX2_readClause 35 = .ok (.ireturn, 1) := by decide +kernel
theorem dX2_readClause_36 : decode cX2_readClause 36 = .ok (.aload_n 0, 1) := by decide +kernel
theorem dX2_readClause_37 : decode cX2_readClause 37 = .ok (.getfield 11, 3) := by decide +kernel
theorem dX2_readClause_40 : decode cX2_readClause 40 = .ok (.iload_n 2, 1) := by decide +kernel
theorem dX2_readClause_41 : decode cX2_readClause 41 = .ok (.dup2, 1) := by decide +kernel
theorem dX2_readClause_42 : decode cX2_readClause 42 = .ok (.iaload, 1) := by decide +kernel
theorem dX2_readClause_43 : decode cX2_readClause 43 = .ok (.iconst 1, 1) := by decide +kernel
theorem dX2_readClause_44 : decode cX2_readClause 44 = .ok (.iadd, 1) := by decide +kernel
theorem dX2_readClause_45 : decode cX2_readClause 45 = .ok (.iastore, 1) := by decide +kernel
theorem dX2_readClause_46 : decode cX2_readClause 46 = .ok (.iconst 0, 1) := by decide +kernel
theorem dX2_readClause_47 : decode cX2_readClause 47 = .ok (.istore_n 3, 1) := by decide +kernel
theorem dX2_readClause_48 : decode cX2_readClause 48 = .ok (.iload_n 3, 1) := by decide +kernel
theorem dX2_readClause_49 : decode cX2_readClause 49 = .ok (.getstatic 70, 3) := by decide +kernel
theorem dX2_readClause_52 : decode cX2_readClause 52 = .ok (.iload_n 2, 1) := by decide +kernel
theorem dX2_readClause_53 : decode cX2_readClause 53 = .ok (.iaload, 1) := by decide +kernel
theorem dX2_readClause_54 : decode cX2_readClause 54 = .ok (.if_icmp .ge 54, 3) := by decide +kernel
theorem dX2_readClause_57 : decode cX2_readClause 57 = .ok (.aload_n 0, 1) := by decide +kernel
theorem dX2_readClause_58 : decode cX2_readClause 58 = .ok (.invokevirtual 52, 3) := by decide +kernel
theorem dX2_readClause_61 : decode cX2_readClause 61 = .ok (.aload_n 0, 1) := by decide +kernel
theorem dX2_readClause_62 : decode cX2_readClause 62 = .ok (.invokevirtual 73, 3) := by decide +kernel
theorem dX2_readClause_65 : decode cX2_readClause 65 = .ok (.istore 4, 2) := by decide +kernel
theorem dX2_readClause_67 : decode cX2_readClause 67 = .ok (.iload 4, 2) := by decide +kernel
theorem dX2_readClause_69 : decode cX2_readClause 69 = .ok (.iconst (-1), 1) := by decide +kernel
theorem dX2_readClause_70 : decode cX2_readClause 70 = .ok (.if_icmp .ne 5, 3) := by decide +kernel
theorem dX2_readClause_73 : decode cX2_readClause 73 = .ok (.iconst 1, 1) := by decide +kernel
theorem dX2_readClause_74 : decode cX2_readClause 74 = .ok (.ireturn, 1) := by decide +kernel
theorem dX2_readClause_75 : decode cX2_readClause 75 = .ok (.aload_n 0, 1) := by decide +kernel
theorem dX2_readClause_76 : decode cX2_readClause 76 = .ok (.iload_n 2, 1) := by decide +kernel
theorem dX2_readClause_77 : decode cX2_readClause 77 = .ok (.iload_n 3, 1) := by decide +kernel
theorem dX2_readClause_78 : decode cX2_readClause 78 = .ok (.iload 4, 2) := by decide +kernel
theorem dX2_readClause_80 : decode cX2_readClause 80 = .ok (.aload_n 1, 1) := by decide +kernel
theorem dX2_readClause_81 : decode cX2_readClause 81 = .ok (.invokevirtual 76, 3) := by decide +kernel
theorem dX2_readClause_84 : decode cX2_readClause 84 = .ok (.istore 5, 2) := by decide +kernel
theorem dX2_readClause_86 : decode cX2_readClause 86 = .ok (.iload 5, 2) := by decide +kernel
theorem dX2_readClause_88 : decode cX2_readClause 88 = .ok (.ifCond .eq 6, 3) := by decide +kernel
theorem dX2_readClause_91 : decode cX2_readClause 91 = .ok (.iload 5, 2) := by decide +kernel
theorem dX2_readClause_93 : decode cX2_readClause 93 = .ok (.ireturn, 1) := by decide +kernel
theorem dX2_readClause_94 : decode cX2_readClause 94 = .ok (.aload_n 0, 1) := by decide +kernel
theorem dX2_readClause_95 : decode cX2_readClause 95 = .ok (.getfield 15, 3) := by decide +kernel
theorem dX2_readClause_98 : decode cX2_readClause 98 = .ok (.iload_n 3, 1) := by decide +kernel
theorem dX2_readClause_99 : decode cX2_readClause 99 = .ok (.iload 4, 2) := by decide +kernel
theorem dX2_readClause_101 : decode cX2_readClause 101 = .ok (.iastore, 1) := by decide +kernel
theorem dX2_readClause_102 : decode cX2_readClause 102 = .ok (.iinc 3 1, 3) := by decide +kernel
theorem dX2_readClause_105 : decode cX2_readClause 105 = .ok (.goto (-57), 3) := by decide +kernel
theorem dX2_readClause_108 : decode cX2_readClause 108 = .ok (.aload_n 0, 1) := by decide +kernel
theorem dX2_readClause_109 : decode cX2_readClause 109 = .ok (.invokevirtual 52, 3) := by decide +kernel
theorem dX2_readClause_112 : decode cX2_readClause 112 = .ok (.aload_n 0, 1) := by decide +kernel
theorem dX2_readClause_113 : decode cX2_readClause 113 = .ok (.getfield 29, 3) := by decide +kernel
theorem dX2_readClause_116 : decode cX2_readClause 116 = .ok (.aload_n 0, 1) := by decide +kernel
theorem dX2_readClause_117 : decode cX2_readClause 117 = .ok (.getfield 25, 3) := by decide +kernel
theorem dX2_readClause_120 : decode cX2_readClause 120 = .ok (.if_icmp .ge 17, 3) := by decide +kernel
theorem dX2_readClause_123 : decode cX2_readClause 123 = .ok (.aload_n 0, 1) := by decide +kernel
theorem dX2_readClause_124 : decode cX2_readClause 124 = .ok (.getfield 21, 3) := by decide +kernel
theorem dX2_readClause_127 : decode cX2_readClause 127 = .ok (.aload_n 0, 1) := by decide +kernel
theorem dX2_readClause_128 : decode cX2_readClause 128 = .ok (.getfield 29, 3) := by decide +kernel
theorem dX2_readClause_131 : decode cX2_readClause 131 = .ok (.baload, 1) := by decide +kernel
theorem dX2_readClause_132 : decode cX2_readClause 132 = .ok (.bipush 59, 2) := by decide +kernel
theorem dX2_readClause_134 : decode cX2_readClause 134 = .ok (.if_icmp .eq 5, 3) := by decide +kernel
theorem dX2_readClause_137 : decode cX2_readClause 137 = .ok (.iconst 1, 1) := by decide +kernel
theorem dX2_readClause_138 : decode cX2_readClause 138 = .ok (.ireturn, 1) := by decide +kernel
theorem dX2_readClause_139 : decode cX2_readClause 139 = .ok (.aload_n 0, 1) := by decide +kernel
theorem dX2_readClause_140 : decode cX2_readClause 140 = .ok (.dup, 1) := by decide +kernel
theorem dX2_readClause_141 : decode cX2_readClause 141 = .ok (.getfield 29, 3) := by decide +kernel
theorem dX2_readClause_144 : decode cX2_readClause 144 = .ok (.iconst 1, 1) := by decide +kernel
theorem dX2_readClause_145 : decode cX2_readClause 145 = .ok (.iadd, 1) := by decide +kernel
theorem dX2_readClause_146 : decode cX2_readClause 146 = .ok (.putfield 29, 3) := by decide +kernel
theorem dX2_readClause_149 : decode cX2_readClause 149 = .ok (.aload_n 0, 1) := by decide +kernel
theorem dX2_readClause_150 : decode cX2_readClause 150 = .ok (.iload_n 2, 1) := by decide +kernel
theorem dX2_readClause_151 : decode cX2_readClause 151 = .ok (.aload_n 1, 1) := by decide +kernel
theorem dX2_readClause_152 : decode cX2_readClause 152 = .ok (.invokevirtual 80, 3) := by decide +kernel
theorem dX2_readClause_155 : decode cX2_readClause 155 = .ok (.iconst 0, 1) := by decide +kernel
theorem dX2_readClause_156 : decode cX2_readClause 156 = .ok (.ireturn, 1) := by decide +kernel
theorem dX2_readWord_0 : decode cX2_readWord 0 = .ok (.aload_n 0, 1) := by decide +kernel
theorem dX2_readWord_1 : decode cX2_readWord 1 = .ok (.getfield 29, 3) := by decide +kernel
theorem dX2_readWord_4 : decode cX2_readWord 4 = .ok (.aload_n 0, 1) := by decide +kernel
theorem dX2_readWord_5 : decode cX2_readWord 5 = .ok (.getfield 25, 3) := by decide +kernel
theorem dX2_readWord_8 : decode cX2_readWord 8 = .ok (.if_icmp .ge 44, 3) := by decide +kernel
theorem dX2_readWord_11 : decode cX2_readWord 11 = .ok (.aload_n 0, 1) := by decide +kernel
theorem dX2_readWord_12 : decode cX2_readWord 12 = .ok (.getfield 21, 3) := by decide +kernel
theorem dX2_readWord_15 : decode cX2_readWord 15 = .ok (.aload_n 0, 1) := by decide +kernel
theorem dX2_readWord_16 : decode cX2_readWord 16 = .ok (.getfield 29, 3) := by decide +kernel
theorem dX2_readWord_19 : decode cX2_readWord 19 = .ok (.baload, 1) := by decide +kernel
theorem dX2_readWord_20 : decode cX2_readWord 20 = .ok (.bipush 97, 2) := by decide +kernel
theorem dX2_readWord_22 : decode cX2_readWord 22 = .ok (.if_icmp .lt 30, 3) := by decide +kernel
theorem dX2_readWord_25 : decode cX2_readWord 25 = .ok (.aload_n 0, 1) := by decide +kernel
theorem dX2_readWord_26 : decode cX2_readWord 26 = .ok (.getfield 21, 3) := by decide +kernel
theorem dX2_readWord_29 : decode cX2_readWord 29 = .ok (.aload_n 0, 1) := by decide +kernel
theorem dX2_readWord_30 : decode cX2_readWord 30 = .ok (.getfield 29, 3) := by decide +kernel
theorem dX2_readWord_33 : decode cX2_readWord 33 = .ok (.baload, 1) := by decide +kernel
theorem dX2_readWord_34 : decode cX2_readWord 34 = .ok (.bipush 122, 2) := by decide +kernel
theorem dX2_readWord_36 : decode cX2_readWord 36 = .ok (.if_icmp .gt 16, 3) := by decide +kernel
theorem dX2_readWord_39 : decode cX2_readWord 39 = .ok (.aload_n 0, 1) := by decide +kernel
theorem dX2_readWord_40 : decode cX2_readWord 40 = .ok (.dup, 1) := by decide +kernel
theorem dX2_readWord_41 : decode cX2_readWord 41 = .ok (.getfield 29, 3) := by decide +kernel
theorem dX2_readWord_44 : decode cX2_readWord 44 = .ok (.iconst 1, 1) := by decide +kernel
theorem dX2_readWord_45 : decode cX2_readWord 45 = .ok (.iadd, 1) := by decide +kernel
theorem dX2_readWord_46 : decode cX2_readWord 46 = .ok (.putfield 29, 3) := by decide +kernel
theorem dX2_readWord_49 : decode cX2_readWord 49 = .ok (.goto (-49), 3) := by decide +kernel
theorem dX2_readWord_52 : decode cX2_readWord 52 = .ok (.iconst 0, 1) := by decide +kernel
theorem dX2_readWord_53 : decode cX2_readWord 53 = .ok (.istore_n 1, 1) := by decide +kernel
theorem dX2_readWord_54 : decode cX2_readWord 54 = .ok (.iload_n 1, 1) := by decide +kernel
theorem dX2_readWord_55 : decode cX2_readWord 55 = .ok (.bipush 7, 2) := by decide +kernel
theorem dX2_readWord_57 : decode cX2_readWord 57 = .ok (.if_icmp .ge 22, 3) := by decide +kernel
theorem dX2_readWord_60 : decode cX2_readWord 60 = .ok (.aload_n 0, 1) := by decide +kernel
theorem dX2_readWord_61 : decode cX2_readWord 61 = .ok (.iload_n 1, 1) := by decide +kernel
theorem dX2_readWord_62 : decode cX2_readWord 62 = .ok (.invokestatic 84, 3) := by decide +kernel
theorem dX2_readWord_65 : decode cX2_readWord 65 = .ok (.invokevirtual 88, 3) := by decide +kernel
theorem dX2_readWord_68 : decode cX2_readWord 68 = .ok (.ifCond .eq 5, 3) := by decide +kernel
theorem dX2_readWord_71 : decode cX2_readWord 71 = .ok (.iload_n 1, 1) := by decide +kernel
theorem dX2_readWord_72 : decode cX2_readWord 72 = .ok (.ireturn, 1) := by decide +kernel
theorem dX2_readWord_73 : decode cX2_readWord 73 = .ok (.iinc 1 1, 3) := by decide +kernel
theorem dX2_readWord_76 : decode cX2_readWord 76 = .ok (.goto (-22), 3) := by decide +kernel
theorem dX2_readWord_79 : decode cX2_readWord 79 = .ok (.iconst (-1), 1) := by decide +kernel
theorem dX2_readWord_80 : decode cX2_readWord 80 = .ok (.ireturn, 1) := by decide +kernel
theorem dX2_nameOf_0 : decode cX2_nameOf 0 = .ok (.iload_n 0, 1) := by decide +kernel
theorem dX2_nameOf_1 : decode cX2_nameOf 1 = .ok (.tableswitch 57 0 5 #[39, 42, 45, 48, 51, 54], 39) := by decide +kernel
theorem dX2_nameOf_40 : decode cX2_nameOf 40 = .ok (.ldc 92, 2) := by decide +kernel
theorem dX2_nameOf_42 : decode cX2_nameOf 42 = .ok (.areturn, 1) := by decide +kernel
theorem dX2_nameOf_43 : decode cX2_nameOf 43 = .ok (.ldc 94, 2) := by decide +kernel
theorem dX2_nameOf_45 : decode cX2_nameOf 45 = .ok (.areturn, 1) := by decide +kernel
theorem dX2_nameOf_46 : decode cX2_nameOf 46 = .ok (.ldc 96, 2) := by decide +kernel
theorem dX2_nameOf_48 : decode cX2_nameOf 48 = .ok (.areturn, 1) := by decide +kernel
theorem dX2_nameOf_49 : decode cX2_nameOf 49 = .ok (.ldc 98, 2) := by decide +kernel
theorem dX2_nameOf_51 : decode cX2_nameOf 51 = .ok (.areturn, 1) := by decide +kernel
theorem dX2_nameOf_52 : decode cX2_nameOf 52 = .ok (.ldc 100, 2) := by decide +kernel
theorem dX2_nameOf_54 : decode cX2_nameOf 54 = .ok (.areturn, 1) := by decide +kernel
theorem dX2_nameOf_55 : decode cX2_nameOf 55 = .ok (.ldc 102, 2) := by decide +kernel
theorem dX2_nameOf_57 : decode cX2_nameOf 57 = .ok (.areturn, 1) := by decide +kernel
theorem dX2_nameOf_58 : decode cX2_nameOf 58 = .ok (.ldc 104, 2) := by decide +kernel
theorem dX2_nameOf_60 : decode cX2_nameOf 60 = .ok (.areturn, 1) := by decide +kernel
theorem dX2_isSpelt_0 : decode cX2_isSpelt 0 = .ok (.aload_n 0, 1) := by decide +kernel
theorem dX2_isSpelt_1 : decode cX2_isSpelt 1 = .ok (.getfield 29, 3) := by decide +kernel
theorem dX2_isSpelt_4 : decode cX2_isSpelt 4 = .ok (.aload_n 0, 1) := by decide +kernel
theorem dX2_isSpelt_5 : decode cX2_isSpelt 5 = .ok (.getfield 32, 3) := by decide +kernel
theorem dX2_isSpelt_8 : decode cX2_isSpelt 8 = .ok (.isub, 1) := by decide +kernel
theorem dX2_isSpelt_9 : decode cX2_isSpelt 9 = .ok (.aload_n 1, 1) := by decide +kernel
theorem dX2_isSpelt_10 : decode cX2_isSpelt 10 = .ok (.invokevirtual 106, 3) := by decide +kernel
theorem dX2_isSpelt_13 : decode cX2_isSpelt 13 = .ok (.if_icmp .eq 5, 3) := by decide +kernel
theorem dX2_isSpelt_16 : decode cX2_isSpelt 16 = .ok (.iconst 0, 1) := by decide +kernel
theorem dX2_isSpelt_17 : decode cX2_isSpelt 17 = .ok (.ireturn, 1) := by decide +kernel
theorem dX2_isSpelt_18 : decode cX2_isSpelt 18 = .ok (.iconst 0, 1) := by decide +kernel
theorem dX2_isSpelt_19 : decode cX2_isSpelt 19 = .ok (.istore_n 2, 1) := by decide +kernel
theorem dX2_isSpelt_20 : decode cX2_isSpelt 20 = .ok (.iload_n 2, 1) := by decide +kernel
theorem dX2_isSpelt_21 : decode cX2_isSpelt 21 = .ok (.aload_n 1, 1) := by decide +kernel
theorem dX2_isSpelt_22 : decode cX2_isSpelt 22 = .ok (.invokevirtual 106, 3) := by decide +kernel
theorem dX2_isSpelt_25 : decode cX2_isSpelt 25 = .ok (.if_icmp .ge 30, 3) := by decide +kernel
theorem dX2_isSpelt_28 : decode cX2_isSpelt 28 = .ok (.aload_n 0, 1) := by decide +kernel
theorem dX2_isSpelt_29 : decode cX2_isSpelt 29 = .ok (.getfield 21, 3) := by decide +kernel
theorem dX2_isSpelt_32 : decode cX2_isSpelt 32 = .ok (.aload_n 0, 1) := by decide +kernel
theorem dX2_isSpelt_33 : decode cX2_isSpelt 33 = .ok (.getfield 32, 3) := by decide +kernel
theorem dX2_isSpelt_36 : decode cX2_isSpelt 36 = .ok (.iload_n 2, 1) := by decide +kernel
theorem dX2_isSpelt_37 : decode cX2_isSpelt 37 = .ok (.iadd, 1) := by decide +kernel
theorem dX2_isSpelt_38 : decode cX2_isSpelt 38 = .ok (.baload, 1) := by decide +kernel
theorem dX2_isSpelt_39 : decode cX2_isSpelt 39 = .ok (.aload_n 1, 1) := by decide +kernel
theorem dX2_isSpelt_40 : decode cX2_isSpelt 40 = .ok (.iload_n 2, 1) := by decide +kernel
theorem dX2_isSpelt_41 : decode cX2_isSpelt 41 = .ok (.invokevirtual 110, 3) := by decide +kernel
theorem dX2_isSpelt_44 : decode cX2_isSpelt 44 = .ok (.if_icmp .eq 5, 3) := by decide +kernel
theorem dX2_isSpelt_47 : decode cX2_isSpelt 47 = .ok (.iconst 0, 1) := by decide +kernel
theorem dX2_isSpelt_48 : decode cX2_isSpelt 48 = .ok (.ireturn, 1) := by decide +kernel
theorem dX2_isSpelt_49 : decode cX2_isSpelt 49 = .ok (.iinc 2 1, 3) := by decide +kernel
theorem dX2_isSpelt_52 : decode cX2_isSpelt 52 = .ok (.goto (-32), 3) := by decide +kernel
theorem dX2_isSpelt_55 : decode cX2_isSpelt 55 = .ok (.iconst 1, 1) := by decide +kernel
theorem dX2_isSpelt_56 : decode cX2_isSpelt 56 = .ok (.ireturn, 1) := by decide +kernel
theorem dX2_comesTooLate_0 : decode cX2_comesTooLate 0 = .ok (.aload_n 0, 1) := by decide +kernel
theorem dX2_comesTooLate_1 : decode cX2_comesTooLate 1 = .ok (.getfield 11, 3) := by decide +kernel
theorem dX2_comesTooLate_4 : decode cX2_comesTooLate 4 = .ok (.iconst 3, 1) := by decide +kernel
theorem dX2_comesTooLate_5 : decode cX2_comesTooLate 5 = .ok (.iaload, 1) := by decide +kernel
theorem dX2_comesTooLate_6 : decode cX2_comesTooLate 6 = .ok (.aload_n 0, 1) := by decide +kernel
theorem dX2_comesTooLate_7 : decode cX2_comesTooLate 7 = .ok (.getfield 11, 3) := by decide +kernel
theorem dX2_comesTooLate_10 : decode cX2_comesTooLate 10 = .ok (.iconst 4, 1) := by decide +kernel
theorem dX2_comesTooLate_11 : decode cX2_comesTooLate 11 = .ok (.iaload, 1) := by decide +kernel
theorem dX2_comesTooLate_12 : decode cX2_comesTooLate 12 = .ok (.iadd, 1) := by decide +kernel
theorem dX2_comesTooLate_13 : decode cX2_comesTooLate 13 = .ok (.ifCond .le 7, 3) := by decide +kernel
theorem dX2_comesTooLate_16 : decode cX2_comesTooLate 16 = .ok (.iconst 1, 1) := by decide +kernel
theorem dX2_comesTooLate_17 : decode cX2_comesTooLate 17 = .ok (.goto 4, 3) := by decide +kernel
theorem dX2_comesTooLate_20 : decode cX2_comesTooLate 20 = .ok (.iconst 0, 1) := by decide +kernel
theorem dX2_comesTooLate_21 : decode cX2_comesTooLate 21 = .ok (.istore_n 2, 1) := by decide +kernel
theorem dX2_comesTooLate_22 : decode cX2_comesTooLate 22 = .ok (.iload_n 1, 1) := by decide +kernel
theorem dX2_comesTooLate_23 : decode cX2_comesTooLate 23 = .ok (.ifCond .ne 22, 3) := by decide +kernel
theorem dX2_comesTooLate_26 : decode cX2_comesTooLate 26 = .ok (.iload_n 2, 1) := by decide +kernel
theorem dX2_comesTooLate_27 : decode cX2_comesTooLate 27 = .ok (.ifCond .ne 12, 3) := by decide +kernel
theorem dX2_comesTooLate_30 : decode cX2_comesTooLate 30 = .ok (.aload_n 0, 1) := by decide +kernel
theorem dX2_comesTooLate_31 : decode cX2_comesTooLate 31 = .ok (.getfield 11, 3) := by decide +kernel
theorem dX2_comesTooLate_34 : decode cX2_comesTooLate 34 = .ok (.iconst 1, 1) := by decide +kernel
theorem dX2_comesTooLate_35 : decode cX2_comesTooLate 35 = .ok (.iaload, 1) := by decide +kernel
theorem dX2_comesTooLate_36 : decode cX2_comesTooLate 36 = .ok (.ifCond .le 7, 3) := by decide +kernel
theorem dX2_comesTooLate_39 : decode cX2_comesTooLate 39 = .ok (.iconst 1, 1) := by decide +kernel
theorem dX2_comesTooLate_40 : decode cX2_comesTooLate 40 = .ok (.goto 4, 3) := by decide +kernel
theorem dX2_comesTooLate_43 : decode cX2_comesTooLate 43 = .ok (.iconst 0, 1) := by decide +kernel
theorem dX2_comesTooLate_44 : decode cX2_comesTooLate 44 = .ok (.ireturn, 1) := by decide +kernel
theorem dX2_comesTooLate_45 : decode cX2_comesTooLate 45 = .ok (.iload_n 1, 1) := by decide +kernel
theorem dX2_comesTooLate_46 : decode cX2_comesTooLate 46 = .ok (.iconst 2, 1) := by decide +kernel
theorem dX2_comesTooLate_47 : decode cX2_comesTooLate 47 = .ok (.if_icmp .ne 11, 3) := by decide +kernel
theorem dX2_comesTooLate_50 : decode cX2_comesTooLate 50 = .ok (.iload_n 2, 1) := by decide +kernel
theorem dX2_comesTooLate_51 : decode cX2_comesTooLate 51 = .ok (.ifCond .eq 7, 3) := by decide +kernel
theorem dX2_comesTooLate_54 : decode cX2_comesTooLate 54 = .ok (.iconst 1, 1) := by decide +kernel
theorem dX2_comesTooLate_55 : decode cX2_comesTooLate 55 = .ok (.goto 4, 3) := by decide +kernel
theorem dX2_comesTooLate_58 : decode cX2_comesTooLate 58 = .ok (.iconst 0, 1) := by decide +kernel
theorem dX2_comesTooLate_59 : decode cX2_comesTooLate 59 = .ok (.ireturn, 1) := by decide +kernel
theorem dX2_readNumber_0 : decode cX2_readNumber 0 = .ok (.iconst 0, 1) := by decide +kernel
theorem dX2_readNumber_1 : decode cX2_readNumber 1 = .ok (.istore_n 1, 1) := by decide +kernel
theorem dX2_readNumber_2 : decode cX2_readNumber 2 = .ok (.aload_n 0, 1) := by decide +kernel
theorem dX2_readNumber_3 : decode cX2_readNumber 3 = .ok (.getfield 29, 3) := by decide +kernel
theorem dX2_readNumber_6 : decode cX2_readNumber 6 = .ok (.aload_n 0, 1) := by decide +kernel
theorem dX2_readNumber_7 : decode cX2_readNumber 7 = .ok (.getfield 25, 3) := by decide +kernel
theorem dX2_readNumber_10 : decode cX2_readNumber 10 = .ok (.if_icmp .ge 75, 3) := by decide +kernel
theorem dX2_readNumber_13 : decode cX2_readNumber 13 = .ok (.aload_n 0, 1) := by decide +kernel
theorem dX2_readNumber_14 : decode cX2_readNumber 14 = .ok (.getfield 21, 3) := by decide +kernel
theorem dX2_readNumber_17 : decode cX2_readNumber 17 = .ok (.aload_n 0, 1) := by decide +kernel
theorem dX2_readNumber_18 : decode cX2_readNumber 18 = .ok (.getfield 29, 3) := by decide +kernel
theorem dX2_readNumber_21 : decode cX2_readNumber 21 = .ok (.baload, 1) := by decide +kernel
theorem dX2_readNumber_22 : decode cX2_readNumber 22 = .ok (.bipush 48, 2) := by decide +kernel
theorem dX2_readNumber_24 : decode cX2_readNumber 24 = .ok (.if_icmp .lt 61, 3) := by decide +kernel
theorem dX2_readNumber_27 : decode cX2_readNumber 27 = .ok (.aload_n 0, 1) := by decide +kernel
theorem dX2_readNumber_28 : decode cX2_readNumber 28 = .ok (.getfield 21, 3) := by decide +kernel
theorem dX2_readNumber_31 : decode cX2_readNumber 31 = .ok (.aload_n 0, 1) := by decide +kernel
theorem dX2_readNumber_32 : decode cX2_readNumber 32 = .ok (.getfield 29, 3) := by decide +kernel
theorem dX2_readNumber_35 : decode cX2_readNumber 35 = .ok (.baload, 1) := by decide +kernel
theorem dX2_readNumber_36 : decode cX2_readNumber 36 = .ok (.bipush 57, 2) := by decide +kernel
theorem dX2_readNumber_38 : decode cX2_readNumber 38 = .ok (.if_icmp .gt 47, 3) := by decide +kernel
theorem dX2_readNumber_41 : decode cX2_readNumber 41 = .ok (.aload_n 0, 1) := by decide +kernel
theorem dX2_readNumber_42 : decode cX2_readNumber 42 = .ok (.getfield 29, 3) := by decide +kernel
theorem dX2_readNumber_45 : decode cX2_readNumber 45 = .ok (.aload_n 0, 1) := by decide +kernel
theorem dX2_readNumber_46 : decode cX2_readNumber 46 = .ok (.getfield 32, 3) := by decide +kernel
theorem dX2_readNumber_49 : decode cX2_readNumber 49 = .ok (.isub, 1) := by decide +kernel
theorem dX2_readNumber_50 : decode cX2_readNumber 50 = .ok (.iconst 4, 1) := by decide +kernel
theorem dX2_readNumber_51 : decode cX2_readNumber 51 = .ok (.if_icmp .ge 21, 3) := by decide +kernel
theorem dX2_readNumber_54 : decode cX2_readNumber 54 = .ok (.iload_n 1, 1) := by decide +kernel
theorem dX2_readNumber_55 : decode cX2_readNumber 55 = .ok (.bipush 10, 2) := by decide +kernel
theorem dX2_readNumber_57 : decode cX2_readNumber 57 = .ok (.imul, 1) := by decide +kernel
theorem dX2_readNumber_58 : decode cX2_readNumber 58 = .ok (.aload_n 0, 1) := by decide +kernel
theorem dX2_readNumber_59 : decode cX2_readNumber 59 = .ok (.getfield 21, 3) := by decide +kernel
theorem dX2_readNumber_62 : decode cX2_readNumber 62 = .ok (.aload_n 0, 1) := by decide +kernel
theorem dX2_readNumber_63 : decode cX2_readNumber 63 = .ok (.getfield 29, 3) := by decide +kernel
theorem dX2_readNumber_66 : decode cX2_readNumber 66 = .ok (.baload, 1) := by decide +kernel
theorem dX2_readNumber_67 : decode cX2_readNumber 67 = .ok (.bipush 48, 2) := by decide +kernel
theorem dX2_readNumber_69 : decode cX2_readNumber 69 = .ok (.isub, 1) := by decide +kernel
theorem dX2_readNumber_70 : decode cX2_readNumber 70 = .ok (.iadd, 1) := by decide +kernel
theorem dX2_readNumber_71 : decode cX2_readNumber 71 = .ok (.istore_n 1, 1) := by decide +kernel
theorem dX2_readNumber_72 : decode cX2_readNumber 72 = .ok (.aload_n 0, 1) := by decide +kernel
theorem dX2_readNumber_73 : decode cX2_readNumber 73 = .ok (.dup, 1) := by decide +kernel
theorem dX2_readNumber_74 : decode cX2_readNumber 74 = .ok (.getfield 29, 3) := by decide +kernel
theorem dX2_readNumber_77 : decode cX2_readNumber 77 = .ok (.iconst 1, 1) := by decide +kernel
theorem dX2_readNumber_78 : decode cX2_readNumber 78 = .ok (.iadd, 1) := by decide +kernel
theorem dX2_readNumber_79 : decode cX2_readNumber 79 = .ok (.putfield 29, 3) := by decide +kernel
theorem dX2_readNumber_82 : decode cX2_readNumber 82 = .ok (.goto (-80), 3) := by decide +kernel
theorem dX2_readNumber_85 : decode cX2_readNumber 85 = .ok (.aload_n 0, 1) := by decide +kernel
theorem dX2_readNumber_86 : decode cX2_readNumber 86 = .ok (.getfield 29, 3) := by decide +kernel
theorem dX2_readNumber_89 : decode cX2_readNumber 89 = .ok (.aload_n 0, 1) := by decide +kernel
theorem dX2_readNumber_90 : decode cX2_readNumber 90 = .ok (.getfield 32, 3) := by decide +kernel
theorem dX2_readNumber_93 : decode cX2_readNumber 93 = .ok (.if_icmp .ne 5, 3) := by decide +kernel
theorem dX2_readNumber_96 : decode cX2_readNumber 96 = .ok (.iconst (-1), 1) := by decide +kernel
theorem dX2_readNumber_97 : decode cX2_readNumber 97 = .ok (.ireturn, 1) := by decide +kernel
theorem dX2_readNumber_98 : decode cX2_readNumber 98 = .ok (.aload_n 0, 1) := by decide +kernel
theorem dX2_readNumber_99 : decode cX2_readNumber 99 = .ok (.getfield 29, 3) := by decide +kernel
theorem dX2_readNumber_102 : decode cX2_readNumber 102 = .ok (.aload_n 0, 1) := by decide +kernel
theorem dX2_readNumber_103 : decode cX2_readNumber 103 = .ok (.getfield 32, 3) := by decide +kernel
theorem dX2_readNumber_106 : decode cX2_readNumber 106 = .ok (.isub, 1) := by decide +kernel
theorem dX2_readNumber_107 : decode cX2_readNumber 107 = .ok (.iconst 4, 1) := by decide +kernel
theorem dX2_readNumber_108 : decode cX2_readNumber 108 = .ok (.if_icmp .le 9, 3) := by decide +kernel
theorem dX2_readNumber_111 : decode cX2_readNumber 111 = .ok (.sipush 10000, 3) := by decide +kernel
theorem dX2_readNumber_114 : decode cX2_readNumber 114 = .ok (.goto 4, 3) := by decide +kernel
theorem dX2_readNumber_117 : decode cX2_readNumber 117 = .ok (.iload_n 1, 1) := by decide +kernel
theorem dX2_readNumber_118 : decode cX2_readNumber 118 = .ok (.ireturn, 1) := by decide +kernel
theorem dX2_numberFault_0 : decode cX2_numberFault 0 = .ok (.iload_n 1, 1) := by decide +kernel
theorem dX2_numberFault_1 : decode cX2_numberFault 1 = .ok (.tableswitch 85 0 6 #[43, 50, 62, 85, 85, 69, 77], 43) := by decide +kernel
theorem dX2_numberFault_44 : decode cX2_numberFault 44 = .ok (.iload_n 3, 1) := by decide +kernel
theorem dX2_numberFault_45 : decode cX2_numberFault 45 = .ok (.bipush 99, 2) := by decide +kernel
theorem dX2_numberFault_47 : decode cX2_numberFault 47 = .ok (.invokestatic 114, 3) := by decide +kernel
theorem dX2_numberFault_50 : decode cX2_numberFault 50 = .ok (.ireturn, 1) := by decide +kernel
theorem dX2_numberFault_51 : decode cX2_numberFault 51 = .ok (.iload_n 3, 1) := by decide +kernel
theorem dX2_numberFault_52 : decode cX2_numberFault 52 = .ok (.aload 4, 2) := by decide +kernel
theorem dX2_numberFault_54 : decode cX2_numberFault 54 = .ok (.getfield 117, 3) := by decide +kernel
theorem dX2_numberFault_57 : decode cX2_numberFault 57 = .ok (.iconst 1, 1) := by decide +kernel
theorem dX2_numberFault_58 : decode cX2_numberFault 58 = .ok (.isub, 1) := by decide +kernel
theorem dX2_numberFault_59 : decode cX2_numberFault 59 = .ok (.invokestatic 114, 3) := by decide +kernel
theorem dX2_numberFault_62 : decode cX2_numberFault 62 = .ok (.ireturn, 1) := by decide +kernel
theorem dX2_numberFault_63 : decode cX2_numberFault 63 = .ok (.iload_n 3, 1) := by decide +kernel
theorem dX2_numberFault_64 : decode cX2_numberFault 64 = .ok (.bipush 9, 2) := by decide +kernel
theorem dX2_numberFault_66 : decode cX2_numberFault 66 = .ok (.invokestatic 114, 3) := by decide +kernel
theorem dX2_numberFault_69 : decode cX2_numberFault 69 = .ok (.ireturn, 1) := by decide +kernel
theorem dX2_numberFault_70 : decode cX2_numberFault 70 = .ok (.iload_n 3, 1) := by decide +kernel
theorem dX2_numberFault_71 : decode cX2_numberFault 71 = .ok (.sipush 999, 3) := by decide +kernel
theorem dX2_numberFault_74 : decode cX2_numberFault 74 = .ok (.invokestatic 114, 3) := by decide +kernel
theorem dX2_numberFault_77 : decode cX2_numberFault 77 = .ok (.ireturn, 1) := by decide +kernel
theorem dX2_numberFault_78 : decode cX2_numberFault 78 = .ok (.iload_n 3, 1) := by decide +kernel
theorem dX2_numberFault_79 : decode cX2_numberFault 79 = .ok (.sipush 9999, 3) := by decide +kernel
theorem dX2_numberFault_82 : decode cX2_numberFault 82 = .ok (.invokestatic 114, 3) := by decide +kernel
theorem dX2_numberFault_85 : decode cX2_numberFault 85 = .ok (.ireturn, 1) := by decide +kernel
theorem dX2_numberFault_86 : decode cX2_numberFault 86 = .ok (.iload_n 2, 1) := by decide +kernel
theorem dX2_numberFault_87 : decode cX2_numberFault 87 = .ok (.lookupswitch 41 #[(0, 25), (1, 33)], 25) := by decide +kernel
theorem dX2_numberFault_112 : decode cX2_numberFault 112 = .ok (.iload_n 1, 1) := by decide +kernel
theorem dX2_numberFault_113 : decode cX2_numberFault 113 = .ok (.iload_n 3, 1) := by decide +kernel
theorem dX2_numberFault_114 : decode cX2_numberFault 114 = .ok (.aload 4, 2) := by decide +kernel
theorem dX2_numberFault_116 : decode cX2_numberFault 116 = .ok (.invokestatic 120, 3) := by decide +kernel
theorem dX2_numberFault_119 : decode cX2_numberFault 119 = .ok (.ireturn, 1) := by decide +kernel
theorem dX2_numberFault_120 : decode cX2_numberFault 120 = .ok (.aload_n 0, 1) := by decide +kernel
theorem dX2_numberFault_121 : decode cX2_numberFault 121 = .ok (.iload_n 3, 1) := by decide +kernel
theorem dX2_numberFault_122 : decode cX2_numberFault 122 = .ok (.aload 4, 2) := by decide +kernel
theorem dX2_numberFault_124 : decode cX2_numberFault 124 = .ok (.invokevirtual 124, 3) := by decide +kernel
theorem dX2_numberFault_127 : decode cX2_numberFault 127 = .ok (.ireturn, 1) := by decide +kernel
theorem dX2_numberFault_128 : decode cX2_numberFault 128 = .ok (.iload_n 1, 1) := by decide +kernel
theorem dX2_numberFault_129 : decode cX2_numberFault 129 = .ok (.iconst 4, 1) := by decide +kernel
theorem dX2_numberFault_130 : decode cX2_numberFault 130 = .ok (.if_icmp .ne 19, 3) := by decide +kernel
theorem dX2_numberFault_133 : decode cX2_numberFault 133 = .ok (.iload_n 3, 1) := by decide +kernel
theorem dX2_numberFault_134 : decode cX2_numberFault 134 = .ok (.bipush 9, 2) := by decide +kernel
theorem dX2_numberFault_136 : decode cX2_numberFault 136 = .ok (.isub, 1) := by decide +kernel
theorem dX2_numberFault_137 : decode cX2_numberFault 137 = .ok (.invokestatic 128, 3) := by decide +kernel
theorem dX2_numberFault_140 : decode cX2_numberFault 140 = .ok (.aload 4, 2) := by decide +kernel
theorem dX2_numberFault_142 : decode cX2_numberFault 142 = .ok (.getfield 132, 3) := by decide +kernel
theorem dX2_numberFault_145 : decode cX2_numberFault 145 = .ok (.invokestatic 114, 3) := by decide +kernel
theorem dX2_numberFault_148 : decode cX2_numberFault 148 = .ok (.ireturn, 1) := by decide +kernel
theorem dX2_numberFault_149 : decode cX2_numberFault 149 = .ok (.iload_n 2, 1) := by decide +kernel
theorem dX2_numberFault_150 : decode cX2_numberFault 150 = .ok (.iconst 2, 1) := by decide +kernel
theorem dX2_numberFault_151 : decode cX2_numberFault 151 = .ok (.if_icmp .ne 12, 3) := by decide +kernel
theorem dX2_numberFault_154 : decode cX2_numberFault 154 = .ok (.iload_n 3, 1) := by decide +kernel
theorem dX2_numberFault_155 : decode cX2_numberFault 155 = .ok (.bipush 99, 2) := by decide +kernel
theorem dX2_numberFault_157 : decode cX2_numberFault 157 = .ok (.invokestatic 114, 3) := by decide +kernel
theorem dX2_numberFault_160 : decode cX2_numberFault 160 = .ok (.goto 10, 3) := by decide +kernel
theorem dX2_numberFault_163 : decode cX2_numberFault 163 = .ok (.aload_n 0, 1) := by decide +kernel
theorem dX2_numberFault_164 : decode cX2_numberFault 164 = .ok (.iload_n 3, 1) := by decide +kernel
theorem dX2_numberFault_165 : decode cX2_numberFault 165 = .ok (.aload 4, 2) := by decide +kernel
theorem dX2_numberFault_167 : decode cX2_numberFault 167 = .ok (.invokevirtual 134, 3) := by decide +kernel
theorem dX2_numberFault_170 : decode cX2_numberFault 170 = .ok (.ireturn, 1) := by decide +kernel
theorem dX2_above_0 : decode cX2_above 0 = .ok (.iload_n 0, 1) := by decide +kernel
theorem dX2_above_1 : decode cX2_above 1 = .ok (.iload_n 1, 1) := by decide +kernel
theorem dX2_above_2 : decode cX2_above 2 = .ok (.if_icmp .le 7, 3) := by decide +kernel
theorem dX2_above_5 : decode cX2_above 5 = .ok (.iconst 2, 1) := by decide +kernel
theorem dX2_above_6 : decode cX2_above 6 = .ok (.goto 4, 3) := by decide +kernel
theorem dX2_above_9 : decode cX2_above 9 = .ok (.iconst 0, 1) := by decide +kernel
theorem dX2_above_10 : decode cX2_above 10 = .ok (.ireturn, 1) := by decide +kernel
theorem dX2_mapFault_0 : decode cX2_mapFault 0 = .ok (.iload_n 1, 1) := by decide +kernel
theorem dX2_mapFault_1 : decode cX2_mapFault 1 = .ok (.bipush 6, 2) := by decide +kernel
theorem dX2_mapFault_3 : decode cX2_mapFault 3 = .ok (.if_icmp .lt 5, 3) := by decide +kernel
theorem dX2_mapFault_6 : decode cX2_mapFault 6 = .ok (.iconst 2, 1) := by decide +kernel
theorem dX2_mapFault_7 : decode cX2_mapFault 7 = .ok (.ireturn, 1) := by decide +kernel
theorem dX2_mapFault_8 : decode cX2_mapFault 8 = .ok (.iload_n 0, 1) := by decide +kernel
theorem dX2_mapFault_9 : decode cX2_mapFault 9 = .ok (.iconst 3, 1) := by decide +kernel
theorem dX2_mapFault_10 : decode cX2_mapFault 10 = .ok (.if_icmp .ne 18, 3) := by decide +kernel
theorem dX2_mapFault_13 : decode cX2_mapFault 13 = .ok (.aload_n 2, 1) := by decide +kernel
theorem dX2_mapFault_14 : decode cX2_mapFault 14 = .ok (.getfield 137, 3) := by decide +kernel
theorem dX2_mapFault_17 : decode cX2_mapFault 17 = .ok (.iload_n 1, 1) := by decide +kernel
theorem dX2_mapFault_18 : decode cX2_mapFault 18 = .ok (.invokestatic 140, 3) := by decide +kernel
theorem dX2_mapFault_21 : decode cX2_mapFault 21 = .ok (.ifCond .eq 7, 3) := by decide +kernel
theorem dX2_mapFault_24 : decode cX2_mapFault 24 = .ok (.iconst 4, 1) := by decide +kernel
theorem dX2_mapFault_25 : decode cX2_mapFault 25 = .ok (.goto 4, 3) := by decide +kernel
theorem dX2_mapFault_28 : decode cX2_mapFault 28 = .ok (.iconst 0, 1) := by decide +kernel
theorem dX2_mapFault_29 : decode cX2_mapFault 29 = .ok (.ireturn, 1) := by decide +kernel
theorem dX2_markFault_0 : decode cX2_markFault 0 = .ok (.iload_n 1, 1) := by decide +kernel
theorem dX2_markFault_1 : decode cX2_markFault 1 = .ok (.aload_n 2, 1) := by decide +kernel
theorem dX2_markFault_2 : decode cX2_markFault 2 = .ok (.getfield 117, 3) := by decide +kernel
theorem dX2_markFault_5 : decode cX2_markFault 5 = .ok (.if_icmp .lt 5, 3) := by decide +kernel
theorem dX2_markFault_8 : decode cX2_markFault 8 = .ok (.iconst 2, 1) := by decide +kernel
theorem dX2_markFault_9 : decode cX2_markFault 9 = .ok (.ireturn, 1) := by decide +kernel
theorem dX2_markFault_10 : decode cX2_markFault 10 = .ok (.aload_n 0, 1) := by decide +kernel
theorem dX2_markFault_11 : decode cX2_markFault 11 = .ok (.getfield 18, 3) := by decide +kernel
theorem dX2_markFault_14 : decode cX2_markFault 14 = .ok (.aload_n 0, 1) := by decide +kernel
theorem dX2_markFault_15 : decode cX2_markFault 15 = .ok (.getfield 15, 3) := by decide +kernel
theorem dX2_markFault_18 : decode cX2_markFault 18 = .ok (.iconst 0, 1) := by decide +kernel
theorem dX2_markFault_19 : decode cX2_markFault 19 = .ok (.iaload, 1) := by decide +kernel
theorem dX2_markFault_20 : decode cX2_markFault 20 = .ok (.iaload, 1) := by decide +kernel
theorem dX2_markFault_21 : decode cX2_markFault 21 = .ok (.iload_n 1, 1) := by decide +kernel
theorem dX2_markFault_22 : decode cX2_markFault 22 = .ok (.invokestatic 140, 3) := by decide +kernel
theorem dX2_markFault_25 : decode cX2_markFault 25 = .ok (.ifCond .eq 7, 3) := by decide +kernel
theorem dX2_markFault_28 : decode cX2_markFault 28 = .ok (.iconst 4, 1) := by decide +kernel
theorem dX2_markFault_29 : decode cX2_markFault 29 = .ok (.goto 4, 3) := by decide +kernel
theorem dX2_markFault_32 : decode cX2_markFault 32 = .ok (.iconst 0, 1) := by decide +kernel
theorem dX2_markFault_33 : decode cX2_markFault 33 = .ok (.ireturn, 1) := by decide +kernel
theorem dX2_lieFault_0 : decode cX2_lieFault 0 = .ok (.iload_n 1, 1) := by decide +kernel
theorem dX2_lieFault_1 : decode cX2_lieFault 1 = .ok (.bipush 99, 2) := by decide +kernel
theorem dX2_lieFault_3 : decode cX2_lieFault 3 = .ok (.if_icmp .le 5, 3) := by decide +kernel
theorem dX2_lieFault_6 : decode cX2_lieFault 6 = .ok (.iconst 2, 1) := by decide +kernel
theorem dX2_lieFault_7 : decode cX2_lieFault 7 = .ok (.ireturn, 1) := by decide +kernel
theorem dX2_lieFault_8 : decode cX2_lieFault 8 = .ok (.aload_n 0, 1) := by decide +kernel
theorem dX2_lieFault_9 : decode cX2_lieFault 9 = .ok (.getfield 15, 3) := by decide +kernel
theorem dX2_lieFault_12 : decode cX2_lieFault 12 = .ok (.iconst 1, 1) := by decide +kernel
theorem dX2_lieFault_13 : decode cX2_lieFault 13 = .ok (.iaload, 1) := by decide +kernel
theorem dX2_lieFault_14 : decode cX2_lieFault 14 = .ok (.istore_n 3, 1) := by decide +kernel
theorem dX2_lieFault_15 : decode cX2_lieFault 15 = .ok (.aload_n 0, 1) := by decide +kernel
theorem dX2_lieFault_16 : decode cX2_lieFault 16 = .ok (.getfield 15, 3) := by decide +kernel
theorem dX2_lieFault_19 : decode cX2_lieFault 19 = .ok (.iconst 2, 1) := by decide +kernel
theorem dX2_lieFault_20 : decode cX2_lieFault 20 = .ok (.iaload, 1) := by decide +kernel
theorem dX2_lieFault_21 : decode cX2_lieFault 21 = .ok (.aload_n 2, 1) := by decide +kernel
theorem dX2_lieFault_22 : decode cX2_lieFault 22 = .ok (.getfield 144, 3) := by decide +kernel
theorem dX2_lieFault_25 : decode cX2_lieFault 25 = .ok (.iload_n 3, 1) := by decide +kernel
theorem dX2_lieFault_26 : decode cX2_lieFault 26 = .ok (.iaload, 1) := by decide +kernel
theorem dX2_lieFault_27 : decode cX2_lieFault 27 = .ok (.isub, 1) := by decide +kernel
theorem dX2_lieFault_28 : decode cX2_lieFault 28 = .ok (.invokestatic 128, 3) := by decide +kernel
theorem dX2_lieFault_31 : decode cX2_lieFault 31 = .ok (.iload_n 1, 1) := by decide +kernel
theorem dX2_lieFault_32 : decode cX2_lieFault 32 = .ok (.aload_n 2, 1) := by decide +kernel
theorem dX2_lieFault_33 : decode cX2_lieFault 33 = .ok (.getfield 147, 3) := by decide +kernel
theorem dX2_lieFault_36 : decode cX2_lieFault 36 = .ok (.iload_n 3, 1) := by decide +kernel
theorem dX2_lieFault_37 : decode cX2_lieFault 37 = .ok (.iaload, 1) := by decide +kernel
theorem dX2_lieFault_38 : decode cX2_lieFault 38 = .ok (.isub, 1) := by decide +kernel
theorem dX2_lieFault_39 : decode cX2_lieFault 39 = .ok (.invokestatic 128, 3) := by decide +kernel
theorem dX2_lieFault_42 : decode cX2_lieFault 42 = .ok (.invokestatic 150, 3) := by decide +kernel
theorem dX2_lieFault_45 : decode cX2_lieFault 45 = .ok (.istore 4, 2) := by decide +kernel
theorem dX2_lieFault_47 : decode cX2_lieFault 47 = .ok (.iload 4, 2) := by decide +kernel
theorem dX2_lieFault_49 : decode cX2_lieFault 49 = .ok (.iconst 2, 1) := by decide +kernel
theorem dX2_lieFault_50 : decode cX2_lieFault 50 = .ok (.aload_n 2, 1) := by decide +kernel
theorem dX2_lieFault_51 : decode cX2_lieFault 51 = .ok (.getfield 132, 3) := by decide +kernel
theorem dX2_lieFault_54 : decode cX2_lieFault 54 = .ok (.imul, 1) := by decide +kernel
theorem dX2_lieFault_55 : decode cX2_lieFault 55 = .ok (.if_icmp .le 7, 3) := by decide +kernel
theorem dX2_lieFault_58 : decode cX2_lieFault 58 = .ok (.iconst 0, 1) := by decide +kernel
theorem dX2_lieFault_59 : decode cX2_lieFault 59 = .ok (.goto 4, 3) := by decide +kernel
theorem dX2_lieFault_62 : decode cX2_lieFault 62 = .ok (.iconst 4, 1) := by decide +kernel
theorem dX2_lieFault_63 : decode cX2_lieFault 63 = .ok (.ireturn, 1) := by decide +kernel
theorem dX2_tell_0 : decode cX2_tell 0 = .ok (.iload_n 1, 1) := by decide +kernel
theorem dX2_tell_1 : decode cX2_tell 1 = .ok (.tableswitch 134 0 6 #[43, 62, 95, 134, 134, 108, 121], 43) := by decide +kernel
theorem dX2_tell_44 : decode cX2_tell 44 = .ok (.aload_n 2, 1) := by decide +kernel
theorem dX2_tell_45 : decode cX2_tell 45 = .ok (.aload_n 0, 1) := by decide +kernel
theorem dX2_tell_46 : decode cX2_tell 46 = .ok (.getfield 15, 3) := by decide +kernel
theorem dX2_tell_49 : decode cX2_tell 49 = .ok (.iconst 0, 1) := by decide +kernel
theorem dX2_tell_50 : decode cX2_tell 50 = .ok (.iaload, 1) := by decide +kernel
theorem dX2_tell_51 : decode cX2_tell 51 = .ok (.aload_n 0, 1) := by decide +kernel
theorem dX2_tell_52 : decode cX2_tell 52 = .ok (.getfield 15, 3) := by decide +kernel
theorem dX2_tell_55 : decode cX2_tell 55 = .ok (.iconst 1, 1) := by decide +kernel
theorem dX2_tell_56 : decode cX2_tell 56 = .ok (.iaload, 1) := by decide +kernel
theorem dX2_tell_57 : decode cX2_tell 57 = .ok (.invokevirtual 153, 3) := by decide +kernel
theorem dX2_tell_60 : decode cX2_tell 60 = .ok (.goto 81, 3) := by decide +kernel
theorem dX2_tell_63 : decode cX2_tell 63 = .ok (.aload_n 2, 1) := by decide +kernel
theorem dX2_tell_64 : decode cX2_tell 64 = .ok (.aload_n 0, 1) := by decide +kernel
theorem dX2_tell_65 : decode cX2_tell 65 = .ok (.getfield 15, 3) := by decide +kernel
theorem dX2_tell_68 : decode cX2_tell 68 = .ok (.iconst 0, 1) := by decide +kernel
theorem dX2_tell_69 : decode cX2_tell 69 = .ok (.iaload, 1) := by decide +kernel
theorem dX2_tell_70 : decode cX2_tell 70 = .ok (.putfield 157, 3) := by decide +kernel
theorem dX2_tell_73 : decode cX2_tell 73 = .ok (.aload_n 2, 1) := by decide +kernel
theorem dX2_tell_74 : decode cX2_tell 74 = .ok (.aload_n 0, 1) := by decide +kernel
theorem dX2_tell_75 : decode cX2_tell 75 = .ok (.getfield 15, 3) := by decide +kernel
theorem dX2_tell_78 : decode cX2_tell 78 = .ok (.iconst 1, 1) := by decide +kernel
theorem dX2_tell_79 : decode cX2_tell 79 = .ok (.iaload, 1) := by decide +kernel
theorem dX2_tell_80 : decode cX2_tell 80 = .ok (.putfield 160, 3) := by decide +kernel
theorem dX2_tell_83 : decode cX2_tell 83 = .ok (.aload_n 2, 1) := by decide +kernel
theorem dX2_tell_84 : decode cX2_tell 84 = .ok (.aload_n 0, 1) := by decide +kernel
theorem dX2_tell_85 : decode cX2_tell 85 = .ok (.getfield 15, 3) := by decide +kernel
theorem dX2_tell_88 : decode cX2_tell 88 = .ok (.iconst 2, 1) := by decide +kernel
theorem dX2_tell_89 : decode cX2_tell 89 = .ok (.iaload, 1) := by decide +kernel
theorem dX2_tell_90 : decode cX2_tell 90 = .ok (.putfield 163, 3) := by decide +kernel
theorem dX2_tell_93 : decode cX2_tell 93 = .ok (.goto 48, 3) := by decide +kernel
theorem dX2_tell_96 : decode cX2_tell 96 = .ok (.aload_n 2, 1) := by decide +kernel
theorem dX2_tell_97 : decode cX2_tell 97 = .ok (.aload_n 0, 1) := by decide +kernel
theorem dX2_tell_98 : decode cX2_tell 98 = .ok (.getfield 15, 3) := by decide +kernel
theorem dX2_tell_101 : decode cX2_tell 101 = .ok (.iconst 0, 1) := by decide +kernel
theorem dX2_tell_102 : decode cX2_tell 102 = .ok (.iaload, 1) := by decide +kernel
theorem dX2_tell_103 : decode cX2_tell 103 = .ok (.putfield 132, 3) := by decide +kernel
theorem dX2_tell_106 : decode cX2_tell 106 = .ok (.goto 35, 3) := by decide +kernel
theorem dX2_tell_109 : decode cX2_tell 109 = .ok (.aload_n 2, 1) := by decide +kernel
theorem dX2_tell_110 : decode cX2_tell 110 = .ok (.aload_n 0, 1) := by decide +kernel
theorem dX2_tell_111 : decode cX2_tell 111 = .ok (.getfield 15, 3) := by decide +kernel
theorem dX2_tell_114 : decode cX2_tell 114 = .ok (.iconst 0, 1) := by decide +kernel
theorem dX2_tell_115 : decode cX2_tell 115 = .ok (.iaload, 1) := by decide +kernel
theorem dX2_tell_116 : decode cX2_tell 116 = .ok (.putfield 166, 3) := by decide +kernel
theorem dX2_tell_119 : decode cX2_tell 119 = .ok (.goto 22, 3) := by decide +kernel
theorem dX2_tell_122 : decode cX2_tell 122 = .ok (.aload_n 2, 1) := by decide +kernel
theorem dX2_tell_123 : decode cX2_tell 123 = .ok (.aload_n 0, 1) := by decide +kernel
theorem dX2_tell_124 : decode cX2_tell 124 = .ok (.getfield 15, 3) := by decide +kernel
theorem dX2_tell_127 : decode cX2_tell 127 = .ok (.iconst 0, 1) := by decide +kernel
theorem dX2_tell_128 : decode cX2_tell 128 = .ok (.iaload, 1) := by decide +kernel
theorem dX2_tell_129 : decode cX2_tell 129 = .ok (.putfield 169, 3) := by decide +kernel
theorem dX2_tell_132 : decode cX2_tell 132 = .ok (.goto 9, 3) := by decide +kernel
theorem dX2_tell_135 : decode cX2_tell 135 = .ok (.aload_n 0, 1) := by decide +kernel
theorem dX2_tell_136 : decode cX2_tell 136 = .ok (.iload_n 1, 1) := by decide +kernel
theorem dX2_tell_137 : decode cX2_tell 137 = .ok (.aload_n 2, 1) := by decide +kernel
theorem dX2_tell_138 : decode cX2_tell 138 = .ok (.invokevirtual 171, 3) := by decide +kernel
theorem dX2_tell_141 : decode cX2_tell 141 = .ok (.return_, 1) := by decide +kernel
theorem dX2_changeMap_0 : decode cX2_changeMap 0 = .ok (.aload_n 0, 1) := by decide +kernel
theorem dX2_changeMap_1 : decode cX2_changeMap 1 = .ok (.getfield 15, 3) := by decide +kernel
theorem dX2_changeMap_4 : decode cX2_changeMap 4 = .ok (.iconst 0, 1) := by decide +kernel
theorem dX2_changeMap_5 : decode cX2_changeMap 5 = .ok (.iaload, 1) := by decide +kernel
theorem dX2_changeMap_6 : decode cX2_changeMap 6 = .ok (.istore_n 3, 1) := by decide +kernel
theorem dX2_changeMap_7 : decode cX2_changeMap 7 = .ok (.aload_n 0, 1) := by decide +kernel
theorem dX2_changeMap_8 : decode cX2_changeMap 8 = .ok (.getfield 15, 3) := by decide +kernel
theorem dX2_changeMap_11 : decode cX2_changeMap 11 = .ok (.iconst 1, 1) := by decide +kernel
theorem dX2_changeMap_12 : decode cX2_changeMap 12 = .ok (.iaload, 1) := by decide +kernel
theorem dX2_changeMap_13 : decode cX2_changeMap 13 = .ok (.istore 4, 2) := by decide +kernel
theorem dX2_changeMap_15 : decode cX2_changeMap 15 = .ok (.aload_n 0, 1) := by decide +kernel
theorem dX2_changeMap_16 : decode cX2_changeMap 16 = .ok (.getfield 18, 3) := by decide +kernel
theorem dX2_changeMap_19 : decode cX2_changeMap 19 = .ok (.iload_n 3, 1) := by decide +kernel
theorem dX2_changeMap_20 : decode cX2_changeMap 20 = .ok (.dup2, 1) := by decide +kernel
theorem dX2_changeMap_21 : decode cX2_changeMap 21 = .ok (.iaload, 1) := by decide +kernel
theorem dX2_changeMap_22 : decode cX2_changeMap 22 = .ok (.iconst 1, 1) := by decide +kernel
theorem dX2_changeMap_23 : decode cX2_changeMap 23 = .ok (.iload 4, 2) := by decide +kernel
theorem dX2_changeMap_25 : decode cX2_changeMap 25 = .ok (.ishl, 1) := by decide +kernel
theorem dX2_changeMap_26 : decode cX2_changeMap 26 = .ok (.ior, 1) := by decide +kernel
theorem dX2_changeMap_27 : decode cX2_changeMap 27 = .ok (.iastore, 1) := by decide +kernel
theorem dX2_changeMap_28 : decode cX2_changeMap 28 = .ok (.iload_n 1, 1) := by decide +kernel
theorem dX2_changeMap_29 : decode cX2_changeMap 29 = .ok (.iconst 3, 1) := by decide +kernel
theorem dX2_changeMap_30 : decode cX2_changeMap 30 = .ok (.if_icmp .ne 25, 3) := by decide +kernel
theorem dX2_changeMap_33 : decode cX2_changeMap 33 = .ok (.aload_n 2, 1) := by decide +kernel
theorem dX2_changeMap_34 : decode cX2_changeMap 34 = .ok (.iload_n 3, 1) := by decide +kernel
theorem dX2_changeMap_35 : decode cX2_changeMap 35 = .ok (.iload 4, 2) := by decide +kernel
theorem dX2_changeMap_37 : decode cX2_changeMap 37 = .ok (.aload_n 0, 1) := by decide +kernel
theorem dX2_changeMap_38 : decode cX2_changeMap 38 = .ok (.getfield 15, 3) := by decide +kernel
theorem dX2_changeMap_41 : decode cX2_changeMap 41 = .ok (.iconst 2, 1) := by decide +kernel
theorem dX2_changeMap_42 : decode cX2_changeMap 42 = .ok (.iaload, 1) := by decide +kernel
theorem dX2_changeMap_43 : decode cX2_changeMap 43 = .ok (.aload_n 0, 1) := by decide +kernel
theorem dX2_changeMap_44 : decode cX2_changeMap 44 = .ok (.getfield 15, 3) := by decide +kernel
theorem dX2_changeMap_47 : decode cX2_changeMap 47 = .ok (.iconst 3, 1) := by decide +kernel
theorem dX2_changeMap_48 : decode cX2_changeMap 48 = .ok (.iaload, 1) := by decide +kernel
theorem dX2_changeMap_49 : decode cX2_changeMap 49 = .ok (.invokevirtual 174, 3) := by decide +kernel
theorem dX2_changeMap_52 : decode cX2_changeMap 52 = .ok (.goto 44, 3) := by decide +kernel
theorem dX2_changeMap_55 : decode cX2_changeMap 55 = .ok (.aload_n 2, 1) := by decide +kernel
theorem dX2_changeMap_56 : decode cX2_changeMap 56 = .ok (.iload_n 3, 1) := by decide +kernel
theorem dX2_changeMap_57 : decode cX2_changeMap 57 = .ok (.iload 4, 2) := by decide +kernel
theorem dX2_changeMap_59 : decode cX2_changeMap 59 = .ok (.aload_n 2, 1) := by decide +kernel
theorem dX2_changeMap_60 : decode cX2_changeMap 60 = .ok (.getfield 144, 3) := by decide +kernel
theorem dX2_changeMap_63 : decode cX2_changeMap 63 = .ok (.iload 4, 2) := by decide +kernel
theorem dX2_changeMap_65 : decode cX2_changeMap 65 = .ok (.iaload, 1) := by decide +kernel
theorem dX2_changeMap_66 : decode cX2_changeMap 66 = .ok (.aload_n 0, 1) := by decide +kernel
theorem dX2_changeMap_67 : decode cX2_changeMap 67 = .ok (.getfield 15, 3) := by decide +kernel
theorem dX2_changeMap_70 : decode cX2_changeMap 70 = .ok (.iconst 2, 1) := by decide +kernel
theorem dX2_changeMap_71 : decode cX2_changeMap 71 = .ok (.iaload, 1) := by decide +kernel
theorem dX2_changeMap_72 : decode cX2_changeMap 72 = .ok (.iadd, 1) := by decide +kernel
theorem dX2_changeMap_73 : decode cX2_changeMap 73 = .ok (.bipush 9, 2) := by decide +kernel
theorem dX2_changeMap_75 : decode cX2_changeMap 75 = .ok (.isub, 1) := by decide +kernel
theorem dX2_changeMap_76 : decode cX2_changeMap 76 = .ok (.aload_n 2, 1) := by decide +kernel
theorem dX2_changeMap_77 : decode cX2_changeMap 77 = .ok (.getfield 147, 3) := by decide +kernel
theorem dX2_changeMap_80 : decode cX2_changeMap 80 = .ok (.iload 4, 2) := by decide +kernel
theorem dX2_changeMap_82 : decode cX2_changeMap 82 = .ok (.iaload, 1) := by decide +kernel
theorem dX2_changeMap_83 : decode cX2_changeMap 83 = .ok (.aload_n 0, 1) := by decide +kernel
theorem dX2_changeMap_84 : decode cX2_changeMap 84 = .ok (.getfield 15, 3) := by decide +kernel
theorem dX2_changeMap_87 : decode cX2_changeMap 87 = .ok (.iconst 3, 1) := by decide +kernel
theorem dX2_changeMap_88 : decode cX2_changeMap 88 = .ok (.iaload, 1) := by decide +kernel
theorem dX2_changeMap_89 : decode cX2_changeMap 89 = .ok (.iadd, 1) := by decide +kernel
theorem dX2_changeMap_90 : decode cX2_changeMap 90 = .ok (.bipush 9, 2) := by decide +kernel
theorem dX2_changeMap_92 : decode cX2_changeMap 92 = .ok (.isub, 1) := by decide +kernel
theorem dX2_changeMap_93 : decode cX2_changeMap 93 = .ok (.invokevirtual 178, 3) := by decide +kernel
theorem dX2_changeMap_96 : decode cX2_changeMap 96 = .ok (.return_, 1) := by decide +kernel
theorem dX3_init_0 : decode cX3_init 0 = .ok (.aload_n 0, 1) := by decide +kernel
theorem dX3_init_1 : decode cX3_init 1 = .ok (.invokespecial 3, 3) := by decide +kernel
theorem dX3_init_4 : decode cX3_init 4 = .ok (.aload_n 0, 1) := by decide +kernel
theorem dX3_init_5 : decode cX3_init 5 = .ok (.bipush 20, 2) := by decide +kernel
theorem dX3_init_7 : decode cX3_init 7 = .ok (.newarray .int, 2) := by decide +kernel
theorem dX3_init_9 : decode cX3_init 9 = .ok (.putfield 9, 3) := by decide +kernel
theorem dX3_init_12 : decode cX3_init 12 = .ok (.aload_n 0, 1) := by decide +kernel
theorem dX3_init_13 : decode cX3_init 13 = .ok (.bipush 20, 2) := by decide +kernel
theorem dX3_init_15 : decode cX3_init 15 = .ok (.newarray .int, 2) := by decide +kernel
theorem dX3_init_17 : decode cX3_init 17 = .ok (.putfield 15, 3) := by decide +kernel
theorem dX3_init_20 : decode cX3_init 20 = .ok (.aload_n 0, 1) := by decide +kernel
theorem dX3_init_21 : decode cX3_init 21 = .ok (.bipush 20, 2) := by decide +kernel
theorem dX3_init_23 : decode cX3_init 23 = .ok (.newarray .boolean, 2) := by decide +kernel
theorem dX3_init_25 : decode cX3_init 25 = .ok (.putfield 18, 3) := by decide +kernel
theorem dX3_init_28 : decode cX3_init 28 = .ok (.aload_n 0, 1) := by decide +kernel
theorem dX3_init_29 : decode cX3_init 29 = .ok (.iconst 0, 1) := by decide +kernel
theorem dX3_init_30 : decode cX3_init 30 = .ok (.putfield 22, 3) := by decide +kernel
theorem dX3_init_33 : decode cX3_init 33 = .ok (.return_, 1) := by decide +kernel
theorem dX3_add_0 : decode cX3_add 0 = .ok (.aload_n 0, 1) := by decide +kernel
theorem dX3_add_1 : decode cX3_add 1 = .ok (.getfield 9, 3) := by decide +kernel
theorem dX3_add_4 : decode cX3_add 4 = .ok (.aload_n 0, 1) := by decide +kernel
theorem dX3_add_5 : decode cX3_add 5 = .ok (.getfield 22, 3) := by decide +kernel
theorem dX3_add_8 : decode cX3_add 8 = .ok (.iload_n 1, 1) := by decide +kernel
theorem dX3_add_9 : decode cX3_add 9 = .ok (.iastore, 1) := by decide +kernel
theorem dX3_add_10 : decode cX3_add 10 = .ok (.aload_n 0, 1) := by decide +kernel
theorem dX3_add_11 : decode cX3_add 11 = .ok (.getfield 15, 3) := by decide +kernel
theorem dX3_add_14 : decode cX3_add 14 = .ok (.aload_n 0, 1) := by decide +kernel
theorem dX3_add_15 : decode cX3_add 15 = .ok (.getfield 22, 3) := by decide +kernel
theorem dX3_add_18 : decode cX3_add 18 = .ok (.iload_n 2, 1) := by decide +kernel
theorem dX3_add_19 : decode cX3_add 19 = .ok (.iastore, 1) := by decide +kernel
theorem dX3_add_20 : decode cX3_add 20 = .ok (.aload_n 0, 1) := by decide +kernel
theorem dX3_add_21 : decode cX3_add 21 = .ok (.getfield 18, 3) := by decide +kernel
theorem dX3_add_24 : decode cX3_add 24 = .ok (.aload_n 0, 1) := by decide +kernel
theorem dX3_add_25 : decode cX3_add 25 = .ok (.getfield 22, 3) := by decide +kernel
theorem dX3_add_28 : decode cX3_add 28 = .ok (.iload_n 3, 1) := by decide +kernel
theorem dX3_add_29 : decode cX3_add 29 = .ok (.bastore, 1) := by decide +kernel
theorem dX3_add_30 : decode cX3_add 30 = .ok (.aload_n 0, 1) := by decide +kernel
theorem dX3_add_31 : decode cX3_add 31 = .ok (.dup, 1) := by decide +kernel
theorem dX3_add_32 : decode cX3_add 32 = .ok (.getfield 22, 3) := by decide +kernel
theorem dX3_add_35 : decode cX3_add 35 = .ok (.iconst 1, 1) := by decide +kernel
theorem dX3_add_36 : decode cX3_add 36 = .ok (.iadd, 1) := by decide +kernel
theorem dX3_add_37 : decode cX3_add 37 = .ok (.putfield 22, 3) := by decide +kernel
theorem dX3_add_40 : decode cX3_add 40 = .ok (.aload_n 0, 1) := by decide +kernel
theorem dX3_add_41 : decode cX3_add 41 = .ok (.getfield 22, 3) := by decide +kernel
theorem dX3_add_44 : decode cX3_add 44 = .ok (.iconst 1, 1) := by decide +kernel
theorem dX3_add_45 : decode cX3_add 45 = .ok (.isub, 1) := by decide +kernel
theorem dX3_add_46 : decode cX3_add 46 = .ok (.ireturn, 1) := by decide +kernel
theorem dX3_isTrue_0 : decode cX3_isTrue 0 = .ok (.iload_n 2, 1) := by decide +kernel
theorem dX3_isTrue_1 : decode cX3_isTrue 1 = .ok (.aload_n 0, 1) := by decide +kernel
theorem dX3_isTrue_2 : decode cX3_isTrue 2 = .ok (.getfield 15, 3) := by decide +kernel
theorem dX3_isTrue_5 : decode cX3_isTrue 5 = .ok (.iload_n 1, 1) := by decide +kernel
theorem dX3_isTrue_6 : decode cX3_isTrue 6 = .ok (.iaload, 1) := by decide +kernel
theorem dX3_isTrue_7 : decode cX3_isTrue 7 = .ok (.invokestatic 26, 3) := by decide +kernel
theorem dX3_isTrue_10 : decode cX3_isTrue 10 = .ok (.aload_n 0, 1) := by decide +kernel
theorem dX3_isTrue_11 : decode cX3_isTrue 11 = .ok (.getfield 18, 3) := by decide +kernel
theorem dX3_isTrue_14 : decode cX3_isTrue 14 = .ok (.iload_n 1, 1) := by decide +kernel
theorem dX3_isTrue_15 : decode cX3_isTrue 15 = .ok (.baload, 1) := by decide +kernel
theorem dX3_isTrue_16 : decode cX3_isTrue 16 = .ok (.if_icmp .ne 7, 3) := by decide +kernel
theorem dX3_isTrue_19 : decode cX3_isTrue 19 = .ok (.iconst 1, 1) := by decide +kernel
theorem dX3_isTrue_20 : decode cX3_isTrue 20 = .ok (.goto 4, 3) := by decide +kernel
theorem dX3_isTrue_23 : decode cX3_isTrue 23 = .ok (.iconst 0, 1) := by decide +kernel
theorem dX3_isTrue_24 : decode cX3_isTrue 24 = .ok (.ireturn, 1) := by decide +kernel
theorem dX3_untrueOf_0 : decode cX3_untrueOf 0 = .ok (.iconst 0, 1) := by decide +kernel
theorem dX3_untrueOf_1 : decode cX3_untrueOf 1 = .ok (.istore_n 3, 1) := by decide +kernel
theorem dX3_untrueOf_2 : decode cX3_untrueOf 2 = .ok (.iconst 0, 1) := by decide +kernel
theorem dX3_untrueOf_3 : decode cX3_untrueOf 3 = .ok (.istore 4, 2) := by decide +kernel
theorem dX3_untrueOf_5 : decode cX3_untrueOf 5 = .ok (.iload 4, 2) := by decide +kernel
theorem dX3_untrueOf_7 : decode cX3_untrueOf 7 = .ok (.aload_n 0, 1) := by decide +kernel
theorem dX3_untrueOf_8 : decode cX3_untrueOf 8 = .ok (.getfield 22, 3) := by decide +kernel
theorem dX3_untrueOf_11 : decode cX3_untrueOf 11 = .ok (.if_icmp .ge 33, 3) := by decide +kernel
theorem dX3_untrueOf_14 : decode cX3_untrueOf 14 = .ok (.aload_n 0, 1) := by decide +kernel
theorem dX3_untrueOf_15 : decode cX3_untrueOf 15 = .ok (.getfield 9, 3) := by decide +kernel
theorem dX3_untrueOf_18 : decode cX3_untrueOf 18 = .ok (.iload 4, 2) := by decide +kernel
theorem dX3_untrueOf_20 : decode cX3_untrueOf 20 = .ok (.iaload, 1) := by decide +kernel
theorem dX3_untrueOf_21 : decode cX3_untrueOf 21 = .ok (.iload_n 1, 1) := by decide +kernel
theorem dX3_untrueOf_22 : decode cX3_untrueOf 22 = .ok (.if_icmp .ne 16, 3) := by decide +kernel
theorem dX3_untrueOf_25 : decode cX3_untrueOf 25 = .ok (.aload_n 0, 1) := by decide +kernel
theorem dX3_untrueOf_26 : decode cX3_untrueOf 26 = .ok (.iload 4, 2) := by decide +kernel
theorem dX3_untrueOf_28 : decode cX3_untrueOf 28 = .ok (.iload_n 2, 1) := by decide +kernel
theorem dX3_untrueOf_29 : decode cX3_untrueOf 29 = .ok (.invokevirtual 30, 3) := by decide +kernel
theorem dX3_untrueOf_32 : decode cX3_untrueOf 32 = .ok (.ifCond .ne 6, 3) := by decide +kernel
theorem dX3_untrueOf_35 : decode cX3_untrueOf 35 = .ok (.iinc 3 1, 3) := by decide +kernel
theorem dX3_untrueOf_38 : decode cX3_untrueOf 38 = .ok (.iinc 4 1, 3) := by decide +kernel
theorem dX3_untrueOf_41 : decode cX3_untrueOf 41 = .ok (.goto (-36), 3) := by decide +kernel
theorem dX3_untrueOf_44 : decode cX3_untrueOf 44 = .ok (.iload_n 3, 1) := by decide +kernel
theorem dX3_untrueOf_45 : decode cX3_untrueOf 45 = .ok (.ireturn, 1) := by decide +kernel
theorem dX3_bandOfMostUntrue_0 : decode cX3_bandOfMostUntrue 0 = .ok (.iconst (-1), 1) := by decide +kernel
theorem dX3_bandOfMostUntrue_1 : decode cX3_bandOfMostUntrue 1 = .ok (.istore_n 2, 1) := by decide +kernel
theorem dX3_bandOfMostUntrue_2 : decode cX3_bandOfMostUntrue 2 = .ok (.iconst 0, 1) := by decide +kernel
theorem dX3_bandOfMostUntrue_3 : decode cX3_bandOfMostUntrue 3 = .ok (.istore_n 3, 1) := by decide +kernel
theorem dX3_bandOfMostUntrue_4 : decode cX3_bandOfMostUntrue 4 = .ok (.iconst 0, 1) := by decide +kernel
theorem dX3_bandOfMostUntrue_5 : decode cX3_bandOfMostUntrue 5 = .ok (.istore 4, 2) := by decide +kernel
theorem dX3_bandOfMostUntrue_7 : decode cX3_bandOfMostUntrue 7 = .ok (.iload 4, 2) := by decide +kernel
theorem dX3_bandOfMostUntrue_9 : decode cX3_bandOfMostUntrue 9 = .ok (.bipush 6, 2) := by decide +kernel
theorem dX3_bandOfMostUntrue_11 : decode cX3_bandOfMostUntrue 11 = .ok (.if_icmp .ge 30, 3) := by decide +kernel
theorem dX3_bandOfMostUntrue_14 : decode cX3_bandOfMostUntrue 14 = .ok (.aload_n 0, 1) := by decide +kernel
theorem dX3_bandOfMostUntrue_15 : decode cX3_bandOfMostUntrue 15 = .ok (.iload 4, 2) := by decide +kernel
theorem dX3_bandOfMostUntrue_17 : decode cX3_bandOfMostUntrue 17 = .ok (.iload_n 1, 1) := by decide +kernel
theorem dX3_bandOfMostUntrue_18 : decode cX3_bandOfMostUntrue 18 = .ok (.invokevirtual 33, 3) := by decide +kernel
theorem dX3_bandOfMostUntrue_21 : decode cX3_bandOfMostUntrue 21 = .ok (.istore 5, 2) := by decide +kernel
theorem dX3_bandOfMostUntrue_23 : decode cX3_bandOfMostUntrue 23 = .ok (.iload 5, 2) := by decide +kernel
theorem dX3_bandOfMostUntrue_25 : decode cX3_bandOfMostUntrue 25 = .ok (.iload_n 3, 1) := by decide +kernel
theorem dX3_bandOfMostUntrue_26 : decode cX3_bandOfMostUntrue 26 = .ok (.if_icmp .le 9, 3) := by decide +kernel
theorem dX3_bandOfMostUntrue_29 : decode cX3_bandOfMostUntrue 29 = .ok (.iload 5, 2) := by decide +kernel
theorem dX3_bandOfMostUntrue_31 : decode cX3_bandOfMostUntrue 31 = .ok (.istore_n 3, 1) := by decide +kernel
theorem dX3_bandOfMostUntrue_32 : decode cX3_bandOfMostUntrue 32 = .ok (.iload 4, 2) := by decide +kernel
theorem dX3_bandOfMostUntrue_34 : decode cX3_bandOfMostUntrue 34 = .ok (.istore_n 2, 1) := by decide +kernel
theorem dX3_bandOfMostUntrue_35 : decode cX3_bandOfMostUntrue 35 = .ok (.iinc 4 1, 3) := by decide +kernel
theorem dX3_bandOfMostUntrue_38 : decode cX3_bandOfMostUntrue 38 = .ok (.goto (-31), 3) := by decide +kernel
theorem dX3_bandOfMostUntrue_41 : decode cX3_bandOfMostUntrue 41 = .ok (.iload_n 2, 1) := by decide +kernel
theorem dX3_bandOfMostUntrue_42 : decode cX3_bandOfMostUntrue 42 = .ok (.ireturn, 1) := by decide +kernel
theorem dX4_init_0 : decode cX4_init 0 = .ok (.aload_n 0, 1) := by decide +kernel
theorem dX4_init_1 : decode cX4_init 1 = .ok (.invokespecial 3, 3) := by decide +kernel
theorem dX4_init_4 : decode cX4_init 4 = .ok (.aload_n 0, 1) := by decide +kernel
theorem dX4_init_5 : decode cX4_init 5 = .ok (.bipush 36, 2) := by decide +kernel
theorem dX4_init_7 : decode cX4_init 7 = .ok (.newarray .int, 2) := by decide +kernel
theorem dX4_init_9 : decode cX4_init 9 = .ok (.putfield 9, 3) := by decide +kernel
theorem dX4_init_12 : decode cX4_init 12 = .ok (.aload_n 0, 1) := by decide +kernel
theorem dX4_init_13 : decode cX4_init 13 = .ok (.bipush 20, 2) := by decide +kernel
theorem dX4_init_15 : decode cX4_init 15 = .ok (.newarray .int, 2) := by decide +kernel
theorem dX4_init_17 : decode cX4_init 17 = .ok (.putfield 15, 3) := by decide +kernel
theorem dX4_init_20 : decode cX4_init 20 = .ok (.aload_n 0, 1) := by decide +kernel
theorem dX4_init_21 : decode cX4_init 21 = .ok (.bipush 20, 2) := by decide +kernel
theorem dX4_init_23 : decode cX4_init 23 = .ok (.newarray .int, 2) := by decide +kernel
theorem dX4_init_25 : decode cX4_init 25 = .ok (.putfield 18, 3) := by decide +kernel
theorem dX4_init_28 : decode cX4_init 28 = .ok (.aload_n 0, 1) := by decide +kernel
theorem dX4_init_29 : decode cX4_init 29 = .ok (.bipush 6, 2) := by decide +kernel
theorem dX4_init_31 : decode cX4_init 31 = .ok (.newarray .int, 2) := by decide +kernel
theorem dX4_init_33 : decode cX4_init 33 = .ok (.putfield 21, 3) := by decide +kernel
theorem dX4_init_36 : decode cX4_init 36 = .ok (.aload_n 0, 1) := by decide +kernel
theorem dX4_init_37 : decode cX4_init 37 = .ok (.iconst 0, 1) := by decide +kernel
theorem dX4_init_38 : decode cX4_init 38 = .ok (.putfield 24, 3) := by decide +kernel
theorem dX4_init_41 : decode cX4_init 41 = .ok (.aload_n 0, 1) := by decide +kernel
theorem dX4_init_42 : decode cX4_init 42 = .ok (.iconst (-1), 1) := by decide +kernel
theorem dX4_init_43 : decode cX4_init 43 = .ok (.putfield 28, 3) := by decide +kernel
theorem dX4_init_46 : decode cX4_init 46 = .ok (.aload_n 0, 1) := by decide +kernel
theorem dX4_init_47 : decode cX4_init 47 = .ok (.iconst 0, 1) := by decide +kernel
theorem dX4_init_48 : decode cX4_init 48 = .ok (.putfield 31, 3) := by decide +kernel
theorem dX4_init_51 : decode cX4_init 51 = .ok (.return_, 1) := by decide +kernel
theorem dX4_begin_0 : decode cX4_begin 0 = .ok (.aload_n 0, 1) := by decide +kernel
theorem dX4_begin_1 : decode cX4_begin 1 = .ok (.getfield 9, 3) := by decide +kernel
theorem dX4_begin_4 : decode cX4_begin 4 = .ok (.iconst 0, 1) := by decide +kernel
theorem dX4_begin_5 : decode cX4_begin 5 = .ok (.invokestatic 34, 3) := by decide +kernel
theorem dX4_begin_8 : decode cX4_begin 8 = .ok (.aload_n 0, 1) := by decide +kernel
theorem dX4_begin_9 : decode cX4_begin 9 = .ok (.getfield 21, 3) := by decide +kernel
theorem dX4_begin_12 : decode cX4_begin 12 = .ok (.iconst 0, 1) := by decide +kernel
theorem dX4_begin_13 : decode cX4_begin 13 = .ok (.invokestatic 34, 3) := by decide +kernel
theorem dX4_begin_16 : decode cX4_begin 16 = .ok (.iconst 0, 1) := by decide +kernel
theorem dX4_begin_17 : decode cX4_begin 17 = .ok (.istore_n 2, 1) := by decide +kernel
theorem dX4_begin_18 : decode cX4_begin 18 = .ok (.iload_n 2, 1) := by decide +kernel
theorem dX4_begin_19 : decode cX4_begin 19 = .ok (.bipush 6, 2) := by decide +kernel
theorem dX4_begin_21 : decode cX4_begin 21 = .ok (.if_icmp .ge 25, 3) := by decide +kernel
theorem dX4_begin_24 : decode cX4_begin 24 = .ok (.aload_n 0, 1) := by decide +kernel
theorem dX4_begin_25 : decode cX4_begin 25 = .ok (.getfield 9, 3) := by decide +kernel
theorem dX4_begin_28 : decode cX4_begin 28 = .ok (.iload_n 2, 1) := by decide +kernel
theorem dX4_begin_29 : decode cX4_begin 29 = .ok (.bipush 6, 2) := by decide +kernel
theorem dX4_begin_31 : decode cX4_begin 31 = .ok (.imul, 1) := by decide +kernel
theorem dX4_begin_32 : decode cX4_begin 32 = .ok (.iload_n 2, 1) := by decide +kernel
theorem dX4_begin_33 : decode cX4_begin 33 = .ok (.iadd, 1) := by decide +kernel
theorem dX4_begin_34 : decode cX4_begin 34 = .ok (.iconst 1, 1) := by decide +kernel
theorem dX4_begin_35 : decode cX4_begin 35 = .ok (.iload_n 1, 1) := by decide +kernel
theorem dX4_begin_36 : decode cX4_begin 36 = .ok (.ishl, 1) := by decide +kernel
theorem dX4_begin_37 : decode cX4_begin 37 = .ok (.iconst 1, 1) := by decide +kernel
theorem dX4_begin_38 : decode cX4_begin 38 = .ok (.isub, 1) := by decide +kernel
theorem dX4_begin_39 : decode cX4_begin 39 = .ok (.iastore, 1) := by decide +kernel
theorem dX4_begin_40 : decode cX4_begin 40 = .ok (.iinc 2 1, 3) := by decide +kernel
theorem dX4_begin_43 : decode cX4_begin 43 = .ok (.goto (-25), 3) := by decide +kernel
theorem dX4_begin_46 : decode cX4_begin 46 = .ok (.aload_n 0, 1) := by decide +kernel
theorem dX4_begin_47 : decode cX4_begin 47 = .ok (.iconst 0, 1) := by decide +kernel
theorem dX4_begin_48 : decode cX4_begin 48 = .ok (.putfield 24, 3) := by decide +kernel
theorem dX4_begin_51 : decode cX4_begin 51 = .ok (.aload_n 0, 1) := by decide +kernel
theorem dX4_begin_52 : decode cX4_begin 52 = .ok (.iconst (-1), 1) := by decide +kernel
theorem dX4_begin_53 : decode cX4_begin 53 = .ok (.putfield 28, 3) := by decide +kernel
theorem dX4_begin_56 : decode cX4_begin 56 = .ok (.return_, 1) := by decide +kernel
theorem dX4_copyFrom_0 : decode cX4_copyFrom 0 = .ok (.aload_n 1, 1) := by decide +kernel
theorem dX4_copyFrom_1 : decode cX4_copyFrom 1 = .ok (.getfield 9, 3) := by decide +kernel
theorem dX4_copyFrom_4 : decode cX4_copyFrom 4 = .ok (.iconst 0, 1) := by decide +kernel
theorem dX4_copyFrom_5 : decode cX4_copyFrom 5 = .ok (.aload_n 0, 1) := by decide +kernel
theorem dX4_copyFrom_6 : decode cX4_copyFrom 6 = .ok (.getfield 9, 3) := by decide +kernel
theorem dX4_copyFrom_9 : decode cX4_copyFrom 9 = .ok (.iconst 0, 1) := by decide +kernel
theorem dX4_copyFrom_10 : decode cX4_copyFrom 10 = .ok (.aload_n 0, 1) := by decide +kernel
theorem dX4_copyFrom_11 : decode cX4_copyFrom 11 = .ok (.getfield 9, 3) := by decide +kernel
theorem dX4_copyFrom_14 : decode cX4_copyFrom 14 = .ok (.arraylength, 1) := by decide +kernel
theorem dX4_copyFrom_15 : decode cX4_copyFrom 15 = .ok (.invokestatic 40, 3) := by decide +kernel
theorem dX4_copyFrom_18 : decode cX4_copyFrom 18 = .ok (.aload_n 1, 1) := by decide +kernel
theorem dX4_copyFrom_19 : decode cX4_copyFrom 19 = .ok (.getfield 15, 3) := by decide +kernel
theorem dX4_copyFrom_22 : decode cX4_copyFrom 22 = .ok (.iconst 0, 1) := by decide +kernel
theorem dX4_copyFrom_23 : decode cX4_copyFrom 23 = .ok (.aload_n 0, 1) := by decide +kernel
theorem dX4_copyFrom_24 : decode cX4_copyFrom 24 = .ok (.getfield 15, 3) := by decide +kernel
theorem dX4_copyFrom_27 : decode cX4_copyFrom 27 = .ok (.iconst 0, 1) := by decide +kernel
theorem dX4_copyFrom_28 : decode cX4_copyFrom 28 = .ok (.bipush 20, 2) := by decide +kernel
theorem dX4_copyFrom_30 : decode cX4_copyFrom 30 = .ok (.invokestatic 40, 3) := by decide +kernel
theorem dX4_copyFrom_33 : decode cX4_copyFrom 33 = .ok (.aload_n 1, 1) := by decide +kernel
theorem dX4_copyFrom_34 : decode cX4_copyFrom 34 = .ok (.getfield 18, 3) := by decide +kernel
theorem dX4_copyFrom_37 : decode cX4_copyFrom 37 = .ok (.iconst 0, 1) := by decide +kernel
theorem dX4_copyFrom_38 : decode cX4_copyFrom 38 = .ok (.aload_n 0, 1) := by decide +kernel
theorem dX4_copyFrom_39 : decode cX4_copyFrom 39 = .ok (.getfield 18, 3) := by decide +kernel
theorem dX4_copyFrom_42 : decode cX4_copyFrom 42 = .ok (.iconst 0, 1) := by decide +kernel
theorem dX4_copyFrom_43 : decode cX4_copyFrom 43 = .ok (.bipush 20, 2) := by decide +kernel
theorem dX4_copyFrom_45 : decode cX4_copyFrom 45 = .ok (.invokestatic 40, 3) := by decide +kernel
theorem dX4_copyFrom_48 : decode cX4_copyFrom 48 = .ok (.aload_n 1, 1) := by decide +kernel
theorem dX4_copyFrom_49 : decode cX4_copyFrom 49 = .ok (.getfield 21, 3) := by decide +kernel
theorem dX4_copyFrom_52 : decode cX4_copyFrom 52 = .ok (.iconst 0, 1) := by decide +kernel
theorem dX4_copyFrom_53 : decode cX4_copyFrom 53 = .ok (.aload_n 0, 1) := by decide +kernel
theorem dX4_copyFrom_54 : decode cX4_copyFrom 54 = .ok (.getfield 21, 3) := by decide +kernel
theorem dX4_copyFrom_57 : decode cX4_copyFrom 57 = .ok (.iconst 0, 1) := by decide +kernel
theorem dX4_copyFrom_58 : decode cX4_copyFrom 58 = .ok (.bipush 6, 2) := by decide +kernel
theorem dX4_copyFrom_60 : decode cX4_copyFrom 60 = .ok (.invokestatic 40, 3) := by decide +kernel
theorem dX4_copyFrom_63 : decode cX4_copyFrom 63 = .ok (.aload_n 0, 1) := by decide +kernel
theorem dX4_copyFrom_64 : decode cX4_copyFrom 64 = .ok (.aload_n 1, 1) := by decide +kernel
theorem dX4_copyFrom_65 : decode cX4_copyFrom 65 = .ok (.getfield 24, 3) := by decide +kernel
theorem dX4_copyFrom_68 : decode cX4_copyFrom 68 = .ok (.putfield 24, 3) := by decide +kernel
theorem dX4_copyFrom_71 : decode cX4_copyFrom 71 = .ok (.aload_n 0, 1) := by decide +kernel
theorem dX4_copyFrom_72 : decode cX4_copyFrom 72 = .ok (.aload_n 1, 1) := by decide +kernel
theorem dX4_copyFrom_73 : decode cX4_copyFrom 73 = .ok (.getfield 28, 3) := by decide +kernel
theorem dX4_copyFrom_76 : decode cX4_copyFrom 76 = .ok (.putfield 28, 3) := by decide +kernel
theorem dX4_copyFrom_79 : decode cX4_copyFrom 79 = .ok (.aload_n 0, 1) := by decide +kernel
theorem dX4_copyFrom_80 : decode cX4_copyFrom 80 = .ok (.aload_n 1, 1) := by decide +kernel
theorem dX4_copyFrom_81 : decode cX4_copyFrom 81 = .ok (.getfield 31, 3) := by decide +kernel
theorem dX4_copyFrom_84 : decode cX4_copyFrom 84 = .ok (.putfield 31, 3) := by decide +kernel
theorem dX4_copyFrom_87 : decode cX4_copyFrom 87 = .ok (.return_, 1) := by decide +kernel
theorem dX4_has_0 : decode cX4_has 0 = .ok (.aload_n 0, 1) := by decide +kernel
theorem dX4_has_1 : decode cX4_has 1 = .ok (.getfield 9, 3) := by decide +kernel
theorem dX4_has_4 : decode cX4_has 4 = .ok (.iload_n 1, 1) := by decide +kernel
theorem dX4_has_5 : decode cX4_has 5 = .ok (.bipush 6, 2) := by decide +kernel
theorem dX4_has_7 : decode cX4_has 7 = .ok (.imul, 1) := by decide +kernel
theorem dX4_has_8 : decode cX4_has 8 = .ok (.iload_n 2, 1) := by decide +kernel
theorem dX4_has_9 : decode cX4_has 9 = .ok (.iadd, 1) := by decide +kernel
theorem dX4_has_10 : decode cX4_has 10 = .ok (.iaload, 1) := by decide +kernel
theorem dX4_has_11 : decode cX4_has 11 = .ok (.iload_n 3, 1) := by decide +kernel
theorem dX4_has_12 : decode cX4_has 12 = .ok (.invokestatic 46, 3) := by decide +kernel
theorem dX4_has_15 : decode cX4_has 15 = .ok (.ireturn, 1) := by decide +kernel
theorem dX4_learn_0 : decode cX4_learn 0 = .ok (.aload_n 0, 1) := by decide +kernel
theorem dX4_learn_1 : decode cX4_learn 1 = .ok (.getfield 9, 3) := by decide +kernel
theorem dX4_learn_4 : decode cX4_learn 4 = .ok (.iload_n 1, 1) := by decide +kernel
theorem dX4_learn_5 : decode cX4_learn 5 = .ok (.bipush 6, 2) := by decide +kernel
theorem dX4_learn_7 : decode cX4_learn 7 = .ok (.imul, 1) := by decide +kernel
theorem dX4_learn_8 : decode cX4_learn 8 = .ok (.iload_n 2, 1) := by decide +kernel
theorem dX4_learn_9 : decode cX4_learn 9 = .ok (.iadd, 1) := by decide +kernel
theorem dX4_learn_10 : decode cX4_learn 10 = .ok (.dup2, 1) := by decide +kernel
theorem dX4_learn_11 : decode cX4_learn 11 = .ok (.iaload, 1) := by decide +kernel
theorem dX4_learn_12 : decode cX4_learn 12 = .ok (.iconst 1, 1) := by decide +kernel
theorem dX4_learn_13 : decode cX4_learn 13 = .ok (.iload_n 3, 1) := by decide +kernel
theorem dX4_learn_14 : decode cX4_learn 14 = .ok (.ishl, 1) := by decide +kernel
theorem dX4_learn_15 : decode cX4_learn 15 = .ok (.ior, 1) := by decide +kernel
theorem dX4_learn_16 : decode cX4_learn 16 = .ok (.iastore, 1) := by decide +kernel
theorem dX4_learn_17 : decode cX4_learn 17 = .ok (.return_, 1) := by decide +kernel
theorem dX4_draw_0 : decode cX4_draw 0 = .ok (.aload_n 0, 1) := by decide +kernel
theorem dX4_draw_1 : decode cX4_draw 1 = .ok (.aload_n 0, 1) := by decide +kernel
theorem dX4_draw_2 : decode cX4_draw 2 = .ok (.getfield 31, 3) := by decide +kernel
theorem dX4_draw_5 : decode cX4_draw 5 = .ok (.i2l, 1) := by decide +kernel
theorem dX4_draw_6 : decode cX4_draw 6 = .ok (.ldc2_w 50, 3) := by decide +kernel
theorem dX4_draw_9 : decode cX4_draw 9 = .ok (.lmul, 1) := by decide +kernel
end
section
theorem dX4_draw_10 : decode cX4_draw 10 = .ok (.ldc2_w 52, 3) := by decide +kernel
theorem dX4_draw_13 : decode cX4_draw 13 = .ok (.ladd, 1) := by decide +kernel
theorem dX4_draw_14 : decode cX4_draw 14 = .ok (.ldc2_w 54, 3) := by decide +kernel
theorem dX4_draw_17 : decode cX4_draw 17 = .ok (.land, 1) := by decide +kernel
theorem dX4_draw_18 : decode cX4_draw 18 = .ok (.l2i, 1) := by decide +kernel
theorem dX4_draw_19 : decode cX4_draw 19 = .ok (.putfield 31, 3) := by decide +kernel
theorem dX4_draw_22 : decode cX4_draw 22 = .ok (.iload_n 1, 1) := by decide +kernel
theorem dX4_draw_23 : decode cX4_draw 23 = .ok (.iconst 1, 1) := by decide +kernel
theorem dX4_draw_24 : decode cX4_draw 24 = .ok (.if_icmp .ge 7, 3) := by decide +kernel
theorem dX4_draw_27 : decode cX4_draw 27 = .ok (.iconst 0, 1) := by decide +kernel
theorem dX4_draw_28 : decode cX4_draw 28 = .ok (.goto 12, 3) := by decide +kernel
theorem dX4_draw_31 : decode cX4_draw 31 = .ok (.aload_n 0, 1) := by decide +kernel
theorem dX4_draw_32 : decode cX4_draw 32 = .ok (.getfield 31, 3) := by decide +kernel
theorem dX4_draw_35 : decode cX4_draw 35 = .ok (.ldc 56, 2) := by decide +kernel
theorem dX4_draw_37 : decode cX4_draw 37 = .ok (.idiv, 1) := by decide +kernel
theorem dX4_draw_38 : decode cX4_draw 38 = .ok (.iload_n 1, 1) := by decide +kernel
theorem dX4_draw_39 : decode cX4_draw 39 = .ok (.irem, 1) := by decide +kernel
theorem dX4_draw_40 : decode cX4_draw 40 = .ok (.ireturn, 1) := by decide +kernel
theorem dX5_init_0 : decode cX5_init 0 = .ok (.aload_n 0, 1) := by decide +kernel
theorem dX5_init_1 : decode cX5_init 1 = .ok (.invokespecial 1, 3) := by decide +kernel
theorem dX5_init_4 : decode cX5_init 4 = .ok (.aload_n 0, 1) := by decide +kernel
theorem dX5_init_5 : decode cX5_init 5 = .ok (.sipush 400, 3) := by decide +kernel
theorem dX5_init_8 : decode cX5_init 8 = .ok (.newarray .byte, 2) := by decide +kernel
theorem dX5_init_10 : decode cX5_init 10 = .ok (.putfield 9, 3) := by decide +kernel
theorem dX5_init_13 : decode cX5_init 13 = .ok (.aload_n 0, 1) := by decide +kernel
theorem dX5_init_14 : decode cX5_init 14 = .ok (.iconst 0, 1) := by decide +kernel
theorem dX5_init_15 : decode cX5_init 15 = .ok (.putfield 13, 3) := by decide +kernel
theorem dX5_init_18 : decode cX5_init 18 = .ok (.aload_n 0, 1) := by decide +kernel
theorem dX5_init_19 : decode cX5_init 19 = .ok (.iconst (-1), 1) := by decide +kernel
theorem dX5_init_20 : decode cX5_init 20 = .ok (.putfield 17, 3) := by decide +kernel
theorem dX5_init_23 : decode cX5_init 23 = .ok (.aload_n 0, 1) := by decide +kernel
theorem dX5_init_24 : decode cX5_init 24 = .ok (.new 20, 3) := by decide +kernel
theorem dX5_init_27 : decode cX5_init 27 = .ok (.dup, 1) := by decide +kernel
theorem dX5_init_28 : decode cX5_init 28 = .ok (.invokespecial 22, 3) := by decide +kernel
theorem dX5_init_31 : decode cX5_init 31 = .ok (.putfield 23, 3) := by decide +kernel
theorem dX5_init_34 : decode cX5_init 34 = .ok (.aload_n 0, 1) := by decide +kernel
theorem dX5_init_35 : decode cX5_init 35 = .ok (.new 20, 3) := by decide +kernel
theorem dX5_init_38 : decode cX5_init 38 = .ok (.dup, 1) := by decide +kernel
theorem dX5_init_39 : decode cX5_init 39 = .ok (.invokespecial 22, 3) := by decide +kernel
theorem dX5_init_42 : decode cX5_init 42 = .ok (.putfield 27, 3) := by decide +kernel
theorem dX5_init_45 : decode cX5_init 45 = .ok (.aload_n 0, 1) := by decide +kernel
theorem dX5_init_46 : decode cX5_init 46 = .ok (.new 30, 3) := by decide +kernel
theorem dX5_init_49 : decode cX5_init 49 = .ok (.dup, 1) := by decide +kernel
theorem dX5_init_50 : decode cX5_init 50 = .ok (.invokespecial 32, 3) := by decide +kernel
theorem dX5_init_53 : decode cX5_init 53 = .ok (.putfield 33, 3) := by decide +kernel
theorem dX5_init_56 : decode cX5_init 56 = .ok (.aload_n 0, 1) := by decide +kernel
theorem dX5_init_57 : decode cX5_init 57 = .ok (.new 37, 3) := by decide +kernel
theorem dX5_init_60 : decode cX5_init 60 = .ok (.dup, 1) := by decide +kernel
theorem dX5_init_61 : decode cX5_init 61 = .ok (.invokespecial 39, 3) := by decide +kernel
theorem dX5_init_64 : decode cX5_init 64 = .ok (.putfield 40, 3) := by decide +kernel
theorem dX5_init_67 : decode cX5_init 67 = .ok (.aload_n 0, 1) := by decide +kernel
theorem dX5_init_68 : decode cX5_init 68 = .ok (.iconst 2, 1) := by decide +kernel
theorem dX5_init_69 : decode cX5_init 69 = .ok (.anewarray 37, 3) := by decide +kernel
theorem dX5_init_72 : decode cX5_init 72 = .ok (.dup, 1) := by decide +kernel
theorem dX5_init_73 : decode cX5_init 73 = .ok (.iconst 0, 1) := by decide +kernel
theorem dX5_init_74 : decode cX5_init 74 = .ok (.new 37, 3) := by decide +kernel
theorem dX5_init_77 : decode cX5_init 77 = .ok (.dup, 1) := by decide +kernel
theorem dX5_init_78 : decode cX5_init 78 = .ok (.invokespecial 39, 3) := by decide +kernel
theorem dX5_init_81 : decode cX5_init 81 = .ok (.aastore, 1) := by decide +kernel
theorem dX5_init_82 : decode cX5_init 82 = .ok (.dup, 1) := by decide +kernel
theorem dX5_init_83 : decode cX5_init 83 = .ok (.iconst 1, 1) := by decide +kernel
theorem dX5_init_84 : decode cX5_init 84 = .ok (.new 37, 3) := by decide +kernel
theorem dX5_init_87 : decode cX5_init 87 = .ok (.dup, 1) := by decide +kernel
theorem dX5_init_88 : decode cX5_init 88 = .ok (.invokespecial 39, 3) := by decide +kernel
theorem dX5_init_91 : decode cX5_init 91 = .ok (.aastore, 1) := by decide +kernel
theorem dX5_init_92 : decode cX5_init 92 = .ok (.putfield 44, 3) := by decide +kernel
theorem dX5_init_95 : decode cX5_init 95 = .ok (.aload_n 0, 1) := by decide +kernel
theorem dX5_init_96 : decode cX5_init 96 = .ok (.iconst 2, 1) := by decide +kernel
theorem dX5_init_97 : decode cX5_init 97 = .ok (.newarray .boolean, 2) := by decide +kernel
theorem dX5_init_99 : decode cX5_init 99 = .ok (.putfield 48, 3) := by decide +kernel
theorem dX5_init_102 : decode cX5_init 102 = .ok (.aload_n 0, 1) := by decide +kernel
theorem dX5_init_103 : decode cX5_init 103 = .ok (.new 52, 3) := by decide +kernel
theorem dX5_init_106 : decode cX5_init 106 = .ok (.dup, 1) := by decide +kernel
theorem dX5_init_107 : decode cX5_init 107 = .ok (.invokespecial 54, 3) := by decide +kernel
theorem dX5_init_110 : decode cX5_init 110 = .ok (.putfield 55, 3) := by decide +kernel
theorem dX5_init_113 : decode cX5_init 113 = .ok (.aload_n 0, 1) := by decide +kernel
theorem dX5_init_114 : decode cX5_init 114 = .ok (.new 59, 3) := by decide +kernel
theorem dX5_init_117 : decode cX5_init 117 = .ok (.dup, 1) := by decide +kernel
theorem dX5_init_118 : decode cX5_init 118 = .ok (.invokespecial 61, 3) := by decide +kernel
theorem dX5_init_121 : decode cX5_init 121 = .ok (.putfield 62, 3) := by decide +kernel
theorem dX5_init_124 : decode cX5_init 124 = .ok (.return_, 1) := by decide +kernel
theorem dX5_feed_0 : decode cX5_feed 0 = .ok (.iload_n 1, 1) := by decide +kernel
theorem dX5_feed_1 : decode cX5_feed 1 = .ok (.iconst 1, 1) := by decide +kernel
theorem dX5_feed_2 : decode cX5_feed 2 = .ok (.if_icmp .lt 9, 3) := by decide +kernel
theorem dX5_feed_5 : decode cX5_feed 5 = .ok (.iload_n 1, 1) := by decide +kernel
theorem dX5_feed_6 : decode cX5_feed 6 = .ok (.bipush 8, 2) := by decide +kernel
theorem dX5_feed_8 : decode cX5_feed 8 = .ok (.if_icmp .le 6, 3) := by decide +kernel
theorem dX5_feed_11 : decode cX5_feed 11 = .ok (.ldc 66, 2) := by decide +kernel
theorem dX5_feed_13 : decode cX5_feed 13 = .ok (.ireturn, 1) := by decide +kernel
theorem dX5_feed_14 : decode cX5_feed 14 = .ok (.aload_n 0, 1) := by decide +kernel
theorem dX5_feed_15 : decode cX5_feed 15 = .ok (.getfield 13, 3) := by decide +kernel
theorem dX5_feed_18 : decode cX5_feed 18 = .ok (.iload_n 1, 1) := by decide +kernel
theorem dX5_feed_19 : decode cX5_feed 19 = .ok (.iadd, 1) := by decide +kernel
theorem dX5_feed_20 : decode cX5_feed 20 = .ok (.sipush 400, 3) := by decide +kernel
theorem dX5_feed_23 : decode cX5_feed 23 = .ok (.if_icmp .le 6, 3) := by decide +kernel
theorem dX5_feed_26 : decode cX5_feed 26 = .ok (.ldc 67, 2) := by decide +kernel
theorem dX5_feed_28 : decode cX5_feed 28 = .ok (.ireturn, 1) := by decide +kernel
theorem dX5_feed_29 : decode cX5_feed 29 = .ok (.iload_n 1, 1) := by decide +kernel
theorem dX5_feed_30 : decode cX5_feed 30 = .ok (.iconst 1, 1) := by decide +kernel
theorem dX5_feed_31 : decode cX5_feed 31 = .ok (.isub, 1) := by decide +kernel
theorem dX5_feed_32 : decode cX5_feed 32 = .ok (.istore 4, 2) := by decide +kernel
theorem dX5_feed_34 : decode cX5_feed 34 = .ok (.iload 4, 2) := by decide +kernel
theorem dX5_feed_36 : decode cX5_feed 36 = .ok (.ifCond .lt 37, 3) := by decide +kernel
theorem dX5_feed_39 : decode cX5_feed 39 = .ok (.aload_n 0, 1) := by decide +kernel
theorem dX5_feed_40 : decode cX5_feed 40 = .ok (.getfield 9, 3) := by decide +kernel
theorem dX5_feed_43 : decode cX5_feed 43 = .ok (.aload_n 0, 1) := by decide +kernel
theorem dX5_feed_44 : decode cX5_feed 44 = .ok (.getfield 13, 3) := by decide +kernel
theorem dX5_feed_47 : decode cX5_feed 47 = .ok (.lload_n 2, 1) := by decide +kernel
theorem dX5_feed_48 : decode cX5_feed 48 = .ok (.bipush 8, 2) := by decide +kernel
theorem dX5_feed_50 : decode cX5_feed 50 = .ok (.iload 4, 2) := by decide +kernel
theorem dX5_feed_52 : decode cX5_feed 52 = .ok (.imul, 1) := by decide +kernel
theorem dX5_feed_53 : decode cX5_feed 53 = .ok (.lushr, 1) := by decide +kernel
theorem dX5_feed_54 : decode cX5_feed 54 = .ok (.l2i, 1) := by decide +kernel
theorem dX5_feed_55 : decode cX5_feed 55 = .ok (.i2b, 1) := by decide +kernel
theorem dX5_feed_56 : decode cX5_feed 56 = .ok (.bastore, 1) := by decide +kernel
theorem dX5_feed_57 : decode cX5_feed 57 = .ok (.aload_n 0, 1) := by decide +kernel
theorem dX5_feed_58 : decode cX5_feed 58 = .ok (.dup, 1) := by decide +kernel
theorem dX5_feed_59 : decode cX5_feed 59 = .ok (.getfield 13, 3) := by decide +kernel
theorem dX5_feed_62 : decode cX5_feed 62 = .ok (.iconst 1, 1) := by decide +kernel
theorem dX5_feed_63 : decode cX5_feed 63 = .ok (.iadd, 1) := by decide +kernel
theorem dX5_feed_64 : decode cX5_feed 64 = .ok (.putfield 13, 3) := by decide +kernel
theorem dX5_feed_67 : decode cX5_feed 67 = .ok (.iinc 4 (-1), 3) := by decide +kernel
theorem dX5_feed_70 : decode cX5_feed 70 = .ok (.goto (-36), 3) := by decide +kernel
theorem dX5_feed_73 : decode cX5_feed 73 = .ok (.aload_n 0, 1) := by decide +kernel
theorem dX5_feed_74 : decode cX5_feed 74 = .ok (.getfield 13, 3) := by decide +kernel
theorem dX5_feed_77 : decode cX5_feed 77 = .ok (.ireturn, 1) := by decide +kernel
theorem dX5_island_0 : decode cX5_island 0 = .ok (.aload_n 0, 1) := by decide +kernel
theorem dX5_island_1 : decode cX5_island 1 = .ok (.getfield 33, 3) := by decide +kernel
theorem dX5_island_4 : decode cX5_island 4 = .ok (.aload_n 0, 1) := by decide +kernel
theorem dX5_island_5 : decode cX5_island 5 = .ok (.getfield 9, 3) := by decide +kernel
theorem dX5_island_8 : decode cX5_island 8 = .ok (.aload_n 0, 1) := by decide +kernel
theorem dX5_island_9 : decode cX5_island 9 = .ok (.getfield 13, 3) := by decide +kernel
theorem dX5_island_12 : decode cX5_island 12 = .ok (.aload_n 0, 1) := by decide +kernel
theorem dX5_island_13 : decode cX5_island 13 = .ok (.getfield 27, 3) := by decide +kernel
theorem dX5_island_16 : decode cX5_island 16 = .ok (.invokevirtual 68, 3) := by decide +kernel
theorem dX5_island_19 : decode cX5_island 19 = .ok (.istore_n 1, 1) := by decide +kernel
theorem dX5_island_20 : decode cX5_island 20 = .ok (.aload_n 0, 1) := by decide +kernel
theorem dX5_island_21 : decode cX5_island 21 = .ok (.iconst 0, 1) := by decide +kernel
theorem dX5_island_22 : decode cX5_island 22 = .ok (.putfield 13, 3) := by decide +kernel
theorem dX5_island_25 : decode cX5_island 25 = .ok (.iload_n 1, 1) := by decide +kernel
theorem dX5_island_26 : decode cX5_island 26 = .ok (.ifCond .eq 19, 3) := by decide +kernel
theorem dX5_island_29 : decode cX5_island 29 = .ok (.aload_n 0, 1) := by decide +kernel
theorem dX5_island_30 : decode cX5_island 30 = .ok (.aload_n 0, 1) := by decide +kernel
theorem dX5_island_31 : decode cX5_island 31 = .ok (.getfield 33, 3) := by decide +kernel
theorem dX5_island_34 : decode cX5_island 34 = .ok (.getfield 72, 3) := by decide +kernel
theorem dX5_island_37 : decode cX5_island 37 = .ok (.putfield 17, 3) := by decide +kernel
theorem dX5_island_40 : decode cX5_island 40 = .ok (.bipush (-10), 2) := by decide +kernel
theorem dX5_island_42 : decode cX5_island 42 = .ok (.iload_n 1, 1) := by decide +kernel
theorem dX5_island_43 : decode cX5_island 43 = .ok (.isub, 1) := by decide +kernel
theorem dX5_island_44 : decode cX5_island 44 = .ok (.ireturn, 1) := by decide +kernel
theorem dX5_island_45 : decode cX5_island 45 = .ok (.aload_n 0, 1) := by decide +kernel
theorem dX5_island_46 : decode cX5_island 46 = .ok (.iconst (-1), 1) := by decide +kernel
theorem dX5_island_47 : decode cX5_island 47 = .ok (.putfield 17, 3) := by decide +kernel
theorem dX5_island_50 : decode cX5_island 50 = .ok (.aload_n 0, 1) := by decide +kernel
theorem dX5_island_51 : decode cX5_island 51 = .ok (.getfield 27, 3) := by decide +kernel
theorem dX5_island_54 : decode cX5_island 54 = .ok (.astore_n 2, 1) := by decide +kernel
theorem dX5_island_55 : decode cX5_island 55 = .ok (.aload_n 0, 1) := by decide +kernel
theorem dX5_island_56 : decode cX5_island 56 = .ok (.aload_n 0, 1) := by decide +kernel
theorem dX5_island_57 : decode cX5_island 57 = .ok (.getfield 23, 3) := by decide +kernel
theorem dX5_island_60 : decode cX5_island 60 = .ok (.putfield 27, 3) := by decide +kernel
theorem dX5_island_63 : decode cX5_island 63 = .ok (.aload_n 0, 1) := by decide +kernel
theorem dX5_island_64 : decode cX5_island 64 = .ok (.aload_n 2, 1) := by decide +kernel
theorem dX5_island_65 : decode cX5_island 65 = .ok (.putfield 23, 3) := by decide +kernel
theorem dX5_island_68 : decode cX5_island 68 = .ok (.aload_n 0, 1) := by decide +kernel
theorem dX5_island_69 : decode cX5_island 69 = .ok (.getfield 40, 3) := by decide +kernel
theorem dX5_island_72 : decode cX5_island 72 = .ok (.aload_n 0, 1) := by decide +kernel
theorem dX5_island_73 : decode cX5_island 73 = .ok (.getfield 23, 3) := by decide +kernel
theorem dX5_island_76 : decode cX5_island 76 = .ok (.getfield 75, 3) := by decide +kernel
theorem dX5_island_79 : decode cX5_island 79 = .ok (.invokevirtual 78, 3) := by decide +kernel
theorem dX5_island_82 : decode cX5_island 82 = .ok (.aload_n 0, 1) := by decide +kernel
theorem dX5_island_83 : decode cX5_island 83 = .ok (.getfield 55, 3) := by decide +kernel
theorem dX5_island_86 : decode cX5_island 86 = .ok (.iconst 0, 1) := by decide +kernel
theorem dX5_island_87 : decode cX5_island 87 = .ok (.putfield 82, 3) := by decide +kernel
theorem dX5_island_90 : decode cX5_island 90 = .ok (.iconst 0, 1) := by decide +kernel
theorem dX5_island_91 : decode cX5_island 91 = .ok (.istore_n 3, 1) := by decide +kernel
theorem dX5_island_92 : decode cX5_island 92 = .ok (.iload_n 3, 1) := by decide +kernel
theorem dX5_island_93 : decode cX5_island 93 = .ok (.iconst 2, 1) := by decide +kernel
theorem dX5_island_94 : decode cX5_island 94 = .ok (.if_icmp .ge 16, 3) := by decide +kernel
theorem dX5_island_97 : decode cX5_island 97 = .ok (.aload_n 0, 1) := by decide +kernel
theorem dX5_island_98 : decode cX5_island 98 = .ok (.getfield 48, 3) := by decide +kernel
theorem dX5_island_101 : decode cX5_island 101 = .ok (.iload_n 3, 1) := by decide +kernel
theorem dX5_island_102 : decode cX5_island 102 = .ok (.iconst 0, 1) := by decide +kernel
theorem dX5_island_103 : decode cX5_island 103 = .ok (.bastore, 1) := by decide +kernel
theorem dX5_island_104 : decode cX5_island 104 = .ok (.iinc 3 1, 3) := by decide +kernel
theorem dX5_island_107 : decode cX5_island 107 = .ok (.goto (-15), 3) := by decide +kernel
theorem dX5_island_110 : decode cX5_island 110 = .ok (.aload_n 0, 1) := by decide +kernel
theorem dX5_island_111 : decode cX5_island 111 = .ok (.getfield 23, 3) := by decide +kernel
theorem dX5_island_114 : decode cX5_island 114 = .ok (.getfield 75, 3) := by decide +kernel
theorem dX5_island_117 : decode cX5_island 117 = .ok (.ireturn, 1) := by decide +kernel
theorem dX5_fault_0 : decode cX5_fault 0 = .ok (.aload_n 0, 1) := by decide +kernel
theorem dX5_fault_1 : decode cX5_fault 1 = .ok (.getfield 17, 3) := by decide +kernel
theorem dX5_fault_4 : decode cX5_fault 4 = .ok (.ireturn, 1) := by decide +kernel
theorem dX5_told_0 : decode cX5_told 0 = .ok (.iload_n 1, 1) := by decide +kernel
theorem dX5_told_1 : decode cX5_told 1 = .ok (.tableswitch 156 0 11 #[63, 71, 79, 87, 95, 103, 111, 119, 127, 132, 140, 148], 63) := by decide +kernel
theorem dX5_told_64 : decode cX5_told 64 = .ok (.aload_n 0, 1) := by decide +kernel
theorem dX5_told_65 : decode cX5_told 65 = .ok (.getfield 23, 3) := by decide +kernel
theorem dX5_told_68 : decode cX5_told 68 = .ok (.getfield 75, 3) := by decide +kernel
theorem dX5_told_71 : decode cX5_told 71 = .ok (.ireturn, 1) := by decide +kernel
theorem dX5_told_72 : decode cX5_told 72 = .ok (.aload_n 0, 1) := by decide +kernel
theorem dX5_told_73 : decode cX5_told 73 = .ok (.getfield 23, 3) := by decide +kernel
theorem dX5_told_76 : decode cX5_told 76 = .ok (.getfield 85, 3) := by decide +kernel
theorem dX5_told_79 : decode cX5_told 79 = .ok (.ireturn, 1) := by decide +kernel
theorem dX5_told_80 : decode cX5_told 80 = .ok (.aload_n 0, 1) := by decide +kernel
theorem dX5_told_81 : decode cX5_told 81 = .ok (.getfield 23, 3) := by decide +kernel
theorem dX5_told_84 : decode cX5_told 84 = .ok (.getfield 88, 3) := by decide +kernel
theorem dX5_told_87 : decode cX5_told 87 = .ok (.ireturn, 1) := by decide +kernel
theorem dX5_told_88 : decode cX5_told 88 = .ok (.aload_n 0, 1) := by decide +kernel
theorem dX5_told_89 : decode cX5_told 89 = .ok (.getfield 23, 3) := by decide +kernel
theorem dX5_told_92 : decode cX5_told 92 = .ok (.getfield 91, 3) := by decide +kernel
theorem dX5_told_95 : decode cX5_told 95 = .ok (.ireturn, 1) := by decide +kernel
theorem dX5_told_96 : decode cX5_told 96 = .ok (.aload_n 0, 1) := by decide +kernel
theorem dX5_told_97 : decode cX5_told 97 = .ok (.getfield 23, 3) := by decide +kernel
theorem dX5_told_100 : decode cX5_told 100 = .ok (.getfield 94, 3) := by decide +kernel
theorem dX5_told_103 : decode cX5_told 103 = .ok (.ireturn, 1) := by decide +kernel
theorem dX5_told_104 : decode cX5_told 104 = .ok (.aload_n 0, 1) := by decide +kernel
theorem dX5_told_105 : decode cX5_told 105 = .ok (.getfield 23, 3) := by decide +kernel
theorem dX5_told_108 : decode cX5_told 108 = .ok (.getfield 97, 3) := by decide +kernel
theorem dX5_told_111 : decode cX5_told 111 = .ok (.ireturn, 1) := by decide +kernel
theorem dX5_told_112 : decode cX5_told 112 = .ok (.aload_n 0, 1) := by decide +kernel
theorem dX5_told_113 : decode cX5_told 113 = .ok (.getfield 23, 3) := by decide +kernel
theorem dX5_told_116 : decode cX5_told 116 = .ok (.getfield 100, 3) := by decide +kernel
theorem dX5_told_119 : decode cX5_told 119 = .ok (.ireturn, 1) := by decide +kernel
theorem dX5_told_120 : decode cX5_told 120 = .ok (.aload_n 0, 1) := by decide +kernel
theorem dX5_told_121 : decode cX5_told 121 = .ok (.getfield 23, 3) := by decide +kernel
theorem dX5_told_124 : decode cX5_told 124 = .ok (.getfield 103, 3) := by decide +kernel
theorem dX5_told_127 : decode cX5_told 127 = .ok (.ireturn, 1) := by decide +kernel
theorem dX5_told_128 : decode cX5_told 128 = .ok (.aload_n 0, 1) := by decide +kernel
theorem dX5_told_129 : decode cX5_told 129 = .ok (.getfield 13, 3) := by decide +kernel
theorem dX5_told_132 : decode cX5_told 132 = .ok (.ireturn, 1) := by decide +kernel
theorem dX5_told_133 : decode cX5_told 133 = .ok (.aload_n 0, 1) := by decide +kernel
theorem dX5_told_134 : decode cX5_told 134 = .ok (.getfield 40, 3) := by decide +kernel
theorem dX5_told_137 : decode cX5_told 137 = .ok (.getfield 106, 3) := by decide +kernel
theorem dX5_told_140 : decode cX5_told 140 = .ok (.ireturn, 1) := by decide +kernel
theorem dX5_told_141 : decode cX5_told 141 = .ok (.aload_n 0, 1) := by decide +kernel
theorem dX5_told_142 : decode cX5_told 142 = .ok (.getfield 55, 3) := by decide +kernel
theorem dX5_told_145 : decode cX5_told 145 = .ok (.getfield 82, 3) := by decide +kernel
theorem dX5_told_148 : decode cX5_told 148 = .ok (.ireturn, 1) := by decide +kernel
theorem dX5_told_149 : decode cX5_told 149 = .ok (.aload_n 0, 1) := by decide +kernel
theorem dX5_told_150 : decode cX5_told 150 = .ok (.getfield 40, 3) := by decide +kernel
theorem dX5_told_153 : decode cX5_told 153 = .ok (.getfield 109, 3) := by decide +kernel
theorem dX5_told_156 : decode cX5_told 156 = .ok (.ireturn, 1) := by decide +kernel
theorem dX5_told_157 : decode cX5_told 157 = .ok (.ldc 66, 2) := by decide +kernel
theorem dX5_told_159 : decode cX5_told 159 = .ok (.ireturn, 1) := by decide +kernel
theorem dX5_mark_0 : decode cX5_mark 0 = .ok (.aload_n 0, 1) := by decide +kernel
theorem dX5_mark_1 : decode cX5_mark 1 = .ok (.iload_n 1, 1) := by decide +kernel
theorem dX5_mark_2 : decode cX5_mark 2 = .ok (.invokevirtual 112, 3) := by decide +kernel
theorem dX5_mark_5 : decode cX5_mark 5 = .ok (.ifCond .ne 6, 3) := by decide +kernel
theorem dX5_mark_8 : decode cX5_mark 8 = .ok (.ldc 116, 2) := by decide +kernel
theorem dX5_mark_10 : decode cX5_mark 10 = .ok (.ireturn, 1) := by decide +kernel
theorem dX5_mark_11 : decode cX5_mark 11 = .ok (.iload_n 2, 1) := by decide +kernel
theorem dX5_mark_12 : decode cX5_mark 12 = .ok (.ifCond .lt 8, 3) := by decide +kernel
theorem dX5_mark_15 : decode cX5_mark 15 = .ok (.iload_n 2, 1) := by decide +kernel
theorem dX5_mark_16 : decode cX5_mark 16 = .ok (.iconst 1, 1) := by decide +kernel
theorem dX5_mark_17 : decode cX5_mark 17 = .ok (.if_icmp .le 6, 3) := by decide +kernel
theorem dX5_mark_20 : decode cX5_mark 20 = .ok (.ldc 66, 2) := by decide +kernel
theorem dX5_mark_22 : decode cX5_mark 22 = .ok (.ireturn, 1) := by decide +kernel
theorem dX5_mark_23 : decode cX5_mark 23 = .ok (.iload_n 2, 1) := by decide +kernel
theorem dX5_mark_24 : decode cX5_mark 24 = .ok (.ifCond .ne 15, 3) := by decide +kernel
theorem dX5_mark_27 : decode cX5_mark 27 = .ok (.aload_n 0, 1) := by decide +kernel
theorem dX5_mark_28 : decode cX5_mark 28 = .ok (.getfield 23, 3) := by decide +kernel
theorem dX5_mark_31 : decode cX5_mark 31 = .ok (.getfield 117, 3) := by decide +kernel
theorem dX5_mark_34 : decode cX5_mark 34 = .ok (.iload_n 1, 1) := by decide +kernel
theorem dX5_mark_35 : decode cX5_mark 35 = .ok (.iaload, 1) := by decide +kernel
theorem dX5_mark_36 : decode cX5_mark 36 = .ok (.goto 12, 3) := by decide +kernel
theorem dX5_mark_39 : decode cX5_mark 39 = .ok (.aload_n 0, 1) := by decide +kernel
theorem dX5_mark_40 : decode cX5_mark 40 = .ok (.getfield 23, 3) := by decide +kernel
theorem dX5_mark_43 : decode cX5_mark 43 = .ok (.getfield 121, 3) := by decide +kernel
theorem dX5_mark_46 : decode cX5_mark 46 = .ok (.iload_n 1, 1) := by decide +kernel
theorem dX5_mark_47 : decode cX5_mark 47 = .ok (.iaload, 1) := by decide +kernel
theorem dX5_mark_48 : decode cX5_mark 48 = .ok (.ireturn, 1) := by decide +kernel
theorem dX5_map_0 : decode cX5_map 0 = .ok (.iload_n 1, 1) := by decide +kernel
theorem dX5_map_1 : decode cX5_map 1 = .ok (.invokestatic 124, 3) := by decide +kernel
theorem dX5_map_4 : decode cX5_map 4 = .ok (.ifCond .eq 11, 3) := by decide +kernel
theorem dX5_map_7 : decode cX5_map 7 = .ok (.aload_n 0, 1) := by decide +kernel
theorem dX5_map_8 : decode cX5_map 8 = .ok (.iload_n 2, 1) := by decide +kernel
theorem dX5_map_9 : decode cX5_map 9 = .ok (.invokevirtual 112, 3) := by decide +kernel
theorem dX5_map_12 : decode cX5_map 12 = .ok (.ifCond .ne 6, 3) := by decide +kernel
theorem dX5_map_15 : decode cX5_map 15 = .ok (.ldc 116, 2) := by decide +kernel
theorem dX5_map_17 : decode cX5_map 17 = .ok (.ireturn, 1) := by decide +kernel
theorem dX5_map_18 : decode cX5_map 18 = .ok (.iload_n 3, 1) := by decide +kernel
theorem dX5_map_19 : decode cX5_map 19 = .ok (.ifCond .lt 8, 3) := by decide +kernel
theorem dX5_map_22 : decode cX5_map 22 = .ok (.iload_n 3, 1) := by decide +kernel
theorem dX5_map_23 : decode cX5_map 23 = .ok (.iconst 1, 1) := by decide +kernel
theorem dX5_map_24 : decode cX5_map 24 = .ok (.if_icmp .le 6, 3) := by decide +kernel
theorem dX5_map_27 : decode cX5_map 27 = .ok (.ldc 66, 2) := by decide +kernel
theorem dX5_map_29 : decode cX5_map 29 = .ok (.ireturn, 1) := by decide +kernel
theorem dX5_map_30 : decode cX5_map 30 = .ok (.iload_n 3, 1) := by decide +kernel
theorem dX5_map_31 : decode cX5_map 31 = .ok (.ifCond .ne 20, 3) := by decide +kernel
theorem dX5_map_34 : decode cX5_map 34 = .ok (.aload_n 0, 1) := by decide +kernel
theorem dX5_map_35 : decode cX5_map 35 = .ok (.getfield 23, 3) := by decide +kernel
theorem dX5_map_38 : decode cX5_map 38 = .ok (.getfield 127, 3) := by decide +kernel
theorem dX5_map_41 : decode cX5_map 41 = .ok (.iload_n 1, 1) := by decide +kernel
theorem dX5_map_42 : decode cX5_map 42 = .ok (.bipush 9, 2) := by decide +kernel
theorem dX5_map_44 : decode cX5_map 44 = .ok (.imul, 1) := by decide +kernel
theorem dX5_map_45 : decode cX5_map 45 = .ok (.iload_n 2, 1) := by decide +kernel
theorem dX5_map_46 : decode cX5_map 46 = .ok (.iadd, 1) := by decide +kernel
theorem dX5_map_47 : decode cX5_map 47 = .ok (.iaload, 1) := by decide +kernel
theorem dX5_map_48 : decode cX5_map 48 = .ok (.goto 17, 3) := by decide +kernel
theorem dX5_map_51 : decode cX5_map 51 = .ok (.aload_n 0, 1) := by decide +kernel
theorem dX5_map_52 : decode cX5_map 52 = .ok (.getfield 23, 3) := by decide +kernel
theorem dX5_map_55 : decode cX5_map 55 = .ok (.getfield 130, 3) := by decide +kernel
theorem dX5_map_58 : decode cX5_map 58 = .ok (.iload_n 1, 1) := by decide +kernel
theorem dX5_map_59 : decode cX5_map 59 = .ok (.bipush 9, 2) := by decide +kernel
theorem dX5_map_61 : decode cX5_map 61 = .ok (.imul, 1) := by decide +kernel
theorem dX5_map_62 : decode cX5_map 62 = .ok (.iload_n 2, 1) := by decide +kernel
theorem dX5_map_63 : decode cX5_map 63 = .ok (.iadd, 1) := by decide +kernel
theorem dX5_map_64 : decode cX5_map 64 = .ok (.iaload, 1) := by decide +kernel
theorem dX5_map_65 : decode cX5_map 65 = .ok (.ireturn, 1) := by decide +kernel
theorem dX5_leads_0 : decode cX5_leads 0 = .ok (.iload_n 1, 1) := by decide +kernel
theorem dX5_leads_1 : decode cX5_leads 1 = .ok (.invokestatic 124, 3) := by decide +kernel
theorem dX5_leads_4 : decode cX5_leads 4 = .ok (.ifCond .ne 6, 3) := by decide +kernel
theorem dX5_leads_7 : decode cX5_leads 7 = .ok (.ldc 116, 2) := by decide +kernel
theorem dX5_leads_9 : decode cX5_leads 9 = .ok (.ireturn, 1) := by decide +kernel
theorem dX5_leads_10 : decode cX5_leads 10 = .ok (.iload_n 2, 1) := by decide +kernel
theorem dX5_leads_11 : decode cX5_leads 11 = .ok (.ifCond .lt 8, 3) := by decide +kernel
theorem dX5_leads_14 : decode cX5_leads 14 = .ok (.iload_n 2, 1) := by decide +kernel
theorem dX5_leads_15 : decode cX5_leads 15 = .ok (.iconst 4, 1) := by decide +kernel
theorem dX5_leads_16 : decode cX5_leads 16 = .ok (.if_icmp .lt 6, 3) := by decide +kernel
theorem dX5_leads_19 : decode cX5_leads 19 = .ok (.ldc 66, 2) := by decide +kernel
theorem dX5_leads_21 : decode cX5_leads 21 = .ok (.ireturn, 1) := by decide +kernel
theorem dX5_leads_22 : decode cX5_leads 22 = .ok (.aload_n 0, 1) := by decide +kernel
theorem dX5_leads_23 : decode cX5_leads 23 = .ok (.getfield 23, 3) := by decide +kernel
theorem dX5_leads_26 : decode cX5_leads 26 = .ok (.getfield 75, 3) := by decide +kernel
theorem dX5_leads_29 : decode cX5_leads 29 = .ok (.ifCond .ne 6, 3) := by decide +kernel
theorem dX5_leads_32 : decode cX5_leads 32 = .ok (.ldc 133, 2) := by decide +kernel
theorem dX5_leads_34 : decode cX5_leads 34 = .ok (.ireturn, 1) := by decide +kernel
theorem dX5_leads_35 : decode cX5_leads 35 = .ok (.iload_n 2, 1) := by decide +kernel
theorem dX5_leads_36 : decode cX5_leads 36 = .ok (.iconst 2, 1) := by decide +kernel
theorem dX5_leads_37 : decode cX5_leads 37 = .ok (.if_icmp .ge 13, 3) := by decide +kernel
theorem dX5_leads_40 : decode cX5_leads 40 = .ok (.aload_n 0, 1) := by decide +kernel
theorem dX5_leads_41 : decode cX5_leads 41 = .ok (.getfield 23, 3) := by decide +kernel
theorem dX5_leads_44 : decode cX5_leads 44 = .ok (.getfield 127, 3) := by decide +kernel
theorem dX5_leads_47 : decode cX5_leads 47 = .ok (.goto 10, 3) := by decide +kernel
theorem dX5_leads_50 : decode cX5_leads 50 = .ok (.aload_n 0, 1) := by decide +kernel
theorem dX5_leads_51 : decode cX5_leads 51 = .ok (.getfield 23, 3) := by decide +kernel
theorem dX5_leads_54 : decode cX5_leads 54 = .ok (.getfield 130, 3) := by decide +kernel
theorem dX5_leads_57 : decode cX5_leads 57 = .ok (.astore_n 3, 1) := by decide +kernel
theorem dX5_leads_58 : decode cX5_leads 58 = .ok (.aload_n 3, 1) := by decide +kernel
theorem dX5_leads_59 : decode cX5_leads 59 = .ok (.iload_n 1, 1) := by decide +kernel
theorem dX5_leads_60 : decode cX5_leads 60 = .ok (.bipush 9, 2) := by decide +kernel
theorem dX5_leads_62 : decode cX5_leads 62 = .ok (.imul, 1) := by decide +kernel
theorem dX5_leads_63 : decode cX5_leads 63 = .ok (.aload_n 0, 1) := by decide +kernel
theorem dX5_leads_64 : decode cX5_leads 64 = .ok (.getfield 23, 3) := by decide +kernel
theorem dX5_leads_67 : decode cX5_leads 67 = .ok (.getfield 91, 3) := by decide +kernel
theorem dX5_leads_70 : decode cX5_leads 70 = .ok (.iadd, 1) := by decide +kernel
theorem dX5_leads_71 : decode cX5_leads 71 = .ok (.iaload, 1) := by decide +kernel
theorem dX5_leads_72 : decode cX5_leads 72 = .ok (.aload_n 3, 1) := by decide +kernel
theorem dX5_leads_73 : decode cX5_leads 73 = .ok (.iload_n 1, 1) := by decide +kernel
theorem dX5_leads_74 : decode cX5_leads 74 = .ok (.bipush 9, 2) := by decide +kernel
theorem dX5_leads_76 : decode cX5_leads 76 = .ok (.imul, 1) := by decide +kernel
theorem dX5_leads_77 : decode cX5_leads 77 = .ok (.aload_n 0, 1) := by decide +kernel
theorem dX5_leads_78 : decode cX5_leads 78 = .ok (.getfield 23, 3) := by decide +kernel
theorem dX5_leads_81 : decode cX5_leads 81 = .ok (.getfield 94, 3) := by decide +kernel
theorem dX5_leads_84 : decode cX5_leads 84 = .ok (.iadd, 1) := by decide +kernel
theorem dX5_leads_85 : decode cX5_leads 85 = .ok (.iaload, 1) := by decide +kernel
theorem dX5_leads_86 : decode cX5_leads 86 = .ok (.iadd, 1) := by decide +kernel
theorem dX5_leads_87 : decode cX5_leads 87 = .ok (.aload_n 3, 1) := by decide +kernel
theorem dX5_leads_88 : decode cX5_leads 88 = .ok (.iload_n 1, 1) := by decide +kernel
theorem dX5_leads_89 : decode cX5_leads 89 = .ok (.bipush 9, 2) := by decide +kernel
theorem dX5_leads_91 : decode cX5_leads 91 = .ok (.imul, 1) := by decide +kernel
theorem dX5_leads_92 : decode cX5_leads 92 = .ok (.aload_n 0, 1) := by decide +kernel
theorem dX5_leads_93 : decode cX5_leads 93 = .ok (.getfield 23, 3) := by decide +kernel
theorem dX5_leads_96 : decode cX5_leads 96 = .ok (.getfield 97, 3) := by decide +kernel
theorem dX5_leads_99 : decode cX5_leads 99 = .ok (.iadd, 1) := by decide +kernel
theorem dX5_leads_100 : decode cX5_leads 100 = .ok (.iaload, 1) := by decide +kernel
theorem dX5_leads_101 : decode cX5_leads 101 = .ok (.isub, 1) := by decide +kernel
theorem dX5_leads_102 : decode cX5_leads 102 = .ok (.istore 4, 2) := by decide +kernel
theorem dX5_leads_104 : decode cX5_leads 104 = .ok (.iconst 3, 1) := by decide +kernel
theorem dX5_leads_105 : decode cX5_leads 105 = .ok (.aload_n 0, 1) := by decide +kernel
theorem dX5_leads_106 : decode cX5_leads 106 = .ok (.getfield 23, 3) := by decide +kernel
theorem dX5_leads_109 : decode cX5_leads 109 = .ok (.getfield 88, 3) := by decide +kernel
theorem dX5_leads_112 : decode cX5_leads 112 = .ok (.imul, 1) := by decide +kernel
theorem dX5_leads_113 : decode cX5_leads 113 = .ok (.istore 5, 2) := by decide +kernel
theorem dX5_leads_115 : decode cX5_leads 115 = .ok (.iload_n 2, 1) := by decide +kernel
theorem dX5_leads_116 : decode cX5_leads 116 = .ok (.iconst 2, 1) := by decide +kernel
theorem dX5_leads_117 : decode cX5_leads 117 = .ok (.irem, 1) := by decide +kernel
theorem dX5_leads_118 : decode cX5_leads 118 = .ok (.ifCond .ne 11, 3) := by decide +kernel
theorem dX5_leads_121 : decode cX5_leads 121 = .ok (.iload 4, 2) := by decide +kernel
theorem dX5_leads_123 : decode cX5_leads 123 = .ok (.iload 5, 2) := by decide +kernel
theorem dX5_leads_125 : decode cX5_leads 125 = .ok (.isub, 1) := by decide +kernel
theorem dX5_leads_126 : decode cX5_leads 126 = .ok (.goto 8, 3) := by decide +kernel
theorem dX5_leads_129 : decode cX5_leads 129 = .ok (.iload 4, 2) := by decide +kernel
theorem dX5_leads_131 : decode cX5_leads 131 = .ok (.iload 5, 2) := by decide +kernel
theorem dX5_leads_133 : decode cX5_leads 133 = .ok (.iadd, 1) := by decide +kernel
theorem dX5_leads_134 : decode cX5_leads 134 = .ok (.ireturn, 1) := by decide +kernel
theorem dX5_knows_0 : decode cX5_knows 0 = .ok (.iload_n 1, 1) := by decide +kernel
theorem dX5_knows_1 : decode cX5_knows 1 = .ok (.invokestatic 124, 3) := by decide +kernel
theorem dX5_knows_4 : decode cX5_knows 4 = .ok (.ifCond .eq 27, 3) := by decide +kernel
theorem dX5_knows_7 : decode cX5_knows 7 = .ok (.iload_n 2, 1) := by decide +kernel
theorem dX5_knows_8 : decode cX5_knows 8 = .ok (.invokestatic 124, 3) := by decide +kernel
theorem dX5_knows_11 : decode cX5_knows 11 = .ok (.ifCond .eq 20, 3) := by decide +kernel
theorem dX5_knows_14 : decode cX5_knows 14 = .ok (.aload_n 0, 1) := by decide +kernel
theorem dX5_knows_15 : decode cX5_knows 15 = .ok (.getfield 40, 3) := by decide +kernel
theorem dX5_knows_18 : decode cX5_knows 18 = .ok (.getfield 134, 3) := by decide +kernel
theorem dX5_knows_21 : decode cX5_knows 21 = .ok (.iload_n 1, 1) := by decide +kernel
theorem dX5_knows_22 : decode cX5_knows 22 = .ok (.bipush 6, 2) := by decide +kernel
theorem dX5_knows_24 : decode cX5_knows 24 = .ok (.imul, 1) := by decide +kernel
theorem dX5_knows_25 : decode cX5_knows 25 = .ok (.iload_n 2, 1) := by decide +kernel
theorem dX5_knows_26 : decode cX5_knows 26 = .ok (.iadd, 1) := by decide +kernel
theorem dX5_knows_27 : decode cX5_knows 27 = .ok (.iaload, 1) := by decide +kernel
theorem dX5_knows_28 : decode cX5_knows 28 = .ok (.goto 5, 3) := by decide +kernel
theorem dX5_knows_31 : decode cX5_knows 31 = .ok (.ldc 116, 2) := by decide +kernel
theorem dX5_knows_33 : decode cX5_knows 33 = .ok (.ireturn, 1) := by decide +kernel
theorem dX5_show_0 : decode cX5_show 0 = .ok (.iload_n 1, 1) := by decide +kernel
theorem dX5_show_1 : decode cX5_show 1 = .ok (.iload_n 2, 1) := by decide +kernel
theorem dX5_show_2 : decode cX5_show 2 = .ok (.invokestatic 137, 3) := by decide +kernel
theorem dX5_show_5 : decode cX5_show 5 = .ok (.ifCond .eq 11, 3) := by decide +kernel
theorem dX5_show_8 : decode cX5_show 8 = .ok (.aload_n 0, 1) := by decide +kernel
theorem dX5_show_9 : decode cX5_show 9 = .ok (.iload_n 3, 1) := by decide +kernel
theorem dX5_show_10 : decode cX5_show 10 = .ok (.invokevirtual 112, 3) := by decide +kernel
theorem dX5_show_13 : decode cX5_show 13 = .ok (.ifCond .ne 6, 3) := by decide +kernel
theorem dX5_show_16 : decode cX5_show 16 = .ok (.ldc 116, 2) := by decide +kernel
theorem dX5_show_18 : decode cX5_show 18 = .ok (.ireturn, 1) := by decide +kernel
theorem dX5_show_19 : decode cX5_show 19 = .ok (.aload_n 0, 1) := by decide +kernel
theorem dX5_show_20 : decode cX5_show 20 = .ok (.getfield 40, 3) := by decide +kernel
theorem dX5_show_23 : decode cX5_show 23 = .ok (.iload_n 2, 1) := by decide +kernel
theorem dX5_show_24 : decode cX5_show 24 = .ok (.iload_n 1, 1) := by decide +kernel
theorem dX5_show_25 : decode cX5_show 25 = .ok (.iload_n 3, 1) := by decide +kernel
theorem dX5_show_26 : decode cX5_show 26 = .ok (.invokevirtual 141, 3) := by decide +kernel
theorem dX5_show_29 : decode cX5_show 29 = .ok (.ifCond .eq 6, 3) := by decide +kernel
theorem dX5_show_32 : decode cX5_show 32 = .ok (.ldc 133, 2) := by decide +kernel
theorem dX5_show_34 : decode cX5_show 34 = .ok (.ireturn, 1) := by decide +kernel
theorem dX5_show_35 : decode cX5_show 35 = .ok (.aload_n 0, 1) := by decide +kernel
theorem dX5_show_36 : decode cX5_show 36 = .ok (.getfield 40, 3) := by decide +kernel
theorem dX5_show_39 : decode cX5_show 39 = .ok (.iload_n 2, 1) := by decide +kernel
theorem dX5_show_40 : decode cX5_show 40 = .ok (.iload_n 1, 1) := by decide +kernel
theorem dX5_show_41 : decode cX5_show 41 = .ok (.iload_n 3, 1) := by decide +kernel
theorem dX5_show_42 : decode cX5_show 42 = .ok (.invokevirtual 145, 3) := by decide +kernel
theorem dX5_show_45 : decode cX5_show 45 = .ok (.aload_n 0, 1) := by decide +kernel
theorem dX5_show_46 : decode cX5_show 46 = .ok (.getfield 40, 3) := by decide +kernel
theorem dX5_show_49 : decode cX5_show 49 = .ok (.getfield 134, 3) := by decide +kernel
theorem dX5_show_52 : decode cX5_show 52 = .ok (.iload_n 2, 1) := by decide +kernel
theorem dX5_show_53 : decode cX5_show 53 = .ok (.bipush 6, 2) := by decide +kernel
theorem dX5_show_55 : decode cX5_show 55 = .ok (.imul, 1) := by decide +kernel
theorem dX5_show_56 : decode cX5_show 56 = .ok (.iload_n 1, 1) := by decide +kernel
theorem dX5_show_57 : decode cX5_show 57 = .ok (.iadd, 1) := by decide +kernel
theorem dX5_show_58 : decode cX5_show 58 = .ok (.iaload, 1) := by decide +kernel
theorem dX5_show_59 : decode cX5_show 59 = .ok (.invokestatic 149, 3) := by decide +kernel
theorem dX5_show_62 : decode cX5_show 62 = .ok (.ireturn, 1) := by decide +kernel
theorem dX5_trade_0 : decode cX5_trade 0 = .ok (.iload_n 1, 1) := by decide +kernel
theorem dX5_trade_1 : decode cX5_trade 1 = .ok (.iload_n 3, 1) := by decide +kernel
theorem dX5_trade_2 : decode cX5_trade 2 = .ok (.invokestatic 137, 3) := by decide +kernel
theorem dX5_trade_5 : decode cX5_trade 5 = .ok (.ifCond .eq 20, 3) := by decide +kernel
theorem dX5_trade_8 : decode cX5_trade 8 = .ok (.aload_n 0, 1) := by decide +kernel
theorem dX5_trade_9 : decode cX5_trade 9 = .ok (.iload_n 2, 1) := by decide +kernel
theorem dX5_trade_10 : decode cX5_trade 10 = .ok (.invokevirtual 112, 3) := by decide +kernel
theorem dX5_trade_13 : decode cX5_trade 13 = .ok (.ifCond .eq 12, 3) := by decide +kernel
theorem dX5_trade_16 : decode cX5_trade 16 = .ok (.aload_n 0, 1) := by decide +kernel
theorem dX5_trade_17 : decode cX5_trade 17 = .ok (.iload 4, 2) := by decide +kernel
theorem dX5_trade_19 : decode cX5_trade 19 = .ok (.invokevirtual 112, 3) := by decide +kernel
theorem dX5_trade_22 : decode cX5_trade 22 = .ok (.ifCond .ne 6, 3) := by decide +kernel
theorem dX5_trade_25 : decode cX5_trade 25 = .ok (.ldc 116, 2) := by decide +kernel
theorem dX5_trade_27 : decode cX5_trade 27 = .ok (.ireturn, 1) := by decide +kernel
theorem dX5_trade_28 : decode cX5_trade 28 = .ok (.aload_n 0, 1) := by decide +kernel
theorem dX5_trade_29 : decode cX5_trade 29 = .ok (.getfield 40, 3) := by decide +kernel
theorem dX5_trade_32 : decode cX5_trade 32 = .ok (.iload_n 3, 1) := by decide +kernel
theorem dX5_trade_33 : decode cX5_trade 33 = .ok (.iload_n 1, 1) := by decide +kernel
theorem dX5_trade_34 : decode cX5_trade 34 = .ok (.iload_n 2, 1) := by decide +kernel
theorem dX5_trade_35 : decode cX5_trade 35 = .ok (.invokevirtual 141, 3) := by decide +kernel
theorem dX5_trade_38 : decode cX5_trade 38 = .ok (.ifCond .ne 17, 3) := by decide +kernel
theorem dX5_trade_41 : decode cX5_trade 41 = .ok (.aload_n 0, 1) := by decide +kernel
theorem dX5_trade_42 : decode cX5_trade 42 = .ok (.getfield 40, 3) := by decide +kernel
theorem dX5_trade_45 : decode cX5_trade 45 = .ok (.iload_n 1, 1) := by decide +kernel
theorem dX5_trade_46 : decode cX5_trade 46 = .ok (.iload_n 3, 1) := by decide +kernel
theorem dX5_trade_47 : decode cX5_trade 47 = .ok (.iload 4, 2) := by decide +kernel
theorem dX5_trade_49 : decode cX5_trade 49 = .ok (.invokevirtual 141, 3) := by decide +kernel
theorem dX5_trade_52 : decode cX5_trade 52 = .ok (.ifCond .eq 6, 3) := by decide +kernel
theorem dX5_trade_55 : decode cX5_trade 55 = .ok (.ldc 133, 2) := by decide +kernel
theorem dX5_trade_57 : decode cX5_trade 57 = .ok (.ireturn, 1) := by decide +kernel
theorem dX5_trade_58 : decode cX5_trade 58 = .ok (.aload_n 0, 1) := by decide +kernel
theorem dX5_trade_59 : decode cX5_trade 59 = .ok (.getfield 40, 3) := by decide +kernel
theorem dX5_trade_62 : decode cX5_trade 62 = .ok (.iload_n 3, 1) := by decide +kernel
theorem dX5_trade_63 : decode cX5_trade 63 = .ok (.iload_n 1, 1) := by decide +kernel
theorem dX5_trade_64 : decode cX5_trade 64 = .ok (.iload_n 2, 1) := by decide +kernel
theorem dX5_trade_65 : decode cX5_trade 65 = .ok (.invokevirtual 145, 3) := by decide +kernel
theorem dX5_trade_68 : decode cX5_trade 68 = .ok (.aload_n 0, 1) := by decide +kernel
theorem dX5_trade_69 : decode cX5_trade 69 = .ok (.getfield 40, 3) := by decide +kernel
theorem dX5_trade_72 : decode cX5_trade 72 = .ok (.iload_n 1, 1) := by decide +kernel
theorem dX5_trade_73 : decode cX5_trade 73 = .ok (.iload_n 3, 1) := by decide +kernel
theorem dX5_trade_74 : decode cX5_trade 74 = .ok (.iload 4, 2) := by decide +kernel
theorem dX5_trade_76 : decode cX5_trade 76 = .ok (.invokevirtual 145, 3) := by decide +kernel
theorem dX5_trade_79 : decode cX5_trade 79 = .ok (.iconst 1, 1) := by decide +kernel
theorem dX5_trade_80 : decode cX5_trade 80 = .ok (.ireturn, 1) := by decide +kernel
theorem dX5_dig_0 : decode cX5_dig 0 = .ok (.iload_n 1, 1) := by decide +kernel
theorem dX5_dig_1 : decode cX5_dig 1 = .ok (.invokestatic 124, 3) := by decide +kernel
theorem dX5_dig_4 : decode cX5_dig 4 = .ok (.ifCond .ne 6, 3) := by decide +kernel
theorem dX5_dig_7 : decode cX5_dig 7 = .ok (.ldc 116, 2) := by decide +kernel
theorem dX5_dig_9 : decode cX5_dig 9 = .ok (.ireturn, 1) := by decide +kernel
theorem dX5_dig_10 : decode cX5_dig 10 = .ok (.iload_n 2, 1) := by decide +kernel
theorem dX5_dig_11 : decode cX5_dig 11 = .ok (.ifCond .lt 19, 3) := by decide +kernel
theorem dX5_dig_14 : decode cX5_dig 14 = .ok (.iload_n 2, 1) := by decide +kernel
theorem dX5_dig_15 : decode cX5_dig 15 = .ok (.bipush 99, 2) := by decide +kernel
theorem dX5_dig_17 : decode cX5_dig 17 = .ok (.if_icmp .gt 13, 3) := by decide +kernel
theorem dX5_dig_20 : decode cX5_dig 20 = .ok (.iload_n 3, 1) := by decide +kernel
theorem dX5_dig_21 : decode cX5_dig 21 = .ok (.ifCond .lt 9, 3) := by decide +kernel
theorem dX5_dig_24 : decode cX5_dig 24 = .ok (.iload_n 3, 1) := by decide +kernel
theorem dX5_dig_25 : decode cX5_dig 25 = .ok (.bipush 99, 2) := by decide +kernel
theorem dX5_dig_27 : decode cX5_dig 27 = .ok (.if_icmp .le 6, 3) := by decide +kernel
theorem dX5_dig_30 : decode cX5_dig 30 = .ok (.ldc 66, 2) := by decide +kernel
theorem dX5_dig_32 : decode cX5_dig 32 = .ok (.ireturn, 1) := by decide +kernel
theorem dX5_dig_33 : decode cX5_dig 33 = .ok (.aload_n 0, 1) := by decide +kernel
theorem dX5_dig_34 : decode cX5_dig 34 = .ok (.getfield 23, 3) := by decide +kernel
theorem dX5_dig_37 : decode cX5_dig 37 = .ok (.getfield 75, 3) := by decide +kernel
theorem dX5_dig_40 : decode cX5_dig 40 = .ok (.ifCond .eq 14, 3) := by decide +kernel
theorem dX5_dig_43 : decode cX5_dig 43 = .ok (.aload_n 0, 1) := by decide +kernel
theorem dX5_dig_44 : decode cX5_dig 44 = .ok (.getfield 40, 3) := by decide +kernel
theorem dX5_dig_47 : decode cX5_dig 47 = .ok (.getfield 109, 3) := by decide +kernel
theorem dX5_dig_50 : decode cX5_dig 50 = .ok (.iconst (-1), 1) := by decide +kernel
theorem dX5_dig_51 : decode cX5_dig 51 = .ok (.if_icmp .eq 6, 3) := by decide +kernel
theorem dX5_dig_54 : decode cX5_dig 54 = .ok (.ldc 133, 2) := by decide +kernel
theorem dX5_dig_56 : decode cX5_dig 56 = .ok (.ireturn, 1) := by decide +kernel
theorem dX5_dig_57 : decode cX5_dig 57 = .ok (.aload_n 0, 1) := by decide +kernel
theorem dX5_dig_58 : decode cX5_dig 58 = .ok (.getfield 40, 3) := by decide +kernel
theorem dX5_dig_61 : decode cX5_dig 61 = .ok (.getfield 106, 3) := by decide +kernel
theorem dX5_dig_64 : decode cX5_dig 64 = .ok (.bipush 20, 2) := by decide +kernel
theorem dX5_dig_66 : decode cX5_dig 66 = .ok (.if_icmp .lt 6, 3) := by decide +kernel
theorem dX5_dig_69 : decode cX5_dig 69 = .ok (.ldc 67, 2) := by decide +kernel
theorem dX5_dig_71 : decode cX5_dig 71 = .ok (.ireturn, 1) := by decide +kernel
theorem dX5_dig_72 : decode cX5_dig 72 = .ok (.aload_n 0, 1) := by decide +kernel
theorem dX5_dig_73 : decode cX5_dig 73 = .ok (.iload_n 1, 1) := by decide +kernel
theorem dX5_dig_74 : decode cX5_dig 74 = .ok (.iload_n 2, 1) := by decide +kernel
theorem dX5_dig_75 : decode cX5_dig 75 = .ok (.iload_n 3, 1) := by decide +kernel
theorem dX5_dig_76 : decode cX5_dig 76 = .ok (.invokevirtual 155, 3) := by decide +kernel
theorem dX5_dig_79 : decode cX5_dig 79 = .ok (.aload_n 0, 1) := by decide +kernel
theorem dX5_dig_80 : decode cX5_dig 80 = .ok (.getfield 40, 3) := by decide +kernel
theorem dX5_dig_83 : decode cX5_dig 83 = .ok (.getfield 109, 3) := by decide +kernel
theorem dX5_dig_86 : decode cX5_dig 86 = .ok (.iconst (-1), 1) := by decide +kernel
theorem dX5_dig_87 : decode cX5_dig 87 = .ok (.if_icmp .ne 7, 3) := by decide +kernel
theorem dX5_dig_90 : decode cX5_dig 90 = .ok (.iconst 0, 1) := by decide +kernel
theorem dX5_dig_91 : decode cX5_dig 91 = .ok (.goto 4, 3) := by decide +kernel
theorem dX5_dig_94 : decode cX5_dig 94 = .ok (.iconst 1, 1) := by decide +kernel
theorem dX5_dig_95 : decode cX5_dig 95 = .ok (.ireturn, 1) := by decide +kernel
theorem dX5_purse_0 : decode cX5_purse 0 = .ok (.iload_n 1, 1) := by decide +kernel
theorem dX5_purse_1 : decode cX5_purse 1 = .ok (.invokestatic 124, 3) := by decide +kernel
theorem dX5_purse_4 : decode cX5_purse 4 = .ok (.ifCond .eq 15, 3) := by decide +kernel
theorem dX5_purse_7 : decode cX5_purse 7 = .ok (.aload_n 0, 1) := by decide +kernel
theorem dX5_purse_8 : decode cX5_purse 8 = .ok (.getfield 40, 3) := by decide +kernel
theorem dX5_purse_11 : decode cX5_purse 11 = .ok (.getfield 158, 3) := by decide +kernel
theorem dX5_purse_14 : decode cX5_purse 14 = .ok (.iload_n 1, 1) := by decide +kernel
theorem dX5_purse_15 : decode cX5_purse 15 = .ok (.iaload, 1) := by decide +kernel
theorem dX5_purse_16 : decode cX5_purse 16 = .ok (.goto 5, 3) := by decide +kernel
theorem dX5_purse_19 : decode cX5_purse 19 = .ok (.ldc 116, 2) := by decide +kernel
theorem dX5_purse_21 : decode cX5_purse 21 = .ok (.ireturn, 1) := by decide +kernel
theorem dX5_may_0 : decode cX5_may 0 = .ok (.iload_n 1, 1) := by decide +kernel
theorem dX5_may_1 : decode cX5_may 1 = .ok (.invokestatic 124, 3) := by decide +kernel
theorem dX5_may_4 : decode cX5_may 4 = .ok (.ifCond .ne 6, 3) := by decide +kernel
theorem dX5_may_7 : decode cX5_may 7 = .ok (.ldc 116, 2) := by decide +kernel
theorem dX5_may_9 : decode cX5_may 9 = .ok (.ireturn, 1) := by decide +kernel
theorem dX5_may_10 : decode cX5_may 10 = .ok (.aload_n 0, 1) := by decide +kernel
theorem dX5_may_11 : decode cX5_may 11 = .ok (.getfield 62, 3) := by decide +kernel
theorem dX5_may_14 : decode cX5_may 14 = .ok (.aload_n 0, 1) := by decide +kernel
theorem dX5_may_15 : decode cX5_may 15 = .ok (.getfield 23, 3) := by decide +kernel
theorem dX5_may_18 : decode cX5_may 18 = .ok (.aload_n 0, 1) := by decide +kernel
theorem dX5_may_19 : decode cX5_may 19 = .ok (.getfield 40, 3) := by decide +kernel
theorem dX5_may_22 : decode cX5_may 22 = .ok (.iload_n 1, 1) := by decide +kernel
theorem dX5_may_23 : decode cX5_may 23 = .ok (.invokevirtual 161, 3) := by decide +kernel
theorem dX5_may_26 : decode cX5_may 26 = .ok (.iload_n 2, 1) := by decide +kernel
theorem dX5_may_27 : decode cX5_may 27 = .ok (.iconst (-1), 1) := by decide +kernel
theorem dX5_may_28 : decode cX5_may 28 = .ok (.if_icmp .ne 11, 3) := by decide +kernel
theorem dX5_may_31 : decode cX5_may 31 = .ok (.aload_n 0, 1) := by decide +kernel
theorem dX5_may_32 : decode cX5_may 32 = .ok (.getfield 62, 3) := by decide +kernel
theorem dX5_may_35 : decode cX5_may 35 = .ok (.getfield 165, 3) := by decide +kernel
theorem dX5_may_38 : decode cX5_may 38 = .ok (.ireturn, 1) := by decide +kernel
theorem dX5_may_39 : decode cX5_may 39 = .ok (.iload_n 2, 1) := by decide +kernel
theorem dX5_may_40 : decode cX5_may 40 = .ok (.ifCond .lt 14, 3) := by decide +kernel
theorem dX5_may_43 : decode cX5_may 43 = .ok (.iload_n 2, 1) := by decide +kernel
theorem dX5_may_44 : decode cX5_may 44 = .ok (.aload_n 0, 1) := by decide +kernel
theorem dX5_may_45 : decode cX5_may 45 = .ok (.getfield 62, 3) := by decide +kernel
theorem dX5_may_48 : decode cX5_may 48 = .ok (.getfield 165, 3) := by decide +kernel
theorem dX5_may_51 : decode cX5_may 51 = .ok (.if_icmp .lt 7, 3) := by decide +kernel
theorem dX5_may_54 : decode cX5_may 54 = .ok (.iconst (-1), 1) := by decide +kernel
theorem dX5_may_55 : decode cX5_may 55 = .ok (.goto 12, 3) := by decide +kernel
theorem dX5_may_58 : decode cX5_may 58 = .ok (.aload_n 0, 1) := by decide +kernel
theorem dX5_may_59 : decode cX5_may 59 = .ok (.getfield 62, 3) := by decide +kernel
theorem dX5_may_62 : decode cX5_may 62 = .ok (.getfield 166, 3) := by decide +kernel
theorem dX5_may_65 : decode cX5_may 65 = .ok (.iload_n 2, 1) := by decide +kernel
theorem dX5_may_66 : decode cX5_may 66 = .ok (.iaload, 1) := by decide +kernel
theorem dX5_may_67 : decode cX5_may 67 = .ok (.ireturn, 1) := by decide +kernel
theorem dX5_sure_0 : decode cX5_sure 0 = .ok (.iload_n 1, 1) := by decide +kernel
theorem dX5_sure_1 : decode cX5_sure 1 = .ok (.invokestatic 124, 3) := by decide +kernel
theorem dX5_sure_4 : decode cX5_sure 4 = .ok (.ifCond .ne 6, 3) := by decide +kernel
theorem dX5_sure_7 : decode cX5_sure 7 = .ok (.ldc 116, 2) := by decide +kernel
theorem dX5_sure_9 : decode cX5_sure 9 = .ok (.ireturn, 1) := by decide +kernel
theorem dX5_sure_10 : decode cX5_sure 10 = .ok (.iload_n 2, 1) := by decide +kernel
theorem dX5_sure_11 : decode cX5_sure 11 = .ok (.ifCond .lt 8, 3) := by decide +kernel
theorem dX5_sure_14 : decode cX5_sure 14 = .ok (.iload_n 2, 1) := by decide +kernel
theorem dX5_sure_15 : decode cX5_sure 15 = .ok (.iconst 1, 1) := by decide +kernel
theorem dX5_sure_16 : decode cX5_sure 16 = .ok (.if_icmp .le 6, 3) := by decide +kernel
theorem dX5_sure_19 : decode cX5_sure 19 = .ok (.ldc 66, 2) := by decide +kernel
theorem dX5_sure_21 : decode cX5_sure 21 = .ok (.ireturn, 1) := by decide +kernel
theorem dX5_sure_22 : decode cX5_sure 22 = .ok (.aload_n 0, 1) := by decide +kernel
theorem dX5_sure_23 : decode cX5_sure 23 = .ok (.getfield 62, 3) := by decide +kernel
theorem dX5_sure_26 : decode cX5_sure 26 = .ok (.aload_n 0, 1) := by decide +kernel
theorem dX5_sure_27 : decode cX5_sure 27 = .ok (.getfield 23, 3) := by decide +kernel
theorem dX5_sure_30 : decode cX5_sure 30 = .ok (.aload_n 0, 1) := by decide +kernel
theorem dX5_sure_31 : decode cX5_sure 31 = .ok (.getfield 40, 3) := by decide +kernel
theorem dX5_sure_34 : decode cX5_sure 34 = .ok (.iload_n 1, 1) := by decide +kernel
theorem dX5_sure_35 : decode cX5_sure 35 = .ok (.invokevirtual 161, 3) := by decide +kernel
theorem dX5_sure_38 : decode cX5_sure 38 = .ok (.aload_n 0, 1) := by decide +kernel
theorem dX5_sure_39 : decode cX5_sure 39 = .ok (.getfield 62, 3) := by decide +kernel
theorem dX5_sure_42 : decode cX5_sure 42 = .ok (.getfield 165, 3) := by decide +kernel
theorem dX5_sure_45 : decode cX5_sure 45 = .ok (.ifCond .ne 5, 3) := by decide +kernel
theorem dX5_sure_48 : decode cX5_sure 48 = .ok (.iconst (-1), 1) := by decide +kernel
theorem dX5_sure_49 : decode cX5_sure 49 = .ok (.ireturn, 1) := by decide +kernel
theorem dX5_sure_50 : decode cX5_sure 50 = .ok (.iload_n 2, 1) := by decide +kernel
theorem dX5_sure_51 : decode cX5_sure 51 = .ok (.ifCond .ne 13, 3) := by decide +kernel
theorem dX5_sure_54 : decode cX5_sure 54 = .ok (.aload_n 0, 1) := by decide +kernel
theorem dX5_sure_55 : decode cX5_sure 55 = .ok (.getfield 62, 3) := by decide +kernel
theorem dX5_sure_58 : decode cX5_sure 58 = .ok (.invokevirtual 169, 3) := by decide +kernel
theorem dX5_sure_61 : decode cX5_sure 61 = .ok (.goto 10, 3) := by decide +kernel
theorem dX5_sure_64 : decode cX5_sure 64 = .ok (.aload_n 0, 1) := by decide +kernel
theorem dX5_sure_65 : decode cX5_sure 65 = .ok (.getfield 62, 3) := by decide +kernel
theorem dX5_sure_68 : decode cX5_sure 68 = .ok (.invokevirtual 173, 3) := by decide +kernel
theorem dX5_sure_71 : decode cX5_sure 71 = .ok (.ireturn, 1) := by decide +kernel
theorem dX5_area_0 : decode cX5_area 0 = .ok (.iload_n 1, 1) := by decide +kernel
theorem dX5_area_1 : decode cX5_area 1 = .ok (.invokestatic 124, 3) := by decide +kernel
theorem dX5_area_4 : decode cX5_area 4 = .ok (.ifCond .ne 6, 3) := by decide +kernel
theorem dX5_area_7 : decode cX5_area 7 = .ok (.ldc 116, 2) := by decide +kernel
theorem dX5_area_9 : decode cX5_area 9 = .ok (.ireturn, 1) := by decide +kernel
theorem dX5_area_10 : decode cX5_area 10 = .ok (.iload_n 2, 1) := by decide +kernel
theorem dX5_area_11 : decode cX5_area 11 = .ok (.ifCond .lt 18, 3) := by decide +kernel
theorem dX5_area_14 : decode cX5_area 14 = .ok (.iload_n 2, 1) := by decide +kernel
theorem dX5_area_15 : decode cX5_area 15 = .ok (.bipush 63, 2) := by decide +kernel
theorem dX5_area_17 : decode cX5_area 17 = .ok (.if_icmp .gt 12, 3) := by decide +kernel
theorem dX5_area_20 : decode cX5_area 20 = .ok (.iload_n 3, 1) := by decide +kernel
theorem dX5_area_21 : decode cX5_area 21 = .ok (.ifCond .lt 8, 3) := by decide +kernel
theorem dX5_area_24 : decode cX5_area 24 = .ok (.iload_n 3, 1) := by decide +kernel
theorem dX5_area_25 : decode cX5_area 25 = .ok (.iconst 4, 1) := by decide +kernel
theorem dX5_area_26 : decode cX5_area 26 = .ok (.if_icmp .lt 6, 3) := by decide +kernel
theorem dX5_area_29 : decode cX5_area 29 = .ok (.ldc 66, 2) := by decide +kernel
theorem dX5_area_31 : decode cX5_area 31 = .ok (.ireturn, 1) := by decide +kernel
theorem dX5_area_32 : decode cX5_area 32 = .ok (.aload_n 0, 1) := by decide +kernel
theorem dX5_area_33 : decode cX5_area 33 = .ok (.getfield 23, 3) := by decide +kernel
theorem dX5_area_36 : decode cX5_area 36 = .ok (.getfield 75, 3) := by decide +kernel
theorem dX5_area_39 : decode cX5_area 39 = .ok (.ifCond .ne 6, 3) := by decide +kernel
theorem dX5_area_42 : decode cX5_area 42 = .ok (.ldc 133, 2) := by decide +kernel
theorem dX5_area_44 : decode cX5_area 44 = .ok (.ireturn, 1) := by decide +kernel
theorem dX5_area_45 : decode cX5_area 45 = .ok (.aload_n 0, 1) := by decide +kernel
theorem dX5_area_46 : decode cX5_area 46 = .ok (.getfield 62, 3) := by decide +kernel
theorem dX5_area_49 : decode cX5_area 49 = .ok (.aload_n 0, 1) := by decide +kernel
theorem dX5_area_50 : decode cX5_area 50 = .ok (.getfield 23, 3) := by decide +kernel
theorem dX5_area_53 : decode cX5_area 53 = .ok (.aload_n 0, 1) := by decide +kernel
theorem dX5_area_54 : decode cX5_area 54 = .ok (.getfield 40, 3) := by decide +kernel
theorem dX5_area_57 : decode cX5_area 57 = .ok (.iload_n 1, 1) := by decide +kernel
theorem dX5_area_58 : decode cX5_area 58 = .ok (.invokevirtual 161, 3) := by decide +kernel
theorem dX5_area_61 : decode cX5_area 61 = .ok (.aload_n 0, 1) := by decide +kernel
theorem dX5_area_62 : decode cX5_area 62 = .ok (.getfield 62, 3) := by decide +kernel
theorem dX5_area_65 : decode cX5_area 65 = .ok (.iload_n 2, 1) := by decide +kernel
theorem dX5_area_66 : decode cX5_area 66 = .ok (.invokevirtual 176, 3) := by decide +kernel
theorem dX5_area_69 : decode cX5_area 69 = .ok (.istore 4, 2) := by decide +kernel
theorem dX5_area_71 : decode cX5_area 71 = .ok (.iload 4, 2) := by decide +kernel
theorem dX5_area_73 : decode cX5_area 73 = .ok (.iconst (-1), 1) := by decide +kernel
theorem dX5_area_74 : decode cX5_area 74 = .ok (.if_icmp .ne 8, 3) := by decide +kernel
theorem dX5_area_77 : decode cX5_area 77 = .ok (.ldc 133, 2) := by decide +kernel
theorem dX5_area_79 : decode cX5_area 79 = .ok (.goto 17, 3) := by decide +kernel
theorem dX5_area_82 : decode cX5_area 82 = .ok (.aload_n 0, 1) := by decide +kernel
theorem dX5_area_83 : decode cX5_area 83 = .ok (.getfield 62, 3) := by decide +kernel
theorem dX5_area_86 : decode cX5_area 86 = .ok (.getfield 179, 3) := by decide +kernel
theorem dX5_area_89 : decode cX5_area 89 = .ok (.iload 4, 2) := by decide +kernel
theorem dX5_area_91 : decode cX5_area 91 = .ok (.iconst 4, 1) := by decide +kernel
theorem dX5_area_92 : decode cX5_area 92 = .ok (.imul, 1) := by decide +kernel
theorem dX5_area_93 : decode cX5_area 93 = .ok (.iload_n 3, 1) := by decide +kernel
theorem dX5_area_94 : decode cX5_area 94 = .ok (.iadd, 1) := by decide +kernel
theorem dX5_area_95 : decode cX5_area 95 = .ok (.iaload, 1) := by decide +kernel
theorem dX5_area_96 : decode cX5_area 96 = .ok (.ireturn, 1) := by decide +kernel
theorem dX5_best_0 : decode cX5_best 0 = .ok (.iload_n 1, 1) := by decide +kernel
theorem dX5_best_1 : decode cX5_best 1 = .ok (.invokestatic 124, 3) := by decide +kernel
theorem dX5_best_4 : decode cX5_best 4 = .ok (.ifCond .ne 6, 3) := by decide +kernel
theorem dX5_best_7 : decode cX5_best 7 = .ok (.ldc 116, 2) := by decide +kernel
theorem dX5_best_9 : decode cX5_best 9 = .ok (.ireturn, 1) := by decide +kernel
theorem dX5_best_10 : decode cX5_best 10 = .ok (.iload_n 2, 1) := by decide +kernel
theorem dX5_best_11 : decode cX5_best 11 = .ok (.ifCond .lt 8, 3) := by decide +kernel
theorem dX5_best_14 : decode cX5_best 14 = .ok (.iload_n 2, 1) := by decide +kernel
theorem dX5_best_15 : decode cX5_best 15 = .ok (.iconst 3, 1) := by decide +kernel
theorem dX5_best_16 : decode cX5_best 16 = .ok (.if_icmp .le 6, 3) := by decide +kernel
theorem dX5_best_19 : decode cX5_best 19 = .ok (.ldc 66, 2) := by decide +kernel
theorem dX5_best_21 : decode cX5_best 21 = .ok (.ireturn, 1) := by decide +kernel
theorem dX5_best_22 : decode cX5_best 22 = .ok (.aload_n 0, 1) := by decide +kernel
theorem dX5_best_23 : decode cX5_best 23 = .ok (.getfield 62, 3) := by decide +kernel
theorem dX5_best_26 : decode cX5_best 26 = .ok (.aload_n 0, 1) := by decide +kernel
theorem dX5_best_27 : decode cX5_best 27 = .ok (.getfield 23, 3) := by decide +kernel
theorem dX5_best_30 : decode cX5_best 30 = .ok (.aload_n 0, 1) := by decide +kernel
theorem dX5_best_31 : decode cX5_best 31 = .ok (.getfield 40, 3) := by decide +kernel
theorem dX5_best_34 : decode cX5_best 34 = .ok (.iload_n 1, 1) := by decide +kernel
theorem dX5_best_35 : decode cX5_best 35 = .ok (.invokevirtual 161, 3) := by decide +kernel
theorem dX5_best_38 : decode cX5_best 38 = .ok (.aload_n 0, 1) := by decide +kernel
theorem dX5_best_39 : decode cX5_best 39 = .ok (.getfield 62, 3) := by decide +kernel
theorem dX5_best_42 : decode cX5_best 42 = .ok (.invokevirtual 182, 3) := by decide +kernel
theorem dX5_best_45 : decode cX5_best 45 = .ok (.aload_n 0, 1) := by decide +kernel
theorem dX5_best_46 : decode cX5_best 46 = .ok (.getfield 62, 3) := by decide +kernel
theorem dX5_best_49 : decode cX5_best 49 = .ok (.getfield 185, 3) := by decide +kernel
theorem dX5_best_52 : decode cX5_best 52 = .ok (.iconst (-1), 1) := by decide +kernel
theorem dX5_best_53 : decode cX5_best 53 = .ok (.if_icmp .ne 5, 3) := by decide +kernel
theorem dX5_best_56 : decode cX5_best 56 = .ok (.iconst (-1), 1) := by decide +kernel
theorem dX5_best_57 : decode cX5_best 57 = .ok (.ireturn, 1) := by decide +kernel
theorem dX5_best_58 : decode cX5_best 58 = .ok (.iload_n 2, 1) := by decide +kernel
theorem dX5_best_59 : decode cX5_best 59 = .ok (.tableswitch 63 0 2 #[25, 40, 55], 25) := by decide +kernel
theorem dX5_best_84 : decode cX5_best 84 = .ok (.aload_n 0, 1) := by decide +kernel
theorem dX5_best_85 : decode cX5_best 85 = .ok (.getfield 62, 3) := by decide +kernel
theorem dX5_best_88 : decode cX5_best 88 = .ok (.aload_n 0, 1) := by decide +kernel
theorem dX5_best_89 : decode cX5_best 89 = .ok (.getfield 62, 3) := by decide +kernel
theorem dX5_best_92 : decode cX5_best 92 = .ok (.getfield 185, 3) := by decide +kernel
theorem dX5_best_95 : decode cX5_best 95 = .ok (.invokevirtual 188, 3) := by decide +kernel
theorem dX5_best_98 : decode cX5_best 98 = .ok (.ireturn, 1) := by decide +kernel
theorem dX5_best_99 : decode cX5_best 99 = .ok (.aload_n 0, 1) := by decide +kernel
theorem dX5_best_100 : decode cX5_best 100 = .ok (.getfield 62, 3) := by decide +kernel
theorem dX5_best_103 : decode cX5_best 103 = .ok (.aload_n 0, 1) := by decide +kernel
theorem dX5_best_104 : decode cX5_best 104 = .ok (.getfield 62, 3) := by decide +kernel
theorem dX5_best_107 : decode cX5_best 107 = .ok (.getfield 185, 3) := by decide +kernel
theorem dX5_best_110 : decode cX5_best 110 = .ok (.invokevirtual 191, 3) := by decide +kernel
theorem dX5_best_113 : decode cX5_best 113 = .ok (.ireturn, 1) := by decide +kernel
theorem dX5_best_114 : decode cX5_best 114 = .ok (.aload_n 0, 1) := by decide +kernel
theorem dX5_best_115 : decode cX5_best 115 = .ok (.getfield 62, 3) := by decide +kernel
theorem dX5_best_118 : decode cX5_best 118 = .ok (.getfield 194, 3) := by decide +kernel
theorem dX5_best_121 : decode cX5_best 121 = .ok (.ireturn, 1) := by decide +kernel
theorem dX5_best_122 : decode cX5_best 122 = .ok (.aload_n 0, 1) := by decide +kernel
theorem dX5_best_123 : decode cX5_best 123 = .ok (.getfield 62, 3) := by decide +kernel
theorem dX5_best_126 : decode cX5_best 126 = .ok (.invokevirtual 197, 3) := by decide +kernel
theorem dX5_best_129 : decode cX5_best 129 = .ok (.ireturn, 1) := by decide +kernel
theorem dX5_corner_0 : decode cX5_corner 0 = .ok (.iload_n 1, 1) := by decide +kernel
theorem dX5_corner_1 : decode cX5_corner 1 = .ok (.iload_n 2, 1) := by decide +kernel
theorem dX5_corner_2 : decode cX5_corner 2 = .ok (.invokestatic 137, 3) := by decide +kernel
theorem dX5_corner_5 : decode cX5_corner 5 = .ok (.ifCond .eq 11, 3) := by decide +kernel
theorem dX5_corner_8 : decode cX5_corner 8 = .ok (.aload_n 0, 1) := by decide +kernel
theorem dX5_corner_9 : decode cX5_corner 9 = .ok (.iload_n 3, 1) := by decide +kernel
theorem dX5_corner_10 : decode cX5_corner 10 = .ok (.invokevirtual 112, 3) := by decide +kernel
theorem dX5_corner_13 : decode cX5_corner 13 = .ok (.ifCond .ne 6, 3) := by decide +kernel
theorem dX5_corner_16 : decode cX5_corner 16 = .ok (.ldc 116, 2) := by decide +kernel
theorem dX5_corner_18 : decode cX5_corner 18 = .ok (.ireturn, 1) := by decide +kernel
theorem dX5_corner_19 : decode cX5_corner 19 = .ok (.aload_n 0, 1) := by decide +kernel
theorem dX5_corner_20 : decode cX5_corner 20 = .ok (.getfield 40, 3) := by decide +kernel
theorem dX5_corner_23 : decode cX5_corner 23 = .ok (.iload_n 1, 1) := by decide +kernel
theorem dX5_corner_24 : decode cX5_corner 24 = .ok (.iload_n 2, 1) := by decide +kernel
theorem dX5_corner_25 : decode cX5_corner 25 = .ok (.iload_n 3, 1) := by decide +kernel
theorem dX5_corner_26 : decode cX5_corner 26 = .ok (.invokevirtual 141, 3) := by decide +kernel
theorem dX5_corner_29 : decode cX5_corner 29 = .ok (.ifCond .eq 6, 3) := by decide +kernel
theorem dX5_corner_32 : decode cX5_corner 32 = .ok (.ldc 133, 2) := by decide +kernel
theorem dX5_corner_34 : decode cX5_corner 34 = .ok (.ireturn, 1) := by decide +kernel
theorem dX5_corner_35 : decode cX5_corner 35 = .ok (.aload_n 0, 1) := by decide +kernel
theorem dX5_corner_36 : decode cX5_corner 36 = .ok (.getfield 62, 3) := by decide +kernel
theorem dX5_corner_39 : decode cX5_corner 39 = .ok (.aload_n 0, 1) := by decide +kernel
theorem dX5_corner_40 : decode cX5_corner 40 = .ok (.getfield 23, 3) := by decide +kernel
theorem dX5_corner_43 : decode cX5_corner 43 = .ok (.aload_n 0, 1) := by decide +kernel
theorem dX5_corner_44 : decode cX5_corner 44 = .ok (.getfield 40, 3) := by decide +kernel
theorem dX5_corner_47 : decode cX5_corner 47 = .ok (.iload_n 1, 1) := by decide +kernel
theorem dX5_corner_48 : decode cX5_corner 48 = .ok (.invokevirtual 161, 3) := by decide +kernel
theorem dX5_corner_51 : decode cX5_corner 51 = .ok (.aload_n 0, 1) := by decide +kernel
theorem dX5_corner_52 : decode cX5_corner 52 = .ok (.getfield 62, 3) := by decide +kernel
theorem dX5_corner_55 : decode cX5_corner 55 = .ok (.getfield 165, 3) := by decide +kernel
theorem dX5_corner_58 : decode cX5_corner 58 = .ok (.ifCond .ne 8, 3) := by decide +kernel
theorem dX5_corner_61 : decode cX5_corner 61 = .ok (.ldc 133, 2) := by decide +kernel
theorem dX5_corner_63 : decode cX5_corner 63 = .ok (.goto 12, 3) := by decide +kernel
theorem dX5_corner_66 : decode cX5_corner 66 = .ok (.aload_n 0, 1) := by decide +kernel
theorem dX5_corner_67 : decode cX5_corner 67 = .ok (.getfield 62, 3) := by decide +kernel
theorem dX5_corner_70 : decode cX5_corner 70 = .ok (.iload_n 2, 1) := by decide +kernel
theorem dX5_corner_71 : decode cX5_corner 71 = .ok (.iload_n 3, 1) := by decide +kernel
theorem dX5_corner_72 : decode cX5_corner 72 = .ok (.invokevirtual 200, 3) := by decide +kernel
theorem dX5_corner_75 : decode cX5_corner 75 = .ok (.ireturn, 1) := by decide +kernel
theorem dX5_bestCorner_0 : decode cX5_bestCorner 0 = .ok (.iload_n 1, 1) := by decide +kernel
theorem dX5_bestCorner_1 : decode cX5_bestCorner 1 = .ok (.invokestatic 124, 3) := by decide +kernel
theorem dX5_bestCorner_4 : decode cX5_bestCorner 4 = .ok (.ifCond .ne 6, 3) := by decide +kernel
theorem dX5_bestCorner_7 : decode cX5_bestCorner 7 = .ok (.ldc 116, 2) := by decide +kernel
theorem dX5_bestCorner_9 : decode cX5_bestCorner 9 = .ok (.ireturn, 1) := by decide +kernel
theorem dX5_bestCorner_10 : decode cX5_bestCorner 10 = .ok (.iload_n 2, 1) := by decide +kernel
theorem dX5_bestCorner_11 : decode cX5_bestCorner 11 = .ok (.ifCond .lt 8, 3) := by decide +kernel
theorem dX5_bestCorner_14 : decode cX5_bestCorner 14 = .ok (.iload_n 2, 1) := by decide +kernel
theorem dX5_bestCorner_15 : decode cX5_bestCorner 15 = .ok (.iconst 2, 1) := by decide +kernel
theorem dX5_bestCorner_16 : decode cX5_bestCorner 16 = .ok (.if_icmp .le 6, 3) := by decide +kernel
theorem dX5_bestCorner_19 : decode cX5_bestCorner 19 = .ok (.ldc 66, 2) := by decide +kernel
theorem dX5_bestCorner_21 : decode cX5_bestCorner 21 = .ok (.ireturn, 1) := by decide +kernel
theorem dX5_bestCorner_22 : decode cX5_bestCorner 22 = .ok (.aload_n 0, 1) := by decide +kernel
theorem dX5_bestCorner_23 : decode cX5_bestCorner 23 = .ok (.getfield 62, 3) := by decide +kernel
theorem dX5_bestCorner_26 : decode cX5_bestCorner 26 = .ok (.aload_n 0, 1) := by decide +kernel
theorem dX5_bestCorner_27 : decode cX5_bestCorner 27 = .ok (.getfield 23, 3) := by decide +kernel
theorem dX5_bestCorner_30 : decode cX5_bestCorner 30 = .ok (.aload_n 0, 1) := by decide +kernel
theorem dX5_bestCorner_31 : decode cX5_bestCorner 31 = .ok (.getfield 40, 3) := by decide +kernel
theorem dX5_bestCorner_34 : decode cX5_bestCorner 34 = .ok (.iload_n 1, 1) := by decide +kernel
theorem dX5_bestCorner_35 : decode cX5_bestCorner 35 = .ok (.invokevirtual 161, 3) := by decide +kernel
theorem dX5_bestCorner_38 : decode cX5_bestCorner 38 = .ok (.aload_n 0, 1) := by decide +kernel
theorem dX5_bestCorner_39 : decode cX5_bestCorner 39 = .ok (.getfield 62, 3) := by decide +kernel
theorem dX5_bestCorner_42 : decode cX5_bestCorner 42 = .ok (.getfield 165, 3) := by decide +kernel
theorem dX5_bestCorner_45 : decode cX5_bestCorner 45 = .ok (.ifCond .ne 5, 3) := by decide +kernel
theorem dX5_bestCorner_48 : decode cX5_bestCorner 48 = .ok (.iconst (-1), 1) := by decide +kernel
theorem dX5_bestCorner_49 : decode cX5_bestCorner 49 = .ok (.ireturn, 1) := by decide +kernel
theorem dX5_bestCorner_50 : decode cX5_bestCorner 50 = .ok (.iconst (-1), 1) := by decide +kernel
theorem dX5_bestCorner_51 : decode cX5_bestCorner 51 = .ok (.istore_n 3, 1) := by decide +kernel
theorem dX5_bestCorner_52 : decode cX5_bestCorner 52 = .ok (.iconst (-1), 1) := by decide +kernel
theorem dX5_bestCorner_53 : decode cX5_bestCorner 53 = .ok (.istore 4, 2) := by decide +kernel
theorem dX5_bestCorner_55 : decode cX5_bestCorner 55 = .ok (.iconst (-1), 1) := by decide +kernel
theorem dX5_bestCorner_56 : decode cX5_bestCorner 56 = .ok (.istore 5, 2) := by decide +kernel
theorem dX5_bestCorner_58 : decode cX5_bestCorner 58 = .ok (.iconst 0, 1) := by decide +kernel
theorem dX5_bestCorner_59 : decode cX5_bestCorner 59 = .ok (.istore 6, 2) := by decide +kernel
theorem dX5_bestCorner_61 : decode cX5_bestCorner 61 = .ok (.iload 6, 2) := by decide +kernel
theorem dX5_bestCorner_63 : decode cX5_bestCorner 63 = .ok (.bipush 6, 2) := by decide +kernel
theorem dX5_bestCorner_65 : decode cX5_bestCorner 65 = .ok (.if_icmp .ge 85, 3) := by decide +kernel
theorem dX5_bestCorner_68 : decode cX5_bestCorner 68 = .ok (.iconst 0, 1) := by decide +kernel
theorem dX5_bestCorner_69 : decode cX5_bestCorner 69 = .ok (.istore 7, 2) := by decide +kernel
theorem dX5_bestCorner_71 : decode cX5_bestCorner 71 = .ok (.iload 7, 2) := by decide +kernel
theorem dX5_bestCorner_73 : decode cX5_bestCorner 73 = .ok (.aload_n 0, 1) := by decide +kernel
theorem dX5_bestCorner_74 : decode cX5_bestCorner 74 = .ok (.getfield 23, 3) := by decide +kernel
theorem dX5_bestCorner_77 : decode cX5_bestCorner 77 = .ok (.getfield 75, 3) := by decide +kernel
theorem dX5_bestCorner_80 : decode cX5_bestCorner 80 = .ok (.if_icmp .ge 64, 3) := by decide +kernel
theorem dX5_bestCorner_83 : decode cX5_bestCorner 83 = .ok (.aload_n 0, 1) := by decide +kernel
theorem dX5_bestCorner_84 : decode cX5_bestCorner 84 = .ok (.getfield 40, 3) := by decide +kernel
theorem dX5_bestCorner_87 : decode cX5_bestCorner 87 = .ok (.iload_n 1, 1) := by decide +kernel
theorem dX5_bestCorner_88 : decode cX5_bestCorner 88 = .ok (.iload 6, 2) := by decide +kernel
theorem dX5_bestCorner_90 : decode cX5_bestCorner 90 = .ok (.iload 7, 2) := by decide +kernel
theorem dX5_bestCorner_92 : decode cX5_bestCorner 92 = .ok (.invokevirtual 141, 3) := by decide +kernel
theorem dX5_bestCorner_95 : decode cX5_bestCorner 95 = .ok (.ifCond .eq 6, 3) := by decide +kernel
theorem dX5_bestCorner_98 : decode cX5_bestCorner 98 = .ok (.goto 40, 3) := by decide +kernel
theorem dX5_bestCorner_101 : decode cX5_bestCorner 101 = .ok (.aload_n 0, 1) := by decide +kernel
theorem dX5_bestCorner_102 : decode cX5_bestCorner 102 = .ok (.getfield 62, 3) := by decide +kernel
theorem dX5_bestCorner_105 : decode cX5_bestCorner 105 = .ok (.iload 6, 2) := by decide +kernel
theorem dX5_bestCorner_107 : decode cX5_bestCorner 107 = .ok (.iload 7, 2) := by decide +kernel
theorem dX5_bestCorner_109 : decode cX5_bestCorner 109 = .ok (.invokevirtual 200, 3) := by decide +kernel
theorem dX5_bestCorner_112 : decode cX5_bestCorner 112 = .ok (.istore 8, 2) := by decide +kernel
theorem dX5_bestCorner_114 : decode cX5_bestCorner 114 = .ok (.iload 5, 2) := by decide +kernel
theorem dX5_bestCorner_116 : decode cX5_bestCorner 116 = .ok (.iconst (-1), 1) := by decide +kernel
theorem dX5_bestCorner_117 : decode cX5_bestCorner 117 = .ok (.if_icmp .eq 10, 3) := by decide +kernel
theorem dX5_bestCorner_120 : decode cX5_bestCorner 120 = .ok (.iload 8, 2) := by decide +kernel
theorem dX5_bestCorner_122 : decode cX5_bestCorner 122 = .ok (.iload 5, 2) := by decide +kernel
theorem dX5_bestCorner_124 : decode cX5_bestCorner 124 = .ok (.if_icmp .ge 14, 3) := by decide +kernel
theorem dX5_bestCorner_127 : decode cX5_bestCorner 127 = .ok (.iload 8, 2) := by decide +kernel
theorem dX5_bestCorner_129 : decode cX5_bestCorner 129 = .ok (.istore 5, 2) := by decide +kernel
theorem dX5_bestCorner_131 : decode cX5_bestCorner 131 = .ok (.iload 6, 2) := by decide +kernel
theorem dX5_bestCorner_133 : decode cX5_bestCorner 133 = .ok (.istore_n 3, 1) := by decide +kernel
theorem dX5_bestCorner_134 : decode cX5_bestCorner 134 = .ok (.iload 7, 2) := by decide +kernel
theorem dX5_bestCorner_136 : decode cX5_bestCorner 136 = .ok (.istore 4, 2) := by decide +kernel
theorem dX5_bestCorner_138 : decode cX5_bestCorner 138 = .ok (.iinc 7 1, 3) := by decide +kernel
theorem dX5_bestCorner_141 : decode cX5_bestCorner 141 = .ok (.goto (-70), 3) := by decide +kernel
theorem dX5_bestCorner_144 : decode cX5_bestCorner 144 = .ok (.iinc 6 1, 3) := by decide +kernel
theorem dX5_bestCorner_147 : decode cX5_bestCorner 147 = .ok (.goto (-86), 3) := by decide +kernel
theorem dX5_bestCorner_150 : decode cX5_bestCorner 150 = .ok (.iload_n 2, 1) := by decide +kernel
theorem dX5_bestCorner_151 : decode cX5_bestCorner 151 = .ok (.ifCond .ne 7, 3) := by decide +kernel
theorem dX5_bestCorner_154 : decode cX5_bestCorner 154 = .ok (.iload_n 3, 1) := by decide +kernel
theorem dX5_bestCorner_155 : decode cX5_bestCorner 155 = .ok (.goto 15, 3) := by decide +kernel
theorem dX5_bestCorner_158 : decode cX5_bestCorner 158 = .ok (.iload_n 2, 1) := by decide +kernel
theorem dX5_bestCorner_159 : decode cX5_bestCorner 159 = .ok (.iconst 1, 1) := by decide +kernel
theorem dX5_bestCorner_160 : decode cX5_bestCorner 160 = .ok (.if_icmp .ne 8, 3) := by decide +kernel
theorem dX5_bestCorner_163 : decode cX5_bestCorner 163 = .ok (.iload 4, 2) := by decide +kernel
theorem dX5_bestCorner_165 : decode cX5_bestCorner 165 = .ok (.goto 5, 3) := by decide +kernel
theorem dX5_bestCorner_168 : decode cX5_bestCorner 168 = .ok (.iload 5, 2) := by decide +kernel
theorem dX5_bestCorner_170 : decode cX5_bestCorner 170 = .ok (.ireturn, 1) := by decide +kernel
theorem dX5_spades_0 : decode cX5_spades 0 = .ok (.iload_n 1, 1) := by decide +kernel
theorem dX5_spades_1 : decode cX5_spades 1 = .ok (.invokestatic 124, 3) := by decide +kernel
theorem dX5_spades_4 : decode cX5_spades 4 = .ok (.ifCond .ne 6, 3) := by decide +kernel
theorem dX5_spades_7 : decode cX5_spades 7 = .ok (.ldc 116, 2) := by decide +kernel
theorem dX5_spades_9 : decode cX5_spades 9 = .ok (.ireturn, 1) := by decide +kernel
theorem dX5_spades_10 : decode cX5_spades 10 = .ok (.aload_n 0, 1) := by decide +kernel
theorem dX5_spades_11 : decode cX5_spades 11 = .ok (.getfield 62, 3) := by decide +kernel
theorem dX5_spades_14 : decode cX5_spades 14 = .ok (.aload_n 0, 1) := by decide +kernel
theorem dX5_spades_15 : decode cX5_spades 15 = .ok (.getfield 23, 3) := by decide +kernel
theorem dX5_spades_18 : decode cX5_spades 18 = .ok (.aload_n 0, 1) := by decide +kernel
theorem dX5_spades_19 : decode cX5_spades 19 = .ok (.getfield 40, 3) := by decide +kernel
theorem dX5_spades_22 : decode cX5_spades 22 = .ok (.iload_n 1, 1) := by decide +kernel
theorem dX5_spades_23 : decode cX5_spades 23 = .ok (.invokevirtual 161, 3) := by decide +kernel
theorem dX5_spades_26 : decode cX5_spades 26 = .ok (.aload_n 0, 1) := by decide +kernel
theorem dX5_spades_27 : decode cX5_spades 27 = .ok (.getfield 62, 3) := by decide +kernel
theorem dX5_spades_30 : decode cX5_spades 30 = .ok (.invokevirtual 204, 3) := by decide +kernel
theorem dX5_spades_33 : decode cX5_spades 33 = .ok (.ireturn, 1) := by decide +kernel
theorem dX5_found_0 : decode cX5_found 0 = .ok (.iload_n 1, 1) := by decide +kernel
theorem dX5_found_1 : decode cX5_found 1 = .ok (.invokestatic 124, 3) := by decide +kernel
theorem dX5_found_4 : decode cX5_found 4 = .ok (.ifCond .ne 6, 3) := by decide +kernel
theorem dX5_found_7 : decode cX5_found 7 = .ok (.ldc 116, 2) := by decide +kernel
theorem dX5_found_9 : decode cX5_found 9 = .ok (.ireturn, 1) := by decide +kernel
theorem dX5_found_10 : decode cX5_found 10 = .ok (.aload_n 0, 1) := by decide +kernel
theorem dX5_found_11 : decode cX5_found 11 = .ok (.getfield 62, 3) := by decide +kernel
theorem dX5_found_14 : decode cX5_found 14 = .ok (.aload_n 0, 1) := by decide +kernel
theorem dX5_found_15 : decode cX5_found 15 = .ok (.getfield 23, 3) := by decide +kernel
theorem dX5_found_18 : decode cX5_found 18 = .ok (.iload_n 1, 1) := by decide +kernel
theorem dX5_found_19 : decode cX5_found 19 = .ok (.invokevirtual 207, 3) := by decide +kernel
theorem dX5_found_22 : decode cX5_found 22 = .ok (.aload_n 0, 1) := by decide +kernel
theorem dX5_found_23 : decode cX5_found 23 = .ok (.getfield 62, 3) := by decide +kernel
theorem dX5_found_26 : decode cX5_found 26 = .ok (.getfield 165, 3) := by decide +kernel
theorem dX5_found_29 : decode cX5_found 29 = .ok (.iconst 1, 1) := by decide +kernel
theorem dX5_found_30 : decode cX5_found 30 = .ok (.if_icmp .ne 5, 3) := by decide +kernel
theorem dX5_found_33 : decode cX5_found 33 = .ok (.iconst 0, 1) := by decide +kernel
theorem dX5_found_34 : decode cX5_found 34 = .ok (.ireturn, 1) := by decide +kernel
theorem dX5_found_35 : decode cX5_found 35 = .ok (.iconst 0, 1) := by decide +kernel
theorem dX5_found_36 : decode cX5_found 36 = .ok (.istore_n 2, 1) := by decide +kernel
theorem dX5_found_37 : decode cX5_found 37 = .ok (.iconst 0, 1) := by decide +kernel
theorem dX5_found_38 : decode cX5_found 38 = .ok (.istore_n 3, 1) := by decide +kernel
theorem dX5_found_39 : decode cX5_found 39 = .ok (.iload_n 3, 1) := by decide +kernel
theorem dX5_found_40 : decode cX5_found 40 = .ok (.bipush 6, 2) := by decide +kernel
theorem dX5_found_42 : decode cX5_found 42 = .ok (.if_icmp .ge 66, 3) := by decide +kernel
theorem dX5_found_45 : decode cX5_found 45 = .ok (.iconst 0, 1) := by decide +kernel
theorem dX5_found_46 : decode cX5_found 46 = .ok (.istore 4, 2) := by decide +kernel
theorem dX5_found_48 : decode cX5_found 48 = .ok (.iload 4, 2) := by decide +kernel
theorem dX5_found_50 : decode cX5_found 50 = .ok (.aload_n 0, 1) := by decide +kernel
theorem dX5_found_51 : decode cX5_found 51 = .ok (.getfield 23, 3) := by decide +kernel
theorem dX5_found_54 : decode cX5_found 54 = .ok (.getfield 75, 3) := by decide +kernel
theorem dX5_found_57 : decode cX5_found 57 = .ok (.if_icmp .ge 45, 3) := by decide +kernel
theorem dX5_found_60 : decode cX5_found 60 = .ok (.iload_n 3, 1) := by decide +kernel
theorem dX5_found_61 : decode cX5_found 61 = .ok (.iload_n 1, 1) := by decide +kernel
theorem dX5_found_62 : decode cX5_found 62 = .ok (.if_icmp .ne 6, 3) := by decide +kernel
theorem dX5_found_65 : decode cX5_found 65 = .ok (.goto 31, 3) := by decide +kernel
theorem dX5_found_68 : decode cX5_found 68 = .ok (.iinc 2 1, 3) := by decide +kernel
theorem dX5_found_71 : decode cX5_found 71 = .ok (.aload_n 0, 1) := by decide +kernel
theorem dX5_found_72 : decode cX5_found 72 = .ok (.getfield 62, 3) := by decide +kernel
theorem dX5_found_75 : decode cX5_found 75 = .ok (.iload_n 3, 1) := by decide +kernel
theorem dX5_found_76 : decode cX5_found 76 = .ok (.iconst 1, 1) := by decide +kernel
theorem dX5_found_77 : decode cX5_found 77 = .ok (.iload 4, 2) := by decide +kernel
theorem dX5_found_79 : decode cX5_found 79 = .ok (.ishl, 1) := by decide +kernel
theorem dX5_found_80 : decode cX5_found 80 = .ok (.invokevirtual 211, 3) := by decide +kernel
theorem dX5_found_83 : decode cX5_found 83 = .ok (.aload_n 0, 1) := by decide +kernel
theorem dX5_found_84 : decode cX5_found 84 = .ok (.getfield 62, 3) := by decide +kernel
theorem dX5_found_87 : decode cX5_found 87 = .ok (.getfield 165, 3) := by decide +kernel
theorem dX5_found_90 : decode cX5_found 90 = .ok (.iconst 1, 1) := by decide +kernel
theorem dX5_found_91 : decode cX5_found 91 = .ok (.if_icmp .ne 5, 3) := by decide +kernel
theorem dX5_found_94 : decode cX5_found 94 = .ok (.iload_n 2, 1) := by decide +kernel
theorem dX5_found_95 : decode cX5_found 95 = .ok (.ireturn, 1) := by decide +kernel
theorem dX5_found_96 : decode cX5_found 96 = .ok (.iinc 4 1, 3) := by decide +kernel
theorem dX5_found_99 : decode cX5_found 99 = .ok (.goto (-51), 3) := by decide +kernel
theorem dX5_found_102 : decode cX5_found 102 = .ok (.iinc 3 1, 3) := by decide +kernel
theorem dX5_found_105 : decode cX5_found 105 = .ok (.goto (-66), 3) := by decide +kernel
theorem dX5_found_108 : decode cX5_found 108 = .ok (.iconst (-1), 1) := by decide +kernel
theorem dX5_found_109 : decode cX5_found 109 = .ok (.ireturn, 1) := by decide +kernel
theorem dX5_say_0 : decode cX5_say 0 = .ok (.iload_n 1, 1) := by decide +kernel
theorem dX5_say_1 : decode cX5_say 1 = .ok (.invokestatic 124, 3) := by decide +kernel
theorem dX5_say_4 : decode cX5_say 4 = .ok (.ifCond .eq 10, 3) := by decide +kernel
theorem dX5_say_7 : decode cX5_say 7 = .ok (.iload_n 2, 1) := by decide +kernel
theorem dX5_say_8 : decode cX5_say 8 = .ok (.invokestatic 124, 3) := by decide +kernel
theorem dX5_say_11 : decode cX5_say 11 = .ok (.ifCond .ne 6, 3) := by decide +kernel
theorem dX5_say_14 : decode cX5_say 14 = .ok (.ldc 116, 2) := by decide +kernel
theorem dX5_say_16 : decode cX5_say 16 = .ok (.ireturn, 1) := by decide +kernel
theorem dX5_say_17 : decode cX5_say 17 = .ok (.aload_n 0, 1) := by decide +kernel
theorem dX5_say_18 : decode cX5_say 18 = .ok (.getfield 55, 3) := by decide +kernel
theorem dX5_say_21 : decode cX5_say 21 = .ok (.getfield 82, 3) := by decide +kernel
theorem dX5_say_24 : decode cX5_say 24 = .ok (.bipush 20, 2) := by decide +kernel
theorem dX5_say_26 : decode cX5_say 26 = .ok (.if_icmp .lt 6, 3) := by decide +kernel
theorem dX5_say_29 : decode cX5_say 29 = .ok (.ldc 67, 2) := by decide +kernel
theorem dX5_say_31 : decode cX5_say 31 = .ok (.ireturn, 1) := by decide +kernel
theorem dX5_say_32 : decode cX5_say 32 = .ok (.aload_n 0, 1) := by decide +kernel
theorem dX5_say_33 : decode cX5_say 33 = .ok (.getfield 55, 3) := by decide +kernel
theorem dX5_say_36 : decode cX5_say 36 = .ok (.iload_n 1, 1) := by decide +kernel
theorem dX5_say_37 : decode cX5_say 37 = .ok (.iload_n 2, 1) := by decide +kernel
theorem dX5_say_38 : decode cX5_say 38 = .ok (.iload_n 3, 1) := by decide +kernel
theorem dX5_say_39 : decode cX5_say 39 = .ok (.invokevirtual 215, 3) := by decide +kernel
theorem dX5_say_42 : decode cX5_say 42 = .ok (.ireturn, 1) := by decide +kernel
theorem dX5_forget_0 : decode cX5_forget 0 = .ok (.aload_n 0, 1) := by decide +kernel
theorem dX5_forget_1 : decode cX5_forget 1 = .ok (.getfield 55, 3) := by decide +kernel
theorem dX5_forget_4 : decode cX5_forget 4 = .ok (.getfield 82, 3) := by decide +kernel
theorem dX5_forget_7 : decode cX5_forget 7 = .ok (.istore_n 1, 1) := by decide +kernel
theorem dX5_forget_8 : decode cX5_forget 8 = .ok (.aload_n 0, 1) := by decide +kernel
theorem dX5_forget_9 : decode cX5_forget 9 = .ok (.getfield 55, 3) := by decide +kernel
theorem dX5_forget_12 : decode cX5_forget 12 = .ok (.iconst 0, 1) := by decide +kernel
theorem dX5_forget_13 : decode cX5_forget 13 = .ok (.putfield 82, 3) := by decide +kernel
theorem dX5_forget_16 : decode cX5_forget 16 = .ok (.iload_n 1, 1) := by decide +kernel
theorem dX5_forget_17 : decode cX5_forget 17 = .ok (.ireturn, 1) := by decide +kernel
theorem dX5_saying_0 : decode cX5_saying 0 = .ok (.iload_n 1, 1) := by decide +kernel
theorem dX5_saying_1 : decode cX5_saying 1 = .ok (.ifCond .lt 14, 3) := by decide +kernel
theorem dX5_saying_4 : decode cX5_saying 4 = .ok (.iload_n 1, 1) := by decide +kernel
theorem dX5_saying_5 : decode cX5_saying 5 = .ok (.aload_n 0, 1) := by decide +kernel
theorem dX5_saying_6 : decode cX5_saying 6 = .ok (.getfield 55, 3) := by decide +kernel
theorem dX5_saying_9 : decode cX5_saying 9 = .ok (.getfield 82, 3) := by decide +kernel
theorem dX5_saying_12 : decode cX5_saying 12 = .ok (.if_icmp .lt 6, 3) := by decide +kernel
theorem dX5_saying_15 : decode cX5_saying 15 = .ok (.ldc 116, 2) := by decide +kernel
theorem dX5_saying_17 : decode cX5_saying 17 = .ok (.ireturn, 1) := by decide +kernel
theorem dX5_saying_18 : decode cX5_saying 18 = .ok (.iload_n 2, 1) := by decide +kernel
theorem dX5_saying_19 : decode cX5_saying 19 = .ok (.ifCond .lt 8, 3) := by decide +kernel
theorem dX5_saying_22 : decode cX5_saying 22 = .ok (.iload_n 2, 1) := by decide +kernel
theorem dX5_saying_23 : decode cX5_saying 23 = .ok (.iconst 1, 1) := by decide +kernel
theorem dX5_saying_24 : decode cX5_saying 24 = .ok (.if_icmp .le 6, 3) := by decide +kernel
theorem dX5_saying_27 : decode cX5_saying 27 = .ok (.ldc 66, 2) := by decide +kernel
theorem dX5_saying_29 : decode cX5_saying 29 = .ok (.ireturn, 1) := by decide +kernel
theorem dX5_saying_30 : decode cX5_saying 30 = .ok (.iload_n 2, 1) := by decide +kernel
theorem dX5_saying_31 : decode cX5_saying 31 = .ok (.ifCond .ne 27, 3) := by decide +kernel
theorem dX5_saying_34 : decode cX5_saying 34 = .ok (.aload_n 0, 1) := by decide +kernel
theorem dX5_saying_35 : decode cX5_saying 35 = .ok (.getfield 55, 3) := by decide +kernel
theorem dX5_saying_38 : decode cX5_saying 38 = .ok (.iload_n 1, 1) := by decide +kernel
theorem dX5_saying_39 : decode cX5_saying 39 = .ok (.aload_n 0, 1) := by decide +kernel
theorem dX5_saying_40 : decode cX5_saying 40 = .ok (.getfield 23, 3) := by decide +kernel
theorem dX5_saying_43 : decode cX5_saying 43 = .ok (.getfield 219, 3) := by decide +kernel
theorem dX5_saying_46 : decode cX5_saying 46 = .ok (.invokevirtual 222, 3) := by decide +kernel
theorem dX5_saying_49 : decode cX5_saying 49 = .ok (.ifCond .eq 7, 3) := by decide +kernel
theorem dX5_saying_52 : decode cX5_saying 52 = .ok (.iconst 1, 1) := by decide +kernel
theorem dX5_saying_53 : decode cX5_saying 53 = .ok (.goto 4, 3) := by decide +kernel
theorem dX5_saying_56 : decode cX5_saying 56 = .ok (.iconst 0, 1) := by decide +kernel
theorem dX5_saying_57 : decode cX5_saying 57 = .ok (.ireturn, 1) := by decide +kernel
theorem dX5_saying_58 : decode cX5_saying 58 = .ok (.aload_n 0, 1) := by decide +kernel
theorem dX5_saying_59 : decode cX5_saying 59 = .ok (.getfield 62, 3) := by decide +kernel
theorem dX5_saying_62 : decode cX5_saying 62 = .ok (.aload_n 0, 1) := by decide +kernel
theorem dX5_saying_63 : decode cX5_saying 63 = .ok (.getfield 23, 3) := by decide +kernel
theorem dX5_saying_66 : decode cX5_saying 66 = .ok (.aload_n 0, 1) := by decide +kernel
theorem dX5_saying_67 : decode cX5_saying 67 = .ok (.getfield 40, 3) := by decide +kernel
theorem dX5_saying_70 : decode cX5_saying 70 = .ok (.aload_n 0, 1) := by decide +kernel
theorem dX5_saying_71 : decode cX5_saying 71 = .ok (.getfield 55, 3) := by decide +kernel
theorem dX5_saying_74 : decode cX5_saying 74 = .ok (.getfield 225, 3) := by decide +kernel
theorem dX5_saying_77 : decode cX5_saying 77 = .ok (.iload_n 1, 1) := by decide +kernel
theorem dX5_saying_78 : decode cX5_saying 78 = .ok (.iaload, 1) := by decide +kernel
theorem dX5_saying_79 : decode cX5_saying 79 = .ok (.invokevirtual 161, 3) := by decide +kernel
theorem dX5_saying_82 : decode cX5_saying 82 = .ok (.aload_n 0, 1) := by decide +kernel
theorem dX5_saying_83 : decode cX5_saying 83 = .ok (.getfield 62, 3) := by decide +kernel
theorem dX5_saying_86 : decode cX5_saying 86 = .ok (.aload_n 0, 1) := by decide +kernel
theorem dX5_saying_87 : decode cX5_saying 87 = .ok (.getfield 55, 3) := by decide +kernel
theorem dX5_saying_90 : decode cX5_saying 90 = .ok (.getfield 228, 3) := by decide +kernel
theorem dX5_saying_93 : decode cX5_saying 93 = .ok (.iload_n 1, 1) := by decide +kernel
theorem dX5_saying_94 : decode cX5_saying 94 = .ok (.iaload, 1) := by decide +kernel
theorem dX5_saying_95 : decode cX5_saying 95 = .ok (.aload_n 0, 1) := by decide +kernel
theorem dX5_saying_96 : decode cX5_saying 96 = .ok (.getfield 55, 3) := by decide +kernel
theorem dX5_saying_99 : decode cX5_saying 99 = .ok (.getfield 231, 3) := by decide +kernel
theorem dX5_saying_102 : decode cX5_saying 102 = .ok (.iload_n 1, 1) := by decide +kernel
theorem dX5_saying_103 : decode cX5_saying 103 = .ok (.baload, 1) := by decide +kernel
theorem dX5_saying_104 : decode cX5_saying 104 = .ok (.invokevirtual 233, 3) := by decide +kernel
theorem dX5_saying_107 : decode cX5_saying 107 = .ok (.ireturn, 1) := by decide +kernel
theorem dX5_loudest_0 : decode cX5_loudest 0 = .ok (.aload_n 0, 1) := by decide +kernel
theorem dX5_loudest_1 : decode cX5_loudest 1 = .ok (.getfield 55, 3) := by decide +kernel
theorem dX5_loudest_4 : decode cX5_loudest 4 = .ok (.aload_n 0, 1) := by decide +kernel
theorem dX5_loudest_5 : decode cX5_loudest 5 = .ok (.getfield 23, 3) := by decide +kernel
theorem dX5_loudest_8 : decode cX5_loudest 8 = .ok (.getfield 219, 3) := by decide +kernel
theorem dX5_loudest_11 : decode cX5_loudest 11 = .ok (.invokevirtual 237, 3) := by decide +kernel
theorem dX5_loudest_14 : decode cX5_loudest 14 = .ok (.ireturn, 1) := by decide +kernel
theorem dX5_hunt_0 : decode cX5_hunt 0 = .ok (.iload_n 1, 1) := by decide +kernel
theorem dX5_hunt_1 : decode cX5_hunt 1 = .ok (.iconst 1, 1) := by decide +kernel
theorem dX5_hunt_2 : decode cX5_hunt 2 = .ok (.if_icmp .lt 9, 3) := by decide +kernel
theorem dX5_hunt_5 : decode cX5_hunt 5 = .ok (.iload_n 1, 1) := by decide +kernel
theorem dX5_hunt_6 : decode cX5_hunt 6 = .ok (.bipush 20, 2) := by decide +kernel
theorem dX5_hunt_8 : decode cX5_hunt 8 = .ok (.if_icmp .le 6, 3) := by decide +kernel
theorem dX5_hunt_11 : decode cX5_hunt 11 = .ok (.ldc 66, 2) := by decide +kernel
theorem dX5_hunt_13 : decode cX5_hunt 13 = .ok (.ireturn, 1) := by decide +kernel
theorem dX5_hunt_14 : decode cX5_hunt 14 = .ok (.aload_n 0, 1) := by decide +kernel
theorem dX5_hunt_15 : decode cX5_hunt 15 = .ok (.getfield 23, 3) := by decide +kernel
theorem dX5_hunt_18 : decode cX5_hunt 18 = .ok (.getfield 75, 3) := by decide +kernel
theorem dX5_hunt_21 : decode cX5_hunt 21 = .ok (.ifCond .eq 14, 3) := by decide +kernel
theorem dX5_hunt_24 : decode cX5_hunt 24 = .ok (.aload_n 0, 1) := by decide +kernel
theorem dX5_hunt_25 : decode cX5_hunt 25 = .ok (.getfield 40, 3) := by decide +kernel
theorem dX5_hunt_28 : decode cX5_hunt 28 = .ok (.getfield 109, 3) := by decide +kernel
theorem dX5_hunt_31 : decode cX5_hunt 31 = .ok (.iconst (-1), 1) := by decide +kernel
theorem dX5_hunt_32 : decode cX5_hunt 32 = .ok (.if_icmp .eq 6, 3) := by decide +kernel
theorem dX5_hunt_35 : decode cX5_hunt 35 = .ok (.ldc 133, 2) := by decide +kernel
theorem dX5_hunt_37 : decode cX5_hunt 37 = .ok (.ireturn, 1) := by decide +kernel
theorem dX5_hunt_38 : decode cX5_hunt 38 = .ok (.iconst 0, 1) := by decide +kernel
theorem dX5_hunt_39 : decode cX5_hunt 39 = .ok (.istore_n 2, 1) := by decide +kernel
theorem dX5_hunt_40 : decode cX5_hunt 40 = .ok (.iload_n 2, 1) := by decide +kernel
theorem dX5_hunt_41 : decode cX5_hunt 41 = .ok (.iload_n 1, 1) := by decide +kernel
theorem dX5_hunt_42 : decode cX5_hunt 42 = .ok (.if_icmp .ge 50, 3) := by decide +kernel
theorem dX5_hunt_45 : decode cX5_hunt 45 = .ok (.aload_n 0, 1) := by decide +kernel
theorem dX5_hunt_46 : decode cX5_hunt 46 = .ok (.getfield 40, 3) := by decide +kernel
theorem dX5_hunt_49 : decode cX5_hunt 49 = .ok (.getfield 109, 3) := by decide +kernel
theorem dX5_hunt_52 : decode cX5_hunt 52 = .ok (.iconst (-1), 1) := by decide +kernel
theorem dX5_hunt_53 : decode cX5_hunt 53 = .ok (.if_icmp .ne 39, 3) := by decide +kernel
theorem dX5_hunt_56 : decode cX5_hunt 56 = .ok (.iconst 0, 1) := by decide +kernel
theorem dX5_hunt_57 : decode cX5_hunt 57 = .ok (.istore_n 3, 1) := by decide +kernel
theorem dX5_hunt_58 : decode cX5_hunt 58 = .ok (.iload_n 3, 1) := by decide +kernel
theorem dX5_hunt_59 : decode cX5_hunt 59 = .ok (.bipush 6, 2) := by decide +kernel
theorem dX5_hunt_61 : decode cX5_hunt 61 = .ok (.if_icmp .ge 25, 3) := by decide +kernel
theorem dX5_hunt_64 : decode cX5_hunt 64 = .ok (.aload_n 0, 1) := by decide +kernel
theorem dX5_hunt_65 : decode cX5_hunt 65 = .ok (.getfield 40, 3) := by decide +kernel
theorem dX5_hunt_68 : decode cX5_hunt 68 = .ok (.getfield 109, 3) := by decide +kernel
theorem dX5_hunt_71 : decode cX5_hunt 71 = .ok (.iconst (-1), 1) := by decide +kernel
theorem dX5_hunt_72 : decode cX5_hunt 72 = .ok (.if_icmp .ne 14, 3) := by decide +kernel
theorem dX5_hunt_75 : decode cX5_hunt 75 = .ok (.aload_n 0, 1) := by decide +kernel
theorem dX5_hunt_76 : decode cX5_hunt 76 = .ok (.iload_n 3, 1) := by decide +kernel
theorem dX5_hunt_77 : decode cX5_hunt 77 = .ok (.invokevirtual 240, 3) := by decide +kernel
theorem dX5_hunt_80 : decode cX5_hunt 80 = .ok (.iinc 3 1, 3) := by decide +kernel
theorem dX5_hunt_83 : decode cX5_hunt 83 = .ok (.goto (-25), 3) := by decide +kernel
theorem dX5_hunt_86 : decode cX5_hunt 86 = .ok (.iinc 2 1, 3) := by decide +kernel
theorem dX5_hunt_89 : decode cX5_hunt 89 = .ok (.goto (-49), 3) := by decide +kernel
theorem dX5_hunt_92 : decode cX5_hunt 92 = .ok (.aload_n 0, 1) := by decide +kernel
theorem dX5_hunt_93 : decode cX5_hunt 93 = .ok (.getfield 40, 3) := by decide +kernel
theorem dX5_hunt_96 : decode cX5_hunt 96 = .ok (.getfield 109, 3) := by decide +kernel
theorem dX5_hunt_99 : decode cX5_hunt 99 = .ok (.ireturn, 1) := by decide +kernel
theorem dX5_seed_0 : decode cX5_seed 0 = .ok (.iload_n 1, 1) := by decide +kernel
theorem dX5_seed_1 : decode cX5_seed 1 = .ok (.ifCond .ge 6, 3) := by decide +kernel
theorem dX5_seed_4 : decode cX5_seed 4 = .ok (.ldc 66, 2) := by decide +kernel
theorem dX5_seed_6 : decode cX5_seed 6 = .ok (.ireturn, 1) := by decide +kernel
theorem dX5_seed_7 : decode cX5_seed 7 = .ok (.aload_n 0, 1) := by decide +kernel
theorem dX5_seed_8 : decode cX5_seed 8 = .ok (.getfield 40, 3) := by decide +kernel
theorem dX5_seed_11 : decode cX5_seed 11 = .ok (.getfield 243, 3) := by decide +kernel
theorem dX5_seed_14 : decode cX5_seed 14 = .ok (.istore_n 2, 1) := by decide +kernel
theorem dX5_seed_15 : decode cX5_seed 15 = .ok (.aload_n 0, 1) := by decide +kernel
theorem dX5_seed_16 : decode cX5_seed 16 = .ok (.getfield 40, 3) := by decide +kernel
theorem dX5_seed_19 : decode cX5_seed 19 = .ok (.iload_n 1, 1) := by decide +kernel
theorem dX5_seed_20 : decode cX5_seed 20 = .ok (.putfield 243, 3) := by decide +kernel
theorem dX5_seed_23 : decode cX5_seed 23 = .ok (.iload_n 2, 1) := by decide +kernel
theorem dX5_seed_24 : decode cX5_seed 24 = .ok (.ireturn, 1) := by decide +kernel
theorem dX5_keep_0 : decode cX5_keep 0 = .ok (.iload_n 1, 1) := by decide +kernel
theorem dX5_keep_1 : decode cX5_keep 1 = .ok (.ifCond .lt 8, 3) := by decide +kernel
theorem dX5_keep_4 : decode cX5_keep 4 = .ok (.iload_n 1, 1) := by decide +kernel
theorem dX5_keep_5 : decode cX5_keep 5 = .ok (.iconst 2, 1) := by decide +kernel
theorem dX5_keep_6 : decode cX5_keep 6 = .ok (.if_icmp .lt 6, 3) := by decide +kernel
theorem dX5_keep_9 : decode cX5_keep 9 = .ok (.ldc 116, 2) := by decide +kernel
theorem dX5_keep_11 : decode cX5_keep 11 = .ok (.ireturn, 1) := by decide +kernel
theorem dX5_keep_12 : decode cX5_keep 12 = .ok (.aload_n 0, 1) := by decide +kernel
theorem dX5_keep_13 : decode cX5_keep 13 = .ok (.getfield 44, 3) := by decide +kernel
theorem dX5_keep_16 : decode cX5_keep 16 = .ok (.iload_n 1, 1) := by decide +kernel
theorem dX5_keep_17 : decode cX5_keep 17 = .ok (.aaload, 1) := by decide +kernel
theorem dX5_keep_18 : decode cX5_keep 18 = .ok (.aload_n 0, 1) := by decide +kernel
theorem dX5_keep_19 : decode cX5_keep 19 = .ok (.getfield 40, 3) := by decide +kernel
theorem dX5_keep_22 : decode cX5_keep 22 = .ok (.invokevirtual 246, 3) := by decide +kernel
theorem dX5_keep_25 : decode cX5_keep 25 = .ok (.aload_n 0, 1) := by decide +kernel
theorem dX5_keep_26 : decode cX5_keep 26 = .ok (.getfield 48, 3) := by decide +kernel
theorem dX5_keep_29 : decode cX5_keep 29 = .ok (.iload_n 1, 1) := by decide +kernel
theorem dX5_keep_30 : decode cX5_keep 30 = .ok (.iconst 1, 1) := by decide +kernel
theorem dX5_keep_31 : decode cX5_keep 31 = .ok (.bastore, 1) := by decide +kernel
theorem dX5_keep_32 : decode cX5_keep 32 = .ok (.iconst 1, 1) := by decide +kernel
theorem dX5_keep_33 : decode cX5_keep 33 = .ok (.ireturn, 1) := by decide +kernel
theorem dX5_goBack_0 : decode cX5_goBack 0 = .ok (.iload_n 1, 1) := by decide +kernel
theorem dX5_goBack_1 : decode cX5_goBack 1 = .ok (.ifCond .lt 8, 3) := by decide +kernel
theorem dX5_goBack_4 : decode cX5_goBack 4 = .ok (.iload_n 1, 1) := by decide +kernel
theorem dX5_goBack_5 : decode cX5_goBack 5 = .ok (.iconst 2, 1) := by decide +kernel
theorem dX5_goBack_6 : decode cX5_goBack 6 = .ok (.if_icmp .lt 6, 3) := by decide +kernel
theorem dX5_goBack_9 : decode cX5_goBack 9 = .ok (.ldc 116, 2) := by decide +kernel
theorem dX5_goBack_11 : decode cX5_goBack 11 = .ok (.ireturn, 1) := by decide +kernel
theorem dX5_goBack_12 : decode cX5_goBack 12 = .ok (.aload_n 0, 1) := by decide +kernel
theorem dX5_goBack_13 : decode cX5_goBack 13 = .ok (.getfield 48, 3) := by decide +kernel
theorem dX5_goBack_16 : decode cX5_goBack 16 = .ok (.iload_n 1, 1) := by decide +kernel
theorem dX5_goBack_17 : decode cX5_goBack 17 = .ok (.baload, 1) := by decide +kernel
theorem dX5_goBack_18 : decode cX5_goBack 18 = .ok (.ifCond .ne 6, 3) := by decide +kernel
theorem dX5_goBack_21 : decode cX5_goBack 21 = .ok (.ldc 133, 2) := by decide +kernel
theorem dX5_goBack_23 : decode cX5_goBack 23 = .ok (.ireturn, 1) := by decide +kernel
theorem dX5_goBack_24 : decode cX5_goBack 24 = .ok (.aload_n 0, 1) := by decide +kernel
theorem dX5_goBack_25 : decode cX5_goBack 25 = .ok (.getfield 40, 3) := by decide +kernel
theorem dX5_goBack_28 : decode cX5_goBack 28 = .ok (.aload_n 0, 1) := by decide +kernel
theorem dX5_goBack_29 : decode cX5_goBack 29 = .ok (.getfield 44, 3) := by decide +kernel
theorem dX5_goBack_32 : decode cX5_goBack 32 = .ok (.iload_n 1, 1) := by decide +kernel
theorem dX5_goBack_33 : decode cX5_goBack 33 = .ok (.aaload, 1) := by decide +kernel
theorem dX5_goBack_34 : decode cX5_goBack 34 = .ok (.invokevirtual 246, 3) := by decide +kernel
theorem dX5_goBack_37 : decode cX5_goBack 37 = .ok (.iconst 1, 1) := by decide +kernel
theorem dX5_goBack_38 : decode cX5_goBack 38 = .ok (.ireturn, 1) := by decide +kernel
theorem dX5_isBand_0 : decode cX5_isBand 0 = .ok (.iload_n 0, 1) := by decide +kernel
theorem dX5_isBand_1 : decode cX5_isBand 1 = .ok (.ifCond .lt 13, 3) := by decide +kernel
theorem dX5_isBand_4 : decode cX5_isBand 4 = .ok (.iload_n 0, 1) := by decide +kernel
theorem dX5_isBand_5 : decode cX5_isBand 5 = .ok (.bipush 6, 2) := by decide +kernel
theorem dX5_isBand_7 : decode cX5_isBand 7 = .ok (.if_icmp .ge 7, 3) := by decide +kernel
theorem dX5_isBand_10 : decode cX5_isBand 10 = .ok (.iconst 1, 1) := by decide +kernel
theorem dX5_isBand_11 : decode cX5_isBand 11 = .ok (.goto 4, 3) := by decide +kernel
theorem dX5_isBand_14 : decode cX5_isBand 14 = .ok (.iconst 0, 1) := by decide +kernel
theorem dX5_isBand_15 : decode cX5_isBand 15 = .ok (.ireturn, 1) := by decide +kernel
theorem dX5_areTwoBands_0 : decode cX5_areTwoBands 0 = .ok (.iload_n 0, 1) := by decide +kernel
theorem dX5_areTwoBands_1 : decode cX5_areTwoBands 1 = .ok (.invokestatic 124, 3) := by decide +kernel
theorem dX5_areTwoBands_4 : decode cX5_areTwoBands 4 = .ok (.ifCond .eq 19, 3) := by decide +kernel
theorem dX5_areTwoBands_7 : decode cX5_areTwoBands 7 = .ok (.iload_n 1, 1) := by decide +kernel
theorem dX5_areTwoBands_8 : decode cX5_areTwoBands 8 = .ok (.invokestatic 124, 3) := by decide +kernel
theorem dX5_areTwoBands_11 : decode cX5_areTwoBands 11 = .ok (.ifCond .eq 12, 3) := by decide +kernel
theorem dX5_areTwoBands_14 : decode cX5_areTwoBands 14 = .ok (.iload_n 0, 1) := by decide +kernel
theorem dX5_areTwoBands_15 : decode cX5_areTwoBands 15 = .ok (.iload_n 1, 1) := by decide +kernel
theorem dX5_areTwoBands_16 : decode cX5_areTwoBands 16 = .ok (.if_icmp .eq 7, 3) := by decide +kernel
theorem dX5_areTwoBands_19 : decode cX5_areTwoBands 19 = .ok (.iconst 1, 1) := by decide +kernel
theorem dX5_areTwoBands_20 : decode cX5_areTwoBands 20 = .ok (.goto 4, 3) := by decide +kernel
theorem dX5_areTwoBands_23 : decode cX5_areTwoBands 23 = .ok (.iconst 0, 1) := by decide +kernel
theorem dX5_areTwoBands_24 : decode cX5_areTwoBands 24 = .ok (.ireturn, 1) := by decide +kernel
theorem dX5_isMark_0 : decode cX5_isMark 0 = .ok (.iload_n 1, 1) := by decide +kernel
theorem dX5_isMark_1 : decode cX5_isMark 1 = .ok (.ifCond .lt 18, 3) := by decide +kernel
theorem dX5_isMark_4 : decode cX5_isMark 4 = .ok (.iload_n 1, 1) := by decide +kernel
theorem dX5_isMark_5 : decode cX5_isMark 5 = .ok (.aload_n 0, 1) := by decide +kernel
theorem dX5_isMark_6 : decode cX5_isMark 6 = .ok (.getfield 23, 3) := by decide +kernel
theorem dX5_isMark_9 : decode cX5_isMark 9 = .ok (.getfield 75, 3) := by decide +kernel
theorem dX5_isMark_12 : decode cX5_isMark 12 = .ok (.if_icmp .ge 7, 3) := by decide +kernel
theorem dX5_isMark_15 : decode cX5_isMark 15 = .ok (.iconst 1, 1) := by decide +kernel
theorem dX5_isMark_16 : decode cX5_isMark 16 = .ok (.goto 4, 3) := by decide +kernel
theorem dX5_isMark_19 : decode cX5_isMark 19 = .ok (.iconst 0, 1) := by decide +kernel
theorem dX5_isMark_20 : decode cX5_isMark 20 = .ok (.ireturn, 1) := by decide +kernel
theorem dX5_isIn_0 : decode cX5_isIn 0 = .ok (.iload_n 0, 1) := by decide +kernel
theorem dX5_isIn_1 : decode cX5_isIn 1 = .ok (.iload_n 1, 1) := by decide +kernel
theorem dX5_isIn_2 : decode cX5_isIn 2 = .ok (.ishr, 1) := by decide +kernel
theorem dX5_isIn_3 : decode cX5_isIn 3 = .ok (.iconst 1, 1) := by decide +kernel
theorem dX5_isIn_4 : decode cX5_isIn 4 = .ok (.iand, 1) := by decide +kernel
theorem dX5_isIn_5 : decode cX5_isIn 5 = .ok (.ifCond .eq 7, 3) := by decide +kernel
theorem dX5_isIn_8 : decode cX5_isIn 8 = .ok (.iconst 1, 1) := by decide +kernel
theorem dX5_isIn_9 : decode cX5_isIn 9 = .ok (.goto 4, 3) := by decide +kernel
theorem dX5_isIn_12 : decode cX5_isIn 12 = .ok (.iconst 0, 1) := by decide +kernel
theorem dX5_isIn_13 : decode cX5_isIn 13 = .ok (.ireturn, 1) := by decide +kernel
theorem dX5_digAt_0 : decode cX5_digAt 0 = .ok (.aload_n 0, 1) := by decide +kernel
theorem dX5_digAt_1 : decode cX5_digAt 1 = .ok (.getfield 40, 3) := by decide +kernel
theorem dX5_digAt_4 : decode cX5_digAt 4 = .ok (.getfield 158, 3) := by decide +kernel
theorem dX5_digAt_7 : decode cX5_digAt 7 = .ok (.iload_n 1, 1) := by decide +kernel
theorem dX5_digAt_8 : decode cX5_digAt 8 = .ok (.dup2, 1) := by decide +kernel
theorem dX5_digAt_9 : decode cX5_digAt 9 = .ok (.iaload, 1) := by decide +kernel
theorem dX5_digAt_10 : decode cX5_digAt 10 = .ok (.aload_n 0, 1) := by decide +kernel
theorem dX5_digAt_11 : decode cX5_digAt 11 = .ok (.getfield 23, 3) := by decide +kernel
theorem dX5_digAt_14 : decode cX5_digAt 14 = .ok (.getfield 100, 3) := by decide +kernel
theorem dX5_digAt_17 : decode cX5_digAt 17 = .ok (.isub, 1) := by decide +kernel
theorem dX5_digAt_18 : decode cX5_digAt 18 = .ok (.iastore, 1) := by decide +kernel
theorem dX5_digAt_19 : decode cX5_digAt 19 = .ok (.iload_n 2, 1) := by decide +kernel
theorem dX5_digAt_20 : decode cX5_digAt 20 = .ok (.aload_n 0, 1) := by decide +kernel
theorem dX5_digAt_21 : decode cX5_digAt 21 = .ok (.getfield 23, 3) := by decide +kernel
theorem dX5_digAt_24 : decode cX5_digAt 24 = .ok (.invokevirtual 250, 3) := by decide +kernel
theorem dX5_digAt_27 : decode cX5_digAt 27 = .ok (.if_icmp .ne 44, 3) := by decide +kernel
theorem dX5_digAt_30 : decode cX5_digAt 30 = .ok (.iload_n 3, 1) := by decide +kernel
theorem dX5_digAt_31 : decode cX5_digAt 31 = .ok (.aload_n 0, 1) := by decide +kernel
theorem dX5_digAt_32 : decode cX5_digAt 32 = .ok (.getfield 23, 3) := by decide +kernel
theorem dX5_digAt_35 : decode cX5_digAt 35 = .ok (.invokevirtual 253, 3) := by decide +kernel
theorem dX5_digAt_38 : decode cX5_digAt 38 = .ok (.if_icmp .ne 33, 3) := by decide +kernel
theorem dX5_digAt_41 : decode cX5_digAt 41 = .ok (.aload_n 0, 1) := by decide +kernel
theorem dX5_digAt_42 : decode cX5_digAt 42 = .ok (.getfield 40, 3) := by decide +kernel
theorem dX5_digAt_45 : decode cX5_digAt 45 = .ok (.getfield 158, 3) := by decide +kernel
theorem dX5_digAt_48 : decode cX5_digAt 48 = .ok (.iload_n 1, 1) := by decide +kernel
theorem dX5_digAt_49 : decode cX5_digAt 49 = .ok (.dup2, 1) := by decide +kernel
theorem dX5_digAt_50 : decode cX5_digAt 50 = .ok (.iaload, 1) := by decide +kernel
theorem dX5_digAt_51 : decode cX5_digAt 51 = .ok (.aload_n 0, 1) := by decide +kernel
theorem dX5_digAt_52 : decode cX5_digAt 52 = .ok (.getfield 23, 3) := by decide +kernel
theorem dX5_digAt_55 : decode cX5_digAt 55 = .ok (.getfield 103, 3) := by decide +kernel
theorem dX5_digAt_58 : decode cX5_digAt 58 = .ok (.iadd, 1) := by decide +kernel
theorem dX5_digAt_59 : decode cX5_digAt 59 = .ok (.iastore, 1) := by decide +kernel
theorem dX5_digAt_60 : decode cX5_digAt 60 = .ok (.aload_n 0, 1) := by decide +kernel
theorem dX5_digAt_61 : decode cX5_digAt 61 = .ok (.getfield 40, 3) := by decide +kernel
theorem dX5_digAt_64 : decode cX5_digAt 64 = .ok (.iload_n 1, 1) := by decide +kernel
theorem dX5_digAt_65 : decode cX5_digAt 65 = .ok (.putfield 109, 3) := by decide +kernel
theorem dX5_digAt_68 : decode cX5_digAt 68 = .ok (.goto 60, 3) := by decide +kernel
theorem dX5_digAt_71 : decode cX5_digAt 71 = .ok (.aload_n 0, 1) := by decide +kernel
theorem dX5_digAt_72 : decode cX5_digAt 72 = .ok (.getfield 40, 3) := by decide +kernel
theorem dX5_digAt_75 : decode cX5_digAt 75 = .ok (.getfield 106, 3) := by decide +kernel
theorem dX5_digAt_78 : decode cX5_digAt 78 = .ok (.bipush 20, 2) := by decide +kernel
theorem dX5_digAt_80 : decode cX5_digAt 80 = .ok (.if_icmp .ge 48, 3) := by decide +kernel
theorem dX5_digAt_83 : decode cX5_digAt 83 = .ok (.aload_n 0, 1) := by decide +kernel
theorem dX5_digAt_84 : decode cX5_digAt 84 = .ok (.getfield 40, 3) := by decide +kernel
theorem dX5_digAt_87 : decode cX5_digAt 87 = .ok (.getfield 256, 3) := by decide +kernel
theorem dX5_digAt_90 : decode cX5_digAt 90 = .ok (.aload_n 0, 1) := by decide +kernel
theorem dX5_digAt_91 : decode cX5_digAt 91 = .ok (.getfield 40, 3) := by decide +kernel
theorem dX5_digAt_94 : decode cX5_digAt 94 = .ok (.getfield 106, 3) := by decide +kernel
theorem dX5_digAt_97 : decode cX5_digAt 97 = .ok (.iload_n 2, 1) := by decide +kernel
theorem dX5_digAt_98 : decode cX5_digAt 98 = .ok (.iastore, 1) := by decide +kernel
theorem dX5_digAt_99 : decode cX5_digAt 99 = .ok (.aload_n 0, 1) := by decide +kernel
theorem dX5_digAt_100 : decode cX5_digAt 100 = .ok (.getfield 40, 3) := by decide +kernel
theorem dX5_digAt_103 : decode cX5_digAt 103 = .ok (.getfield 259, 3) := by decide +kernel
theorem dX5_digAt_106 : decode cX5_digAt 106 = .ok (.aload_n 0, 1) := by decide +kernel
theorem dX5_digAt_107 : decode cX5_digAt 107 = .ok (.getfield 40, 3) := by decide +kernel
theorem dX5_digAt_110 : decode cX5_digAt 110 = .ok (.getfield 106, 3) := by decide +kernel
theorem dX5_digAt_113 : decode cX5_digAt 113 = .ok (.iload_n 3, 1) := by decide +kernel
theorem dX5_digAt_114 : decode cX5_digAt 114 = .ok (.iastore, 1) := by decide +kernel
theorem dX5_digAt_115 : decode cX5_digAt 115 = .ok (.aload_n 0, 1) := by decide +kernel
theorem dX5_digAt_116 : decode cX5_digAt 116 = .ok (.getfield 40, 3) := by decide +kernel
theorem dX5_digAt_119 : decode cX5_digAt 119 = .ok (.dup, 1) := by decide +kernel
theorem dX5_digAt_120 : decode cX5_digAt 120 = .ok (.getfield 106, 3) := by decide +kernel
theorem dX5_digAt_123 : decode cX5_digAt 123 = .ok (.iconst 1, 1) := by decide +kernel
theorem dX5_digAt_124 : decode cX5_digAt 124 = .ok (.iadd, 1) := by decide +kernel
theorem dX5_digAt_125 : decode cX5_digAt 125 = .ok (.putfield 106, 3) := by decide +kernel
theorem dX5_digAt_128 : decode cX5_digAt 128 = .ok (.return_, 1) := by decide +kernel
theorem dX5_takeTurn_0 : decode cX5_takeTurn 0 = .ok (.aload_n 0, 1) := by decide +kernel
theorem dX5_takeTurn_1 : decode cX5_takeTurn 1 = .ok (.getfield 62, 3) := by decide +kernel
theorem dX5_takeTurn_4 : decode cX5_takeTurn 4 = .ok (.aload_n 0, 1) := by decide +kernel
theorem dX5_takeTurn_5 : decode cX5_takeTurn 5 = .ok (.getfield 23, 3) := by decide +kernel
theorem dX5_takeTurn_8 : decode cX5_takeTurn 8 = .ok (.aload_n 0, 1) := by decide +kernel
theorem dX5_takeTurn_9 : decode cX5_takeTurn 9 = .ok (.getfield 40, 3) := by decide +kernel
theorem dX5_takeTurn_12 : decode cX5_takeTurn 12 = .ok (.iload_n 1, 1) := by decide +kernel
theorem dX5_takeTurn_13 : decode cX5_takeTurn 13 = .ok (.invokevirtual 161, 3) := by decide +kernel
theorem dX5_takeTurn_16 : decode cX5_takeTurn 16 = .ok (.aload_n 0, 1) := by decide +kernel
theorem dX5_takeTurn_17 : decode cX5_takeTurn 17 = .ok (.getfield 62, 3) := by decide +kernel
theorem dX5_takeTurn_20 : decode cX5_takeTurn 20 = .ok (.invokevirtual 182, 3) := by decide +kernel
theorem dX5_takeTurn_23 : decode cX5_takeTurn 23 = .ok (.aload_n 0, 1) := by decide +kernel
theorem dX5_takeTurn_24 : decode cX5_takeTurn 24 = .ok (.getfield 62, 3) := by decide +kernel
theorem dX5_takeTurn_27 : decode cX5_takeTurn 27 = .ok (.getfield 185, 3) := by decide +kernel
theorem dX5_takeTurn_30 : decode cX5_takeTurn 30 = .ok (.iconst (-1), 1) := by decide +kernel
theorem dX5_takeTurn_31 : decode cX5_takeTurn 31 = .ok (.if_icmp .eq 49, 3) := by decide +kernel
theorem dX5_takeTurn_34 : decode cX5_takeTurn 34 = .ok (.aload_n 0, 1) := by decide +kernel
theorem dX5_takeTurn_35 : decode cX5_takeTurn 35 = .ok (.getfield 62, 3) := by decide +kernel
theorem dX5_takeTurn_38 : decode cX5_takeTurn 38 = .ok (.invokevirtual 197, 3) := by decide +kernel
theorem dX5_takeTurn_41 : decode cX5_takeTurn 41 = .ok (.ifCond .le 39, 3) := by decide +kernel
theorem dX5_takeTurn_44 : decode cX5_takeTurn 44 = .ok (.aload_n 0, 1) := by decide +kernel
theorem dX5_takeTurn_45 : decode cX5_takeTurn 45 = .ok (.iload_n 1, 1) := by decide +kernel
theorem dX5_takeTurn_46 : decode cX5_takeTurn 46 = .ok (.aload_n 0, 1) := by decide +kernel
theorem dX5_takeTurn_47 : decode cX5_takeTurn 47 = .ok (.getfield 62, 3) := by decide +kernel
theorem dX5_takeTurn_50 : decode cX5_takeTurn 50 = .ok (.aload_n 0, 1) := by decide +kernel
theorem dX5_takeTurn_51 : decode cX5_takeTurn 51 = .ok (.getfield 62, 3) := by decide +kernel
theorem dX5_takeTurn_54 : decode cX5_takeTurn 54 = .ok (.getfield 185, 3) := by decide +kernel
theorem dX5_takeTurn_57 : decode cX5_takeTurn 57 = .ok (.invokevirtual 188, 3) := by decide +kernel
theorem dX5_takeTurn_60 : decode cX5_takeTurn 60 = .ok (.aload_n 0, 1) := by decide +kernel
theorem dX5_takeTurn_61 : decode cX5_takeTurn 61 = .ok (.getfield 62, 3) := by decide +kernel
theorem dX5_takeTurn_64 : decode cX5_takeTurn 64 = .ok (.aload_n 0, 1) := by decide +kernel
theorem dX5_takeTurn_65 : decode cX5_takeTurn 65 = .ok (.getfield 62, 3) := by decide +kernel
theorem dX5_takeTurn_68 : decode cX5_takeTurn 68 = .ok (.getfield 185, 3) := by decide +kernel
theorem dX5_takeTurn_71 : decode cX5_takeTurn 71 = .ok (.invokevirtual 191, 3) := by decide +kernel
theorem dX5_takeTurn_74 : decode cX5_takeTurn 74 = .ok (.invokevirtual 155, 3) := by decide +kernel
theorem dX5_takeTurn_77 : decode cX5_takeTurn 77 = .ok (.goto 8, 3) := by decide +kernel
theorem dX5_takeTurn_80 : decode cX5_takeTurn 80 = .ok (.aload_n 0, 1) := by decide +kernel
theorem dX5_takeTurn_81 : decode cX5_takeTurn 81 = .ok (.iload_n 1, 1) := by decide +kernel
theorem dX5_takeTurn_82 : decode cX5_takeTurn 82 = .ok (.invokevirtual 262, 3) := by decide +kernel
theorem dX5_takeTurn_85 : decode cX5_takeTurn 85 = .ok (.return_, 1) := by decide +kernel
theorem dX5_tradeByDraws_0 : decode cX5_tradeByDraws 0 = .ok (.aload_n 0, 1) := by decide +kernel
theorem dX5_tradeByDraws_1 : decode cX5_tradeByDraws 1 = .ok (.getfield 40, 3) := by decide +kernel
theorem dX5_tradeByDraws_4 : decode cX5_tradeByDraws 4 = .ok (.iconst 5, 1) := by decide +kernel
theorem dX5_tradeByDraws_5 : decode cX5_tradeByDraws 5 = .ok (.invokevirtual 265, 3) := by decide +kernel
theorem dX5_tradeByDraws_8 : decode cX5_tradeByDraws 8 = .ok (.istore_n 2, 1) := by decide +kernel
theorem dX5_tradeByDraws_9 : decode cX5_tradeByDraws 9 = .ok (.iload_n 2, 1) := by decide +kernel
theorem dX5_tradeByDraws_10 : decode cX5_tradeByDraws 10 = .ok (.iload_n 1, 1) := by decide +kernel
theorem dX5_tradeByDraws_11 : decode cX5_tradeByDraws 11 = .ok (.if_icmp .lt 6, 3) := by decide +kernel
theorem dX5_tradeByDraws_14 : decode cX5_tradeByDraws 14 = .ok (.iinc 2 1, 3) := by decide +kernel
theorem dX5_tradeByDraws_17 : decode cX5_tradeByDraws 17 = .ok (.aload_n 0, 1) := by decide +kernel
theorem dX5_tradeByDraws_18 : decode cX5_tradeByDraws 18 = .ok (.getfield 40, 3) := by decide +kernel
theorem dX5_tradeByDraws_21 : decode cX5_tradeByDraws 21 = .ok (.aload_n 0, 1) := by decide +kernel
theorem dX5_tradeByDraws_22 : decode cX5_tradeByDraws 22 = .ok (.getfield 23, 3) := by decide +kernel
theorem dX5_tradeByDraws_25 : decode cX5_tradeByDraws 25 = .ok (.getfield 75, 3) := by decide +kernel
theorem dX5_tradeByDraws_28 : decode cX5_tradeByDraws 28 = .ok (.invokevirtual 265, 3) := by decide +kernel
theorem dX5_tradeByDraws_31 : decode cX5_tradeByDraws 31 = .ok (.istore_n 3, 1) := by decide +kernel
theorem dX5_tradeByDraws_32 : decode cX5_tradeByDraws 32 = .ok (.aload_n 0, 1) := by decide +kernel
theorem dX5_tradeByDraws_33 : decode cX5_tradeByDraws 33 = .ok (.getfield 40, 3) := by decide +kernel
theorem dX5_tradeByDraws_36 : decode cX5_tradeByDraws 36 = .ok (.aload_n 0, 1) := by decide +kernel
theorem dX5_tradeByDraws_37 : decode cX5_tradeByDraws 37 = .ok (.getfield 23, 3) := by decide +kernel
theorem dX5_tradeByDraws_40 : decode cX5_tradeByDraws 40 = .ok (.getfield 75, 3) := by decide +kernel
theorem dX5_tradeByDraws_43 : decode cX5_tradeByDraws 43 = .ok (.invokevirtual 265, 3) := by decide +kernel
theorem dX5_tradeByDraws_46 : decode cX5_tradeByDraws 46 = .ok (.istore 4, 2) := by decide +kernel
theorem dX5_tradeByDraws_48 : decode cX5_tradeByDraws 48 = .ok (.aload_n 0, 1) := by decide +kernel
theorem dX5_tradeByDraws_49 : decode cX5_tradeByDraws 49 = .ok (.getfield 40, 3) := by decide +kernel
theorem dX5_tradeByDraws_52 : decode cX5_tradeByDraws 52 = .ok (.iload_n 2, 1) := by decide +kernel
theorem dX5_tradeByDraws_53 : decode cX5_tradeByDraws 53 = .ok (.iload_n 1, 1) := by decide +kernel
theorem dX5_tradeByDraws_54 : decode cX5_tradeByDraws 54 = .ok (.iload_n 3, 1) := by decide +kernel
theorem dX5_tradeByDraws_55 : decode cX5_tradeByDraws 55 = .ok (.invokevirtual 145, 3) := by decide +kernel
theorem dX5_tradeByDraws_58 : decode cX5_tradeByDraws 58 = .ok (.aload_n 0, 1) := by decide +kernel
theorem dX5_tradeByDraws_59 : decode cX5_tradeByDraws 59 = .ok (.getfield 40, 3) := by decide +kernel
theorem dX5_tradeByDraws_62 : decode cX5_tradeByDraws 62 = .ok (.iload_n 1, 1) := by decide +kernel
theorem dX5_tradeByDraws_63 : decode cX5_tradeByDraws 63 = .ok (.iload_n 2, 1) := by decide +kernel
theorem dX5_tradeByDraws_64 : decode cX5_tradeByDraws 64 = .ok (.iload 4, 2) := by decide +kernel
theorem dX5_tradeByDraws_66 : decode cX5_tradeByDraws 66 = .ok (.invokevirtual 145, 3) := by decide +kernel
theorem dX5_tradeByDraws_69 : decode cX5_tradeByDraws 69 = .ok (.return_, 1) := by decide +kernel
theorem dX6_init_0 : decode cX6_init 0 = .ok (.aload_n 0, 1) := by decide +kernel
theorem dX6_init_1 : decode cX6_init 1 = .ok (.invokespecial 1, 3) := by decide +kernel
theorem dX6_init_4 : decode cX6_init 4 = .ok (.aload_n 0, 1) := by decide +kernel
theorem dX6_init_5 : decode cX6_init 5 = .ok (.bipush 9, 2) := by decide +kernel
theorem dX6_init_7 : decode cX6_init 7 = .ok (.newarray .int, 2) := by decide +kernel
theorem dX6_init_9 : decode cX6_init 9 = .ok (.putfield 7, 3) := by decide +kernel
theorem dX6_init_12 : decode cX6_init 12 = .ok (.aload_n 0, 1) := by decide +kernel
theorem dX6_init_13 : decode cX6_init 13 = .ok (.bipush 9, 2) := by decide +kernel
theorem dX6_init_15 : decode cX6_init 15 = .ok (.newarray .int, 2) := by decide +kernel
theorem dX6_init_17 : decode cX6_init 17 = .ok (.putfield 13, 3) := by decide +kernel
theorem dX6_init_20 : decode cX6_init 20 = .ok (.aload_n 0, 1) := by decide +kernel
theorem dX6_init_21 : decode cX6_init 21 = .ok (.bipush 54, 2) := by decide +kernel
theorem dX6_init_23 : decode cX6_init 23 = .ok (.newarray .int, 2) := by decide +kernel
theorem dX6_init_25 : decode cX6_init 25 = .ok (.putfield 16, 3) := by decide +kernel
theorem dX6_init_28 : decode cX6_init 28 = .ok (.aload_n 0, 1) := by decide +kernel
theorem dX6_init_29 : decode cX6_init 29 = .ok (.bipush 54, 2) := by decide +kernel
theorem dX6_init_31 : decode cX6_init 31 = .ok (.newarray .int, 2) := by decide +kernel
theorem dX6_init_33 : decode cX6_init 33 = .ok (.putfield 19, 3) := by decide +kernel
theorem dX6_init_36 : decode cX6_init 36 = .ok (.aload_n 0, 1) := by decide +kernel
theorem dX6_init_37 : decode cX6_init 37 = .ok (.iconst 3, 1) := by decide +kernel
theorem dX6_init_38 : decode cX6_init 38 = .ok (.newarray .int, 2) := by decide +kernel
theorem dX6_init_40 : decode cX6_init 40 = .ok (.putfield 22, 3) := by decide +kernel
theorem dX6_init_43 : decode cX6_init 43 = .ok (.aload_n 0, 1) := by decide +kernel
theorem dX6_init_44 : decode cX6_init 44 = .ok (.bipush 10, 2) := by decide +kernel
theorem dX6_init_46 : decode cX6_init 46 = .ok (.putfield 25, 3) := by decide +kernel
theorem dX6_init_49 : decode cX6_init 49 = .ok (.aload_n 0, 1) := by decide +kernel
theorem dX6_init_50 : decode cX6_init 50 = .ok (.bipush 100, 2) := by decide +kernel
theorem dX6_init_52 : decode cX6_init 52 = .ok (.putfield 29, 3) := by decide +kernel
theorem dX6_init_55 : decode cX6_init 55 = .ok (.aload_n 0, 1) := by decide +kernel
theorem dX6_init_56 : decode cX6_init 56 = .ok (.bipush 36, 2) := by decide +kernel
theorem dX6_init_58 : decode cX6_init 58 = .ok (.newarray .int, 2) := by decide +kernel
theorem dX6_init_60 : decode cX6_init 60 = .ok (.putfield 32, 3) := by decide +kernel
theorem dX6_init_63 : decode cX6_init 63 = .ok (.aload_n 0, 1) := by decide +kernel
theorem dX6_init_64 : decode cX6_init 64 = .ok (.bipush 6, 2) := by decide +kernel
theorem dX6_init_66 : decode cX6_init 66 = .ok (.newarray .int, 2) := by decide +kernel
theorem dX6_init_68 : decode cX6_init 68 = .ok (.putfield 35, 3) := by decide +kernel
theorem dX6_init_71 : decode cX6_init 71 = .ok (.aload_n 0, 1) := by decide +kernel
theorem dX6_init_72 : decode cX6_init 72 = .ok (.bipush 20, 2) := by decide +kernel
theorem dX6_init_74 : decode cX6_init 74 = .ok (.newarray .int, 2) := by decide +kernel
theorem dX6_init_76 : decode cX6_init 76 = .ok (.putfield 38, 3) := by decide +kernel
theorem dX6_init_79 : decode cX6_init 79 = .ok (.aload_n 0, 1) := by decide +kernel
theorem dX6_init_80 : decode cX6_init 80 = .ok (.bipush 20, 2) := by decide +kernel
theorem dX6_init_82 : decode cX6_init 82 = .ok (.newarray .int, 2) := by decide +kernel
theorem dX6_init_84 : decode cX6_init 84 = .ok (.putfield 41, 3) := by decide +kernel
theorem dX6_init_87 : decode cX6_init 87 = .ok (.aload_n 0, 1) := by decide +kernel
theorem dX6_init_88 : decode cX6_init 88 = .ok (.iconst (-1), 1) := by decide +kernel
theorem dX6_init_89 : decode cX6_init 89 = .ok (.putfield 44, 3) := by decide +kernel
theorem dX6_init_92 : decode cX6_init 92 = .ok (.aload_n 0, 1) := by decide +kernel
theorem dX6_init_93 : decode cX6_init 93 = .ok (.sipush 400, 3) := by decide +kernel
theorem dX6_init_96 : decode cX6_init 96 = .ok (.newarray .int, 2) := by decide +kernel
theorem dX6_init_98 : decode cX6_init 98 = .ok (.putfield 47, 3) := by decide +kernel
theorem dX6_init_101 : decode cX6_init 101 = .ok (.aload_n 0, 1) := by decide +kernel
theorem dX6_init_102 : decode cX6_init 102 = .ok (.iconst (-1), 1) := by decide +kernel
theorem dX6_init_103 : decode cX6_init 103 = .ok (.putfield 50, 3) := by decide +kernel
theorem dX6_init_106 : decode cX6_init 106 = .ok (.aload_n 0, 1) := by decide +kernel
theorem dX6_init_107 : decode cX6_init 107 = .ok (.bipush 9, 2) := by decide +kernel
theorem dX6_init_109 : decode cX6_init 109 = .ok (.newarray .int, 2) := by decide +kernel
theorem dX6_init_111 : decode cX6_init 111 = .ok (.putfield 53, 3) := by decide +kernel
theorem dX6_init_114 : decode cX6_init 114 = .ok (.aload_n 0, 1) := by decide +kernel
theorem dX6_init_115 : decode cX6_init 115 = .ok (.bipush 9, 2) := by decide +kernel
theorem dX6_init_117 : decode cX6_init 117 = .ok (.newarray .int, 2) := by decide +kernel
theorem dX6_init_119 : decode cX6_init 119 = .ok (.putfield 56, 3) := by decide +kernel
theorem dX6_init_122 : decode cX6_init 122 = .ok (.aload_n 0, 1) := by decide +kernel
theorem dX6_init_123 : decode cX6_init 123 = .ok (.bipush 54, 2) := by decide +kernel
theorem dX6_init_125 : decode cX6_init 125 = .ok (.newarray .int, 2) := by decide +kernel
theorem dX6_init_127 : decode cX6_init 127 = .ok (.putfield 59, 3) := by decide +kernel
theorem dX6_init_130 : decode cX6_init 130 = .ok (.aload_n 0, 1) := by decide +kernel
theorem dX6_init_131 : decode cX6_init 131 = .ok (.bipush 54, 2) := by decide +kernel
theorem dX6_init_133 : decode cX6_init 133 = .ok (.newarray .int, 2) := by decide +kernel
theorem dX6_init_135 : decode cX6_init 135 = .ok (.putfield 62, 3) := by decide +kernel
theorem dX6_init_138 : decode cX6_init 138 = .ok (.aload_n 0, 1) := by decide +kernel
theorem dX6_init_139 : decode cX6_init 139 = .ok (.bipush 54, 2) := by decide +kernel
theorem dX6_init_141 : decode cX6_init 141 = .ok (.newarray .boolean, 2) := by decide +kernel
theorem dX6_init_143 : decode cX6_init 143 = .ok (.putfield 65, 3) := by decide +kernel
theorem dX6_init_146 : decode cX6_init 146 = .ok (.aload_n 0, 1) := by decide +kernel
theorem dX6_init_147 : decode cX6_init 147 = .ok (.iconst 3, 1) := by decide +kernel
theorem dX6_init_148 : decode cX6_init 148 = .ok (.newarray .int, 2) := by decide +kernel
theorem dX6_init_150 : decode cX6_init 150 = .ok (.putfield 69, 3) := by decide +kernel
theorem dX6_init_153 : decode cX6_init 153 = .ok (.aload_n 0, 1) := by decide +kernel
theorem dX6_init_154 : decode cX6_init 154 = .ok (.bipush 9, 2) := by decide +kernel
theorem dX6_init_156 : decode cX6_init 156 = .ok (.newarray .boolean, 2) := by decide +kernel
theorem dX6_init_158 : decode cX6_init 158 = .ok (.putfield 72, 3) := by decide +kernel
theorem dX6_init_161 : decode cX6_init 161 = .ok (.aload_n 0, 1) := by decide +kernel
theorem dX6_init_162 : decode cX6_init 162 = .ok (.bipush 36, 2) := by decide +kernel
theorem dX6_init_164 : decode cX6_init 164 = .ok (.newarray .int, 2) := by decide +kernel
theorem dX6_init_166 : decode cX6_init 166 = .ok (.putfield 75, 3) := by decide +kernel
theorem dX6_init_169 : decode cX6_init 169 = .ok (.aload_n 0, 1) := by decide +kernel
theorem dX6_init_170 : decode cX6_init 170 = .ok (.iconst 4, 1) := by decide +kernel
theorem dX6_init_171 : decode cX6_init 171 = .ok (.newarray .int, 2) := by decide +kernel
theorem dX6_init_173 : decode cX6_init 173 = .ok (.putfield 78, 3) := by decide +kernel
theorem dX6_init_176 : decode cX6_init 176 = .ok (.aload_n 0, 1) := by decide +kernel
theorem dX6_init_177 : decode cX6_init 177 = .ok (.bipush 15, 2) := by decide +kernel
theorem dX6_init_179 : decode cX6_init 179 = .ok (.newarray .int, 2) := by decide +kernel
theorem dX6_init_181 : decode cX6_init 181 = .ok (.putfield 81, 3) := by decide +kernel
theorem dX6_init_184 : decode cX6_init 184 = .ok (.aload_n 0, 1) := by decide +kernel
theorem dX6_init_185 : decode cX6_init 185 = .ok (.bipush 15, 2) := by decide +kernel
theorem dX6_init_187 : decode cX6_init 187 = .ok (.newarray .int, 2) := by decide +kernel
theorem dX6_init_189 : decode cX6_init 189 = .ok (.putfield 84, 3) := by decide +kernel
theorem dX6_init_192 : decode cX6_init 192 = .ok (.aload_n 0, 1) := by decide +kernel
theorem dX6_init_193 : decode cX6_init 193 = .ok (.bipush 15, 2) := by decide +kernel
theorem dX6_init_195 : decode cX6_init 195 = .ok (.newarray .int, 2) := by decide +kernel
theorem dX6_init_197 : decode cX6_init 197 = .ok (.putfield 87, 3) := by decide +kernel
theorem dX6_init_200 : decode cX6_init 200 = .ok (.aload_n 0, 1) := by decide +kernel
theorem dX6_init_201 : decode cX6_init 201 = .ok (.bipush 6, 2) := by decide +kernel
theorem dX6_init_203 : decode cX6_init 203 = .ok (.newarray .int, 2) := by decide +kernel
theorem dX6_init_205 : decode cX6_init 205 = .ok (.putfield 90, 3) := by decide +kernel
theorem dX6_init_208 : decode cX6_init 208 = .ok (.aload_n 0, 1) := by decide +kernel
theorem dX6_init_209 : decode cX6_init 209 = .ok (.bipush 20, 2) := by decide +kernel
theorem dX6_init_211 : decode cX6_init 211 = .ok (.newarray .int, 2) := by decide +kernel
theorem dX6_init_213 : decode cX6_init 213 = .ok (.putfield 93, 3) := by decide +kernel
theorem dX6_init_216 : decode cX6_init 216 = .ok (.aload_n 0, 1) := by decide +kernel
theorem dX6_init_217 : decode cX6_init 217 = .ok (.bipush 20, 2) := by decide +kernel
theorem dX6_init_219 : decode cX6_init 219 = .ok (.newarray .int, 2) := by decide +kernel
theorem dX6_init_221 : decode cX6_init 221 = .ok (.putfield 96, 3) := by decide +kernel
theorem dX6_init_224 : decode cX6_init 224 = .ok (.aload_n 0, 1) := by decide +kernel
theorem dX6_init_225 : decode cX6_init 225 = .ok (.bipush 20, 2) := by decide +kernel
theorem dX6_init_227 : decode cX6_init 227 = .ok (.newarray .boolean, 2) := by decide +kernel
theorem dX6_init_229 : decode cX6_init 229 = .ok (.putfield 99, 3) := by decide +kernel
theorem dX6_init_232 : decode cX6_init 232 = .ok (.aload_n 0, 1) := by decide +kernel
theorem dX6_init_233 : decode cX6_init 233 = .ok (.sipush 200, 3) := by decide +kernel
theorem dX6_init_236 : decode cX6_init 236 = .ok (.newarray .int, 2) := by decide +kernel
theorem dX6_init_238 : decode cX6_init 238 = .ok (.putfield 102, 3) := by decide +kernel
theorem dX6_init_241 : decode cX6_init 241 = .ok (.aload_n 0, 1) := by decide +kernel
theorem dX6_init_242 : decode cX6_init 242 = .ok (.iconst 2, 1) := by decide +kernel
theorem dX6_init_243 : decode cX6_init 243 = .ok (.newarray .boolean, 2) := by decide +kernel
theorem dX6_init_245 : decode cX6_init 245 = .ok (.putfield 105, 3) := by decide +kernel
theorem dX6_init_248 : decode cX6_init 248 = .ok (.aload_n 0, 1) := by decide +kernel
theorem dX6_init_249 : decode cX6_init 249 = .ok (.invokevirtual 108, 3) := by decide +kernel
theorem dX6_init_252 : decode cX6_init 252 = .ok (.return_, 1) := by decide +kernel
theorem dX6_in_0 : decode cX6_in 0 = .ok (.lload_n 0, 1) := by decide +kernel
theorem dX6_in_1 : decode cX6_in 1 = .ok (.lload_n 2, 1) := by decide +kernel
theorem dX6_in_2 : decode cX6_in 2 = .ok (.lcmp, 1) := by decide +kernel
theorem dX6_in_3 : decode cX6_in 3 = .ok (.ifCond .lt 14, 3) := by decide +kernel
theorem dX6_in_6 : decode cX6_in 6 = .ok (.lload_n 0, 1) := by decide +kernel
theorem dX6_in_7 : decode cX6_in 7 = .ok (.lload 4, 2) := by decide +kernel
theorem dX6_in_9 : decode cX6_in 9 = .ok (.lcmp, 1) := by decide +kernel
theorem dX6_in_10 : decode cX6_in 10 = .ok (.ifCond .gt 7, 3) := by decide +kernel
theorem dX6_in_13 : decode cX6_in 13 = .ok (.iconst 1, 1) := by decide +kernel
theorem dX6_in_14 : decode cX6_in 14 = .ok (.goto 4, 3) := by decide +kernel
theorem dX6_in_17 : decode cX6_in 17 = .ok (.iconst 0, 1) := by decide +kernel
theorem dX6_in_18 : decode cX6_in 18 = .ok (.ireturn, 1) := by decide +kernel
theorem dX6_has_0 : decode cX6_has 0 = .ok (.iload_n 0, 1) := by decide +kernel
theorem dX6_has_1 : decode cX6_has 1 = .ok (.iload_n 1, 1) := by decide +kernel
theorem dX6_has_2 : decode cX6_has 2 = .ok (.ishr, 1) := by decide +kernel
theorem dX6_has_3 : decode cX6_has 3 = .ok (.iconst 1, 1) := by decide +kernel
theorem dX6_has_4 : decode cX6_has 4 = .ok (.iand, 1) := by decide +kernel
theorem dX6_has_5 : decode cX6_has 5 = .ok (.iconst 1, 1) := by decide +kernel
theorem dX6_has_6 : decode cX6_has 6 = .ok (.if_icmp .ne 7, 3) := by decide +kernel
theorem dX6_has_9 : decode cX6_has 9 = .ok (.iconst 1, 1) := by decide +kernel
theorem dX6_has_10 : decode cX6_has 10 = .ok (.goto 4, 3) := by decide +kernel
theorem dX6_has_13 : decode cX6_has 13 = .ok (.iconst 0, 1) := by decide +kernel
theorem dX6_has_14 : decode cX6_has 14 = .ok (.ireturn, 1) := by decide +kernel
theorem dX6_bits_0 : decode cX6_bits 0 = .ok (.iconst 0, 1) := by decide +kernel
theorem dX6_bits_1 : decode cX6_bits 1 = .ok (.istore_n 1, 1) := by decide +kernel
theorem dX6_bits_2 : decode cX6_bits 2 = .ok (.iconst 0, 1) := by decide +kernel
theorem dX6_bits_3 : decode cX6_bits 3 = .ok (.istore_n 2, 1) := by decide +kernel
theorem dX6_bits_4 : decode cX6_bits 4 = .ok (.iload_n 2, 1) := by decide +kernel
theorem dX6_bits_5 : decode cX6_bits 5 = .ok (.bipush 9, 2) := by decide +kernel
theorem dX6_bits_7 : decode cX6_bits 7 = .ok (.if_icmp .ge 17, 3) := by decide +kernel
theorem dX6_bits_10 : decode cX6_bits 10 = .ok (.iload_n 1, 1) := by decide +kernel
theorem dX6_bits_11 : decode cX6_bits 11 = .ok (.iload_n 0, 1) := by decide +kernel
theorem dX6_bits_12 : decode cX6_bits 12 = .ok (.iload_n 2, 1) := by decide +kernel
theorem dX6_bits_13 : decode cX6_bits 13 = .ok (.ishr, 1) := by decide +kernel
theorem dX6_bits_14 : decode cX6_bits 14 = .ok (.iconst 1, 1) := by decide +kernel
theorem dX6_bits_15 : decode cX6_bits 15 = .ok (.iand, 1) := by decide +kernel
theorem dX6_bits_16 : decode cX6_bits 16 = .ok (.iadd, 1) := by decide +kernel
theorem dX6_bits_17 : decode cX6_bits 17 = .ok (.istore_n 1, 1) := by decide +kernel
theorem dX6_bits_18 : decode cX6_bits 18 = .ok (.iinc 2 1, 3) := by decide +kernel
theorem dX6_bits_21 : decode cX6_bits 21 = .ok (.goto (-17), 3) := by decide +kernel
theorem dX6_bits_24 : decode cX6_bits 24 = .ok (.iload_n 1, 1) := by decide +kernel
theorem dX6_bits_25 : decode cX6_bits 25 = .ok (.ireturn, 1) := by decide +kernel
theorem dX6_isMark_0 : decode cX6_isMark 0 = .ok (.iload_n 1, 1) := by decide +kernel
theorem dX6_isMark_1 : decode cX6_isMark 1 = .ok (.i2l, 1) := by decide +kernel
theorem dX6_isMark_2 : decode cX6_isMark 2 = .ok (.lconst 0, 1) := by decide +kernel
theorem dX6_isMark_3 : decode cX6_isMark 3 = .ok (.aload_n 0, 1) := by decide +kernel
theorem dX6_isMark_4 : decode cX6_isMark 4 = .ok (.getfield 111, 3) := by decide +kernel
theorem dX6_isMark_7 : decode cX6_isMark 7 = .ok (.iconst 1, 1) := by decide +kernel
theorem dX6_isMark_8 : decode cX6_isMark 8 = .ok (.isub, 1) := by decide +kernel
theorem dX6_isMark_9 : decode cX6_isMark 9 = .ok (.i2l, 1) := by decide +kernel
theorem dX6_isMark_10 : decode cX6_isMark 10 = .ok (.invokestatic 114, 3) := by decide +kernel
theorem dX6_isMark_13 : decode cX6_isMark 13 = .ok (.ireturn, 1) := by decide +kernel
theorem dX6_isBand_0 : decode cX6_isBand 0 = .ok (.iload_n 0, 1) := by decide +kernel
theorem dX6_isBand_1 : decode cX6_isBand 1 = .ok (.i2l, 1) := by decide +kernel
theorem dX6_isBand_2 : decode cX6_isBand 2 = .ok (.lconst 0, 1) := by decide +kernel
theorem dX6_isBand_3 : decode cX6_isBand 3 = .ok (.ldc2_w 118, 3) := by decide +kernel
theorem dX6_isBand_6 : decode cX6_isBand 6 = .ok (.invokestatic 114, 3) := by decide +kernel
theorem dX6_isBand_9 : decode cX6_isBand 9 = .ok (.ireturn, 1) := by decide +kernel
theorem dX6_bare_0 : decode cX6_bare 0 = .ok (.iconst 0, 1) := by decide +kernel
theorem dX6_bare_1 : decode cX6_bare 1 = .ok (.istore_n 1, 1) := by decide +kernel
theorem dX6_bare_2 : decode cX6_bare 2 = .ok (.iload_n 1, 1) := by decide +kernel
theorem dX6_bare_3 : decode cX6_bare 3 = .ok (.bipush 6, 2) := by decide +kernel
theorem dX6_bare_5 : decode cX6_bare 5 = .ok (.if_icmp .ge 58, 3) := by decide +kernel
theorem dX6_bare_8 : decode cX6_bare 8 = .ok (.aload_n 0, 1) := by decide +kernel
theorem dX6_bare_9 : decode cX6_bare 9 = .ok (.getfield 35, 3) := by decide +kernel
theorem dX6_bare_12 : decode cX6_bare 12 = .ok (.iload_n 1, 1) := by decide +kernel
theorem dX6_bare_13 : decode cX6_bare 13 = .ok (.iconst 0, 1) := by decide +kernel
theorem dX6_bare_14 : decode cX6_bare 14 = .ok (.iastore, 1) := by decide +kernel
theorem dX6_bare_15 : decode cX6_bare 15 = .ok (.iconst 0, 1) := by decide +kernel
theorem dX6_bare_16 : decode cX6_bare 16 = .ok (.istore_n 2, 1) := by decide +kernel
theorem dX6_bare_17 : decode cX6_bare 17 = .ok (.iload_n 2, 1) := by decide +kernel
theorem dX6_bare_18 : decode cX6_bare 18 = .ok (.bipush 6, 2) := by decide +kernel
theorem dX6_bare_20 : decode cX6_bare 20 = .ok (.if_icmp .ge 37, 3) := by decide +kernel
theorem dX6_bare_23 : decode cX6_bare 23 = .ok (.aload_n 0, 1) := by decide +kernel
theorem dX6_bare_24 : decode cX6_bare 24 = .ok (.getfield 32, 3) := by decide +kernel
theorem dX6_bare_27 : decode cX6_bare 27 = .ok (.bipush 6, 2) := by decide +kernel
theorem dX6_bare_29 : decode cX6_bare 29 = .ok (.iload_n 1, 1) := by decide +kernel
theorem dX6_bare_30 : decode cX6_bare 30 = .ok (.imul, 1) := by decide +kernel
theorem dX6_bare_31 : decode cX6_bare 31 = .ok (.iload_n 2, 1) := by decide +kernel
theorem dX6_bare_32 : decode cX6_bare 32 = .ok (.iadd, 1) := by decide +kernel
theorem dX6_bare_33 : decode cX6_bare 33 = .ok (.iload_n 2, 1) := by decide +kernel
theorem dX6_bare_34 : decode cX6_bare 34 = .ok (.iload_n 1, 1) := by decide +kernel
theorem dX6_bare_35 : decode cX6_bare 35 = .ok (.if_icmp .ne 14, 3) := by decide +kernel
theorem dX6_bare_38 : decode cX6_bare 38 = .ok (.iconst 1, 1) := by decide +kernel
theorem dX6_bare_39 : decode cX6_bare 39 = .ok (.aload_n 0, 1) := by decide +kernel
theorem dX6_bare_40 : decode cX6_bare 40 = .ok (.getfield 111, 3) := by decide +kernel
theorem dX6_bare_43 : decode cX6_bare 43 = .ok (.ishl, 1) := by decide +kernel
theorem dX6_bare_44 : decode cX6_bare 44 = .ok (.iconst 1, 1) := by decide +kernel
theorem dX6_bare_45 : decode cX6_bare 45 = .ok (.isub, 1) := by decide +kernel
theorem dX6_bare_46 : decode cX6_bare 46 = .ok (.goto 4, 3) := by decide +kernel
theorem dX6_bare_49 : decode cX6_bare 49 = .ok (.iconst 0, 1) := by decide +kernel
theorem dX6_bare_50 : decode cX6_bare 50 = .ok (.iastore, 1) := by decide +kernel
theorem dX6_bare_51 : decode cX6_bare 51 = .ok (.iinc 2 1, 3) := by decide +kernel
theorem dX6_bare_54 : decode cX6_bare 54 = .ok (.goto (-37), 3) := by decide +kernel
theorem dX6_bare_57 : decode cX6_bare 57 = .ok (.iinc 1 1, 3) := by decide +kernel
theorem dX6_bare_60 : decode cX6_bare 60 = .ok (.goto (-58), 3) := by decide +kernel
theorem dX6_bare_63 : decode cX6_bare 63 = .ok (.aload_n 0, 1) := by decide +kernel
theorem dX6_bare_64 : decode cX6_bare 64 = .ok (.iconst 0, 1) := by decide +kernel
theorem dX6_bare_65 : decode cX6_bare 65 = .ok (.putfield 120, 3) := by decide +kernel
theorem dX6_bare_68 : decode cX6_bare 68 = .ok (.aload_n 0, 1) := by decide +kernel
theorem dX6_bare_69 : decode cX6_bare 69 = .ok (.iconst (-1), 1) := by decide +kernel
theorem dX6_bare_70 : decode cX6_bare 70 = .ok (.putfield 44, 3) := by decide +kernel
theorem dX6_bare_73 : decode cX6_bare 73 = .ok (.return_, 1) := by decide +kernel
theorem dX6_feed_0 : decode cX6_feed 0 = .ok (.iload_n 1, 1) := by decide +kernel
theorem dX6_feed_1 : decode cX6_feed 1 = .ok (.i2l, 1) := by decide +kernel
theorem dX6_feed_2 : decode cX6_feed 2 = .ok (.lconst 1, 1) := by decide +kernel
theorem dX6_feed_3 : decode cX6_feed 3 = .ok (.ldc2_w 123, 3) := by decide +kernel
theorem dX6_feed_6 : decode cX6_feed 6 = .ok (.invokestatic 114, 3) := by decide +kernel
theorem dX6_feed_9 : decode cX6_feed 9 = .ok (.ifCond .ne 6, 3) := by decide +kernel
theorem dX6_feed_12 : decode cX6_feed 12 = .ok (.ldc 125, 2) := by decide +kernel
theorem dX6_feed_14 : decode cX6_feed 14 = .ok (.ireturn, 1) := by decide +kernel
theorem dX6_feed_15 : decode cX6_feed 15 = .ok (.aload_n 0, 1) := by decide +kernel
theorem dX6_feed_16 : decode cX6_feed 16 = .ok (.getfield 126, 3) := by decide +kernel
theorem dX6_feed_19 : decode cX6_feed 19 = .ok (.iload_n 1, 1) := by decide +kernel
theorem dX6_feed_20 : decode cX6_feed 20 = .ok (.iadd, 1) := by decide +kernel
theorem dX6_feed_21 : decode cX6_feed 21 = .ok (.sipush 400, 3) := by decide +kernel
theorem dX6_feed_24 : decode cX6_feed 24 = .ok (.if_icmp .le 6, 3) := by decide +kernel
theorem dX6_feed_27 : decode cX6_feed 27 = .ok (.ldc 129, 2) := by decide +kernel
theorem dX6_feed_29 : decode cX6_feed 29 = .ok (.ireturn, 1) := by decide +kernel
theorem dX6_feed_30 : decode cX6_feed 30 = .ok (.iload_n 1, 1) := by decide +kernel
theorem dX6_feed_31 : decode cX6_feed 31 = .ok (.iconst 1, 1) := by decide +kernel
theorem dX6_feed_32 : decode cX6_feed 32 = .ok (.isub, 1) := by decide +kernel
theorem dX6_feed_33 : decode cX6_feed 33 = .ok (.istore 4, 2) := by decide +kernel
theorem dX6_feed_35 : decode cX6_feed 35 = .ok (.iload 4, 2) := by decide +kernel
theorem dX6_feed_37 : decode cX6_feed 37 = .ok (.ifCond .lt 40, 3) := by decide +kernel
theorem dX6_feed_40 : decode cX6_feed 40 = .ok (.aload_n 0, 1) := by decide +kernel
theorem dX6_feed_41 : decode cX6_feed 41 = .ok (.getfield 47, 3) := by decide +kernel
theorem dX6_feed_44 : decode cX6_feed 44 = .ok (.aload_n 0, 1) := by decide +kernel
theorem dX6_feed_45 : decode cX6_feed 45 = .ok (.getfield 126, 3) := by decide +kernel
theorem dX6_feed_48 : decode cX6_feed 48 = .ok (.lload_n 2, 1) := by decide +kernel
theorem dX6_feed_49 : decode cX6_feed 49 = .ok (.bipush 8, 2) := by decide +kernel
theorem dX6_feed_51 : decode cX6_feed 51 = .ok (.iload 4, 2) := by decide +kernel
theorem dX6_feed_53 : decode cX6_feed 53 = .ok (.imul, 1) := by decide +kernel
theorem dX6_feed_54 : decode cX6_feed 54 = .ok (.lshr, 1) := by decide +kernel
theorem dX6_feed_55 : decode cX6_feed 55 = .ok (.ldc2_w 130, 3) := by decide +kernel
theorem dX6_feed_58 : decode cX6_feed 58 = .ok (.land, 1) := by decide +kernel
theorem dX6_feed_59 : decode cX6_feed 59 = .ok (.l2i, 1) := by decide +kernel
theorem dX6_feed_60 : decode cX6_feed 60 = .ok (.iastore, 1) := by decide +kernel
theorem dX6_feed_61 : decode cX6_feed 61 = .ok (.aload_n 0, 1) := by decide +kernel
theorem dX6_feed_62 : decode cX6_feed 62 = .ok (.dup, 1) := by decide +kernel
theorem dX6_feed_63 : decode cX6_feed 63 = .ok (.getfield 126, 3) := by decide +kernel
theorem dX6_feed_66 : decode cX6_feed 66 = .ok (.iconst 1, 1) := by decide +kernel
theorem dX6_feed_67 : decode cX6_feed 67 = .ok (.iadd, 1) := by decide +kernel
theorem dX6_feed_68 : decode cX6_feed 68 = .ok (.putfield 126, 3) := by decide +kernel
theorem dX6_feed_71 : decode cX6_feed 71 = .ok (.iinc 4 (-1), 3) := by decide +kernel
theorem dX6_feed_74 : decode cX6_feed 74 = .ok (.goto (-39), 3) := by decide +kernel
theorem dX6_feed_77 : decode cX6_feed 77 = .ok (.aload_n 0, 1) := by decide +kernel
theorem dX6_feed_78 : decode cX6_feed 78 = .ok (.getfield 126, 3) := by decide +kernel
theorem dX6_feed_81 : decode cX6_feed 81 = .ok (.ireturn, 1) := by decide +kernel
theorem dX6_here_0 : decode cX6_here 0 = .ok (.aload_n 0, 1) := by decide +kernel
theorem dX6_here_1 : decode cX6_here 1 = .ok (.getfield 132, 3) := by decide +kernel
theorem dX6_here_4 : decode cX6_here 4 = .ok (.aload_n 0, 1) := by decide +kernel
theorem dX6_here_5 : decode cX6_here 5 = .ok (.getfield 126, 3) := by decide +kernel
theorem dX6_here_8 : decode cX6_here 8 = .ok (.if_icmp .ge 30, 3) := by decide +kernel
theorem dX6_here_11 : decode cX6_here 11 = .ok (.aload_n 0, 1) := by decide +kernel
theorem dX6_here_12 : decode cX6_here 12 = .ok (.getfield 47, 3) := by decide +kernel
theorem dX6_here_15 : decode cX6_here 15 = .ok (.aload_n 0, 1) := by decide +kernel
theorem dX6_here_16 : decode cX6_here 16 = .ok (.getfield 132, 3) := by decide +kernel
theorem dX6_here_19 : decode cX6_here 19 = .ok (.iaload, 1) := by decide +kernel
theorem dX6_here_20 : decode cX6_here 20 = .ok (.bipush 32, 2) := by decide +kernel
theorem dX6_here_22 : decode cX6_here 22 = .ok (.if_icmp .ne 16, 3) := by decide +kernel
theorem dX6_here_25 : decode cX6_here 25 = .ok (.aload_n 0, 1) := by decide +kernel
theorem dX6_here_26 : decode cX6_here 26 = .ok (.dup, 1) := by decide +kernel
theorem dX6_here_27 : decode cX6_here 27 = .ok (.getfield 132, 3) := by decide +kernel
theorem dX6_here_30 : decode cX6_here 30 = .ok (.iconst 1, 1) := by decide +kernel
theorem dX6_here_31 : decode cX6_here 31 = .ok (.iadd, 1) := by decide +kernel
theorem dX6_here_32 : decode cX6_here 32 = .ok (.putfield 132, 3) := by decide +kernel
theorem dX6_here_35 : decode cX6_here 35 = .ok (.goto (-35), 3) := by decide +kernel
theorem dX6_here_38 : decode cX6_here 38 = .ok (.aload_n 0, 1) := by decide +kernel
theorem dX6_here_39 : decode cX6_here 39 = .ok (.getfield 132, 3) := by decide +kernel
theorem dX6_here_42 : decode cX6_here 42 = .ok (.aload_n 0, 1) := by decide +kernel
theorem dX6_here_43 : decode cX6_here 43 = .ok (.getfield 126, 3) := by decide +kernel
theorem dX6_here_46 : decode cX6_here 46 = .ok (.if_icmp .ge 15, 3) := by decide +kernel
theorem dX6_here_49 : decode cX6_here 49 = .ok (.aload_n 0, 1) := by decide +kernel
theorem dX6_here_50 : decode cX6_here 50 = .ok (.getfield 47, 3) := by decide +kernel
theorem dX6_here_53 : decode cX6_here 53 = .ok (.aload_n 0, 1) := by decide +kernel
theorem dX6_here_54 : decode cX6_here 54 = .ok (.getfield 132, 3) := by decide +kernel
theorem dX6_here_57 : decode cX6_here 57 = .ok (.iaload, 1) := by decide +kernel
theorem dX6_here_58 : decode cX6_here 58 = .ok (.goto 4, 3) := by decide +kernel
theorem dX6_here_61 : decode cX6_here 61 = .ok (.iconst (-1), 1) := by decide +kernel
theorem dX6_here_62 : decode cX6_here 62 = .ok (.ireturn, 1) := by decide +kernel
theorem dX6_fails_0 : decode cX6_fails 0 = .ok (.aload_n 0, 1) := by decide +kernel
theorem dX6_fails_1 : decode cX6_fails 1 = .ok (.iload_n 2, 1) := by decide +kernel
theorem dX6_fails_2 : decode cX6_fails 2 = .ok (.putfield 50, 3) := by decide +kernel
theorem dX6_fails_5 : decode cX6_fails 5 = .ok (.iload_n 1, 1) := by decide +kernel
theorem dX6_fails_6 : decode cX6_fails 6 = .ok (.ireturn, 1) := by decide +kernel
theorem dX6_readWord_0 : decode cX6_readWord 0 = .ok (.aload_n 0, 1) := by decide +kernel
theorem dX6_readWord_1 : decode cX6_readWord 1 = .ok (.invokevirtual 135, 3) := by decide +kernel
theorem dX6_readWord_4 : decode cX6_readWord 4 = .ok (.istore_n 1, 1) := by decide +kernel
theorem dX6_readWord_5 : decode cX6_readWord 5 = .ok (.aload_n 0, 1) := by decide +kernel
theorem dX6_readWord_6 : decode cX6_readWord 6 = .ok (.lconst 0, 1) := by decide +kernel
theorem dX6_readWord_7 : decode cX6_readWord 7 = .ok (.putfield 139, 3) := by decide +kernel
theorem dX6_readWord_10 : decode cX6_readWord 10 = .ok (.aload_n 0, 1) := by decide +kernel
theorem dX6_readWord_11 : decode cX6_readWord 11 = .ok (.aload_n 0, 1) := by decide +kernel
theorem dX6_readWord_12 : decode cX6_readWord 12 = .ok (.getfield 132, 3) := by decide +kernel
theorem dX6_readWord_15 : decode cX6_readWord 15 = .ok (.putfield 143, 3) := by decide +kernel
theorem dX6_readWord_18 : decode cX6_readWord 18 = .ok (.aload_n 0, 1) := by decide +kernel
theorem dX6_readWord_19 : decode cX6_readWord 19 = .ok (.getfield 143, 3) := by decide +kernel
theorem dX6_readWord_22 : decode cX6_readWord 22 = .ok (.aload_n 0, 1) := by decide +kernel
theorem dX6_readWord_23 : decode cX6_readWord 23 = .ok (.getfield 126, 3) := by decide +kernel
theorem dX6_readWord_26 : decode cX6_readWord 26 = .ok (.if_icmp .ge 82, 3) := by decide +kernel
theorem dX6_readWord_29 : decode cX6_readWord 29 = .ok (.aload_n 0, 1) := by decide +kernel
theorem dX6_readWord_30 : decode cX6_readWord 30 = .ok (.getfield 47, 3) := by decide +kernel
theorem dX6_readWord_33 : decode cX6_readWord 33 = .ok (.aload_n 0, 1) := by decide +kernel
theorem dX6_readWord_34 : decode cX6_readWord 34 = .ok (.getfield 143, 3) := by decide +kernel
theorem dX6_readWord_37 : decode cX6_readWord 37 = .ok (.iaload, 1) := by decide +kernel
theorem dX6_readWord_38 : decode cX6_readWord 38 = .ok (.i2l, 1) := by decide +kernel
theorem dX6_readWord_39 : decode cX6_readWord 39 = .ok (.ldc2_w 146, 3) := by decide +kernel
theorem dX6_readWord_42 : decode cX6_readWord 42 = .ok (.ldc2_w 148, 3) := by decide +kernel
theorem dX6_readWord_45 : decode cX6_readWord 45 = .ok (.invokestatic 114, 3) := by decide +kernel
theorem dX6_readWord_48 : decode cX6_readWord 48 = .ok (.ifCond .eq 60, 3) := by decide +kernel
theorem dX6_readWord_51 : decode cX6_readWord 51 = .ok (.aload_n 0, 1) := by decide +kernel
theorem dX6_readWord_52 : decode cX6_readWord 52 = .ok (.aload_n 0, 1) := by decide +kernel
theorem dX6_readWord_53 : decode cX6_readWord 53 = .ok (.getfield 139, 3) := by decide +kernel
theorem dX6_readWord_56 : decode cX6_readWord 56 = .ok (.ldc2_w 150, 3) := by decide +kernel
theorem dX6_readWord_59 : decode cX6_readWord 59 = .ok (.lcmp, 1) := by decide +kernel
theorem dX6_readWord_60 : decode cX6_readWord 60 = .ok (.ifCond .le 9, 3) := by decide +kernel
theorem dX6_readWord_63 : decode cX6_readWord 63 = .ok (.ldc2_w 152, 3) := by decide +kernel
theorem dX6_readWord_66 : decode cX6_readWord 66 = .ok (.goto 26, 3) := by decide +kernel
theorem dX6_readWord_69 : decode cX6_readWord 69 = .ok (.ldc2_w 154, 3) := by decide +kernel
theorem dX6_readWord_72 : decode cX6_readWord 72 = .ok (.aload_n 0, 1) := by decide +kernel
theorem dX6_readWord_73 : decode cX6_readWord 73 = .ok (.getfield 139, 3) := by decide +kernel
theorem dX6_readWord_76 : decode cX6_readWord 76 = .ok (.lmul, 1) := by decide +kernel
theorem dX6_readWord_77 : decode cX6_readWord 77 = .ok (.aload_n 0, 1) := by decide +kernel
theorem dX6_readWord_78 : decode cX6_readWord 78 = .ok (.getfield 47, 3) := by decide +kernel
theorem dX6_readWord_81 : decode cX6_readWord 81 = .ok (.aload_n 0, 1) := by decide +kernel
theorem dX6_readWord_82 : decode cX6_readWord 82 = .ok (.getfield 143, 3) := by decide +kernel
theorem dX6_readWord_85 : decode cX6_readWord 85 = .ok (.iaload, 1) := by decide +kernel
theorem dX6_readWord_86 : decode cX6_readWord 86 = .ok (.i2l, 1) := by decide +kernel
theorem dX6_readWord_87 : decode cX6_readWord 87 = .ok (.ladd, 1) := by decide +kernel
theorem dX6_readWord_88 : decode cX6_readWord 88 = .ok (.ldc2_w 156, 3) := by decide +kernel
theorem dX6_readWord_91 : decode cX6_readWord 91 = .ok (.lsub, 1) := by decide +kernel
theorem dX6_readWord_92 : decode cX6_readWord 92 = .ok (.putfield 139, 3) := by decide +kernel
theorem dX6_readWord_95 : decode cX6_readWord 95 = .ok (.aload_n 0, 1) := by decide +kernel
theorem dX6_readWord_96 : decode cX6_readWord 96 = .ok (.dup, 1) := by decide +kernel
theorem dX6_readWord_97 : decode cX6_readWord 97 = .ok (.getfield 143, 3) := by decide +kernel
theorem dX6_readWord_100 : decode cX6_readWord 100 = .ok (.iconst 1, 1) := by decide +kernel
theorem dX6_readWord_101 : decode cX6_readWord 101 = .ok (.iadd, 1) := by decide +kernel
theorem dX6_readWord_102 : decode cX6_readWord 102 = .ok (.putfield 143, 3) := by decide +kernel
theorem dX6_readWord_105 : decode cX6_readWord 105 = .ok (.goto (-87), 3) := by decide +kernel
theorem dX6_readWord_108 : decode cX6_readWord 108 = .ok (.return_, 1) := by decide +kernel
theorem dX6_code_0 : decode cX6_code 0 = .ok (.ldc2_w 154, 3) := by decide +kernel
theorem dX6_code_3 : decode cX6_code 3 = .ok (.ldc2_w 154, 3) := by decide +kernel
theorem dX6_code_6 : decode cX6_code 6 = .ok (.iload_n 0, 1) := by decide +kernel
theorem dX6_code_7 : decode cX6_code 7 = .ok (.i2l, 1) := by decide +kernel
theorem dX6_code_8 : decode cX6_code 8 = .ok (.ldc2_w 156, 3) := by decide +kernel
theorem dX6_code_11 : decode cX6_code 11 = .ok (.lsub, 1) := by decide +kernel
theorem dX6_code_12 : decode cX6_code 12 = .ok (.lmul, 1) := by decide +kernel
theorem dX6_code_13 : decode cX6_code 13 = .ok (.iload_n 1, 1) := by decide +kernel
theorem dX6_code_14 : decode cX6_code 14 = .ok (.i2l, 1) := by decide +kernel
theorem dX6_code_15 : decode cX6_code 15 = .ok (.ladd, 1) := by decide +kernel
theorem dX6_code_16 : decode cX6_code 16 = .ok (.ldc2_w 156, 3) := by decide +kernel
theorem dX6_code_19 : decode cX6_code 19 = .ok (.lsub, 1) := by decide +kernel
theorem dX6_code_20 : decode cX6_code 20 = .ok (.lmul, 1) := by decide +kernel
theorem dX6_code_21 : decode cX6_code 21 = .ok (.iload_n 2, 1) := by decide +kernel
theorem dX6_code_22 : decode cX6_code 22 = .ok (.i2l, 1) := by decide +kernel
theorem dX6_code_23 : decode cX6_code 23 = .ok (.ladd, 1) := by decide +kernel
theorem dX6_code_24 : decode cX6_code 24 = .ok (.ldc2_w 156, 3) := by decide +kernel
theorem dX6_code_27 : decode cX6_code 27 = .ok (.lsub, 1) := by decide +kernel
theorem dX6_code_28 : decode cX6_code 28 = .ok (.lreturn, 1) := by decide +kernel
theorem dX6_longer_0 : decode cX6_longer 0 = .ok (.iload_n 3, 1) := by decide +kernel
theorem dX6_longer_1 : decode cX6_longer 1 = .ok (.ifCond .ne 18, 3) := by decide +kernel
theorem dX6_longer_4 : decode cX6_longer 4 = .ok (.ldc2_w 154, 3) := by decide +kernel
theorem dX6_longer_7 : decode cX6_longer 7 = .ok (.lload_n 0, 1) := by decide +kernel
theorem dX6_longer_8 : decode cX6_longer 8 = .ok (.lmul, 1) := by decide +kernel
theorem dX6_longer_9 : decode cX6_longer 9 = .ok (.iload_n 2, 1) := by decide +kernel
theorem dX6_longer_10 : decode cX6_longer 10 = .ok (.i2l, 1) := by decide +kernel
theorem dX6_longer_11 : decode cX6_longer 11 = .ok (.ladd, 1) := by decide +kernel
theorem dX6_longer_12 : decode cX6_longer 12 = .ok (.ldc2_w 156, 3) := by decide +kernel
theorem dX6_longer_15 : decode cX6_longer 15 = .ok (.lsub, 1) := by decide +kernel
theorem dX6_longer_16 : decode cX6_longer 16 = .ok (.goto 26, 3) := by decide +kernel
theorem dX6_longer_19 : decode cX6_longer 19 = .ok (.ldc2_w 154, 3) := by decide +kernel
theorem dX6_longer_22 : decode cX6_longer 22 = .ok (.ldc2_w 154, 3) := by decide +kernel
theorem dX6_longer_25 : decode cX6_longer 25 = .ok (.lload_n 0, 1) := by decide +kernel
theorem dX6_longer_26 : decode cX6_longer 26 = .ok (.lmul, 1) := by decide +kernel
theorem dX6_longer_27 : decode cX6_longer 27 = .ok (.iload_n 2, 1) := by decide +kernel
theorem dX6_longer_28 : decode cX6_longer 28 = .ok (.i2l, 1) := by decide +kernel
theorem dX6_longer_29 : decode cX6_longer 29 = .ok (.ladd, 1) := by decide +kernel
theorem dX6_longer_30 : decode cX6_longer 30 = .ok (.ldc2_w 156, 3) := by decide +kernel
theorem dX6_longer_33 : decode cX6_longer 33 = .ok (.lsub, 1) := by decide +kernel
theorem dX6_longer_34 : decode cX6_longer 34 = .ok (.lmul, 1) := by decide +kernel
theorem dX6_longer_35 : decode cX6_longer 35 = .ok (.iload_n 3, 1) := by decide +kernel
theorem dX6_longer_36 : decode cX6_longer 36 = .ok (.i2l, 1) := by decide +kernel
theorem dX6_longer_37 : decode cX6_longer 37 = .ok (.ladd, 1) := by decide +kernel
theorem dX6_longer_38 : decode cX6_longer 38 = .ok (.ldc2_w 156, 3) := by decide +kernel
theorem dX6_longer_41 : decode cX6_longer 41 = .ok (.lsub, 1) := by decide +kernel
theorem dX6_longer_42 : decode cX6_longer 42 = .ok (.lreturn, 1) := by decide +kernel
theorem dX6_takeNumber_0 : decode cX6_takeNumber 0 = .ok (.aload_n 0, 1) := by decide +kernel
theorem dX6_takeNumber_1 : decode cX6_takeNumber 1 = .ok (.invokevirtual 135, 3) := by decide +kernel
theorem dX6_takeNumber_4 : decode cX6_takeNumber 4 = .ok (.istore_n 3, 1) := by decide +kernel
theorem dX6_takeNumber_5 : decode cX6_takeNumber 5 = .ok (.iload_n 3, 1) := by decide +kernel
theorem dX6_takeNumber_6 : decode cX6_takeNumber 6 = .ok (.i2l, 1) := by decide +kernel
theorem dX6_takeNumber_7 : decode cX6_takeNumber 7 = .ok (.ldc2_w 158, 3) := by decide +kernel
theorem dX6_takeNumber_10 : decode cX6_takeNumber 10 = .ok (.ldc2_w 160, 3) := by decide +kernel
theorem dX6_takeNumber_13 : decode cX6_takeNumber 13 = .ok (.invokestatic 114, 3) := by decide +kernel
theorem dX6_takeNumber_16 : decode cX6_takeNumber 16 = .ok (.ifCond .ne 13, 3) := by decide +kernel
theorem dX6_takeNumber_19 : decode cX6_takeNumber 19 = .ok (.aload_n 0, 1) := by decide +kernel
theorem dX6_takeNumber_20 : decode cX6_takeNumber 20 = .ok (.iconst 1, 1) := by decide +kernel
theorem dX6_takeNumber_21 : decode cX6_takeNumber 21 = .ok (.aload_n 0, 1) := by decide +kernel
theorem dX6_takeNumber_22 : decode cX6_takeNumber 22 = .ok (.getfield 132, 3) := by decide +kernel
theorem dX6_takeNumber_25 : decode cX6_takeNumber 25 = .ok (.invokevirtual 162, 3) := by decide +kernel
theorem dX6_takeNumber_28 : decode cX6_takeNumber 28 = .ok (.ireturn, 1) := by decide +kernel
theorem dX6_takeNumber_29 : decode cX6_takeNumber 29 = .ok (.aload_n 0, 1) := by decide +kernel
theorem dX6_takeNumber_30 : decode cX6_takeNumber 30 = .ok (.aload_n 0, 1) := by decide +kernel
theorem dX6_takeNumber_31 : decode cX6_takeNumber 31 = .ok (.getfield 132, 3) := by decide +kernel
theorem dX6_takeNumber_34 : decode cX6_takeNumber 34 = .ok (.putfield 166, 3) := by decide +kernel
theorem dX6_takeNumber_37 : decode cX6_takeNumber 37 = .ok (.aload_n 0, 1) := by decide +kernel
theorem dX6_takeNumber_38 : decode cX6_takeNumber 38 = .ok (.iconst 0, 1) := by decide +kernel
theorem dX6_takeNumber_39 : decode cX6_takeNumber 39 = .ok (.putfield 169, 3) := by decide +kernel
theorem dX6_takeNumber_42 : decode cX6_takeNumber 42 = .ok (.aload_n 0, 1) := by decide +kernel
theorem dX6_takeNumber_43 : decode cX6_takeNumber 43 = .ok (.getfield 132, 3) := by decide +kernel
theorem dX6_takeNumber_46 : decode cX6_takeNumber 46 = .ok (.aload_n 0, 1) := by decide +kernel
theorem dX6_takeNumber_47 : decode cX6_takeNumber 47 = .ok (.getfield 126, 3) := by decide +kernel
theorem dX6_takeNumber_50 : decode cX6_takeNumber 50 = .ok (.if_icmp .ge 78, 3) := by decide +kernel
theorem dX6_takeNumber_53 : decode cX6_takeNumber 53 = .ok (.aload_n 0, 1) := by decide +kernel
theorem dX6_takeNumber_54 : decode cX6_takeNumber 54 = .ok (.getfield 47, 3) := by decide +kernel
theorem dX6_takeNumber_57 : decode cX6_takeNumber 57 = .ok (.aload_n 0, 1) := by decide +kernel
theorem dX6_takeNumber_58 : decode cX6_takeNumber 58 = .ok (.getfield 132, 3) := by decide +kernel
theorem dX6_takeNumber_61 : decode cX6_takeNumber 61 = .ok (.iaload, 1) := by decide +kernel
theorem dX6_takeNumber_62 : decode cX6_takeNumber 62 = .ok (.i2l, 1) := by decide +kernel
theorem dX6_takeNumber_63 : decode cX6_takeNumber 63 = .ok (.ldc2_w 158, 3) := by decide +kernel
theorem dX6_takeNumber_66 : decode cX6_takeNumber 66 = .ok (.ldc2_w 160, 3) := by decide +kernel
theorem dX6_takeNumber_69 : decode cX6_takeNumber 69 = .ok (.invokestatic 114, 3) := by decide +kernel
theorem dX6_takeNumber_72 : decode cX6_takeNumber 72 = .ok (.ifCond .eq 56, 3) := by decide +kernel
theorem dX6_takeNumber_75 : decode cX6_takeNumber 75 = .ok (.aload_n 0, 1) := by decide +kernel
theorem dX6_takeNumber_76 : decode cX6_takeNumber 76 = .ok (.aload_n 0, 1) := by decide +kernel
theorem dX6_takeNumber_77 : decode cX6_takeNumber 77 = .ok (.getfield 169, 3) := by decide +kernel
theorem dX6_takeNumber_80 : decode cX6_takeNumber 80 = .ok (.ldc 172, 2) := by decide +kernel
theorem dX6_takeNumber_82 : decode cX6_takeNumber 82 = .ok (.if_icmp .le 10, 3) := by decide +kernel
theorem dX6_takeNumber_85 : decode cX6_takeNumber 85 = .ok (.aload_n 0, 1) := by decide +kernel
theorem dX6_takeNumber_86 : decode cX6_takeNumber 86 = .ok (.getfield 169, 3) := by decide +kernel
theorem dX6_takeNumber_89 : decode cX6_takeNumber 89 = .ok (.goto 23, 3) := by decide +kernel
theorem dX6_takeNumber_92 : decode cX6_takeNumber 92 = .ok (.bipush 10, 2) := by decide +kernel
theorem dX6_takeNumber_94 : decode cX6_takeNumber 94 = .ok (.aload_n 0, 1) := by decide +kernel
theorem dX6_takeNumber_95 : decode cX6_takeNumber 95 = .ok (.getfield 169, 3) := by decide +kernel
theorem dX6_takeNumber_98 : decode cX6_takeNumber 98 = .ok (.imul, 1) := by decide +kernel
theorem dX6_takeNumber_99 : decode cX6_takeNumber 99 = .ok (.aload_n 0, 1) := by decide +kernel
theorem dX6_takeNumber_100 : decode cX6_takeNumber 100 = .ok (.getfield 47, 3) := by decide +kernel
theorem dX6_takeNumber_103 : decode cX6_takeNumber 103 = .ok (.aload_n 0, 1) := by decide +kernel
theorem dX6_takeNumber_104 : decode cX6_takeNumber 104 = .ok (.getfield 132, 3) := by decide +kernel
theorem dX6_takeNumber_107 : decode cX6_takeNumber 107 = .ok (.iaload, 1) := by decide +kernel
theorem dX6_takeNumber_108 : decode cX6_takeNumber 108 = .ok (.iadd, 1) := by decide +kernel
theorem dX6_takeNumber_109 : decode cX6_takeNumber 109 = .ok (.bipush 48, 2) := by decide +kernel
theorem dX6_takeNumber_111 : decode cX6_takeNumber 111 = .ok (.isub, 1) := by decide +kernel
theorem dX6_takeNumber_112 : decode cX6_takeNumber 112 = .ok (.putfield 169, 3) := by decide +kernel
theorem dX6_takeNumber_115 : decode cX6_takeNumber 115 = .ok (.aload_n 0, 1) := by decide +kernel
theorem dX6_takeNumber_116 : decode cX6_takeNumber 116 = .ok (.dup, 1) := by decide +kernel
theorem dX6_takeNumber_117 : decode cX6_takeNumber 117 = .ok (.getfield 132, 3) := by decide +kernel
theorem dX6_takeNumber_120 : decode cX6_takeNumber 120 = .ok (.iconst 1, 1) := by decide +kernel
theorem dX6_takeNumber_121 : decode cX6_takeNumber 121 = .ok (.iadd, 1) := by decide +kernel
theorem dX6_takeNumber_122 : decode cX6_takeNumber 122 = .ok (.putfield 132, 3) := by decide +kernel
theorem dX6_takeNumber_125 : decode cX6_takeNumber 125 = .ok (.goto (-83), 3) := by decide +kernel
theorem dX6_takeNumber_128 : decode cX6_takeNumber 128 = .ok (.aload_n 0, 1) := by decide +kernel
theorem dX6_takeNumber_129 : decode cX6_takeNumber 129 = .ok (.getfield 132, 3) := by decide +kernel
theorem dX6_takeNumber_132 : decode cX6_takeNumber 132 = .ok (.aload_n 0, 1) := by decide +kernel
theorem dX6_takeNumber_133 : decode cX6_takeNumber 133 = .ok (.getfield 166, 3) := by decide +kernel
theorem dX6_takeNumber_136 : decode cX6_takeNumber 136 = .ok (.isub, 1) := by decide +kernel
theorem dX6_takeNumber_137 : decode cX6_takeNumber 137 = .ok (.iconst 4, 1) := by decide +kernel
theorem dX6_takeNumber_138 : decode cX6_takeNumber 138 = .ok (.if_icmp .gt 18, 3) := by decide +kernel
theorem dX6_takeNumber_141 : decode cX6_takeNumber 141 = .ok (.aload_n 0, 1) := by decide +kernel
theorem dX6_takeNumber_142 : decode cX6_takeNumber 142 = .ok (.getfield 169, 3) := by decide +kernel
theorem dX6_takeNumber_145 : decode cX6_takeNumber 145 = .ok (.i2l, 1) := by decide +kernel
theorem dX6_takeNumber_146 : decode cX6_takeNumber 146 = .ok (.iload_n 1, 1) := by decide +kernel
theorem dX6_takeNumber_147 : decode cX6_takeNumber 147 = .ok (.i2l, 1) := by decide +kernel
theorem dX6_takeNumber_148 : decode cX6_takeNumber 148 = .ok (.iload_n 2, 1) := by decide +kernel
theorem dX6_takeNumber_149 : decode cX6_takeNumber 149 = .ok (.i2l, 1) := by decide +kernel
theorem dX6_takeNumber_150 : decode cX6_takeNumber 150 = .ok (.invokestatic 114, 3) := by decide +kernel
theorem dX6_takeNumber_153 : decode cX6_takeNumber 153 = .ok (.ifCond .ne 15, 3) := by decide +kernel
theorem dX6_takeNumber_156 : decode cX6_takeNumber 156 = .ok (.aload_n 0, 1) := by decide +kernel
theorem dX6_takeNumber_157 : decode cX6_takeNumber 157 = .ok (.iconst 2, 1) := by decide +kernel
theorem dX6_takeNumber_158 : decode cX6_takeNumber 158 = .ok (.aload_n 0, 1) := by decide +kernel
theorem dX6_takeNumber_159 : decode cX6_takeNumber 159 = .ok (.getfield 166, 3) := by decide +kernel
theorem dX6_takeNumber_162 : decode cX6_takeNumber 162 = .ok (.invokevirtual 162, 3) := by decide +kernel
theorem dX6_takeNumber_165 : decode cX6_takeNumber 165 = .ok (.goto 4, 3) := by decide +kernel
theorem dX6_takeNumber_168 : decode cX6_takeNumber 168 = .ok (.iconst 0, 1) := by decide +kernel
theorem dX6_takeNumber_169 : decode cX6_takeNumber 169 = .ok (.ireturn, 1) := by decide +kernel
theorem dX6_takeMark_0 : decode cX6_takeMark 0 = .ok (.aload_n 0, 1) := by decide +kernel
theorem dX6_takeMark_1 : decode cX6_takeMark 1 = .ok (.iconst 0, 1) := by decide +kernel
theorem dX6_takeMark_2 : decode cX6_takeMark 2 = .ok (.bipush 99, 2) := by decide +kernel
theorem dX6_takeMark_4 : decode cX6_takeMark 4 = .ok (.invokevirtual 173, 3) := by decide +kernel
theorem dX6_takeMark_7 : decode cX6_takeMark 7 = .ok (.istore_n 1, 1) := by decide +kernel
theorem dX6_takeMark_8 : decode cX6_takeMark 8 = .ok (.aload_n 0, 1) := by decide +kernel
theorem dX6_takeMark_9 : decode cX6_takeMark 9 = .ok (.getfield 53, 3) := by decide +kernel
theorem dX6_takeMark_12 : decode cX6_takeMark 12 = .ok (.aload_n 0, 1) := by decide +kernel
theorem dX6_takeMark_13 : decode cX6_takeMark 13 = .ok (.getfield 176, 3) := by decide +kernel
theorem dX6_takeMark_16 : decode cX6_takeMark 16 = .ok (.aload_n 0, 1) := by decide +kernel
theorem dX6_takeMark_17 : decode cX6_takeMark 17 = .ok (.getfield 169, 3) := by decide +kernel
theorem dX6_takeMark_20 : decode cX6_takeMark 20 = .ok (.iastore, 1) := by decide +kernel
theorem dX6_takeMark_21 : decode cX6_takeMark 21 = .ok (.iload_n 1, 1) := by decide +kernel
theorem dX6_takeMark_22 : decode cX6_takeMark 22 = .ok (.ifCond .le 7, 3) := by decide +kernel
theorem dX6_takeMark_25 : decode cX6_takeMark 25 = .ok (.iload_n 1, 1) := by decide +kernel
theorem dX6_takeMark_26 : decode cX6_takeMark 26 = .ok (.goto 10, 3) := by decide +kernel
theorem dX6_takeMark_29 : decode cX6_takeMark 29 = .ok (.aload_n 0, 1) := by decide +kernel
theorem dX6_takeMark_30 : decode cX6_takeMark 30 = .ok (.iconst 0, 1) := by decide +kernel
theorem dX6_takeMark_31 : decode cX6_takeMark 31 = .ok (.bipush 99, 2) := by decide +kernel
theorem dX6_takeMark_33 : decode cX6_takeMark 33 = .ok (.invokevirtual 173, 3) := by decide +kernel
theorem dX6_takeMark_36 : decode cX6_takeMark 36 = .ok (.istore_n 1, 1) := by decide +kernel
theorem dX6_takeMark_37 : decode cX6_takeMark 37 = .ok (.aload_n 0, 1) := by decide +kernel
theorem dX6_takeMark_38 : decode cX6_takeMark 38 = .ok (.getfield 56, 3) := by decide +kernel
theorem dX6_takeMark_41 : decode cX6_takeMark 41 = .ok (.aload_n 0, 1) := by decide +kernel
theorem dX6_takeMark_42 : decode cX6_takeMark 42 = .ok (.getfield 176, 3) := by decide +kernel
theorem dX6_takeMark_45 : decode cX6_takeMark 45 = .ok (.aload_n 0, 1) := by decide +kernel
theorem dX6_takeMark_46 : decode cX6_takeMark 46 = .ok (.getfield 169, 3) := by decide +kernel
theorem dX6_takeMark_49 : decode cX6_takeMark 49 = .ok (.iastore, 1) := by decide +kernel
theorem dX6_takeMark_50 : decode cX6_takeMark 50 = .ok (.iconst 0, 1) := by decide +kernel
theorem dX6_takeMark_51 : decode cX6_takeMark 51 = .ok (.istore_n 2, 1) := by decide +kernel
theorem dX6_takeMark_52 : decode cX6_takeMark 52 = .ok (.iload_n 2, 1) := by decide +kernel
theorem dX6_takeMark_53 : decode cX6_takeMark 53 = .ok (.bipush 6, 2) := by decide +kernel
theorem dX6_takeMark_55 : decode cX6_takeMark 55 = .ok (.if_icmp .ge 24, 3) := by decide +kernel
theorem dX6_takeMark_58 : decode cX6_takeMark 58 = .ok (.aload_n 0, 1) := by decide +kernel
theorem dX6_takeMark_59 : decode cX6_takeMark 59 = .ok (.getfield 65, 3) := by decide +kernel
theorem dX6_takeMark_62 : decode cX6_takeMark 62 = .ok (.bipush 9, 2) := by decide +kernel
theorem dX6_takeMark_64 : decode cX6_takeMark 64 = .ok (.iload_n 2, 1) := by decide +kernel
theorem dX6_takeMark_65 : decode cX6_takeMark 65 = .ok (.imul, 1) := by decide +kernel
theorem dX6_takeMark_66 : decode cX6_takeMark 66 = .ok (.aload_n 0, 1) := by decide +kernel
theorem dX6_takeMark_67 : decode cX6_takeMark 67 = .ok (.getfield 176, 3) := by decide +kernel
theorem dX6_takeMark_70 : decode cX6_takeMark 70 = .ok (.iadd, 1) := by decide +kernel
theorem dX6_takeMark_71 : decode cX6_takeMark 71 = .ok (.iconst 0, 1) := by decide +kernel
theorem dX6_takeMark_72 : decode cX6_takeMark 72 = .ok (.bastore, 1) := by decide +kernel
theorem dX6_takeMark_73 : decode cX6_takeMark 73 = .ok (.iinc 2 1, 3) := by decide +kernel
theorem dX6_takeMark_76 : decode cX6_takeMark 76 = .ok (.goto (-24), 3) := by decide +kernel
theorem dX6_takeMark_79 : decode cX6_takeMark 79 = .ok (.aload_n 0, 1) := by decide +kernel
theorem dX6_takeMark_80 : decode cX6_takeMark 80 = .ok (.dup, 1) := by decide +kernel
theorem dX6_takeMark_81 : decode cX6_takeMark 81 = .ok (.getfield 176, 3) := by decide +kernel
theorem dX6_takeMark_84 : decode cX6_takeMark 84 = .ok (.iconst 1, 1) := by decide +kernel
theorem dX6_takeMark_85 : decode cX6_takeMark 85 = .ok (.iadd, 1) := by decide +kernel
theorem dX6_takeMark_86 : decode cX6_takeMark 86 = .ok (.putfield 176, 3) := by decide +kernel
theorem dX6_takeMark_89 : decode cX6_takeMark 89 = .ok (.iload_n 1, 1) := by decide +kernel
theorem dX6_takeMark_90 : decode cX6_takeMark 90 = .ok (.ireturn, 1) := by decide +kernel
theorem dX6_takeGoal_0 : decode cX6_takeGoal 0 = .ok (.iconst 0, 1) := by decide +kernel
theorem dX6_takeGoal_1 : decode cX6_takeGoal 1 = .ok (.istore_n 1, 1) := by decide +kernel
theorem dX6_takeGoal_2 : decode cX6_takeGoal 2 = .ok (.iconst 0, 1) := by decide +kernel
theorem dX6_takeGoal_3 : decode cX6_takeGoal 3 = .ok (.istore_n 2, 1) := by decide +kernel
theorem dX6_takeGoal_4 : decode cX6_takeGoal 4 = .ok (.iload_n 2, 1) := by decide +kernel
theorem dX6_takeGoal_5 : decode cX6_takeGoal 5 = .ok (.iconst 3, 1) := by decide +kernel
theorem dX6_takeGoal_6 : decode cX6_takeGoal 6 = .ok (.if_icmp .ge 35, 3) := by decide +kernel
theorem dX6_takeGoal_9 : decode cX6_takeGoal 9 = .ok (.iload_n 1, 1) := by decide +kernel
theorem dX6_takeGoal_10 : decode cX6_takeGoal 10 = .ok (.ifCond .ne 31, 3) := by decide +kernel
theorem dX6_takeGoal_13 : decode cX6_takeGoal 13 = .ok (.aload_n 0, 1) := by decide +kernel
theorem dX6_takeGoal_14 : decode cX6_takeGoal 14 = .ok (.iconst 0, 1) := by decide +kernel
theorem dX6_takeGoal_15 : decode cX6_takeGoal 15 = .ok (.aload_n 0, 1) := by decide +kernel
theorem dX6_takeGoal_16 : decode cX6_takeGoal 16 = .ok (.getfield 176, 3) := by decide +kernel
theorem dX6_takeGoal_19 : decode cX6_takeGoal 19 = .ok (.iconst 1, 1) := by decide +kernel
theorem dX6_takeGoal_20 : decode cX6_takeGoal 20 = .ok (.isub, 1) := by decide +kernel
theorem dX6_takeGoal_21 : decode cX6_takeGoal 21 = .ok (.invokevirtual 173, 3) := by decide +kernel
theorem dX6_takeGoal_24 : decode cX6_takeGoal 24 = .ok (.istore_n 1, 1) := by decide +kernel
theorem dX6_takeGoal_25 : decode cX6_takeGoal 25 = .ok (.aload_n 0, 1) := by decide +kernel
theorem dX6_takeGoal_26 : decode cX6_takeGoal 26 = .ok (.getfield 69, 3) := by decide +kernel
theorem dX6_takeGoal_29 : decode cX6_takeGoal 29 = .ok (.iload_n 2, 1) := by decide +kernel
theorem dX6_takeGoal_30 : decode cX6_takeGoal 30 = .ok (.aload_n 0, 1) := by decide +kernel
theorem dX6_takeGoal_31 : decode cX6_takeGoal 31 = .ok (.getfield 169, 3) := by decide +kernel
theorem dX6_takeGoal_34 : decode cX6_takeGoal 34 = .ok (.iastore, 1) := by decide +kernel
theorem dX6_takeGoal_35 : decode cX6_takeGoal 35 = .ok (.iinc 2 1, 3) := by decide +kernel
theorem dX6_takeGoal_38 : decode cX6_takeGoal 38 = .ok (.goto (-34), 3) := by decide +kernel
theorem dX6_takeGoal_41 : decode cX6_takeGoal 41 = .ok (.iload_n 1, 1) := by decide +kernel
theorem dX6_takeGoal_42 : decode cX6_takeGoal 42 = .ok (.ireturn, 1) := by decide +kernel
theorem dX6_size_0 : decode cX6_size 0 = .ok (.iload_n 0, 1) := by decide +kernel
theorem dX6_size_1 : decode cX6_size 1 = .ok (.ifCond .ge 8, 3) := by decide +kernel
theorem dX6_size_4 : decode cX6_size 4 = .ok (.iload_n 0, 1) := by decide +kernel
theorem dX6_size_5 : decode cX6_size 5 = .ok (.ineg, 1) := by decide +kernel
theorem dX6_size_6 : decode cX6_size 6 = .ok (.goto 4, 3) := by decide +kernel
theorem dX6_size_9 : decode cX6_size 9 = .ok (.iload_n 0, 1) := by decide +kernel
theorem dX6_size_10 : decode cX6_size 10 = .ok (.ireturn, 1) := by decide +kernel
theorem dX6_takeCorner_0 : decode cX6_takeCorner 0 = .ok (.aload_n 0, 1) := by decide +kernel
theorem dX6_takeCorner_1 : decode cX6_takeCorner 1 = .ok (.iconst 0, 1) := by decide +kernel
theorem dX6_takeCorner_2 : decode cX6_takeCorner 2 = .ok (.iconst 5, 1) := by decide +kernel
theorem dX6_takeCorner_3 : decode cX6_takeCorner 3 = .ok (.invokevirtual 173, 3) := by decide +kernel
theorem dX6_takeCorner_6 : decode cX6_takeCorner 6 = .ok (.istore_n 2, 1) := by decide +kernel
theorem dX6_takeCorner_7 : decode cX6_takeCorner 7 = .ok (.iload_n 2, 1) := by decide +kernel
theorem dX6_takeCorner_8 : decode cX6_takeCorner 8 = .ok (.ifCond .le 5, 3) := by decide +kernel
theorem dX6_takeCorner_11 : decode cX6_takeCorner 11 = .ok (.iload_n 2, 1) := by decide +kernel
theorem dX6_takeCorner_12 : decode cX6_takeCorner 12 = .ok (.ireturn, 1) := by decide +kernel
theorem dX6_takeCorner_13 : decode cX6_takeCorner 13 = .ok (.aload_n 0, 1) := by decide +kernel
theorem dX6_takeCorner_14 : decode cX6_takeCorner 14 = .ok (.getfield 169, 3) := by decide +kernel
theorem dX6_takeCorner_17 : decode cX6_takeCorner 17 = .ok (.istore_n 3, 1) := by decide +kernel
theorem dX6_takeCorner_18 : decode cX6_takeCorner 18 = .ok (.iload_n 1, 1) := by decide +kernel
theorem dX6_takeCorner_19 : decode cX6_takeCorner 19 = .ok (.ifCond .eq 24, 3) := by decide +kernel
theorem dX6_takeCorner_22 : decode cX6_takeCorner 22 = .ok (.aload_n 0, 1) := by decide +kernel
theorem dX6_takeCorner_23 : decode cX6_takeCorner 23 = .ok (.getfield 179, 3) := by decide +kernel
theorem dX6_takeCorner_26 : decode cX6_takeCorner 26 = .ok (.iload_n 3, 1) := by decide +kernel
theorem dX6_takeCorner_27 : decode cX6_takeCorner 27 = .ok (.invokestatic 182, 3) := by decide +kernel
theorem dX6_takeCorner_30 : decode cX6_takeCorner 30 = .ok (.ifCond .eq 13, 3) := by decide +kernel
theorem dX6_takeCorner_33 : decode cX6_takeCorner 33 = .ok (.aload_n 0, 1) := by decide +kernel
theorem dX6_takeCorner_34 : decode cX6_takeCorner 34 = .ok (.iconst 4, 1) := by decide +kernel
theorem dX6_takeCorner_35 : decode cX6_takeCorner 35 = .ok (.aload_n 0, 1) := by decide +kernel
theorem dX6_takeCorner_36 : decode cX6_takeCorner 36 = .ok (.getfield 166, 3) := by decide +kernel
theorem dX6_takeCorner_39 : decode cX6_takeCorner 39 = .ok (.invokevirtual 162, 3) := by decide +kernel
theorem dX6_takeCorner_42 : decode cX6_takeCorner 42 = .ok (.ireturn, 1) := by decide +kernel
theorem dX6_takeCorner_43 : decode cX6_takeCorner 43 = .ok (.aload_n 0, 1) := by decide +kernel
theorem dX6_takeCorner_44 : decode cX6_takeCorner 44 = .ok (.iconst 0, 1) := by decide +kernel
theorem dX6_takeCorner_45 : decode cX6_takeCorner 45 = .ok (.aload_n 0, 1) := by decide +kernel
theorem dX6_takeCorner_46 : decode cX6_takeCorner 46 = .ok (.getfield 176, 3) := by decide +kernel
theorem dX6_takeCorner_49 : decode cX6_takeCorner 49 = .ok (.iconst 1, 1) := by decide +kernel
theorem dX6_takeCorner_50 : decode cX6_takeCorner 50 = .ok (.isub, 1) := by decide +kernel
theorem dX6_takeCorner_51 : decode cX6_takeCorner 51 = .ok (.invokevirtual 173, 3) := by decide +kernel
theorem dX6_takeCorner_54 : decode cX6_takeCorner 54 = .ok (.istore_n 2, 1) := by decide +kernel
theorem dX6_takeCorner_55 : decode cX6_takeCorner 55 = .ok (.iload_n 2, 1) := by decide +kernel
theorem dX6_takeCorner_56 : decode cX6_takeCorner 56 = .ok (.ifCond .le 5, 3) := by decide +kernel
theorem dX6_takeCorner_59 : decode cX6_takeCorner 59 = .ok (.iload_n 2, 1) := by decide +kernel
theorem dX6_takeCorner_60 : decode cX6_takeCorner 60 = .ok (.ireturn, 1) := by decide +kernel
theorem dX6_takeCorner_61 : decode cX6_takeCorner 61 = .ok (.aload_n 0, 1) := by decide +kernel
theorem dX6_takeCorner_62 : decode cX6_takeCorner 62 = .ok (.bipush 9, 2) := by decide +kernel
theorem dX6_takeCorner_64 : decode cX6_takeCorner 64 = .ok (.iload_n 3, 1) := by decide +kernel
theorem dX6_takeCorner_65 : decode cX6_takeCorner 65 = .ok (.imul, 1) := by decide +kernel
theorem dX6_takeCorner_66 : decode cX6_takeCorner 66 = .ok (.aload_n 0, 1) := by decide +kernel
theorem dX6_takeCorner_67 : decode cX6_takeCorner 67 = .ok (.getfield 169, 3) := by decide +kernel
theorem dX6_takeCorner_70 : decode cX6_takeCorner 70 = .ok (.iadd, 1) := by decide +kernel
theorem dX6_takeCorner_71 : decode cX6_takeCorner 71 = .ok (.putfield 186, 3) := by decide +kernel
theorem dX6_takeCorner_74 : decode cX6_takeCorner 74 = .ok (.aload_n 0, 1) := by decide +kernel
theorem dX6_takeCorner_75 : decode cX6_takeCorner 75 = .ok (.getfield 65, 3) := by decide +kernel
theorem dX6_takeCorner_78 : decode cX6_takeCorner 78 = .ok (.aload_n 0, 1) := by decide +kernel
theorem dX6_takeCorner_79 : decode cX6_takeCorner 79 = .ok (.getfield 186, 3) := by decide +kernel
theorem dX6_takeCorner_82 : decode cX6_takeCorner 82 = .ok (.baload, 1) := by decide +kernel
theorem dX6_takeCorner_83 : decode cX6_takeCorner 83 = .ok (.ifCond .eq 15, 3) := by decide +kernel
theorem dX6_takeCorner_86 : decode cX6_takeCorner 86 = .ok (.aload_n 0, 1) := by decide +kernel
theorem dX6_takeCorner_87 : decode cX6_takeCorner 87 = .ok (.iconst 4, 1) := by decide +kernel
theorem dX6_takeCorner_88 : decode cX6_takeCorner 88 = .ok (.aload_n 0, 1) := by decide +kernel
theorem dX6_takeCorner_89 : decode cX6_takeCorner 89 = .ok (.getfield 166, 3) := by decide +kernel
theorem dX6_takeCorner_92 : decode cX6_takeCorner 92 = .ok (.invokevirtual 162, 3) := by decide +kernel
theorem dX6_takeCorner_95 : decode cX6_takeCorner 95 = .ok (.goto 4, 3) := by decide +kernel
theorem dX6_takeCorner_98 : decode cX6_takeCorner 98 = .ok (.iconst 0, 1) := by decide +kernel
theorem dX6_takeCorner_99 : decode cX6_takeCorner 99 = .ok (.ireturn, 1) := by decide +kernel
theorem dX6_takeLie_0 : decode cX6_takeLie 0 = .ok (.aload_n 0, 1) := by decide +kernel
theorem dX6_takeLie_1 : decode cX6_takeLie 1 = .ok (.iconst 1, 1) := by decide +kernel
theorem dX6_takeLie_2 : decode cX6_takeLie 2 = .ok (.invokevirtual 189, 3) := by decide +kernel
theorem dX6_takeLie_5 : decode cX6_takeLie 5 = .ok (.istore_n 1, 1) := by decide +kernel
theorem dX6_takeLie_6 : decode cX6_takeLie 6 = .ok (.iload_n 1, 1) := by decide +kernel
theorem dX6_takeLie_7 : decode cX6_takeLie 7 = .ok (.ifCond .le 7, 3) := by decide +kernel
theorem dX6_takeLie_10 : decode cX6_takeLie 10 = .ok (.iload_n 1, 1) := by decide +kernel
theorem dX6_takeLie_11 : decode cX6_takeLie 11 = .ok (.goto 10, 3) := by decide +kernel
theorem dX6_takeLie_14 : decode cX6_takeLie 14 = .ok (.aload_n 0, 1) := by decide +kernel
theorem dX6_takeLie_15 : decode cX6_takeLie 15 = .ok (.iconst 0, 1) := by decide +kernel
theorem dX6_takeLie_16 : decode cX6_takeLie 16 = .ok (.bipush 99, 2) := by decide +kernel
theorem dX6_takeLie_18 : decode cX6_takeLie 18 = .ok (.invokevirtual 173, 3) := by decide +kernel
theorem dX6_takeLie_21 : decode cX6_takeLie 21 = .ok (.istore_n 1, 1) := by decide +kernel
theorem dX6_takeLie_22 : decode cX6_takeLie 22 = .ok (.aload_n 0, 1) := by decide +kernel
theorem dX6_takeLie_23 : decode cX6_takeLie 23 = .ok (.getfield 169, 3) := by decide +kernel
theorem dX6_takeLie_26 : decode cX6_takeLie 26 = .ok (.istore_n 2, 1) := by decide +kernel
theorem dX6_takeLie_27 : decode cX6_takeLie 27 = .ok (.iload_n 1, 1) := by decide +kernel
theorem dX6_takeLie_28 : decode cX6_takeLie 28 = .ok (.ifCond .le 7, 3) := by decide +kernel
theorem dX6_takeLie_31 : decode cX6_takeLie 31 = .ok (.iload_n 1, 1) := by decide +kernel
theorem dX6_takeLie_32 : decode cX6_takeLie 32 = .ok (.goto 10, 3) := by decide +kernel
theorem dX6_takeLie_35 : decode cX6_takeLie 35 = .ok (.aload_n 0, 1) := by decide +kernel
theorem dX6_takeLie_36 : decode cX6_takeLie 36 = .ok (.iconst 0, 1) := by decide +kernel
theorem dX6_takeLie_37 : decode cX6_takeLie 37 = .ok (.bipush 99, 2) := by decide +kernel
theorem dX6_takeLie_39 : decode cX6_takeLie 39 = .ok (.invokevirtual 173, 3) := by decide +kernel
theorem dX6_takeLie_42 : decode cX6_takeLie 42 = .ok (.istore_n 1, 1) := by decide +kernel
theorem dX6_takeLie_43 : decode cX6_takeLie 43 = .ok (.iload_n 1, 1) := by decide +kernel
theorem dX6_takeLie_44 : decode cX6_takeLie 44 = .ok (.ifCond .le 5, 3) := by decide +kernel
theorem dX6_takeLie_47 : decode cX6_takeLie 47 = .ok (.iload_n 1, 1) := by decide +kernel
theorem dX6_takeLie_48 : decode cX6_takeLie 48 = .ok (.ireturn, 1) := by decide +kernel
theorem dX6_takeLie_49 : decode cX6_takeLie 49 = .ok (.aload_n 0, 1) := by decide +kernel
theorem dX6_takeLie_50 : decode cX6_takeLie 50 = .ok (.getfield 186, 3) := by decide +kernel
theorem dX6_takeLie_53 : decode cX6_takeLie 53 = .ok (.bipush 9, 2) := by decide +kernel
theorem dX6_takeLie_55 : decode cX6_takeLie 55 = .ok (.irem, 1) := by decide +kernel
theorem dX6_takeLie_56 : decode cX6_takeLie 56 = .ok (.istore_n 3, 1) := by decide +kernel
theorem dX6_takeLie_57 : decode cX6_takeLie 57 = .ok (.iload_n 2, 1) := by decide +kernel
theorem dX6_takeLie_58 : decode cX6_takeLie 58 = .ok (.aload_n 0, 1) := by decide +kernel
theorem dX6_takeLie_59 : decode cX6_takeLie 59 = .ok (.getfield 53, 3) := by decide +kernel
theorem dX6_takeLie_62 : decode cX6_takeLie 62 = .ok (.iload_n 3, 1) := by decide +kernel
theorem dX6_takeLie_63 : decode cX6_takeLie 63 = .ok (.iaload, 1) := by decide +kernel
theorem dX6_takeLie_64 : decode cX6_takeLie 64 = .ok (.isub, 1) := by decide +kernel
theorem dX6_takeLie_65 : decode cX6_takeLie 65 = .ok (.invokestatic 193, 3) := by decide +kernel
theorem dX6_takeLie_68 : decode cX6_takeLie 68 = .ok (.iconst 2, 1) := by decide +kernel
theorem dX6_takeLie_69 : decode cX6_takeLie 69 = .ok (.aload_n 0, 1) := by decide +kernel
theorem dX6_takeLie_70 : decode cX6_takeLie 70 = .ok (.getfield 197, 3) := by decide +kernel
theorem dX6_takeLie_73 : decode cX6_takeLie 73 = .ok (.imul, 1) := by decide +kernel
theorem dX6_takeLie_74 : decode cX6_takeLie 74 = .ok (.if_icmp .gt 36, 3) := by decide +kernel
theorem dX6_takeLie_77 : decode cX6_takeLie 77 = .ok (.aload_n 0, 1) := by decide +kernel
theorem dX6_takeLie_78 : decode cX6_takeLie 78 = .ok (.getfield 169, 3) := by decide +kernel
theorem dX6_takeLie_81 : decode cX6_takeLie 81 = .ok (.aload_n 0, 1) := by decide +kernel
theorem dX6_takeLie_82 : decode cX6_takeLie 82 = .ok (.getfield 56, 3) := by decide +kernel
theorem dX6_takeLie_85 : decode cX6_takeLie 85 = .ok (.iload_n 3, 1) := by decide +kernel
theorem dX6_takeLie_86 : decode cX6_takeLie 86 = .ok (.iaload, 1) := by decide +kernel
theorem dX6_takeLie_87 : decode cX6_takeLie 87 = .ok (.isub, 1) := by decide +kernel
theorem dX6_takeLie_88 : decode cX6_takeLie 88 = .ok (.invokestatic 193, 3) := by decide +kernel
theorem dX6_takeLie_91 : decode cX6_takeLie 91 = .ok (.iconst 2, 1) := by decide +kernel
theorem dX6_takeLie_92 : decode cX6_takeLie 92 = .ok (.aload_n 0, 1) := by decide +kernel
theorem dX6_takeLie_93 : decode cX6_takeLie 93 = .ok (.getfield 197, 3) := by decide +kernel
theorem dX6_takeLie_96 : decode cX6_takeLie 96 = .ok (.imul, 1) := by decide +kernel
theorem dX6_takeLie_97 : decode cX6_takeLie 97 = .ok (.if_icmp .gt 13, 3) := by decide +kernel
theorem dX6_takeLie_100 : decode cX6_takeLie 100 = .ok (.aload_n 0, 1) := by decide +kernel
theorem dX6_takeLie_101 : decode cX6_takeLie 101 = .ok (.iconst 4, 1) := by decide +kernel
theorem dX6_takeLie_102 : decode cX6_takeLie 102 = .ok (.aload_n 0, 1) := by decide +kernel
theorem dX6_takeLie_103 : decode cX6_takeLie 103 = .ok (.getfield 166, 3) := by decide +kernel
theorem dX6_takeLie_106 : decode cX6_takeLie 106 = .ok (.invokevirtual 162, 3) := by decide +kernel
theorem dX6_takeLie_109 : decode cX6_takeLie 109 = .ok (.ireturn, 1) := by decide +kernel
theorem dX6_takeLie_110 : decode cX6_takeLie 110 = .ok (.aload_n 0, 1) := by decide +kernel
theorem dX6_takeLie_111 : decode cX6_takeLie 111 = .ok (.getfield 59, 3) := by decide +kernel
theorem dX6_takeLie_114 : decode cX6_takeLie 114 = .ok (.aload_n 0, 1) := by decide +kernel
theorem dX6_takeLie_115 : decode cX6_takeLie 115 = .ok (.getfield 186, 3) := by decide +kernel
theorem dX6_takeLie_118 : decode cX6_takeLie 118 = .ok (.iload_n 2, 1) := by decide +kernel
theorem dX6_takeLie_119 : decode cX6_takeLie 119 = .ok (.iastore, 1) := by decide +kernel
theorem dX6_takeLie_120 : decode cX6_takeLie 120 = .ok (.aload_n 0, 1) := by decide +kernel
theorem dX6_takeLie_121 : decode cX6_takeLie 121 = .ok (.getfield 62, 3) := by decide +kernel
theorem dX6_takeLie_124 : decode cX6_takeLie 124 = .ok (.aload_n 0, 1) := by decide +kernel
theorem dX6_takeLie_125 : decode cX6_takeLie 125 = .ok (.getfield 186, 3) := by decide +kernel
theorem dX6_takeLie_128 : decode cX6_takeLie 128 = .ok (.aload_n 0, 1) := by decide +kernel
theorem dX6_takeLie_129 : decode cX6_takeLie 129 = .ok (.getfield 169, 3) := by decide +kernel
theorem dX6_takeLie_132 : decode cX6_takeLie 132 = .ok (.iastore, 1) := by decide +kernel
theorem dX6_takeLie_133 : decode cX6_takeLie 133 = .ok (.aload_n 0, 1) := by decide +kernel
theorem dX6_takeLie_134 : decode cX6_takeLie 134 = .ok (.getfield 65, 3) := by decide +kernel
theorem dX6_takeLie_137 : decode cX6_takeLie 137 = .ok (.aload_n 0, 1) := by decide +kernel
theorem dX6_takeLie_138 : decode cX6_takeLie 138 = .ok (.getfield 186, 3) := by decide +kernel
theorem dX6_takeLie_141 : decode cX6_takeLie 141 = .ok (.iconst 1, 1) := by decide +kernel
theorem dX6_takeLie_142 : decode cX6_takeLie 142 = .ok (.bastore, 1) := by decide +kernel
theorem dX6_takeLie_143 : decode cX6_takeLie 143 = .ok (.aload_n 0, 1) := by decide +kernel
theorem dX6_takeLie_144 : decode cX6_takeLie 144 = .ok (.dup, 1) := by decide +kernel
theorem dX6_takeLie_145 : decode cX6_takeLie 145 = .ok (.getfield 179, 3) := by decide +kernel
theorem dX6_takeLie_148 : decode cX6_takeLie 148 = .ok (.iconst 1, 1) := by decide +kernel
theorem dX6_takeLie_149 : decode cX6_takeLie 149 = .ok (.aload_n 0, 1) := by decide +kernel
theorem dX6_takeLie_150 : decode cX6_takeLie 150 = .ok (.getfield 186, 3) := by decide +kernel
theorem dX6_takeLie_153 : decode cX6_takeLie 153 = .ok (.bipush 9, 2) := by decide +kernel
theorem dX6_takeLie_155 : decode cX6_takeLie 155 = .ok (.idiv, 1) := by decide +kernel
theorem dX6_takeLie_156 : decode cX6_takeLie 156 = .ok (.ishl, 1) := by decide +kernel
theorem dX6_takeLie_157 : decode cX6_takeLie 157 = .ok (.ior, 1) := by decide +kernel
theorem dX6_takeLie_158 : decode cX6_takeLie 158 = .ok (.putfield 179, 3) := by decide +kernel
theorem dX6_takeLie_161 : decode cX6_takeLie 161 = .ok (.aload_n 0, 1) := by decide +kernel
theorem dX6_takeLie_162 : decode cX6_takeLie 162 = .ok (.dup, 1) := by decide +kernel
theorem dX6_takeLie_163 : decode cX6_takeLie 163 = .ok (.getfield 200, 3) := by decide +kernel
theorem dX6_takeLie_166 : decode cX6_takeLie 166 = .ok (.iconst 1, 1) := by decide +kernel
theorem dX6_takeLie_167 : decode cX6_takeLie 167 = .ok (.iadd, 1) := by decide +kernel
theorem dX6_takeLie_168 : decode cX6_takeLie 168 = .ok (.putfield 200, 3) := by decide +kernel
theorem dX6_takeLie_171 : decode cX6_takeLie 171 = .ok (.iconst 0, 1) := by decide +kernel
theorem dX6_takeLie_172 : decode cX6_takeLie 172 = .ok (.ireturn, 1) := by decide +kernel
theorem dX6_takeErr_0 : decode cX6_takeErr 0 = .ok (.aload_n 0, 1) := by decide +kernel
theorem dX6_takeErr_1 : decode cX6_takeErr 1 = .ok (.iconst 0, 1) := by decide +kernel
theorem dX6_takeErr_2 : decode cX6_takeErr 2 = .ok (.invokevirtual 189, 3) := by decide +kernel
theorem dX6_takeErr_5 : decode cX6_takeErr 5 = .ok (.istore_n 1, 1) := by decide +kernel
theorem dX6_takeErr_6 : decode cX6_takeErr 6 = .ok (.iload_n 1, 1) := by decide +kernel
theorem dX6_takeErr_7 : decode cX6_takeErr 7 = .ok (.ifCond .le 7, 3) := by decide +kernel
theorem dX6_takeErr_10 : decode cX6_takeErr 10 = .ok (.iload_n 1, 1) := by decide +kernel
theorem dX6_takeErr_11 : decode cX6_takeErr 11 = .ok (.goto 21, 3) := by decide +kernel
theorem dX6_takeErr_14 : decode cX6_takeErr 14 = .ok (.aload_n 0, 1) := by decide +kernel
theorem dX6_takeErr_15 : decode cX6_takeErr 15 = .ok (.bipush 9, 2) := by decide +kernel
theorem dX6_takeErr_17 : decode cX6_takeErr 17 = .ok (.aload_n 0, 1) := by decide +kernel
theorem dX6_takeErr_18 : decode cX6_takeErr 18 = .ok (.getfield 197, 3) := by decide +kernel
theorem dX6_takeErr_21 : decode cX6_takeErr 21 = .ok (.isub, 1) := by decide +kernel
theorem dX6_takeErr_22 : decode cX6_takeErr 22 = .ok (.bipush 9, 2) := by decide +kernel
theorem dX6_takeErr_24 : decode cX6_takeErr 24 = .ok (.aload_n 0, 1) := by decide +kernel
theorem dX6_takeErr_25 : decode cX6_takeErr 25 = .ok (.getfield 197, 3) := by decide +kernel
theorem dX6_takeErr_28 : decode cX6_takeErr 28 = .ok (.iadd, 1) := by decide +kernel
theorem dX6_takeErr_29 : decode cX6_takeErr 29 = .ok (.invokevirtual 173, 3) := by decide +kernel
theorem dX6_takeErr_32 : decode cX6_takeErr 32 = .ok (.istore_n 1, 1) := by decide +kernel
theorem dX6_takeErr_33 : decode cX6_takeErr 33 = .ok (.aload_n 0, 1) := by decide +kernel
theorem dX6_takeErr_34 : decode cX6_takeErr 34 = .ok (.getfield 169, 3) := by decide +kernel
theorem dX6_takeErr_37 : decode cX6_takeErr 37 = .ok (.istore_n 2, 1) := by decide +kernel
theorem dX6_takeErr_38 : decode cX6_takeErr 38 = .ok (.iload_n 1, 1) := by decide +kernel
theorem dX6_takeErr_39 : decode cX6_takeErr 39 = .ok (.ifCond .le 7, 3) := by decide +kernel
theorem dX6_takeErr_42 : decode cX6_takeErr 42 = .ok (.iload_n 1, 1) := by decide +kernel
theorem dX6_takeErr_43 : decode cX6_takeErr 43 = .ok (.goto 21, 3) := by decide +kernel
theorem dX6_takeErr_46 : decode cX6_takeErr 46 = .ok (.aload_n 0, 1) := by decide +kernel
theorem dX6_takeErr_47 : decode cX6_takeErr 47 = .ok (.bipush 9, 2) := by decide +kernel
theorem dX6_takeErr_49 : decode cX6_takeErr 49 = .ok (.aload_n 0, 1) := by decide +kernel
theorem dX6_takeErr_50 : decode cX6_takeErr 50 = .ok (.getfield 197, 3) := by decide +kernel
theorem dX6_takeErr_53 : decode cX6_takeErr 53 = .ok (.isub, 1) := by decide +kernel
theorem dX6_takeErr_54 : decode cX6_takeErr 54 = .ok (.bipush 9, 2) := by decide +kernel
theorem dX6_takeErr_56 : decode cX6_takeErr 56 = .ok (.aload_n 0, 1) := by decide +kernel
theorem dX6_takeErr_57 : decode cX6_takeErr 57 = .ok (.getfield 197, 3) := by decide +kernel
theorem dX6_takeErr_60 : decode cX6_takeErr 60 = .ok (.iadd, 1) := by decide +kernel
theorem dX6_takeErr_61 : decode cX6_takeErr 61 = .ok (.invokevirtual 173, 3) := by decide +kernel
theorem dX6_takeErr_64 : decode cX6_takeErr 64 = .ok (.istore_n 1, 1) := by decide +kernel
theorem dX6_takeErr_65 : decode cX6_takeErr 65 = .ok (.iload_n 1, 1) := by decide +kernel
theorem dX6_takeErr_66 : decode cX6_takeErr 66 = .ok (.ifCond .le 5, 3) := by decide +kernel
theorem dX6_takeErr_69 : decode cX6_takeErr 69 = .ok (.iload_n 1, 1) := by decide +kernel
theorem dX6_takeErr_70 : decode cX6_takeErr 70 = .ok (.ireturn, 1) := by decide +kernel
theorem dX6_takeErr_71 : decode cX6_takeErr 71 = .ok (.aload_n 0, 1) := by decide +kernel
theorem dX6_takeErr_72 : decode cX6_takeErr 72 = .ok (.getfield 59, 3) := by decide +kernel
theorem dX6_takeErr_75 : decode cX6_takeErr 75 = .ok (.aload_n 0, 1) := by decide +kernel
theorem dX6_takeErr_76 : decode cX6_takeErr 76 = .ok (.getfield 186, 3) := by decide +kernel
theorem dX6_takeErr_79 : decode cX6_takeErr 79 = .ok (.aload_n 0, 1) := by decide +kernel
theorem dX6_takeErr_80 : decode cX6_takeErr 80 = .ok (.getfield 53, 3) := by decide +kernel
theorem dX6_takeErr_83 : decode cX6_takeErr 83 = .ok (.aload_n 0, 1) := by decide +kernel
theorem dX6_takeErr_84 : decode cX6_takeErr 84 = .ok (.getfield 186, 3) := by decide +kernel
theorem dX6_takeErr_87 : decode cX6_takeErr 87 = .ok (.bipush 9, 2) := by decide +kernel
theorem dX6_takeErr_89 : decode cX6_takeErr 89 = .ok (.irem, 1) := by decide +kernel
theorem dX6_takeErr_90 : decode cX6_takeErr 90 = .ok (.iaload, 1) := by decide +kernel
theorem dX6_takeErr_91 : decode cX6_takeErr 91 = .ok (.iload_n 2, 1) := by decide +kernel
theorem dX6_takeErr_92 : decode cX6_takeErr 92 = .ok (.iadd, 1) := by decide +kernel
theorem dX6_takeErr_93 : decode cX6_takeErr 93 = .ok (.bipush 9, 2) := by decide +kernel
theorem dX6_takeErr_95 : decode cX6_takeErr 95 = .ok (.isub, 1) := by decide +kernel
theorem dX6_takeErr_96 : decode cX6_takeErr 96 = .ok (.iastore, 1) := by decide +kernel
theorem dX6_takeErr_97 : decode cX6_takeErr 97 = .ok (.aload_n 0, 1) := by decide +kernel
theorem dX6_takeErr_98 : decode cX6_takeErr 98 = .ok (.getfield 62, 3) := by decide +kernel
theorem dX6_takeErr_101 : decode cX6_takeErr 101 = .ok (.aload_n 0, 1) := by decide +kernel
theorem dX6_takeErr_102 : decode cX6_takeErr 102 = .ok (.getfield 186, 3) := by decide +kernel
theorem dX6_takeErr_105 : decode cX6_takeErr 105 = .ok (.aload_n 0, 1) := by decide +kernel
theorem dX6_takeErr_106 : decode cX6_takeErr 106 = .ok (.getfield 56, 3) := by decide +kernel
theorem dX6_takeErr_109 : decode cX6_takeErr 109 = .ok (.aload_n 0, 1) := by decide +kernel
theorem dX6_takeErr_110 : decode cX6_takeErr 110 = .ok (.getfield 186, 3) := by decide +kernel
theorem dX6_takeErr_113 : decode cX6_takeErr 113 = .ok (.bipush 9, 2) := by decide +kernel
theorem dX6_takeErr_115 : decode cX6_takeErr 115 = .ok (.irem, 1) := by decide +kernel
theorem dX6_takeErr_116 : decode cX6_takeErr 116 = .ok (.iaload, 1) := by decide +kernel
theorem dX6_takeErr_117 : decode cX6_takeErr 117 = .ok (.aload_n 0, 1) := by decide +kernel
theorem dX6_takeErr_118 : decode cX6_takeErr 118 = .ok (.getfield 169, 3) := by decide +kernel
theorem dX6_takeErr_121 : decode cX6_takeErr 121 = .ok (.iadd, 1) := by decide +kernel
theorem dX6_takeErr_122 : decode cX6_takeErr 122 = .ok (.bipush 9, 2) := by decide +kernel
theorem dX6_takeErr_124 : decode cX6_takeErr 124 = .ok (.isub, 1) := by decide +kernel
theorem dX6_takeErr_125 : decode cX6_takeErr 125 = .ok (.iastore, 1) := by decide +kernel
theorem dX6_takeErr_126 : decode cX6_takeErr 126 = .ok (.aload_n 0, 1) := by decide +kernel
theorem dX6_takeErr_127 : decode cX6_takeErr 127 = .ok (.getfield 65, 3) := by decide +kernel
theorem dX6_takeErr_130 : decode cX6_takeErr 130 = .ok (.aload_n 0, 1) := by decide +kernel
theorem dX6_takeErr_131 : decode cX6_takeErr 131 = .ok (.getfield 186, 3) := by decide +kernel
theorem dX6_takeErr_134 : decode cX6_takeErr 134 = .ok (.iconst 1, 1) := by decide +kernel
theorem dX6_takeErr_135 : decode cX6_takeErr 135 = .ok (.bastore, 1) := by decide +kernel
theorem dX6_takeErr_136 : decode cX6_takeErr 136 = .ok (.aload_n 0, 1) := by decide +kernel
theorem dX6_takeErr_137 : decode cX6_takeErr 137 = .ok (.dup, 1) := by decide +kernel
theorem dX6_takeErr_138 : decode cX6_takeErr 138 = .ok (.getfield 203, 3) := by decide +kernel
theorem dX6_takeErr_141 : decode cX6_takeErr 141 = .ok (.iconst 1, 1) := by decide +kernel
theorem dX6_takeErr_142 : decode cX6_takeErr 142 = .ok (.iadd, 1) := by decide +kernel
theorem dX6_takeErr_143 : decode cX6_takeErr 143 = .ok (.putfield 203, 3) := by decide +kernel
theorem dX6_takeErr_146 : decode cX6_takeErr 146 = .ok (.iconst 0, 1) := by decide +kernel
theorem dX6_takeErr_147 : decode cX6_takeErr 147 = .ok (.ireturn, 1) := by decide +kernel
theorem dX6_clauseOf_0 : decode cX6_clauseOf 0 = .ok (.aload_n 0, 1) := by decide +kernel
theorem dX6_clauseOf_1 : decode cX6_clauseOf 1 = .ok (.getfield 139, 3) := by decide +kernel
theorem dX6_clauseOf_4 : decode cX6_clauseOf 4 = .ok (.bipush 109, 2) := by decide +kernel
theorem dX6_clauseOf_6 : decode cX6_clauseOf 6 = .ok (.bipush 97, 2) := by decide +kernel
theorem dX6_clauseOf_8 : decode cX6_clauseOf 8 = .ok (.bipush 114, 2) := by decide +kernel
theorem dX6_clauseOf_10 : decode cX6_clauseOf 10 = .ok (.invokestatic 206, 3) := by decide +kernel
theorem dX6_clauseOf_13 : decode cX6_clauseOf 13 = .ok (.bipush 107, 2) := by decide +kernel
theorem dX6_clauseOf_15 : decode cX6_clauseOf 15 = .ok (.iconst 0, 1) := by decide +kernel
theorem dX6_clauseOf_16 : decode cX6_clauseOf 16 = .ok (.invokestatic 210, 3) := by decide +kernel
theorem dX6_clauseOf_19 : decode cX6_clauseOf 19 = .ok (.lcmp, 1) := by decide +kernel
theorem dX6_clauseOf_20 : decode cX6_clauseOf 20 = .ok (.ifCond .ne 7, 3) := by decide +kernel
theorem dX6_clauseOf_23 : decode cX6_clauseOf 23 = .ok (.iconst 0, 1) := by decide +kernel
theorem dX6_clauseOf_24 : decode cX6_clauseOf 24 = .ok (.goto 65, 3) := by decide +kernel
theorem dX6_clauseOf_27 : decode cX6_clauseOf 27 = .ok (.aload_n 0, 1) := by decide +kernel
theorem dX6_clauseOf_28 : decode cX6_clauseOf 28 = .ok (.getfield 139, 3) := by decide +kernel
theorem dX6_clauseOf_31 : decode cX6_clauseOf 31 = .ok (.bipush 103, 2) := by decide +kernel
theorem dX6_clauseOf_33 : decode cX6_clauseOf 33 = .ok (.bipush 111, 2) := by decide +kernel
theorem dX6_clauseOf_35 : decode cX6_clauseOf 35 = .ok (.bipush 97, 2) := by decide +kernel
theorem dX6_clauseOf_37 : decode cX6_clauseOf 37 = .ok (.invokestatic 206, 3) := by decide +kernel
theorem dX6_clauseOf_40 : decode cX6_clauseOf 40 = .ok (.bipush 108, 2) := by decide +kernel
theorem dX6_clauseOf_42 : decode cX6_clauseOf 42 = .ok (.iconst 0, 1) := by decide +kernel
theorem dX6_clauseOf_43 : decode cX6_clauseOf 43 = .ok (.invokestatic 210, 3) := by decide +kernel
theorem dX6_clauseOf_46 : decode cX6_clauseOf 46 = .ok (.lcmp, 1) := by decide +kernel
theorem dX6_clauseOf_47 : decode cX6_clauseOf 47 = .ok (.ifCond .ne 7, 3) := by decide +kernel
theorem dX6_clauseOf_50 : decode cX6_clauseOf 50 = .ok (.iconst 1, 1) := by decide +kernel
theorem dX6_clauseOf_51 : decode cX6_clauseOf 51 = .ok (.goto 38, 3) := by decide +kernel
theorem dX6_clauseOf_54 : decode cX6_clauseOf 54 = .ok (.aload_n 0, 1) := by decide +kernel
theorem dX6_clauseOf_55 : decode cX6_clauseOf 55 = .ok (.getfield 139, 3) := by decide +kernel
theorem dX6_clauseOf_58 : decode cX6_clauseOf 58 = .ok (.bipush 119, 2) := by decide +kernel
theorem dX6_clauseOf_60 : decode cX6_clauseOf 60 = .ok (.bipush 105, 2) := by decide +kernel
theorem dX6_clauseOf_62 : decode cX6_clauseOf 62 = .ok (.bipush 116, 2) := by decide +kernel
theorem dX6_clauseOf_64 : decode cX6_clauseOf 64 = .ok (.invokestatic 206, 3) := by decide +kernel
theorem dX6_clauseOf_67 : decode cX6_clauseOf 67 = .ok (.bipush 104, 2) := by decide +kernel
theorem dX6_clauseOf_69 : decode cX6_clauseOf 69 = .ok (.bipush 105, 2) := by decide +kernel
theorem dX6_clauseOf_71 : decode cX6_clauseOf 71 = .ok (.invokestatic 210, 3) := by decide +kernel
theorem dX6_clauseOf_74 : decode cX6_clauseOf 74 = .ok (.bipush 110, 2) := by decide +kernel
theorem dX6_clauseOf_76 : decode cX6_clauseOf 76 = .ok (.iconst 0, 1) := by decide +kernel
theorem dX6_clauseOf_77 : decode cX6_clauseOf 77 = .ok (.invokestatic 210, 3) := by decide +kernel
theorem dX6_clauseOf_80 : decode cX6_clauseOf 80 = .ok (.lcmp, 1) := by decide +kernel
theorem dX6_clauseOf_81 : decode cX6_clauseOf 81 = .ok (.ifCond .ne 7, 3) := by decide +kernel
theorem dX6_clauseOf_84 : decode cX6_clauseOf 84 = .ok (.iconst 2, 1) := by decide +kernel
theorem dX6_clauseOf_85 : decode cX6_clauseOf 85 = .ok (.goto 4, 3) := by decide +kernel
theorem dX6_clauseOf_88 : decode cX6_clauseOf 88 = .ok (.iconst (-1), 1) := by decide +kernel
theorem dX6_clauseOf_89 : decode cX6_clauseOf 89 = .ok (.istore_n 1, 1) := by decide +kernel
theorem dX6_clauseOf_90 : decode cX6_clauseOf 90 = .ok (.aload_n 0, 1) := by decide +kernel
theorem dX6_clauseOf_91 : decode cX6_clauseOf 91 = .ok (.getfield 139, 3) := by decide +kernel
theorem dX6_clauseOf_94 : decode cX6_clauseOf 94 = .ok (.bipush 108, 2) := by decide +kernel
theorem dX6_clauseOf_96 : decode cX6_clauseOf 96 = .ok (.bipush 105, 2) := by decide +kernel
theorem dX6_clauseOf_98 : decode cX6_clauseOf 98 = .ok (.bipush 101, 2) := by decide +kernel
theorem dX6_clauseOf_100 : decode cX6_clauseOf 100 = .ok (.invokestatic 206, 3) := by decide +kernel
theorem dX6_clauseOf_103 : decode cX6_clauseOf 103 = .ok (.lcmp, 1) := by decide +kernel
theorem dX6_clauseOf_104 : decode cX6_clauseOf 104 = .ok (.ifCond .ne 7, 3) := by decide +kernel
theorem dX6_clauseOf_107 : decode cX6_clauseOf 107 = .ok (.iconst 3, 1) := by decide +kernel
theorem dX6_clauseOf_108 : decode cX6_clauseOf 108 = .ok (.goto 82, 3) := by decide +kernel
theorem dX6_clauseOf_111 : decode cX6_clauseOf 111 = .ok (.aload_n 0, 1) := by decide +kernel
theorem dX6_clauseOf_112 : decode cX6_clauseOf 112 = .ok (.getfield 139, 3) := by decide +kernel
theorem dX6_clauseOf_115 : decode cX6_clauseOf 115 = .ok (.bipush 101, 2) := by decide +kernel
theorem dX6_clauseOf_117 : decode cX6_clauseOf 117 = .ok (.bipush 114, 2) := by decide +kernel
theorem dX6_clauseOf_119 : decode cX6_clauseOf 119 = .ok (.bipush 114, 2) := by decide +kernel
theorem dX6_clauseOf_121 : decode cX6_clauseOf 121 = .ok (.invokestatic 206, 3) := by decide +kernel
theorem dX6_clauseOf_124 : decode cX6_clauseOf 124 = .ok (.lcmp, 1) := by decide +kernel
theorem dX6_clauseOf_125 : decode cX6_clauseOf 125 = .ok (.ifCond .ne 7, 3) := by decide +kernel
theorem dX6_clauseOf_128 : decode cX6_clauseOf 128 = .ok (.iconst 4, 1) := by decide +kernel
theorem dX6_clauseOf_129 : decode cX6_clauseOf 129 = .ok (.goto 61, 3) := by decide +kernel
theorem dX6_clauseOf_132 : decode cX6_clauseOf 132 = .ok (.aload_n 0, 1) := by decide +kernel
theorem dX6_clauseOf_133 : decode cX6_clauseOf 133 = .ok (.getfield 139, 3) := by decide +kernel
theorem dX6_clauseOf_136 : decode cX6_clauseOf 136 = .ok (.bipush 115, 2) := by decide +kernel
theorem dX6_clauseOf_138 : decode cX6_clauseOf 138 = .ok (.bipush 112, 2) := by decide +kernel
theorem dX6_clauseOf_140 : decode cX6_clauseOf 140 = .ok (.bipush 97, 2) := by decide +kernel
theorem dX6_clauseOf_142 : decode cX6_clauseOf 142 = .ok (.invokestatic 206, 3) := by decide +kernel
theorem dX6_clauseOf_145 : decode cX6_clauseOf 145 = .ok (.bipush 100, 2) := by decide +kernel
theorem dX6_clauseOf_147 : decode cX6_clauseOf 147 = .ok (.bipush 101, 2) := by decide +kernel
theorem dX6_clauseOf_149 : decode cX6_clauseOf 149 = .ok (.invokestatic 210, 3) := by decide +kernel
theorem dX6_clauseOf_152 : decode cX6_clauseOf 152 = .ok (.lcmp, 1) := by decide +kernel
theorem dX6_clauseOf_153 : decode cX6_clauseOf 153 = .ok (.ifCond .ne 7, 3) := by decide +kernel
theorem dX6_clauseOf_156 : decode cX6_clauseOf 156 = .ok (.iconst 5, 1) := by decide +kernel
theorem dX6_clauseOf_157 : decode cX6_clauseOf 157 = .ok (.goto 33, 3) := by decide +kernel
theorem dX6_clauseOf_160 : decode cX6_clauseOf 160 = .ok (.aload_n 0, 1) := by decide +kernel
theorem dX6_clauseOf_161 : decode cX6_clauseOf 161 = .ok (.getfield 139, 3) := by decide +kernel
theorem dX6_clauseOf_164 : decode cX6_clauseOf 164 = .ok (.bipush 112, 2) := by decide +kernel
theorem dX6_clauseOf_166 : decode cX6_clauseOf 166 = .ok (.bipush 114, 2) := by decide +kernel
theorem dX6_clauseOf_168 : decode cX6_clauseOf 168 = .ok (.bipush 105, 2) := by decide +kernel
theorem dX6_clauseOf_170 : decode cX6_clauseOf 170 = .ok (.invokestatic 206, 3) := by decide +kernel
theorem dX6_clauseOf_173 : decode cX6_clauseOf 173 = .ok (.bipush 122, 2) := by decide +kernel
theorem dX6_clauseOf_175 : decode cX6_clauseOf 175 = .ok (.bipush 101, 2) := by decide +kernel
theorem dX6_clauseOf_177 : decode cX6_clauseOf 177 = .ok (.invokestatic 210, 3) := by decide +kernel
theorem dX6_clauseOf_180 : decode cX6_clauseOf 180 = .ok (.lcmp, 1) := by decide +kernel
theorem dX6_clauseOf_181 : decode cX6_clauseOf 181 = .ok (.ifCond .ne 8, 3) := by decide +kernel
theorem dX6_clauseOf_184 : decode cX6_clauseOf 184 = .ok (.bipush 6, 2) := by decide +kernel
theorem dX6_clauseOf_186 : decode cX6_clauseOf 186 = .ok (.goto 4, 3) := by decide +kernel
theorem dX6_clauseOf_189 : decode cX6_clauseOf 189 = .ok (.iconst (-1), 1) := by decide +kernel
theorem dX6_clauseOf_190 : decode cX6_clauseOf 190 = .ok (.istore_n 2, 1) := by decide +kernel
theorem dX6_clauseOf_191 : decode cX6_clauseOf 191 = .ok (.iload_n 1, 1) := by decide +kernel
theorem dX6_clauseOf_192 : decode cX6_clauseOf 192 = .ok (.ifCond .lt 7, 3) := by decide +kernel
theorem dX6_clauseOf_195 : decode cX6_clauseOf 195 = .ok (.iload_n 1, 1) := by decide +kernel
theorem dX6_clauseOf_196 : decode cX6_clauseOf 196 = .ok (.goto 4, 3) := by decide +kernel
theorem dX6_clauseOf_199 : decode cX6_clauseOf 199 = .ok (.iload_n 2, 1) := by decide +kernel
theorem dX6_clauseOf_200 : decode cX6_clauseOf 200 = .ok (.ireturn, 1) := by decide +kernel
theorem dX6_takeOf_0 : decode cX6_takeOf 0 = .ok (.iconst 0, 1) := by decide +kernel
theorem dX6_takeOf_1 : decode cX6_takeOf 1 = .ok (.istore_n 2, 1) := by decide +kernel
theorem dX6_takeOf_2 : decode cX6_takeOf 2 = .ok (.iload_n 1, 1) := by decide +kernel
theorem dX6_takeOf_3 : decode cX6_takeOf 3 = .ok (.tableswitch 94 0 5 #[37, 42, 47, 65, 70, 75], 37) := by decide +kernel
theorem dX6_takeOf_40 : decode cX6_takeOf 40 = .ok (.aload_n 0, 1) := by decide +kernel
theorem dX6_takeOf_41 : decode cX6_takeOf 41 = .ok (.invokevirtual 214, 3) := by decide +kernel
theorem dX6_takeOf_44 : decode cX6_takeOf 44 = .ok (.ireturn, 1) := by decide +kernel
theorem dX6_takeOf_45 : decode cX6_takeOf 45 = .ok (.aload_n 0, 1) := by decide +kernel
theorem dX6_takeOf_46 : decode cX6_takeOf 46 = .ok (.invokevirtual 217, 3) := by decide +kernel
theorem dX6_takeOf_49 : decode cX6_takeOf 49 = .ok (.ireturn, 1) := by decide +kernel
theorem dX6_takeOf_50 : decode cX6_takeOf 50 = .ok (.aload_n 0, 1) := by decide +kernel
theorem dX6_takeOf_51 : decode cX6_takeOf 51 = .ok (.iconst 0, 1) := by decide +kernel
theorem dX6_takeOf_52 : decode cX6_takeOf 52 = .ok (.bipush 9, 2) := by decide +kernel
theorem dX6_takeOf_54 : decode cX6_takeOf 54 = .ok (.invokevirtual 173, 3) := by decide +kernel
theorem dX6_takeOf_57 : decode cX6_takeOf 57 = .ok (.istore_n 2, 1) := by decide +kernel
theorem dX6_takeOf_58 : decode cX6_takeOf 58 = .ok (.aload_n 0, 1) := by decide +kernel
theorem dX6_takeOf_59 : decode cX6_takeOf 59 = .ok (.aload_n 0, 1) := by decide +kernel
theorem dX6_takeOf_60 : decode cX6_takeOf 60 = .ok (.getfield 169, 3) := by decide +kernel
theorem dX6_takeOf_63 : decode cX6_takeOf 63 = .ok (.putfield 197, 3) := by decide +kernel
theorem dX6_takeOf_66 : decode cX6_takeOf 66 = .ok (.iload_n 2, 1) := by decide +kernel
theorem dX6_takeOf_67 : decode cX6_takeOf 67 = .ok (.ireturn, 1) := by decide +kernel
theorem dX6_takeOf_68 : decode cX6_takeOf 68 = .ok (.aload_n 0, 1) := by decide +kernel
theorem dX6_takeOf_69 : decode cX6_takeOf 69 = .ok (.invokevirtual 220, 3) := by decide +kernel
theorem dX6_takeOf_72 : decode cX6_takeOf 72 = .ok (.ireturn, 1) := by decide +kernel
theorem dX6_takeOf_73 : decode cX6_takeOf 73 = .ok (.aload_n 0, 1) := by decide +kernel
theorem dX6_takeOf_74 : decode cX6_takeOf 74 = .ok (.invokevirtual 223, 3) := by decide +kernel
theorem dX6_takeOf_77 : decode cX6_takeOf 77 = .ok (.ireturn, 1) := by decide +kernel
theorem dX6_takeOf_78 : decode cX6_takeOf 78 = .ok (.aload_n 0, 1) := by decide +kernel
theorem dX6_takeOf_79 : decode cX6_takeOf 79 = .ok (.iconst 0, 1) := by decide +kernel
theorem dX6_takeOf_80 : decode cX6_takeOf 80 = .ok (.sipush 999, 3) := by decide +kernel
theorem dX6_takeOf_83 : decode cX6_takeOf 83 = .ok (.invokevirtual 173, 3) := by decide +kernel
theorem dX6_takeOf_86 : decode cX6_takeOf 86 = .ok (.istore_n 2, 1) := by decide +kernel
theorem dX6_takeOf_87 : decode cX6_takeOf 87 = .ok (.aload_n 0, 1) := by decide +kernel
theorem dX6_takeOf_88 : decode cX6_takeOf 88 = .ok (.aload_n 0, 1) := by decide +kernel
theorem dX6_takeOf_89 : decode cX6_takeOf 89 = .ok (.getfield 169, 3) := by decide +kernel
theorem dX6_takeOf_92 : decode cX6_takeOf 92 = .ok (.putfield 226, 3) := by decide +kernel
theorem dX6_takeOf_95 : decode cX6_takeOf 95 = .ok (.iload_n 2, 1) := by decide +kernel
theorem dX6_takeOf_96 : decode cX6_takeOf 96 = .ok (.ireturn, 1) := by decide +kernel
theorem dX6_takeOf_97 : decode cX6_takeOf 97 = .ok (.aload_n 0, 1) := by decide +kernel
theorem dX6_takeOf_98 : decode cX6_takeOf 98 = .ok (.iconst 0, 1) := by decide +kernel
theorem dX6_takeOf_99 : decode cX6_takeOf 99 = .ok (.sipush 9999, 3) := by decide +kernel
theorem dX6_takeOf_102 : decode cX6_takeOf 102 = .ok (.invokevirtual 173, 3) := by decide +kernel
theorem dX6_takeOf_105 : decode cX6_takeOf 105 = .ok (.istore_n 2, 1) := by decide +kernel
theorem dX6_takeOf_106 : decode cX6_takeOf 106 = .ok (.aload_n 0, 1) := by decide +kernel
theorem dX6_takeOf_107 : decode cX6_takeOf 107 = .ok (.aload_n 0, 1) := by decide +kernel
theorem dX6_takeOf_108 : decode cX6_takeOf 108 = .ok (.getfield 169, 3) := by decide +kernel
theorem dX6_takeOf_111 : decode cX6_takeOf 111 = .ok (.putfield 229, 3) := by decide +kernel
theorem dX6_takeOf_114 : decode cX6_takeOf 114 = .ok (.iload_n 2, 1) := by decide +kernel
theorem dX6_takeOf_115 : decode cX6_takeOf 115 = .ok (.ireturn, 1) := by decide +kernel
theorem dX6_takeClause_0 : decode cX6_takeClause 0 = .ok (.aload_n 0, 1) := by decide +kernel
theorem dX6_takeClause_1 : decode cX6_takeClause 1 = .ok (.invokevirtual 232, 3) := by decide +kernel
theorem dX6_takeClause_4 : decode cX6_takeClause 4 = .ok (.aload_n 0, 1) := by decide +kernel
theorem dX6_takeClause_5 : decode cX6_takeClause 5 = .ok (.invokevirtual 235, 3) := by decide +kernel
theorem dX6_takeClause_8 : decode cX6_takeClause 8 = .ok (.istore_n 1, 1) := by decide +kernel
theorem dX6_takeClause_9 : decode cX6_takeClause 9 = .ok (.iload_n 1, 1) := by decide +kernel
theorem dX6_takeClause_10 : decode cX6_takeClause 10 = .ok (.ifCond .ne 13, 3) := by decide +kernel
theorem dX6_takeClause_13 : decode cX6_takeClause 13 = .ok (.aload_n 0, 1) := by decide +kernel
theorem dX6_takeClause_14 : decode cX6_takeClause 14 = .ok (.getfield 238, 3) := by decide +kernel
theorem dX6_takeClause_17 : decode cX6_takeClause 17 = .ok (.bipush 26, 2) := by decide +kernel
theorem dX6_takeClause_19 : decode cX6_takeClause 19 = .ok (.iand, 1) := by decide +kernel
theorem dX6_takeClause_20 : decode cX6_takeClause 20 = .ok (.ifCond .ne 18, 3) := by decide +kernel
theorem dX6_takeClause_23 : decode cX6_takeClause 23 = .ok (.iload_n 1, 1) := by decide +kernel
theorem dX6_takeClause_24 : decode cX6_takeClause 24 = .ok (.iconst 2, 1) := by decide +kernel
theorem dX6_takeClause_25 : decode cX6_takeClause 25 = .ok (.if_icmp .ne 17, 3) := by decide +kernel
theorem dX6_takeClause_28 : decode cX6_takeClause 28 = .ok (.aload_n 0, 1) := by decide +kernel
theorem dX6_takeClause_29 : decode cX6_takeClause 29 = .ok (.getfield 238, 3) := by decide +kernel
theorem dX6_takeClause_32 : decode cX6_takeClause 32 = .ok (.bipush 24, 2) := by decide +kernel
theorem dX6_takeClause_34 : decode cX6_takeClause 34 = .ok (.iand, 1) := by decide +kernel
theorem dX6_takeClause_35 : decode cX6_takeClause 35 = .ok (.ifCond .eq 7, 3) := by decide +kernel
theorem dX6_takeClause_38 : decode cX6_takeClause 38 = .ok (.iconst 1, 1) := by decide +kernel
theorem dX6_takeClause_39 : decode cX6_takeClause 39 = .ok (.goto 4, 3) := by decide +kernel
theorem dX6_takeClause_42 : decode cX6_takeClause 42 = .ok (.iconst 0, 1) := by decide +kernel
theorem dX6_takeClause_43 : decode cX6_takeClause 43 = .ok (.istore_n 2, 1) := by decide +kernel
theorem dX6_takeClause_44 : decode cX6_takeClause 44 = .ok (.iload_n 1, 1) := by decide +kernel
theorem dX6_takeClause_45 : decode cX6_takeClause 45 = .ok (.ifCond .lt 7, 3) := by decide +kernel
theorem dX6_takeClause_48 : decode cX6_takeClause 48 = .ok (.iload_n 2, 1) := by decide +kernel
theorem dX6_takeClause_49 : decode cX6_takeClause 49 = .ok (.ifCond .eq 13, 3) := by decide +kernel
theorem dX6_takeClause_52 : decode cX6_takeClause 52 = .ok (.aload_n 0, 1) := by decide +kernel
theorem dX6_takeClause_53 : decode cX6_takeClause 53 = .ok (.iconst 1, 1) := by decide +kernel
theorem dX6_takeClause_54 : decode cX6_takeClause 54 = .ok (.aload_n 0, 1) := by decide +kernel
theorem dX6_takeClause_55 : decode cX6_takeClause 55 = .ok (.getfield 132, 3) := by decide +kernel
theorem dX6_takeClause_58 : decode cX6_takeClause 58 = .ok (.invokevirtual 162, 3) := by decide +kernel
theorem dX6_takeClause_61 : decode cX6_takeClause 61 = .ok (.ireturn, 1) := by decide +kernel
theorem dX6_takeClause_62 : decode cX6_takeClause 62 = .ok (.iload_n 1, 1) := by decide +kernel
theorem dX6_takeClause_63 : decode cX6_takeClause 63 = .ok (.ifCond .ne 20, 3) := by decide +kernel
theorem dX6_takeClause_66 : decode cX6_takeClause 66 = .ok (.aload_n 0, 1) := by decide +kernel
theorem dX6_takeClause_67 : decode cX6_takeClause 67 = .ok (.getfield 176, 3) := by decide +kernel
theorem dX6_takeClause_70 : decode cX6_takeClause 70 = .ok (.bipush 9, 2) := by decide +kernel
theorem dX6_takeClause_72 : decode cX6_takeClause 72 = .ok (.if_icmp .ne 7, 3) := by decide +kernel
theorem dX6_takeClause_75 : decode cX6_takeClause 75 = .ok (.iconst 1, 1) := by decide +kernel
theorem dX6_takeClause_76 : decode cX6_takeClause 76 = .ok (.goto 58, 3) := by decide +kernel
theorem dX6_takeClause_79 : decode cX6_takeClause 79 = .ok (.iconst 0, 1) := by decide +kernel
theorem dX6_takeClause_80 : decode cX6_takeClause 80 = .ok (.goto 54, 3) := by decide +kernel
theorem dX6_takeClause_83 : decode cX6_takeClause 83 = .ok (.iload_n 1, 1) := by decide +kernel
theorem dX6_takeClause_84 : decode cX6_takeClause 84 = .ok (.iconst 3, 1) := by decide +kernel
theorem dX6_takeClause_85 : decode cX6_takeClause 85 = .ok (.if_icmp .ne 19, 3) := by decide +kernel
theorem dX6_takeClause_88 : decode cX6_takeClause 88 = .ok (.aload_n 0, 1) := by decide +kernel
theorem dX6_takeClause_89 : decode cX6_takeClause 89 = .ok (.getfield 200, 3) := by decide +kernel
theorem dX6_takeClause_92 : decode cX6_takeClause 92 = .ok (.iconst 2, 1) := by decide +kernel
theorem dX6_takeClause_93 : decode cX6_takeClause 93 = .ok (.if_icmp .ne 7, 3) := by decide +kernel
theorem dX6_takeClause_96 : decode cX6_takeClause 96 = .ok (.iconst 1, 1) := by decide +kernel
theorem dX6_takeClause_97 : decode cX6_takeClause 97 = .ok (.goto 37, 3) := by decide +kernel
theorem dX6_takeClause_100 : decode cX6_takeClause 100 = .ok (.iconst 0, 1) := by decide +kernel
theorem dX6_takeClause_101 : decode cX6_takeClause 101 = .ok (.goto 33, 3) := by decide +kernel
theorem dX6_takeClause_104 : decode cX6_takeClause 104 = .ok (.iload_n 1, 1) := by decide +kernel
theorem dX6_takeClause_105 : decode cX6_takeClause 105 = .ok (.iconst 4, 1) := by decide +kernel
theorem dX6_takeClause_106 : decode cX6_takeClause 106 = .ok (.if_icmp .ne 20, 3) := by decide +kernel
theorem dX6_takeClause_109 : decode cX6_takeClause 109 = .ok (.aload_n 0, 1) := by decide +kernel
theorem dX6_takeClause_110 : decode cX6_takeClause 110 = .ok (.getfield 203, 3) := by decide +kernel
theorem dX6_takeClause_113 : decode cX6_takeClause 113 = .ok (.bipush 30, 2) := by decide +kernel
theorem dX6_takeClause_115 : decode cX6_takeClause 115 = .ok (.if_icmp .ne 7, 3) := by decide +kernel
theorem dX6_takeClause_118 : decode cX6_takeClause 118 = .ok (.iconst 1, 1) := by decide +kernel
theorem dX6_takeClause_119 : decode cX6_takeClause 119 = .ok (.goto 15, 3) := by decide +kernel
theorem dX6_takeClause_122 : decode cX6_takeClause 122 = .ok (.iconst 0, 1) := by decide +kernel
theorem dX6_takeClause_123 : decode cX6_takeClause 123 = .ok (.goto 11, 3) := by decide +kernel
theorem dX6_takeClause_126 : decode cX6_takeClause 126 = .ok (.aload_n 0, 1) := by decide +kernel
theorem dX6_takeClause_127 : decode cX6_takeClause 127 = .ok (.getfield 238, 3) := by decide +kernel
theorem dX6_takeClause_130 : decode cX6_takeClause 130 = .ok (.iload_n 1, 1) := by decide +kernel
theorem dX6_takeClause_131 : decode cX6_takeClause 131 = .ok (.invokestatic 182, 3) := by decide +kernel
theorem dX6_takeClause_134 : decode cX6_takeClause 134 = .ok (.istore_n 3, 1) := by decide +kernel
theorem dX6_takeClause_135 : decode cX6_takeClause 135 = .ok (.iload_n 3, 1) := by decide +kernel
theorem dX6_takeClause_136 : decode cX6_takeClause 136 = .ok (.ifCond .eq 13, 3) := by decide +kernel
theorem dX6_takeClause_139 : decode cX6_takeClause 139 = .ok (.aload_n 0, 1) := by decide +kernel
theorem dX6_takeClause_140 : decode cX6_takeClause 140 = .ok (.iconst 3, 1) := by decide +kernel
theorem dX6_takeClause_141 : decode cX6_takeClause 141 = .ok (.aload_n 0, 1) := by decide +kernel
theorem dX6_takeClause_142 : decode cX6_takeClause 142 = .ok (.getfield 132, 3) := by decide +kernel
theorem dX6_takeClause_145 : decode cX6_takeClause 145 = .ok (.invokevirtual 162, 3) := by decide +kernel
theorem dX6_takeClause_148 : decode cX6_takeClause 148 = .ok (.ireturn, 1) := by decide +kernel
theorem dX6_takeClause_149 : decode cX6_takeClause 149 = .ok (.aload_n 0, 1) := by decide +kernel
theorem dX6_takeClause_150 : decode cX6_takeClause 150 = .ok (.aload_n 0, 1) := by decide +kernel
theorem dX6_takeClause_151 : decode cX6_takeClause 151 = .ok (.getfield 143, 3) := by decide +kernel
theorem dX6_takeClause_154 : decode cX6_takeClause 154 = .ok (.putfield 132, 3) := by decide +kernel
theorem dX6_takeClause_157 : decode cX6_takeClause 157 = .ok (.aload_n 0, 1) := by decide +kernel
theorem dX6_takeClause_158 : decode cX6_takeClause 158 = .ok (.dup, 1) := by decide +kernel
theorem dX6_takeClause_159 : decode cX6_takeClause 159 = .ok (.getfield 238, 3) := by decide +kernel
theorem dX6_takeClause_162 : decode cX6_takeClause 162 = .ok (.iconst 1, 1) := by decide +kernel
theorem dX6_takeClause_163 : decode cX6_takeClause 163 = .ok (.iload_n 1, 1) := by decide +kernel
theorem dX6_takeClause_164 : decode cX6_takeClause 164 = .ok (.ishl, 1) := by decide +kernel
theorem dX6_takeClause_165 : decode cX6_takeClause 165 = .ok (.ior, 1) := by decide +kernel
theorem dX6_takeClause_166 : decode cX6_takeClause 166 = .ok (.putfield 238, 3) := by decide +kernel
theorem dX6_takeClause_169 : decode cX6_takeClause 169 = .ok (.aload_n 0, 1) := by decide +kernel
theorem dX6_takeClause_170 : decode cX6_takeClause 170 = .ok (.iload_n 1, 1) := by decide +kernel
theorem dX6_takeClause_171 : decode cX6_takeClause 171 = .ok (.invokevirtual 241, 3) := by decide +kernel
theorem dX6_takeClause_174 : decode cX6_takeClause 174 = .ok (.istore 4, 2) := by decide +kernel
theorem dX6_takeClause_176 : decode cX6_takeClause 176 = .ok (.iload 4, 2) := by decide +kernel
theorem dX6_takeClause_178 : decode cX6_takeClause 178 = .ok (.ifCond .ne 22, 3) := by decide +kernel
theorem dX6_takeClause_181 : decode cX6_takeClause 181 = .ok (.aload_n 0, 1) := by decide +kernel
theorem dX6_takeClause_182 : decode cX6_takeClause 182 = .ok (.invokevirtual 135, 3) := by decide +kernel
theorem dX6_takeClause_185 : decode cX6_takeClause 185 = .ok (.bipush 59, 2) := by decide +kernel
theorem dX6_takeClause_187 : decode cX6_takeClause 187 = .ok (.if_icmp .eq 13, 3) := by decide +kernel
theorem dX6_takeClause_190 : decode cX6_takeClause 190 = .ok (.aload_n 0, 1) := by decide +kernel
theorem dX6_takeClause_191 : decode cX6_takeClause 191 = .ok (.iconst 1, 1) := by decide +kernel
theorem dX6_takeClause_192 : decode cX6_takeClause 192 = .ok (.aload_n 0, 1) := by decide +kernel
theorem dX6_takeClause_193 : decode cX6_takeClause 193 = .ok (.getfield 132, 3) := by decide +kernel
theorem dX6_takeClause_196 : decode cX6_takeClause 196 = .ok (.invokevirtual 162, 3) := by decide +kernel
theorem dX6_takeClause_199 : decode cX6_takeClause 199 = .ok (.ireturn, 1) := by decide +kernel
theorem dX6_takeClause_200 : decode cX6_takeClause 200 = .ok (.aload_n 0, 1) := by decide +kernel
theorem dX6_takeClause_201 : decode cX6_takeClause 201 = .ok (.dup, 1) := by decide +kernel
theorem dX6_takeClause_202 : decode cX6_takeClause 202 = .ok (.getfield 132, 3) := by decide +kernel
theorem dX6_takeClause_205 : decode cX6_takeClause 205 = .ok (.iconst 1, 1) := by decide +kernel
theorem dX6_takeClause_206 : decode cX6_takeClause 206 = .ok (.iadd, 1) := by decide +kernel
theorem dX6_takeClause_207 : decode cX6_takeClause 207 = .ok (.putfield 132, 3) := by decide +kernel
theorem dX6_takeClause_210 : decode cX6_takeClause 210 = .ok (.iload 4, 2) := by decide +kernel
theorem dX6_takeClause_212 : decode cX6_takeClause 212 = .ok (.ireturn, 1) := by decide +kernel
theorem dX6_island_0 : decode cX6_island 0 = .ok (.aload_n 0, 1) := by decide +kernel
theorem dX6_island_1 : decode cX6_island 1 = .ok (.iconst (-1), 1) := by decide +kernel
theorem dX6_island_2 : decode cX6_island 2 = .ok (.putfield 50, 3) := by decide +kernel
theorem dX6_island_5 : decode cX6_island 5 = .ok (.aload_n 0, 1) := by decide +kernel
theorem dX6_island_6 : decode cX6_island 6 = .ok (.iconst 0, 1) := by decide +kernel
theorem dX6_island_7 : decode cX6_island 7 = .ok (.putfield 132, 3) := by decide +kernel
theorem dX6_island_10 : decode cX6_island 10 = .ok (.aload_n 0, 1) := by decide +kernel
theorem dX6_island_11 : decode cX6_island 11 = .ok (.iconst 0, 1) := by decide +kernel
theorem dX6_island_12 : decode cX6_island 12 = .ok (.putfield 176, 3) := by decide +kernel
theorem dX6_island_15 : decode cX6_island 15 = .ok (.aload_n 0, 1) := by decide +kernel
theorem dX6_island_16 : decode cX6_island 16 = .ok (.iconst 0, 1) := by decide +kernel
theorem dX6_island_17 : decode cX6_island 17 = .ok (.putfield 200, 3) := by decide +kernel
theorem dX6_island_20 : decode cX6_island 20 = .ok (.aload_n 0, 1) := by decide +kernel
theorem dX6_island_21 : decode cX6_island 21 = .ok (.iconst 0, 1) := by decide +kernel
theorem dX6_island_22 : decode cX6_island 22 = .ok (.putfield 179, 3) := by decide +kernel
theorem dX6_island_25 : decode cX6_island 25 = .ok (.aload_n 0, 1) := by decide +kernel
theorem dX6_island_26 : decode cX6_island 26 = .ok (.iconst 0, 1) := by decide +kernel
theorem dX6_island_27 : decode cX6_island 27 = .ok (.putfield 203, 3) := by decide +kernel
theorem dX6_island_30 : decode cX6_island 30 = .ok (.aload_n 0, 1) := by decide +kernel
theorem dX6_island_31 : decode cX6_island 31 = .ok (.iconst 0, 1) := by decide +kernel
theorem dX6_island_32 : decode cX6_island 32 = .ok (.putfield 197, 3) := by decide +kernel
theorem dX6_island_35 : decode cX6_island 35 = .ok (.aload_n 0, 1) := by decide +kernel
theorem dX6_island_36 : decode cX6_island 36 = .ok (.bipush 10, 2) := by decide +kernel
theorem dX6_island_38 : decode cX6_island 38 = .ok (.putfield 226, 3) := by decide +kernel
theorem dX6_island_41 : decode cX6_island 41 = .ok (.aload_n 0, 1) := by decide +kernel
theorem dX6_island_42 : decode cX6_island 42 = .ok (.bipush 100, 2) := by decide +kernel
theorem dX6_island_44 : decode cX6_island 44 = .ok (.putfield 229, 3) := by decide +kernel
theorem dX6_island_47 : decode cX6_island 47 = .ok (.aload_n 0, 1) := by decide +kernel
theorem dX6_island_48 : decode cX6_island 48 = .ok (.iconst 0, 1) := by decide +kernel
theorem dX6_island_49 : decode cX6_island 49 = .ok (.putfield 238, 3) := by decide +kernel
theorem dX6_island_52 : decode cX6_island 52 = .ok (.iconst 0, 1) := by decide +kernel
theorem dX6_island_53 : decode cX6_island 53 = .ok (.istore_n 1, 1) := by decide +kernel
theorem dX6_island_54 : decode cX6_island 54 = .ok (.iload_n 1, 1) := by decide +kernel
theorem dX6_island_55 : decode cX6_island 55 = .ok (.iconst 3, 1) := by decide +kernel
theorem dX6_island_56 : decode cX6_island 56 = .ok (.if_icmp .ge 16, 3) := by decide +kernel
theorem dX6_island_59 : decode cX6_island 59 = .ok (.aload_n 0, 1) := by decide +kernel
theorem dX6_island_60 : decode cX6_island 60 = .ok (.getfield 69, 3) := by decide +kernel
theorem dX6_island_63 : decode cX6_island 63 = .ok (.iload_n 1, 1) := by decide +kernel
theorem dX6_island_64 : decode cX6_island 64 = .ok (.iconst 0, 1) := by decide +kernel
theorem dX6_island_65 : decode cX6_island 65 = .ok (.iastore, 1) := by decide +kernel
theorem dX6_island_66 : decode cX6_island 66 = .ok (.iinc 1 1, 3) := by decide +kernel
theorem dX6_island_69 : decode cX6_island 69 = .ok (.goto (-15), 3) := by decide +kernel
theorem dX6_island_72 : decode cX6_island 72 = .ok (.iconst 0, 1) := by decide +kernel
theorem dX6_island_73 : decode cX6_island 73 = .ok (.istore_n 1, 1) := by decide +kernel
theorem dX6_island_74 : decode cX6_island 74 = .ok (.iload_n 1, 1) := by decide +kernel
theorem dX6_island_75 : decode cX6_island 75 = .ok (.ifCond .ne 18, 3) := by decide +kernel
theorem dX6_island_78 : decode cX6_island 78 = .ok (.aload_n 0, 1) := by decide +kernel
theorem dX6_island_79 : decode cX6_island 79 = .ok (.invokevirtual 135, 3) := by decide +kernel
theorem dX6_island_82 : decode cX6_island 82 = .ok (.ifCond .lt 11, 3) := by decide +kernel
theorem dX6_island_85 : decode cX6_island 85 = .ok (.aload_n 0, 1) := by decide +kernel
theorem dX6_island_86 : decode cX6_island 86 = .ok (.invokevirtual 244, 3) := by decide +kernel
theorem dX6_island_89 : decode cX6_island 89 = .ok (.istore_n 1, 1) := by decide +kernel
theorem dX6_island_90 : decode cX6_island 90 = .ok (.goto (-16), 3) := by decide +kernel
theorem dX6_island_93 : decode cX6_island 93 = .ok (.aload_n 0, 1) := by decide +kernel
theorem dX6_island_94 : decode cX6_island 94 = .ok (.iconst 0, 1) := by decide +kernel
theorem dX6_island_95 : decode cX6_island 95 = .ok (.putfield 126, 3) := by decide +kernel
theorem dX6_island_98 : decode cX6_island 98 = .ok (.iload_n 1, 1) := by decide +kernel
theorem dX6_island_99 : decode cX6_island 99 = .ok (.ifCond .le 8, 3) := by decide +kernel
theorem dX6_island_102 : decode cX6_island 102 = .ok (.bipush (-10), 2) := by decide +kernel
theorem dX6_island_104 : decode cX6_island 104 = .ok (.iload_n 1, 1) := by decide +kernel
theorem dX6_island_105 : decode cX6_island 105 = .ok (.isub, 1) := by decide +kernel
theorem dX6_island_106 : decode cX6_island 106 = .ok (.ireturn, 1) := by decide +kernel
theorem dX6_island_107 : decode cX6_island 107 = .ok (.aload_n 0, 1) := by decide +kernel
theorem dX6_island_108 : decode cX6_island 108 = .ok (.invokevirtual 247, 3) := by decide +kernel
theorem dX6_island_111 : decode cX6_island 111 = .ok (.aload_n 0, 1) := by decide +kernel
theorem dX6_island_112 : decode cX6_island 112 = .ok (.getfield 111, 3) := by decide +kernel
theorem dX6_island_115 : decode cX6_island 115 = .ok (.ireturn, 1) := by decide +kernel
theorem dX6_takeIsland_0 : decode cX6_takeIsland 0 = .ok (.aload_n 0, 1) := by decide +kernel
theorem dX6_takeIsland_1 : decode cX6_takeIsland 1 = .ok (.aload_n 0, 1) := by decide +kernel
theorem dX6_takeIsland_2 : decode cX6_takeIsland 2 = .ok (.getfield 176, 3) := by decide +kernel
theorem dX6_takeIsland_5 : decode cX6_takeIsland 5 = .ok (.putfield 111, 3) := by decide +kernel
theorem dX6_takeIsland_8 : decode cX6_takeIsland 8 = .ok (.iconst 0, 1) := by decide +kernel
theorem dX6_takeIsland_9 : decode cX6_takeIsland 9 = .ok (.istore_n 1, 1) := by decide +kernel
theorem dX6_takeIsland_10 : decode cX6_takeIsland 10 = .ok (.iload_n 1, 1) := by decide +kernel
theorem dX6_takeIsland_11 : decode cX6_takeIsland 11 = .ok (.aload_n 0, 1) := by decide +kernel
theorem dX6_takeIsland_12 : decode cX6_takeIsland 12 = .ok (.getfield 111, 3) := by decide +kernel
theorem dX6_takeIsland_15 : decode cX6_takeIsland 15 = .ok (.if_icmp .ge 137, 3) := by decide +kernel
theorem dX6_takeIsland_18 : decode cX6_takeIsland 18 = .ok (.aload_n 0, 1) := by decide +kernel
theorem dX6_takeIsland_19 : decode cX6_takeIsland 19 = .ok (.getfield 7, 3) := by decide +kernel
theorem dX6_takeIsland_22 : decode cX6_takeIsland 22 = .ok (.iload_n 1, 1) := by decide +kernel
theorem dX6_takeIsland_23 : decode cX6_takeIsland 23 = .ok (.aload_n 0, 1) := by decide +kernel
theorem dX6_takeIsland_24 : decode cX6_takeIsland 24 = .ok (.getfield 53, 3) := by decide +kernel
theorem dX6_takeIsland_27 : decode cX6_takeIsland 27 = .ok (.iload_n 1, 1) := by decide +kernel
theorem dX6_takeIsland_28 : decode cX6_takeIsland 28 = .ok (.iaload, 1) := by decide +kernel
theorem dX6_takeIsland_29 : decode cX6_takeIsland 29 = .ok (.iastore, 1) := by decide +kernel
theorem dX6_takeIsland_30 : decode cX6_takeIsland 30 = .ok (.aload_n 0, 1) := by decide +kernel
theorem dX6_takeIsland_31 : decode cX6_takeIsland 31 = .ok (.getfield 13, 3) := by decide +kernel
theorem dX6_takeIsland_34 : decode cX6_takeIsland 34 = .ok (.iload_n 1, 1) := by decide +kernel
theorem dX6_takeIsland_35 : decode cX6_takeIsland 35 = .ok (.aload_n 0, 1) := by decide +kernel
theorem dX6_takeIsland_36 : decode cX6_takeIsland 36 = .ok (.getfield 56, 3) := by decide +kernel
theorem dX6_takeIsland_39 : decode cX6_takeIsland 39 = .ok (.iload_n 1, 1) := by decide +kernel
end
section
theorem dX6_takeIsland_40 : decode cX6_takeIsland 40 = .ok (.iaload, 1) := by decide +kernel
theorem dX6_takeIsland_41 : decode cX6_takeIsland 41 = .ok (.iastore, 1) := by decide +kernel
theorem dX6_takeIsland_42 : decode cX6_takeIsland 42 = .ok (.iconst 0, 1) := by decide +kernel
theorem dX6_takeIsland_43 : decode cX6_takeIsland 43 = .ok (.istore_n 2, 1) := by decide +kernel
theorem dX6_takeIsland_44 : decode cX6_takeIsland 44 = .ok (.iload_n 2, 1) := by decide +kernel
theorem dX6_takeIsland_45 : decode cX6_takeIsland 45 = .ok (.bipush 6, 2) := by decide +kernel
theorem dX6_takeIsland_47 : decode cX6_takeIsland 47 = .ok (.if_icmp .ge 99, 3) := by decide +kernel
theorem dX6_takeIsland_50 : decode cX6_takeIsland 50 = .ok (.aload_n 0, 1) := by decide +kernel
theorem dX6_takeIsland_51 : decode cX6_takeIsland 51 = .ok (.getfield 16, 3) := by decide +kernel
theorem dX6_takeIsland_54 : decode cX6_takeIsland 54 = .ok (.bipush 9, 2) := by decide +kernel
theorem dX6_takeIsland_56 : decode cX6_takeIsland 56 = .ok (.iload_n 2, 1) := by decide +kernel
theorem dX6_takeIsland_57 : decode cX6_takeIsland 57 = .ok (.imul, 1) := by decide +kernel
theorem dX6_takeIsland_58 : decode cX6_takeIsland 58 = .ok (.iload_n 1, 1) := by decide +kernel
theorem dX6_takeIsland_59 : decode cX6_takeIsland 59 = .ok (.iadd, 1) := by decide +kernel
theorem dX6_takeIsland_60 : decode cX6_takeIsland 60 = .ok (.aload_n 0, 1) := by decide +kernel
theorem dX6_takeIsland_61 : decode cX6_takeIsland 61 = .ok (.getfield 65, 3) := by decide +kernel
theorem dX6_takeIsland_64 : decode cX6_takeIsland 64 = .ok (.bipush 9, 2) := by decide +kernel
theorem dX6_takeIsland_66 : decode cX6_takeIsland 66 = .ok (.iload_n 2, 1) := by decide +kernel
theorem dX6_takeIsland_67 : decode cX6_takeIsland 67 = .ok (.imul, 1) := by decide +kernel
theorem dX6_takeIsland_68 : decode cX6_takeIsland 68 = .ok (.iload_n 1, 1) := by decide +kernel
theorem dX6_takeIsland_69 : decode cX6_takeIsland 69 = .ok (.iadd, 1) := by decide +kernel
theorem dX6_takeIsland_70 : decode cX6_takeIsland 70 = .ok (.baload, 1) := by decide +kernel
theorem dX6_takeIsland_71 : decode cX6_takeIsland 71 = .ok (.ifCond .eq 17, 3) := by decide +kernel
theorem dX6_takeIsland_74 : decode cX6_takeIsland 74 = .ok (.aload_n 0, 1) := by decide +kernel
theorem dX6_takeIsland_75 : decode cX6_takeIsland 75 = .ok (.getfield 59, 3) := by decide +kernel
theorem dX6_takeIsland_78 : decode cX6_takeIsland 78 = .ok (.bipush 9, 2) := by decide +kernel
theorem dX6_takeIsland_80 : decode cX6_takeIsland 80 = .ok (.iload_n 2, 1) := by decide +kernel
theorem dX6_takeIsland_81 : decode cX6_takeIsland 81 = .ok (.imul, 1) := by decide +kernel
theorem dX6_takeIsland_82 : decode cX6_takeIsland 82 = .ok (.iload_n 1, 1) := by decide +kernel
theorem dX6_takeIsland_83 : decode cX6_takeIsland 83 = .ok (.iadd, 1) := by decide +kernel
theorem dX6_takeIsland_84 : decode cX6_takeIsland 84 = .ok (.iaload, 1) := by decide +kernel
theorem dX6_takeIsland_85 : decode cX6_takeIsland 85 = .ok (.goto 9, 3) := by decide +kernel
theorem dX6_takeIsland_88 : decode cX6_takeIsland 88 = .ok (.aload_n 0, 1) := by decide +kernel
theorem dX6_takeIsland_89 : decode cX6_takeIsland 89 = .ok (.getfield 53, 3) := by decide +kernel
theorem dX6_takeIsland_92 : decode cX6_takeIsland 92 = .ok (.iload_n 1, 1) := by decide +kernel
theorem dX6_takeIsland_93 : decode cX6_takeIsland 93 = .ok (.iaload, 1) := by decide +kernel
theorem dX6_takeIsland_94 : decode cX6_takeIsland 94 = .ok (.iastore, 1) := by decide +kernel
theorem dX6_takeIsland_95 : decode cX6_takeIsland 95 = .ok (.aload_n 0, 1) := by decide +kernel
theorem dX6_takeIsland_96 : decode cX6_takeIsland 96 = .ok (.getfield 19, 3) := by decide +kernel
theorem dX6_takeIsland_99 : decode cX6_takeIsland 99 = .ok (.bipush 9, 2) := by decide +kernel
theorem dX6_takeIsland_101 : decode cX6_takeIsland 101 = .ok (.iload_n 2, 1) := by decide +kernel
theorem dX6_takeIsland_102 : decode cX6_takeIsland 102 = .ok (.imul, 1) := by decide +kernel
theorem dX6_takeIsland_103 : decode cX6_takeIsland 103 = .ok (.iload_n 1, 1) := by decide +kernel
theorem dX6_takeIsland_104 : decode cX6_takeIsland 104 = .ok (.iadd, 1) := by decide +kernel
theorem dX6_takeIsland_105 : decode cX6_takeIsland 105 = .ok (.aload_n 0, 1) := by decide +kernel
theorem dX6_takeIsland_106 : decode cX6_takeIsland 106 = .ok (.getfield 65, 3) := by decide +kernel
theorem dX6_takeIsland_109 : decode cX6_takeIsland 109 = .ok (.bipush 9, 2) := by decide +kernel
theorem dX6_takeIsland_111 : decode cX6_takeIsland 111 = .ok (.iload_n 2, 1) := by decide +kernel
theorem dX6_takeIsland_112 : decode cX6_takeIsland 112 = .ok (.imul, 1) := by decide +kernel
theorem dX6_takeIsland_113 : decode cX6_takeIsland 113 = .ok (.iload_n 1, 1) := by decide +kernel
theorem dX6_takeIsland_114 : decode cX6_takeIsland 114 = .ok (.iadd, 1) := by decide +kernel
theorem dX6_takeIsland_115 : decode cX6_takeIsland 115 = .ok (.baload, 1) := by decide +kernel
theorem dX6_takeIsland_116 : decode cX6_takeIsland 116 = .ok (.ifCond .eq 17, 3) := by decide +kernel
theorem dX6_takeIsland_119 : decode cX6_takeIsland 119 = .ok (.aload_n 0, 1) := by decide +kernel
theorem dX6_takeIsland_120 : decode cX6_takeIsland 120 = .ok (.getfield 62, 3) := by decide +kernel
theorem dX6_takeIsland_123 : decode cX6_takeIsland 123 = .ok (.bipush 9, 2) := by decide +kernel
theorem dX6_takeIsland_125 : decode cX6_takeIsland 125 = .ok (.iload_n 2, 1) := by decide +kernel
theorem dX6_takeIsland_126 : decode cX6_takeIsland 126 = .ok (.imul, 1) := by decide +kernel
theorem dX6_takeIsland_127 : decode cX6_takeIsland 127 = .ok (.iload_n 1, 1) := by decide +kernel
theorem dX6_takeIsland_128 : decode cX6_takeIsland 128 = .ok (.iadd, 1) := by decide +kernel
theorem dX6_takeIsland_129 : decode cX6_takeIsland 129 = .ok (.iaload, 1) := by decide +kernel
theorem dX6_takeIsland_130 : decode cX6_takeIsland 130 = .ok (.goto 9, 3) := by decide +kernel
theorem dX6_takeIsland_133 : decode cX6_takeIsland 133 = .ok (.aload_n 0, 1) := by decide +kernel
theorem dX6_takeIsland_134 : decode cX6_takeIsland 134 = .ok (.getfield 56, 3) := by decide +kernel
theorem dX6_takeIsland_137 : decode cX6_takeIsland 137 = .ok (.iload_n 1, 1) := by decide +kernel
theorem dX6_takeIsland_138 : decode cX6_takeIsland 138 = .ok (.iaload, 1) := by decide +kernel
theorem dX6_takeIsland_139 : decode cX6_takeIsland 139 = .ok (.iastore, 1) := by decide +kernel
theorem dX6_takeIsland_140 : decode cX6_takeIsland 140 = .ok (.iinc 2 1, 3) := by decide +kernel
theorem dX6_takeIsland_143 : decode cX6_takeIsland 143 = .ok (.goto (-99), 3) := by decide +kernel
theorem dX6_takeIsland_146 : decode cX6_takeIsland 146 = .ok (.iinc 1 1, 3) := by decide +kernel
theorem dX6_takeIsland_149 : decode cX6_takeIsland 149 = .ok (.goto (-139), 3) := by decide +kernel
theorem dX6_takeIsland_152 : decode cX6_takeIsland 152 = .ok (.aload_n 0, 1) := by decide +kernel
theorem dX6_takeIsland_153 : decode cX6_takeIsland 153 = .ok (.aload_n 0, 1) := by decide +kernel
theorem dX6_takeIsland_154 : decode cX6_takeIsland 154 = .ok (.getfield 200, 3) := by decide +kernel
theorem dX6_takeIsland_157 : decode cX6_takeIsland 157 = .ok (.putfield 250, 3) := by decide +kernel
theorem dX6_takeIsland_160 : decode cX6_takeIsland 160 = .ok (.aload_n 0, 1) := by decide +kernel
theorem dX6_takeIsland_161 : decode cX6_takeIsland 161 = .ok (.aload_n 0, 1) := by decide +kernel
theorem dX6_takeIsland_162 : decode cX6_takeIsland 162 = .ok (.getfield 179, 3) := by decide +kernel
theorem dX6_takeIsland_165 : decode cX6_takeIsland 165 = .ok (.putfield 253, 3) := by decide +kernel
theorem dX6_takeIsland_168 : decode cX6_takeIsland 168 = .ok (.aload_n 0, 1) := by decide +kernel
theorem dX6_takeIsland_169 : decode cX6_takeIsland 169 = .ok (.aload_n 0, 1) := by decide +kernel
theorem dX6_takeIsland_170 : decode cX6_takeIsland 170 = .ok (.getfield 197, 3) := by decide +kernel
theorem dX6_takeIsland_173 : decode cX6_takeIsland 173 = .ok (.putfield 256, 3) := by decide +kernel
theorem dX6_takeIsland_176 : decode cX6_takeIsland 176 = .ok (.aload_n 0, 1) := by decide +kernel
theorem dX6_takeIsland_177 : decode cX6_takeIsland 177 = .ok (.aload_n 0, 1) := by decide +kernel
theorem dX6_takeIsland_178 : decode cX6_takeIsland 178 = .ok (.getfield 226, 3) := by decide +kernel
theorem dX6_takeIsland_181 : decode cX6_takeIsland 181 = .ok (.putfield 25, 3) := by decide +kernel
theorem dX6_takeIsland_184 : decode cX6_takeIsland 184 = .ok (.aload_n 0, 1) := by decide +kernel
theorem dX6_takeIsland_185 : decode cX6_takeIsland 185 = .ok (.aload_n 0, 1) := by decide +kernel
theorem dX6_takeIsland_186 : decode cX6_takeIsland 186 = .ok (.getfield 229, 3) := by decide +kernel
theorem dX6_takeIsland_189 : decode cX6_takeIsland 189 = .ok (.putfield 29, 3) := by decide +kernel
theorem dX6_takeIsland_192 : decode cX6_takeIsland 192 = .ok (.iconst 0, 1) := by decide +kernel
theorem dX6_takeIsland_193 : decode cX6_takeIsland 193 = .ok (.istore_n 1, 1) := by decide +kernel
theorem dX6_takeIsland_194 : decode cX6_takeIsland 194 = .ok (.iload_n 1, 1) := by decide +kernel
theorem dX6_takeIsland_195 : decode cX6_takeIsland 195 = .ok (.iconst 3, 1) := by decide +kernel
theorem dX6_takeIsland_196 : decode cX6_takeIsland 196 = .ok (.if_icmp .ge 21, 3) := by decide +kernel
theorem dX6_takeIsland_199 : decode cX6_takeIsland 199 = .ok (.aload_n 0, 1) := by decide +kernel
theorem dX6_takeIsland_200 : decode cX6_takeIsland 200 = .ok (.getfield 22, 3) := by decide +kernel
theorem dX6_takeIsland_203 : decode cX6_takeIsland 203 = .ok (.iload_n 1, 1) := by decide +kernel
theorem dX6_takeIsland_204 : decode cX6_takeIsland 204 = .ok (.aload_n 0, 1) := by decide +kernel
theorem dX6_takeIsland_205 : decode cX6_takeIsland 205 = .ok (.getfield 69, 3) := by decide +kernel
theorem dX6_takeIsland_208 : decode cX6_takeIsland 208 = .ok (.iload_n 1, 1) := by decide +kernel
theorem dX6_takeIsland_209 : decode cX6_takeIsland 209 = .ok (.iaload, 1) := by decide +kernel
theorem dX6_takeIsland_210 : decode cX6_takeIsland 210 = .ok (.iastore, 1) := by decide +kernel
theorem dX6_takeIsland_211 : decode cX6_takeIsland 211 = .ok (.iinc 1 1, 3) := by decide +kernel
theorem dX6_takeIsland_214 : decode cX6_takeIsland 214 = .ok (.goto (-20), 3) := by decide +kernel
theorem dX6_takeIsland_217 : decode cX6_takeIsland 217 = .ok (.aload_n 0, 1) := by decide +kernel
theorem dX6_takeIsland_218 : decode cX6_takeIsland 218 = .ok (.iconst 0, 1) := by decide +kernel
theorem dX6_takeIsland_219 : decode cX6_takeIsland 219 = .ok (.putfield 259, 3) := by decide +kernel
theorem dX6_takeIsland_222 : decode cX6_takeIsland 222 = .ok (.aload_n 0, 1) := by decide +kernel
theorem dX6_takeIsland_223 : decode cX6_takeIsland 223 = .ok (.getfield 105, 3) := by decide +kernel
theorem dX6_takeIsland_226 : decode cX6_takeIsland 226 = .ok (.iconst 0, 1) := by decide +kernel
theorem dX6_takeIsland_227 : decode cX6_takeIsland 227 = .ok (.iconst 0, 1) := by decide +kernel
theorem dX6_takeIsland_228 : decode cX6_takeIsland 228 = .ok (.bastore, 1) := by decide +kernel
theorem dX6_takeIsland_229 : decode cX6_takeIsland 229 = .ok (.aload_n 0, 1) := by decide +kernel
theorem dX6_takeIsland_230 : decode cX6_takeIsland 230 = .ok (.getfield 105, 3) := by decide +kernel
theorem dX6_takeIsland_233 : decode cX6_takeIsland 233 = .ok (.iconst 1, 1) := by decide +kernel
theorem dX6_takeIsland_234 : decode cX6_takeIsland 234 = .ok (.iconst 0, 1) := by decide +kernel
theorem dX6_takeIsland_235 : decode cX6_takeIsland 235 = .ok (.bastore, 1) := by decide +kernel
theorem dX6_takeIsland_236 : decode cX6_takeIsland 236 = .ok (.aload_n 0, 1) := by decide +kernel
theorem dX6_takeIsland_237 : decode cX6_takeIsland 237 = .ok (.invokevirtual 108, 3) := by decide +kernel
theorem dX6_takeIsland_240 : decode cX6_takeIsland 240 = .ok (.return_, 1) := by decide +kernel
theorem dX6_fault_0 : decode cX6_fault 0 = .ok (.aload_n 0, 1) := by decide +kernel
theorem dX6_fault_1 : decode cX6_fault 1 = .ok (.getfield 50, 3) := by decide +kernel
theorem dX6_fault_4 : decode cX6_fault 4 = .ok (.ireturn, 1) := by decide +kernel
theorem dX6_told_0 : decode cX6_told 0 = .ok (.iload_n 1, 1) := by decide +kernel
theorem dX6_told_1 : decode cX6_told 1 = .ok (.tableswitch 117 0 11 #[63, 68, 73, 78, 78, 78, 87, 92, 97, 102, 107, 112], 63) := by decide +kernel
theorem dX6_told_64 : decode cX6_told 64 = .ok (.aload_n 0, 1) := by decide +kernel
theorem dX6_told_65 : decode cX6_told 65 = .ok (.getfield 111, 3) := by decide +kernel
theorem dX6_told_68 : decode cX6_told 68 = .ok (.ireturn, 1) := by decide +kernel
theorem dX6_told_69 : decode cX6_told 69 = .ok (.aload_n 0, 1) := by decide +kernel
theorem dX6_told_70 : decode cX6_told 70 = .ok (.getfield 250, 3) := by decide +kernel
theorem dX6_told_73 : decode cX6_told 73 = .ok (.ireturn, 1) := by decide +kernel
theorem dX6_told_74 : decode cX6_told 74 = .ok (.aload_n 0, 1) := by decide +kernel
theorem dX6_told_75 : decode cX6_told 75 = .ok (.getfield 256, 3) := by decide +kernel
theorem dX6_told_78 : decode cX6_told 78 = .ok (.ireturn, 1) := by decide +kernel
theorem dX6_told_79 : decode cX6_told 79 = .ok (.aload_n 0, 1) := by decide +kernel
theorem dX6_told_80 : decode cX6_told 80 = .ok (.getfield 22, 3) := by decide +kernel
theorem dX6_told_83 : decode cX6_told 83 = .ok (.iload_n 1, 1) := by decide +kernel
theorem dX6_told_84 : decode cX6_told 84 = .ok (.iconst 3, 1) := by decide +kernel
theorem dX6_told_85 : decode cX6_told 85 = .ok (.isub, 1) := by decide +kernel
theorem dX6_told_86 : decode cX6_told 86 = .ok (.iaload, 1) := by decide +kernel
theorem dX6_told_87 : decode cX6_told 87 = .ok (.ireturn, 1) := by decide +kernel
theorem dX6_told_88 : decode cX6_told 88 = .ok (.aload_n 0, 1) := by decide +kernel
theorem dX6_told_89 : decode cX6_told 89 = .ok (.getfield 25, 3) := by decide +kernel
theorem dX6_told_92 : decode cX6_told 92 = .ok (.ireturn, 1) := by decide +kernel
theorem dX6_told_93 : decode cX6_told 93 = .ok (.aload_n 0, 1) := by decide +kernel
theorem dX6_told_94 : decode cX6_told 94 = .ok (.getfield 29, 3) := by decide +kernel
theorem dX6_told_97 : decode cX6_told 97 = .ok (.ireturn, 1) := by decide +kernel
theorem dX6_told_98 : decode cX6_told 98 = .ok (.aload_n 0, 1) := by decide +kernel
theorem dX6_told_99 : decode cX6_told 99 = .ok (.getfield 126, 3) := by decide +kernel
theorem dX6_told_102 : decode cX6_told 102 = .ok (.ireturn, 1) := by decide +kernel
theorem dX6_told_103 : decode cX6_told 103 = .ok (.aload_n 0, 1) := by decide +kernel
theorem dX6_told_104 : decode cX6_told 104 = .ok (.getfield 120, 3) := by decide +kernel
theorem dX6_told_107 : decode cX6_told 107 = .ok (.ireturn, 1) := by decide +kernel
theorem dX6_told_108 : decode cX6_told 108 = .ok (.aload_n 0, 1) := by decide +kernel
theorem dX6_told_109 : decode cX6_told 109 = .ok (.getfield 259, 3) := by decide +kernel
theorem dX6_told_112 : decode cX6_told 112 = .ok (.ireturn, 1) := by decide +kernel
theorem dX6_told_113 : decode cX6_told 113 = .ok (.aload_n 0, 1) := by decide +kernel
theorem dX6_told_114 : decode cX6_told 114 = .ok (.getfield 44, 3) := by decide +kernel
theorem dX6_told_117 : decode cX6_told 117 = .ok (.ireturn, 1) := by decide +kernel
theorem dX6_told_118 : decode cX6_told 118 = .ok (.ldc 125, 2) := by decide +kernel
theorem dX6_told_120 : decode cX6_told 120 = .ok (.ireturn, 1) := by decide +kernel
theorem dX6_mark_0 : decode cX6_mark 0 = .ok (.aload_n 0, 1) := by decide +kernel
theorem dX6_mark_1 : decode cX6_mark 1 = .ok (.iload_n 1, 1) := by decide +kernel
theorem dX6_mark_2 : decode cX6_mark 2 = .ok (.invokevirtual 262, 3) := by decide +kernel
theorem dX6_mark_5 : decode cX6_mark 5 = .ok (.ifCond .ne 7, 3) := by decide +kernel
theorem dX6_mark_8 : decode cX6_mark 8 = .ok (.ldc_w 266, 3) := by decide +kernel
theorem dX6_mark_11 : decode cX6_mark 11 = .ok (.ireturn, 1) := by decide +kernel
theorem dX6_mark_12 : decode cX6_mark 12 = .ok (.iload_n 2, 1) := by decide +kernel
theorem dX6_mark_13 : decode cX6_mark 13 = .ok (.ifCond .ne 12, 3) := by decide +kernel
theorem dX6_mark_16 : decode cX6_mark 16 = .ok (.aload_n 0, 1) := by decide +kernel
theorem dX6_mark_17 : decode cX6_mark 17 = .ok (.getfield 7, 3) := by decide +kernel
theorem dX6_mark_20 : decode cX6_mark 20 = .ok (.iload_n 1, 1) := by decide +kernel
theorem dX6_mark_21 : decode cX6_mark 21 = .ok (.iaload, 1) := by decide +kernel
theorem dX6_mark_22 : decode cX6_mark 22 = .ok (.goto 19, 3) := by decide +kernel
theorem dX6_mark_25 : decode cX6_mark 25 = .ok (.iload_n 2, 1) := by decide +kernel
theorem dX6_mark_26 : decode cX6_mark 26 = .ok (.iconst 1, 1) := by decide +kernel
theorem dX6_mark_27 : decode cX6_mark 27 = .ok (.if_icmp .ne 12, 3) := by decide +kernel
theorem dX6_mark_30 : decode cX6_mark 30 = .ok (.aload_n 0, 1) := by decide +kernel
theorem dX6_mark_31 : decode cX6_mark 31 = .ok (.getfield 13, 3) := by decide +kernel
theorem dX6_mark_34 : decode cX6_mark 34 = .ok (.iload_n 1, 1) := by decide +kernel
theorem dX6_mark_35 : decode cX6_mark 35 = .ok (.iaload, 1) := by decide +kernel
theorem dX6_mark_36 : decode cX6_mark 36 = .ok (.goto 5, 3) := by decide +kernel
theorem dX6_mark_39 : decode cX6_mark 39 = .ok (.ldc 125, 2) := by decide +kernel
theorem dX6_mark_41 : decode cX6_mark 41 = .ok (.ireturn, 1) := by decide +kernel
theorem dX6_map_0 : decode cX6_map 0 = .ok (.iload_n 1, 1) := by decide +kernel
theorem dX6_map_1 : decode cX6_map 1 = .ok (.invokestatic 267, 3) := by decide +kernel
theorem dX6_map_4 : decode cX6_map 4 = .ok (.ifCond .eq 11, 3) := by decide +kernel
theorem dX6_map_7 : decode cX6_map 7 = .ok (.aload_n 0, 1) := by decide +kernel
theorem dX6_map_8 : decode cX6_map 8 = .ok (.iload_n 2, 1) := by decide +kernel
theorem dX6_map_9 : decode cX6_map 9 = .ok (.invokevirtual 262, 3) := by decide +kernel
theorem dX6_map_12 : decode cX6_map 12 = .ok (.ifCond .ne 7, 3) := by decide +kernel
theorem dX6_map_15 : decode cX6_map 15 = .ok (.ldc_w 266, 3) := by decide +kernel
theorem dX6_map_18 : decode cX6_map 18 = .ok (.ireturn, 1) := by decide +kernel
theorem dX6_map_19 : decode cX6_map 19 = .ok (.iload_n 3, 1) := by decide +kernel
theorem dX6_map_20 : decode cX6_map 20 = .ok (.ifCond .ne 17, 3) := by decide +kernel
theorem dX6_map_23 : decode cX6_map 23 = .ok (.aload_n 0, 1) := by decide +kernel
theorem dX6_map_24 : decode cX6_map 24 = .ok (.getfield 16, 3) := by decide +kernel
theorem dX6_map_27 : decode cX6_map 27 = .ok (.bipush 9, 2) := by decide +kernel
theorem dX6_map_29 : decode cX6_map 29 = .ok (.iload_n 1, 1) := by decide +kernel
theorem dX6_map_30 : decode cX6_map 30 = .ok (.imul, 1) := by decide +kernel
theorem dX6_map_31 : decode cX6_map 31 = .ok (.iload_n 2, 1) := by decide +kernel
theorem dX6_map_32 : decode cX6_map 32 = .ok (.iadd, 1) := by decide +kernel
theorem dX6_map_33 : decode cX6_map 33 = .ok (.iaload, 1) := by decide +kernel
theorem dX6_map_34 : decode cX6_map 34 = .ok (.goto 24, 3) := by decide +kernel
theorem dX6_map_37 : decode cX6_map 37 = .ok (.iload_n 3, 1) := by decide +kernel
theorem dX6_map_38 : decode cX6_map 38 = .ok (.iconst 1, 1) := by decide +kernel
theorem dX6_map_39 : decode cX6_map 39 = .ok (.if_icmp .ne 17, 3) := by decide +kernel
theorem dX6_map_42 : decode cX6_map 42 = .ok (.aload_n 0, 1) := by decide +kernel
theorem dX6_map_43 : decode cX6_map 43 = .ok (.getfield 19, 3) := by decide +kernel
theorem dX6_map_46 : decode cX6_map 46 = .ok (.bipush 9, 2) := by decide +kernel
theorem dX6_map_48 : decode cX6_map 48 = .ok (.iload_n 1, 1) := by decide +kernel
theorem dX6_map_49 : decode cX6_map 49 = .ok (.imul, 1) := by decide +kernel
theorem dX6_map_50 : decode cX6_map 50 = .ok (.iload_n 2, 1) := by decide +kernel
theorem dX6_map_51 : decode cX6_map 51 = .ok (.iadd, 1) := by decide +kernel
theorem dX6_map_52 : decode cX6_map 52 = .ok (.iaload, 1) := by decide +kernel
theorem dX6_map_53 : decode cX6_map 53 = .ok (.goto 5, 3) := by decide +kernel
theorem dX6_map_56 : decode cX6_map 56 = .ok (.ldc 125, 2) := by decide +kernel
theorem dX6_map_58 : decode cX6_map 58 = .ok (.ireturn, 1) := by decide +kernel
theorem dX6_narrow_0 : decode cX6_narrow 0 = .ok (.aload_n 0, 1) := by decide +kernel
theorem dX6_narrow_1 : decode cX6_narrow 1 = .ok (.getfield 72, 3) := by decide +kernel
theorem dX6_narrow_4 : decode cX6_narrow 4 = .ok (.iload_n 1, 1) := by decide +kernel
theorem dX6_narrow_5 : decode cX6_narrow 5 = .ok (.baload, 1) := by decide +kernel
theorem dX6_narrow_6 : decode cX6_narrow 6 = .ok (.ifCond .eq 73, 3) := by decide +kernel
theorem dX6_narrow_9 : decode cX6_narrow 9 = .ok (.aload_n 0, 1) := by decide +kernel
theorem dX6_narrow_10 : decode cX6_narrow 10 = .ok (.getfield 75, 3) := by decide +kernel
theorem dX6_narrow_13 : decode cX6_narrow 13 = .ok (.iconst 4, 1) := by decide +kernel
theorem dX6_narrow_14 : decode cX6_narrow 14 = .ok (.iload_n 1, 1) := by decide +kernel
theorem dX6_narrow_15 : decode cX6_narrow 15 = .ok (.imul, 1) := by decide +kernel
theorem dX6_narrow_16 : decode cX6_narrow 16 = .ok (.iload_n 2, 1) := by decide +kernel
theorem dX6_narrow_17 : decode cX6_narrow 17 = .ok (.aload_n 0, 1) := by decide +kernel
theorem dX6_narrow_18 : decode cX6_narrow 18 = .ok (.getfield 256, 3) := by decide +kernel
theorem dX6_narrow_21 : decode cX6_narrow 21 = .ok (.isub, 1) := by decide +kernel
theorem dX6_narrow_22 : decode cX6_narrow 22 = .ok (.iastore, 1) := by decide +kernel
theorem dX6_narrow_23 : decode cX6_narrow 23 = .ok (.aload_n 0, 1) := by decide +kernel
theorem dX6_narrow_24 : decode cX6_narrow 24 = .ok (.getfield 75, 3) := by decide +kernel
theorem dX6_narrow_27 : decode cX6_narrow 27 = .ok (.iconst 4, 1) := by decide +kernel
theorem dX6_narrow_28 : decode cX6_narrow 28 = .ok (.iload_n 1, 1) := by decide +kernel
theorem dX6_narrow_29 : decode cX6_narrow 29 = .ok (.imul, 1) := by decide +kernel
theorem dX6_narrow_30 : decode cX6_narrow 30 = .ok (.iconst 1, 1) := by decide +kernel
theorem dX6_narrow_31 : decode cX6_narrow 31 = .ok (.iadd, 1) := by decide +kernel
theorem dX6_narrow_32 : decode cX6_narrow 32 = .ok (.iload_n 2, 1) := by decide +kernel
theorem dX6_narrow_33 : decode cX6_narrow 33 = .ok (.aload_n 0, 1) := by decide +kernel
theorem dX6_narrow_34 : decode cX6_narrow 34 = .ok (.getfield 256, 3) := by decide +kernel
theorem dX6_narrow_37 : decode cX6_narrow 37 = .ok (.iadd, 1) := by decide +kernel
theorem dX6_narrow_38 : decode cX6_narrow 38 = .ok (.iastore, 1) := by decide +kernel
theorem dX6_narrow_39 : decode cX6_narrow 39 = .ok (.aload_n 0, 1) := by decide +kernel
theorem dX6_narrow_40 : decode cX6_narrow 40 = .ok (.getfield 75, 3) := by decide +kernel
theorem dX6_narrow_43 : decode cX6_narrow 43 = .ok (.iconst 4, 1) := by decide +kernel
theorem dX6_narrow_44 : decode cX6_narrow 44 = .ok (.iload_n 1, 1) := by decide +kernel
theorem dX6_narrow_45 : decode cX6_narrow 45 = .ok (.imul, 1) := by decide +kernel
theorem dX6_narrow_46 : decode cX6_narrow 46 = .ok (.iconst 2, 1) := by decide +kernel
theorem dX6_narrow_47 : decode cX6_narrow 47 = .ok (.iadd, 1) := by decide +kernel
theorem dX6_narrow_48 : decode cX6_narrow 48 = .ok (.iload_n 3, 1) := by decide +kernel
theorem dX6_narrow_49 : decode cX6_narrow 49 = .ok (.aload_n 0, 1) := by decide +kernel
theorem dX6_narrow_50 : decode cX6_narrow 50 = .ok (.getfield 256, 3) := by decide +kernel
theorem dX6_narrow_53 : decode cX6_narrow 53 = .ok (.isub, 1) := by decide +kernel
theorem dX6_narrow_54 : decode cX6_narrow 54 = .ok (.iastore, 1) := by decide +kernel
theorem dX6_narrow_55 : decode cX6_narrow 55 = .ok (.aload_n 0, 1) := by decide +kernel
theorem dX6_narrow_56 : decode cX6_narrow 56 = .ok (.getfield 75, 3) := by decide +kernel
theorem dX6_narrow_59 : decode cX6_narrow 59 = .ok (.iconst 4, 1) := by decide +kernel
theorem dX6_narrow_60 : decode cX6_narrow 60 = .ok (.iload_n 1, 1) := by decide +kernel
theorem dX6_narrow_61 : decode cX6_narrow 61 = .ok (.imul, 1) := by decide +kernel
theorem dX6_narrow_62 : decode cX6_narrow 62 = .ok (.iconst 3, 1) := by decide +kernel
theorem dX6_narrow_63 : decode cX6_narrow 63 = .ok (.iadd, 1) := by decide +kernel
theorem dX6_narrow_64 : decode cX6_narrow 64 = .ok (.iload_n 3, 1) := by decide +kernel
theorem dX6_narrow_65 : decode cX6_narrow 65 = .ok (.aload_n 0, 1) := by decide +kernel
theorem dX6_narrow_66 : decode cX6_narrow 66 = .ok (.getfield 256, 3) := by decide +kernel
theorem dX6_narrow_69 : decode cX6_narrow 69 = .ok (.iadd, 1) := by decide +kernel
theorem dX6_narrow_70 : decode cX6_narrow 70 = .ok (.iastore, 1) := by decide +kernel
theorem dX6_narrow_71 : decode cX6_narrow 71 = .ok (.aload_n 0, 1) := by decide +kernel
theorem dX6_narrow_72 : decode cX6_narrow 72 = .ok (.getfield 72, 3) := by decide +kernel
theorem dX6_narrow_75 : decode cX6_narrow 75 = .ok (.iload_n 1, 1) := by decide +kernel
theorem dX6_narrow_76 : decode cX6_narrow 76 = .ok (.iconst 0, 1) := by decide +kernel
theorem dX6_narrow_77 : decode cX6_narrow 77 = .ok (.bastore, 1) := by decide +kernel
theorem dX6_narrow_78 : decode cX6_narrow 78 = .ok (.return_, 1) := by decide +kernel
theorem dX6_narrow_79 : decode cX6_narrow 79 = .ok (.aload_n 0, 1) := by decide +kernel
theorem dX6_narrow_80 : decode cX6_narrow 80 = .ok (.getfield 75, 3) := by decide +kernel
theorem dX6_narrow_83 : decode cX6_narrow 83 = .ok (.iconst 4, 1) := by decide +kernel
theorem dX6_narrow_84 : decode cX6_narrow 84 = .ok (.iload_n 1, 1) := by decide +kernel
theorem dX6_narrow_85 : decode cX6_narrow 85 = .ok (.imul, 1) := by decide +kernel
theorem dX6_narrow_86 : decode cX6_narrow 86 = .ok (.iload_n 2, 1) := by decide +kernel
theorem dX6_narrow_87 : decode cX6_narrow 87 = .ok (.aload_n 0, 1) := by decide +kernel
theorem dX6_narrow_88 : decode cX6_narrow 88 = .ok (.getfield 256, 3) := by decide +kernel
theorem dX6_narrow_91 : decode cX6_narrow 91 = .ok (.isub, 1) := by decide +kernel
theorem dX6_narrow_92 : decode cX6_narrow 92 = .ok (.aload_n 0, 1) := by decide +kernel
theorem dX6_narrow_93 : decode cX6_narrow 93 = .ok (.getfield 75, 3) := by decide +kernel
theorem dX6_narrow_96 : decode cX6_narrow 96 = .ok (.iconst 4, 1) := by decide +kernel
theorem dX6_narrow_97 : decode cX6_narrow 97 = .ok (.iload_n 1, 1) := by decide +kernel
theorem dX6_narrow_98 : decode cX6_narrow 98 = .ok (.imul, 1) := by decide +kernel
theorem dX6_narrow_99 : decode cX6_narrow 99 = .ok (.iaload, 1) := by decide +kernel
theorem dX6_narrow_100 : decode cX6_narrow 100 = .ok (.if_icmp .le 12, 3) := by decide +kernel
theorem dX6_narrow_103 : decode cX6_narrow 103 = .ok (.iload_n 2, 1) := by decide +kernel
theorem dX6_narrow_104 : decode cX6_narrow 104 = .ok (.aload_n 0, 1) := by decide +kernel
theorem dX6_narrow_105 : decode cX6_narrow 105 = .ok (.getfield 256, 3) := by decide +kernel
theorem dX6_narrow_108 : decode cX6_narrow 108 = .ok (.isub, 1) := by decide +kernel
theorem dX6_narrow_109 : decode cX6_narrow 109 = .ok (.goto 11, 3) := by decide +kernel
theorem dX6_narrow_112 : decode cX6_narrow 112 = .ok (.aload_n 0, 1) := by decide +kernel
theorem dX6_narrow_113 : decode cX6_narrow 113 = .ok (.getfield 75, 3) := by decide +kernel
theorem dX6_narrow_116 : decode cX6_narrow 116 = .ok (.iconst 4, 1) := by decide +kernel
theorem dX6_narrow_117 : decode cX6_narrow 117 = .ok (.iload_n 1, 1) := by decide +kernel
theorem dX6_narrow_118 : decode cX6_narrow 118 = .ok (.imul, 1) := by decide +kernel
theorem dX6_narrow_119 : decode cX6_narrow 119 = .ok (.iaload, 1) := by decide +kernel
theorem dX6_narrow_120 : decode cX6_narrow 120 = .ok (.iastore, 1) := by decide +kernel
theorem dX6_narrow_121 : decode cX6_narrow 121 = .ok (.aload_n 0, 1) := by decide +kernel
theorem dX6_narrow_122 : decode cX6_narrow 122 = .ok (.getfield 75, 3) := by decide +kernel
theorem dX6_narrow_125 : decode cX6_narrow 125 = .ok (.iconst 4, 1) := by decide +kernel
theorem dX6_narrow_126 : decode cX6_narrow 126 = .ok (.iload_n 1, 1) := by decide +kernel
theorem dX6_narrow_127 : decode cX6_narrow 127 = .ok (.imul, 1) := by decide +kernel
theorem dX6_narrow_128 : decode cX6_narrow 128 = .ok (.iconst 1, 1) := by decide +kernel
theorem dX6_narrow_129 : decode cX6_narrow 129 = .ok (.iadd, 1) := by decide +kernel
theorem dX6_narrow_130 : decode cX6_narrow 130 = .ok (.iload_n 2, 1) := by decide +kernel
theorem dX6_narrow_131 : decode cX6_narrow 131 = .ok (.aload_n 0, 1) := by decide +kernel
theorem dX6_narrow_132 : decode cX6_narrow 132 = .ok (.getfield 256, 3) := by decide +kernel
theorem dX6_narrow_135 : decode cX6_narrow 135 = .ok (.iadd, 1) := by decide +kernel
theorem dX6_narrow_136 : decode cX6_narrow 136 = .ok (.aload_n 0, 1) := by decide +kernel
theorem dX6_narrow_137 : decode cX6_narrow 137 = .ok (.getfield 75, 3) := by decide +kernel
theorem dX6_narrow_140 : decode cX6_narrow 140 = .ok (.iconst 4, 1) := by decide +kernel
theorem dX6_narrow_141 : decode cX6_narrow 141 = .ok (.iload_n 1, 1) := by decide +kernel
theorem dX6_narrow_142 : decode cX6_narrow 142 = .ok (.imul, 1) := by decide +kernel
theorem dX6_narrow_143 : decode cX6_narrow 143 = .ok (.iconst 1, 1) := by decide +kernel
theorem dX6_narrow_144 : decode cX6_narrow 144 = .ok (.iadd, 1) := by decide +kernel
theorem dX6_narrow_145 : decode cX6_narrow 145 = .ok (.iaload, 1) := by decide +kernel
theorem dX6_narrow_146 : decode cX6_narrow 146 = .ok (.if_icmp .ge 12, 3) := by decide +kernel
theorem dX6_narrow_149 : decode cX6_narrow 149 = .ok (.iload_n 2, 1) := by decide +kernel
theorem dX6_narrow_150 : decode cX6_narrow 150 = .ok (.aload_n 0, 1) := by decide +kernel
theorem dX6_narrow_151 : decode cX6_narrow 151 = .ok (.getfield 256, 3) := by decide +kernel
theorem dX6_narrow_154 : decode cX6_narrow 154 = .ok (.iadd, 1) := by decide +kernel
theorem dX6_narrow_155 : decode cX6_narrow 155 = .ok (.goto 13, 3) := by decide +kernel
theorem dX6_narrow_158 : decode cX6_narrow 158 = .ok (.aload_n 0, 1) := by decide +kernel
theorem dX6_narrow_159 : decode cX6_narrow 159 = .ok (.getfield 75, 3) := by decide +kernel
theorem dX6_narrow_162 : decode cX6_narrow 162 = .ok (.iconst 4, 1) := by decide +kernel
theorem dX6_narrow_163 : decode cX6_narrow 163 = .ok (.iload_n 1, 1) := by decide +kernel
theorem dX6_narrow_164 : decode cX6_narrow 164 = .ok (.imul, 1) := by decide +kernel
theorem dX6_narrow_165 : decode cX6_narrow 165 = .ok (.iconst 1, 1) := by decide +kernel
theorem dX6_narrow_166 : decode cX6_narrow 166 = .ok (.iadd, 1) := by decide +kernel
theorem dX6_narrow_167 : decode cX6_narrow 167 = .ok (.iaload, 1) := by decide +kernel
theorem dX6_narrow_168 : decode cX6_narrow 168 = .ok (.iastore, 1) := by decide +kernel
theorem dX6_narrow_169 : decode cX6_narrow 169 = .ok (.aload_n 0, 1) := by decide +kernel
theorem dX6_narrow_170 : decode cX6_narrow 170 = .ok (.getfield 75, 3) := by decide +kernel
theorem dX6_narrow_173 : decode cX6_narrow 173 = .ok (.iconst 4, 1) := by decide +kernel
theorem dX6_narrow_174 : decode cX6_narrow 174 = .ok (.iload_n 1, 1) := by decide +kernel
theorem dX6_narrow_175 : decode cX6_narrow 175 = .ok (.imul, 1) := by decide +kernel
theorem dX6_narrow_176 : decode cX6_narrow 176 = .ok (.iconst 2, 1) := by decide +kernel
theorem dX6_narrow_177 : decode cX6_narrow 177 = .ok (.iadd, 1) := by decide +kernel
theorem dX6_narrow_178 : decode cX6_narrow 178 = .ok (.iload_n 3, 1) := by decide +kernel
theorem dX6_narrow_179 : decode cX6_narrow 179 = .ok (.aload_n 0, 1) := by decide +kernel
theorem dX6_narrow_180 : decode cX6_narrow 180 = .ok (.getfield 256, 3) := by decide +kernel
theorem dX6_narrow_183 : decode cX6_narrow 183 = .ok (.isub, 1) := by decide +kernel
theorem dX6_narrow_184 : decode cX6_narrow 184 = .ok (.aload_n 0, 1) := by decide +kernel
theorem dX6_narrow_185 : decode cX6_narrow 185 = .ok (.getfield 75, 3) := by decide +kernel
theorem dX6_narrow_188 : decode cX6_narrow 188 = .ok (.iconst 4, 1) := by decide +kernel
theorem dX6_narrow_189 : decode cX6_narrow 189 = .ok (.iload_n 1, 1) := by decide +kernel
theorem dX6_narrow_190 : decode cX6_narrow 190 = .ok (.imul, 1) := by decide +kernel
theorem dX6_narrow_191 : decode cX6_narrow 191 = .ok (.iconst 2, 1) := by decide +kernel
theorem dX6_narrow_192 : decode cX6_narrow 192 = .ok (.iadd, 1) := by decide +kernel
theorem dX6_narrow_193 : decode cX6_narrow 193 = .ok (.iaload, 1) := by decide +kernel
theorem dX6_narrow_194 : decode cX6_narrow 194 = .ok (.if_icmp .le 12, 3) := by decide +kernel
theorem dX6_narrow_197 : decode cX6_narrow 197 = .ok (.iload_n 3, 1) := by decide +kernel
theorem dX6_narrow_198 : decode cX6_narrow 198 = .ok (.aload_n 0, 1) := by decide +kernel
theorem dX6_narrow_199 : decode cX6_narrow 199 = .ok (.getfield 256, 3) := by decide +kernel
theorem dX6_narrow_202 : decode cX6_narrow 202 = .ok (.isub, 1) := by decide +kernel
theorem dX6_narrow_203 : decode cX6_narrow 203 = .ok (.goto 13, 3) := by decide +kernel
theorem dX6_narrow_206 : decode cX6_narrow 206 = .ok (.aload_n 0, 1) := by decide +kernel
theorem dX6_narrow_207 : decode cX6_narrow 207 = .ok (.getfield 75, 3) := by decide +kernel
theorem dX6_narrow_210 : decode cX6_narrow 210 = .ok (.iconst 4, 1) := by decide +kernel
theorem dX6_narrow_211 : decode cX6_narrow 211 = .ok (.iload_n 1, 1) := by decide +kernel
theorem dX6_narrow_212 : decode cX6_narrow 212 = .ok (.imul, 1) := by decide +kernel
theorem dX6_narrow_213 : decode cX6_narrow 213 = .ok (.iconst 2, 1) := by decide +kernel
theorem dX6_narrow_214 : decode cX6_narrow 214 = .ok (.iadd, 1) := by decide +kernel
theorem dX6_narrow_215 : decode cX6_narrow 215 = .ok (.iaload, 1) := by decide +kernel
theorem dX6_narrow_216 : decode cX6_narrow 216 = .ok (.iastore, 1) := by decide +kernel
theorem dX6_narrow_217 : decode cX6_narrow 217 = .ok (.aload_n 0, 1) := by decide +kernel
theorem dX6_narrow_218 : decode cX6_narrow 218 = .ok (.getfield 75, 3) := by decide +kernel
theorem dX6_narrow_221 : decode cX6_narrow 221 = .ok (.iconst 4, 1) := by decide +kernel
theorem dX6_narrow_222 : decode cX6_narrow 222 = .ok (.iload_n 1, 1) := by decide +kernel
theorem dX6_narrow_223 : decode cX6_narrow 223 = .ok (.imul, 1) := by decide +kernel
theorem dX6_narrow_224 : decode cX6_narrow 224 = .ok (.iconst 3, 1) := by decide +kernel
theorem dX6_narrow_225 : decode cX6_narrow 225 = .ok (.iadd, 1) := by decide +kernel
theorem dX6_narrow_226 : decode cX6_narrow 226 = .ok (.iload_n 3, 1) := by decide +kernel
theorem dX6_narrow_227 : decode cX6_narrow 227 = .ok (.aload_n 0, 1) := by decide +kernel
theorem dX6_narrow_228 : decode cX6_narrow 228 = .ok (.getfield 256, 3) := by decide +kernel
theorem dX6_narrow_231 : decode cX6_narrow 231 = .ok (.iadd, 1) := by decide +kernel
theorem dX6_narrow_232 : decode cX6_narrow 232 = .ok (.aload_n 0, 1) := by decide +kernel
theorem dX6_narrow_233 : decode cX6_narrow 233 = .ok (.getfield 75, 3) := by decide +kernel
theorem dX6_narrow_236 : decode cX6_narrow 236 = .ok (.iconst 4, 1) := by decide +kernel
theorem dX6_narrow_237 : decode cX6_narrow 237 = .ok (.iload_n 1, 1) := by decide +kernel
theorem dX6_narrow_238 : decode cX6_narrow 238 = .ok (.imul, 1) := by decide +kernel
theorem dX6_narrow_239 : decode cX6_narrow 239 = .ok (.iconst 3, 1) := by decide +kernel
theorem dX6_narrow_240 : decode cX6_narrow 240 = .ok (.iadd, 1) := by decide +kernel
theorem dX6_narrow_241 : decode cX6_narrow 241 = .ok (.iaload, 1) := by decide +kernel
theorem dX6_narrow_242 : decode cX6_narrow 242 = .ok (.if_icmp .ge 12, 3) := by decide +kernel
theorem dX6_narrow_245 : decode cX6_narrow 245 = .ok (.iload_n 3, 1) := by decide +kernel
theorem dX6_narrow_246 : decode cX6_narrow 246 = .ok (.aload_n 0, 1) := by decide +kernel
theorem dX6_narrow_247 : decode cX6_narrow 247 = .ok (.getfield 256, 3) := by decide +kernel
theorem dX6_narrow_250 : decode cX6_narrow 250 = .ok (.iadd, 1) := by decide +kernel
theorem dX6_narrow_251 : decode cX6_narrow 251 = .ok (.goto 13, 3) := by decide +kernel
theorem dX6_narrow_254 : decode cX6_narrow 254 = .ok (.aload_n 0, 1) := by decide +kernel
theorem dX6_narrow_255 : decode cX6_narrow 255 = .ok (.getfield 75, 3) := by decide +kernel
theorem dX6_narrow_258 : decode cX6_narrow 258 = .ok (.iconst 4, 1) := by decide +kernel
theorem dX6_narrow_259 : decode cX6_narrow 259 = .ok (.iload_n 1, 1) := by decide +kernel
theorem dX6_narrow_260 : decode cX6_narrow 260 = .ok (.imul, 1) := by decide +kernel
theorem dX6_narrow_261 : decode cX6_narrow 261 = .ok (.iconst 3, 1) := by decide +kernel
theorem dX6_narrow_262 : decode cX6_narrow 262 = .ok (.iadd, 1) := by decide +kernel
theorem dX6_narrow_263 : decode cX6_narrow 263 = .ok (.iaload, 1) := by decide +kernel
theorem dX6_narrow_264 : decode cX6_narrow 264 = .ok (.iastore, 1) := by decide +kernel
theorem dX6_narrow_265 : decode cX6_narrow 265 = .ok (.return_, 1) := by decide +kernel
theorem dX6_isLeft_0 : decode cX6_isLeft 0 = .ok (.aload_n 0, 1) := by decide +kernel
theorem dX6_isLeft_1 : decode cX6_isLeft 1 = .ok (.getfield 72, 3) := by decide +kernel
theorem dX6_isLeft_4 : decode cX6_isLeft 4 = .ok (.iload_n 1, 1) := by decide +kernel
theorem dX6_isLeft_5 : decode cX6_isLeft 5 = .ok (.baload, 1) := by decide +kernel
theorem dX6_isLeft_6 : decode cX6_isLeft 6 = .ok (.ifCond .ne 47, 3) := by decide +kernel
theorem dX6_isLeft_9 : decode cX6_isLeft 9 = .ok (.aload_n 0, 1) := by decide +kernel
theorem dX6_isLeft_10 : decode cX6_isLeft 10 = .ok (.getfield 75, 3) := by decide +kernel
theorem dX6_isLeft_13 : decode cX6_isLeft 13 = .ok (.iconst 4, 1) := by decide +kernel
theorem dX6_isLeft_14 : decode cX6_isLeft 14 = .ok (.iload_n 1, 1) := by decide +kernel
theorem dX6_isLeft_15 : decode cX6_isLeft 15 = .ok (.imul, 1) := by decide +kernel
theorem dX6_isLeft_16 : decode cX6_isLeft 16 = .ok (.iaload, 1) := by decide +kernel
theorem dX6_isLeft_17 : decode cX6_isLeft 17 = .ok (.aload_n 0, 1) := by decide +kernel
theorem dX6_isLeft_18 : decode cX6_isLeft 18 = .ok (.getfield 75, 3) := by decide +kernel
theorem dX6_isLeft_21 : decode cX6_isLeft 21 = .ok (.iconst 4, 1) := by decide +kernel
theorem dX6_isLeft_22 : decode cX6_isLeft 22 = .ok (.iload_n 1, 1) := by decide +kernel
theorem dX6_isLeft_23 : decode cX6_isLeft 23 = .ok (.imul, 1) := by decide +kernel
theorem dX6_isLeft_24 : decode cX6_isLeft 24 = .ok (.iconst 1, 1) := by decide +kernel
theorem dX6_isLeft_25 : decode cX6_isLeft 25 = .ok (.iadd, 1) := by decide +kernel
theorem dX6_isLeft_26 : decode cX6_isLeft 26 = .ok (.iaload, 1) := by decide +kernel
theorem dX6_isLeft_27 : decode cX6_isLeft 27 = .ok (.if_icmp .gt 30, 3) := by decide +kernel
theorem dX6_isLeft_30 : decode cX6_isLeft 30 = .ok (.aload_n 0, 1) := by decide +kernel
theorem dX6_isLeft_31 : decode cX6_isLeft 31 = .ok (.getfield 75, 3) := by decide +kernel
theorem dX6_isLeft_34 : decode cX6_isLeft 34 = .ok (.iconst 4, 1) := by decide +kernel
theorem dX6_isLeft_35 : decode cX6_isLeft 35 = .ok (.iload_n 1, 1) := by decide +kernel
theorem dX6_isLeft_36 : decode cX6_isLeft 36 = .ok (.imul, 1) := by decide +kernel
theorem dX6_isLeft_37 : decode cX6_isLeft 37 = .ok (.iconst 2, 1) := by decide +kernel
theorem dX6_isLeft_38 : decode cX6_isLeft 38 = .ok (.iadd, 1) := by decide +kernel
theorem dX6_isLeft_39 : decode cX6_isLeft 39 = .ok (.iaload, 1) := by decide +kernel
theorem dX6_isLeft_40 : decode cX6_isLeft 40 = .ok (.aload_n 0, 1) := by decide +kernel
theorem dX6_isLeft_41 : decode cX6_isLeft 41 = .ok (.getfield 75, 3) := by decide +kernel
theorem dX6_isLeft_44 : decode cX6_isLeft 44 = .ok (.iconst 4, 1) := by decide +kernel
theorem dX6_isLeft_45 : decode cX6_isLeft 45 = .ok (.iload_n 1, 1) := by decide +kernel
theorem dX6_isLeft_46 : decode cX6_isLeft 46 = .ok (.imul, 1) := by decide +kernel
theorem dX6_isLeft_47 : decode cX6_isLeft 47 = .ok (.iconst 3, 1) := by decide +kernel
theorem dX6_isLeft_48 : decode cX6_isLeft 48 = .ok (.iadd, 1) := by decide +kernel
theorem dX6_isLeft_49 : decode cX6_isLeft 49 = .ok (.iaload, 1) := by decide +kernel
theorem dX6_isLeft_50 : decode cX6_isLeft 50 = .ok (.if_icmp .gt 7, 3) := by decide +kernel
theorem dX6_isLeft_53 : decode cX6_isLeft 53 = .ok (.iconst 1, 1) := by decide +kernel
theorem dX6_isLeft_54 : decode cX6_isLeft 54 = .ok (.goto 4, 3) := by decide +kernel
theorem dX6_isLeft_57 : decode cX6_isLeft 57 = .ok (.iconst 0, 1) := by decide +kernel
theorem dX6_isLeft_58 : decode cX6_isLeft 58 = .ok (.ireturn, 1) := by decide +kernel
theorem dX6_findLeft_0 : decode cX6_findLeft 0 = .ok (.iconst 0, 1) := by decide +kernel
theorem dX6_findLeft_1 : decode cX6_findLeft 1 = .ok (.istore_n 3, 1) := by decide +kernel
theorem dX6_findLeft_2 : decode cX6_findLeft 2 = .ok (.iload_n 3, 1) := by decide +kernel
theorem dX6_findLeft_3 : decode cX6_findLeft 3 = .ok (.aload_n 0, 1) := by decide +kernel
theorem dX6_findLeft_4 : decode cX6_findLeft 4 = .ok (.getfield 111, 3) := by decide +kernel
theorem dX6_findLeft_7 : decode cX6_findLeft 7 = .ok (.if_icmp .ge 89, 3) := by decide +kernel
theorem dX6_findLeft_10 : decode cX6_findLeft 10 = .ok (.aload_n 0, 1) := by decide +kernel
theorem dX6_findLeft_11 : decode cX6_findLeft 11 = .ok (.getfield 72, 3) := by decide +kernel
theorem dX6_findLeft_14 : decode cX6_findLeft 14 = .ok (.iload_n 3, 1) := by decide +kernel
theorem dX6_findLeft_15 : decode cX6_findLeft 15 = .ok (.iconst 1, 1) := by decide +kernel
theorem dX6_findLeft_16 : decode cX6_findLeft 16 = .ok (.bastore, 1) := by decide +kernel
theorem dX6_findLeft_17 : decode cX6_findLeft 17 = .ok (.iconst 0, 1) := by decide +kernel
theorem dX6_findLeft_18 : decode cX6_findLeft 18 = .ok (.istore 4, 2) := by decide +kernel
theorem dX6_findLeft_20 : decode cX6_findLeft 20 = .ok (.iload 4, 2) := by decide +kernel
theorem dX6_findLeft_22 : decode cX6_findLeft 22 = .ok (.bipush 6, 2) := by decide +kernel
theorem dX6_findLeft_24 : decode cX6_findLeft 24 = .ok (.if_icmp .ge 66, 3) := by decide +kernel
theorem dX6_findLeft_27 : decode cX6_findLeft 27 = .ok (.iload_n 2, 1) := by decide +kernel
theorem dX6_findLeft_28 : decode cX6_findLeft 28 = .ok (.iload 4, 2) := by decide +kernel
theorem dX6_findLeft_30 : decode cX6_findLeft 30 = .ok (.invokestatic 182, 3) := by decide +kernel
theorem dX6_findLeft_33 : decode cX6_findLeft 33 = .ok (.ifCond .ne 51, 3) := by decide +kernel
theorem dX6_findLeft_36 : decode cX6_findLeft 36 = .ok (.aload_n 0, 1) := by decide +kernel
theorem dX6_findLeft_37 : decode cX6_findLeft 37 = .ok (.getfield 32, 3) := by decide +kernel
theorem dX6_findLeft_40 : decode cX6_findLeft 40 = .ok (.bipush 6, 2) := by decide +kernel
theorem dX6_findLeft_42 : decode cX6_findLeft 42 = .ok (.iload_n 1, 1) := by decide +kernel
theorem dX6_findLeft_43 : decode cX6_findLeft 43 = .ok (.imul, 1) := by decide +kernel
theorem dX6_findLeft_44 : decode cX6_findLeft 44 = .ok (.iload 4, 2) := by decide +kernel
theorem dX6_findLeft_46 : decode cX6_findLeft 46 = .ok (.iadd, 1) := by decide +kernel
theorem dX6_findLeft_47 : decode cX6_findLeft 47 = .ok (.iaload, 1) := by decide +kernel
theorem dX6_findLeft_48 : decode cX6_findLeft 48 = .ok (.iload_n 3, 1) := by decide +kernel
theorem dX6_findLeft_49 : decode cX6_findLeft 49 = .ok (.invokestatic 182, 3) := by decide +kernel
theorem dX6_findLeft_52 : decode cX6_findLeft 52 = .ok (.ifCond .eq 32, 3) := by decide +kernel
theorem dX6_findLeft_55 : decode cX6_findLeft 55 = .ok (.aload_n 0, 1) := by decide +kernel
theorem dX6_findLeft_56 : decode cX6_findLeft 56 = .ok (.iload_n 3, 1) := by decide +kernel
theorem dX6_findLeft_57 : decode cX6_findLeft 57 = .ok (.aload_n 0, 1) := by decide +kernel
theorem dX6_findLeft_58 : decode cX6_findLeft 58 = .ok (.getfield 16, 3) := by decide +kernel
theorem dX6_findLeft_61 : decode cX6_findLeft 61 = .ok (.bipush 9, 2) := by decide +kernel
theorem dX6_findLeft_63 : decode cX6_findLeft 63 = .ok (.iload 4, 2) := by decide +kernel
theorem dX6_findLeft_65 : decode cX6_findLeft 65 = .ok (.imul, 1) := by decide +kernel
theorem dX6_findLeft_66 : decode cX6_findLeft 66 = .ok (.iload_n 3, 1) := by decide +kernel
theorem dX6_findLeft_67 : decode cX6_findLeft 67 = .ok (.iadd, 1) := by decide +kernel
theorem dX6_findLeft_68 : decode cX6_findLeft 68 = .ok (.iaload, 1) := by decide +kernel
theorem dX6_findLeft_69 : decode cX6_findLeft 69 = .ok (.aload_n 0, 1) := by decide +kernel
theorem dX6_findLeft_70 : decode cX6_findLeft 70 = .ok (.getfield 19, 3) := by decide +kernel
theorem dX6_findLeft_73 : decode cX6_findLeft 73 = .ok (.bipush 9, 2) := by decide +kernel
theorem dX6_findLeft_75 : decode cX6_findLeft 75 = .ok (.iload 4, 2) := by decide +kernel
theorem dX6_findLeft_77 : decode cX6_findLeft 77 = .ok (.imul, 1) := by decide +kernel
theorem dX6_findLeft_78 : decode cX6_findLeft 78 = .ok (.iload_n 3, 1) := by decide +kernel
theorem dX6_findLeft_79 : decode cX6_findLeft 79 = .ok (.iadd, 1) := by decide +kernel
theorem dX6_findLeft_80 : decode cX6_findLeft 80 = .ok (.iaload, 1) := by decide +kernel
theorem dX6_findLeft_81 : decode cX6_findLeft 81 = .ok (.invokevirtual 270, 3) := by decide +kernel
theorem dX6_findLeft_84 : decode cX6_findLeft 84 = .ok (.iinc 4 1, 3) := by decide +kernel
theorem dX6_findLeft_87 : decode cX6_findLeft 87 = .ok (.goto (-67), 3) := by decide +kernel
theorem dX6_findLeft_90 : decode cX6_findLeft 90 = .ok (.iinc 3 1, 3) := by decide +kernel
theorem dX6_findLeft_93 : decode cX6_findLeft 93 = .ok (.goto (-91), 3) := by decide +kernel
theorem dX6_findLeft_96 : decode cX6_findLeft 96 = .ok (.return_, 1) := by decide +kernel
theorem dX6_isApart_0 : decode cX6_isApart 0 = .ok (.aload_n 0, 1) := by decide +kernel
theorem dX6_isApart_1 : decode cX6_isApart 1 = .ok (.getfield 16, 3) := by decide +kernel
theorem dX6_isApart_4 : decode cX6_isApart 4 = .ok (.bipush 9, 2) := by decide +kernel
theorem dX6_isApart_6 : decode cX6_isApart 6 = .ok (.iload_n 1, 1) := by decide +kernel
theorem dX6_isApart_7 : decode cX6_isApart 7 = .ok (.imul, 1) := by decide +kernel
theorem dX6_isApart_8 : decode cX6_isApart 8 = .ok (.iload_n 2, 1) := by decide +kernel
theorem dX6_isApart_9 : decode cX6_isApart 9 = .ok (.iadd, 1) := by decide +kernel
theorem dX6_isApart_10 : decode cX6_isApart 10 = .ok (.iaload, 1) := by decide +kernel
theorem dX6_isApart_11 : decode cX6_isApart 11 = .ok (.istore_n 3, 1) := by decide +kernel
theorem dX6_isApart_12 : decode cX6_isApart 12 = .ok (.aload_n 0, 1) := by decide +kernel
theorem dX6_isApart_13 : decode cX6_isApart 13 = .ok (.getfield 19, 3) := by decide +kernel
theorem dX6_isApart_16 : decode cX6_isApart 16 = .ok (.bipush 9, 2) := by decide +kernel
theorem dX6_isApart_18 : decode cX6_isApart 18 = .ok (.iload_n 1, 1) := by decide +kernel
theorem dX6_isApart_19 : decode cX6_isApart 19 = .ok (.imul, 1) := by decide +kernel
theorem dX6_isApart_20 : decode cX6_isApart 20 = .ok (.iload_n 2, 1) := by decide +kernel
theorem dX6_isApart_21 : decode cX6_isApart 21 = .ok (.iadd, 1) := by decide +kernel
theorem dX6_isApart_22 : decode cX6_isApart 22 = .ok (.iaload, 1) := by decide +kernel
theorem dX6_isApart_23 : decode cX6_isApart 23 = .ok (.istore 4, 2) := by decide +kernel
theorem dX6_isApart_25 : decode cX6_isApart 25 = .ok (.iload_n 3, 1) := by decide +kernel
theorem dX6_isApart_26 : decode cX6_isApart 26 = .ok (.aload_n 0, 1) := by decide +kernel
theorem dX6_isApart_27 : decode cX6_isApart 27 = .ok (.getfield 256, 3) := by decide +kernel
theorem dX6_isApart_30 : decode cX6_isApart 30 = .ok (.iadd, 1) := by decide +kernel
theorem dX6_isApart_31 : decode cX6_isApart 31 = .ok (.aload_n 0, 1) := by decide +kernel
theorem dX6_isApart_32 : decode cX6_isApart 32 = .ok (.getfield 75, 3) := by decide +kernel
theorem dX6_isApart_35 : decode cX6_isApart 35 = .ok (.iconst 4, 1) := by decide +kernel
theorem dX6_isApart_36 : decode cX6_isApart 36 = .ok (.iload_n 2, 1) := by decide +kernel
theorem dX6_isApart_37 : decode cX6_isApart 37 = .ok (.imul, 1) := by decide +kernel
theorem dX6_isApart_38 : decode cX6_isApart 38 = .ok (.iaload, 1) := by decide +kernel
theorem dX6_isApart_39 : decode cX6_isApart 39 = .ok (.if_icmp .lt 22, 3) := by decide +kernel
theorem dX6_isApart_42 : decode cX6_isApart 42 = .ok (.iload_n 3, 1) := by decide +kernel
theorem dX6_isApart_43 : decode cX6_isApart 43 = .ok (.aload_n 0, 1) := by decide +kernel
theorem dX6_isApart_44 : decode cX6_isApart 44 = .ok (.getfield 256, 3) := by decide +kernel
theorem dX6_isApart_47 : decode cX6_isApart 47 = .ok (.isub, 1) := by decide +kernel
theorem dX6_isApart_48 : decode cX6_isApart 48 = .ok (.aload_n 0, 1) := by decide +kernel
theorem dX6_isApart_49 : decode cX6_isApart 49 = .ok (.getfield 75, 3) := by decide +kernel
theorem dX6_isApart_52 : decode cX6_isApart 52 = .ok (.iconst 4, 1) := by decide +kernel
theorem dX6_isApart_53 : decode cX6_isApart 53 = .ok (.iload_n 2, 1) := by decide +kernel
theorem dX6_isApart_54 : decode cX6_isApart 54 = .ok (.imul, 1) := by decide +kernel
theorem dX6_isApart_55 : decode cX6_isApart 55 = .ok (.iconst 1, 1) := by decide +kernel
theorem dX6_isApart_56 : decode cX6_isApart 56 = .ok (.iadd, 1) := by decide +kernel
theorem dX6_isApart_57 : decode cX6_isApart 57 = .ok (.iaload, 1) := by decide +kernel
theorem dX6_isApart_58 : decode cX6_isApart 58 = .ok (.if_icmp .le 7, 3) := by decide +kernel
theorem dX6_isApart_61 : decode cX6_isApart 61 = .ok (.iconst 1, 1) := by decide +kernel
theorem dX6_isApart_62 : decode cX6_isApart 62 = .ok (.goto 4, 3) := by decide +kernel
theorem dX6_isApart_65 : decode cX6_isApart 65 = .ok (.iconst 0, 1) := by decide +kernel
theorem dX6_isApart_66 : decode cX6_isApart 66 = .ok (.istore 5, 2) := by decide +kernel
theorem dX6_isApart_68 : decode cX6_isApart 68 = .ok (.iload 4, 2) := by decide +kernel
theorem dX6_isApart_70 : decode cX6_isApart 70 = .ok (.aload_n 0, 1) := by decide +kernel
theorem dX6_isApart_71 : decode cX6_isApart 71 = .ok (.getfield 256, 3) := by decide +kernel
theorem dX6_isApart_74 : decode cX6_isApart 74 = .ok (.iadd, 1) := by decide +kernel
theorem dX6_isApart_75 : decode cX6_isApart 75 = .ok (.aload_n 0, 1) := by decide +kernel
theorem dX6_isApart_76 : decode cX6_isApart 76 = .ok (.getfield 75, 3) := by decide +kernel
theorem dX6_isApart_79 : decode cX6_isApart 79 = .ok (.iconst 4, 1) := by decide +kernel
theorem dX6_isApart_80 : decode cX6_isApart 80 = .ok (.iload_n 2, 1) := by decide +kernel
theorem dX6_isApart_81 : decode cX6_isApart 81 = .ok (.imul, 1) := by decide +kernel
theorem dX6_isApart_82 : decode cX6_isApart 82 = .ok (.iconst 2, 1) := by decide +kernel
theorem dX6_isApart_83 : decode cX6_isApart 83 = .ok (.iadd, 1) := by decide +kernel
theorem dX6_isApart_84 : decode cX6_isApart 84 = .ok (.iaload, 1) := by decide +kernel
theorem dX6_isApart_85 : decode cX6_isApart 85 = .ok (.if_icmp .lt 23, 3) := by decide +kernel
theorem dX6_isApart_88 : decode cX6_isApart 88 = .ok (.iload 4, 2) := by decide +kernel
theorem dX6_isApart_90 : decode cX6_isApart 90 = .ok (.aload_n 0, 1) := by decide +kernel
theorem dX6_isApart_91 : decode cX6_isApart 91 = .ok (.getfield 256, 3) := by decide +kernel
theorem dX6_isApart_94 : decode cX6_isApart 94 = .ok (.isub, 1) := by decide +kernel
theorem dX6_isApart_95 : decode cX6_isApart 95 = .ok (.aload_n 0, 1) := by decide +kernel
theorem dX6_isApart_96 : decode cX6_isApart 96 = .ok (.getfield 75, 3) := by decide +kernel
theorem dX6_isApart_99 : decode cX6_isApart 99 = .ok (.iconst 4, 1) := by decide +kernel
theorem dX6_isApart_100 : decode cX6_isApart 100 = .ok (.iload_n 2, 1) := by decide +kernel
theorem dX6_isApart_101 : decode cX6_isApart 101 = .ok (.imul, 1) := by decide +kernel
theorem dX6_isApart_102 : decode cX6_isApart 102 = .ok (.iconst 3, 1) := by decide +kernel
theorem dX6_isApart_103 : decode cX6_isApart 103 = .ok (.iadd, 1) := by decide +kernel
theorem dX6_isApart_104 : decode cX6_isApart 104 = .ok (.iaload, 1) := by decide +kernel
theorem dX6_isApart_105 : decode cX6_isApart 105 = .ok (.if_icmp .le 7, 3) := by decide +kernel
theorem dX6_isApart_108 : decode cX6_isApart 108 = .ok (.iconst 1, 1) := by decide +kernel
theorem dX6_isApart_109 : decode cX6_isApart 109 = .ok (.goto 4, 3) := by decide +kernel
theorem dX6_isApart_112 : decode cX6_isApart 112 = .ok (.iconst 0, 1) := by decide +kernel
theorem dX6_isApart_113 : decode cX6_isApart 113 = .ok (.istore 6, 2) := by decide +kernel
theorem dX6_isApart_115 : decode cX6_isApart 115 = .ok (.aload_n 0, 1) := by decide +kernel
theorem dX6_isApart_116 : decode cX6_isApart 116 = .ok (.getfield 72, 3) := by decide +kernel
theorem dX6_isApart_119 : decode cX6_isApart 119 = .ok (.iload_n 2, 1) := by decide +kernel
theorem dX6_isApart_120 : decode cX6_isApart 120 = .ok (.baload, 1) := by decide +kernel
theorem dX6_isApart_121 : decode cX6_isApart 121 = .ok (.ifCond .ne 17, 3) := by decide +kernel
theorem dX6_isApart_124 : decode cX6_isApart 124 = .ok (.iload 5, 2) := by decide +kernel
theorem dX6_isApart_126 : decode cX6_isApart 126 = .ok (.ifCond .ne 8, 3) := by decide +kernel
theorem dX6_isApart_129 : decode cX6_isApart 129 = .ok (.iload 6, 2) := by decide +kernel
theorem dX6_isApart_131 : decode cX6_isApart 131 = .ok (.ifCond .eq 7, 3) := by decide +kernel
theorem dX6_isApart_134 : decode cX6_isApart 134 = .ok (.iconst 1, 1) := by decide +kernel
theorem dX6_isApart_135 : decode cX6_isApart 135 = .ok (.goto 4, 3) := by decide +kernel
theorem dX6_isApart_138 : decode cX6_isApart 138 = .ok (.iconst 0, 1) := by decide +kernel
theorem dX6_isApart_139 : decode cX6_isApart 139 = .ok (.ireturn, 1) := by decide +kernel
theorem dX6_isWithin_0 : decode cX6_isWithin 0 = .ok (.aload_n 0, 1) := by decide +kernel
theorem dX6_isWithin_1 : decode cX6_isWithin 1 = .ok (.getfield 16, 3) := by decide +kernel
theorem dX6_isWithin_4 : decode cX6_isWithin 4 = .ok (.bipush 9, 2) := by decide +kernel
theorem dX6_isWithin_6 : decode cX6_isWithin 6 = .ok (.iload_n 1, 1) := by decide +kernel
theorem dX6_isWithin_7 : decode cX6_isWithin 7 = .ok (.imul, 1) := by decide +kernel
theorem dX6_isWithin_8 : decode cX6_isWithin 8 = .ok (.iload_n 2, 1) := by decide +kernel
theorem dX6_isWithin_9 : decode cX6_isWithin 9 = .ok (.iadd, 1) := by decide +kernel
theorem dX6_isWithin_10 : decode cX6_isWithin 10 = .ok (.iaload, 1) := by decide +kernel
theorem dX6_isWithin_11 : decode cX6_isWithin 11 = .ok (.istore_n 3, 1) := by decide +kernel
theorem dX6_isWithin_12 : decode cX6_isWithin 12 = .ok (.aload_n 0, 1) := by decide +kernel
theorem dX6_isWithin_13 : decode cX6_isWithin 13 = .ok (.getfield 19, 3) := by decide +kernel
theorem dX6_isWithin_16 : decode cX6_isWithin 16 = .ok (.bipush 9, 2) := by decide +kernel
theorem dX6_isWithin_18 : decode cX6_isWithin 18 = .ok (.iload_n 1, 1) := by decide +kernel
theorem dX6_isWithin_19 : decode cX6_isWithin 19 = .ok (.imul, 1) := by decide +kernel
theorem dX6_isWithin_20 : decode cX6_isWithin 20 = .ok (.iload_n 2, 1) := by decide +kernel
theorem dX6_isWithin_21 : decode cX6_isWithin 21 = .ok (.iadd, 1) := by decide +kernel
theorem dX6_isWithin_22 : decode cX6_isWithin 22 = .ok (.iaload, 1) := by decide +kernel
theorem dX6_isWithin_23 : decode cX6_isWithin 23 = .ok (.istore 4, 2) := by decide +kernel
theorem dX6_isWithin_25 : decode cX6_isWithin 25 = .ok (.aload_n 0, 1) := by decide +kernel
theorem dX6_isWithin_26 : decode cX6_isWithin 26 = .ok (.getfield 75, 3) := by decide +kernel
theorem dX6_isWithin_29 : decode cX6_isWithin 29 = .ok (.iconst 4, 1) := by decide +kernel
theorem dX6_isWithin_30 : decode cX6_isWithin 30 = .ok (.iload_n 2, 1) := by decide +kernel
theorem dX6_isWithin_31 : decode cX6_isWithin 31 = .ok (.imul, 1) := by decide +kernel
theorem dX6_isWithin_32 : decode cX6_isWithin 32 = .ok (.iaload, 1) := by decide +kernel
theorem dX6_isWithin_33 : decode cX6_isWithin 33 = .ok (.iload_n 3, 1) := by decide +kernel
theorem dX6_isWithin_34 : decode cX6_isWithin 34 = .ok (.aload_n 0, 1) := by decide +kernel
theorem dX6_isWithin_35 : decode cX6_isWithin 35 = .ok (.getfield 256, 3) := by decide +kernel
theorem dX6_isWithin_38 : decode cX6_isWithin 38 = .ok (.isub, 1) := by decide +kernel
theorem dX6_isWithin_39 : decode cX6_isWithin 39 = .ok (.if_icmp .lt 26, 3) := by decide +kernel
theorem dX6_isWithin_42 : decode cX6_isWithin 42 = .ok (.aload_n 0, 1) := by decide +kernel
theorem dX6_isWithin_43 : decode cX6_isWithin 43 = .ok (.getfield 75, 3) := by decide +kernel
theorem dX6_isWithin_46 : decode cX6_isWithin 46 = .ok (.iconst 4, 1) := by decide +kernel
theorem dX6_isWithin_47 : decode cX6_isWithin 47 = .ok (.iload_n 2, 1) := by decide +kernel
theorem dX6_isWithin_48 : decode cX6_isWithin 48 = .ok (.imul, 1) := by decide +kernel
theorem dX6_isWithin_49 : decode cX6_isWithin 49 = .ok (.iconst 1, 1) := by decide +kernel
theorem dX6_isWithin_50 : decode cX6_isWithin 50 = .ok (.iadd, 1) := by decide +kernel
theorem dX6_isWithin_51 : decode cX6_isWithin 51 = .ok (.iaload, 1) := by decide +kernel
theorem dX6_isWithin_52 : decode cX6_isWithin 52 = .ok (.iload_n 3, 1) := by decide +kernel
theorem dX6_isWithin_53 : decode cX6_isWithin 53 = .ok (.aload_n 0, 1) := by decide +kernel
theorem dX6_isWithin_54 : decode cX6_isWithin 54 = .ok (.getfield 256, 3) := by decide +kernel
theorem dX6_isWithin_57 : decode cX6_isWithin 57 = .ok (.iadd, 1) := by decide +kernel
theorem dX6_isWithin_58 : decode cX6_isWithin 58 = .ok (.if_icmp .gt 7, 3) := by decide +kernel
theorem dX6_isWithin_61 : decode cX6_isWithin 61 = .ok (.iconst 1, 1) := by decide +kernel
theorem dX6_isWithin_62 : decode cX6_isWithin 62 = .ok (.goto 4, 3) := by decide +kernel
theorem dX6_isWithin_65 : decode cX6_isWithin 65 = .ok (.iconst 0, 1) := by decide +kernel
theorem dX6_isWithin_66 : decode cX6_isWithin 66 = .ok (.istore 5, 2) := by decide +kernel
theorem dX6_isWithin_68 : decode cX6_isWithin 68 = .ok (.aload_n 0, 1) := by decide +kernel
theorem dX6_isWithin_69 : decode cX6_isWithin 69 = .ok (.getfield 72, 3) := by decide +kernel
theorem dX6_isWithin_72 : decode cX6_isWithin 72 = .ok (.iload_n 2, 1) := by decide +kernel
theorem dX6_isWithin_73 : decode cX6_isWithin 73 = .ok (.baload, 1) := by decide +kernel
theorem dX6_isWithin_74 : decode cX6_isWithin 74 = .ok (.ifCond .ne 52, 3) := by decide +kernel
theorem dX6_isWithin_77 : decode cX6_isWithin 77 = .ok (.iload 5, 2) := by decide +kernel
theorem dX6_isWithin_79 : decode cX6_isWithin 79 = .ok (.ifCond .eq 47, 3) := by decide +kernel
theorem dX6_isWithin_82 : decode cX6_isWithin 82 = .ok (.aload_n 0, 1) := by decide +kernel
theorem dX6_isWithin_83 : decode cX6_isWithin 83 = .ok (.getfield 75, 3) := by decide +kernel
theorem dX6_isWithin_86 : decode cX6_isWithin 86 = .ok (.iconst 4, 1) := by decide +kernel
theorem dX6_isWithin_87 : decode cX6_isWithin 87 = .ok (.iload_n 2, 1) := by decide +kernel
theorem dX6_isWithin_88 : decode cX6_isWithin 88 = .ok (.imul, 1) := by decide +kernel
theorem dX6_isWithin_89 : decode cX6_isWithin 89 = .ok (.iconst 2, 1) := by decide +kernel
theorem dX6_isWithin_90 : decode cX6_isWithin 90 = .ok (.iadd, 1) := by decide +kernel
theorem dX6_isWithin_91 : decode cX6_isWithin 91 = .ok (.iaload, 1) := by decide +kernel
theorem dX6_isWithin_92 : decode cX6_isWithin 92 = .ok (.iload 4, 2) := by decide +kernel
theorem dX6_isWithin_94 : decode cX6_isWithin 94 = .ok (.aload_n 0, 1) := by decide +kernel
theorem dX6_isWithin_95 : decode cX6_isWithin 95 = .ok (.getfield 256, 3) := by decide +kernel
theorem dX6_isWithin_98 : decode cX6_isWithin 98 = .ok (.isub, 1) := by decide +kernel
theorem dX6_isWithin_99 : decode cX6_isWithin 99 = .ok (.if_icmp .lt 27, 3) := by decide +kernel
theorem dX6_isWithin_102 : decode cX6_isWithin 102 = .ok (.aload_n 0, 1) := by decide +kernel
theorem dX6_isWithin_103 : decode cX6_isWithin 103 = .ok (.getfield 75, 3) := by decide +kernel
theorem dX6_isWithin_106 : decode cX6_isWithin 106 = .ok (.iconst 4, 1) := by decide +kernel
theorem dX6_isWithin_107 : decode cX6_isWithin 107 = .ok (.iload_n 2, 1) := by decide +kernel
theorem dX6_isWithin_108 : decode cX6_isWithin 108 = .ok (.imul, 1) := by decide +kernel
theorem dX6_isWithin_109 : decode cX6_isWithin 109 = .ok (.iconst 3, 1) := by decide +kernel
theorem dX6_isWithin_110 : decode cX6_isWithin 110 = .ok (.iadd, 1) := by decide +kernel
theorem dX6_isWithin_111 : decode cX6_isWithin 111 = .ok (.iaload, 1) := by decide +kernel
theorem dX6_isWithin_112 : decode cX6_isWithin 112 = .ok (.iload 4, 2) := by decide +kernel
theorem dX6_isWithin_114 : decode cX6_isWithin 114 = .ok (.aload_n 0, 1) := by decide +kernel
theorem dX6_isWithin_115 : decode cX6_isWithin 115 = .ok (.getfield 256, 3) := by decide +kernel
theorem dX6_isWithin_118 : decode cX6_isWithin 118 = .ok (.iadd, 1) := by decide +kernel
theorem dX6_isWithin_119 : decode cX6_isWithin 119 = .ok (.if_icmp .gt 7, 3) := by decide +kernel
theorem dX6_isWithin_122 : decode cX6_isWithin 122 = .ok (.iconst 1, 1) := by decide +kernel
theorem dX6_isWithin_123 : decode cX6_isWithin 123 = .ok (.goto 4, 3) := by decide +kernel
theorem dX6_isWithin_126 : decode cX6_isWithin 126 = .ok (.iconst 0, 1) := by decide +kernel
theorem dX6_isWithin_127 : decode cX6_isWithin 127 = .ok (.ireturn, 1) := by decide +kernel
theorem dX6_offTimes_0 : decode cX6_offTimes 0 = .ok (.iconst 0, 1) := by decide +kernel
theorem dX6_offTimes_1 : decode cX6_offTimes 1 = .ok (.istore_n 3, 1) := by decide +kernel
theorem dX6_offTimes_2 : decode cX6_offTimes 2 = .ok (.iconst 0, 1) := by decide +kernel
theorem dX6_offTimes_3 : decode cX6_offTimes 3 = .ok (.istore 4, 2) := by decide +kernel
theorem dX6_offTimes_5 : decode cX6_offTimes 5 = .ok (.iload 4, 2) := by decide +kernel
theorem dX6_offTimes_7 : decode cX6_offTimes 7 = .ok (.aload_n 0, 1) := by decide +kernel
theorem dX6_offTimes_8 : decode cX6_offTimes 8 = .ok (.getfield 111, 3) := by decide +kernel
theorem dX6_offTimes_11 : decode cX6_offTimes 11 = .ok (.if_icmp .ge 46, 3) := by decide +kernel
theorem dX6_offTimes_14 : decode cX6_offTimes 14 = .ok (.iload_n 3, 1) := by decide +kernel
theorem dX6_offTimes_15 : decode cX6_offTimes 15 = .ok (.aload_n 0, 1) := by decide +kernel
theorem dX6_offTimes_16 : decode cX6_offTimes 16 = .ok (.getfield 32, 3) := by decide +kernel
theorem dX6_offTimes_19 : decode cX6_offTimes 19 = .ok (.bipush 6, 2) := by decide +kernel
theorem dX6_offTimes_21 : decode cX6_offTimes 21 = .ok (.iload_n 1, 1) := by decide +kernel
theorem dX6_offTimes_22 : decode cX6_offTimes 22 = .ok (.imul, 1) := by decide +kernel
theorem dX6_offTimes_23 : decode cX6_offTimes 23 = .ok (.iload_n 2, 1) := by decide +kernel
theorem dX6_offTimes_24 : decode cX6_offTimes 24 = .ok (.iadd, 1) := by decide +kernel
theorem dX6_offTimes_25 : decode cX6_offTimes 25 = .ok (.iaload, 1) := by decide +kernel
theorem dX6_offTimes_26 : decode cX6_offTimes 26 = .ok (.iload 4, 2) := by decide +kernel
theorem dX6_offTimes_28 : decode cX6_offTimes 28 = .ok (.invokestatic 182, 3) := by decide +kernel
theorem dX6_offTimes_31 : decode cX6_offTimes 31 = .ok (.ifCond .eq 17, 3) := by decide +kernel
theorem dX6_offTimes_34 : decode cX6_offTimes 34 = .ok (.aload_n 0, 1) := by decide +kernel
theorem dX6_offTimes_35 : decode cX6_offTimes 35 = .ok (.iload_n 2, 1) := by decide +kernel
theorem dX6_offTimes_36 : decode cX6_offTimes 36 = .ok (.iload 4, 2) := by decide +kernel
theorem dX6_offTimes_38 : decode cX6_offTimes 38 = .ok (.invokevirtual 274, 3) := by decide +kernel
theorem dX6_offTimes_41 : decode cX6_offTimes 41 = .ok (.ifCond .eq 7, 3) := by decide +kernel
theorem dX6_offTimes_44 : decode cX6_offTimes 44 = .ok (.iconst 1, 1) := by decide +kernel
theorem dX6_offTimes_45 : decode cX6_offTimes 45 = .ok (.goto 4, 3) := by decide +kernel
theorem dX6_offTimes_48 : decode cX6_offTimes 48 = .ok (.iconst 0, 1) := by decide +kernel
theorem dX6_offTimes_49 : decode cX6_offTimes 49 = .ok (.iadd, 1) := by decide +kernel
theorem dX6_offTimes_50 : decode cX6_offTimes 50 = .ok (.istore_n 3, 1) := by decide +kernel
theorem dX6_offTimes_51 : decode cX6_offTimes 51 = .ok (.iinc 4 1, 3) := by decide +kernel
theorem dX6_offTimes_54 : decode cX6_offTimes 54 = .ok (.goto (-49), 3) := by decide +kernel
theorem dX6_offTimes_57 : decode cX6_offTimes 57 = .ok (.iload_n 3, 1) := by decide +kernel
theorem dX6_offTimes_58 : decode cX6_offTimes 58 = .ok (.ireturn, 1) := by decide +kernel
theorem dX6_couldBe_0 : decode cX6_couldBe 0 = .ok (.iconst 0, 1) := by decide +kernel
theorem dX6_couldBe_1 : decode cX6_couldBe 1 = .ok (.istore_n 3, 1) := by decide +kernel
theorem dX6_couldBe_2 : decode cX6_couldBe 2 = .ok (.iconst 0, 1) := by decide +kernel
theorem dX6_couldBe_3 : decode cX6_couldBe 3 = .ok (.istore 4, 2) := by decide +kernel
theorem dX6_couldBe_5 : decode cX6_couldBe 5 = .ok (.iload 4, 2) := by decide +kernel
theorem dX6_couldBe_7 : decode cX6_couldBe 7 = .ok (.aload_n 0, 1) := by decide +kernel
theorem dX6_couldBe_8 : decode cX6_couldBe 8 = .ok (.getfield 111, 3) := by decide +kernel
theorem dX6_couldBe_11 : decode cX6_couldBe 11 = .ok (.if_icmp .ge 48, 3) := by decide +kernel
theorem dX6_couldBe_14 : decode cX6_couldBe 14 = .ok (.iload_n 3, 1) := by decide +kernel
theorem dX6_couldBe_15 : decode cX6_couldBe 15 = .ok (.ifCond .ne 32, 3) := by decide +kernel
theorem dX6_couldBe_18 : decode cX6_couldBe 18 = .ok (.aload_n 0, 1) := by decide +kernel
theorem dX6_couldBe_19 : decode cX6_couldBe 19 = .ok (.getfield 32, 3) := by decide +kernel
theorem dX6_couldBe_22 : decode cX6_couldBe 22 = .ok (.bipush 6, 2) := by decide +kernel
theorem dX6_couldBe_24 : decode cX6_couldBe 24 = .ok (.iload_n 1, 1) := by decide +kernel
theorem dX6_couldBe_25 : decode cX6_couldBe 25 = .ok (.imul, 1) := by decide +kernel
theorem dX6_couldBe_26 : decode cX6_couldBe 26 = .ok (.iload_n 2, 1) := by decide +kernel
theorem dX6_couldBe_27 : decode cX6_couldBe 27 = .ok (.iadd, 1) := by decide +kernel
theorem dX6_couldBe_28 : decode cX6_couldBe 28 = .ok (.iaload, 1) := by decide +kernel
theorem dX6_couldBe_29 : decode cX6_couldBe 29 = .ok (.iload 4, 2) := by decide +kernel
theorem dX6_couldBe_31 : decode cX6_couldBe 31 = .ok (.invokestatic 182, 3) := by decide +kernel
theorem dX6_couldBe_34 : decode cX6_couldBe 34 = .ok (.ifCond .eq 13, 3) := by decide +kernel
theorem dX6_couldBe_37 : decode cX6_couldBe 37 = .ok (.aload_n 0, 1) := by decide +kernel
theorem dX6_couldBe_38 : decode cX6_couldBe 38 = .ok (.iload_n 2, 1) := by decide +kernel
theorem dX6_couldBe_39 : decode cX6_couldBe 39 = .ok (.iload 4, 2) := by decide +kernel
theorem dX6_couldBe_41 : decode cX6_couldBe 41 = .ok (.invokevirtual 277, 3) := by decide +kernel
theorem dX6_couldBe_44 : decode cX6_couldBe 44 = .ok (.ifCond .ne 7, 3) := by decide +kernel
theorem dX6_couldBe_47 : decode cX6_couldBe 47 = .ok (.iconst 1, 1) := by decide +kernel
theorem dX6_couldBe_48 : decode cX6_couldBe 48 = .ok (.goto 4, 3) := by decide +kernel
theorem dX6_couldBe_51 : decode cX6_couldBe 51 = .ok (.iconst 0, 1) := by decide +kernel
theorem dX6_couldBe_52 : decode cX6_couldBe 52 = .ok (.istore_n 3, 1) := by decide +kernel
theorem dX6_couldBe_53 : decode cX6_couldBe 53 = .ok (.iinc 4 1, 3) := by decide +kernel
theorem dX6_couldBe_56 : decode cX6_couldBe 56 = .ok (.goto (-51), 3) := by decide +kernel
theorem dX6_couldBe_59 : decode cX6_couldBe 59 = .ok (.iload_n 3, 1) := by decide +kernel
theorem dX6_couldBe_60 : decode cX6_couldBe 60 = .ok (.ireturn, 1) := by decide +kernel
theorem dX6_quarrels_0 : decode cX6_quarrels 0 = .ok (.iconst (-1), 1) := by decide +kernel
theorem dX6_quarrels_1 : decode cX6_quarrels 1 = .ok (.istore_n 3, 1) := by decide +kernel
theorem dX6_quarrels_2 : decode cX6_quarrels 2 = .ok (.iconst (-1), 1) := by decide +kernel
theorem dX6_quarrels_3 : decode cX6_quarrels 3 = .ok (.istore 4, 2) := by decide +kernel
theorem dX6_quarrels_5 : decode cX6_quarrels 5 = .ok (.iconst 0, 1) := by decide +kernel
theorem dX6_quarrels_6 : decode cX6_quarrels 6 = .ok (.istore 5, 2) := by decide +kernel
theorem dX6_quarrels_8 : decode cX6_quarrels 8 = .ok (.iload 5, 2) := by decide +kernel
theorem dX6_quarrels_10 : decode cX6_quarrels 10 = .ok (.bipush 6, 2) := by decide +kernel
theorem dX6_quarrels_12 : decode cX6_quarrels 12 = .ok (.if_icmp .ge 47, 3) := by decide +kernel
theorem dX6_quarrels_15 : decode cX6_quarrels 15 = .ok (.iload_n 2, 1) := by decide +kernel
theorem dX6_quarrels_16 : decode cX6_quarrels 16 = .ok (.iload 5, 2) := by decide +kernel
theorem dX6_quarrels_18 : decode cX6_quarrels 18 = .ok (.invokestatic 182, 3) := by decide +kernel
theorem dX6_quarrels_21 : decode cX6_quarrels 21 = .ok (.ifCond .eq 8, 3) := by decide +kernel
theorem dX6_quarrels_24 : decode cX6_quarrels 24 = .ok (.iload 5, 2) := by decide +kernel
theorem dX6_quarrels_26 : decode cX6_quarrels 26 = .ok (.goto 5, 3) := by decide +kernel
theorem dX6_quarrels_29 : decode cX6_quarrels 29 = .ok (.iload 4, 2) := by decide +kernel
theorem dX6_quarrels_31 : decode cX6_quarrels 31 = .ok (.istore 4, 2) := by decide +kernel
theorem dX6_quarrels_33 : decode cX6_quarrels 33 = .ok (.iload_n 2, 1) := by decide +kernel
theorem dX6_quarrels_34 : decode cX6_quarrels 34 = .ok (.iload 5, 2) := by decide +kernel
theorem dX6_quarrels_36 : decode cX6_quarrels 36 = .ok (.invokestatic 182, 3) := by decide +kernel
theorem dX6_quarrels_39 : decode cX6_quarrels 39 = .ok (.ifCond .eq 12, 3) := by decide +kernel
theorem dX6_quarrels_42 : decode cX6_quarrels 42 = .ok (.iload_n 3, 1) := by decide +kernel
theorem dX6_quarrels_43 : decode cX6_quarrels 43 = .ok (.ifCond .ge 8, 3) := by decide +kernel
theorem dX6_quarrels_46 : decode cX6_quarrels 46 = .ok (.iload 5, 2) := by decide +kernel
theorem dX6_quarrels_48 : decode cX6_quarrels 48 = .ok (.goto 4, 3) := by decide +kernel
theorem dX6_quarrels_51 : decode cX6_quarrels 51 = .ok (.iload_n 3, 1) := by decide +kernel
theorem dX6_quarrels_52 : decode cX6_quarrels 52 = .ok (.istore_n 3, 1) := by decide +kernel
theorem dX6_quarrels_53 : decode cX6_quarrels 53 = .ok (.iinc 5 1, 3) := by decide +kernel
theorem dX6_quarrels_56 : decode cX6_quarrels 56 = .ok (.goto (-48), 3) := by decide +kernel
theorem dX6_quarrels_59 : decode cX6_quarrels 59 = .ok (.iconst 0, 1) := by decide +kernel
theorem dX6_quarrels_60 : decode cX6_quarrels 60 = .ok (.istore 5, 2) := by decide +kernel
theorem dX6_quarrels_62 : decode cX6_quarrels 62 = .ok (.iconst 0, 1) := by decide +kernel
theorem dX6_quarrels_63 : decode cX6_quarrels 63 = .ok (.istore 6, 2) := by decide +kernel
theorem dX6_quarrels_65 : decode cX6_quarrels 65 = .ok (.iload 6, 2) := by decide +kernel
theorem dX6_quarrels_67 : decode cX6_quarrels 67 = .ok (.aload_n 0, 1) := by decide +kernel
theorem dX6_quarrels_68 : decode cX6_quarrels 68 = .ok (.getfield 111, 3) := by decide +kernel
theorem dX6_quarrels_71 : decode cX6_quarrels 71 = .ok (.if_icmp .ge 178, 3) := by decide +kernel
theorem dX6_quarrels_74 : decode cX6_quarrels 74 = .ok (.iload_n 3, 1) := by decide +kernel
theorem dX6_quarrels_75 : decode cX6_quarrels 75 = .ok (.ifCond .lt 174, 3) := by decide +kernel
theorem dX6_quarrels_78 : decode cX6_quarrels 78 = .ok (.iload 4, 2) := by decide +kernel
theorem dX6_quarrels_80 : decode cX6_quarrels 80 = .ok (.iload_n 3, 1) := by decide +kernel
theorem dX6_quarrels_81 : decode cX6_quarrels 81 = .ok (.if_icmp .eq 168, 3) := by decide +kernel
theorem dX6_quarrels_84 : decode cX6_quarrels 84 = .ok (.aload_n 0, 1) := by decide +kernel
theorem dX6_quarrels_85 : decode cX6_quarrels 85 = .ok (.getfield 72, 3) := by decide +kernel
theorem dX6_quarrels_88 : decode cX6_quarrels 88 = .ok (.iload 6, 2) := by decide +kernel
theorem dX6_quarrels_90 : decode cX6_quarrels 90 = .ok (.baload, 1) := by decide +kernel
theorem dX6_quarrels_91 : decode cX6_quarrels 91 = .ok (.ifCond .eq 46, 3) := by decide +kernel
theorem dX6_quarrels_94 : decode cX6_quarrels 94 = .ok (.aload_n 0, 1) := by decide +kernel
theorem dX6_quarrels_95 : decode cX6_quarrels 95 = .ok (.getfield 32, 3) := by decide +kernel
theorem dX6_quarrels_98 : decode cX6_quarrels 98 = .ok (.bipush 6, 2) := by decide +kernel
theorem dX6_quarrels_100 : decode cX6_quarrels 100 = .ok (.iload_n 1, 1) := by decide +kernel
theorem dX6_quarrels_101 : decode cX6_quarrels 101 = .ok (.imul, 1) := by decide +kernel
theorem dX6_quarrels_102 : decode cX6_quarrels 102 = .ok (.iload_n 3, 1) := by decide +kernel
theorem dX6_quarrels_103 : decode cX6_quarrels 103 = .ok (.iadd, 1) := by decide +kernel
theorem dX6_quarrels_104 : decode cX6_quarrels 104 = .ok (.iaload, 1) := by decide +kernel
theorem dX6_quarrels_105 : decode cX6_quarrels 105 = .ok (.iload 6, 2) := by decide +kernel
theorem dX6_quarrels_107 : decode cX6_quarrels 107 = .ok (.invokestatic 182, 3) := by decide +kernel
theorem dX6_quarrels_110 : decode cX6_quarrels 110 = .ok (.ifCond .eq 27, 3) := by decide +kernel
theorem dX6_quarrels_113 : decode cX6_quarrels 113 = .ok (.aload_n 0, 1) := by decide +kernel
theorem dX6_quarrels_114 : decode cX6_quarrels 114 = .ok (.getfield 32, 3) := by decide +kernel
theorem dX6_quarrels_117 : decode cX6_quarrels 117 = .ok (.bipush 6, 2) := by decide +kernel
theorem dX6_quarrels_119 : decode cX6_quarrels 119 = .ok (.iload_n 1, 1) := by decide +kernel
theorem dX6_quarrels_120 : decode cX6_quarrels 120 = .ok (.imul, 1) := by decide +kernel
theorem dX6_quarrels_121 : decode cX6_quarrels 121 = .ok (.iload 4, 2) := by decide +kernel
theorem dX6_quarrels_123 : decode cX6_quarrels 123 = .ok (.iadd, 1) := by decide +kernel
theorem dX6_quarrels_124 : decode cX6_quarrels 124 = .ok (.iaload, 1) := by decide +kernel
theorem dX6_quarrels_125 : decode cX6_quarrels 125 = .ok (.iload 6, 2) := by decide +kernel
theorem dX6_quarrels_127 : decode cX6_quarrels 127 = .ok (.invokestatic 182, 3) := by decide +kernel
theorem dX6_quarrels_130 : decode cX6_quarrels 130 = .ok (.ifCond .eq 7, 3) := by decide +kernel
theorem dX6_quarrels_133 : decode cX6_quarrels 133 = .ok (.iconst 1, 1) := by decide +kernel
theorem dX6_quarrels_134 : decode cX6_quarrels 134 = .ok (.goto 4, 3) := by decide +kernel
theorem dX6_quarrels_137 : decode cX6_quarrels 137 = .ok (.iconst 0, 1) := by decide +kernel
theorem dX6_quarrels_138 : decode cX6_quarrels 138 = .ok (.istore 7, 2) := by decide +kernel
theorem dX6_quarrels_140 : decode cX6_quarrels 140 = .ok (.aload_n 0, 1) := by decide +kernel
theorem dX6_quarrels_141 : decode cX6_quarrels 141 = .ok (.getfield 16, 3) := by decide +kernel
theorem dX6_quarrels_144 : decode cX6_quarrels 144 = .ok (.bipush 9, 2) := by decide +kernel
theorem dX6_quarrels_146 : decode cX6_quarrels 146 = .ok (.iload_n 3, 1) := by decide +kernel
theorem dX6_quarrels_147 : decode cX6_quarrels 147 = .ok (.imul, 1) := by decide +kernel
theorem dX6_quarrels_148 : decode cX6_quarrels 148 = .ok (.iload 6, 2) := by decide +kernel
theorem dX6_quarrels_150 : decode cX6_quarrels 150 = .ok (.iadd, 1) := by decide +kernel
theorem dX6_quarrels_151 : decode cX6_quarrels 151 = .ok (.iaload, 1) := by decide +kernel
theorem dX6_quarrels_152 : decode cX6_quarrels 152 = .ok (.aload_n 0, 1) := by decide +kernel
theorem dX6_quarrels_153 : decode cX6_quarrels 153 = .ok (.getfield 16, 3) := by decide +kernel
theorem dX6_quarrels_156 : decode cX6_quarrels 156 = .ok (.bipush 9, 2) := by decide +kernel
theorem dX6_quarrels_158 : decode cX6_quarrels 158 = .ok (.iload 4, 2) := by decide +kernel
theorem dX6_quarrels_160 : decode cX6_quarrels 160 = .ok (.imul, 1) := by decide +kernel
theorem dX6_quarrels_161 : decode cX6_quarrels 161 = .ok (.iload 6, 2) := by decide +kernel
theorem dX6_quarrels_163 : decode cX6_quarrels 163 = .ok (.iadd, 1) := by decide +kernel
theorem dX6_quarrels_164 : decode cX6_quarrels 164 = .ok (.iaload, 1) := by decide +kernel
theorem dX6_quarrels_165 : decode cX6_quarrels 165 = .ok (.isub, 1) := by decide +kernel
theorem dX6_quarrels_166 : decode cX6_quarrels 166 = .ok (.invokestatic 193, 3) := by decide +kernel
theorem dX6_quarrels_169 : decode cX6_quarrels 169 = .ok (.iconst 2, 1) := by decide +kernel
theorem dX6_quarrels_170 : decode cX6_quarrels 170 = .ok (.aload_n 0, 1) := by decide +kernel
theorem dX6_quarrels_171 : decode cX6_quarrels 171 = .ok (.getfield 256, 3) := by decide +kernel
theorem dX6_quarrels_174 : decode cX6_quarrels 174 = .ok (.imul, 1) := by decide +kernel
theorem dX6_quarrels_175 : decode cX6_quarrels 175 = .ok (.if_icmp .gt 41, 3) := by decide +kernel
theorem dX6_quarrels_178 : decode cX6_quarrels 178 = .ok (.aload_n 0, 1) := by decide +kernel
theorem dX6_quarrels_179 : decode cX6_quarrels 179 = .ok (.getfield 19, 3) := by decide +kernel
theorem dX6_quarrels_182 : decode cX6_quarrels 182 = .ok (.bipush 9, 2) := by decide +kernel
theorem dX6_quarrels_184 : decode cX6_quarrels 184 = .ok (.iload_n 3, 1) := by decide +kernel
theorem dX6_quarrels_185 : decode cX6_quarrels 185 = .ok (.imul, 1) := by decide +kernel
theorem dX6_quarrels_186 : decode cX6_quarrels 186 = .ok (.iload 6, 2) := by decide +kernel
theorem dX6_quarrels_188 : decode cX6_quarrels 188 = .ok (.iadd, 1) := by decide +kernel
theorem dX6_quarrels_189 : decode cX6_quarrels 189 = .ok (.iaload, 1) := by decide +kernel
theorem dX6_quarrels_190 : decode cX6_quarrels 190 = .ok (.aload_n 0, 1) := by decide +kernel
theorem dX6_quarrels_191 : decode cX6_quarrels 191 = .ok (.getfield 19, 3) := by decide +kernel
theorem dX6_quarrels_194 : decode cX6_quarrels 194 = .ok (.bipush 9, 2) := by decide +kernel
theorem dX6_quarrels_196 : decode cX6_quarrels 196 = .ok (.iload 4, 2) := by decide +kernel
theorem dX6_quarrels_198 : decode cX6_quarrels 198 = .ok (.imul, 1) := by decide +kernel
theorem dX6_quarrels_199 : decode cX6_quarrels 199 = .ok (.iload 6, 2) := by decide +kernel
theorem dX6_quarrels_201 : decode cX6_quarrels 201 = .ok (.iadd, 1) := by decide +kernel
theorem dX6_quarrels_202 : decode cX6_quarrels 202 = .ok (.iaload, 1) := by decide +kernel
theorem dX6_quarrels_203 : decode cX6_quarrels 203 = .ok (.isub, 1) := by decide +kernel
theorem dX6_quarrels_204 : decode cX6_quarrels 204 = .ok (.invokestatic 193, 3) := by decide +kernel
theorem dX6_quarrels_207 : decode cX6_quarrels 207 = .ok (.iconst 2, 1) := by decide +kernel
theorem dX6_quarrels_208 : decode cX6_quarrels 208 = .ok (.aload_n 0, 1) := by decide +kernel
theorem dX6_quarrels_209 : decode cX6_quarrels 209 = .ok (.getfield 256, 3) := by decide +kernel
theorem dX6_quarrels_212 : decode cX6_quarrels 212 = .ok (.imul, 1) := by decide +kernel
theorem dX6_quarrels_213 : decode cX6_quarrels 213 = .ok (.if_icmp .le 7, 3) := by decide +kernel
theorem dX6_quarrels_216 : decode cX6_quarrels 216 = .ok (.iconst 1, 1) := by decide +kernel
theorem dX6_quarrels_217 : decode cX6_quarrels 217 = .ok (.goto 4, 3) := by decide +kernel
theorem dX6_quarrels_220 : decode cX6_quarrels 220 = .ok (.iconst 0, 1) := by decide +kernel
theorem dX6_quarrels_221 : decode cX6_quarrels 221 = .ok (.istore 8, 2) := by decide +kernel
theorem dX6_quarrels_223 : decode cX6_quarrels 223 = .ok (.iload 5, 2) := by decide +kernel
theorem dX6_quarrels_225 : decode cX6_quarrels 225 = .ok (.iload 7, 2) := by decide +kernel
theorem dX6_quarrels_227 : decode cX6_quarrels 227 = .ok (.ifCond .eq 12, 3) := by decide +kernel
theorem dX6_quarrels_230 : decode cX6_quarrels 230 = .ok (.iload 8, 2) := by decide +kernel
theorem dX6_quarrels_232 : decode cX6_quarrels 232 = .ok (.ifCond .eq 7, 3) := by decide +kernel
theorem dX6_quarrels_235 : decode cX6_quarrels 235 = .ok (.iconst 1, 1) := by decide +kernel
theorem dX6_quarrels_236 : decode cX6_quarrels 236 = .ok (.goto 4, 3) := by decide +kernel
theorem dX6_quarrels_239 : decode cX6_quarrels 239 = .ok (.iconst 0, 1) := by decide +kernel
theorem dX6_quarrels_240 : decode cX6_quarrels 240 = .ok (.iadd, 1) := by decide +kernel
theorem dX6_quarrels_241 : decode cX6_quarrels 241 = .ok (.istore 5, 2) := by decide +kernel
theorem dX6_quarrels_243 : decode cX6_quarrels 243 = .ok (.iinc 6 1, 3) := by decide +kernel
theorem dX6_quarrels_246 : decode cX6_quarrels 246 = .ok (.goto (-181), 3) := by decide +kernel
theorem dX6_quarrels_249 : decode cX6_quarrels 249 = .ok (.iload 5, 2) := by decide +kernel
theorem dX6_quarrels_251 : decode cX6_quarrels 251 = .ok (.ireturn, 1) := by decide +kernel
theorem dX6_isOne_0 : decode cX6_isOne 0 = .ok (.aload_n 0, 1) := by decide +kernel
theorem dX6_isOne_1 : decode cX6_isOne 1 = .ok (.getfield 72, 3) := by decide +kernel
theorem dX6_isOne_4 : decode cX6_isOne 4 = .ok (.iload_n 1, 1) := by decide +kernel
theorem dX6_isOne_5 : decode cX6_isOne 5 = .ok (.baload, 1) := by decide +kernel
theorem dX6_isOne_6 : decode cX6_isOne 6 = .ok (.ifCond .ne 51, 3) := by decide +kernel
theorem dX6_isOne_9 : decode cX6_isOne 9 = .ok (.aload_n 0, 1) := by decide +kernel
theorem dX6_isOne_10 : decode cX6_isOne 10 = .ok (.getfield 75, 3) := by decide +kernel
theorem dX6_isOne_13 : decode cX6_isOne 13 = .ok (.iconst 4, 1) := by decide +kernel
theorem dX6_isOne_14 : decode cX6_isOne 14 = .ok (.iload_n 1, 1) := by decide +kernel
theorem dX6_isOne_15 : decode cX6_isOne 15 = .ok (.imul, 1) := by decide +kernel
theorem dX6_isOne_16 : decode cX6_isOne 16 = .ok (.iaload, 1) := by decide +kernel
theorem dX6_isOne_17 : decode cX6_isOne 17 = .ok (.aload_n 0, 1) := by decide +kernel
theorem dX6_isOne_18 : decode cX6_isOne 18 = .ok (.getfield 75, 3) := by decide +kernel
theorem dX6_isOne_21 : decode cX6_isOne 21 = .ok (.iconst 4, 1) := by decide +kernel
theorem dX6_isOne_22 : decode cX6_isOne 22 = .ok (.iload_n 1, 1) := by decide +kernel
theorem dX6_isOne_23 : decode cX6_isOne 23 = .ok (.imul, 1) := by decide +kernel
theorem dX6_isOne_24 : decode cX6_isOne 24 = .ok (.iconst 1, 1) := by decide +kernel
theorem dX6_isOne_25 : decode cX6_isOne 25 = .ok (.iadd, 1) := by decide +kernel
theorem dX6_isOne_26 : decode cX6_isOne 26 = .ok (.iaload, 1) := by decide +kernel
theorem dX6_isOne_27 : decode cX6_isOne 27 = .ok (.if_icmp .ne 30, 3) := by decide +kernel
theorem dX6_isOne_30 : decode cX6_isOne 30 = .ok (.aload_n 0, 1) := by decide +kernel
theorem dX6_isOne_31 : decode cX6_isOne 31 = .ok (.getfield 75, 3) := by decide +kernel
theorem dX6_isOne_34 : decode cX6_isOne 34 = .ok (.iconst 4, 1) := by decide +kernel
theorem dX6_isOne_35 : decode cX6_isOne 35 = .ok (.iload_n 1, 1) := by decide +kernel
theorem dX6_isOne_36 : decode cX6_isOne 36 = .ok (.imul, 1) := by decide +kernel
theorem dX6_isOne_37 : decode cX6_isOne 37 = .ok (.iconst 2, 1) := by decide +kernel
theorem dX6_isOne_38 : decode cX6_isOne 38 = .ok (.iadd, 1) := by decide +kernel
theorem dX6_isOne_39 : decode cX6_isOne 39 = .ok (.iaload, 1) := by decide +kernel
theorem dX6_isOne_40 : decode cX6_isOne 40 = .ok (.aload_n 0, 1) := by decide +kernel
theorem dX6_isOne_41 : decode cX6_isOne 41 = .ok (.getfield 75, 3) := by decide +kernel
theorem dX6_isOne_44 : decode cX6_isOne 44 = .ok (.iconst 4, 1) := by decide +kernel
theorem dX6_isOne_45 : decode cX6_isOne 45 = .ok (.iload_n 1, 1) := by decide +kernel
theorem dX6_isOne_46 : decode cX6_isOne 46 = .ok (.imul, 1) := by decide +kernel
theorem dX6_isOne_47 : decode cX6_isOne 47 = .ok (.iconst 3, 1) := by decide +kernel
theorem dX6_isOne_48 : decode cX6_isOne 48 = .ok (.iadd, 1) := by decide +kernel
theorem dX6_isOne_49 : decode cX6_isOne 49 = .ok (.iaload, 1) := by decide +kernel
theorem dX6_isOne_50 : decode cX6_isOne 50 = .ok (.if_icmp .ne 7, 3) := by decide +kernel
theorem dX6_isOne_53 : decode cX6_isOne 53 = .ok (.iconst 1, 1) := by decide +kernel
theorem dX6_isOne_54 : decode cX6_isOne 54 = .ok (.goto 4, 3) := by decide +kernel
theorem dX6_isOne_57 : decode cX6_isOne 57 = .ok (.iconst 0, 1) := by decide +kernel
theorem dX6_isOne_58 : decode cX6_isOne 58 = .ok (.ireturn, 1) := by decide +kernel
theorem dX6_lead_0 : decode cX6_lead 0 = .ok (.aload_n 0, 1) := by decide +kernel
theorem dX6_lead_1 : decode cX6_lead 1 = .ok (.getfield 75, 3) := by decide +kernel
theorem dX6_lead_4 : decode cX6_lead 4 = .ok (.iconst 4, 1) := by decide +kernel
theorem dX6_lead_5 : decode cX6_lead 5 = .ok (.aload_n 0, 1) := by decide +kernel
theorem dX6_lead_6 : decode cX6_lead 6 = .ok (.getfield 22, 3) := by decide +kernel
theorem dX6_lead_9 : decode cX6_lead 9 = .ok (.iconst 0, 1) := by decide +kernel
theorem dX6_lead_10 : decode cX6_lead 10 = .ok (.iaload, 1) := by decide +kernel
theorem dX6_lead_11 : decode cX6_lead 11 = .ok (.imul, 1) := by decide +kernel
theorem dX6_lead_12 : decode cX6_lead 12 = .ok (.iload_n 1, 1) := by decide +kernel
theorem dX6_lead_13 : decode cX6_lead 13 = .ok (.iadd, 1) := by decide +kernel
theorem dX6_lead_14 : decode cX6_lead 14 = .ok (.iaload, 1) := by decide +kernel
theorem dX6_lead_15 : decode cX6_lead 15 = .ok (.aload_n 0, 1) := by decide +kernel
theorem dX6_lead_16 : decode cX6_lead 16 = .ok (.getfield 75, 3) := by decide +kernel
theorem dX6_lead_19 : decode cX6_lead 19 = .ok (.iconst 4, 1) := by decide +kernel
theorem dX6_lead_20 : decode cX6_lead 20 = .ok (.aload_n 0, 1) := by decide +kernel
theorem dX6_lead_21 : decode cX6_lead 21 = .ok (.getfield 22, 3) := by decide +kernel
theorem dX6_lead_24 : decode cX6_lead 24 = .ok (.iconst 1, 1) := by decide +kernel
theorem dX6_lead_25 : decode cX6_lead 25 = .ok (.iaload, 1) := by decide +kernel
theorem dX6_lead_26 : decode cX6_lead 26 = .ok (.imul, 1) := by decide +kernel
theorem dX6_lead_27 : decode cX6_lead 27 = .ok (.iload_n 1, 1) := by decide +kernel
theorem dX6_lead_28 : decode cX6_lead 28 = .ok (.iadd, 1) := by decide +kernel
theorem dX6_lead_29 : decode cX6_lead 29 = .ok (.iaload, 1) := by decide +kernel
theorem dX6_lead_30 : decode cX6_lead 30 = .ok (.iadd, 1) := by decide +kernel
theorem dX6_lead_31 : decode cX6_lead 31 = .ok (.aload_n 0, 1) := by decide +kernel
theorem dX6_lead_32 : decode cX6_lead 32 = .ok (.getfield 75, 3) := by decide +kernel
theorem dX6_lead_35 : decode cX6_lead 35 = .ok (.iconst 4, 1) := by decide +kernel
theorem dX6_lead_36 : decode cX6_lead 36 = .ok (.aload_n 0, 1) := by decide +kernel
theorem dX6_lead_37 : decode cX6_lead 37 = .ok (.getfield 22, 3) := by decide +kernel
theorem dX6_lead_40 : decode cX6_lead 40 = .ok (.iconst 2, 1) := by decide +kernel
theorem dX6_lead_41 : decode cX6_lead 41 = .ok (.iaload, 1) := by decide +kernel
theorem dX6_lead_42 : decode cX6_lead 42 = .ok (.imul, 1) := by decide +kernel
theorem dX6_lead_43 : decode cX6_lead 43 = .ok (.iload_n 1, 1) := by decide +kernel
theorem dX6_lead_44 : decode cX6_lead 44 = .ok (.iadd, 1) := by decide +kernel
theorem dX6_lead_45 : decode cX6_lead 45 = .ok (.iaload, 1) := by decide +kernel
theorem dX6_lead_46 : decode cX6_lead 46 = .ok (.isub, 1) := by decide +kernel
theorem dX6_lead_47 : decode cX6_lead 47 = .ok (.ireturn, 1) := by decide +kernel
theorem dX6_isFelled_0 : decode cX6_isFelled 0 = .ok (.iconst 0, 1) := by decide +kernel
theorem dX6_isFelled_1 : decode cX6_isFelled 1 = .ok (.istore_n 1, 1) := by decide +kernel
theorem dX6_isFelled_2 : decode cX6_isFelled 2 = .ok (.iconst 0, 1) := by decide +kernel
theorem dX6_isFelled_3 : decode cX6_isFelled 3 = .ok (.istore_n 2, 1) := by decide +kernel
theorem dX6_isFelled_4 : decode cX6_isFelled 4 = .ok (.iload_n 2, 1) := by decide +kernel
theorem dX6_isFelled_5 : decode cX6_isFelled 5 = .ok (.aload_n 0, 1) := by decide +kernel
theorem dX6_isFelled_6 : decode cX6_isFelled 6 = .ok (.getfield 120, 3) := by decide +kernel
theorem dX6_isFelled_9 : decode cX6_isFelled 9 = .ok (.if_icmp .ge 103, 3) := by decide +kernel
theorem dX6_isFelled_12 : decode cX6_isFelled 12 = .ok (.aload_n 0, 1) := by decide +kernel
theorem dX6_isFelled_13 : decode cX6_isFelled 13 = .ok (.getfield 111, 3) := by decide +kernel
theorem dX6_isFelled_16 : decode cX6_isFelled 16 = .ok (.ifCond .le 96, 3) := by decide +kernel
theorem dX6_isFelled_19 : decode cX6_isFelled 19 = .ok (.aload_n 0, 1) := by decide +kernel
theorem dX6_isFelled_20 : decode cX6_isFelled 20 = .ok (.aload_n 0, 1) := by decide +kernel
theorem dX6_isFelled_21 : decode cX6_isFelled 21 = .ok (.getfield 22, 3) := by decide +kernel
theorem dX6_isFelled_24 : decode cX6_isFelled 24 = .ok (.iconst 0, 1) := by decide +kernel
theorem dX6_isFelled_25 : decode cX6_isFelled 25 = .ok (.iaload, 1) := by decide +kernel
theorem dX6_isFelled_26 : decode cX6_isFelled 26 = .ok (.invokevirtual 280, 3) := by decide +kernel
theorem dX6_isFelled_29 : decode cX6_isFelled 29 = .ok (.ifCond .eq 33, 3) := by decide +kernel
theorem dX6_isFelled_32 : decode cX6_isFelled 32 = .ok (.aload_n 0, 1) := by decide +kernel
theorem dX6_isFelled_33 : decode cX6_isFelled 33 = .ok (.aload_n 0, 1) := by decide +kernel
theorem dX6_isFelled_34 : decode cX6_isFelled 34 = .ok (.getfield 22, 3) := by decide +kernel
theorem dX6_isFelled_37 : decode cX6_isFelled 37 = .ok (.iconst 1, 1) := by decide +kernel
theorem dX6_isFelled_38 : decode cX6_isFelled 38 = .ok (.iaload, 1) := by decide +kernel
theorem dX6_isFelled_39 : decode cX6_isFelled 39 = .ok (.invokevirtual 280, 3) := by decide +kernel
theorem dX6_isFelled_42 : decode cX6_isFelled 42 = .ok (.ifCond .eq 20, 3) := by decide +kernel
theorem dX6_isFelled_45 : decode cX6_isFelled 45 = .ok (.aload_n 0, 1) := by decide +kernel
theorem dX6_isFelled_46 : decode cX6_isFelled 46 = .ok (.aload_n 0, 1) := by decide +kernel
theorem dX6_isFelled_47 : decode cX6_isFelled 47 = .ok (.getfield 22, 3) := by decide +kernel
theorem dX6_isFelled_50 : decode cX6_isFelled 50 = .ok (.iconst 2, 1) := by decide +kernel
theorem dX6_isFelled_51 : decode cX6_isFelled 51 = .ok (.iaload, 1) := by decide +kernel
theorem dX6_isFelled_52 : decode cX6_isFelled 52 = .ok (.invokevirtual 280, 3) := by decide +kernel
theorem dX6_isFelled_55 : decode cX6_isFelled 55 = .ok (.ifCond .eq 7, 3) := by decide +kernel
theorem dX6_isFelled_58 : decode cX6_isFelled 58 = .ok (.iconst 1, 1) := by decide +kernel
theorem dX6_isFelled_59 : decode cX6_isFelled 59 = .ok (.goto 4, 3) := by decide +kernel
theorem dX6_isFelled_62 : decode cX6_isFelled 62 = .ok (.iconst 0, 1) := by decide +kernel
theorem dX6_isFelled_63 : decode cX6_isFelled 63 = .ok (.istore_n 3, 1) := by decide +kernel
theorem dX6_isFelled_64 : decode cX6_isFelled 64 = .ok (.iload_n 1, 1) := by decide +kernel
theorem dX6_isFelled_65 : decode cX6_isFelled 65 = .ok (.ifCond .ne 35, 3) := by decide +kernel
theorem dX6_isFelled_68 : decode cX6_isFelled 68 = .ok (.iload_n 3, 1) := by decide +kernel
theorem dX6_isFelled_69 : decode cX6_isFelled 69 = .ok (.ifCond .eq 35, 3) := by decide +kernel
theorem dX6_isFelled_72 : decode cX6_isFelled 72 = .ok (.aload_n 0, 1) := by decide +kernel
theorem dX6_isFelled_73 : decode cX6_isFelled 73 = .ok (.iconst 0, 1) := by decide +kernel
theorem dX6_isFelled_74 : decode cX6_isFelled 74 = .ok (.invokevirtual 283, 3) := by decide +kernel
theorem dX6_isFelled_77 : decode cX6_isFelled 77 = .ok (.aload_n 0, 1) := by decide +kernel
theorem dX6_isFelled_78 : decode cX6_isFelled 78 = .ok (.getfield 38, 3) := by decide +kernel
theorem dX6_isFelled_81 : decode cX6_isFelled 81 = .ok (.iload_n 2, 1) := by decide +kernel
theorem dX6_isFelled_82 : decode cX6_isFelled 82 = .ok (.iaload, 1) := by decide +kernel
theorem dX6_isFelled_83 : decode cX6_isFelled 83 = .ok (.if_icmp .ne 21, 3) := by decide +kernel
theorem dX6_isFelled_86 : decode cX6_isFelled 86 = .ok (.aload_n 0, 1) := by decide +kernel
theorem dX6_isFelled_87 : decode cX6_isFelled 87 = .ok (.iconst 2, 1) := by decide +kernel
theorem dX6_isFelled_88 : decode cX6_isFelled 88 = .ok (.invokevirtual 283, 3) := by decide +kernel
theorem dX6_isFelled_91 : decode cX6_isFelled 91 = .ok (.aload_n 0, 1) := by decide +kernel
theorem dX6_isFelled_92 : decode cX6_isFelled 92 = .ok (.getfield 41, 3) := by decide +kernel
theorem dX6_isFelled_95 : decode cX6_isFelled 95 = .ok (.iload_n 2, 1) := by decide +kernel
theorem dX6_isFelled_96 : decode cX6_isFelled 96 = .ok (.iaload, 1) := by decide +kernel
theorem dX6_isFelled_97 : decode cX6_isFelled 97 = .ok (.if_icmp .ne 7, 3) := by decide +kernel
theorem dX6_isFelled_100 : decode cX6_isFelled 100 = .ok (.iconst 1, 1) := by decide +kernel
theorem dX6_isFelled_101 : decode cX6_isFelled 101 = .ok (.goto 4, 3) := by decide +kernel
theorem dX6_isFelled_104 : decode cX6_isFelled 104 = .ok (.iconst 0, 1) := by decide +kernel
theorem dX6_isFelled_105 : decode cX6_isFelled 105 = .ok (.istore_n 1, 1) := by decide +kernel
theorem dX6_isFelled_106 : decode cX6_isFelled 106 = .ok (.iinc 2 1, 3) := by decide +kernel
theorem dX6_isFelled_109 : decode cX6_isFelled 109 = .ok (.goto (-105), 3) := by decide +kernel
theorem dX6_isFelled_112 : decode cX6_isFelled 112 = .ok (.iload_n 1, 1) := by decide +kernel
theorem dX6_isFelled_113 : decode cX6_isFelled 113 = .ok (.ireturn, 1) := by decide +kernel
theorem dX6_mayLie_0 : decode cX6_mayLie 0 = .ok (.aload_n 0, 1) := by decide +kernel
theorem dX6_mayLie_1 : decode cX6_mayLie 1 = .ok (.iload_n 1, 1) := by decide +kernel
theorem dX6_mayLie_2 : decode cX6_mayLie 2 = .ok (.iload_n 2, 1) := by decide +kernel
theorem dX6_mayLie_3 : decode cX6_mayLie 3 = .ok (.invokevirtual 286, 3) := by decide +kernel
theorem dX6_mayLie_6 : decode cX6_mayLie 6 = .ok (.iconst 1, 1) := by decide +kernel
theorem dX6_mayLie_7 : decode cX6_mayLie 7 = .ok (.istore_n 3, 1) := by decide +kernel
theorem dX6_mayLie_8 : decode cX6_mayLie 8 = .ok (.iconst 0, 1) := by decide +kernel
theorem dX6_mayLie_9 : decode cX6_mayLie 9 = .ok (.istore 4, 2) := by decide +kernel
theorem dX6_mayLie_11 : decode cX6_mayLie 11 = .ok (.iload 4, 2) := by decide +kernel
theorem dX6_mayLie_13 : decode cX6_mayLie 13 = .ok (.aload_n 0, 1) := by decide +kernel
theorem dX6_mayLie_14 : decode cX6_mayLie 14 = .ok (.getfield 111, 3) := by decide +kernel
theorem dX6_mayLie_17 : decode cX6_mayLie 17 = .ok (.if_icmp .ge 28, 3) := by decide +kernel
theorem dX6_mayLie_20 : decode cX6_mayLie 20 = .ok (.iload_n 3, 1) := by decide +kernel
theorem dX6_mayLie_21 : decode cX6_mayLie 21 = .ok (.ifCond .eq 16, 3) := by decide +kernel
theorem dX6_mayLie_24 : decode cX6_mayLie 24 = .ok (.aload_n 0, 1) := by decide +kernel
theorem dX6_mayLie_25 : decode cX6_mayLie 25 = .ok (.iload 4, 2) := by decide +kernel
theorem dX6_mayLie_27 : decode cX6_mayLie 27 = .ok (.invokevirtual 290, 3) := by decide +kernel
theorem dX6_mayLie_30 : decode cX6_mayLie 30 = .ok (.ifCond .eq 7, 3) := by decide +kernel
theorem dX6_mayLie_33 : decode cX6_mayLie 33 = .ok (.iconst 1, 1) := by decide +kernel
theorem dX6_mayLie_34 : decode cX6_mayLie 34 = .ok (.goto 4, 3) := by decide +kernel
theorem dX6_mayLie_37 : decode cX6_mayLie 37 = .ok (.iconst 0, 1) := by decide +kernel
theorem dX6_mayLie_38 : decode cX6_mayLie 38 = .ok (.istore_n 3, 1) := by decide +kernel
theorem dX6_mayLie_39 : decode cX6_mayLie 39 = .ok (.iinc 4 1, 3) := by decide +kernel
theorem dX6_mayLie_42 : decode cX6_mayLie 42 = .ok (.goto (-31), 3) := by decide +kernel
theorem dX6_mayLie_45 : decode cX6_mayLie 45 = .ok (.iconst 0, 1) := by decide +kernel
theorem dX6_mayLie_46 : decode cX6_mayLie 46 = .ok (.istore 4, 2) := by decide +kernel
theorem dX6_mayLie_48 : decode cX6_mayLie 48 = .ok (.iconst 0, 1) := by decide +kernel
theorem dX6_mayLie_49 : decode cX6_mayLie 49 = .ok (.istore 5, 2) := by decide +kernel
theorem dX6_mayLie_51 : decode cX6_mayLie 51 = .ok (.iload 5, 2) := by decide +kernel
theorem dX6_mayLie_53 : decode cX6_mayLie 53 = .ok (.bipush 6, 2) := by decide +kernel
theorem dX6_mayLie_55 : decode cX6_mayLie 55 = .ok (.if_icmp .ge 73, 3) := by decide +kernel
theorem dX6_mayLie_58 : decode cX6_mayLie 58 = .ok (.iload_n 3, 1) := by decide +kernel
theorem dX6_mayLie_59 : decode cX6_mayLie 59 = .ok (.ifCond .eq 69, 3) := by decide +kernel
theorem dX6_mayLie_62 : decode cX6_mayLie 62 = .ok (.iload_n 2, 1) := by decide +kernel
theorem dX6_mayLie_63 : decode cX6_mayLie 63 = .ok (.iload 5, 2) := by decide +kernel
theorem dX6_mayLie_65 : decode cX6_mayLie 65 = .ok (.invokestatic 182, 3) := by decide +kernel
theorem dX6_mayLie_68 : decode cX6_mayLie 68 = .ok (.ifCond .eq 54, 3) := by decide +kernel
theorem dX6_mayLie_71 : decode cX6_mayLie 71 = .ok (.aload_n 0, 1) := by decide +kernel
theorem dX6_mayLie_72 : decode cX6_mayLie 72 = .ok (.iload_n 1, 1) := by decide +kernel
theorem dX6_mayLie_73 : decode cX6_mayLie 73 = .ok (.iload 5, 2) := by decide +kernel
theorem dX6_mayLie_75 : decode cX6_mayLie 75 = .ok (.invokevirtual 293, 3) := by decide +kernel
theorem dX6_mayLie_78 : decode cX6_mayLie 78 = .ok (.istore 6, 2) := by decide +kernel
theorem dX6_mayLie_80 : decode cX6_mayLie 80 = .ok (.iload 4, 2) := by decide +kernel
theorem dX6_mayLie_82 : decode cX6_mayLie 82 = .ok (.iload 6, 2) := by decide +kernel
theorem dX6_mayLie_84 : decode cX6_mayLie 84 = .ok (.ifCond .ne 7, 3) := by decide +kernel
theorem dX6_mayLie_87 : decode cX6_mayLie 87 = .ok (.iconst 1, 1) := by decide +kernel
theorem dX6_mayLie_88 : decode cX6_mayLie 88 = .ok (.goto 4, 3) := by decide +kernel
theorem dX6_mayLie_91 : decode cX6_mayLie 91 = .ok (.iconst 0, 1) := by decide +kernel
theorem dX6_mayLie_92 : decode cX6_mayLie 92 = .ok (.iadd, 1) := by decide +kernel
theorem dX6_mayLie_93 : decode cX6_mayLie 93 = .ok (.istore 4, 2) := by decide +kernel
theorem dX6_mayLie_95 : decode cX6_mayLie 95 = .ok (.iload 6, 2) := by decide +kernel
theorem dX6_mayLie_97 : decode cX6_mayLie 97 = .ok (.iconst 1, 1) := by decide +kernel
theorem dX6_mayLie_98 : decode cX6_mayLie 98 = .ok (.if_icmp .eq 18, 3) := by decide +kernel
theorem dX6_mayLie_101 : decode cX6_mayLie 101 = .ok (.iload 6, 2) := by decide +kernel
theorem dX6_mayLie_103 : decode cX6_mayLie 103 = .ok (.ifCond .ne 17, 3) := by decide +kernel
theorem dX6_mayLie_106 : decode cX6_mayLie 106 = .ok (.aload_n 0, 1) := by decide +kernel
theorem dX6_mayLie_107 : decode cX6_mayLie 107 = .ok (.iload_n 1, 1) := by decide +kernel
theorem dX6_mayLie_108 : decode cX6_mayLie 108 = .ok (.iload 5, 2) := by decide +kernel
theorem dX6_mayLie_110 : decode cX6_mayLie 110 = .ok (.invokevirtual 296, 3) := by decide +kernel
theorem dX6_mayLie_113 : decode cX6_mayLie 113 = .ok (.ifCond .eq 7, 3) := by decide +kernel
theorem dX6_mayLie_116 : decode cX6_mayLie 116 = .ok (.iconst 1, 1) := by decide +kernel
theorem dX6_mayLie_117 : decode cX6_mayLie 117 = .ok (.goto 4, 3) := by decide +kernel
theorem dX6_mayLie_120 : decode cX6_mayLie 120 = .ok (.iconst 0, 1) := by decide +kernel
theorem dX6_mayLie_121 : decode cX6_mayLie 121 = .ok (.istore_n 3, 1) := by decide +kernel
theorem dX6_mayLie_122 : decode cX6_mayLie 122 = .ok (.iinc 5 1, 3) := by decide +kernel
theorem dX6_mayLie_125 : decode cX6_mayLie 125 = .ok (.goto (-74), 3) := by decide +kernel
theorem dX6_mayLie_128 : decode cX6_mayLie 128 = .ok (.iload_n 3, 1) := by decide +kernel
theorem dX6_mayLie_129 : decode cX6_mayLie 129 = .ok (.ifCond .eq 25, 3) := by decide +kernel
theorem dX6_mayLie_132 : decode cX6_mayLie 132 = .ok (.aload_n 0, 1) := by decide +kernel
theorem dX6_mayLie_133 : decode cX6_mayLie 133 = .ok (.iload_n 1, 1) := by decide +kernel
theorem dX6_mayLie_134 : decode cX6_mayLie 134 = .ok (.iload_n 2, 1) := by decide +kernel
theorem dX6_mayLie_135 : decode cX6_mayLie 135 = .ok (.invokevirtual 299, 3) := by decide +kernel
theorem dX6_mayLie_138 : decode cX6_mayLie 138 = .ok (.iload 4, 2) := by decide +kernel
theorem dX6_mayLie_140 : decode cX6_mayLie 140 = .ok (.if_icmp .gt 14, 3) := by decide +kernel
theorem dX6_mayLie_143 : decode cX6_mayLie 143 = .ok (.aload_n 0, 1) := by decide +kernel
theorem dX6_mayLie_144 : decode cX6_mayLie 144 = .ok (.invokevirtual 302, 3) := by decide +kernel
theorem dX6_mayLie_147 : decode cX6_mayLie 147 = .ok (.ifCond .ne 7, 3) := by decide +kernel
theorem dX6_mayLie_150 : decode cX6_mayLie 150 = .ok (.iconst 1, 1) := by decide +kernel
theorem dX6_mayLie_151 : decode cX6_mayLie 151 = .ok (.goto 4, 3) := by decide +kernel
theorem dX6_mayLie_154 : decode cX6_mayLie 154 = .ok (.iconst 0, 1) := by decide +kernel
theorem dX6_mayLie_155 : decode cX6_mayLie 155 = .ok (.ireturn, 1) := by decide +kernel
theorem dX6_mayMany_0 : decode cX6_mayMany 0 = .ok (.iconst 0, 1) := by decide +kernel
theorem dX6_mayMany_1 : decode cX6_mayMany 1 = .ok (.istore_n 2, 1) := by decide +kernel
theorem dX6_mayMany_2 : decode cX6_mayMany 2 = .ok (.iconst 0, 1) := by decide +kernel
theorem dX6_mayMany_3 : decode cX6_mayMany 3 = .ok (.istore_n 3, 1) := by decide +kernel
theorem dX6_mayMany_4 : decode cX6_mayMany 4 = .ok (.iload_n 3, 1) := by decide +kernel
theorem dX6_mayMany_5 : decode cX6_mayMany 5 = .ok (.bipush 64, 2) := by decide +kernel
theorem dX6_mayMany_7 : decode cX6_mayMany 7 = .ok (.if_icmp .ge 37, 3) := by decide +kernel
theorem dX6_mayMany_10 : decode cX6_mayMany 10 = .ok (.iload_n 2, 1) := by decide +kernel
theorem dX6_mayMany_11 : decode cX6_mayMany 11 = .ok (.iload_n 3, 1) := by decide +kernel
theorem dX6_mayMany_12 : decode cX6_mayMany 12 = .ok (.invokestatic 306, 3) := by decide +kernel
theorem dX6_mayMany_15 : decode cX6_mayMany 15 = .ok (.aload_n 0, 1) := by decide +kernel
theorem dX6_mayMany_16 : decode cX6_mayMany 16 = .ok (.getfield 250, 3) := by decide +kernel
theorem dX6_mayMany_19 : decode cX6_mayMany 19 = .ok (.if_icmp .ne 16, 3) := by decide +kernel
theorem dX6_mayMany_22 : decode cX6_mayMany 22 = .ok (.aload_n 0, 1) := by decide +kernel
theorem dX6_mayMany_23 : decode cX6_mayMany 23 = .ok (.iload_n 1, 1) := by decide +kernel
theorem dX6_mayMany_24 : decode cX6_mayMany 24 = .ok (.iload_n 3, 1) := by decide +kernel
theorem dX6_mayMany_25 : decode cX6_mayMany 25 = .ok (.invokevirtual 309, 3) := by decide +kernel
theorem dX6_mayMany_28 : decode cX6_mayMany 28 = .ok (.ifCond .eq 7, 3) := by decide +kernel
theorem dX6_mayMany_31 : decode cX6_mayMany 31 = .ok (.iconst 1, 1) := by decide +kernel
theorem dX6_mayMany_32 : decode cX6_mayMany 32 = .ok (.goto 4, 3) := by decide +kernel
theorem dX6_mayMany_35 : decode cX6_mayMany 35 = .ok (.iconst 0, 1) := by decide +kernel
theorem dX6_mayMany_36 : decode cX6_mayMany 36 = .ok (.iadd, 1) := by decide +kernel
theorem dX6_mayMany_37 : decode cX6_mayMany 37 = .ok (.istore_n 2, 1) := by decide +kernel
theorem dX6_mayMany_38 : decode cX6_mayMany 38 = .ok (.iinc 3 1, 3) := by decide +kernel
theorem dX6_mayMany_41 : decode cX6_mayMany 41 = .ok (.goto (-37), 3) := by decide +kernel
theorem dX6_mayMany_44 : decode cX6_mayMany 44 = .ok (.iload_n 2, 1) := by decide +kernel
theorem dX6_mayMany_45 : decode cX6_mayMany 45 = .ok (.ireturn, 1) := by decide +kernel
theorem dX6_findArea_0 : decode cX6_findArea 0 = .ok (.iconst 0, 1) := by decide +kernel
theorem dX6_findArea_1 : decode cX6_findArea 1 = .ok (.istore_n 1, 1) := by decide +kernel
theorem dX6_findArea_2 : decode cX6_findArea 2 = .ok (.iload_n 1, 1) := by decide +kernel
theorem dX6_findArea_3 : decode cX6_findArea 3 = .ok (.iconst 4, 1) := by decide +kernel
theorem dX6_findArea_4 : decode cX6_findArea 4 = .ok (.if_icmp .ge 66, 3) := by decide +kernel
theorem dX6_findArea_7 : decode cX6_findArea 7 = .ok (.iload_n 1, 1) := by decide +kernel
theorem dX6_findArea_8 : decode cX6_findArea 8 = .ok (.iconst 2, 1) := by decide +kernel
theorem dX6_findArea_9 : decode cX6_findArea 9 = .ok (.irem, 1) := by decide +kernel
theorem dX6_findArea_10 : decode cX6_findArea 10 = .ok (.ifCond .ne 9, 3) := by decide +kernel
theorem dX6_findArea_13 : decode cX6_findArea 13 = .ok (.iload_n 1, 1) := by decide +kernel
theorem dX6_findArea_14 : decode cX6_findArea 14 = .ok (.iconst 1, 1) := by decide +kernel
theorem dX6_findArea_15 : decode cX6_findArea 15 = .ok (.iadd, 1) := by decide +kernel
theorem dX6_findArea_16 : decode cX6_findArea 16 = .ok (.goto 6, 3) := by decide +kernel
theorem dX6_findArea_19 : decode cX6_findArea 19 = .ok (.iload_n 1, 1) := by decide +kernel
theorem dX6_findArea_20 : decode cX6_findArea 20 = .ok (.iconst 1, 1) := by decide +kernel
theorem dX6_findArea_21 : decode cX6_findArea 21 = .ok (.isub, 1) := by decide +kernel
theorem dX6_findArea_22 : decode cX6_findArea 22 = .ok (.istore_n 2, 1) := by decide +kernel
theorem dX6_findArea_23 : decode cX6_findArea 23 = .ok (.aload_n 0, 1) := by decide +kernel
theorem dX6_findArea_24 : decode cX6_findArea 24 = .ok (.getfield 78, 3) := by decide +kernel
theorem dX6_findArea_27 : decode cX6_findArea 27 = .ok (.iload_n 1, 1) := by decide +kernel
theorem dX6_findArea_28 : decode cX6_findArea 28 = .ok (.aload_n 0, 1) := by decide +kernel
theorem dX6_findArea_29 : decode cX6_findArea 29 = .ok (.aload_n 0, 1) := by decide +kernel
theorem dX6_findArea_30 : decode cX6_findArea 30 = .ok (.getfield 22, 3) := by decide +kernel
theorem dX6_findArea_33 : decode cX6_findArea 33 = .ok (.iconst 0, 1) := by decide +kernel
theorem dX6_findArea_34 : decode cX6_findArea 34 = .ok (.iaload, 1) := by decide +kernel
theorem dX6_findArea_35 : decode cX6_findArea 35 = .ok (.iload_n 1, 1) := by decide +kernel
theorem dX6_findArea_36 : decode cX6_findArea 36 = .ok (.invokevirtual 312, 3) := by decide +kernel
theorem dX6_findArea_39 : decode cX6_findArea 39 = .ok (.aload_n 0, 1) := by decide +kernel
theorem dX6_findArea_40 : decode cX6_findArea 40 = .ok (.aload_n 0, 1) := by decide +kernel
theorem dX6_findArea_41 : decode cX6_findArea 41 = .ok (.getfield 22, 3) := by decide +kernel
theorem dX6_findArea_44 : decode cX6_findArea 44 = .ok (.iconst 1, 1) := by decide +kernel
theorem dX6_findArea_45 : decode cX6_findArea 45 = .ok (.iaload, 1) := by decide +kernel
theorem dX6_findArea_46 : decode cX6_findArea 46 = .ok (.iload_n 1, 1) := by decide +kernel
theorem dX6_findArea_47 : decode cX6_findArea 47 = .ok (.invokevirtual 312, 3) := by decide +kernel
theorem dX6_findArea_50 : decode cX6_findArea 50 = .ok (.iadd, 1) := by decide +kernel
theorem dX6_findArea_51 : decode cX6_findArea 51 = .ok (.aload_n 0, 1) := by decide +kernel
theorem dX6_findArea_52 : decode cX6_findArea 52 = .ok (.aload_n 0, 1) := by decide +kernel
theorem dX6_findArea_53 : decode cX6_findArea 53 = .ok (.getfield 22, 3) := by decide +kernel
theorem dX6_findArea_56 : decode cX6_findArea 56 = .ok (.iconst 2, 1) := by decide +kernel
theorem dX6_findArea_57 : decode cX6_findArea 57 = .ok (.iaload, 1) := by decide +kernel
theorem dX6_findArea_58 : decode cX6_findArea 58 = .ok (.iload_n 2, 1) := by decide +kernel
theorem dX6_findArea_59 : decode cX6_findArea 59 = .ok (.invokevirtual 312, 3) := by decide +kernel
theorem dX6_findArea_62 : decode cX6_findArea 62 = .ok (.isub, 1) := by decide +kernel
theorem dX6_findArea_63 : decode cX6_findArea 63 = .ok (.iastore, 1) := by decide +kernel
theorem dX6_findArea_64 : decode cX6_findArea 64 = .ok (.iinc 1 1, 3) := by decide +kernel
theorem dX6_findArea_67 : decode cX6_findArea 67 = .ok (.goto (-65), 3) := by decide +kernel
theorem dX6_findArea_70 : decode cX6_findArea 70 = .ok (.return_, 1) := by decide +kernel
theorem dX6_endOf_0 : decode cX6_endOf 0 = .ok (.aload_n 0, 1) := by decide +kernel
theorem dX6_endOf_1 : decode cX6_endOf 1 = .ok (.getfield 72, 3) := by decide +kernel
theorem dX6_endOf_4 : decode cX6_endOf 4 = .ok (.iload_n 1, 1) := by decide +kernel
theorem dX6_endOf_5 : decode cX6_endOf 5 = .ok (.baload, 1) := by decide +kernel
theorem dX6_endOf_6 : decode cX6_endOf 6 = .ok (.ifCond .eq 18, 3) := by decide +kernel
theorem dX6_endOf_9 : decode cX6_endOf 9 = .ok (.iload_n 2, 1) := by decide +kernel
theorem dX6_endOf_10 : decode cX6_endOf 10 = .ok (.iconst 2, 1) := by decide +kernel
theorem dX6_endOf_11 : decode cX6_endOf 11 = .ok (.irem, 1) := by decide +kernel
theorem dX6_endOf_12 : decode cX6_endOf 12 = .ok (.ifCond .ne 7, 3) := by decide +kernel
theorem dX6_endOf_15 : decode cX6_endOf 15 = .ok (.iconst 0, 1) := by decide +kernel
theorem dX6_endOf_16 : decode cX6_endOf 16 = .ok (.goto 18, 3) := by decide +kernel
theorem dX6_endOf_19 : decode cX6_endOf 19 = .ok (.bipush 99, 2) := by decide +kernel
theorem dX6_endOf_21 : decode cX6_endOf 21 = .ok (.goto 13, 3) := by decide +kernel
theorem dX6_endOf_24 : decode cX6_endOf 24 = .ok (.aload_n 0, 1) := by decide +kernel
theorem dX6_endOf_25 : decode cX6_endOf 25 = .ok (.getfield 75, 3) := by decide +kernel
theorem dX6_endOf_28 : decode cX6_endOf 28 = .ok (.iconst 4, 1) := by decide +kernel
theorem dX6_endOf_29 : decode cX6_endOf 29 = .ok (.iload_n 1, 1) := by decide +kernel
theorem dX6_endOf_30 : decode cX6_endOf 30 = .ok (.imul, 1) := by decide +kernel
theorem dX6_endOf_31 : decode cX6_endOf 31 = .ok (.iload_n 2, 1) := by decide +kernel
theorem dX6_endOf_32 : decode cX6_endOf 32 = .ok (.iadd, 1) := by decide +kernel
theorem dX6_endOf_33 : decode cX6_endOf 33 = .ok (.iaload, 1) := by decide +kernel
theorem dX6_endOf_34 : decode cX6_endOf 34 = .ok (.ireturn, 1) := by decide +kernel
theorem dX6_leads_0 : decode cX6_leads 0 = .ok (.iload_n 1, 1) := by decide +kernel
theorem dX6_leads_1 : decode cX6_leads 1 = .ok (.invokestatic 267, 3) := by decide +kernel
theorem dX6_leads_4 : decode cX6_leads 4 = .ok (.ifCond .ne 7, 3) := by decide +kernel
theorem dX6_leads_7 : decode cX6_leads 7 = .ok (.ldc_w 266, 3) := by decide +kernel
theorem dX6_leads_10 : decode cX6_leads 10 = .ok (.ireturn, 1) := by decide +kernel
theorem dX6_leads_11 : decode cX6_leads 11 = .ok (.iload_n 2, 1) := by decide +kernel
theorem dX6_leads_12 : decode cX6_leads 12 = .ok (.i2l, 1) := by decide +kernel
theorem dX6_leads_13 : decode cX6_leads 13 = .ok (.lconst 0, 1) := by decide +kernel
theorem dX6_leads_14 : decode cX6_leads 14 = .ok (.ldc2_w 315, 3) := by decide +kernel
theorem dX6_leads_17 : decode cX6_leads 17 = .ok (.invokestatic 114, 3) := by decide +kernel
theorem dX6_leads_20 : decode cX6_leads 20 = .ok (.ifCond .ne 6, 3) := by decide +kernel
theorem dX6_leads_23 : decode cX6_leads 23 = .ok (.ldc 125, 2) := by decide +kernel
theorem dX6_leads_25 : decode cX6_leads 25 = .ok (.ireturn, 1) := by decide +kernel
theorem dX6_leads_26 : decode cX6_leads 26 = .ok (.aload_n 0, 1) := by decide +kernel
theorem dX6_leads_27 : decode cX6_leads 27 = .ok (.getfield 111, 3) := by decide +kernel
theorem dX6_leads_30 : decode cX6_leads 30 = .ok (.ifCond .ne 7, 3) := by decide +kernel
theorem dX6_leads_33 : decode cX6_leads 33 = .ok (.ldc_w 317, 3) := by decide +kernel
theorem dX6_leads_36 : decode cX6_leads 36 = .ok (.ireturn, 1) := by decide +kernel
theorem dX6_leads_37 : decode cX6_leads 37 = .ok (.iconst 0, 1) := by decide +kernel
theorem dX6_leads_38 : decode cX6_leads 38 = .ok (.istore_n 3, 1) := by decide +kernel
theorem dX6_leads_39 : decode cX6_leads 39 = .ok (.iload_n 3, 1) := by decide +kernel
theorem dX6_leads_40 : decode cX6_leads 40 = .ok (.aload_n 0, 1) := by decide +kernel
theorem dX6_leads_41 : decode cX6_leads 41 = .ok (.getfield 111, 3) := by decide +kernel
theorem dX6_leads_44 : decode cX6_leads 44 = .ok (.if_icmp .ge 43, 3) := by decide +kernel
theorem dX6_leads_47 : decode cX6_leads 47 = .ok (.aload_n 0, 1) := by decide +kernel
theorem dX6_leads_48 : decode cX6_leads 48 = .ok (.getfield 72, 3) := by decide +kernel
theorem dX6_leads_51 : decode cX6_leads 51 = .ok (.iload_n 3, 1) := by decide +kernel
theorem dX6_leads_52 : decode cX6_leads 52 = .ok (.iconst 1, 1) := by decide +kernel
theorem dX6_leads_53 : decode cX6_leads 53 = .ok (.bastore, 1) := by decide +kernel
theorem dX6_leads_54 : decode cX6_leads 54 = .ok (.aload_n 0, 1) := by decide +kernel
theorem dX6_leads_55 : decode cX6_leads 55 = .ok (.iload_n 3, 1) := by decide +kernel
theorem dX6_leads_56 : decode cX6_leads 56 = .ok (.aload_n 0, 1) := by decide +kernel
theorem dX6_leads_57 : decode cX6_leads 57 = .ok (.getfield 16, 3) := by decide +kernel
theorem dX6_leads_60 : decode cX6_leads 60 = .ok (.bipush 9, 2) := by decide +kernel
theorem dX6_leads_62 : decode cX6_leads 62 = .ok (.iload_n 1, 1) := by decide +kernel
theorem dX6_leads_63 : decode cX6_leads 63 = .ok (.imul, 1) := by decide +kernel
theorem dX6_leads_64 : decode cX6_leads 64 = .ok (.iload_n 3, 1) := by decide +kernel
theorem dX6_leads_65 : decode cX6_leads 65 = .ok (.iadd, 1) := by decide +kernel
theorem dX6_leads_66 : decode cX6_leads 66 = .ok (.iaload, 1) := by decide +kernel
theorem dX6_leads_67 : decode cX6_leads 67 = .ok (.aload_n 0, 1) := by decide +kernel
theorem dX6_leads_68 : decode cX6_leads 68 = .ok (.getfield 19, 3) := by decide +kernel
theorem dX6_leads_71 : decode cX6_leads 71 = .ok (.bipush 9, 2) := by decide +kernel
theorem dX6_leads_73 : decode cX6_leads 73 = .ok (.iload_n 1, 1) := by decide +kernel
theorem dX6_leads_74 : decode cX6_leads 74 = .ok (.imul, 1) := by decide +kernel
theorem dX6_leads_75 : decode cX6_leads 75 = .ok (.iload_n 3, 1) := by decide +kernel
theorem dX6_leads_76 : decode cX6_leads 76 = .ok (.iadd, 1) := by decide +kernel
theorem dX6_leads_77 : decode cX6_leads 77 = .ok (.iaload, 1) := by decide +kernel
theorem dX6_leads_78 : decode cX6_leads 78 = .ok (.invokevirtual 270, 3) := by decide +kernel
theorem dX6_leads_81 : decode cX6_leads 81 = .ok (.iinc 3 1, 3) := by decide +kernel
theorem dX6_leads_84 : decode cX6_leads 84 = .ok (.goto (-45), 3) := by decide +kernel
theorem dX6_leads_87 : decode cX6_leads 87 = .ok (.aload_n 0, 1) := by decide +kernel
theorem dX6_leads_88 : decode cX6_leads 88 = .ok (.invokevirtual 318, 3) := by decide +kernel
theorem dX6_leads_91 : decode cX6_leads 91 = .ok (.aload_n 0, 1) := by decide +kernel
theorem dX6_leads_92 : decode cX6_leads 92 = .ok (.getfield 78, 3) := by decide +kernel
theorem dX6_leads_95 : decode cX6_leads 95 = .ok (.iload_n 2, 1) := by decide +kernel
theorem dX6_leads_96 : decode cX6_leads 96 = .ok (.iaload, 1) := by decide +kernel
theorem dX6_leads_97 : decode cX6_leads 97 = .ok (.ireturn, 1) := by decide +kernel
theorem dX6_knows_0 : decode cX6_knows 0 = .ok (.iload_n 1, 1) := by decide +kernel
theorem dX6_knows_1 : decode cX6_knows 1 = .ok (.invokestatic 267, 3) := by decide +kernel
theorem dX6_knows_4 : decode cX6_knows 4 = .ok (.ifCond .eq 24, 3) := by decide +kernel
theorem dX6_knows_7 : decode cX6_knows 7 = .ok (.iload_n 2, 1) := by decide +kernel
theorem dX6_knows_8 : decode cX6_knows 8 = .ok (.invokestatic 267, 3) := by decide +kernel
theorem dX6_knows_11 : decode cX6_knows 11 = .ok (.ifCond .eq 17, 3) := by decide +kernel
theorem dX6_knows_14 : decode cX6_knows 14 = .ok (.aload_n 0, 1) := by decide +kernel
theorem dX6_knows_15 : decode cX6_knows 15 = .ok (.getfield 32, 3) := by decide +kernel
theorem dX6_knows_18 : decode cX6_knows 18 = .ok (.bipush 6, 2) := by decide +kernel
theorem dX6_knows_20 : decode cX6_knows 20 = .ok (.iload_n 1, 1) := by decide +kernel
theorem dX6_knows_21 : decode cX6_knows 21 = .ok (.imul, 1) := by decide +kernel
theorem dX6_knows_22 : decode cX6_knows 22 = .ok (.iload_n 2, 1) := by decide +kernel
theorem dX6_knows_23 : decode cX6_knows 23 = .ok (.iadd, 1) := by decide +kernel
theorem dX6_knows_24 : decode cX6_knows 24 = .ok (.iaload, 1) := by decide +kernel
theorem dX6_knows_25 : decode cX6_knows 25 = .ok (.goto 6, 3) := by decide +kernel
theorem dX6_knows_28 : decode cX6_knows 28 = .ok (.ldc_w 266, 3) := by decide +kernel
theorem dX6_knows_31 : decode cX6_knows 31 = .ok (.ireturn, 1) := by decide +kernel
theorem dX6_areTwo_0 : decode cX6_areTwo 0 = .ok (.iload_n 0, 1) := by decide +kernel
theorem dX6_areTwo_1 : decode cX6_areTwo 1 = .ok (.invokestatic 267, 3) := by decide +kernel
theorem dX6_areTwo_4 : decode cX6_areTwo 4 = .ok (.ifCond .eq 19, 3) := by decide +kernel
theorem dX6_areTwo_7 : decode cX6_areTwo 7 = .ok (.iload_n 1, 1) := by decide +kernel
theorem dX6_areTwo_8 : decode cX6_areTwo 8 = .ok (.invokestatic 267, 3) := by decide +kernel
theorem dX6_areTwo_11 : decode cX6_areTwo 11 = .ok (.ifCond .eq 12, 3) := by decide +kernel
theorem dX6_areTwo_14 : decode cX6_areTwo 14 = .ok (.iload_n 0, 1) := by decide +kernel
theorem dX6_areTwo_15 : decode cX6_areTwo 15 = .ok (.iload_n 1, 1) := by decide +kernel
theorem dX6_areTwo_16 : decode cX6_areTwo 16 = .ok (.if_icmp .eq 7, 3) := by decide +kernel
theorem dX6_areTwo_19 : decode cX6_areTwo 19 = .ok (.iconst 1, 1) := by decide +kernel
theorem dX6_areTwo_20 : decode cX6_areTwo 20 = .ok (.goto 4, 3) := by decide +kernel
theorem dX6_areTwo_23 : decode cX6_areTwo 23 = .ok (.iconst 0, 1) := by decide +kernel
theorem dX6_areTwo_24 : decode cX6_areTwo 24 = .ok (.ireturn, 1) := by decide +kernel
theorem dX6_show_0 : decode cX6_show 0 = .ok (.iload_n 1, 1) := by decide +kernel
theorem dX6_show_1 : decode cX6_show 1 = .ok (.iload_n 2, 1) := by decide +kernel
theorem dX6_show_2 : decode cX6_show 2 = .ok (.invokestatic 321, 3) := by decide +kernel
theorem dX6_show_5 : decode cX6_show 5 = .ok (.ifCond .eq 11, 3) := by decide +kernel
theorem dX6_show_8 : decode cX6_show 8 = .ok (.aload_n 0, 1) := by decide +kernel
theorem dX6_show_9 : decode cX6_show 9 = .ok (.iload_n 3, 1) := by decide +kernel
theorem dX6_show_10 : decode cX6_show 10 = .ok (.invokevirtual 262, 3) := by decide +kernel
theorem dX6_show_13 : decode cX6_show 13 = .ok (.ifCond .ne 7, 3) := by decide +kernel
theorem dX6_show_16 : decode cX6_show 16 = .ok (.ldc_w 266, 3) := by decide +kernel
theorem dX6_show_19 : decode cX6_show 19 = .ok (.ireturn, 1) := by decide +kernel
theorem dX6_show_20 : decode cX6_show 20 = .ok (.aload_n 0, 1) := by decide +kernel
theorem dX6_show_21 : decode cX6_show 21 = .ok (.getfield 32, 3) := by decide +kernel
theorem dX6_show_24 : decode cX6_show 24 = .ok (.bipush 6, 2) := by decide +kernel
theorem dX6_show_26 : decode cX6_show 26 = .ok (.iload_n 2, 1) := by decide +kernel
theorem dX6_show_27 : decode cX6_show 27 = .ok (.imul, 1) := by decide +kernel
theorem dX6_show_28 : decode cX6_show 28 = .ok (.iload_n 1, 1) := by decide +kernel
theorem dX6_show_29 : decode cX6_show 29 = .ok (.iadd, 1) := by decide +kernel
theorem dX6_show_30 : decode cX6_show 30 = .ok (.iaload, 1) := by decide +kernel
theorem dX6_show_31 : decode cX6_show 31 = .ok (.iload_n 3, 1) := by decide +kernel
theorem dX6_show_32 : decode cX6_show 32 = .ok (.invokestatic 182, 3) := by decide +kernel
theorem dX6_show_35 : decode cX6_show 35 = .ok (.ifCond .eq 7, 3) := by decide +kernel
theorem dX6_show_38 : decode cX6_show 38 = .ok (.ldc_w 317, 3) := by decide +kernel
theorem dX6_show_41 : decode cX6_show 41 = .ok (.ireturn, 1) := by decide +kernel
theorem dX6_show_42 : decode cX6_show 42 = .ok (.aload_n 0, 1) := by decide +kernel
theorem dX6_show_43 : decode cX6_show 43 = .ok (.getfield 32, 3) := by decide +kernel
theorem dX6_show_46 : decode cX6_show 46 = .ok (.bipush 6, 2) := by decide +kernel
theorem dX6_show_48 : decode cX6_show 48 = .ok (.iload_n 2, 1) := by decide +kernel
theorem dX6_show_49 : decode cX6_show 49 = .ok (.imul, 1) := by decide +kernel
theorem dX6_show_50 : decode cX6_show 50 = .ok (.iload_n 1, 1) := by decide +kernel
theorem dX6_show_51 : decode cX6_show 51 = .ok (.iadd, 1) := by decide +kernel
theorem dX6_show_52 : decode cX6_show 52 = .ok (.dup2, 1) := by decide +kernel
theorem dX6_show_53 : decode cX6_show 53 = .ok (.iaload, 1) := by decide +kernel
theorem dX6_show_54 : decode cX6_show 54 = .ok (.iconst 1, 1) := by decide +kernel
theorem dX6_show_55 : decode cX6_show 55 = .ok (.iload_n 3, 1) := by decide +kernel
theorem dX6_show_56 : decode cX6_show 56 = .ok (.ishl, 1) := by decide +kernel
theorem dX6_show_57 : decode cX6_show 57 = .ok (.ior, 1) := by decide +kernel
theorem dX6_show_58 : decode cX6_show 58 = .ok (.iastore, 1) := by decide +kernel
theorem dX6_show_59 : decode cX6_show 59 = .ok (.aload_n 0, 1) := by decide +kernel
theorem dX6_show_60 : decode cX6_show 60 = .ok (.getfield 32, 3) := by decide +kernel
theorem dX6_show_63 : decode cX6_show 63 = .ok (.bipush 6, 2) := by decide +kernel
theorem dX6_show_65 : decode cX6_show 65 = .ok (.iload_n 2, 1) := by decide +kernel
theorem dX6_show_66 : decode cX6_show 66 = .ok (.imul, 1) := by decide +kernel
theorem dX6_show_67 : decode cX6_show 67 = .ok (.iload_n 1, 1) := by decide +kernel
theorem dX6_show_68 : decode cX6_show 68 = .ok (.iadd, 1) := by decide +kernel
theorem dX6_show_69 : decode cX6_show 69 = .ok (.iaload, 1) := by decide +kernel
theorem dX6_show_70 : decode cX6_show 70 = .ok (.invokestatic 306, 3) := by decide +kernel
theorem dX6_show_73 : decode cX6_show 73 = .ok (.ireturn, 1) := by decide +kernel
theorem dX6_trade_0 : decode cX6_trade 0 = .ok (.iload_n 1, 1) := by decide +kernel
theorem dX6_trade_1 : decode cX6_trade 1 = .ok (.iload_n 3, 1) := by decide +kernel
theorem dX6_trade_2 : decode cX6_trade 2 = .ok (.invokestatic 321, 3) := by decide +kernel
theorem dX6_trade_5 : decode cX6_trade 5 = .ok (.ifCond .eq 20, 3) := by decide +kernel
theorem dX6_trade_8 : decode cX6_trade 8 = .ok (.aload_n 0, 1) := by decide +kernel
theorem dX6_trade_9 : decode cX6_trade 9 = .ok (.iload_n 2, 1) := by decide +kernel
theorem dX6_trade_10 : decode cX6_trade 10 = .ok (.invokevirtual 262, 3) := by decide +kernel
theorem dX6_trade_13 : decode cX6_trade 13 = .ok (.ifCond .eq 12, 3) := by decide +kernel
theorem dX6_trade_16 : decode cX6_trade 16 = .ok (.aload_n 0, 1) := by decide +kernel
theorem dX6_trade_17 : decode cX6_trade 17 = .ok (.iload 4, 2) := by decide +kernel
theorem dX6_trade_19 : decode cX6_trade 19 = .ok (.invokevirtual 262, 3) := by decide +kernel
theorem dX6_trade_22 : decode cX6_trade 22 = .ok (.ifCond .ne 7, 3) := by decide +kernel
theorem dX6_trade_25 : decode cX6_trade 25 = .ok (.ldc_w 266, 3) := by decide +kernel
theorem dX6_trade_28 : decode cX6_trade 28 = .ok (.ireturn, 1) := by decide +kernel
theorem dX6_trade_29 : decode cX6_trade 29 = .ok (.aload_n 0, 1) := by decide +kernel
theorem dX6_trade_30 : decode cX6_trade 30 = .ok (.getfield 32, 3) := by decide +kernel
theorem dX6_trade_33 : decode cX6_trade 33 = .ok (.bipush 6, 2) := by decide +kernel
theorem dX6_trade_35 : decode cX6_trade 35 = .ok (.iload_n 3, 1) := by decide +kernel
theorem dX6_trade_36 : decode cX6_trade 36 = .ok (.imul, 1) := by decide +kernel
theorem dX6_trade_37 : decode cX6_trade 37 = .ok (.iload_n 1, 1) := by decide +kernel
theorem dX6_trade_38 : decode cX6_trade 38 = .ok (.iadd, 1) := by decide +kernel
theorem dX6_trade_39 : decode cX6_trade 39 = .ok (.iaload, 1) := by decide +kernel
theorem dX6_trade_40 : decode cX6_trade 40 = .ok (.iload_n 2, 1) := by decide +kernel
theorem dX6_trade_41 : decode cX6_trade 41 = .ok (.invokestatic 182, 3) := by decide +kernel
theorem dX6_trade_44 : decode cX6_trade 44 = .ok (.ifCond .ne 22, 3) := by decide +kernel
theorem dX6_trade_47 : decode cX6_trade 47 = .ok (.aload_n 0, 1) := by decide +kernel
theorem dX6_trade_48 : decode cX6_trade 48 = .ok (.getfield 32, 3) := by decide +kernel
theorem dX6_trade_51 : decode cX6_trade 51 = .ok (.bipush 6, 2) := by decide +kernel
theorem dX6_trade_53 : decode cX6_trade 53 = .ok (.iload_n 1, 1) := by decide +kernel
theorem dX6_trade_54 : decode cX6_trade 54 = .ok (.imul, 1) := by decide +kernel
theorem dX6_trade_55 : decode cX6_trade 55 = .ok (.iload_n 3, 1) := by decide +kernel
theorem dX6_trade_56 : decode cX6_trade 56 = .ok (.iadd, 1) := by decide +kernel
theorem dX6_trade_57 : decode cX6_trade 57 = .ok (.iaload, 1) := by decide +kernel
theorem dX6_trade_58 : decode cX6_trade 58 = .ok (.iload 4, 2) := by decide +kernel
theorem dX6_trade_60 : decode cX6_trade 60 = .ok (.invokestatic 182, 3) := by decide +kernel
theorem dX6_trade_63 : decode cX6_trade 63 = .ok (.ifCond .eq 7, 3) := by decide +kernel
theorem dX6_trade_66 : decode cX6_trade 66 = .ok (.ldc_w 317, 3) := by decide +kernel
theorem dX6_trade_69 : decode cX6_trade 69 = .ok (.ireturn, 1) := by decide +kernel
theorem dX6_trade_70 : decode cX6_trade 70 = .ok (.aload_n 0, 1) := by decide +kernel
theorem dX6_trade_71 : decode cX6_trade 71 = .ok (.getfield 32, 3) := by decide +kernel
theorem dX6_trade_74 : decode cX6_trade 74 = .ok (.bipush 6, 2) := by decide +kernel
theorem dX6_trade_76 : decode cX6_trade 76 = .ok (.iload_n 3, 1) := by decide +kernel
theorem dX6_trade_77 : decode cX6_trade 77 = .ok (.imul, 1) := by decide +kernel
theorem dX6_trade_78 : decode cX6_trade 78 = .ok (.iload_n 1, 1) := by decide +kernel
theorem dX6_trade_79 : decode cX6_trade 79 = .ok (.iadd, 1) := by decide +kernel
theorem dX6_trade_80 : decode cX6_trade 80 = .ok (.dup2, 1) := by decide +kernel
theorem dX6_trade_81 : decode cX6_trade 81 = .ok (.iaload, 1) := by decide +kernel
theorem dX6_trade_82 : decode cX6_trade 82 = .ok (.iconst 1, 1) := by decide +kernel
theorem dX6_trade_83 : decode cX6_trade 83 = .ok (.iload_n 2, 1) := by decide +kernel
theorem dX6_trade_84 : decode cX6_trade 84 = .ok (.ishl, 1) := by decide +kernel
theorem dX6_trade_85 : decode cX6_trade 85 = .ok (.ior, 1) := by decide +kernel
theorem dX6_trade_86 : decode cX6_trade 86 = .ok (.iastore, 1) := by decide +kernel
theorem dX6_trade_87 : decode cX6_trade 87 = .ok (.aload_n 0, 1) := by decide +kernel
theorem dX6_trade_88 : decode cX6_trade 88 = .ok (.getfield 32, 3) := by decide +kernel
theorem dX6_trade_91 : decode cX6_trade 91 = .ok (.bipush 6, 2) := by decide +kernel
theorem dX6_trade_93 : decode cX6_trade 93 = .ok (.iload_n 1, 1) := by decide +kernel
theorem dX6_trade_94 : decode cX6_trade 94 = .ok (.imul, 1) := by decide +kernel
theorem dX6_trade_95 : decode cX6_trade 95 = .ok (.iload_n 3, 1) := by decide +kernel
theorem dX6_trade_96 : decode cX6_trade 96 = .ok (.iadd, 1) := by decide +kernel
theorem dX6_trade_97 : decode cX6_trade 97 = .ok (.dup2, 1) := by decide +kernel
theorem dX6_trade_98 : decode cX6_trade 98 = .ok (.iaload, 1) := by decide +kernel
theorem dX6_trade_99 : decode cX6_trade 99 = .ok (.iconst 1, 1) := by decide +kernel
theorem dX6_trade_100 : decode cX6_trade 100 = .ok (.iload 4, 2) := by decide +kernel
theorem dX6_trade_102 : decode cX6_trade 102 = .ok (.ishl, 1) := by decide +kernel
theorem dX6_trade_103 : decode cX6_trade 103 = .ok (.ior, 1) := by decide +kernel
theorem dX6_trade_104 : decode cX6_trade 104 = .ok (.iastore, 1) := by decide +kernel
theorem dX6_trade_105 : decode cX6_trade 105 = .ok (.iconst 1, 1) := by decide +kernel
theorem dX6_trade_106 : decode cX6_trade 106 = .ok (.ireturn, 1) := by decide +kernel
theorem dX6_digNow_0 : decode cX6_digNow 0 = .ok (.aload_n 0, 1) := by decide +kernel
theorem dX6_digNow_1 : decode cX6_digNow 1 = .ok (.getfield 7, 3) := by decide +kernel
theorem dX6_digNow_4 : decode cX6_digNow 4 = .ok (.aload_n 0, 1) := by decide +kernel
theorem dX6_digNow_5 : decode cX6_digNow 5 = .ok (.getfield 22, 3) := by decide +kernel
theorem dX6_digNow_8 : decode cX6_digNow 8 = .ok (.iconst 0, 1) := by decide +kernel
theorem dX6_digNow_9 : decode cX6_digNow 9 = .ok (.iaload, 1) := by decide +kernel
theorem dX6_digNow_10 : decode cX6_digNow 10 = .ok (.iaload, 1) := by decide +kernel
theorem dX6_digNow_11 : decode cX6_digNow 11 = .ok (.aload_n 0, 1) := by decide +kernel
theorem dX6_digNow_12 : decode cX6_digNow 12 = .ok (.getfield 7, 3) := by decide +kernel
theorem dX6_digNow_15 : decode cX6_digNow 15 = .ok (.aload_n 0, 1) := by decide +kernel
theorem dX6_digNow_16 : decode cX6_digNow 16 = .ok (.getfield 22, 3) := by decide +kernel
theorem dX6_digNow_19 : decode cX6_digNow 19 = .ok (.iconst 1, 1) := by decide +kernel
theorem dX6_digNow_20 : decode cX6_digNow 20 = .ok (.iaload, 1) := by decide +kernel
theorem dX6_digNow_21 : decode cX6_digNow 21 = .ok (.iaload, 1) := by decide +kernel
theorem dX6_digNow_22 : decode cX6_digNow 22 = .ok (.iadd, 1) := by decide +kernel
theorem dX6_digNow_23 : decode cX6_digNow 23 = .ok (.aload_n 0, 1) := by decide +kernel
theorem dX6_digNow_24 : decode cX6_digNow 24 = .ok (.getfield 7, 3) := by decide +kernel
theorem dX6_digNow_27 : decode cX6_digNow 27 = .ok (.aload_n 0, 1) := by decide +kernel
theorem dX6_digNow_28 : decode cX6_digNow 28 = .ok (.getfield 22, 3) := by decide +kernel
theorem dX6_digNow_31 : decode cX6_digNow 31 = .ok (.iconst 2, 1) := by decide +kernel
theorem dX6_digNow_32 : decode cX6_digNow 32 = .ok (.iaload, 1) := by decide +kernel
theorem dX6_digNow_33 : decode cX6_digNow 33 = .ok (.iaload, 1) := by decide +kernel
theorem dX6_digNow_34 : decode cX6_digNow 34 = .ok (.isub, 1) := by decide +kernel
theorem dX6_digNow_35 : decode cX6_digNow 35 = .ok (.istore 4, 2) := by decide +kernel
theorem dX6_digNow_37 : decode cX6_digNow 37 = .ok (.aload_n 0, 1) := by decide +kernel
theorem dX6_digNow_38 : decode cX6_digNow 38 = .ok (.getfield 13, 3) := by decide +kernel
theorem dX6_digNow_41 : decode cX6_digNow 41 = .ok (.aload_n 0, 1) := by decide +kernel
theorem dX6_digNow_42 : decode cX6_digNow 42 = .ok (.getfield 22, 3) := by decide +kernel
theorem dX6_digNow_45 : decode cX6_digNow 45 = .ok (.iconst 0, 1) := by decide +kernel
theorem dX6_digNow_46 : decode cX6_digNow 46 = .ok (.iaload, 1) := by decide +kernel
theorem dX6_digNow_47 : decode cX6_digNow 47 = .ok (.iaload, 1) := by decide +kernel
theorem dX6_digNow_48 : decode cX6_digNow 48 = .ok (.aload_n 0, 1) := by decide +kernel
theorem dX6_digNow_49 : decode cX6_digNow 49 = .ok (.getfield 13, 3) := by decide +kernel
theorem dX6_digNow_52 : decode cX6_digNow 52 = .ok (.aload_n 0, 1) := by decide +kernel
theorem dX6_digNow_53 : decode cX6_digNow 53 = .ok (.getfield 22, 3) := by decide +kernel
theorem dX6_digNow_56 : decode cX6_digNow 56 = .ok (.iconst 1, 1) := by decide +kernel
theorem dX6_digNow_57 : decode cX6_digNow 57 = .ok (.iaload, 1) := by decide +kernel
theorem dX6_digNow_58 : decode cX6_digNow 58 = .ok (.iaload, 1) := by decide +kernel
theorem dX6_digNow_59 : decode cX6_digNow 59 = .ok (.iadd, 1) := by decide +kernel
theorem dX6_digNow_60 : decode cX6_digNow 60 = .ok (.aload_n 0, 1) := by decide +kernel
theorem dX6_digNow_61 : decode cX6_digNow 61 = .ok (.getfield 13, 3) := by decide +kernel
theorem dX6_digNow_64 : decode cX6_digNow 64 = .ok (.aload_n 0, 1) := by decide +kernel
theorem dX6_digNow_65 : decode cX6_digNow 65 = .ok (.getfield 22, 3) := by decide +kernel
theorem dX6_digNow_68 : decode cX6_digNow 68 = .ok (.iconst 2, 1) := by decide +kernel
theorem dX6_digNow_69 : decode cX6_digNow 69 = .ok (.iaload, 1) := by decide +kernel
theorem dX6_digNow_70 : decode cX6_digNow 70 = .ok (.iaload, 1) := by decide +kernel
theorem dX6_digNow_71 : decode cX6_digNow 71 = .ok (.isub, 1) := by decide +kernel
theorem dX6_digNow_72 : decode cX6_digNow 72 = .ok (.istore 5, 2) := by decide +kernel
theorem dX6_digNow_74 : decode cX6_digNow 74 = .ok (.aload_n 0, 1) := by decide +kernel
theorem dX6_digNow_75 : decode cX6_digNow 75 = .ok (.getfield 35, 3) := by decide +kernel
theorem dX6_digNow_78 : decode cX6_digNow 78 = .ok (.iload_n 1, 1) := by decide +kernel
theorem dX6_digNow_79 : decode cX6_digNow 79 = .ok (.dup2, 1) := by decide +kernel
theorem dX6_digNow_80 : decode cX6_digNow 80 = .ok (.iaload, 1) := by decide +kernel
theorem dX6_digNow_81 : decode cX6_digNow 81 = .ok (.aload_n 0, 1) := by decide +kernel
theorem dX6_digNow_82 : decode cX6_digNow 82 = .ok (.getfield 25, 3) := by decide +kernel
theorem dX6_digNow_85 : decode cX6_digNow 85 = .ok (.isub, 1) := by decide +kernel
theorem dX6_digNow_86 : decode cX6_digNow 86 = .ok (.iastore, 1) := by decide +kernel
theorem dX6_digNow_87 : decode cX6_digNow 87 = .ok (.iload_n 2, 1) := by decide +kernel
theorem dX6_digNow_88 : decode cX6_digNow 88 = .ok (.iload 4, 2) := by decide +kernel
theorem dX6_digNow_90 : decode cX6_digNow 90 = .ok (.if_icmp .ne 29, 3) := by decide +kernel
theorem dX6_digNow_93 : decode cX6_digNow 93 = .ok (.iload_n 3, 1) := by decide +kernel
theorem dX6_digNow_94 : decode cX6_digNow 94 = .ok (.iload 5, 2) := by decide +kernel
theorem dX6_digNow_96 : decode cX6_digNow 96 = .ok (.if_icmp .ne 23, 3) := by decide +kernel
theorem dX6_digNow_99 : decode cX6_digNow 99 = .ok (.aload_n 0, 1) := by decide +kernel
theorem dX6_digNow_100 : decode cX6_digNow 100 = .ok (.getfield 35, 3) := by decide +kernel
theorem dX6_digNow_103 : decode cX6_digNow 103 = .ok (.iload_n 1, 1) := by decide +kernel
theorem dX6_digNow_104 : decode cX6_digNow 104 = .ok (.dup2, 1) := by decide +kernel
theorem dX6_digNow_105 : decode cX6_digNow 105 = .ok (.iaload, 1) := by decide +kernel
theorem dX6_digNow_106 : decode cX6_digNow 106 = .ok (.aload_n 0, 1) := by decide +kernel
theorem dX6_digNow_107 : decode cX6_digNow 107 = .ok (.getfield 29, 3) := by decide +kernel
theorem dX6_digNow_110 : decode cX6_digNow 110 = .ok (.iadd, 1) := by decide +kernel
theorem dX6_digNow_111 : decode cX6_digNow 111 = .ok (.iastore, 1) := by decide +kernel
theorem dX6_digNow_112 : decode cX6_digNow 112 = .ok (.aload_n 0, 1) := by decide +kernel
theorem dX6_digNow_113 : decode cX6_digNow 113 = .ok (.iload_n 1, 1) := by decide +kernel
theorem dX6_digNow_114 : decode cX6_digNow 114 = .ok (.putfield 44, 3) := by decide +kernel
theorem dX6_digNow_117 : decode cX6_digNow 117 = .ok (.iconst 1, 1) := by decide +kernel
theorem dX6_digNow_118 : decode cX6_digNow 118 = .ok (.ireturn, 1) := by decide +kernel
theorem dX6_digNow_119 : decode cX6_digNow 119 = .ok (.aload_n 0, 1) := by decide +kernel
theorem dX6_digNow_120 : decode cX6_digNow 120 = .ok (.getfield 120, 3) := by decide +kernel
theorem dX6_digNow_123 : decode cX6_digNow 123 = .ok (.bipush 20, 2) := by decide +kernel
theorem dX6_digNow_125 : decode cX6_digNow 125 = .ok (.if_icmp .ge 33, 3) := by decide +kernel
theorem dX6_digNow_128 : decode cX6_digNow 128 = .ok (.aload_n 0, 1) := by decide +kernel
theorem dX6_digNow_129 : decode cX6_digNow 129 = .ok (.getfield 38, 3) := by decide +kernel
theorem dX6_digNow_132 : decode cX6_digNow 132 = .ok (.aload_n 0, 1) := by decide +kernel
theorem dX6_digNow_133 : decode cX6_digNow 133 = .ok (.getfield 120, 3) := by decide +kernel
theorem dX6_digNow_136 : decode cX6_digNow 136 = .ok (.iload_n 2, 1) := by decide +kernel
theorem dX6_digNow_137 : decode cX6_digNow 137 = .ok (.iastore, 1) := by decide +kernel
theorem dX6_digNow_138 : decode cX6_digNow 138 = .ok (.aload_n 0, 1) := by decide +kernel
theorem dX6_digNow_139 : decode cX6_digNow 139 = .ok (.getfield 41, 3) := by decide +kernel
theorem dX6_digNow_142 : decode cX6_digNow 142 = .ok (.aload_n 0, 1) := by decide +kernel
theorem dX6_digNow_143 : decode cX6_digNow 143 = .ok (.getfield 120, 3) := by decide +kernel
theorem dX6_digNow_146 : decode cX6_digNow 146 = .ok (.iload_n 3, 1) := by decide +kernel
theorem dX6_digNow_147 : decode cX6_digNow 147 = .ok (.iastore, 1) := by decide +kernel
theorem dX6_digNow_148 : decode cX6_digNow 148 = .ok (.aload_n 0, 1) := by decide +kernel
theorem dX6_digNow_149 : decode cX6_digNow 149 = .ok (.dup, 1) := by decide +kernel
theorem dX6_digNow_150 : decode cX6_digNow 150 = .ok (.getfield 120, 3) := by decide +kernel
theorem dX6_digNow_153 : decode cX6_digNow 153 = .ok (.iconst 1, 1) := by decide +kernel
theorem dX6_digNow_154 : decode cX6_digNow 154 = .ok (.iadd, 1) := by decide +kernel
theorem dX6_digNow_155 : decode cX6_digNow 155 = .ok (.putfield 120, 3) := by decide +kernel
theorem dX6_digNow_158 : decode cX6_digNow 158 = .ok (.iconst 0, 1) := by decide +kernel
theorem dX6_digNow_159 : decode cX6_digNow 159 = .ok (.ireturn, 1) := by decide +kernel
theorem dX6_dig_0 : decode cX6_dig 0 = .ok (.iload_n 1, 1) := by decide +kernel
theorem dX6_dig_1 : decode cX6_dig 1 = .ok (.invokestatic 267, 3) := by decide +kernel
theorem dX6_dig_4 : decode cX6_dig 4 = .ok (.ifCond .ne 7, 3) := by decide +kernel
theorem dX6_dig_7 : decode cX6_dig 7 = .ok (.ldc_w 266, 3) := by decide +kernel
theorem dX6_dig_10 : decode cX6_dig 10 = .ok (.ireturn, 1) := by decide +kernel
theorem dX6_dig_11 : decode cX6_dig 11 = .ok (.iload_n 2, 1) := by decide +kernel
theorem dX6_dig_12 : decode cX6_dig 12 = .ok (.i2l, 1) := by decide +kernel
theorem dX6_dig_13 : decode cX6_dig 13 = .ok (.lconst 0, 1) := by decide +kernel
theorem dX6_dig_14 : decode cX6_dig 14 = .ok (.ldc2_w 324, 3) := by decide +kernel
theorem dX6_dig_17 : decode cX6_dig 17 = .ok (.invokestatic 114, 3) := by decide +kernel
theorem dX6_dig_20 : decode cX6_dig 20 = .ok (.ifCond .eq 15, 3) := by decide +kernel
theorem dX6_dig_23 : decode cX6_dig 23 = .ok (.iload_n 3, 1) := by decide +kernel
theorem dX6_dig_24 : decode cX6_dig 24 = .ok (.i2l, 1) := by decide +kernel
theorem dX6_dig_25 : decode cX6_dig 25 = .ok (.lconst 0, 1) := by decide +kernel
theorem dX6_dig_26 : decode cX6_dig 26 = .ok (.ldc2_w 324, 3) := by decide +kernel
theorem dX6_dig_29 : decode cX6_dig 29 = .ok (.invokestatic 114, 3) := by decide +kernel
theorem dX6_dig_32 : decode cX6_dig 32 = .ok (.ifCond .ne 6, 3) := by decide +kernel
theorem dX6_dig_35 : decode cX6_dig 35 = .ok (.ldc 125, 2) := by decide +kernel
theorem dX6_dig_37 : decode cX6_dig 37 = .ok (.ireturn, 1) := by decide +kernel
theorem dX6_dig_38 : decode cX6_dig 38 = .ok (.aload_n 0, 1) := by decide +kernel
theorem dX6_dig_39 : decode cX6_dig 39 = .ok (.getfield 44, 3) := by decide +kernel
theorem dX6_dig_42 : decode cX6_dig 42 = .ok (.ifCond .ge 10, 3) := by decide +kernel
theorem dX6_dig_45 : decode cX6_dig 45 = .ok (.aload_n 0, 1) := by decide +kernel
theorem dX6_dig_46 : decode cX6_dig 46 = .ok (.getfield 111, 3) := by decide +kernel
theorem dX6_dig_49 : decode cX6_dig 49 = .ok (.ifCond .ne 7, 3) := by decide +kernel
theorem dX6_dig_52 : decode cX6_dig 52 = .ok (.ldc_w 317, 3) := by decide +kernel
theorem dX6_dig_55 : decode cX6_dig 55 = .ok (.ireturn, 1) := by decide +kernel
theorem dX6_dig_56 : decode cX6_dig 56 = .ok (.aload_n 0, 1) := by decide +kernel
theorem dX6_dig_57 : decode cX6_dig 57 = .ok (.getfield 120, 3) := by decide +kernel
theorem dX6_dig_60 : decode cX6_dig 60 = .ok (.bipush 20, 2) := by decide +kernel
theorem dX6_dig_62 : decode cX6_dig 62 = .ok (.if_icmp .ne 8, 3) := by decide +kernel
theorem dX6_dig_65 : decode cX6_dig 65 = .ok (.ldc 129, 2) := by decide +kernel
theorem dX6_dig_67 : decode cX6_dig 67 = .ok (.goto 10, 3) := by decide +kernel
theorem dX6_dig_70 : decode cX6_dig 70 = .ok (.aload_n 0, 1) := by decide +kernel
theorem dX6_dig_71 : decode cX6_dig 71 = .ok (.iload_n 1, 1) := by decide +kernel
theorem dX6_dig_72 : decode cX6_dig 72 = .ok (.iload_n 2, 1) := by decide +kernel
theorem dX6_dig_73 : decode cX6_dig 73 = .ok (.iload_n 3, 1) := by decide +kernel
theorem dX6_dig_74 : decode cX6_dig 74 = .ok (.invokevirtual 326, 3) := by decide +kernel
theorem dX6_dig_77 : decode cX6_dig 77 = .ok (.ireturn, 1) := by decide +kernel
theorem dX6_purse_0 : decode cX6_purse 0 = .ok (.iload_n 1, 1) := by decide +kernel
theorem dX6_purse_1 : decode cX6_purse 1 = .ok (.invokestatic 267, 3) := by decide +kernel
theorem dX6_purse_4 : decode cX6_purse 4 = .ok (.ifCond .eq 12, 3) := by decide +kernel
theorem dX6_purse_7 : decode cX6_purse 7 = .ok (.aload_n 0, 1) := by decide +kernel
theorem dX6_purse_8 : decode cX6_purse 8 = .ok (.getfield 35, 3) := by decide +kernel
theorem dX6_purse_11 : decode cX6_purse 11 = .ok (.iload_n 1, 1) := by decide +kernel
theorem dX6_purse_12 : decode cX6_purse 12 = .ok (.iaload, 1) := by decide +kernel
theorem dX6_purse_13 : decode cX6_purse 13 = .ok (.goto 6, 3) := by decide +kernel
theorem dX6_purse_16 : decode cX6_purse 16 = .ok (.ldc_w 266, 3) := by decide +kernel
theorem dX6_purse_19 : decode cX6_purse 19 = .ok (.ireturn, 1) := by decide +kernel
theorem dX6_may_0 : decode cX6_may 0 = .ok (.iload_n 1, 1) := by decide +kernel
theorem dX6_may_1 : decode cX6_may 1 = .ok (.invokestatic 267, 3) := by decide +kernel
theorem dX6_may_4 : decode cX6_may 4 = .ok (.ifCond .ne 7, 3) := by decide +kernel
theorem dX6_may_7 : decode cX6_may 7 = .ok (.ldc_w 266, 3) := by decide +kernel
theorem dX6_may_10 : decode cX6_may 10 = .ok (.ireturn, 1) := by decide +kernel
theorem dX6_may_11 : decode cX6_may 11 = .ok (.iload_n 2, 1) := by decide +kernel
theorem dX6_may_12 : decode cX6_may 12 = .ok (.iconst (-1), 1) := by decide +kernel
theorem dX6_may_13 : decode cX6_may 13 = .ok (.if_icmp .ne 9, 3) := by decide +kernel
theorem dX6_may_16 : decode cX6_may 16 = .ok (.aload_n 0, 1) := by decide +kernel
theorem dX6_may_17 : decode cX6_may 17 = .ok (.iload_n 1, 1) := by decide +kernel
theorem dX6_may_18 : decode cX6_may 18 = .ok (.invokevirtual 330, 3) := by decide +kernel
theorem dX6_may_21 : decode cX6_may 21 = .ok (.ireturn, 1) := by decide +kernel
theorem dX6_may_22 : decode cX6_may 22 = .ok (.iconst 0, 1) := by decide +kernel
theorem dX6_may_23 : decode cX6_may 23 = .ok (.istore_n 3, 1) := by decide +kernel
theorem dX6_may_24 : decode cX6_may 24 = .ok (.iconst 0, 1) := by decide +kernel
theorem dX6_may_25 : decode cX6_may 25 = .ok (.istore 4, 2) := by decide +kernel
theorem dX6_may_27 : decode cX6_may 27 = .ok (.iload 4, 2) := by decide +kernel
theorem dX6_may_29 : decode cX6_may 29 = .ok (.bipush 64, 2) := by decide +kernel
theorem dX6_may_31 : decode cX6_may 31 = .ok (.if_icmp .ge 42, 3) := by decide +kernel
theorem dX6_may_34 : decode cX6_may 34 = .ok (.iload 4, 2) := by decide +kernel
theorem dX6_may_36 : decode cX6_may 36 = .ok (.invokestatic 306, 3) := by decide +kernel
theorem dX6_may_39 : decode cX6_may 39 = .ok (.aload_n 0, 1) := by decide +kernel
theorem dX6_may_40 : decode cX6_may 40 = .ok (.getfield 250, 3) := by decide +kernel
theorem dX6_may_43 : decode cX6_may 43 = .ok (.if_icmp .ne 24, 3) := by decide +kernel
theorem dX6_may_46 : decode cX6_may 46 = .ok (.aload_n 0, 1) := by decide +kernel
theorem dX6_may_47 : decode cX6_may 47 = .ok (.iload_n 1, 1) := by decide +kernel
theorem dX6_may_48 : decode cX6_may 48 = .ok (.iload 4, 2) := by decide +kernel
theorem dX6_may_50 : decode cX6_may 50 = .ok (.invokevirtual 309, 3) := by decide +kernel
theorem dX6_may_53 : decode cX6_may 53 = .ok (.ifCond .eq 14, 3) := by decide +kernel
theorem dX6_may_56 : decode cX6_may 56 = .ok (.iload_n 3, 1) := by decide +kernel
theorem dX6_may_57 : decode cX6_may 57 = .ok (.iload_n 2, 1) := by decide +kernel
theorem dX6_may_58 : decode cX6_may 58 = .ok (.if_icmp .ne 6, 3) := by decide +kernel
theorem dX6_may_61 : decode cX6_may 61 = .ok (.iload 4, 2) := by decide +kernel
theorem dX6_may_63 : decode cX6_may 63 = .ok (.ireturn, 1) := by decide +kernel
theorem dX6_may_64 : decode cX6_may 64 = .ok (.iinc 3 1, 3) := by decide +kernel
theorem dX6_may_67 : decode cX6_may 67 = .ok (.iinc 4 1, 3) := by decide +kernel
theorem dX6_may_70 : decode cX6_may 70 = .ok (.goto (-43), 3) := by decide +kernel
theorem dX6_may_73 : decode cX6_may 73 = .ok (.iconst (-1), 1) := by decide +kernel
theorem dX6_may_74 : decode cX6_may 74 = .ok (.ireturn, 1) := by decide +kernel
theorem dX6_sure_0 : decode cX6_sure 0 = .ok (.iload_n 1, 1) := by decide +kernel
theorem dX6_sure_1 : decode cX6_sure 1 = .ok (.invokestatic 267, 3) := by decide +kernel
theorem dX6_sure_4 : decode cX6_sure 4 = .ok (.ifCond .ne 7, 3) := by decide +kernel
theorem dX6_sure_7 : decode cX6_sure 7 = .ok (.ldc_w 266, 3) := by decide +kernel
theorem dX6_sure_10 : decode cX6_sure 10 = .ok (.ireturn, 1) := by decide +kernel
theorem dX6_sure_11 : decode cX6_sure 11 = .ok (.iload_n 2, 1) := by decide +kernel
theorem dX6_sure_12 : decode cX6_sure 12 = .ok (.i2l, 1) := by decide +kernel
theorem dX6_sure_13 : decode cX6_sure 13 = .ok (.lconst 0, 1) := by decide +kernel
theorem dX6_sure_14 : decode cX6_sure 14 = .ok (.lconst 1, 1) := by decide +kernel
theorem dX6_sure_15 : decode cX6_sure 15 = .ok (.invokestatic 114, 3) := by decide +kernel
theorem dX6_sure_18 : decode cX6_sure 18 = .ok (.ifCond .ne 6, 3) := by decide +kernel
theorem dX6_sure_21 : decode cX6_sure 21 = .ok (.ldc 125, 2) := by decide +kernel
theorem dX6_sure_23 : decode cX6_sure 23 = .ok (.ireturn, 1) := by decide +kernel
theorem dX6_sure_24 : decode cX6_sure 24 = .ok (.bipush 63, 2) := by decide +kernel
theorem dX6_sure_26 : decode cX6_sure 26 = .ok (.istore_n 3, 1) := by decide +kernel
theorem dX6_sure_27 : decode cX6_sure 27 = .ok (.iconst 0, 1) := by decide +kernel
theorem dX6_sure_28 : decode cX6_sure 28 = .ok (.istore 4, 2) := by decide +kernel
theorem dX6_sure_30 : decode cX6_sure 30 = .ok (.iconst 0, 1) := by decide +kernel
theorem dX6_sure_31 : decode cX6_sure 31 = .ok (.istore 5, 2) := by decide +kernel
theorem dX6_sure_33 : decode cX6_sure 33 = .ok (.iconst 0, 1) := by decide +kernel
theorem dX6_sure_34 : decode cX6_sure 34 = .ok (.istore 6, 2) := by decide +kernel
theorem dX6_sure_36 : decode cX6_sure 36 = .ok (.iload 6, 2) := by decide +kernel
theorem dX6_sure_38 : decode cX6_sure 38 = .ok (.bipush 64, 2) := by decide +kernel
theorem dX6_sure_40 : decode cX6_sure 40 = .ok (.if_icmp .ge 46, 3) := by decide +kernel
theorem dX6_sure_43 : decode cX6_sure 43 = .ok (.iload 6, 2) := by decide +kernel
theorem dX6_sure_45 : decode cX6_sure 45 = .ok (.invokestatic 306, 3) := by decide +kernel
theorem dX6_sure_48 : decode cX6_sure 48 = .ok (.aload_n 0, 1) := by decide +kernel
theorem dX6_sure_49 : decode cX6_sure 49 = .ok (.getfield 250, 3) := by decide +kernel
theorem dX6_sure_52 : decode cX6_sure 52 = .ok (.if_icmp .ne 28, 3) := by decide +kernel
theorem dX6_sure_55 : decode cX6_sure 55 = .ok (.aload_n 0, 1) := by decide +kernel
theorem dX6_sure_56 : decode cX6_sure 56 = .ok (.iload_n 1, 1) := by decide +kernel
theorem dX6_sure_57 : decode cX6_sure 57 = .ok (.iload 6, 2) := by decide +kernel
theorem dX6_sure_59 : decode cX6_sure 59 = .ok (.invokevirtual 309, 3) := by decide +kernel
theorem dX6_sure_62 : decode cX6_sure 62 = .ok (.ifCond .eq 18, 3) := by decide +kernel
theorem dX6_sure_65 : decode cX6_sure 65 = .ok (.iinc 5 1, 3) := by decide +kernel
theorem dX6_sure_68 : decode cX6_sure 68 = .ok (.iload_n 3, 1) := by decide +kernel
theorem dX6_sure_69 : decode cX6_sure 69 = .ok (.iload 6, 2) := by decide +kernel
theorem dX6_sure_71 : decode cX6_sure 71 = .ok (.iand, 1) := by decide +kernel
theorem dX6_sure_72 : decode cX6_sure 72 = .ok (.istore_n 3, 1) := by decide +kernel
theorem dX6_sure_73 : decode cX6_sure 73 = .ok (.iload 4, 2) := by decide +kernel
theorem dX6_sure_75 : decode cX6_sure 75 = .ok (.iload 6, 2) := by decide +kernel
theorem dX6_sure_77 : decode cX6_sure 77 = .ok (.ior, 1) := by decide +kernel
theorem dX6_sure_78 : decode cX6_sure 78 = .ok (.istore 4, 2) := by decide +kernel
theorem dX6_sure_80 : decode cX6_sure 80 = .ok (.iinc 6 1, 3) := by decide +kernel
theorem dX6_sure_83 : decode cX6_sure 83 = .ok (.goto (-47), 3) := by decide +kernel
theorem dX6_sure_86 : decode cX6_sure 86 = .ok (.iload 5, 2) := by decide +kernel
theorem dX6_sure_88 : decode cX6_sure 88 = .ok (.ifCond .ne 7, 3) := by decide +kernel
theorem dX6_sure_91 : decode cX6_sure 91 = .ok (.iconst (-1), 1) := by decide +kernel
theorem dX6_sure_92 : decode cX6_sure 92 = .ok (.goto 18, 3) := by decide +kernel
theorem dX6_sure_95 : decode cX6_sure 95 = .ok (.iload_n 2, 1) := by decide +kernel
theorem dX6_sure_96 : decode cX6_sure 96 = .ok (.ifCond .ne 7, 3) := by decide +kernel
theorem dX6_sure_99 : decode cX6_sure 99 = .ok (.iload_n 3, 1) := by decide +kernel
theorem dX6_sure_100 : decode cX6_sure 100 = .ok (.goto 10, 3) := by decide +kernel
theorem dX6_sure_103 : decode cX6_sure 103 = .ok (.bipush 63, 2) := by decide +kernel
theorem dX6_sure_105 : decode cX6_sure 105 = .ok (.iload 4, 2) := by decide +kernel
theorem dX6_sure_107 : decode cX6_sure 107 = .ok (.iconst (-1), 1) := by decide +kernel
theorem dX6_sure_108 : decode cX6_sure 108 = .ok (.ixor, 1) := by decide +kernel
theorem dX6_sure_109 : decode cX6_sure 109 = .ok (.iand, 1) := by decide +kernel
theorem dX6_sure_110 : decode cX6_sure 110 = .ok (.ireturn, 1) := by decide +kernel
theorem dX6_area_0 : decode cX6_area 0 = .ok (.iload_n 1, 1) := by decide +kernel
theorem dX6_area_1 : decode cX6_area 1 = .ok (.invokestatic 267, 3) := by decide +kernel
theorem dX6_area_4 : decode cX6_area 4 = .ok (.ifCond .ne 7, 3) := by decide +kernel
theorem dX6_area_7 : decode cX6_area 7 = .ok (.ldc_w 266, 3) := by decide +kernel
theorem dX6_area_10 : decode cX6_area 10 = .ok (.ireturn, 1) := by decide +kernel
theorem dX6_area_11 : decode cX6_area 11 = .ok (.iload_n 2, 1) := by decide +kernel
theorem dX6_area_12 : decode cX6_area 12 = .ok (.i2l, 1) := by decide +kernel
theorem dX6_area_13 : decode cX6_area 13 = .ok (.lconst 0, 1) := by decide +kernel
theorem dX6_area_14 : decode cX6_area 14 = .ok (.ldc2_w 333, 3) := by decide +kernel
theorem dX6_area_17 : decode cX6_area 17 = .ok (.invokestatic 114, 3) := by decide +kernel
theorem dX6_area_20 : decode cX6_area 20 = .ok (.ifCond .eq 15, 3) := by decide +kernel
theorem dX6_area_23 : decode cX6_area 23 = .ok (.iload_n 3, 1) := by decide +kernel
theorem dX6_area_24 : decode cX6_area 24 = .ok (.i2l, 1) := by decide +kernel
theorem dX6_area_25 : decode cX6_area 25 = .ok (.lconst 0, 1) := by decide +kernel
theorem dX6_area_26 : decode cX6_area 26 = .ok (.ldc2_w 315, 3) := by decide +kernel
theorem dX6_area_29 : decode cX6_area 29 = .ok (.invokestatic 114, 3) := by decide +kernel
theorem dX6_area_32 : decode cX6_area 32 = .ok (.ifCond .ne 6, 3) := by decide +kernel
theorem dX6_area_35 : decode cX6_area 35 = .ok (.ldc 125, 2) := by decide +kernel
theorem dX6_area_37 : decode cX6_area 37 = .ok (.ireturn, 1) := by decide +kernel
theorem dX6_area_38 : decode cX6_area 38 = .ok (.aload_n 0, 1) := by decide +kernel
theorem dX6_area_39 : decode cX6_area 39 = .ok (.getfield 111, 3) := by decide +kernel
theorem dX6_area_42 : decode cX6_area 42 = .ok (.ifCond .eq 23, 3) := by decide +kernel
theorem dX6_area_45 : decode cX6_area 45 = .ok (.iload_n 2, 1) := by decide +kernel
theorem dX6_area_46 : decode cX6_area 46 = .ok (.invokestatic 306, 3) := by decide +kernel
theorem dX6_area_49 : decode cX6_area 49 = .ok (.aload_n 0, 1) := by decide +kernel
theorem dX6_area_50 : decode cX6_area 50 = .ok (.getfield 250, 3) := by decide +kernel
theorem dX6_area_53 : decode cX6_area 53 = .ok (.if_icmp .ne 12, 3) := by decide +kernel
theorem dX6_area_56 : decode cX6_area 56 = .ok (.aload_n 0, 1) := by decide +kernel
theorem dX6_area_57 : decode cX6_area 57 = .ok (.iload_n 1, 1) := by decide +kernel
theorem dX6_area_58 : decode cX6_area 58 = .ok (.iload_n 2, 1) := by decide +kernel
theorem dX6_area_59 : decode cX6_area 59 = .ok (.invokevirtual 309, 3) := by decide +kernel
theorem dX6_area_62 : decode cX6_area 62 = .ok (.ifCond .ne 7, 3) := by decide +kernel
theorem dX6_area_65 : decode cX6_area 65 = .ok (.ldc_w 317, 3) := by decide +kernel
theorem dX6_area_68 : decode cX6_area 68 = .ok (.ireturn, 1) := by decide +kernel
theorem dX6_area_69 : decode cX6_area 69 = .ok (.aload_n 0, 1) := by decide +kernel
theorem dX6_area_70 : decode cX6_area 70 = .ok (.invokevirtual 318, 3) := by decide +kernel
theorem dX6_area_73 : decode cX6_area 73 = .ok (.aload_n 0, 1) := by decide +kernel
theorem dX6_area_74 : decode cX6_area 74 = .ok (.getfield 78, 3) := by decide +kernel
theorem dX6_area_77 : decode cX6_area 77 = .ok (.iload_n 3, 1) := by decide +kernel
theorem dX6_area_78 : decode cX6_area 78 = .ok (.iaload, 1) := by decide +kernel
theorem dX6_area_79 : decode cX6_area 79 = .ok (.ireturn, 1) := by decide +kernel
theorem dX6_addPlace_0 : decode cX6_addPlace 0 = .ok (.iconst 0, 1) := by decide +kernel
theorem dX6_addPlace_1 : decode cX6_addPlace 1 = .ok (.istore_n 3, 1) := by decide +kernel
theorem dX6_addPlace_2 : decode cX6_addPlace 2 = .ok (.iload_n 3, 1) := by decide +kernel
theorem dX6_addPlace_3 : decode cX6_addPlace 3 = .ok (.aload_n 0, 1) := by decide +kernel
theorem dX6_addPlace_4 : decode cX6_addPlace 4 = .ok (.getfield 335, 3) := by decide +kernel
theorem dX6_addPlace_7 : decode cX6_addPlace 7 = .ok (.if_icmp .ge 29, 3) := by decide +kernel
theorem dX6_addPlace_10 : decode cX6_addPlace 10 = .ok (.aload_n 0, 1) := by decide +kernel
theorem dX6_addPlace_11 : decode cX6_addPlace 11 = .ok (.getfield 81, 3) := by decide +kernel
theorem dX6_addPlace_14 : decode cX6_addPlace 14 = .ok (.iload_n 3, 1) := by decide +kernel
theorem dX6_addPlace_15 : decode cX6_addPlace 15 = .ok (.iaload, 1) := by decide +kernel
theorem dX6_addPlace_16 : decode cX6_addPlace 16 = .ok (.iload_n 1, 1) := by decide +kernel
theorem dX6_addPlace_17 : decode cX6_addPlace 17 = .ok (.if_icmp .ne 13, 3) := by decide +kernel
theorem dX6_addPlace_20 : decode cX6_addPlace 20 = .ok (.aload_n 0, 1) := by decide +kernel
theorem dX6_addPlace_21 : decode cX6_addPlace 21 = .ok (.getfield 84, 3) := by decide +kernel
theorem dX6_addPlace_24 : decode cX6_addPlace 24 = .ok (.iload_n 3, 1) := by decide +kernel
theorem dX6_addPlace_25 : decode cX6_addPlace 25 = .ok (.iaload, 1) := by decide +kernel
theorem dX6_addPlace_26 : decode cX6_addPlace 26 = .ok (.iload_n 2, 1) := by decide +kernel
theorem dX6_addPlace_27 : decode cX6_addPlace 27 = .ok (.if_icmp .eq 9, 3) := by decide +kernel
theorem dX6_addPlace_30 : decode cX6_addPlace 30 = .ok (.iinc 3 1, 3) := by decide +kernel
theorem dX6_addPlace_33 : decode cX6_addPlace 33 = .ok (.goto (-31), 3) := by decide +kernel
theorem dX6_addPlace_36 : decode cX6_addPlace 36 = .ok (.iload_n 3, 1) := by decide +kernel
theorem dX6_addPlace_37 : decode cX6_addPlace 37 = .ok (.aload_n 0, 1) := by decide +kernel
theorem dX6_addPlace_38 : decode cX6_addPlace 38 = .ok (.getfield 335, 3) := by decide +kernel
theorem dX6_addPlace_41 : decode cX6_addPlace 41 = .ok (.if_icmp .ne 34, 3) := by decide +kernel
theorem dX6_addPlace_44 : decode cX6_addPlace 44 = .ok (.aload_n 0, 1) := by decide +kernel
theorem dX6_addPlace_45 : decode cX6_addPlace 45 = .ok (.getfield 81, 3) := by decide +kernel
theorem dX6_addPlace_48 : decode cX6_addPlace 48 = .ok (.iload_n 3, 1) := by decide +kernel
theorem dX6_addPlace_49 : decode cX6_addPlace 49 = .ok (.iload_n 1, 1) := by decide +kernel
theorem dX6_addPlace_50 : decode cX6_addPlace 50 = .ok (.iastore, 1) := by decide +kernel
theorem dX6_addPlace_51 : decode cX6_addPlace 51 = .ok (.aload_n 0, 1) := by decide +kernel
theorem dX6_addPlace_52 : decode cX6_addPlace 52 = .ok (.getfield 84, 3) := by decide +kernel
theorem dX6_addPlace_55 : decode cX6_addPlace 55 = .ok (.iload_n 3, 1) := by decide +kernel
theorem dX6_addPlace_56 : decode cX6_addPlace 56 = .ok (.iload_n 2, 1) := by decide +kernel
theorem dX6_addPlace_57 : decode cX6_addPlace 57 = .ok (.iastore, 1) := by decide +kernel
theorem dX6_addPlace_58 : decode cX6_addPlace 58 = .ok (.aload_n 0, 1) := by decide +kernel
theorem dX6_addPlace_59 : decode cX6_addPlace 59 = .ok (.getfield 87, 3) := by decide +kernel
theorem dX6_addPlace_62 : decode cX6_addPlace 62 = .ok (.iload_n 3, 1) := by decide +kernel
theorem dX6_addPlace_63 : decode cX6_addPlace 63 = .ok (.iconst 0, 1) := by decide +kernel
theorem dX6_addPlace_64 : decode cX6_addPlace 64 = .ok (.iastore, 1) := by decide +kernel
theorem dX6_addPlace_65 : decode cX6_addPlace 65 = .ok (.aload_n 0, 1) := by decide +kernel
theorem dX6_addPlace_66 : decode cX6_addPlace 66 = .ok (.dup, 1) := by decide +kernel
theorem dX6_addPlace_67 : decode cX6_addPlace 67 = .ok (.getfield 335, 3) := by decide +kernel
theorem dX6_addPlace_70 : decode cX6_addPlace 70 = .ok (.iconst 1, 1) := by decide +kernel
theorem dX6_addPlace_71 : decode cX6_addPlace 71 = .ok (.iadd, 1) := by decide +kernel
theorem dX6_addPlace_72 : decode cX6_addPlace 72 = .ok (.putfield 335, 3) := by decide +kernel
theorem dX6_addPlace_75 : decode cX6_addPlace 75 = .ok (.aload_n 0, 1) := by decide +kernel
theorem dX6_addPlace_76 : decode cX6_addPlace 76 = .ok (.getfield 87, 3) := by decide +kernel
theorem dX6_addPlace_79 : decode cX6_addPlace 79 = .ok (.iload_n 3, 1) := by decide +kernel
theorem dX6_addPlace_80 : decode cX6_addPlace 80 = .ok (.dup2, 1) := by decide +kernel
theorem dX6_addPlace_81 : decode cX6_addPlace 81 = .ok (.iaload, 1) := by decide +kernel
theorem dX6_addPlace_82 : decode cX6_addPlace 82 = .ok (.iconst 1, 1) := by decide +kernel
theorem dX6_addPlace_83 : decode cX6_addPlace 83 = .ok (.iadd, 1) := by decide +kernel
theorem dX6_addPlace_84 : decode cX6_addPlace 84 = .ok (.iastore, 1) := by decide +kernel
theorem dX6_addPlace_85 : decode cX6_addPlace 85 = .ok (.return_, 1) := by decide +kernel
theorem dX6_findPlaces_0 : decode cX6_findPlaces 0 = .ok (.aload_n 0, 1) := by decide +kernel
theorem dX6_findPlaces_1 : decode cX6_findPlaces 1 = .ok (.iconst 0, 1) := by decide +kernel
theorem dX6_findPlaces_2 : decode cX6_findPlaces 2 = .ok (.putfield 335, 3) := by decide +kernel
theorem dX6_findPlaces_5 : decode cX6_findPlaces 5 = .ok (.aload_n 0, 1) := by decide +kernel
theorem dX6_findPlaces_6 : decode cX6_findPlaces 6 = .ok (.iconst 0, 1) := by decide +kernel
theorem dX6_findPlaces_7 : decode cX6_findPlaces 7 = .ok (.putfield 338, 3) := by decide +kernel
theorem dX6_findPlaces_10 : decode cX6_findPlaces 10 = .ok (.iconst 0, 1) := by decide +kernel
theorem dX6_findPlaces_11 : decode cX6_findPlaces 11 = .ok (.istore_n 2, 1) := by decide +kernel
theorem dX6_findPlaces_12 : decode cX6_findPlaces 12 = .ok (.iload_n 2, 1) := by decide +kernel
theorem dX6_findPlaces_13 : decode cX6_findPlaces 13 = .ok (.bipush 64, 2) := by decide +kernel
theorem dX6_findPlaces_15 : decode cX6_findPlaces 15 = .ok (.if_icmp .ge 96, 3) := by decide +kernel
theorem dX6_findPlaces_18 : decode cX6_findPlaces 18 = .ok (.aload_n 0, 1) := by decide +kernel
theorem dX6_findPlaces_19 : decode cX6_findPlaces 19 = .ok (.getfield 111, 3) := by decide +kernel
theorem dX6_findPlaces_22 : decode cX6_findPlaces 22 = .ok (.ifCond .le 89, 3) := by decide +kernel
theorem dX6_findPlaces_25 : decode cX6_findPlaces 25 = .ok (.iload_n 2, 1) := by decide +kernel
theorem dX6_findPlaces_26 : decode cX6_findPlaces 26 = .ok (.invokestatic 306, 3) := by decide +kernel
theorem dX6_findPlaces_29 : decode cX6_findPlaces 29 = .ok (.aload_n 0, 1) := by decide +kernel
theorem dX6_findPlaces_30 : decode cX6_findPlaces 30 = .ok (.getfield 250, 3) := by decide +kernel
theorem dX6_findPlaces_33 : decode cX6_findPlaces 33 = .ok (.if_icmp .ne 72, 3) := by decide +kernel
theorem dX6_findPlaces_36 : decode cX6_findPlaces 36 = .ok (.aload_n 0, 1) := by decide +kernel
theorem dX6_findPlaces_37 : decode cX6_findPlaces 37 = .ok (.iload_n 1, 1) := by decide +kernel
theorem dX6_findPlaces_38 : decode cX6_findPlaces 38 = .ok (.iload_n 2, 1) := by decide +kernel
theorem dX6_findPlaces_39 : decode cX6_findPlaces 39 = .ok (.invokevirtual 309, 3) := by decide +kernel
theorem dX6_findPlaces_42 : decode cX6_findPlaces 42 = .ok (.ifCond .eq 63, 3) := by decide +kernel
theorem dX6_findPlaces_45 : decode cX6_findPlaces 45 = .ok (.aload_n 0, 1) := by decide +kernel
theorem dX6_findPlaces_46 : decode cX6_findPlaces 46 = .ok (.dup, 1) := by decide +kernel
theorem dX6_findPlaces_47 : decode cX6_findPlaces 47 = .ok (.getfield 338, 3) := by decide +kernel
theorem dX6_findPlaces_50 : decode cX6_findPlaces 50 = .ok (.iconst 1, 1) := by decide +kernel
theorem dX6_findPlaces_51 : decode cX6_findPlaces 51 = .ok (.iadd, 1) := by decide +kernel
theorem dX6_findPlaces_52 : decode cX6_findPlaces 52 = .ok (.putfield 338, 3) := by decide +kernel
theorem dX6_findPlaces_55 : decode cX6_findPlaces 55 = .ok (.aload_n 0, 1) := by decide +kernel
theorem dX6_findPlaces_56 : decode cX6_findPlaces 56 = .ok (.invokevirtual 318, 3) := by decide +kernel
theorem dX6_findPlaces_59 : decode cX6_findPlaces 59 = .ok (.aload_n 0, 1) := by decide +kernel
theorem dX6_findPlaces_60 : decode cX6_findPlaces 60 = .ok (.getfield 78, 3) := by decide +kernel
theorem dX6_findPlaces_63 : decode cX6_findPlaces 63 = .ok (.iconst 0, 1) := by decide +kernel
theorem dX6_findPlaces_64 : decode cX6_findPlaces 64 = .ok (.iaload, 1) := by decide +kernel
theorem dX6_findPlaces_65 : decode cX6_findPlaces 65 = .ok (.aload_n 0, 1) := by decide +kernel
theorem dX6_findPlaces_66 : decode cX6_findPlaces 66 = .ok (.getfield 78, 3) := by decide +kernel
theorem dX6_findPlaces_69 : decode cX6_findPlaces 69 = .ok (.iconst 1, 1) := by decide +kernel
theorem dX6_findPlaces_70 : decode cX6_findPlaces 70 = .ok (.iaload, 1) := by decide +kernel
theorem dX6_findPlaces_71 : decode cX6_findPlaces 71 = .ok (.if_icmp .ne 34, 3) := by decide +kernel
theorem dX6_findPlaces_74 : decode cX6_findPlaces 74 = .ok (.aload_n 0, 1) := by decide +kernel
theorem dX6_findPlaces_75 : decode cX6_findPlaces 75 = .ok (.getfield 78, 3) := by decide +kernel
theorem dX6_findPlaces_78 : decode cX6_findPlaces 78 = .ok (.iconst 2, 1) := by decide +kernel
theorem dX6_findPlaces_79 : decode cX6_findPlaces 79 = .ok (.iaload, 1) := by decide +kernel
theorem dX6_findPlaces_80 : decode cX6_findPlaces 80 = .ok (.aload_n 0, 1) := by decide +kernel
theorem dX6_findPlaces_81 : decode cX6_findPlaces 81 = .ok (.getfield 78, 3) := by decide +kernel
theorem dX6_findPlaces_84 : decode cX6_findPlaces 84 = .ok (.iconst 3, 1) := by decide +kernel
theorem dX6_findPlaces_85 : decode cX6_findPlaces 85 = .ok (.iaload, 1) := by decide +kernel
theorem dX6_findPlaces_86 : decode cX6_findPlaces 86 = .ok (.if_icmp .ne 19, 3) := by decide +kernel
theorem dX6_findPlaces_89 : decode cX6_findPlaces 89 = .ok (.aload_n 0, 1) := by decide +kernel
theorem dX6_findPlaces_90 : decode cX6_findPlaces 90 = .ok (.aload_n 0, 1) := by decide +kernel
theorem dX6_findPlaces_91 : decode cX6_findPlaces 91 = .ok (.getfield 78, 3) := by decide +kernel
theorem dX6_findPlaces_94 : decode cX6_findPlaces 94 = .ok (.iconst 0, 1) := by decide +kernel
theorem dX6_findPlaces_95 : decode cX6_findPlaces 95 = .ok (.iaload, 1) := by decide +kernel
theorem dX6_findPlaces_96 : decode cX6_findPlaces 96 = .ok (.aload_n 0, 1) := by decide +kernel
theorem dX6_findPlaces_97 : decode cX6_findPlaces 97 = .ok (.getfield 78, 3) := by decide +kernel
theorem dX6_findPlaces_100 : decode cX6_findPlaces 100 = .ok (.iconst 2, 1) := by decide +kernel
theorem dX6_findPlaces_101 : decode cX6_findPlaces 101 = .ok (.iaload, 1) := by decide +kernel
theorem dX6_findPlaces_102 : decode cX6_findPlaces 102 = .ok (.invokevirtual 341, 3) := by decide +kernel
theorem dX6_findPlaces_105 : decode cX6_findPlaces 105 = .ok (.iinc 2 1, 3) := by decide +kernel
theorem dX6_findPlaces_108 : decode cX6_findPlaces 108 = .ok (.goto (-96), 3) := by decide +kernel
theorem dX6_findPlaces_111 : decode cX6_findPlaces 111 = .ok (.return_, 1) := by decide +kernel
theorem dX6_bestPlace_0 : decode cX6_bestPlace 0 = .ok (.iconst (-1), 1) := by decide +kernel
theorem dX6_bestPlace_1 : decode cX6_bestPlace 1 = .ok (.istore_n 1, 1) := by decide +kernel
theorem dX6_bestPlace_2 : decode cX6_bestPlace 2 = .ok (.iconst 0, 1) := by decide +kernel
theorem dX6_bestPlace_3 : decode cX6_bestPlace 3 = .ok (.istore_n 2, 1) := by decide +kernel
theorem dX6_bestPlace_4 : decode cX6_bestPlace 4 = .ok (.iload_n 2, 1) := by decide +kernel
theorem dX6_bestPlace_5 : decode cX6_bestPlace 5 = .ok (.aload_n 0, 1) := by decide +kernel
theorem dX6_bestPlace_6 : decode cX6_bestPlace 6 = .ok (.getfield 335, 3) := by decide +kernel
theorem dX6_bestPlace_9 : decode cX6_bestPlace 9 = .ok (.if_icmp .ge 132, 3) := by decide +kernel
theorem dX6_bestPlace_12 : decode cX6_bestPlace 12 = .ok (.iload_n 1, 1) := by decide +kernel
theorem dX6_bestPlace_13 : decode cX6_bestPlace 13 = .ok (.ifCond .lt 18, 3) := by decide +kernel
theorem dX6_bestPlace_16 : decode cX6_bestPlace 16 = .ok (.aload_n 0, 1) := by decide +kernel
theorem dX6_bestPlace_17 : decode cX6_bestPlace 17 = .ok (.getfield 87, 3) := by decide +kernel
theorem dX6_bestPlace_20 : decode cX6_bestPlace 20 = .ok (.iload_n 2, 1) := by decide +kernel
theorem dX6_bestPlace_21 : decode cX6_bestPlace 21 = .ok (.iaload, 1) := by decide +kernel
theorem dX6_bestPlace_22 : decode cX6_bestPlace 22 = .ok (.aload_n 0, 1) := by decide +kernel
theorem dX6_bestPlace_23 : decode cX6_bestPlace 23 = .ok (.getfield 87, 3) := by decide +kernel
theorem dX6_bestPlace_26 : decode cX6_bestPlace 26 = .ok (.iload_n 1, 1) := by decide +kernel
theorem dX6_bestPlace_27 : decode cX6_bestPlace 27 = .ok (.iaload, 1) := by decide +kernel
theorem dX6_bestPlace_28 : decode cX6_bestPlace 28 = .ok (.if_icmp .le 7, 3) := by decide +kernel
theorem dX6_bestPlace_31 : decode cX6_bestPlace 31 = .ok (.iconst 1, 1) := by decide +kernel
theorem dX6_bestPlace_32 : decode cX6_bestPlace 32 = .ok (.goto 4, 3) := by decide +kernel
theorem dX6_bestPlace_35 : decode cX6_bestPlace 35 = .ok (.iconst 0, 1) := by decide +kernel
theorem dX6_bestPlace_36 : decode cX6_bestPlace 36 = .ok (.istore_n 3, 1) := by decide +kernel
theorem dX6_bestPlace_37 : decode cX6_bestPlace 37 = .ok (.iload_n 1, 1) := by decide +kernel
theorem dX6_bestPlace_38 : decode cX6_bestPlace 38 = .ok (.ifCond .lt 22, 3) := by decide +kernel
theorem dX6_bestPlace_41 : decode cX6_bestPlace 41 = .ok (.aload_n 0, 1) := by decide +kernel
theorem dX6_bestPlace_42 : decode cX6_bestPlace 42 = .ok (.getfield 87, 3) := by decide +kernel
theorem dX6_bestPlace_45 : decode cX6_bestPlace 45 = .ok (.iload_n 2, 1) := by decide +kernel
theorem dX6_bestPlace_46 : decode cX6_bestPlace 46 = .ok (.iaload, 1) := by decide +kernel
theorem dX6_bestPlace_47 : decode cX6_bestPlace 47 = .ok (.aload_n 0, 1) := by decide +kernel
theorem dX6_bestPlace_48 : decode cX6_bestPlace 48 = .ok (.getfield 87, 3) := by decide +kernel
theorem dX6_bestPlace_51 : decode cX6_bestPlace 51 = .ok (.iload_n 1, 1) := by decide +kernel
theorem dX6_bestPlace_52 : decode cX6_bestPlace 52 = .ok (.iaload, 1) := by decide +kernel
theorem dX6_bestPlace_53 : decode cX6_bestPlace 53 = .ok (.if_icmp .ne 7, 3) := by decide +kernel
theorem dX6_bestPlace_56 : decode cX6_bestPlace 56 = .ok (.iconst 1, 1) := by decide +kernel
theorem dX6_bestPlace_57 : decode cX6_bestPlace 57 = .ok (.goto 4, 3) := by decide +kernel
theorem dX6_bestPlace_60 : decode cX6_bestPlace 60 = .ok (.iconst 0, 1) := by decide +kernel
theorem dX6_bestPlace_61 : decode cX6_bestPlace 61 = .ok (.istore 4, 2) := by decide +kernel
theorem dX6_bestPlace_63 : decode cX6_bestPlace 63 = .ok (.iload 4, 2) := by decide +kernel
theorem dX6_bestPlace_65 : decode cX6_bestPlace 65 = .ok (.ifCond .eq 52, 3) := by decide +kernel
theorem dX6_bestPlace_68 : decode cX6_bestPlace 68 = .ok (.aload_n 0, 1) := by decide +kernel
theorem dX6_bestPlace_69 : decode cX6_bestPlace 69 = .ok (.getfield 81, 3) := by decide +kernel
theorem dX6_bestPlace_72 : decode cX6_bestPlace 72 = .ok (.iload_n 2, 1) := by decide +kernel
theorem dX6_bestPlace_73 : decode cX6_bestPlace 73 = .ok (.iaload, 1) := by decide +kernel
theorem dX6_bestPlace_74 : decode cX6_bestPlace 74 = .ok (.aload_n 0, 1) := by decide +kernel
theorem dX6_bestPlace_75 : decode cX6_bestPlace 75 = .ok (.getfield 81, 3) := by decide +kernel
theorem dX6_bestPlace_78 : decode cX6_bestPlace 78 = .ok (.iload_n 1, 1) := by decide +kernel
theorem dX6_bestPlace_79 : decode cX6_bestPlace 79 = .ok (.iaload, 1) := by decide +kernel
theorem dX6_bestPlace_80 : decode cX6_bestPlace 80 = .ok (.if_icmp .lt 33, 3) := by decide +kernel
theorem dX6_bestPlace_83 : decode cX6_bestPlace 83 = .ok (.aload_n 0, 1) := by decide +kernel
theorem dX6_bestPlace_84 : decode cX6_bestPlace 84 = .ok (.getfield 81, 3) := by decide +kernel
theorem dX6_bestPlace_87 : decode cX6_bestPlace 87 = .ok (.iload_n 2, 1) := by decide +kernel
theorem dX6_bestPlace_88 : decode cX6_bestPlace 88 = .ok (.iaload, 1) := by decide +kernel
theorem dX6_bestPlace_89 : decode cX6_bestPlace 89 = .ok (.aload_n 0, 1) := by decide +kernel
theorem dX6_bestPlace_90 : decode cX6_bestPlace 90 = .ok (.getfield 81, 3) := by decide +kernel
theorem dX6_bestPlace_93 : decode cX6_bestPlace 93 = .ok (.iload_n 1, 1) := by decide +kernel
theorem dX6_bestPlace_94 : decode cX6_bestPlace 94 = .ok (.iaload, 1) := by decide +kernel
theorem dX6_bestPlace_95 : decode cX6_bestPlace 95 = .ok (.if_icmp .ne 22, 3) := by decide +kernel
theorem dX6_bestPlace_98 : decode cX6_bestPlace 98 = .ok (.aload_n 0, 1) := by decide +kernel
theorem dX6_bestPlace_99 : decode cX6_bestPlace 99 = .ok (.getfield 84, 3) := by decide +kernel
theorem dX6_bestPlace_102 : decode cX6_bestPlace 102 = .ok (.iload_n 2, 1) := by decide +kernel
theorem dX6_bestPlace_103 : decode cX6_bestPlace 103 = .ok (.iaload, 1) := by decide +kernel
theorem dX6_bestPlace_104 : decode cX6_bestPlace 104 = .ok (.aload_n 0, 1) := by decide +kernel
theorem dX6_bestPlace_105 : decode cX6_bestPlace 105 = .ok (.getfield 84, 3) := by decide +kernel
theorem dX6_bestPlace_108 : decode cX6_bestPlace 108 = .ok (.iload_n 1, 1) := by decide +kernel
theorem dX6_bestPlace_109 : decode cX6_bestPlace 109 = .ok (.iaload, 1) := by decide +kernel
theorem dX6_bestPlace_110 : decode cX6_bestPlace 110 = .ok (.if_icmp .ge 7, 3) := by decide +kernel
theorem dX6_bestPlace_113 : decode cX6_bestPlace 113 = .ok (.iconst 1, 1) := by decide +kernel
theorem dX6_bestPlace_114 : decode cX6_bestPlace 114 = .ok (.goto 4, 3) := by decide +kernel
theorem dX6_bestPlace_117 : decode cX6_bestPlace 117 = .ok (.iconst 0, 1) := by decide +kernel
theorem dX6_bestPlace_118 : decode cX6_bestPlace 118 = .ok (.istore 5, 2) := by decide +kernel
theorem dX6_bestPlace_120 : decode cX6_bestPlace 120 = .ok (.iload_n 3, 1) := by decide +kernel
theorem dX6_bestPlace_121 : decode cX6_bestPlace 121 = .ok (.ifCond .ne 8, 3) := by decide +kernel
theorem dX6_bestPlace_124 : decode cX6_bestPlace 124 = .ok (.iload 5, 2) := by decide +kernel
theorem dX6_bestPlace_126 : decode cX6_bestPlace 126 = .ok (.ifCond .eq 7, 3) := by decide +kernel
theorem dX6_bestPlace_129 : decode cX6_bestPlace 129 = .ok (.iload_n 2, 1) := by decide +kernel
theorem dX6_bestPlace_130 : decode cX6_bestPlace 130 = .ok (.goto 4, 3) := by decide +kernel
theorem dX6_bestPlace_133 : decode cX6_bestPlace 133 = .ok (.iload_n 1, 1) := by decide +kernel
theorem dX6_bestPlace_134 : decode cX6_bestPlace 134 = .ok (.istore_n 1, 1) := by decide +kernel
theorem dX6_bestPlace_135 : decode cX6_bestPlace 135 = .ok (.iinc 2 1, 3) := by decide +kernel
theorem dX6_bestPlace_138 : decode cX6_bestPlace 138 = .ok (.goto (-134), 3) := by decide +kernel
theorem dX6_bestPlace_141 : decode cX6_bestPlace 141 = .ok (.iload_n 1, 1) := by decide +kernel
theorem dX6_bestPlace_142 : decode cX6_bestPlace 142 = .ok (.ireturn, 1) := by decide +kernel
theorem dX6_worthOf_0 : decode cX6_worthOf 0 = .ok (.aload_n 0, 1) := by decide +kernel
theorem dX6_worthOf_1 : decode cX6_worthOf 1 = .ok (.getfield 29, 3) := by decide +kernel
theorem dX6_worthOf_4 : decode cX6_worthOf 4 = .ok (.aload_n 0, 1) := by decide +kernel
theorem dX6_worthOf_5 : decode cX6_worthOf 5 = .ok (.getfield 87, 3) := by decide +kernel
theorem dX6_worthOf_8 : decode cX6_worthOf 8 = .ok (.iload_n 1, 1) := by decide +kernel
theorem dX6_worthOf_9 : decode cX6_worthOf 9 = .ok (.iaload, 1) := by decide +kernel
theorem dX6_worthOf_10 : decode cX6_worthOf 10 = .ok (.imul, 1) := by decide +kernel
theorem dX6_worthOf_11 : decode cX6_worthOf 11 = .ok (.aload_n 0, 1) := by decide +kernel
theorem dX6_worthOf_12 : decode cX6_worthOf 12 = .ok (.getfield 338, 3) := by decide +kernel
theorem dX6_worthOf_15 : decode cX6_worthOf 15 = .ok (.idiv, 1) := by decide +kernel
theorem dX6_worthOf_16 : decode cX6_worthOf 16 = .ok (.aload_n 0, 1) := by decide +kernel
theorem dX6_worthOf_17 : decode cX6_worthOf 17 = .ok (.getfield 25, 3) := by decide +kernel
theorem dX6_worthOf_20 : decode cX6_worthOf 20 = .ok (.isub, 1) := by decide +kernel
theorem dX6_worthOf_21 : decode cX6_worthOf 21 = .ok (.ireturn, 1) := by decide +kernel
theorem dX6_best_0 : decode cX6_best 0 = .ok (.iload_n 1, 1) := by decide +kernel
theorem dX6_best_1 : decode cX6_best 1 = .ok (.invokestatic 267, 3) := by decide +kernel
theorem dX6_best_4 : decode cX6_best 4 = .ok (.ifCond .ne 7, 3) := by decide +kernel
theorem dX6_best_7 : decode cX6_best 7 = .ok (.ldc_w 266, 3) := by decide +kernel
theorem dX6_best_10 : decode cX6_best 10 = .ok (.ireturn, 1) := by decide +kernel
theorem dX6_best_11 : decode cX6_best 11 = .ok (.iload_n 2, 1) := by decide +kernel
theorem dX6_best_12 : decode cX6_best 12 = .ok (.i2l, 1) := by decide +kernel
theorem dX6_best_13 : decode cX6_best 13 = .ok (.lconst 0, 1) := by decide +kernel
theorem dX6_best_14 : decode cX6_best 14 = .ok (.ldc2_w 315, 3) := by decide +kernel
theorem dX6_best_17 : decode cX6_best 17 = .ok (.invokestatic 114, 3) := by decide +kernel
theorem dX6_best_20 : decode cX6_best 20 = .ok (.ifCond .ne 6, 3) := by decide +kernel
theorem dX6_best_23 : decode cX6_best 23 = .ok (.ldc 125, 2) := by decide +kernel
theorem dX6_best_25 : decode cX6_best 25 = .ok (.ireturn, 1) := by decide +kernel
theorem dX6_best_26 : decode cX6_best 26 = .ok (.aload_n 0, 1) := by decide +kernel
theorem dX6_best_27 : decode cX6_best 27 = .ok (.iload_n 1, 1) := by decide +kernel
theorem dX6_best_28 : decode cX6_best 28 = .ok (.invokevirtual 344, 3) := by decide +kernel
theorem dX6_best_31 : decode cX6_best 31 = .ok (.aload_n 0, 1) := by decide +kernel
theorem dX6_best_32 : decode cX6_best 32 = .ok (.invokevirtual 348, 3) := by decide +kernel
theorem dX6_best_35 : decode cX6_best 35 = .ok (.istore_n 3, 1) := by decide +kernel
theorem dX6_best_36 : decode cX6_best 36 = .ok (.iload_n 3, 1) := by decide +kernel
theorem dX6_best_37 : decode cX6_best 37 = .ok (.ifCond .ge 5, 3) := by decide +kernel
theorem dX6_best_40 : decode cX6_best 40 = .ok (.iconst (-1), 1) := by decide +kernel
theorem dX6_best_41 : decode cX6_best 41 = .ok (.ireturn, 1) := by decide +kernel
theorem dX6_best_42 : decode cX6_best 42 = .ok (.iload_n 2, 1) := by decide +kernel
theorem dX6_best_43 : decode cX6_best 43 = .ok (.ifCond .ne 12, 3) := by decide +kernel
theorem dX6_best_46 : decode cX6_best 46 = .ok (.aload_n 0, 1) := by decide +kernel
theorem dX6_best_47 : decode cX6_best 47 = .ok (.getfield 81, 3) := by decide +kernel
theorem dX6_best_50 : decode cX6_best 50 = .ok (.iload_n 3, 1) := by decide +kernel
theorem dX6_best_51 : decode cX6_best 51 = .ok (.iaload, 1) := by decide +kernel
theorem dX6_best_52 : decode cX6_best 52 = .ok (.goto 36, 3) := by decide +kernel
theorem dX6_best_55 : decode cX6_best 55 = .ok (.iload_n 2, 1) := by decide +kernel
theorem dX6_best_56 : decode cX6_best 56 = .ok (.iconst 1, 1) := by decide +kernel
theorem dX6_best_57 : decode cX6_best 57 = .ok (.if_icmp .ne 12, 3) := by decide +kernel
theorem dX6_best_60 : decode cX6_best 60 = .ok (.aload_n 0, 1) := by decide +kernel
theorem dX6_best_61 : decode cX6_best 61 = .ok (.getfield 84, 3) := by decide +kernel
theorem dX6_best_64 : decode cX6_best 64 = .ok (.iload_n 3, 1) := by decide +kernel
theorem dX6_best_65 : decode cX6_best 65 = .ok (.iaload, 1) := by decide +kernel
theorem dX6_best_66 : decode cX6_best 66 = .ok (.goto 22, 3) := by decide +kernel
theorem dX6_best_69 : decode cX6_best 69 = .ok (.iload_n 2, 1) := by decide +kernel
theorem dX6_best_70 : decode cX6_best 70 = .ok (.iconst 2, 1) := by decide +kernel
theorem dX6_best_71 : decode cX6_best 71 = .ok (.if_icmp .ne 12, 3) := by decide +kernel
theorem dX6_best_74 : decode cX6_best 74 = .ok (.aload_n 0, 1) := by decide +kernel
theorem dX6_best_75 : decode cX6_best 75 = .ok (.getfield 87, 3) := by decide +kernel
theorem dX6_best_78 : decode cX6_best 78 = .ok (.iload_n 3, 1) := by decide +kernel
theorem dX6_best_79 : decode cX6_best 79 = .ok (.iaload, 1) := by decide +kernel
theorem dX6_best_80 : decode cX6_best 80 = .ok (.goto 8, 3) := by decide +kernel
theorem dX6_best_83 : decode cX6_best 83 = .ok (.aload_n 0, 1) := by decide +kernel
theorem dX6_best_84 : decode cX6_best 84 = .ok (.iload_n 3, 1) := by decide +kernel
theorem dX6_best_85 : decode cX6_best 85 = .ok (.invokevirtual 351, 3) := by decide +kernel
theorem dX6_best_88 : decode cX6_best 88 = .ok (.ireturn, 1) := by decide +kernel
theorem dX6_worstOf_0 : decode cX6_worstOf 0 = .ok (.bipush 9, 2) := by decide +kernel
theorem dX6_worstOf_2 : decode cX6_worstOf 2 = .ok (.iload_n 2, 1) := by decide +kernel
theorem dX6_worstOf_3 : decode cX6_worstOf 3 = .ok (.imul, 1) := by decide +kernel
theorem dX6_worstOf_4 : decode cX6_worstOf 4 = .ok (.iload_n 3, 1) := by decide +kernel
theorem dX6_worstOf_5 : decode cX6_worstOf 5 = .ok (.iadd, 1) := by decide +kernel
theorem dX6_worstOf_6 : decode cX6_worstOf 6 = .ok (.istore 4, 2) := by decide +kernel
theorem dX6_worstOf_8 : decode cX6_worstOf 8 = .ok (.aload_n 0, 1) := by decide +kernel
theorem dX6_worstOf_9 : decode cX6_worstOf 9 = .ok (.getfield 16, 3) := by decide +kernel
theorem dX6_worstOf_12 : decode cX6_worstOf 12 = .ok (.iload 4, 2) := by decide +kernel
theorem dX6_worstOf_14 : decode cX6_worstOf 14 = .ok (.iaload, 1) := by decide +kernel
theorem dX6_worstOf_15 : decode cX6_worstOf 15 = .ok (.istore 5, 2) := by decide +kernel
theorem dX6_worstOf_17 : decode cX6_worstOf 17 = .ok (.aload_n 0, 1) := by decide +kernel
theorem dX6_worstOf_18 : decode cX6_worstOf 18 = .ok (.getfield 19, 3) := by decide +kernel
theorem dX6_worstOf_21 : decode cX6_worstOf 21 = .ok (.iload 4, 2) := by decide +kernel
theorem dX6_worstOf_23 : decode cX6_worstOf 23 = .ok (.iaload, 1) := by decide +kernel
theorem dX6_worstOf_24 : decode cX6_worstOf 24 = .ok (.istore 6, 2) := by decide +kernel
theorem dX6_worstOf_26 : decode cX6_worstOf 26 = .ok (.iconst 0, 1) := by decide +kernel
theorem dX6_worstOf_27 : decode cX6_worstOf 27 = .ok (.istore 7, 2) := by decide +kernel
theorem dX6_worstOf_29 : decode cX6_worstOf 29 = .ok (.aload_n 0, 1) := by decide +kernel
theorem dX6_worstOf_30 : decode cX6_worstOf 30 = .ok (.getfield 32, 3) := by decide +kernel
theorem dX6_worstOf_33 : decode cX6_worstOf 33 = .ok (.bipush 6, 2) := by decide +kernel
theorem dX6_worstOf_35 : decode cX6_worstOf 35 = .ok (.iload_n 1, 1) := by decide +kernel
theorem dX6_worstOf_36 : decode cX6_worstOf 36 = .ok (.imul, 1) := by decide +kernel
theorem dX6_worstOf_37 : decode cX6_worstOf 37 = .ok (.iload_n 2, 1) := by decide +kernel
theorem dX6_worstOf_38 : decode cX6_worstOf 38 = .ok (.iadd, 1) := by decide +kernel
theorem dX6_worstOf_39 : decode cX6_worstOf 39 = .ok (.dup2, 1) := by decide +kernel
theorem dX6_worstOf_40 : decode cX6_worstOf 40 = .ok (.iaload, 1) := by decide +kernel
theorem dX6_worstOf_41 : decode cX6_worstOf 41 = .ok (.iconst 1, 1) := by decide +kernel
theorem dX6_worstOf_42 : decode cX6_worstOf 42 = .ok (.iload_n 3, 1) := by decide +kernel
theorem dX6_worstOf_43 : decode cX6_worstOf 43 = .ok (.ishl, 1) := by decide +kernel
theorem dX6_worstOf_44 : decode cX6_worstOf 44 = .ok (.ior, 1) := by decide +kernel
theorem dX6_worstOf_45 : decode cX6_worstOf 45 = .ok (.iastore, 1) := by decide +kernel
theorem dX6_worstOf_46 : decode cX6_worstOf 46 = .ok (.iconst 0, 1) := by decide +kernel
theorem dX6_worstOf_47 : decode cX6_worstOf 47 = .ok (.istore 8, 2) := by decide +kernel
theorem dX6_worstOf_49 : decode cX6_worstOf 49 = .ok (.iload 8, 2) := by decide +kernel
theorem dX6_worstOf_51 : decode cX6_worstOf 51 = .ok (.bipush 6, 2) := by decide +kernel
theorem dX6_worstOf_53 : decode cX6_worstOf 53 = .ok (.if_icmp .gt 140, 3) := by decide +kernel
theorem dX6_worstOf_56 : decode cX6_worstOf 56 = .ok (.iload 8, 2) := by decide +kernel
theorem dX6_worstOf_58 : decode cX6_worstOf 58 = .ok (.bipush 6, 2) := by decide +kernel
theorem dX6_worstOf_60 : decode cX6_worstOf 60 = .ok (.if_icmp .eq 28, 3) := by decide +kernel
theorem dX6_worstOf_63 : decode cX6_worstOf 63 = .ok (.iload 8, 2) := by decide +kernel
theorem dX6_worstOf_65 : decode cX6_worstOf 65 = .ok (.iload_n 2, 1) := by decide +kernel
theorem dX6_worstOf_66 : decode cX6_worstOf 66 = .ok (.if_icmp .eq 26, 3) := by decide +kernel
theorem dX6_worstOf_69 : decode cX6_worstOf 69 = .ok (.aload_n 0, 1) := by decide +kernel
theorem dX6_worstOf_70 : decode cX6_worstOf 70 = .ok (.getfield 32, 3) := by decide +kernel
theorem dX6_worstOf_73 : decode cX6_worstOf 73 = .ok (.bipush 6, 2) := by decide +kernel
theorem dX6_worstOf_75 : decode cX6_worstOf 75 = .ok (.iload_n 1, 1) := by decide +kernel
theorem dX6_worstOf_76 : decode cX6_worstOf 76 = .ok (.imul, 1) := by decide +kernel
theorem dX6_worstOf_77 : decode cX6_worstOf 77 = .ok (.iload 8, 2) := by decide +kernel
theorem dX6_worstOf_79 : decode cX6_worstOf 79 = .ok (.iadd, 1) := by decide +kernel
theorem dX6_worstOf_80 : decode cX6_worstOf 80 = .ok (.iaload, 1) := by decide +kernel
theorem dX6_worstOf_81 : decode cX6_worstOf 81 = .ok (.iload_n 3, 1) := by decide +kernel
theorem dX6_worstOf_82 : decode cX6_worstOf 82 = .ok (.invokestatic 182, 3) := by decide +kernel
theorem dX6_worstOf_85 : decode cX6_worstOf 85 = .ok (.ifCond .eq 7, 3) := by decide +kernel
theorem dX6_worstOf_88 : decode cX6_worstOf 88 = .ok (.iconst 1, 1) := by decide +kernel
theorem dX6_worstOf_89 : decode cX6_worstOf 89 = .ok (.goto 4, 3) := by decide +kernel
theorem dX6_worstOf_92 : decode cX6_worstOf 92 = .ok (.iconst 0, 1) := by decide +kernel
theorem dX6_worstOf_93 : decode cX6_worstOf 93 = .ok (.istore 9, 2) := by decide +kernel
theorem dX6_worstOf_95 : decode cX6_worstOf 95 = .ok (.iload 9, 2) := by decide +kernel
theorem dX6_worstOf_97 : decode cX6_worstOf 97 = .ok (.ifCond .eq 90, 3) := by decide +kernel
theorem dX6_worstOf_100 : decode cX6_worstOf 100 = .ok (.aload_n 0, 1) := by decide +kernel
theorem dX6_worstOf_101 : decode cX6_worstOf 101 = .ok (.getfield 16, 3) := by decide +kernel
theorem dX6_worstOf_104 : decode cX6_worstOf 104 = .ok (.iload 4, 2) := by decide +kernel
theorem dX6_worstOf_106 : decode cX6_worstOf 106 = .ok (.iload 8, 2) := by decide +kernel
theorem dX6_worstOf_108 : decode cX6_worstOf 108 = .ok (.bipush 6, 2) := by decide +kernel
theorem dX6_worstOf_110 : decode cX6_worstOf 110 = .ok (.if_icmp .ne 9, 3) := by decide +kernel
theorem dX6_worstOf_113 : decode cX6_worstOf 113 = .ok (.sipush 2000, 3) := by decide +kernel
theorem dX6_worstOf_116 : decode cX6_worstOf 116 = .ok (.goto 15, 3) := by decide +kernel
theorem dX6_worstOf_119 : decode cX6_worstOf 119 = .ok (.aload_n 0, 1) := by decide +kernel
theorem dX6_worstOf_120 : decode cX6_worstOf 120 = .ok (.getfield 16, 3) := by decide +kernel
theorem dX6_worstOf_123 : decode cX6_worstOf 123 = .ok (.bipush 9, 2) := by decide +kernel
theorem dX6_worstOf_125 : decode cX6_worstOf 125 = .ok (.iload 8, 2) := by decide +kernel
theorem dX6_worstOf_127 : decode cX6_worstOf 127 = .ok (.imul, 1) := by decide +kernel
theorem dX6_worstOf_128 : decode cX6_worstOf 128 = .ok (.iload_n 3, 1) := by decide +kernel
theorem dX6_worstOf_129 : decode cX6_worstOf 129 = .ok (.iadd, 1) := by decide +kernel
theorem dX6_worstOf_130 : decode cX6_worstOf 130 = .ok (.iaload, 1) := by decide +kernel
theorem dX6_worstOf_131 : decode cX6_worstOf 131 = .ok (.iastore, 1) := by decide +kernel
theorem dX6_worstOf_132 : decode cX6_worstOf 132 = .ok (.aload_n 0, 1) := by decide +kernel
theorem dX6_worstOf_133 : decode cX6_worstOf 133 = .ok (.getfield 19, 3) := by decide +kernel
theorem dX6_worstOf_136 : decode cX6_worstOf 136 = .ok (.iload 4, 2) := by decide +kernel
theorem dX6_worstOf_138 : decode cX6_worstOf 138 = .ok (.iload 8, 2) := by decide +kernel
theorem dX6_worstOf_140 : decode cX6_worstOf 140 = .ok (.bipush 6, 2) := by decide +kernel
theorem dX6_worstOf_142 : decode cX6_worstOf 142 = .ok (.if_icmp .ne 9, 3) := by decide +kernel
theorem dX6_worstOf_145 : decode cX6_worstOf 145 = .ok (.sipush 2000, 3) := by decide +kernel
theorem dX6_worstOf_148 : decode cX6_worstOf 148 = .ok (.goto 15, 3) := by decide +kernel
theorem dX6_worstOf_151 : decode cX6_worstOf 151 = .ok (.aload_n 0, 1) := by decide +kernel
theorem dX6_worstOf_152 : decode cX6_worstOf 152 = .ok (.getfield 19, 3) := by decide +kernel
theorem dX6_worstOf_155 : decode cX6_worstOf 155 = .ok (.bipush 9, 2) := by decide +kernel
theorem dX6_worstOf_157 : decode cX6_worstOf 157 = .ok (.iload 8, 2) := by decide +kernel
theorem dX6_worstOf_159 : decode cX6_worstOf 159 = .ok (.imul, 1) := by decide +kernel
theorem dX6_worstOf_160 : decode cX6_worstOf 160 = .ok (.iload_n 3, 1) := by decide +kernel
theorem dX6_worstOf_161 : decode cX6_worstOf 161 = .ok (.iadd, 1) := by decide +kernel
theorem dX6_worstOf_162 : decode cX6_worstOf 162 = .ok (.iaload, 1) := by decide +kernel
theorem dX6_worstOf_163 : decode cX6_worstOf 163 = .ok (.iastore, 1) := by decide +kernel
theorem dX6_worstOf_164 : decode cX6_worstOf 164 = .ok (.aload_n 0, 1) := by decide +kernel
theorem dX6_worstOf_165 : decode cX6_worstOf 165 = .ok (.iload_n 1, 1) := by decide +kernel
theorem dX6_worstOf_166 : decode cX6_worstOf 166 = .ok (.invokevirtual 330, 3) := by decide +kernel
theorem dX6_worstOf_169 : decode cX6_worstOf 169 = .ok (.istore 10, 2) := by decide +kernel
theorem dX6_worstOf_171 : decode cX6_worstOf 171 = .ok (.iload 10, 2) := by decide +kernel
theorem dX6_worstOf_173 : decode cX6_worstOf 173 = .ok (.iload 7, 2) := by decide +kernel
theorem dX6_worstOf_175 : decode cX6_worstOf 175 = .ok (.if_icmp .le 8, 3) := by decide +kernel
theorem dX6_worstOf_178 : decode cX6_worstOf 178 = .ok (.iload 10, 2) := by decide +kernel
theorem dX6_worstOf_180 : decode cX6_worstOf 180 = .ok (.goto 5, 3) := by decide +kernel
theorem dX6_worstOf_183 : decode cX6_worstOf 183 = .ok (.iload 7, 2) := by decide +kernel
theorem dX6_worstOf_185 : decode cX6_worstOf 185 = .ok (.istore 7, 2) := by decide +kernel
theorem dX6_worstOf_187 : decode cX6_worstOf 187 = .ok (.iinc 8 1, 3) := by decide +kernel
theorem dX6_worstOf_190 : decode cX6_worstOf 190 = .ok (.goto (-141), 3) := by decide +kernel
theorem dX6_worstOf_193 : decode cX6_worstOf 193 = .ok (.aload_n 0, 1) := by decide +kernel
theorem dX6_worstOf_194 : decode cX6_worstOf 194 = .ok (.getfield 32, 3) := by decide +kernel
theorem dX6_worstOf_197 : decode cX6_worstOf 197 = .ok (.bipush 6, 2) := by decide +kernel
theorem dX6_worstOf_199 : decode cX6_worstOf 199 = .ok (.iload_n 1, 1) := by decide +kernel
theorem dX6_worstOf_200 : decode cX6_worstOf 200 = .ok (.imul, 1) := by decide +kernel
theorem dX6_worstOf_201 : decode cX6_worstOf 201 = .ok (.iload_n 2, 1) := by decide +kernel
theorem dX6_worstOf_202 : decode cX6_worstOf 202 = .ok (.iadd, 1) := by decide +kernel
theorem dX6_worstOf_203 : decode cX6_worstOf 203 = .ok (.dup2, 1) := by decide +kernel
theorem dX6_worstOf_204 : decode cX6_worstOf 204 = .ok (.iaload, 1) := by decide +kernel
theorem dX6_worstOf_205 : decode cX6_worstOf 205 = .ok (.iconst 1, 1) := by decide +kernel
theorem dX6_worstOf_206 : decode cX6_worstOf 206 = .ok (.iload_n 3, 1) := by decide +kernel
theorem dX6_worstOf_207 : decode cX6_worstOf 207 = .ok (.ishl, 1) := by decide +kernel
theorem dX6_worstOf_208 : decode cX6_worstOf 208 = .ok (.iconst (-1), 1) := by decide +kernel
theorem dX6_worstOf_209 : decode cX6_worstOf 209 = .ok (.ixor, 1) := by decide +kernel
theorem dX6_worstOf_210 : decode cX6_worstOf 210 = .ok (.iand, 1) := by decide +kernel
theorem dX6_worstOf_211 : decode cX6_worstOf 211 = .ok (.iastore, 1) := by decide +kernel
theorem dX6_worstOf_212 : decode cX6_worstOf 212 = .ok (.aload_n 0, 1) := by decide +kernel
theorem dX6_worstOf_213 : decode cX6_worstOf 213 = .ok (.getfield 16, 3) := by decide +kernel
theorem dX6_worstOf_216 : decode cX6_worstOf 216 = .ok (.iload 4, 2) := by decide +kernel
theorem dX6_worstOf_218 : decode cX6_worstOf 218 = .ok (.iload 5, 2) := by decide +kernel
theorem dX6_worstOf_220 : decode cX6_worstOf 220 = .ok (.iastore, 1) := by decide +kernel
theorem dX6_worstOf_221 : decode cX6_worstOf 221 = .ok (.aload_n 0, 1) := by decide +kernel
theorem dX6_worstOf_222 : decode cX6_worstOf 222 = .ok (.getfield 19, 3) := by decide +kernel
theorem dX6_worstOf_225 : decode cX6_worstOf 225 = .ok (.iload 4, 2) := by decide +kernel
theorem dX6_worstOf_227 : decode cX6_worstOf 227 = .ok (.iload 6, 2) := by decide +kernel
theorem dX6_worstOf_229 : decode cX6_worstOf 229 = .ok (.iastore, 1) := by decide +kernel
theorem dX6_worstOf_230 : decode cX6_worstOf 230 = .ok (.iload 7, 2) := by decide +kernel
theorem dX6_worstOf_232 : decode cX6_worstOf 232 = .ok (.ireturn, 1) := by decide +kernel
theorem dX6_corner_0 : decode cX6_corner 0 = .ok (.iload_n 1, 1) := by decide +kernel
theorem dX6_corner_1 : decode cX6_corner 1 = .ok (.iload_n 2, 1) := by decide +kernel
theorem dX6_corner_2 : decode cX6_corner 2 = .ok (.invokestatic 321, 3) := by decide +kernel
theorem dX6_corner_5 : decode cX6_corner 5 = .ok (.ifCond .eq 11, 3) := by decide +kernel
theorem dX6_corner_8 : decode cX6_corner 8 = .ok (.aload_n 0, 1) := by decide +kernel
theorem dX6_corner_9 : decode cX6_corner 9 = .ok (.iload_n 3, 1) := by decide +kernel
theorem dX6_corner_10 : decode cX6_corner 10 = .ok (.invokevirtual 262, 3) := by decide +kernel
theorem dX6_corner_13 : decode cX6_corner 13 = .ok (.ifCond .ne 7, 3) := by decide +kernel
theorem dX6_corner_16 : decode cX6_corner 16 = .ok (.ldc_w 266, 3) := by decide +kernel
theorem dX6_corner_19 : decode cX6_corner 19 = .ok (.ireturn, 1) := by decide +kernel
theorem dX6_corner_20 : decode cX6_corner 20 = .ok (.aload_n 0, 1) := by decide +kernel
theorem dX6_corner_21 : decode cX6_corner 21 = .ok (.getfield 32, 3) := by decide +kernel
theorem dX6_corner_24 : decode cX6_corner 24 = .ok (.bipush 6, 2) := by decide +kernel
theorem dX6_corner_26 : decode cX6_corner 26 = .ok (.iload_n 1, 1) := by decide +kernel
theorem dX6_corner_27 : decode cX6_corner 27 = .ok (.imul, 1) := by decide +kernel
theorem dX6_corner_28 : decode cX6_corner 28 = .ok (.iload_n 2, 1) := by decide +kernel
theorem dX6_corner_29 : decode cX6_corner 29 = .ok (.iadd, 1) := by decide +kernel
theorem dX6_corner_30 : decode cX6_corner 30 = .ok (.iaload, 1) := by decide +kernel
theorem dX6_corner_31 : decode cX6_corner 31 = .ok (.iload_n 3, 1) := by decide +kernel
theorem dX6_corner_32 : decode cX6_corner 32 = .ok (.invokestatic 182, 3) := by decide +kernel
theorem dX6_corner_35 : decode cX6_corner 35 = .ok (.ifCond .ne 11, 3) := by decide +kernel
theorem dX6_corner_38 : decode cX6_corner 38 = .ok (.aload_n 0, 1) := by decide +kernel
theorem dX6_corner_39 : decode cX6_corner 39 = .ok (.iload_n 1, 1) := by decide +kernel
theorem dX6_corner_40 : decode cX6_corner 40 = .ok (.invokevirtual 330, 3) := by decide +kernel
theorem dX6_corner_43 : decode cX6_corner 43 = .ok (.ifCond .ne 7, 3) := by decide +kernel
theorem dX6_corner_46 : decode cX6_corner 46 = .ok (.ldc_w 317, 3) := by decide +kernel
theorem dX6_corner_49 : decode cX6_corner 49 = .ok (.ireturn, 1) := by decide +kernel
theorem dX6_corner_50 : decode cX6_corner 50 = .ok (.aload_n 0, 1) := by decide +kernel
theorem dX6_corner_51 : decode cX6_corner 51 = .ok (.iload_n 1, 1) := by decide +kernel
theorem dX6_corner_52 : decode cX6_corner 52 = .ok (.iload_n 2, 1) := by decide +kernel
theorem dX6_corner_53 : decode cX6_corner 53 = .ok (.iload_n 3, 1) := by decide +kernel
theorem dX6_corner_54 : decode cX6_corner 54 = .ok (.invokevirtual 354, 3) := by decide +kernel
theorem dX6_corner_57 : decode cX6_corner 57 = .ok (.ireturn, 1) := by decide +kernel
theorem dX6_bestCorner_0 : decode cX6_bestCorner 0 = .ok (.iload_n 1, 1) := by decide +kernel
theorem dX6_bestCorner_1 : decode cX6_bestCorner 1 = .ok (.invokestatic 267, 3) := by decide +kernel
theorem dX6_bestCorner_4 : decode cX6_bestCorner 4 = .ok (.ifCond .ne 7, 3) := by decide +kernel
theorem dX6_bestCorner_7 : decode cX6_bestCorner 7 = .ok (.ldc_w 266, 3) := by decide +kernel
theorem dX6_bestCorner_10 : decode cX6_bestCorner 10 = .ok (.ireturn, 1) := by decide +kernel
theorem dX6_bestCorner_11 : decode cX6_bestCorner 11 = .ok (.iload_n 2, 1) := by decide +kernel
theorem dX6_bestCorner_12 : decode cX6_bestCorner 12 = .ok (.i2l, 1) := by decide +kernel
theorem dX6_bestCorner_13 : decode cX6_bestCorner 13 = .ok (.lconst 0, 1) := by decide +kernel
theorem dX6_bestCorner_14 : decode cX6_bestCorner 14 = .ok (.ldc2_w 357, 3) := by decide +kernel
theorem dX6_bestCorner_17 : decode cX6_bestCorner 17 = .ok (.invokestatic 114, 3) := by decide +kernel
theorem dX6_bestCorner_20 : decode cX6_bestCorner 20 = .ok (.ifCond .ne 6, 3) := by decide +kernel
theorem dX6_bestCorner_23 : decode cX6_bestCorner 23 = .ok (.ldc 125, 2) := by decide +kernel
theorem dX6_bestCorner_25 : decode cX6_bestCorner 25 = .ok (.ireturn, 1) := by decide +kernel
theorem dX6_bestCorner_26 : decode cX6_bestCorner 26 = .ok (.aload_n 0, 1) := by decide +kernel
theorem dX6_bestCorner_27 : decode cX6_bestCorner 27 = .ok (.iload_n 1, 1) := by decide +kernel
theorem dX6_bestCorner_28 : decode cX6_bestCorner 28 = .ok (.invokevirtual 330, 3) := by decide +kernel
theorem dX6_bestCorner_31 : decode cX6_bestCorner 31 = .ok (.ifCond .ne 5, 3) := by decide +kernel
theorem dX6_bestCorner_34 : decode cX6_bestCorner 34 = .ok (.iconst (-1), 1) := by decide +kernel
theorem dX6_bestCorner_35 : decode cX6_bestCorner 35 = .ok (.ireturn, 1) := by decide +kernel
theorem dX6_bestCorner_36 : decode cX6_bestCorner 36 = .ok (.iconst (-1), 1) := by decide +kernel
theorem dX6_bestCorner_37 : decode cX6_bestCorner 37 = .ok (.istore_n 3, 1) := by decide +kernel
theorem dX6_bestCorner_38 : decode cX6_bestCorner 38 = .ok (.iconst 0, 1) := by decide +kernel
theorem dX6_bestCorner_39 : decode cX6_bestCorner 39 = .ok (.istore 4, 2) := by decide +kernel
theorem dX6_bestCorner_41 : decode cX6_bestCorner 41 = .ok (.iconst 0, 1) := by decide +kernel
theorem dX6_bestCorner_42 : decode cX6_bestCorner 42 = .ok (.istore 5, 2) := by decide +kernel
theorem dX6_bestCorner_44 : decode cX6_bestCorner 44 = .ok (.iload 5, 2) := by decide +kernel
theorem dX6_bestCorner_46 : decode cX6_bestCorner 46 = .ok (.bipush 6, 2) := by decide +kernel
theorem dX6_bestCorner_48 : decode cX6_bestCorner 48 = .ok (.if_icmp .ge 114, 3) := by decide +kernel
theorem dX6_bestCorner_51 : decode cX6_bestCorner 51 = .ok (.iconst 0, 1) := by decide +kernel
theorem dX6_bestCorner_52 : decode cX6_bestCorner 52 = .ok (.istore 6, 2) := by decide +kernel
theorem dX6_bestCorner_54 : decode cX6_bestCorner 54 = .ok (.iload 6, 2) := by decide +kernel
theorem dX6_bestCorner_56 : decode cX6_bestCorner 56 = .ok (.aload_n 0, 1) := by decide +kernel
theorem dX6_bestCorner_57 : decode cX6_bestCorner 57 = .ok (.getfield 111, 3) := by decide +kernel
theorem dX6_bestCorner_60 : decode cX6_bestCorner 60 = .ok (.if_icmp .ge 96, 3) := by decide +kernel
theorem dX6_bestCorner_63 : decode cX6_bestCorner 63 = .ok (.iload 5, 2) := by decide +kernel
theorem dX6_bestCorner_65 : decode cX6_bestCorner 65 = .ok (.iload_n 1, 1) := by decide +kernel
theorem dX6_bestCorner_66 : decode cX6_bestCorner 66 = .ok (.if_icmp .eq 90, 3) := by decide +kernel
theorem dX6_bestCorner_69 : decode cX6_bestCorner 69 = .ok (.aload_n 0, 1) := by decide +kernel
theorem dX6_bestCorner_70 : decode cX6_bestCorner 70 = .ok (.getfield 32, 3) := by decide +kernel
theorem dX6_bestCorner_73 : decode cX6_bestCorner 73 = .ok (.bipush 6, 2) := by decide +kernel
theorem dX6_bestCorner_75 : decode cX6_bestCorner 75 = .ok (.iload_n 1, 1) := by decide +kernel
theorem dX6_bestCorner_76 : decode cX6_bestCorner 76 = .ok (.imul, 1) := by decide +kernel
theorem dX6_bestCorner_77 : decode cX6_bestCorner 77 = .ok (.iload 5, 2) := by decide +kernel
theorem dX6_bestCorner_79 : decode cX6_bestCorner 79 = .ok (.iadd, 1) := by decide +kernel
theorem dX6_bestCorner_80 : decode cX6_bestCorner 80 = .ok (.iaload, 1) := by decide +kernel
theorem dX6_bestCorner_81 : decode cX6_bestCorner 81 = .ok (.iload 6, 2) := by decide +kernel
theorem dX6_bestCorner_83 : decode cX6_bestCorner 83 = .ok (.invokestatic 182, 3) := by decide +kernel
theorem dX6_bestCorner_86 : decode cX6_bestCorner 86 = .ok (.ifCond .ne 64, 3) := by decide +kernel
theorem dX6_bestCorner_89 : decode cX6_bestCorner 89 = .ok (.aload_n 0, 1) := by decide +kernel
theorem dX6_bestCorner_90 : decode cX6_bestCorner 90 = .ok (.iload_n 1, 1) := by decide +kernel
theorem dX6_bestCorner_91 : decode cX6_bestCorner 91 = .ok (.iload 5, 2) := by decide +kernel
theorem dX6_bestCorner_93 : decode cX6_bestCorner 93 = .ok (.iload 6, 2) := by decide +kernel
theorem dX6_bestCorner_95 : decode cX6_bestCorner 95 = .ok (.invokevirtual 354, 3) := by decide +kernel
theorem dX6_bestCorner_98 : decode cX6_bestCorner 98 = .ok (.istore 7, 2) := by decide +kernel
theorem dX6_bestCorner_100 : decode cX6_bestCorner 100 = .ok (.iload_n 3, 1) := by decide +kernel
theorem dX6_bestCorner_101 : decode cX6_bestCorner 101 = .ok (.ifCond .lt 10, 3) := by decide +kernel
theorem dX6_bestCorner_104 : decode cX6_bestCorner 104 = .ok (.iload 7, 2) := by decide +kernel
theorem dX6_bestCorner_106 : decode cX6_bestCorner 106 = .ok (.iload 4, 2) := by decide +kernel
theorem dX6_bestCorner_108 : decode cX6_bestCorner 108 = .ok (.if_icmp .ge 7, 3) := by decide +kernel
theorem dX6_bestCorner_111 : decode cX6_bestCorner 111 = .ok (.iconst 1, 1) := by decide +kernel
theorem dX6_bestCorner_112 : decode cX6_bestCorner 112 = .ok (.goto 4, 3) := by decide +kernel
theorem dX6_bestCorner_115 : decode cX6_bestCorner 115 = .ok (.iconst 0, 1) := by decide +kernel
theorem dX6_bestCorner_116 : decode cX6_bestCorner 116 = .ok (.istore 8, 2) := by decide +kernel
theorem dX6_bestCorner_118 : decode cX6_bestCorner 118 = .ok (.iload 8, 2) := by decide +kernel
theorem dX6_bestCorner_120 : decode cX6_bestCorner 120 = .ok (.ifCond .eq 14, 3) := by decide +kernel
theorem dX6_bestCorner_123 : decode cX6_bestCorner 123 = .ok (.bipush 9, 2) := by decide +kernel
theorem dX6_bestCorner_125 : decode cX6_bestCorner 125 = .ok (.iload 5, 2) := by decide +kernel
theorem dX6_bestCorner_127 : decode cX6_bestCorner 127 = .ok (.imul, 1) := by decide +kernel
theorem dX6_bestCorner_128 : decode cX6_bestCorner 128 = .ok (.iload 6, 2) := by decide +kernel
theorem dX6_bestCorner_130 : decode cX6_bestCorner 130 = .ok (.iadd, 1) := by decide +kernel
theorem dX6_bestCorner_131 : decode cX6_bestCorner 131 = .ok (.goto 4, 3) := by decide +kernel
theorem dX6_bestCorner_134 : decode cX6_bestCorner 134 = .ok (.iload_n 3, 1) := by decide +kernel
theorem dX6_bestCorner_135 : decode cX6_bestCorner 135 = .ok (.istore_n 3, 1) := by decide +kernel
theorem dX6_bestCorner_136 : decode cX6_bestCorner 136 = .ok (.iload 8, 2) := by decide +kernel
theorem dX6_bestCorner_138 : decode cX6_bestCorner 138 = .ok (.ifCond .eq 8, 3) := by decide +kernel
theorem dX6_bestCorner_141 : decode cX6_bestCorner 141 = .ok (.iload 7, 2) := by decide +kernel
theorem dX6_bestCorner_143 : decode cX6_bestCorner 143 = .ok (.goto 5, 3) := by decide +kernel
theorem dX6_bestCorner_146 : decode cX6_bestCorner 146 = .ok (.iload 4, 2) := by decide +kernel
theorem dX6_bestCorner_148 : decode cX6_bestCorner 148 = .ok (.istore 4, 2) := by decide +kernel
theorem dX6_bestCorner_150 : decode cX6_bestCorner 150 = .ok (.iinc 6 1, 3) := by decide +kernel
theorem dX6_bestCorner_153 : decode cX6_bestCorner 153 = .ok (.goto (-99), 3) := by decide +kernel
theorem dX6_bestCorner_156 : decode cX6_bestCorner 156 = .ok (.iinc 5 1, 3) := by decide +kernel
theorem dX6_bestCorner_159 : decode cX6_bestCorner 159 = .ok (.goto (-115), 3) := by decide +kernel
theorem dX6_bestCorner_162 : decode cX6_bestCorner 162 = .ok (.iload_n 3, 1) := by decide +kernel
theorem dX6_bestCorner_163 : decode cX6_bestCorner 163 = .ok (.ifCond .ge 7, 3) := by decide +kernel
theorem dX6_bestCorner_166 : decode cX6_bestCorner 166 = .ok (.iconst (-1), 1) := by decide +kernel
theorem dX6_bestCorner_167 : decode cX6_bestCorner 167 = .ok (.goto 28, 3) := by decide +kernel
theorem dX6_bestCorner_170 : decode cX6_bestCorner 170 = .ok (.iload_n 2, 1) := by decide +kernel
theorem dX6_bestCorner_171 : decode cX6_bestCorner 171 = .ok (.ifCond .ne 10, 3) := by decide +kernel
theorem dX6_bestCorner_174 : decode cX6_bestCorner 174 = .ok (.iload_n 3, 1) := by decide +kernel
theorem dX6_bestCorner_175 : decode cX6_bestCorner 175 = .ok (.bipush 9, 2) := by decide +kernel
theorem dX6_bestCorner_177 : decode cX6_bestCorner 177 = .ok (.idiv, 1) := by decide +kernel
theorem dX6_bestCorner_178 : decode cX6_bestCorner 178 = .ok (.goto 17, 3) := by decide +kernel
theorem dX6_bestCorner_181 : decode cX6_bestCorner 181 = .ok (.iload_n 2, 1) := by decide +kernel
theorem dX6_bestCorner_182 : decode cX6_bestCorner 182 = .ok (.iconst 1, 1) := by decide +kernel
theorem dX6_bestCorner_183 : decode cX6_bestCorner 183 = .ok (.if_icmp .ne 10, 3) := by decide +kernel
theorem dX6_bestCorner_186 : decode cX6_bestCorner 186 = .ok (.iload_n 3, 1) := by decide +kernel
theorem dX6_bestCorner_187 : decode cX6_bestCorner 187 = .ok (.bipush 9, 2) := by decide +kernel
theorem dX6_bestCorner_189 : decode cX6_bestCorner 189 = .ok (.irem, 1) := by decide +kernel
theorem dX6_bestCorner_190 : decode cX6_bestCorner 190 = .ok (.goto 5, 3) := by decide +kernel
theorem dX6_bestCorner_193 : decode cX6_bestCorner 193 = .ok (.iload 4, 2) := by decide +kernel
theorem dX6_bestCorner_195 : decode cX6_bestCorner 195 = .ok (.ireturn, 1) := by decide +kernel
theorem dX6_spades_0 : decode cX6_spades 0 = .ok (.iload_n 1, 1) := by decide +kernel
theorem dX6_spades_1 : decode cX6_spades 1 = .ok (.invokestatic 267, 3) := by decide +kernel
theorem dX6_spades_4 : decode cX6_spades 4 = .ok (.ifCond .ne 7, 3) := by decide +kernel
theorem dX6_spades_7 : decode cX6_spades 7 = .ok (.ldc_w 266, 3) := by decide +kernel
theorem dX6_spades_10 : decode cX6_spades 10 = .ok (.ireturn, 1) := by decide +kernel
theorem dX6_spades_11 : decode cX6_spades 11 = .ok (.aload_n 0, 1) := by decide +kernel
theorem dX6_spades_12 : decode cX6_spades 12 = .ok (.iload_n 1, 1) := by decide +kernel
theorem dX6_spades_13 : decode cX6_spades 13 = .ok (.invokevirtual 344, 3) := by decide +kernel
theorem dX6_spades_16 : decode cX6_spades 16 = .ok (.iconst 0, 1) := by decide +kernel
theorem dX6_spades_17 : decode cX6_spades 17 = .ok (.istore_n 2, 1) := by decide +kernel
theorem dX6_spades_18 : decode cX6_spades 18 = .ok (.iconst 0, 1) := by decide +kernel
theorem dX6_spades_19 : decode cX6_spades 19 = .ok (.istore_n 3, 1) := by decide +kernel
theorem dX6_spades_20 : decode cX6_spades 20 = .ok (.iload_n 3, 1) := by decide +kernel
theorem dX6_spades_21 : decode cX6_spades 21 = .ok (.aload_n 0, 1) := by decide +kernel
theorem dX6_spades_22 : decode cX6_spades 22 = .ok (.getfield 335, 3) := by decide +kernel
theorem dX6_spades_25 : decode cX6_spades 25 = .ok (.if_icmp .ge 18, 3) := by decide +kernel
theorem dX6_spades_28 : decode cX6_spades 28 = .ok (.iload_n 2, 1) := by decide +kernel
theorem dX6_spades_29 : decode cX6_spades 29 = .ok (.aload_n 0, 1) := by decide +kernel
theorem dX6_spades_30 : decode cX6_spades 30 = .ok (.getfield 87, 3) := by decide +kernel
theorem dX6_spades_33 : decode cX6_spades 33 = .ok (.iload_n 3, 1) := by decide +kernel
theorem dX6_spades_34 : decode cX6_spades 34 = .ok (.iaload, 1) := by decide +kernel
theorem dX6_spades_35 : decode cX6_spades 35 = .ok (.iadd, 1) := by decide +kernel
theorem dX6_spades_36 : decode cX6_spades 36 = .ok (.istore_n 2, 1) := by decide +kernel
theorem dX6_spades_37 : decode cX6_spades 37 = .ok (.iinc 3 1, 3) := by decide +kernel
theorem dX6_spades_40 : decode cX6_spades 40 = .ok (.goto (-20), 3) := by decide +kernel
theorem dX6_spades_43 : decode cX6_spades 43 = .ok (.aload_n 0, 1) := by decide +kernel
theorem dX6_spades_44 : decode cX6_spades 44 = .ok (.getfield 338, 3) := by decide +kernel
theorem dX6_spades_47 : decode cX6_spades 47 = .ok (.ifCond .eq 11, 3) := by decide +kernel
theorem dX6_spades_50 : decode cX6_spades 50 = .ok (.iload_n 2, 1) := by decide +kernel
theorem dX6_spades_51 : decode cX6_spades 51 = .ok (.aload_n 0, 1) := by decide +kernel
theorem dX6_spades_52 : decode cX6_spades 52 = .ok (.getfield 338, 3) := by decide +kernel
theorem dX6_spades_55 : decode cX6_spades 55 = .ok (.if_icmp .ge 7, 3) := by decide +kernel
theorem dX6_spades_58 : decode cX6_spades 58 = .ok (.iconst (-1), 1) := by decide +kernel
theorem dX6_spades_59 : decode cX6_spades 59 = .ok (.goto 7, 3) := by decide +kernel
theorem dX6_spades_62 : decode cX6_spades 62 = .ok (.aload_n 0, 1) := by decide +kernel
theorem dX6_spades_63 : decode cX6_spades 63 = .ok (.getfield 335, 3) := by decide +kernel
theorem dX6_spades_66 : decode cX6_spades 66 = .ok (.ireturn, 1) := by decide +kernel
theorem dX6_found_0 : decode cX6_found 0 = .ok (.iload_n 1, 1) := by decide +kernel
theorem dX6_found_1 : decode cX6_found 1 = .ok (.invokestatic 267, 3) := by decide +kernel
theorem dX6_found_4 : decode cX6_found 4 = .ok (.ifCond .ne 7, 3) := by decide +kernel
theorem dX6_found_7 : decode cX6_found 7 = .ok (.ldc_w 266, 3) := by decide +kernel
theorem dX6_found_10 : decode cX6_found 10 = .ok (.ireturn, 1) := by decide +kernel
theorem dX6_found_11 : decode cX6_found 11 = .ok (.aload_n 0, 1) := by decide +kernel
theorem dX6_found_12 : decode cX6_found 12 = .ok (.getfield 120, 3) := by decide +kernel
theorem dX6_found_15 : decode cX6_found 15 = .ok (.istore_n 2, 1) := by decide +kernel
theorem dX6_found_16 : decode cX6_found 16 = .ok (.aload_n 0, 1) := by decide +kernel
theorem dX6_found_17 : decode cX6_found 17 = .ok (.iconst 0, 1) := by decide +kernel
theorem dX6_found_18 : decode cX6_found 18 = .ok (.putfield 120, 3) := by decide +kernel
theorem dX6_found_21 : decode cX6_found 21 = .ok (.iconst 0, 1) := by decide +kernel
theorem dX6_found_22 : decode cX6_found 22 = .ok (.istore_n 3, 1) := by decide +kernel
theorem dX6_found_23 : decode cX6_found 23 = .ok (.iload_n 3, 1) := by decide +kernel
theorem dX6_found_24 : decode cX6_found 24 = .ok (.bipush 6, 2) := by decide +kernel
theorem dX6_found_26 : decode cX6_found 26 = .ok (.if_icmp .ge 52, 3) := by decide +kernel
theorem dX6_found_29 : decode cX6_found 29 = .ok (.aload_n 0, 1) := by decide +kernel
theorem dX6_found_30 : decode cX6_found 30 = .ok (.getfield 90, 3) := by decide +kernel
theorem dX6_found_33 : decode cX6_found 33 = .ok (.iload_n 3, 1) := by decide +kernel
theorem dX6_found_34 : decode cX6_found 34 = .ok (.aload_n 0, 1) := by decide +kernel
theorem dX6_found_35 : decode cX6_found 35 = .ok (.getfield 32, 3) := by decide +kernel
theorem dX6_found_38 : decode cX6_found 38 = .ok (.bipush 6, 2) := by decide +kernel
theorem dX6_found_40 : decode cX6_found 40 = .ok (.iload_n 1, 1) := by decide +kernel
theorem dX6_found_41 : decode cX6_found 41 = .ok (.imul, 1) := by decide +kernel
theorem dX6_found_42 : decode cX6_found 42 = .ok (.iload_n 3, 1) := by decide +kernel
theorem dX6_found_43 : decode cX6_found 43 = .ok (.iadd, 1) := by decide +kernel
theorem dX6_found_44 : decode cX6_found 44 = .ok (.iaload, 1) := by decide +kernel
theorem dX6_found_45 : decode cX6_found 45 = .ok (.iastore, 1) := by decide +kernel
theorem dX6_found_46 : decode cX6_found 46 = .ok (.aload_n 0, 1) := by decide +kernel
theorem dX6_found_47 : decode cX6_found 47 = .ok (.getfield 32, 3) := by decide +kernel
theorem dX6_found_50 : decode cX6_found 50 = .ok (.bipush 6, 2) := by decide +kernel
theorem dX6_found_52 : decode cX6_found 52 = .ok (.iload_n 1, 1) := by decide +kernel
theorem dX6_found_53 : decode cX6_found 53 = .ok (.imul, 1) := by decide +kernel
theorem dX6_found_54 : decode cX6_found 54 = .ok (.iload_n 3, 1) := by decide +kernel
theorem dX6_found_55 : decode cX6_found 55 = .ok (.iadd, 1) := by decide +kernel
theorem dX6_found_56 : decode cX6_found 56 = .ok (.iload_n 3, 1) := by decide +kernel
theorem dX6_found_57 : decode cX6_found 57 = .ok (.iload_n 1, 1) := by decide +kernel
theorem dX6_found_58 : decode cX6_found 58 = .ok (.if_icmp .ne 12, 3) := by decide +kernel
theorem dX6_found_61 : decode cX6_found 61 = .ok (.aload_n 0, 1) := by decide +kernel
theorem dX6_found_62 : decode cX6_found 62 = .ok (.getfield 90, 3) := by decide +kernel
theorem dX6_found_65 : decode cX6_found 65 = .ok (.iload_n 3, 1) := by decide +kernel
theorem dX6_found_66 : decode cX6_found 66 = .ok (.iaload, 1) := by decide +kernel
theorem dX6_found_67 : decode cX6_found 67 = .ok (.goto 4, 3) := by decide +kernel
theorem dX6_found_70 : decode cX6_found 70 = .ok (.iconst 0, 1) := by decide +kernel
theorem dX6_found_71 : decode cX6_found 71 = .ok (.iastore, 1) := by decide +kernel
theorem dX6_found_72 : decode cX6_found 72 = .ok (.iinc 3 1, 3) := by decide +kernel
theorem dX6_found_75 : decode cX6_found 75 = .ok (.goto (-52), 3) := by decide +kernel
theorem dX6_found_78 : decode cX6_found 78 = .ok (.iconst 0, 1) := by decide +kernel
theorem dX6_found_79 : decode cX6_found 79 = .ok (.istore_n 3, 1) := by decide +kernel
theorem dX6_found_80 : decode cX6_found 80 = .ok (.aload_n 0, 1) := by decide +kernel
theorem dX6_found_81 : decode cX6_found 81 = .ok (.iload_n 1, 1) := by decide +kernel
theorem dX6_found_82 : decode cX6_found 82 = .ok (.invokevirtual 330, 3) := by decide +kernel
theorem dX6_found_85 : decode cX6_found 85 = .ok (.iconst 1, 1) := by decide +kernel
theorem dX6_found_86 : decode cX6_found 86 = .ok (.if_icmp .ne 7, 3) := by decide +kernel
theorem dX6_found_89 : decode cX6_found 89 = .ok (.iconst 0, 1) := by decide +kernel
theorem dX6_found_90 : decode cX6_found 90 = .ok (.goto 4, 3) := by decide +kernel
theorem dX6_found_93 : decode cX6_found 93 = .ok (.iconst (-1), 1) := by decide +kernel
theorem dX6_found_94 : decode cX6_found 94 = .ok (.istore 4, 2) := by decide +kernel
theorem dX6_found_96 : decode cX6_found 96 = .ok (.iconst 0, 1) := by decide +kernel
theorem dX6_found_97 : decode cX6_found 97 = .ok (.istore 5, 2) := by decide +kernel
theorem dX6_found_99 : decode cX6_found 99 = .ok (.iload 5, 2) := by decide +kernel
theorem dX6_found_101 : decode cX6_found 101 = .ok (.bipush 54, 2) := by decide +kernel
theorem dX6_found_103 : decode cX6_found 103 = .ok (.if_icmp .ge 81, 3) := by decide +kernel
theorem dX6_found_106 : decode cX6_found 106 = .ok (.iload 4, 2) := by decide +kernel
theorem dX6_found_108 : decode cX6_found 108 = .ok (.ifCond .ge 76, 3) := by decide +kernel
theorem dX6_found_111 : decode cX6_found 111 = .ok (.iload 5, 2) := by decide +kernel
theorem dX6_found_113 : decode cX6_found 113 = .ok (.bipush 9, 2) := by decide +kernel
theorem dX6_found_115 : decode cX6_found 115 = .ok (.idiv, 1) := by decide +kernel
theorem dX6_found_116 : decode cX6_found 116 = .ok (.istore 6, 2) := by decide +kernel
theorem dX6_found_118 : decode cX6_found 118 = .ok (.iload 5, 2) := by decide +kernel
theorem dX6_found_120 : decode cX6_found 120 = .ok (.bipush 9, 2) := by decide +kernel
theorem dX6_found_122 : decode cX6_found 122 = .ok (.irem, 1) := by decide +kernel
theorem dX6_found_123 : decode cX6_found 123 = .ok (.istore 7, 2) := by decide +kernel
theorem dX6_found_125 : decode cX6_found 125 = .ok (.iload 6, 2) := by decide +kernel
theorem dX6_found_127 : decode cX6_found 127 = .ok (.iload_n 1, 1) := by decide +kernel
theorem dX6_found_128 : decode cX6_found 128 = .ok (.if_icmp .eq 50, 3) := by decide +kernel
theorem dX6_found_131 : decode cX6_found 131 = .ok (.iload 7, 2) := by decide +kernel
theorem dX6_found_133 : decode cX6_found 133 = .ok (.aload_n 0, 1) := by decide +kernel
theorem dX6_found_134 : decode cX6_found 134 = .ok (.getfield 111, 3) := by decide +kernel
theorem dX6_found_137 : decode cX6_found 137 = .ok (.if_icmp .ge 41, 3) := by decide +kernel
theorem dX6_found_140 : decode cX6_found 140 = .ok (.aload_n 0, 1) := by decide +kernel
theorem dX6_found_141 : decode cX6_found 141 = .ok (.getfield 32, 3) := by decide +kernel
theorem dX6_found_144 : decode cX6_found 144 = .ok (.bipush 6, 2) := by decide +kernel
theorem dX6_found_146 : decode cX6_found 146 = .ok (.iload_n 1, 1) := by decide +kernel
theorem dX6_found_147 : decode cX6_found 147 = .ok (.imul, 1) := by decide +kernel
theorem dX6_found_148 : decode cX6_found 148 = .ok (.iload 6, 2) := by decide +kernel
theorem dX6_found_150 : decode cX6_found 150 = .ok (.iadd, 1) := by decide +kernel
theorem dX6_found_151 : decode cX6_found 151 = .ok (.dup2, 1) := by decide +kernel
theorem dX6_found_152 : decode cX6_found 152 = .ok (.iaload, 1) := by decide +kernel
theorem dX6_found_153 : decode cX6_found 153 = .ok (.iconst 1, 1) := by decide +kernel
theorem dX6_found_154 : decode cX6_found 154 = .ok (.iload 7, 2) := by decide +kernel
theorem dX6_found_156 : decode cX6_found 156 = .ok (.ishl, 1) := by decide +kernel
theorem dX6_found_157 : decode cX6_found 157 = .ok (.ior, 1) := by decide +kernel
theorem dX6_found_158 : decode cX6_found 158 = .ok (.iastore, 1) := by decide +kernel
theorem dX6_found_159 : decode cX6_found 159 = .ok (.iinc 3 1, 3) := by decide +kernel
theorem dX6_found_162 : decode cX6_found 162 = .ok (.aload_n 0, 1) := by decide +kernel
theorem dX6_found_163 : decode cX6_found 163 = .ok (.iload_n 1, 1) := by decide +kernel
theorem dX6_found_164 : decode cX6_found 164 = .ok (.invokevirtual 330, 3) := by decide +kernel
theorem dX6_found_167 : decode cX6_found 167 = .ok (.iconst 1, 1) := by decide +kernel
theorem dX6_found_168 : decode cX6_found 168 = .ok (.if_icmp .ne 7, 3) := by decide +kernel
theorem dX6_found_171 : decode cX6_found 171 = .ok (.iload_n 3, 1) := by decide +kernel
theorem dX6_found_172 : decode cX6_found 172 = .ok (.goto 4, 3) := by decide +kernel
theorem dX6_found_175 : decode cX6_found 175 = .ok (.iconst (-1), 1) := by decide +kernel
theorem dX6_found_176 : decode cX6_found 176 = .ok (.istore 4, 2) := by decide +kernel
theorem dX6_found_178 : decode cX6_found 178 = .ok (.iinc 5 1, 3) := by decide +kernel
theorem dX6_found_181 : decode cX6_found 181 = .ok (.goto (-82), 3) := by decide +kernel
theorem dX6_found_184 : decode cX6_found 184 = .ok (.iconst 0, 1) := by decide +kernel
theorem dX6_found_185 : decode cX6_found 185 = .ok (.istore 5, 2) := by decide +kernel
theorem dX6_found_187 : decode cX6_found 187 = .ok (.iload 5, 2) := by decide +kernel
theorem dX6_found_189 : decode cX6_found 189 = .ok (.bipush 6, 2) := by decide +kernel
theorem dX6_found_191 : decode cX6_found 191 = .ok (.if_icmp .ge 28, 3) := by decide +kernel
theorem dX6_found_194 : decode cX6_found 194 = .ok (.aload_n 0, 1) := by decide +kernel
theorem dX6_found_195 : decode cX6_found 195 = .ok (.getfield 32, 3) := by decide +kernel
theorem dX6_found_198 : decode cX6_found 198 = .ok (.bipush 6, 2) := by decide +kernel
theorem dX6_found_200 : decode cX6_found 200 = .ok (.iload_n 1, 1) := by decide +kernel
theorem dX6_found_201 : decode cX6_found 201 = .ok (.imul, 1) := by decide +kernel
theorem dX6_found_202 : decode cX6_found 202 = .ok (.iload 5, 2) := by decide +kernel
theorem dX6_found_204 : decode cX6_found 204 = .ok (.iadd, 1) := by decide +kernel
theorem dX6_found_205 : decode cX6_found 205 = .ok (.aload_n 0, 1) := by decide +kernel
theorem dX6_found_206 : decode cX6_found 206 = .ok (.getfield 90, 3) := by decide +kernel
theorem dX6_found_209 : decode cX6_found 209 = .ok (.iload 5, 2) := by decide +kernel
theorem dX6_found_211 : decode cX6_found 211 = .ok (.iaload, 1) := by decide +kernel
theorem dX6_found_212 : decode cX6_found 212 = .ok (.iastore, 1) := by decide +kernel
theorem dX6_found_213 : decode cX6_found 213 = .ok (.iinc 5 1, 3) := by decide +kernel
theorem dX6_found_216 : decode cX6_found 216 = .ok (.goto (-29), 3) := by decide +kernel
theorem dX6_found_219 : decode cX6_found 219 = .ok (.aload_n 0, 1) := by decide +kernel
theorem dX6_found_220 : decode cX6_found 220 = .ok (.iload_n 2, 1) := by decide +kernel
theorem dX6_found_221 : decode cX6_found 221 = .ok (.putfield 120, 3) := by decide +kernel
theorem dX6_found_224 : decode cX6_found 224 = .ok (.iload 4, 2) := by decide +kernel
theorem dX6_found_226 : decode cX6_found 226 = .ok (.ireturn, 1) := by decide +kernel
theorem dX6_say_0 : decode cX6_say 0 = .ok (.iload_n 1, 1) := by decide +kernel
theorem dX6_say_1 : decode cX6_say 1 = .ok (.invokestatic 267, 3) := by decide +kernel
theorem dX6_say_4 : decode cX6_say 4 = .ok (.ifCond .eq 10, 3) := by decide +kernel
theorem dX6_say_7 : decode cX6_say 7 = .ok (.iload_n 2, 1) := by decide +kernel
theorem dX6_say_8 : decode cX6_say 8 = .ok (.invokestatic 267, 3) := by decide +kernel
theorem dX6_say_11 : decode cX6_say 11 = .ok (.ifCond .ne 7, 3) := by decide +kernel
theorem dX6_say_14 : decode cX6_say 14 = .ok (.ldc_w 266, 3) := by decide +kernel
theorem dX6_say_17 : decode cX6_say 17 = .ok (.ireturn, 1) := by decide +kernel
theorem dX6_say_18 : decode cX6_say 18 = .ok (.aload_n 0, 1) := by decide +kernel
theorem dX6_say_19 : decode cX6_say 19 = .ok (.getfield 259, 3) := by decide +kernel
theorem dX6_say_22 : decode cX6_say 22 = .ok (.bipush 20, 2) := by decide +kernel
theorem dX6_say_24 : decode cX6_say 24 = .ok (.if_icmp .ne 6, 3) := by decide +kernel
theorem dX6_say_27 : decode cX6_say 27 = .ok (.ldc 129, 2) := by decide +kernel
theorem dX6_say_29 : decode cX6_say 29 = .ok (.ireturn, 1) := by decide +kernel
theorem dX6_say_30 : decode cX6_say 30 = .ok (.aload_n 0, 1) := by decide +kernel
theorem dX6_say_31 : decode cX6_say 31 = .ok (.getfield 93, 3) := by decide +kernel
theorem dX6_say_34 : decode cX6_say 34 = .ok (.aload_n 0, 1) := by decide +kernel
theorem dX6_say_35 : decode cX6_say 35 = .ok (.getfield 259, 3) := by decide +kernel
theorem dX6_say_38 : decode cX6_say 38 = .ok (.iload_n 1, 1) := by decide +kernel
theorem dX6_say_39 : decode cX6_say 39 = .ok (.iastore, 1) := by decide +kernel
theorem dX6_say_40 : decode cX6_say 40 = .ok (.aload_n 0, 1) := by decide +kernel
theorem dX6_say_41 : decode cX6_say 41 = .ok (.getfield 96, 3) := by decide +kernel
theorem dX6_say_44 : decode cX6_say 44 = .ok (.aload_n 0, 1) := by decide +kernel
theorem dX6_say_45 : decode cX6_say 45 = .ok (.getfield 259, 3) := by decide +kernel
theorem dX6_say_48 : decode cX6_say 48 = .ok (.iload_n 2, 1) := by decide +kernel
theorem dX6_say_49 : decode cX6_say 49 = .ok (.iastore, 1) := by decide +kernel
theorem dX6_say_50 : decode cX6_say 50 = .ok (.aload_n 0, 1) := by decide +kernel
theorem dX6_say_51 : decode cX6_say 51 = .ok (.getfield 99, 3) := by decide +kernel
theorem dX6_say_54 : decode cX6_say 54 = .ok (.aload_n 0, 1) := by decide +kernel
theorem dX6_say_55 : decode cX6_say 55 = .ok (.getfield 259, 3) := by decide +kernel
theorem dX6_say_58 : decode cX6_say 58 = .ok (.iload_n 3, 1) := by decide +kernel
theorem dX6_say_59 : decode cX6_say 59 = .ok (.bastore, 1) := by decide +kernel
theorem dX6_say_60 : decode cX6_say 60 = .ok (.aload_n 0, 1) := by decide +kernel
theorem dX6_say_61 : decode cX6_say 61 = .ok (.dup, 1) := by decide +kernel
theorem dX6_say_62 : decode cX6_say 62 = .ok (.getfield 259, 3) := by decide +kernel
theorem dX6_say_65 : decode cX6_say 65 = .ok (.iconst 1, 1) := by decide +kernel
theorem dX6_say_66 : decode cX6_say 66 = .ok (.iadd, 1) := by decide +kernel
theorem dX6_say_67 : decode cX6_say 67 = .ok (.putfield 259, 3) := by decide +kernel
theorem dX6_say_70 : decode cX6_say 70 = .ok (.aload_n 0, 1) := by decide +kernel
theorem dX6_say_71 : decode cX6_say 71 = .ok (.getfield 259, 3) := by decide +kernel
theorem dX6_say_74 : decode cX6_say 74 = .ok (.iconst 1, 1) := by decide +kernel
theorem dX6_say_75 : decode cX6_say 75 = .ok (.isub, 1) := by decide +kernel
theorem dX6_say_76 : decode cX6_say 76 = .ok (.ireturn, 1) := by decide +kernel
theorem dX6_forget_0 : decode cX6_forget 0 = .ok (.aload_n 0, 1) := by decide +kernel
theorem dX6_forget_1 : decode cX6_forget 1 = .ok (.getfield 259, 3) := by decide +kernel
theorem dX6_forget_4 : decode cX6_forget 4 = .ok (.istore_n 1, 1) := by decide +kernel
theorem dX6_forget_5 : decode cX6_forget 5 = .ok (.aload_n 0, 1) := by decide +kernel
theorem dX6_forget_6 : decode cX6_forget 6 = .ok (.iconst 0, 1) := by decide +kernel
theorem dX6_forget_7 : decode cX6_forget 7 = .ok (.putfield 259, 3) := by decide +kernel
theorem dX6_forget_10 : decode cX6_forget 10 = .ok (.iload_n 1, 1) := by decide +kernel
theorem dX6_forget_11 : decode cX6_forget 11 = .ok (.ireturn, 1) := by decide +kernel
theorem dX6_isTrue_0 : decode cX6_isTrue 0 = .ok (.aload_n 0, 1) := by decide +kernel
theorem dX6_isTrue_1 : decode cX6_isTrue 1 = .ok (.getfield 253, 3) := by decide +kernel
theorem dX6_isTrue_4 : decode cX6_isTrue 4 = .ok (.aload_n 0, 1) := by decide +kernel
theorem dX6_isTrue_5 : decode cX6_isTrue 5 = .ok (.getfield 96, 3) := by decide +kernel
theorem dX6_isTrue_8 : decode cX6_isTrue 8 = .ok (.iload_n 1, 1) := by decide +kernel
theorem dX6_isTrue_9 : decode cX6_isTrue 9 = .ok (.iaload, 1) := by decide +kernel
theorem dX6_isTrue_10 : decode cX6_isTrue 10 = .ok (.invokestatic 182, 3) := by decide +kernel
theorem dX6_isTrue_13 : decode cX6_isTrue 13 = .ok (.aload_n 0, 1) := by decide +kernel
theorem dX6_isTrue_14 : decode cX6_isTrue 14 = .ok (.getfield 99, 3) := by decide +kernel
theorem dX6_isTrue_17 : decode cX6_isTrue 17 = .ok (.iload_n 1, 1) := by decide +kernel
theorem dX6_isTrue_18 : decode cX6_isTrue 18 = .ok (.baload, 1) := by decide +kernel
theorem dX6_isTrue_19 : decode cX6_isTrue 19 = .ok (.if_icmp .ne 7, 3) := by decide +kernel
theorem dX6_isTrue_22 : decode cX6_isTrue 22 = .ok (.iconst 1, 1) := by decide +kernel
theorem dX6_isTrue_23 : decode cX6_isTrue 23 = .ok (.goto 4, 3) := by decide +kernel
theorem dX6_isTrue_26 : decode cX6_isTrue 26 = .ok (.iconst 0, 1) := by decide +kernel
theorem dX6_isTrue_27 : decode cX6_isTrue 27 = .ok (.ireturn, 1) := by decide +kernel
theorem dX6_saying_0 : decode cX6_saying 0 = .ok (.iload_n 1, 1) := by decide +kernel
theorem dX6_saying_1 : decode cX6_saying 1 = .ok (.i2l, 1) := by decide +kernel
theorem dX6_saying_2 : decode cX6_saying 2 = .ok (.lconst 0, 1) := by decide +kernel
theorem dX6_saying_3 : decode cX6_saying 3 = .ok (.aload_n 0, 1) := by decide +kernel
theorem dX6_saying_4 : decode cX6_saying 4 = .ok (.getfield 259, 3) := by decide +kernel
theorem dX6_saying_7 : decode cX6_saying 7 = .ok (.iconst 1, 1) := by decide +kernel
theorem dX6_saying_8 : decode cX6_saying 8 = .ok (.isub, 1) := by decide +kernel
theorem dX6_saying_9 : decode cX6_saying 9 = .ok (.i2l, 1) := by decide +kernel
theorem dX6_saying_10 : decode cX6_saying 10 = .ok (.invokestatic 114, 3) := by decide +kernel
theorem dX6_saying_13 : decode cX6_saying 13 = .ok (.ifCond .ne 7, 3) := by decide +kernel
theorem dX6_saying_16 : decode cX6_saying 16 = .ok (.ldc_w 266, 3) := by decide +kernel
theorem dX6_saying_19 : decode cX6_saying 19 = .ok (.ireturn, 1) := by decide +kernel
theorem dX6_saying_20 : decode cX6_saying 20 = .ok (.iload_n 2, 1) := by decide +kernel
theorem dX6_saying_21 : decode cX6_saying 21 = .ok (.i2l, 1) := by decide +kernel
theorem dX6_saying_22 : decode cX6_saying 22 = .ok (.lconst 0, 1) := by decide +kernel
theorem dX6_saying_23 : decode cX6_saying 23 = .ok (.lconst 1, 1) := by decide +kernel
theorem dX6_saying_24 : decode cX6_saying 24 = .ok (.invokestatic 114, 3) := by decide +kernel
theorem dX6_saying_27 : decode cX6_saying 27 = .ok (.ifCond .ne 6, 3) := by decide +kernel
theorem dX6_saying_30 : decode cX6_saying 30 = .ok (.ldc 125, 2) := by decide +kernel
theorem dX6_saying_32 : decode cX6_saying 32 = .ok (.ireturn, 1) := by decide +kernel
theorem dX6_saying_33 : decode cX6_saying 33 = .ok (.iload_n 2, 1) := by decide +kernel
theorem dX6_saying_34 : decode cX6_saying 34 = .ok (.ifCond .ne 17, 3) := by decide +kernel
theorem dX6_saying_37 : decode cX6_saying 37 = .ok (.aload_n 0, 1) := by decide +kernel
theorem dX6_saying_38 : decode cX6_saying 38 = .ok (.iload_n 1, 1) := by decide +kernel
theorem dX6_saying_39 : decode cX6_saying 39 = .ok (.invokevirtual 359, 3) := by decide +kernel
theorem dX6_saying_42 : decode cX6_saying 42 = .ok (.ifCond .eq 7, 3) := by decide +kernel
theorem dX6_saying_45 : decode cX6_saying 45 = .ok (.iconst 1, 1) := by decide +kernel
theorem dX6_saying_46 : decode cX6_saying 46 = .ok (.goto 4, 3) := by decide +kernel
theorem dX6_saying_49 : decode cX6_saying 49 = .ok (.iconst 0, 1) := by decide +kernel
theorem dX6_saying_50 : decode cX6_saying 50 = .ok (.ireturn, 1) := by decide +kernel
theorem dX6_saying_51 : decode cX6_saying 51 = .ok (.iconst 0, 1) := by decide +kernel
theorem dX6_saying_52 : decode cX6_saying 52 = .ok (.istore_n 3, 1) := by decide +kernel
theorem dX6_saying_53 : decode cX6_saying 53 = .ok (.iconst 0, 1) := by decide +kernel
theorem dX6_saying_54 : decode cX6_saying 54 = .ok (.istore 4, 2) := by decide +kernel
theorem dX6_saying_56 : decode cX6_saying 56 = .ok (.iconst 0, 1) := by decide +kernel
theorem dX6_saying_57 : decode cX6_saying 57 = .ok (.istore 5, 2) := by decide +kernel
theorem dX6_saying_59 : decode cX6_saying 59 = .ok (.iload 5, 2) := by decide +kernel
theorem dX6_saying_61 : decode cX6_saying 61 = .ok (.bipush 64, 2) := by decide +kernel
theorem dX6_saying_63 : decode cX6_saying 63 = .ok (.if_icmp .ge 67, 3) := by decide +kernel
theorem dX6_saying_66 : decode cX6_saying 66 = .ok (.iload 5, 2) := by decide +kernel
theorem dX6_saying_68 : decode cX6_saying 68 = .ok (.invokestatic 306, 3) := by decide +kernel
theorem dX6_saying_71 : decode cX6_saying 71 = .ok (.aload_n 0, 1) := by decide +kernel
end
section
theorem dX6_saying_72 : decode cX6_saying 72 = .ok (.getfield 250, 3) := by decide +kernel
theorem dX6_saying_75 : decode cX6_saying 75 = .ok (.if_icmp .ne 49, 3) := by decide +kernel
theorem dX6_saying_78 : decode cX6_saying 78 = .ok (.aload_n 0, 1) := by decide +kernel
theorem dX6_saying_79 : decode cX6_saying 79 = .ok (.aload_n 0, 1) := by decide +kernel
theorem dX6_saying_80 : decode cX6_saying 80 = .ok (.getfield 93, 3) := by decide +kernel
theorem dX6_saying_83 : decode cX6_saying 83 = .ok (.iload_n 1, 1) := by decide +kernel
theorem dX6_saying_84 : decode cX6_saying 84 = .ok (.iaload, 1) := by decide +kernel
theorem dX6_saying_85 : decode cX6_saying 85 = .ok (.iload 5, 2) := by decide +kernel
theorem dX6_saying_87 : decode cX6_saying 87 = .ok (.invokevirtual 309, 3) := by decide +kernel
theorem dX6_saying_90 : decode cX6_saying 90 = .ok (.ifCond .eq 34, 3) := by decide +kernel
theorem dX6_saying_93 : decode cX6_saying 93 = .ok (.iinc 4 1, 3) := by decide +kernel
theorem dX6_saying_96 : decode cX6_saying 96 = .ok (.iload_n 3, 1) := by decide +kernel
theorem dX6_saying_97 : decode cX6_saying 97 = .ok (.iload 5, 2) := by decide +kernel
theorem dX6_saying_99 : decode cX6_saying 99 = .ok (.aload_n 0, 1) := by decide +kernel
theorem dX6_saying_100 : decode cX6_saying 100 = .ok (.getfield 96, 3) := by decide +kernel
theorem dX6_saying_103 : decode cX6_saying 103 = .ok (.iload_n 1, 1) := by decide +kernel
theorem dX6_saying_104 : decode cX6_saying 104 = .ok (.iaload, 1) := by decide +kernel
theorem dX6_saying_105 : decode cX6_saying 105 = .ok (.invokestatic 182, 3) := by decide +kernel
theorem dX6_saying_108 : decode cX6_saying 108 = .ok (.aload_n 0, 1) := by decide +kernel
theorem dX6_saying_109 : decode cX6_saying 109 = .ok (.getfield 99, 3) := by decide +kernel
theorem dX6_saying_112 : decode cX6_saying 112 = .ok (.iload_n 1, 1) := by decide +kernel
theorem dX6_saying_113 : decode cX6_saying 113 = .ok (.baload, 1) := by decide +kernel
theorem dX6_saying_114 : decode cX6_saying 114 = .ok (.if_icmp .ne 7, 3) := by decide +kernel
theorem dX6_saying_117 : decode cX6_saying 117 = .ok (.iconst 1, 1) := by decide +kernel
theorem dX6_saying_118 : decode cX6_saying 118 = .ok (.goto 4, 3) := by decide +kernel
theorem dX6_saying_121 : decode cX6_saying 121 = .ok (.iconst 0, 1) := by decide +kernel
theorem dX6_saying_122 : decode cX6_saying 122 = .ok (.iadd, 1) := by decide +kernel
theorem dX6_saying_123 : decode cX6_saying 123 = .ok (.istore_n 3, 1) := by decide +kernel
theorem dX6_saying_124 : decode cX6_saying 124 = .ok (.iinc 5 1, 3) := by decide +kernel
theorem dX6_saying_127 : decode cX6_saying 127 = .ok (.goto (-68), 3) := by decide +kernel
theorem dX6_saying_130 : decode cX6_saying 130 = .ok (.iload 4, 2) := by decide +kernel
theorem dX6_saying_132 : decode cX6_saying 132 = .ok (.ifCond .ne 7, 3) := by decide +kernel
theorem dX6_saying_135 : decode cX6_saying 135 = .ok (.iconst (-1), 1) := by decide +kernel
theorem dX6_saying_136 : decode cX6_saying 136 = .ok (.goto 10, 3) := by decide +kernel
theorem dX6_saying_139 : decode cX6_saying 139 = .ok (.bipush 100, 2) := by decide +kernel
theorem dX6_saying_141 : decode cX6_saying 141 = .ok (.iload_n 3, 1) := by decide +kernel
theorem dX6_saying_142 : decode cX6_saying 142 = .ok (.imul, 1) := by decide +kernel
theorem dX6_saying_143 : decode cX6_saying 143 = .ok (.iload 4, 2) := by decide +kernel
theorem dX6_saying_145 : decode cX6_saying 145 = .ok (.idiv, 1) := by decide +kernel
theorem dX6_saying_146 : decode cX6_saying 146 = .ok (.ireturn, 1) := by decide +kernel
theorem dX6_loudest_0 : decode cX6_loudest 0 = .ok (.iconst (-1), 1) := by decide +kernel
theorem dX6_loudest_1 : decode cX6_loudest 1 = .ok (.istore_n 1, 1) := by decide +kernel
theorem dX6_loudest_2 : decode cX6_loudest 2 = .ok (.iconst 0, 1) := by decide +kernel
theorem dX6_loudest_3 : decode cX6_loudest 3 = .ok (.istore_n 2, 1) := by decide +kernel
theorem dX6_loudest_4 : decode cX6_loudest 4 = .ok (.iconst 0, 1) := by decide +kernel
theorem dX6_loudest_5 : decode cX6_loudest 5 = .ok (.istore_n 3, 1) := by decide +kernel
theorem dX6_loudest_6 : decode cX6_loudest 6 = .ok (.iload_n 3, 1) := by decide +kernel
theorem dX6_loudest_7 : decode cX6_loudest 7 = .ok (.bipush 6, 2) := by decide +kernel
theorem dX6_loudest_9 : decode cX6_loudest 9 = .ok (.if_icmp .ge 85, 3) := by decide +kernel
theorem dX6_loudest_12 : decode cX6_loudest 12 = .ok (.iconst 0, 1) := by decide +kernel
theorem dX6_loudest_13 : decode cX6_loudest 13 = .ok (.istore 4, 2) := by decide +kernel
theorem dX6_loudest_15 : decode cX6_loudest 15 = .ok (.iconst 0, 1) := by decide +kernel
theorem dX6_loudest_16 : decode cX6_loudest 16 = .ok (.istore 5, 2) := by decide +kernel
theorem dX6_loudest_18 : decode cX6_loudest 18 = .ok (.iload 5, 2) := by decide +kernel
theorem dX6_loudest_20 : decode cX6_loudest 20 = .ok (.aload_n 0, 1) := by decide +kernel
theorem dX6_loudest_21 : decode cX6_loudest 21 = .ok (.getfield 259, 3) := by decide +kernel
theorem dX6_loudest_24 : decode cX6_loudest 24 = .ok (.if_icmp .ge 39, 3) := by decide +kernel
theorem dX6_loudest_27 : decode cX6_loudest 27 = .ok (.iload 4, 2) := by decide +kernel
theorem dX6_loudest_29 : decode cX6_loudest 29 = .ok (.aload_n 0, 1) := by decide +kernel
theorem dX6_loudest_30 : decode cX6_loudest 30 = .ok (.getfield 93, 3) := by decide +kernel
theorem dX6_loudest_33 : decode cX6_loudest 33 = .ok (.iload 5, 2) := by decide +kernel
theorem dX6_loudest_35 : decode cX6_loudest 35 = .ok (.iaload, 1) := by decide +kernel
theorem dX6_loudest_36 : decode cX6_loudest 36 = .ok (.iload_n 3, 1) := by decide +kernel
theorem dX6_loudest_37 : decode cX6_loudest 37 = .ok (.if_icmp .ne 16, 3) := by decide +kernel
theorem dX6_loudest_40 : decode cX6_loudest 40 = .ok (.aload_n 0, 1) := by decide +kernel
theorem dX6_loudest_41 : decode cX6_loudest 41 = .ok (.iload 5, 2) := by decide +kernel
theorem dX6_loudest_43 : decode cX6_loudest 43 = .ok (.invokevirtual 359, 3) := by decide +kernel
theorem dX6_loudest_46 : decode cX6_loudest 46 = .ok (.ifCond .ne 7, 3) := by decide +kernel
theorem dX6_loudest_49 : decode cX6_loudest 49 = .ok (.iconst 1, 1) := by decide +kernel
theorem dX6_loudest_50 : decode cX6_loudest 50 = .ok (.goto 4, 3) := by decide +kernel
theorem dX6_loudest_53 : decode cX6_loudest 53 = .ok (.iconst 0, 1) := by decide +kernel
theorem dX6_loudest_54 : decode cX6_loudest 54 = .ok (.iadd, 1) := by decide +kernel
theorem dX6_loudest_55 : decode cX6_loudest 55 = .ok (.istore 4, 2) := by decide +kernel
theorem dX6_loudest_57 : decode cX6_loudest 57 = .ok (.iinc 5 1, 3) := by decide +kernel
theorem dX6_loudest_60 : decode cX6_loudest 60 = .ok (.goto (-42), 3) := by decide +kernel
theorem dX6_loudest_63 : decode cX6_loudest 63 = .ok (.iload 4, 2) := by decide +kernel
theorem dX6_loudest_65 : decode cX6_loudest 65 = .ok (.iload_n 2, 1) := by decide +kernel
theorem dX6_loudest_66 : decode cX6_loudest 66 = .ok (.if_icmp .le 7, 3) := by decide +kernel
theorem dX6_loudest_69 : decode cX6_loudest 69 = .ok (.iload_n 3, 1) := by decide +kernel
theorem dX6_loudest_70 : decode cX6_loudest 70 = .ok (.goto 4, 3) := by decide +kernel
theorem dX6_loudest_73 : decode cX6_loudest 73 = .ok (.iload_n 1, 1) := by decide +kernel
theorem dX6_loudest_74 : decode cX6_loudest 74 = .ok (.istore_n 1, 1) := by decide +kernel
theorem dX6_loudest_75 : decode cX6_loudest 75 = .ok (.iload 4, 2) := by decide +kernel
theorem dX6_loudest_77 : decode cX6_loudest 77 = .ok (.iload_n 2, 1) := by decide +kernel
theorem dX6_loudest_78 : decode cX6_loudest 78 = .ok (.if_icmp .le 8, 3) := by decide +kernel
theorem dX6_loudest_81 : decode cX6_loudest 81 = .ok (.iload 4, 2) := by decide +kernel
theorem dX6_loudest_83 : decode cX6_loudest 83 = .ok (.goto 4, 3) := by decide +kernel
theorem dX6_loudest_86 : decode cX6_loudest 86 = .ok (.iload_n 2, 1) := by decide +kernel
theorem dX6_loudest_87 : decode cX6_loudest 87 = .ok (.istore_n 2, 1) := by decide +kernel
theorem dX6_loudest_88 : decode cX6_loudest 88 = .ok (.iinc 3 1, 3) := by decide +kernel
theorem dX6_loudest_91 : decode cX6_loudest 91 = .ok (.goto (-85), 3) := by decide +kernel
theorem dX6_loudest_94 : decode cX6_loudest 94 = .ok (.iload_n 1, 1) := by decide +kernel
theorem dX6_loudest_95 : decode cX6_loudest 95 = .ok (.ireturn, 1) := by decide +kernel
theorem dX6_draw_0 : decode cX6_draw 0 = .ok (.aload_n 0, 1) := by decide +kernel
theorem dX6_draw_1 : decode cX6_draw 1 = .ok (.aload_n 0, 1) := by decide +kernel
theorem dX6_draw_2 : decode cX6_draw 2 = .ok (.getfield 362, 3) := by decide +kernel
theorem dX6_draw_5 : decode cX6_draw 5 = .ok (.i2l, 1) := by decide +kernel
theorem dX6_draw_6 : decode cX6_draw 6 = .ok (.ldc2_w 365, 3) := by decide +kernel
theorem dX6_draw_9 : decode cX6_draw 9 = .ok (.lmul, 1) := by decide +kernel
theorem dX6_draw_10 : decode cX6_draw 10 = .ok (.ldc2_w 367, 3) := by decide +kernel
theorem dX6_draw_13 : decode cX6_draw 13 = .ok (.ladd, 1) := by decide +kernel
theorem dX6_draw_14 : decode cX6_draw 14 = .ok (.ldc2_w 369, 3) := by decide +kernel
theorem dX6_draw_17 : decode cX6_draw 17 = .ok (.lrem, 1) := by decide +kernel
theorem dX6_draw_18 : decode cX6_draw 18 = .ok (.l2i, 1) := by decide +kernel
theorem dX6_draw_19 : decode cX6_draw 19 = .ok (.putfield 362, 3) := by decide +kernel
theorem dX6_draw_22 : decode cX6_draw 22 = .ok (.aload_n 0, 1) := by decide +kernel
theorem dX6_draw_23 : decode cX6_draw 23 = .ok (.getfield 362, 3) := by decide +kernel
theorem dX6_draw_26 : decode cX6_draw 26 = .ok (.ldc_w 371, 3) := by decide +kernel
theorem dX6_draw_29 : decode cX6_draw 29 = .ok (.idiv, 1) := by decide +kernel
theorem dX6_draw_30 : decode cX6_draw 30 = .ok (.iload_n 1, 1) := by decide +kernel
theorem dX6_draw_31 : decode cX6_draw 31 = .ok (.irem, 1) := by decide +kernel
theorem dX6_draw_32 : decode cX6_draw 32 = .ok (.ireturn, 1) := by decide +kernel
theorem dX6_bandDay_0 : decode cX6_bandDay 0 = .ok (.aload_n 0, 1) := by decide +kernel
theorem dX6_bandDay_1 : decode cX6_bandDay 1 = .ok (.iload_n 1, 1) := by decide +kernel
theorem dX6_bandDay_2 : decode cX6_bandDay 2 = .ok (.invokevirtual 344, 3) := by decide +kernel
theorem dX6_bandDay_5 : decode cX6_bandDay 5 = .ok (.aload_n 0, 1) := by decide +kernel
theorem dX6_bandDay_6 : decode cX6_bandDay 6 = .ok (.invokevirtual 348, 3) := by decide +kernel
theorem dX6_bandDay_9 : decode cX6_bandDay 9 = .ok (.istore_n 2, 1) := by decide +kernel
theorem dX6_bandDay_10 : decode cX6_bandDay 10 = .ok (.iload_n 2, 1) := by decide +kernel
theorem dX6_bandDay_11 : decode cX6_bandDay 11 = .ok (.ifCond .lt 30, 3) := by decide +kernel
theorem dX6_bandDay_14 : decode cX6_bandDay 14 = .ok (.aload_n 0, 1) := by decide +kernel
theorem dX6_bandDay_15 : decode cX6_bandDay 15 = .ok (.iload_n 2, 1) := by decide +kernel
theorem dX6_bandDay_16 : decode cX6_bandDay 16 = .ok (.invokevirtual 351, 3) := by decide +kernel
theorem dX6_bandDay_19 : decode cX6_bandDay 19 = .ok (.ifCond .le 22, 3) := by decide +kernel
theorem dX6_bandDay_22 : decode cX6_bandDay 22 = .ok (.aload_n 0, 1) := by decide +kernel
theorem dX6_bandDay_23 : decode cX6_bandDay 23 = .ok (.iload_n 1, 1) := by decide +kernel
theorem dX6_bandDay_24 : decode cX6_bandDay 24 = .ok (.aload_n 0, 1) := by decide +kernel
theorem dX6_bandDay_25 : decode cX6_bandDay 25 = .ok (.getfield 81, 3) := by decide +kernel
theorem dX6_bandDay_28 : decode cX6_bandDay 28 = .ok (.iload_n 2, 1) := by decide +kernel
theorem dX6_bandDay_29 : decode cX6_bandDay 29 = .ok (.iaload, 1) := by decide +kernel
theorem dX6_bandDay_30 : decode cX6_bandDay 30 = .ok (.aload_n 0, 1) := by decide +kernel
theorem dX6_bandDay_31 : decode cX6_bandDay 31 = .ok (.getfield 84, 3) := by decide +kernel
theorem dX6_bandDay_34 : decode cX6_bandDay 34 = .ok (.iload_n 2, 1) := by decide +kernel
theorem dX6_bandDay_35 : decode cX6_bandDay 35 = .ok (.iaload, 1) := by decide +kernel
theorem dX6_bandDay_36 : decode cX6_bandDay 36 = .ok (.invokevirtual 326, 3) := by decide +kernel
theorem dX6_bandDay_39 : decode cX6_bandDay 39 = .ok (.istore_n 3, 1) := by decide +kernel
theorem dX6_bandDay_40 : decode cX6_bandDay 40 = .ok (.return_, 1) := by decide +kernel
theorem dX6_bandDay_41 : decode cX6_bandDay 41 = .ok (.aload_n 0, 1) := by decide +kernel
theorem dX6_bandDay_42 : decode cX6_bandDay 42 = .ok (.iconst 5, 1) := by decide +kernel
theorem dX6_bandDay_43 : decode cX6_bandDay 43 = .ok (.invokevirtual 372, 3) := by decide +kernel
theorem dX6_bandDay_46 : decode cX6_bandDay 46 = .ok (.istore_n 3, 1) := by decide +kernel
theorem dX6_bandDay_47 : decode cX6_bandDay 47 = .ok (.iload_n 3, 1) := by decide +kernel
theorem dX6_bandDay_48 : decode cX6_bandDay 48 = .ok (.iload_n 3, 1) := by decide +kernel
theorem dX6_bandDay_49 : decode cX6_bandDay 49 = .ok (.iload_n 1, 1) := by decide +kernel
theorem dX6_bandDay_50 : decode cX6_bandDay 50 = .ok (.if_icmp .lt 7, 3) := by decide +kernel
theorem dX6_bandDay_53 : decode cX6_bandDay 53 = .ok (.iconst 1, 1) := by decide +kernel
theorem dX6_bandDay_54 : decode cX6_bandDay 54 = .ok (.goto 4, 3) := by decide +kernel
theorem dX6_bandDay_57 : decode cX6_bandDay 57 = .ok (.iconst 0, 1) := by decide +kernel
theorem dX6_bandDay_58 : decode cX6_bandDay 58 = .ok (.iadd, 1) := by decide +kernel
theorem dX6_bandDay_59 : decode cX6_bandDay 59 = .ok (.istore_n 3, 1) := by decide +kernel
theorem dX6_bandDay_60 : decode cX6_bandDay 60 = .ok (.aload_n 0, 1) := by decide +kernel
theorem dX6_bandDay_61 : decode cX6_bandDay 61 = .ok (.aload_n 0, 1) := by decide +kernel
theorem dX6_bandDay_62 : decode cX6_bandDay 62 = .ok (.getfield 111, 3) := by decide +kernel
theorem dX6_bandDay_65 : decode cX6_bandDay 65 = .ok (.invokevirtual 372, 3) := by decide +kernel
theorem dX6_bandDay_68 : decode cX6_bandDay 68 = .ok (.istore 4, 2) := by decide +kernel
theorem dX6_bandDay_70 : decode cX6_bandDay 70 = .ok (.aload_n 0, 1) := by decide +kernel
theorem dX6_bandDay_71 : decode cX6_bandDay 71 = .ok (.aload_n 0, 1) := by decide +kernel
theorem dX6_bandDay_72 : decode cX6_bandDay 72 = .ok (.getfield 111, 3) := by decide +kernel
theorem dX6_bandDay_75 : decode cX6_bandDay 75 = .ok (.invokevirtual 372, 3) := by decide +kernel
theorem dX6_bandDay_78 : decode cX6_bandDay 78 = .ok (.istore 5, 2) := by decide +kernel
theorem dX6_bandDay_80 : decode cX6_bandDay 80 = .ok (.aload_n 0, 1) := by decide +kernel
theorem dX6_bandDay_81 : decode cX6_bandDay 81 = .ok (.getfield 32, 3) := by decide +kernel
theorem dX6_bandDay_84 : decode cX6_bandDay 84 = .ok (.bipush 6, 2) := by decide +kernel
theorem dX6_bandDay_86 : decode cX6_bandDay 86 = .ok (.iload_n 3, 1) := by decide +kernel
theorem dX6_bandDay_87 : decode cX6_bandDay 87 = .ok (.imul, 1) := by decide +kernel
theorem dX6_bandDay_88 : decode cX6_bandDay 88 = .ok (.iload_n 1, 1) := by decide +kernel
theorem dX6_bandDay_89 : decode cX6_bandDay 89 = .ok (.iadd, 1) := by decide +kernel
theorem dX6_bandDay_90 : decode cX6_bandDay 90 = .ok (.dup2, 1) := by decide +kernel
theorem dX6_bandDay_91 : decode cX6_bandDay 91 = .ok (.iaload, 1) := by decide +kernel
theorem dX6_bandDay_92 : decode cX6_bandDay 92 = .ok (.iconst 1, 1) := by decide +kernel
theorem dX6_bandDay_93 : decode cX6_bandDay 93 = .ok (.iload 4, 2) := by decide +kernel
theorem dX6_bandDay_95 : decode cX6_bandDay 95 = .ok (.ishl, 1) := by decide +kernel
theorem dX6_bandDay_96 : decode cX6_bandDay 96 = .ok (.ior, 1) := by decide +kernel
theorem dX6_bandDay_97 : decode cX6_bandDay 97 = .ok (.iastore, 1) := by decide +kernel
theorem dX6_bandDay_98 : decode cX6_bandDay 98 = .ok (.aload_n 0, 1) := by decide +kernel
theorem dX6_bandDay_99 : decode cX6_bandDay 99 = .ok (.getfield 32, 3) := by decide +kernel
theorem dX6_bandDay_102 : decode cX6_bandDay 102 = .ok (.bipush 6, 2) := by decide +kernel
theorem dX6_bandDay_104 : decode cX6_bandDay 104 = .ok (.iload_n 1, 1) := by decide +kernel
theorem dX6_bandDay_105 : decode cX6_bandDay 105 = .ok (.imul, 1) := by decide +kernel
theorem dX6_bandDay_106 : decode cX6_bandDay 106 = .ok (.iload_n 3, 1) := by decide +kernel
theorem dX6_bandDay_107 : decode cX6_bandDay 107 = .ok (.iadd, 1) := by decide +kernel
theorem dX6_bandDay_108 : decode cX6_bandDay 108 = .ok (.dup2, 1) := by decide +kernel
theorem dX6_bandDay_109 : decode cX6_bandDay 109 = .ok (.iaload, 1) := by decide +kernel
theorem dX6_bandDay_110 : decode cX6_bandDay 110 = .ok (.iconst 1, 1) := by decide +kernel
theorem dX6_bandDay_111 : decode cX6_bandDay 111 = .ok (.iload 5, 2) := by decide +kernel
theorem dX6_bandDay_113 : decode cX6_bandDay 113 = .ok (.ishl, 1) := by decide +kernel
theorem dX6_bandDay_114 : decode cX6_bandDay 114 = .ok (.ior, 1) := by decide +kernel
theorem dX6_bandDay_115 : decode cX6_bandDay 115 = .ok (.iastore, 1) := by decide +kernel
theorem dX6_bandDay_116 : decode cX6_bandDay 116 = .ok (.return_, 1) := by decide +kernel
theorem dX6_hunt_0 : decode cX6_hunt 0 = .ok (.iload_n 1, 1) := by decide +kernel
theorem dX6_hunt_1 : decode cX6_hunt 1 = .ok (.i2l, 1) := by decide +kernel
theorem dX6_hunt_2 : decode cX6_hunt 2 = .ok (.lconst 1, 1) := by decide +kernel
theorem dX6_hunt_3 : decode cX6_hunt 3 = .ok (.ldc2_w 375, 3) := by decide +kernel
theorem dX6_hunt_6 : decode cX6_hunt 6 = .ok (.invokestatic 114, 3) := by decide +kernel
theorem dX6_hunt_9 : decode cX6_hunt 9 = .ok (.ifCond .ne 6, 3) := by decide +kernel
theorem dX6_hunt_12 : decode cX6_hunt 12 = .ok (.ldc 125, 2) := by decide +kernel
theorem dX6_hunt_14 : decode cX6_hunt 14 = .ok (.ireturn, 1) := by decide +kernel
theorem dX6_hunt_15 : decode cX6_hunt 15 = .ok (.aload_n 0, 1) := by decide +kernel
theorem dX6_hunt_16 : decode cX6_hunt 16 = .ok (.getfield 44, 3) := by decide +kernel
theorem dX6_hunt_19 : decode cX6_hunt 19 = .ok (.ifCond .ge 10, 3) := by decide +kernel
theorem dX6_hunt_22 : decode cX6_hunt 22 = .ok (.aload_n 0, 1) := by decide +kernel
theorem dX6_hunt_23 : decode cX6_hunt 23 = .ok (.getfield 111, 3) := by decide +kernel
theorem dX6_hunt_26 : decode cX6_hunt 26 = .ok (.ifCond .ne 7, 3) := by decide +kernel
theorem dX6_hunt_29 : decode cX6_hunt 29 = .ok (.ldc_w 317, 3) := by decide +kernel
theorem dX6_hunt_32 : decode cX6_hunt 32 = .ok (.ireturn, 1) := by decide +kernel
theorem dX6_hunt_33 : decode cX6_hunt 33 = .ok (.iconst 0, 1) := by decide +kernel
theorem dX6_hunt_34 : decode cX6_hunt 34 = .ok (.istore_n 2, 1) := by decide +kernel
theorem dX6_hunt_35 : decode cX6_hunt 35 = .ok (.iload_n 2, 1) := by decide +kernel
theorem dX6_hunt_36 : decode cX6_hunt 36 = .ok (.iload_n 1, 1) := by decide +kernel
theorem dX6_hunt_37 : decode cX6_hunt 37 = .ok (.if_icmp .ge 35, 3) := by decide +kernel
theorem dX6_hunt_40 : decode cX6_hunt 40 = .ok (.iconst 0, 1) := by decide +kernel
theorem dX6_hunt_41 : decode cX6_hunt 41 = .ok (.istore_n 3, 1) := by decide +kernel
theorem dX6_hunt_42 : decode cX6_hunt 42 = .ok (.iload_n 3, 1) := by decide +kernel
theorem dX6_hunt_43 : decode cX6_hunt 43 = .ok (.bipush 6, 2) := by decide +kernel
theorem dX6_hunt_45 : decode cX6_hunt 45 = .ok (.if_icmp .ge 21, 3) := by decide +kernel
theorem dX6_hunt_48 : decode cX6_hunt 48 = .ok (.aload_n 0, 1) := by decide +kernel
theorem dX6_hunt_49 : decode cX6_hunt 49 = .ok (.getfield 44, 3) := by decide +kernel
theorem dX6_hunt_52 : decode cX6_hunt 52 = .ok (.ifCond .ge 14, 3) := by decide +kernel
theorem dX6_hunt_55 : decode cX6_hunt 55 = .ok (.aload_n 0, 1) := by decide +kernel
theorem dX6_hunt_56 : decode cX6_hunt 56 = .ok (.iload_n 3, 1) := by decide +kernel
theorem dX6_hunt_57 : decode cX6_hunt 57 = .ok (.invokevirtual 377, 3) := by decide +kernel
theorem dX6_hunt_60 : decode cX6_hunt 60 = .ok (.iinc 3 1, 3) := by decide +kernel
theorem dX6_hunt_63 : decode cX6_hunt 63 = .ok (.goto (-21), 3) := by decide +kernel
theorem dX6_hunt_66 : decode cX6_hunt 66 = .ok (.iinc 2 1, 3) := by decide +kernel
theorem dX6_hunt_69 : decode cX6_hunt 69 = .ok (.goto (-34), 3) := by decide +kernel
theorem dX6_hunt_72 : decode cX6_hunt 72 = .ok (.aload_n 0, 1) := by decide +kernel
theorem dX6_hunt_73 : decode cX6_hunt 73 = .ok (.getfield 44, 3) := by decide +kernel
theorem dX6_hunt_76 : decode cX6_hunt 76 = .ok (.ireturn, 1) := by decide +kernel
theorem dX6_seed_0 : decode cX6_seed 0 = .ok (.iload_n 1, 1) := by decide +kernel
theorem dX6_seed_1 : decode cX6_seed 1 = .ok (.ifCond .ge 6, 3) := by decide +kernel
theorem dX6_seed_4 : decode cX6_seed 4 = .ok (.ldc 125, 2) := by decide +kernel
theorem dX6_seed_6 : decode cX6_seed 6 = .ok (.ireturn, 1) := by decide +kernel
theorem dX6_seed_7 : decode cX6_seed 7 = .ok (.aload_n 0, 1) := by decide +kernel
theorem dX6_seed_8 : decode cX6_seed 8 = .ok (.getfield 362, 3) := by decide +kernel
theorem dX6_seed_11 : decode cX6_seed 11 = .ok (.istore_n 2, 1) := by decide +kernel
theorem dX6_seed_12 : decode cX6_seed 12 = .ok (.aload_n 0, 1) := by decide +kernel
theorem dX6_seed_13 : decode cX6_seed 13 = .ok (.iload_n 1, 1) := by decide +kernel
theorem dX6_seed_14 : decode cX6_seed 14 = .ok (.putfield 362, 3) := by decide +kernel
theorem dX6_seed_17 : decode cX6_seed 17 = .ok (.iload_n 2, 1) := by decide +kernel
theorem dX6_seed_18 : decode cX6_seed 18 = .ok (.ireturn, 1) := by decide +kernel
theorem dX6_keep_0 : decode cX6_keep 0 = .ok (.iload_n 1, 1) := by decide +kernel
theorem dX6_keep_1 : decode cX6_keep 1 = .ok (.i2l, 1) := by decide +kernel
theorem dX6_keep_2 : decode cX6_keep 2 = .ok (.lconst 0, 1) := by decide +kernel
theorem dX6_keep_3 : decode cX6_keep 3 = .ok (.lconst 1, 1) := by decide +kernel
theorem dX6_keep_4 : decode cX6_keep 4 = .ok (.invokestatic 114, 3) := by decide +kernel
theorem dX6_keep_7 : decode cX6_keep 7 = .ok (.ifCond .ne 7, 3) := by decide +kernel
theorem dX6_keep_10 : decode cX6_keep 10 = .ok (.ldc_w 266, 3) := by decide +kernel
theorem dX6_keep_13 : decode cX6_keep 13 = .ok (.ireturn, 1) := by decide +kernel
theorem dX6_keep_14 : decode cX6_keep 14 = .ok (.bipush 100, 2) := by decide +kernel
theorem dX6_keep_16 : decode cX6_keep 16 = .ok (.iload_n 1, 1) := by decide +kernel
theorem dX6_keep_17 : decode cX6_keep 17 = .ok (.imul, 1) := by decide +kernel
theorem dX6_keep_18 : decode cX6_keep 18 = .ok (.istore_n 2, 1) := by decide +kernel
theorem dX6_keep_19 : decode cX6_keep 19 = .ok (.iconst 0, 1) := by decide +kernel
theorem dX6_keep_20 : decode cX6_keep 20 = .ok (.istore_n 3, 1) := by decide +kernel
theorem dX6_keep_21 : decode cX6_keep 21 = .ok (.iload_n 3, 1) := by decide +kernel
theorem dX6_keep_22 : decode cX6_keep 22 = .ok (.bipush 36, 2) := by decide +kernel
theorem dX6_keep_24 : decode cX6_keep 24 = .ok (.if_icmp .ge 23, 3) := by decide +kernel
theorem dX6_keep_27 : decode cX6_keep 27 = .ok (.aload_n 0, 1) := by decide +kernel
theorem dX6_keep_28 : decode cX6_keep 28 = .ok (.getfield 102, 3) := by decide +kernel
theorem dX6_keep_31 : decode cX6_keep 31 = .ok (.iload_n 2, 1) := by decide +kernel
theorem dX6_keep_32 : decode cX6_keep 32 = .ok (.iload_n 3, 1) := by decide +kernel
theorem dX6_keep_33 : decode cX6_keep 33 = .ok (.iadd, 1) := by decide +kernel
theorem dX6_keep_34 : decode cX6_keep 34 = .ok (.aload_n 0, 1) := by decide +kernel
theorem dX6_keep_35 : decode cX6_keep 35 = .ok (.getfield 32, 3) := by decide +kernel
theorem dX6_keep_38 : decode cX6_keep 38 = .ok (.iload_n 3, 1) := by decide +kernel
theorem dX6_keep_39 : decode cX6_keep 39 = .ok (.iaload, 1) := by decide +kernel
theorem dX6_keep_40 : decode cX6_keep 40 = .ok (.iastore, 1) := by decide +kernel
theorem dX6_keep_41 : decode cX6_keep 41 = .ok (.iinc 3 1, 3) := by decide +kernel
theorem dX6_keep_44 : decode cX6_keep 44 = .ok (.goto (-23), 3) := by decide +kernel
theorem dX6_keep_47 : decode cX6_keep 47 = .ok (.iconst 0, 1) := by decide +kernel
theorem dX6_keep_48 : decode cX6_keep 48 = .ok (.istore_n 3, 1) := by decide +kernel
theorem dX6_keep_49 : decode cX6_keep 49 = .ok (.iload_n 3, 1) := by decide +kernel
theorem dX6_keep_50 : decode cX6_keep 50 = .ok (.bipush 6, 2) := by decide +kernel
theorem dX6_keep_52 : decode cX6_keep 52 = .ok (.if_icmp .ge 26, 3) := by decide +kernel
theorem dX6_keep_55 : decode cX6_keep 55 = .ok (.aload_n 0, 1) := by decide +kernel
theorem dX6_keep_56 : decode cX6_keep 56 = .ok (.getfield 102, 3) := by decide +kernel
theorem dX6_keep_59 : decode cX6_keep 59 = .ok (.iload_n 2, 1) := by decide +kernel
theorem dX6_keep_60 : decode cX6_keep 60 = .ok (.bipush 36, 2) := by decide +kernel
theorem dX6_keep_62 : decode cX6_keep 62 = .ok (.iadd, 1) := by decide +kernel
theorem dX6_keep_63 : decode cX6_keep 63 = .ok (.iload_n 3, 1) := by decide +kernel
theorem dX6_keep_64 : decode cX6_keep 64 = .ok (.iadd, 1) := by decide +kernel
theorem dX6_keep_65 : decode cX6_keep 65 = .ok (.aload_n 0, 1) := by decide +kernel
theorem dX6_keep_66 : decode cX6_keep 66 = .ok (.getfield 35, 3) := by decide +kernel
theorem dX6_keep_69 : decode cX6_keep 69 = .ok (.iload_n 3, 1) := by decide +kernel
theorem dX6_keep_70 : decode cX6_keep 70 = .ok (.iaload, 1) := by decide +kernel
theorem dX6_keep_71 : decode cX6_keep 71 = .ok (.iastore, 1) := by decide +kernel
theorem dX6_keep_72 : decode cX6_keep 72 = .ok (.iinc 3 1, 3) := by decide +kernel
theorem dX6_keep_75 : decode cX6_keep 75 = .ok (.goto (-26), 3) := by decide +kernel
theorem dX6_keep_78 : decode cX6_keep 78 = .ok (.iconst 0, 1) := by decide +kernel
theorem dX6_keep_79 : decode cX6_keep 79 = .ok (.istore_n 3, 1) := by decide +kernel
theorem dX6_keep_80 : decode cX6_keep 80 = .ok (.iload_n 3, 1) := by decide +kernel
theorem dX6_keep_81 : decode cX6_keep 81 = .ok (.bipush 20, 2) := by decide +kernel
theorem dX6_keep_83 : decode cX6_keep 83 = .ok (.if_icmp .ge 43, 3) := by decide +kernel
theorem dX6_keep_86 : decode cX6_keep 86 = .ok (.aload_n 0, 1) := by decide +kernel
theorem dX6_keep_87 : decode cX6_keep 87 = .ok (.getfield 102, 3) := by decide +kernel
theorem dX6_keep_90 : decode cX6_keep 90 = .ok (.iload_n 2, 1) := by decide +kernel
theorem dX6_keep_91 : decode cX6_keep 91 = .ok (.bipush 42, 2) := by decide +kernel
theorem dX6_keep_93 : decode cX6_keep 93 = .ok (.iadd, 1) := by decide +kernel
theorem dX6_keep_94 : decode cX6_keep 94 = .ok (.iload_n 3, 1) := by decide +kernel
theorem dX6_keep_95 : decode cX6_keep 95 = .ok (.iadd, 1) := by decide +kernel
theorem dX6_keep_96 : decode cX6_keep 96 = .ok (.aload_n 0, 1) := by decide +kernel
theorem dX6_keep_97 : decode cX6_keep 97 = .ok (.getfield 38, 3) := by decide +kernel
theorem dX6_keep_100 : decode cX6_keep 100 = .ok (.iload_n 3, 1) := by decide +kernel
theorem dX6_keep_101 : decode cX6_keep 101 = .ok (.iaload, 1) := by decide +kernel
theorem dX6_keep_102 : decode cX6_keep 102 = .ok (.iastore, 1) := by decide +kernel
theorem dX6_keep_103 : decode cX6_keep 103 = .ok (.aload_n 0, 1) := by decide +kernel
theorem dX6_keep_104 : decode cX6_keep 104 = .ok (.getfield 102, 3) := by decide +kernel
theorem dX6_keep_107 : decode cX6_keep 107 = .ok (.iload_n 2, 1) := by decide +kernel
theorem dX6_keep_108 : decode cX6_keep 108 = .ok (.bipush 62, 2) := by decide +kernel
theorem dX6_keep_110 : decode cX6_keep 110 = .ok (.iadd, 1) := by decide +kernel
theorem dX6_keep_111 : decode cX6_keep 111 = .ok (.iload_n 3, 1) := by decide +kernel
theorem dX6_keep_112 : decode cX6_keep 112 = .ok (.iadd, 1) := by decide +kernel
theorem dX6_keep_113 : decode cX6_keep 113 = .ok (.aload_n 0, 1) := by decide +kernel
theorem dX6_keep_114 : decode cX6_keep 114 = .ok (.getfield 41, 3) := by decide +kernel
theorem dX6_keep_117 : decode cX6_keep 117 = .ok (.iload_n 3, 1) := by decide +kernel
theorem dX6_keep_118 : decode cX6_keep 118 = .ok (.iaload, 1) := by decide +kernel
theorem dX6_keep_119 : decode cX6_keep 119 = .ok (.iastore, 1) := by decide +kernel
theorem dX6_keep_120 : decode cX6_keep 120 = .ok (.iinc 3 1, 3) := by decide +kernel
theorem dX6_keep_123 : decode cX6_keep 123 = .ok (.goto (-43), 3) := by decide +kernel
theorem dX6_keep_126 : decode cX6_keep 126 = .ok (.aload_n 0, 1) := by decide +kernel
theorem dX6_keep_127 : decode cX6_keep 127 = .ok (.getfield 102, 3) := by decide +kernel
theorem dX6_keep_130 : decode cX6_keep 130 = .ok (.iload_n 2, 1) := by decide +kernel
theorem dX6_keep_131 : decode cX6_keep 131 = .ok (.bipush 82, 2) := by decide +kernel
theorem dX6_keep_133 : decode cX6_keep 133 = .ok (.iadd, 1) := by decide +kernel
theorem dX6_keep_134 : decode cX6_keep 134 = .ok (.aload_n 0, 1) := by decide +kernel
theorem dX6_keep_135 : decode cX6_keep 135 = .ok (.getfield 120, 3) := by decide +kernel
theorem dX6_keep_138 : decode cX6_keep 138 = .ok (.iastore, 1) := by decide +kernel
theorem dX6_keep_139 : decode cX6_keep 139 = .ok (.aload_n 0, 1) := by decide +kernel
theorem dX6_keep_140 : decode cX6_keep 140 = .ok (.getfield 102, 3) := by decide +kernel
theorem dX6_keep_143 : decode cX6_keep 143 = .ok (.iload_n 2, 1) := by decide +kernel
theorem dX6_keep_144 : decode cX6_keep 144 = .ok (.bipush 83, 2) := by decide +kernel
theorem dX6_keep_146 : decode cX6_keep 146 = .ok (.iadd, 1) := by decide +kernel
theorem dX6_keep_147 : decode cX6_keep 147 = .ok (.aload_n 0, 1) := by decide +kernel
theorem dX6_keep_148 : decode cX6_keep 148 = .ok (.getfield 44, 3) := by decide +kernel
theorem dX6_keep_151 : decode cX6_keep 151 = .ok (.iastore, 1) := by decide +kernel
theorem dX6_keep_152 : decode cX6_keep 152 = .ok (.aload_n 0, 1) := by decide +kernel
theorem dX6_keep_153 : decode cX6_keep 153 = .ok (.getfield 102, 3) := by decide +kernel
theorem dX6_keep_156 : decode cX6_keep 156 = .ok (.iload_n 2, 1) := by decide +kernel
theorem dX6_keep_157 : decode cX6_keep 157 = .ok (.bipush 84, 2) := by decide +kernel
theorem dX6_keep_159 : decode cX6_keep 159 = .ok (.iadd, 1) := by decide +kernel
theorem dX6_keep_160 : decode cX6_keep 160 = .ok (.aload_n 0, 1) := by decide +kernel
theorem dX6_keep_161 : decode cX6_keep 161 = .ok (.getfield 362, 3) := by decide +kernel
theorem dX6_keep_164 : decode cX6_keep 164 = .ok (.iastore, 1) := by decide +kernel
theorem dX6_keep_165 : decode cX6_keep 165 = .ok (.aload_n 0, 1) := by decide +kernel
theorem dX6_keep_166 : decode cX6_keep 166 = .ok (.getfield 105, 3) := by decide +kernel
theorem dX6_keep_169 : decode cX6_keep 169 = .ok (.iload_n 1, 1) := by decide +kernel
theorem dX6_keep_170 : decode cX6_keep 170 = .ok (.iconst 1, 1) := by decide +kernel
theorem dX6_keep_171 : decode cX6_keep 171 = .ok (.bastore, 1) := by decide +kernel
theorem dX6_keep_172 : decode cX6_keep 172 = .ok (.iconst 1, 1) := by decide +kernel
theorem dX6_keep_173 : decode cX6_keep 173 = .ok (.ireturn, 1) := by decide +kernel
theorem dX6_goBack_0 : decode cX6_goBack 0 = .ok (.iload_n 1, 1) := by decide +kernel
theorem dX6_goBack_1 : decode cX6_goBack 1 = .ok (.i2l, 1) := by decide +kernel
theorem dX6_goBack_2 : decode cX6_goBack 2 = .ok (.lconst 0, 1) := by decide +kernel
theorem dX6_goBack_3 : decode cX6_goBack 3 = .ok (.lconst 1, 1) := by decide +kernel
theorem dX6_goBack_4 : decode cX6_goBack 4 = .ok (.invokestatic 114, 3) := by decide +kernel
theorem dX6_goBack_7 : decode cX6_goBack 7 = .ok (.ifCond .ne 7, 3) := by decide +kernel
theorem dX6_goBack_10 : decode cX6_goBack 10 = .ok (.ldc_w 266, 3) := by decide +kernel
theorem dX6_goBack_13 : decode cX6_goBack 13 = .ok (.ireturn, 1) := by decide +kernel
theorem dX6_goBack_14 : decode cX6_goBack 14 = .ok (.aload_n 0, 1) := by decide +kernel
theorem dX6_goBack_15 : decode cX6_goBack 15 = .ok (.getfield 105, 3) := by decide +kernel
theorem dX6_goBack_18 : decode cX6_goBack 18 = .ok (.iload_n 1, 1) := by decide +kernel
theorem dX6_goBack_19 : decode cX6_goBack 19 = .ok (.baload, 1) := by decide +kernel
theorem dX6_goBack_20 : decode cX6_goBack 20 = .ok (.ifCond .ne 7, 3) := by decide +kernel
theorem dX6_goBack_23 : decode cX6_goBack 23 = .ok (.ldc_w 317, 3) := by decide +kernel
theorem dX6_goBack_26 : decode cX6_goBack 26 = .ok (.ireturn, 1) := by decide +kernel
theorem dX6_goBack_27 : decode cX6_goBack 27 = .ok (.bipush 100, 2) := by decide +kernel
theorem dX6_goBack_29 : decode cX6_goBack 29 = .ok (.iload_n 1, 1) := by decide +kernel
theorem dX6_goBack_30 : decode cX6_goBack 30 = .ok (.imul, 1) := by decide +kernel
theorem dX6_goBack_31 : decode cX6_goBack 31 = .ok (.istore_n 2, 1) := by decide +kernel
theorem dX6_goBack_32 : decode cX6_goBack 32 = .ok (.iconst 0, 1) := by decide +kernel
theorem dX6_goBack_33 : decode cX6_goBack 33 = .ok (.istore_n 3, 1) := by decide +kernel
theorem dX6_goBack_34 : decode cX6_goBack 34 = .ok (.iload_n 3, 1) := by decide +kernel
theorem dX6_goBack_35 : decode cX6_goBack 35 = .ok (.bipush 36, 2) := by decide +kernel
theorem dX6_goBack_37 : decode cX6_goBack 37 = .ok (.if_icmp .ge 23, 3) := by decide +kernel
theorem dX6_goBack_40 : decode cX6_goBack 40 = .ok (.aload_n 0, 1) := by decide +kernel
theorem dX6_goBack_41 : decode cX6_goBack 41 = .ok (.getfield 32, 3) := by decide +kernel
theorem dX6_goBack_44 : decode cX6_goBack 44 = .ok (.iload_n 3, 1) := by decide +kernel
theorem dX6_goBack_45 : decode cX6_goBack 45 = .ok (.aload_n 0, 1) := by decide +kernel
theorem dX6_goBack_46 : decode cX6_goBack 46 = .ok (.getfield 102, 3) := by decide +kernel
theorem dX6_goBack_49 : decode cX6_goBack 49 = .ok (.iload_n 2, 1) := by decide +kernel
theorem dX6_goBack_50 : decode cX6_goBack 50 = .ok (.iload_n 3, 1) := by decide +kernel
theorem dX6_goBack_51 : decode cX6_goBack 51 = .ok (.iadd, 1) := by decide +kernel
theorem dX6_goBack_52 : decode cX6_goBack 52 = .ok (.iaload, 1) := by decide +kernel
theorem dX6_goBack_53 : decode cX6_goBack 53 = .ok (.iastore, 1) := by decide +kernel
theorem dX6_goBack_54 : decode cX6_goBack 54 = .ok (.iinc 3 1, 3) := by decide +kernel
theorem dX6_goBack_57 : decode cX6_goBack 57 = .ok (.goto (-23), 3) := by decide +kernel
theorem dX6_goBack_60 : decode cX6_goBack 60 = .ok (.iconst 0, 1) := by decide +kernel
theorem dX6_goBack_61 : decode cX6_goBack 61 = .ok (.istore_n 3, 1) := by decide +kernel
theorem dX6_goBack_62 : decode cX6_goBack 62 = .ok (.iload_n 3, 1) := by decide +kernel
theorem dX6_goBack_63 : decode cX6_goBack 63 = .ok (.bipush 6, 2) := by decide +kernel
theorem dX6_goBack_65 : decode cX6_goBack 65 = .ok (.if_icmp .ge 26, 3) := by decide +kernel
theorem dX6_goBack_68 : decode cX6_goBack 68 = .ok (.aload_n 0, 1) := by decide +kernel
theorem dX6_goBack_69 : decode cX6_goBack 69 = .ok (.getfield 35, 3) := by decide +kernel
theorem dX6_goBack_72 : decode cX6_goBack 72 = .ok (.iload_n 3, 1) := by decide +kernel
theorem dX6_goBack_73 : decode cX6_goBack 73 = .ok (.aload_n 0, 1) := by decide +kernel
theorem dX6_goBack_74 : decode cX6_goBack 74 = .ok (.getfield 102, 3) := by decide +kernel
theorem dX6_goBack_77 : decode cX6_goBack 77 = .ok (.iload_n 2, 1) := by decide +kernel
theorem dX6_goBack_78 : decode cX6_goBack 78 = .ok (.bipush 36, 2) := by decide +kernel
theorem dX6_goBack_80 : decode cX6_goBack 80 = .ok (.iadd, 1) := by decide +kernel
theorem dX6_goBack_81 : decode cX6_goBack 81 = .ok (.iload_n 3, 1) := by decide +kernel
theorem dX6_goBack_82 : decode cX6_goBack 82 = .ok (.iadd, 1) := by decide +kernel
theorem dX6_goBack_83 : decode cX6_goBack 83 = .ok (.iaload, 1) := by decide +kernel
theorem dX6_goBack_84 : decode cX6_goBack 84 = .ok (.iastore, 1) := by decide +kernel
theorem dX6_goBack_85 : decode cX6_goBack 85 = .ok (.iinc 3 1, 3) := by decide +kernel
theorem dX6_goBack_88 : decode cX6_goBack 88 = .ok (.goto (-26), 3) := by decide +kernel
theorem dX6_goBack_91 : decode cX6_goBack 91 = .ok (.iconst 0, 1) := by decide +kernel
theorem dX6_goBack_92 : decode cX6_goBack 92 = .ok (.istore_n 3, 1) := by decide +kernel
theorem dX6_goBack_93 : decode cX6_goBack 93 = .ok (.iload_n 3, 1) := by decide +kernel
theorem dX6_goBack_94 : decode cX6_goBack 94 = .ok (.bipush 20, 2) := by decide +kernel
theorem dX6_goBack_96 : decode cX6_goBack 96 = .ok (.if_icmp .ge 43, 3) := by decide +kernel
theorem dX6_goBack_99 : decode cX6_goBack 99 = .ok (.aload_n 0, 1) := by decide +kernel
theorem dX6_goBack_100 : decode cX6_goBack 100 = .ok (.getfield 38, 3) := by decide +kernel
theorem dX6_goBack_103 : decode cX6_goBack 103 = .ok (.iload_n 3, 1) := by decide +kernel
theorem dX6_goBack_104 : decode cX6_goBack 104 = .ok (.aload_n 0, 1) := by decide +kernel
theorem dX6_goBack_105 : decode cX6_goBack 105 = .ok (.getfield 102, 3) := by decide +kernel
theorem dX6_goBack_108 : decode cX6_goBack 108 = .ok (.iload_n 2, 1) := by decide +kernel
theorem dX6_goBack_109 : decode cX6_goBack 109 = .ok (.bipush 42, 2) := by decide +kernel
theorem dX6_goBack_111 : decode cX6_goBack 111 = .ok (.iadd, 1) := by decide +kernel
theorem dX6_goBack_112 : decode cX6_goBack 112 = .ok (.iload_n 3, 1) := by decide +kernel
theorem dX6_goBack_113 : decode cX6_goBack 113 = .ok (.iadd, 1) := by decide +kernel
theorem dX6_goBack_114 : decode cX6_goBack 114 = .ok (.iaload, 1) := by decide +kernel
theorem dX6_goBack_115 : decode cX6_goBack 115 = .ok (.iastore, 1) := by decide +kernel
theorem dX6_goBack_116 : decode cX6_goBack 116 = .ok (.aload_n 0, 1) := by decide +kernel
theorem dX6_goBack_117 : decode cX6_goBack 117 = .ok (.getfield 41, 3) := by decide +kernel
theorem dX6_goBack_120 : decode cX6_goBack 120 = .ok (.iload_n 3, 1) := by decide +kernel
theorem dX6_goBack_121 : decode cX6_goBack 121 = .ok (.aload_n 0, 1) := by decide +kernel
theorem dX6_goBack_122 : decode cX6_goBack 122 = .ok (.getfield 102, 3) := by decide +kernel
theorem dX6_goBack_125 : decode cX6_goBack 125 = .ok (.iload_n 2, 1) := by decide +kernel
theorem dX6_goBack_126 : decode cX6_goBack 126 = .ok (.bipush 62, 2) := by decide +kernel
theorem dX6_goBack_128 : decode cX6_goBack 128 = .ok (.iadd, 1) := by decide +kernel
theorem dX6_goBack_129 : decode cX6_goBack 129 = .ok (.iload_n 3, 1) := by decide +kernel
theorem dX6_goBack_130 : decode cX6_goBack 130 = .ok (.iadd, 1) := by decide +kernel
theorem dX6_goBack_131 : decode cX6_goBack 131 = .ok (.iaload, 1) := by decide +kernel
theorem dX6_goBack_132 : decode cX6_goBack 132 = .ok (.iastore, 1) := by decide +kernel
theorem dX6_goBack_133 : decode cX6_goBack 133 = .ok (.iinc 3 1, 3) := by decide +kernel
theorem dX6_goBack_136 : decode cX6_goBack 136 = .ok (.goto (-43), 3) := by decide +kernel
theorem dX6_goBack_139 : decode cX6_goBack 139 = .ok (.aload_n 0, 1) := by decide +kernel
theorem dX6_goBack_140 : decode cX6_goBack 140 = .ok (.aload_n 0, 1) := by decide +kernel
theorem dX6_goBack_141 : decode cX6_goBack 141 = .ok (.getfield 102, 3) := by decide +kernel
theorem dX6_goBack_144 : decode cX6_goBack 144 = .ok (.iload_n 2, 1) := by decide +kernel
theorem dX6_goBack_145 : decode cX6_goBack 145 = .ok (.bipush 82, 2) := by decide +kernel
theorem dX6_goBack_147 : decode cX6_goBack 147 = .ok (.iadd, 1) := by decide +kernel
theorem dX6_goBack_148 : decode cX6_goBack 148 = .ok (.iaload, 1) := by decide +kernel
theorem dX6_goBack_149 : decode cX6_goBack 149 = .ok (.putfield 120, 3) := by decide +kernel
theorem dX6_goBack_152 : decode cX6_goBack 152 = .ok (.aload_n 0, 1) := by decide +kernel
theorem dX6_goBack_153 : decode cX6_goBack 153 = .ok (.aload_n 0, 1) := by decide +kernel
theorem dX6_goBack_154 : decode cX6_goBack 154 = .ok (.getfield 102, 3) := by decide +kernel
theorem dX6_goBack_157 : decode cX6_goBack 157 = .ok (.iload_n 2, 1) := by decide +kernel
theorem dX6_goBack_158 : decode cX6_goBack 158 = .ok (.bipush 83, 2) := by decide +kernel
theorem dX6_goBack_160 : decode cX6_goBack 160 = .ok (.iadd, 1) := by decide +kernel
theorem dX6_goBack_161 : decode cX6_goBack 161 = .ok (.iaload, 1) := by decide +kernel
theorem dX6_goBack_162 : decode cX6_goBack 162 = .ok (.putfield 44, 3) := by decide +kernel
theorem dX6_goBack_165 : decode cX6_goBack 165 = .ok (.aload_n 0, 1) := by decide +kernel
theorem dX6_goBack_166 : decode cX6_goBack 166 = .ok (.aload_n 0, 1) := by decide +kernel
theorem dX6_goBack_167 : decode cX6_goBack 167 = .ok (.getfield 102, 3) := by decide +kernel
theorem dX6_goBack_170 : decode cX6_goBack 170 = .ok (.iload_n 2, 1) := by decide +kernel
theorem dX6_goBack_171 : decode cX6_goBack 171 = .ok (.bipush 84, 2) := by decide +kernel
theorem dX6_goBack_173 : decode cX6_goBack 173 = .ok (.iadd, 1) := by decide +kernel
theorem dX6_goBack_174 : decode cX6_goBack 174 = .ok (.iaload, 1) := by decide +kernel
theorem dX6_goBack_175 : decode cX6_goBack 175 = .ok (.putfield 362, 3) := by decide +kernel
theorem dX6_goBack_178 : decode cX6_goBack 178 = .ok (.iconst 1, 1) := by decide +kernel
theorem dX6_goBack_179 : decode cX6_goBack 179 = .ok (.ireturn, 1) := by decide +kernel
theorem dJ6_bitCount_0f7a4_0 : decode cJ6_bitCount_0f7a4 0 = .ok (.iload_n 0, 1) := by decide +kernel
theorem dJ6_bitCount_0f7a4_1 : decode cJ6_bitCount_0f7a4 1 = .ok (.iload_n 0, 1) := by decide +kernel
theorem dJ6_bitCount_0f7a4_2 : decode cJ6_bitCount_0f7a4 2 = .ok (.iconst 1, 1) := by decide +kernel
theorem dJ6_bitCount_0f7a4_3 : decode cJ6_bitCount_0f7a4 3 = .ok (.iushr, 1) := by decide +kernel
theorem dJ6_bitCount_0f7a4_4 : decode cJ6_bitCount_0f7a4 4 = .ok (.ldc_w 265, 3) := by decide +kernel
theorem dJ6_bitCount_0f7a4_7 : decode cJ6_bitCount_0f7a4 7 = .ok (.iand, 1) := by decide +kernel
theorem dJ6_bitCount_0f7a4_8 : decode cJ6_bitCount_0f7a4 8 = .ok (.isub, 1) := by decide +kernel
theorem dJ6_bitCount_0f7a4_9 : decode cJ6_bitCount_0f7a4 9 = .ok (.istore_n 0, 1) := by decide +kernel
theorem dJ6_bitCount_0f7a4_10 : decode cJ6_bitCount_0f7a4 10 = .ok (.iload_n 0, 1) := by decide +kernel
theorem dJ6_bitCount_0f7a4_11 : decode cJ6_bitCount_0f7a4 11 = .ok (.ldc_w 266, 3) := by decide +kernel
theorem dJ6_bitCount_0f7a4_14 : decode cJ6_bitCount_0f7a4 14 = .ok (.iand, 1) := by decide +kernel
theorem dJ6_bitCount_0f7a4_15 : decode cJ6_bitCount_0f7a4 15 = .ok (.iload_n 0, 1) := by decide +kernel
theorem dJ6_bitCount_0f7a4_16 : decode cJ6_bitCount_0f7a4 16 = .ok (.iconst 2, 1) := by decide +kernel
theorem dJ6_bitCount_0f7a4_17 : decode cJ6_bitCount_0f7a4 17 = .ok (.iushr, 1) := by decide +kernel
theorem dJ6_bitCount_0f7a4_18 : decode cJ6_bitCount_0f7a4 18 = .ok (.ldc_w 266, 3) := by decide +kernel
theorem dJ6_bitCount_0f7a4_21 : decode cJ6_bitCount_0f7a4 21 = .ok (.iand, 1) := by decide +kernel
theorem dJ6_bitCount_0f7a4_22 : decode cJ6_bitCount_0f7a4 22 = .ok (.iadd, 1) := by decide +kernel
theorem dJ6_bitCount_0f7a4_23 : decode cJ6_bitCount_0f7a4 23 = .ok (.istore_n 0, 1) := by decide +kernel
theorem dJ6_bitCount_0f7a4_24 : decode cJ6_bitCount_0f7a4 24 = .ok (.iload_n 0, 1) := by decide +kernel
theorem dJ6_bitCount_0f7a4_25 : decode cJ6_bitCount_0f7a4 25 = .ok (.iload_n 0, 1) := by decide +kernel
theorem dJ6_bitCount_0f7a4_26 : decode cJ6_bitCount_0f7a4 26 = .ok (.iconst 4, 1) := by decide +kernel
theorem dJ6_bitCount_0f7a4_27 : decode cJ6_bitCount_0f7a4 27 = .ok (.iushr, 1) := by decide +kernel
theorem dJ6_bitCount_0f7a4_28 : decode cJ6_bitCount_0f7a4 28 = .ok (.iadd, 1) := by decide +kernel
theorem dJ6_bitCount_0f7a4_29 : decode cJ6_bitCount_0f7a4 29 = .ok (.ldc_w 267, 3) := by decide +kernel
theorem dJ6_bitCount_0f7a4_32 : decode cJ6_bitCount_0f7a4 32 = .ok (.iand, 1) := by decide +kernel
theorem dJ6_bitCount_0f7a4_33 : decode cJ6_bitCount_0f7a4 33 = .ok (.istore_n 0, 1) := by decide +kernel
theorem dJ6_bitCount_0f7a4_34 : decode cJ6_bitCount_0f7a4 34 = .ok (.iload_n 0, 1) := by decide +kernel
theorem dJ6_bitCount_0f7a4_35 : decode cJ6_bitCount_0f7a4 35 = .ok (.iload_n 0, 1) := by decide +kernel
theorem dJ6_bitCount_0f7a4_36 : decode cJ6_bitCount_0f7a4 36 = .ok (.bipush 8, 2) := by decide +kernel
theorem dJ6_bitCount_0f7a4_38 : decode cJ6_bitCount_0f7a4 38 = .ok (.iushr, 1) := by decide +kernel
theorem dJ6_bitCount_0f7a4_39 : decode cJ6_bitCount_0f7a4 39 = .ok (.iadd, 1) := by decide +kernel
theorem dJ6_bitCount_0f7a4_40 : decode cJ6_bitCount_0f7a4 40 = .ok (.istore_n 0, 1) := by decide +kernel
theorem dJ6_bitCount_0f7a4_41 : decode cJ6_bitCount_0f7a4 41 = .ok (.iload_n 0, 1) := by decide +kernel
theorem dJ6_bitCount_0f7a4_42 : decode cJ6_bitCount_0f7a4 42 = .ok (.iload_n 0, 1) := by decide +kernel
theorem dJ6_bitCount_0f7a4_43 : decode cJ6_bitCount_0f7a4 43 = .ok (.bipush 16, 2) := by decide +kernel
theorem dJ6_bitCount_0f7a4_45 : decode cJ6_bitCount_0f7a4 45 = .ok (.iushr, 1) := by decide +kernel
theorem dJ6_bitCount_0f7a4_46 : decode cJ6_bitCount_0f7a4 46 = .ok (.iadd, 1) := by decide +kernel
theorem dJ6_bitCount_0f7a4_47 : decode cJ6_bitCount_0f7a4 47 = .ok (.istore_n 0, 1) := by decide +kernel
theorem dJ6_bitCount_0f7a4_48 : decode cJ6_bitCount_0f7a4 48 = .ok (.iload_n 0, 1) := by decide +kernel
theorem dJ6_bitCount_0f7a4_49 : decode cJ6_bitCount_0f7a4 49 = .ok (.bipush 63, 2) := by decide +kernel
theorem dJ6_bitCount_0f7a4_51 : decode cJ6_bitCount_0f7a4 51 = .ok (.iand, 1) := by decide +kernel
theorem dJ6_bitCount_0f7a4_52 : decode cJ6_bitCount_0f7a4 52 = .ok (.ireturn, 1) := by decide +kernel
theorem dJ9_abs_0f7a4_0 : decode cJ9_abs_0f7a4 0 = .ok (.iload_n 0, 1) := by decide +kernel
theorem dJ9_abs_0f7a4_1 : decode cJ9_abs_0f7a4 1 = .ok (.ifCond .ge 8, 3) := by decide +kernel
theorem dJ9_abs_0f7a4_4 : decode cJ9_abs_0f7a4 4 = .ok (.iload_n 0, 1) := by decide +kernel
theorem dJ9_abs_0f7a4_5 : decode cJ9_abs_0f7a4 5 = .ok (.ineg, 1) := by decide +kernel
theorem dJ9_abs_0f7a4_6 : decode cJ9_abs_0f7a4 6 = .ok (.goto 4, 3) := by decide +kernel
theorem dJ9_abs_0f7a4_9 : decode cJ9_abs_0f7a4 9 = .ok (.iload_n 0, 1) := by decide +kernel
theorem dJ9_abs_0f7a4_10 : decode cJ9_abs_0f7a4 10 = .ok (.ireturn, 1) := by decide +kernel
theorem dJ9_max_7cf53_0 : decode cJ9_max_7cf53 0 = .ok (.iload_n 0, 1) := by decide +kernel
theorem dJ9_max_7cf53_1 : decode cJ9_max_7cf53 1 = .ok (.iload_n 1, 1) := by decide +kernel
theorem dJ9_max_7cf53_2 : decode cJ9_max_7cf53 2 = .ok (.if_icmp .lt 7, 3) := by decide +kernel
theorem dJ9_max_7cf53_5 : decode cJ9_max_7cf53 5 = .ok (.iload_n 0, 1) := by decide +kernel
theorem dJ9_max_7cf53_6 : decode cJ9_max_7cf53 6 = .ok (.goto 4, 3) := by decide +kernel
theorem dJ9_max_7cf53_9 : decode cJ9_max_7cf53 9 = .ok (.iload_n 1, 1) := by decide +kernel
theorem dJ9_max_7cf53_10 : decode cJ9_max_7cf53 10 = .ok (.ireturn, 1) := by decide +kernel
theorem dJ9_min_7cf53_0 : decode cJ9_min_7cf53 0 = .ok (.iload_n 0, 1) := by decide +kernel
theorem dJ9_min_7cf53_1 : decode cJ9_min_7cf53 1 = .ok (.iload_n 1, 1) := by decide +kernel
theorem dJ9_min_7cf53_2 : decode cJ9_min_7cf53 2 = .ok (.if_icmp .gt 7, 3) := by decide +kernel
theorem dJ9_min_7cf53_5 : decode cJ9_min_7cf53 5 = .ok (.iload_n 0, 1) := by decide +kernel
theorem dJ9_min_7cf53_6 : decode cJ9_min_7cf53 6 = .ok (.goto 4, 3) := by decide +kernel
theorem dJ9_min_7cf53_9 : decode cJ9_min_7cf53 9 = .ok (.iload_n 1, 1) := by decide +kernel
theorem dJ9_min_7cf53_10 : decode cJ9_min_7cf53 10 = .ok (.ireturn, 1) := by decide +kernel
theorem dJ0_length_8abf5_0 : decode cJ0_length_8abf5 0 = .ok (.aload_n 0, 1) := by decide +kernel
theorem dJ0_length_8abf5_1 : decode cJ0_length_8abf5 1 = .ok (.getfield 9, 3) := by decide +kernel
theorem dJ0_length_8abf5_4 : decode cJ0_length_8abf5 4 = .ok (.arraylength, 1) := by decide +kernel
theorem dJ0_length_8abf5_5 : decode cJ0_length_8abf5 5 = .ok (.aload_n 0, 1) := by decide +kernel
theorem dJ0_length_8abf5_6 : decode cJ0_length_8abf5 6 = .ok (.invokevirtual 335, 3) := by decide +kernel
theorem dJ0_length_8abf5_9 : decode cJ0_length_8abf5 9 = .ok (.ishr, 1) := by decide +kernel
theorem dJ0_length_8abf5_10 : decode cJ0_length_8abf5 10 = .ok (.ireturn, 1) := by decide +kernel
theorem dJ0_charAt_5068e_0 : decode cJ0_charAt_5068e 0 = .ok (.aload_n 0, 1) := by decide +kernel
theorem dJ0_charAt_5068e_1 : decode cJ0_charAt_5068e 1 = .ok (.invokevirtual 492, 3) := by decide +kernel
theorem dJ0_charAt_5068e_4 : decode cJ0_charAt_5068e 4 = .ok (.ifCond .eq 12, 3) := by decide +kernel
theorem dJ0_charAt_5068e_7 : decode cJ0_charAt_5068e 7 = .ok (.aload_n 0, 1) := by decide +kernel
theorem dJ0_charAt_5068e_8 : decode cJ0_charAt_5068e 8 = .ok (.getfield 9, 3) := by decide +kernel
theorem dJ0_charAt_5068e_11 : decode cJ0_charAt_5068e 11 = .ok (.iload_n 1, 1) := by decide +kernel
theorem dJ0_charAt_5068e_12 : decode cJ0_charAt_5068e 12 = .ok (.invokestatic 495, 3) := by decide +kernel
theorem dJ0_charAt_5068e_15 : decode cJ0_charAt_5068e 15 = .ok (.ireturn, 1) := by decide +kernel
theorem dJ0_charAt_5068e_16 : decode cJ0_charAt_5068e 16 = .ok (.aload_n 0, 1) := by decide +kernel
theorem dJ0_charAt_5068e_17 : decode cJ0_charAt_5068e 17 = .ok (.getfield 9, 3) := by decide +kernel
theorem dJ0_charAt_5068e_20 : decode cJ0_charAt_5068e 20 = .ok (.iload_n 1, 1) := by decide +kernel
theorem dJ0_charAt_5068e_21 : decode cJ0_charAt_5068e 21 = .ok (.invokestatic 498, 3) := by decide +kernel
theorem dJ0_charAt_5068e_24 : decode cJ0_charAt_5068e 24 = .ok (.ireturn, 1) := by decide +kernel
theorem dJ0_coder_7d493_0 : decode cJ0_coder_7d493 0 = .ok (.getstatic 38, 3) := by decide +kernel
theorem dJ0_coder_7d493_3 : decode cJ0_coder_7d493 3 = .ok (.ifCond .eq 10, 3) := by decide +kernel
theorem dJ0_coder_7d493_6 : decode cJ0_coder_7d493 6 = .ok (.aload_n 0, 1) := by decide +kernel
theorem dJ0_coder_7d493_7 : decode cJ0_coder_7d493 7 = .ok (.getfield 15, 3) := by decide +kernel
theorem dJ0_coder_7d493_10 : decode cJ0_coder_7d493 10 = .ok (.goto 4, 3) := by decide +kernel
theorem dJ0_coder_7d493_13 : decode cJ0_coder_7d493 13 = .ok (.iconst 1, 1) := by decide +kernel
theorem dJ0_coder_7d493_14 : decode cJ0_coder_7d493 14 = .ok (.ireturn, 1) := by decide +kernel
theorem dJ0_isLatin1_aae02_0 : decode cJ0_isLatin1_aae02 0 = .ok (.getstatic 38, 3) := by decide +kernel
theorem dJ0_isLatin1_aae02_3 : decode cJ0_isLatin1_aae02 3 = .ok (.ifCond .eq 14, 3) := by decide +kernel
theorem dJ0_isLatin1_aae02_6 : decode cJ0_isLatin1_aae02 6 = .ok (.aload_n 0, 1) := by decide +kernel
theorem dJ0_isLatin1_aae02_7 : decode cJ0_isLatin1_aae02 7 = .ok (.getfield 15, 3) := by decide +kernel
theorem dJ0_isLatin1_aae02_10 : decode cJ0_isLatin1_aae02 10 = .ok (.ifCond .ne 7, 3) := by decide +kernel
theorem dJ0_isLatin1_aae02_13 : decode cJ0_isLatin1_aae02 13 = .ok (.iconst 1, 1) := by decide +kernel
theorem dJ0_isLatin1_aae02_14 : decode cJ0_isLatin1_aae02 14 = .ok (.goto 4, 3) := by decide +kernel
theorem dJ0_isLatin1_aae02_17 : decode cJ0_isLatin1_aae02 17 = .ok (.iconst 0, 1) := by decide +kernel
theorem dJ0_isLatin1_aae02_18 : decode cJ0_isLatin1_aae02 18 = .ok (.ireturn, 1) := by decide +kernel
theorem dJ0_checkIndex_df160_0 : decode cJ0_checkIndex_df160 0 = .ok (.iload_n 0, 1) := by decide +kernel
theorem dJ0_checkIndex_df160_1 : decode cJ0_checkIndex_df160 1 = .ok (.iload_n 1, 1) := by decide +kernel
theorem dJ0_checkIndex_df160_2 : decode cJ0_checkIndex_df160 2 = .ok (.getstatic 1053, 3) := by decide +kernel
theorem dJ0_checkIndex_df160_5 : decode cJ0_checkIndex_df160 5 = .ok (.invokestatic 1059, 3) := by decide +kernel
theorem dJ0_checkIndex_df160_8 : decode cJ0_checkIndex_df160 8 = .ok (.pop, 1) := by decide +kernel
theorem dJ0_checkIndex_df160_9 : decode cJ0_checkIndex_df160 9 = .ok (.return_, 1) := by decide +kernel
theorem dJ1_charAt_3b067_0 : decode cJ1_charAt_3b067 0 = .ok (.iload_n 1, 1) := by decide +kernel
theorem dJ1_charAt_3b067_1 : decode cJ1_charAt_3b067 1 = .ok (.aload_n 0, 1) := by decide +kernel
theorem dJ1_charAt_3b067_2 : decode cJ1_charAt_3b067 2 = .ok (.arraylength, 1) := by decide +kernel
theorem dJ1_charAt_3b067_3 : decode cJ1_charAt_3b067 3 = .ok (.invokestatic 9, 3) := by decide +kernel
theorem dJ1_charAt_3b067_6 : decode cJ1_charAt_3b067 6 = .ok (.aload_n 0, 1) := by decide +kernel
theorem dJ1_charAt_3b067_7 : decode cJ1_charAt_3b067 7 = .ok (.iload_n 1, 1) := by decide +kernel
theorem dJ1_charAt_3b067_8 : decode cJ1_charAt_3b067 8 = .ok (.baload, 1) := by decide +kernel
theorem dJ1_charAt_3b067_9 : decode cJ1_charAt_3b067 9 = .ok (.sipush 255, 3) := by decide +kernel
theorem dJ1_charAt_3b067_12 : decode cJ1_charAt_3b067 12 = .ok (.iand, 1) := by decide +kernel
theorem dJ1_charAt_3b067_13 : decode cJ1_charAt_3b067 13 = .ok (.i2c, 1) := by decide +kernel
theorem dJ1_charAt_3b067_14 : decode cJ1_charAt_3b067 14 = .ok (.ireturn, 1) := by decide +kernel
theorem dJ2_getChar_3b067_0 : decode cJ2_getChar_3b067 0 = .ok (.getstatic 44, 3) := by decide +kernel
theorem dJ2_getChar_3b067_3 : decode cJ2_getChar_3b067 3 = .ok (.ifCond .ne 25, 3) := by decide +kernel
theorem dJ2_getChar_3b067_6 : decode cJ2_getChar_3b067 6 = .ok (.iload_n 1, 1) := by decide +kernel
theorem dJ2_getChar_3b067_7 : decode cJ2_getChar_3b067 7 = .ok (.ifCond .lt 11, 3) := by decide +kernel
theorem dJ2_getChar_3b067_10 : decode cJ2_getChar_3b067 10 = .ok (.iload_n 1, 1) := by decide +kernel
theorem dJ2_getChar_3b067_11 : decode cJ2_getChar_3b067 11 = .ok (.aload_n 0, 1) := by decide +kernel
theorem dJ2_getChar_3b067_12 : decode cJ2_getChar_3b067 12 = .ok (.invokestatic 48, 3) := by decide +kernel
theorem dJ2_getChar_3b067_15 : decode cJ2_getChar_3b067 15 = .ok (.if_icmp .lt 13, 3) := by decide +kernel
theorem dJ2_getChar_3b067_18 : decode cJ2_getChar_3b067 18 = .ok (.new 52, 3) := by decide +kernel
theorem dJ2_getChar_3b067_21 : decode cJ2_getChar_3b067 21 = .ok (.dup, 1) := by decide +kernel
theorem dJ2_getChar_3b067_22 : decode cJ2_getChar_3b067 22 = .ok (.ldc 54, 2) := by decide +kernel
theorem dJ2_getChar_3b067_24 : decode cJ2_getChar_3b067 24 = .ok (.invokespecial 56, 3) := by decide +kernel
theorem dJ2_getChar_3b067_27 : decode cJ2_getChar_3b067 27 = .ok (.athrow, 1) := by decide +kernel
theorem dJ2_getChar_3b067_28 : decode cJ2_getChar_3b067 28 = .ok (.iload_n 1, 1) := by decide +kernel
theorem dJ2_getChar_3b067_29 : decode cJ2_getChar_3b067 29 = .ok (.iconst 1, 1) := by decide +kernel
theorem dJ2_getChar_3b067_30 : decode cJ2_getChar_3b067 30 = .ok (.ishl, 1) := by decide +kernel
theorem dJ2_getChar_3b067_31 : decode cJ2_getChar_3b067 31 = .ok (.istore_n 1, 1) := by decide +kernel
theorem dJ2_getChar_3b067_32 : decode cJ2_getChar_3b067 32 = .ok (.aload_n 0, 1) := by decide +kernel
theorem dJ2_getChar_3b067_33 : decode cJ2_getChar_3b067 33 = .ok (.iload_n 1, 1) := by decide +kernel
theorem dJ2_getChar_3b067_34 : decode cJ2_getChar_3b067 34 = .ok (.iinc 1 1, 3) := by decide +kernel
theorem dJ2_getChar_3b067_37 : decode cJ2_getChar_3b067 37 = .ok (.baload, 1) := by decide +kernel
theorem dJ2_getChar_3b067_38 : decode cJ2_getChar_3b067 38 = .ok (.sipush 255, 3) := by decide +kernel
theorem dJ2_getChar_3b067_41 : decode cJ2_getChar_3b067 41 = .ok (.iand, 1) := by decide +kernel
theorem dJ2_getChar_3b067_42 : decode cJ2_getChar_3b067 42 = .ok (.getstatic 59, 3) := by decide +kernel
theorem dJ2_getChar_3b067_45 : decode cJ2_getChar_3b067 45 = .ok (.ishl, 1) := by decide +kernel
theorem dJ2_getChar_3b067_46 : decode cJ2_getChar_3b067 46 = .ok (.aload_n 0, 1) := by decide +kernel
theorem dJ2_getChar_3b067_47 : decode cJ2_getChar_3b067 47 = .ok (.iload_n 1, 1) := by decide +kernel
theorem dJ2_getChar_3b067_48 : decode cJ2_getChar_3b067 48 = .ok (.baload, 1) := by decide +kernel
theorem dJ2_getChar_3b067_49 : decode cJ2_getChar_3b067 49 = .ok (.sipush 255, 3) := by decide +kernel
theorem dJ2_getChar_3b067_52 : decode cJ2_getChar_3b067 52 = .ok (.iand, 1) := by decide +kernel
theorem dJ2_getChar_3b067_53 : decode cJ2_getChar_3b067 53 = .ok (.getstatic 63, 3) := by decide +kernel
theorem dJ2_getChar_3b067_56 : decode cJ2_getChar_3b067 56 = .ok (.ishl, 1) := by decide +kernel
theorem dJ2_getChar_3b067_57 : decode cJ2_getChar_3b067 57 = .ok (.ior, 1) := by decide +kernel
theorem dJ2_getChar_3b067_58 : decode cJ2_getChar_3b067 58 = .ok (.i2c, 1) := by decide +kernel
theorem dJ2_getChar_3b067_59 : decode cJ2_getChar_3b067 59 = .ok (.ireturn, 1) := by decide +kernel
theorem dJ2_length_9d52b_0 : decode cJ2_length_9d52b 0 = .ok (.aload_n 0, 1) := by decide +kernel
theorem dJ2_length_9d52b_1 : decode cJ2_length_9d52b 1 = .ok (.arraylength, 1) := by decide +kernel
theorem dJ2_length_9d52b_2 : decode cJ2_length_9d52b 2 = .ok (.iconst 1, 1) := by decide +kernel
theorem dJ2_length_9d52b_3 : decode cJ2_length_9d52b 3 = .ok (.ishr, 1) := by decide +kernel
theorem dJ2_length_9d52b_4 : decode cJ2_length_9d52b 4 = .ok (.ireturn, 1) := by decide +kernel
theorem dJ2_charAt_3b067_0 : decode cJ2_charAt_3b067 0 = .ok (.iload_n 1, 1) := by decide +kernel
theorem dJ2_charAt_3b067_1 : decode cJ2_charAt_3b067 1 = .ok (.aload_n 0, 1) := by decide +kernel
theorem dJ2_charAt_3b067_2 : decode cJ2_charAt_3b067 2 = .ok (.invokestatic 67, 3) := by decide +kernel
theorem dJ2_charAt_3b067_5 : decode cJ2_charAt_3b067 5 = .ok (.aload_n 0, 1) := by decide +kernel
theorem dJ2_charAt_3b067_6 : decode cJ2_charAt_3b067 6 = .ok (.iload_n 1, 1) := by decide +kernel
theorem dJ2_charAt_3b067_7 : decode cJ2_charAt_3b067 7 = .ok (.invokestatic 71, 3) := by decide +kernel
theorem dJ2_charAt_3b067_10 : decode cJ2_charAt_3b067 10 = .ok (.ireturn, 1) := by decide +kernel
theorem dJ2_checkIndex_2214a_0 : decode cJ2_checkIndex_2214a 0 = .ok (.iload_n 0, 1) := by decide +kernel
theorem dJ2_checkIndex_2214a_1 : decode cJ2_checkIndex_2214a 1 = .ok (.aload_n 1, 1) := by decide +kernel
theorem dJ2_checkIndex_2214a_2 : decode cJ2_checkIndex_2214a 2 = .ok (.invokestatic 48, 3) := by decide +kernel
theorem dJ2_checkIndex_2214a_5 : decode cJ2_checkIndex_2214a 5 = .ok (.invokestatic 414, 3) := by decide +kernel
theorem dJ2_checkIndex_2214a_8 : decode cJ2_checkIndex_2214a 8 = .ok (.return_, 1) := by decide +kernel
theorem dJ7_fill_53178_0 : decode cJ7_fill_53178 0 = .ok (.iconst 0, 1) := by decide +kernel
theorem dJ7_fill_53178_1 : decode cJ7_fill_53178 1 = .ok (.istore_n 2, 1) := by decide +kernel
theorem dJ7_fill_53178_2 : decode cJ7_fill_53178 2 = .ok (.aload_n 0, 1) := by decide +kernel
theorem dJ7_fill_53178_3 : decode cJ7_fill_53178 3 = .ok (.arraylength, 1) := by decide +kernel
theorem dJ7_fill_53178_4 : decode cJ7_fill_53178 4 = .ok (.istore_n 3, 1) := by decide +kernel
theorem dJ7_fill_53178_5 : decode cJ7_fill_53178 5 = .ok (.iload_n 2, 1) := by decide +kernel
theorem dJ7_fill_53178_6 : decode cJ7_fill_53178 6 = .ok (.iload_n 3, 1) := by decide +kernel
theorem dJ7_fill_53178_7 : decode cJ7_fill_53178 7 = .ok (.if_icmp .ge 13, 3) := by decide +kernel
theorem dJ7_fill_53178_10 : decode cJ7_fill_53178 10 = .ok (.aload_n 0, 1) := by decide +kernel
theorem dJ7_fill_53178_11 : decode cJ7_fill_53178 11 = .ok (.iload_n 2, 1) := by decide +kernel
theorem dJ7_fill_53178_12 : decode cJ7_fill_53178 12 = .ok (.iload_n 1, 1) := by decide +kernel
theorem dJ7_fill_53178_13 : decode cJ7_fill_53178 13 = .ok (.iastore, 1) := by decide +kernel
theorem dJ7_fill_53178_14 : decode cJ7_fill_53178 14 = .ok (.iinc 2 1, 3) := by decide +kernel
theorem dJ7_fill_53178_17 : decode cJ7_fill_53178 17 = .ok (.goto (-12), 3) := by decide +kernel
theorem dJ7_fill_53178_20 : decode cJ7_fill_53178 20 = .ok (.return_, 1) := by decide +kernel
theorem dJ3_checkIndex_8e157_0 : decode cJ3_checkIndex_8e157 0 = .ok (.iload_n 0, 1) := by decide +kernel
theorem dJ3_checkIndex_8e157_1 : decode cJ3_checkIndex_8e157 1 = .ok (.ifCond .lt 8, 3) := by decide +kernel
theorem dJ3_checkIndex_8e157_4 : decode cJ3_checkIndex_8e157 4 = .ok (.iload_n 0, 1) := by decide +kernel
theorem dJ3_checkIndex_8e157_5 : decode cJ3_checkIndex_8e157 5 = .ok (.iload_n 1, 1) := by decide +kernel
theorem dJ3_checkIndex_8e157_6 : decode cJ3_checkIndex_8e157 6 = .ok (.if_icmp .lt 10, 3) := by decide +kernel
theorem dJ3_checkIndex_8e157_9 : decode cJ3_checkIndex_8e157 9 = .ok (.aload_n 2, 1) := by decide +kernel
theorem dJ3_checkIndex_8e157_10 : decode cJ3_checkIndex_8e157 10 = .ok (.iload_n 0, 1) := by decide +kernel
theorem dJ3_checkIndex_8e157_11 : decode cJ3_checkIndex_8e157 11 = .ok (.iload_n 1, 1) := by decide +kernel
theorem dJ3_checkIndex_8e157_12 : decode cJ3_checkIndex_8e157 12 = .ok (.invokestatic 95, 3) := by decide +kernel
theorem dJ3_checkIndex_8e157_15 : decode cJ3_checkIndex_8e157 15 = .ok (.athrow, 1) := by decide +kernel
theorem dJ3_checkIndex_8e157_16 : decode cJ3_checkIndex_8e157 16 = .ok (.iload_n 0, 1) := by decide +kernel
theorem dJ3_checkIndex_8e157_17 : decode cJ3_checkIndex_8e157 17 = .ok (.ireturn, 1) := by decide +kernel
theorem dL_law_0 : decode cL_law 0 = .ok (.new 7, 3) := by decide +kernel
theorem dL_law_3 : decode cL_law 3 = .ok (.dup, 1) := by decide +kernel
theorem dL_law_4 : decode cL_law 4 = .ok (.invokespecial 9, 3) := by decide +kernel
theorem dL_law_7 : decode cL_law 7 = .ok (.astore_n 1, 1) := by decide +kernel
theorem dL_law_8 : decode cL_law 8 = .ok (.new 10, 3) := by decide +kernel
theorem dL_law_11 : decode cL_law 11 = .ok (.dup, 1) := by decide +kernel
theorem dL_law_12 : decode cL_law 12 = .ok (.invokespecial 12, 3) := by decide +kernel
theorem dL_law_15 : decode cL_law 15 = .ok (.astore_n 2, 1) := by decide +kernel
theorem dL_law_16 : decode cL_law 16 = .ok (.iconst 0, 1) := by decide +kernel
theorem dL_law_17 : decode cL_law 17 = .ok (.istore_n 3, 1) := by decide +kernel
theorem dL_law_18 : decode cL_law 18 = .ok (.iload_n 3, 1) := by decide +kernel
theorem dL_law_19 : decode cL_law 19 = .ok (.aload_n 0, 1) := by decide +kernel
theorem dL_law_20 : decode cL_law 20 = .ok (.arraylength, 1) := by decide +kernel
theorem dL_law_21 : decode cL_law 21 = .ok (.iconst 5, 1) := by decide +kernel
theorem dL_law_22 : decode cL_law 22 = .ok (.isub, 1) := by decide +kernel
theorem dL_law_23 : decode cL_law 23 = .ok (.if_icmp .gt 1033, 3) := by decide +kernel
theorem dL_law_26 : decode cL_law 26 = .ok (.aload_n 0, 1) := by decide +kernel
theorem dL_law_27 : decode cL_law 27 = .ok (.iload_n 3, 1) := by decide +kernel
theorem dL_law_28 : decode cL_law 28 = .ok (.iaload, 1) := by decide +kernel
theorem dL_law_29 : decode cL_law 29 = .ok (.bipush 31, 2) := by decide +kernel
theorem dL_law_31 : decode cL_law 31 = .ok (.iand, 1) := by decide +kernel
theorem dL_law_32 : decode cL_law 32 = .ok (.tableswitch 1018 0 27 #[128, 191, 204, 217, 240, 273, 316, 349, 382, 425, 478, 521, 544, 577, 610, 653, 686, 729, 762, 785, 808, 867, 880, 913, 926, 949, 972, 995], 128) := by decide +kernel
theorem dL_law_160 : decode cL_law 160 = .ok (.aload_n 1, 1) := by decide +kernel
theorem dL_law_161 : decode cL_law 161 = .ok (.aload_n 0, 1) := by decide +kernel
theorem dL_law_162 : decode cL_law 162 = .ok (.iload_n 3, 1) := by decide +kernel
theorem dL_law_163 : decode cL_law 163 = .ok (.iconst 1, 1) := by decide +kernel
theorem dL_law_164 : decode cL_law 164 = .ok (.iadd, 1) := by decide +kernel
theorem dL_law_165 : decode cL_law 165 = .ok (.iaload, 1) := by decide +kernel
theorem dL_law_166 : decode cL_law 166 = .ok (.aload_n 0, 1) := by decide +kernel
theorem dL_law_167 : decode cL_law 167 = .ok (.iload_n 3, 1) := by decide +kernel
theorem dL_law_168 : decode cL_law 168 = .ok (.iconst 2, 1) := by decide +kernel
theorem dL_law_169 : decode cL_law 169 = .ok (.iadd, 1) := by decide +kernel
theorem dL_law_170 : decode cL_law 170 = .ok (.iaload, 1) := by decide +kernel
theorem dL_law_171 : decode cL_law 171 = .ok (.i2l, 1) := by decide +kernel
theorem dL_law_172 : decode cL_law 172 = .ok (.bipush 32, 2) := by decide +kernel
theorem dL_law_174 : decode cL_law 174 = .ok (.lshl, 1) := by decide +kernel
theorem dL_law_175 : decode cL_law 175 = .ok (.aload_n 0, 1) := by decide +kernel
theorem dL_law_176 : decode cL_law 176 = .ok (.iload_n 3, 1) := by decide +kernel
theorem dL_law_177 : decode cL_law 177 = .ok (.iconst 3, 1) := by decide +kernel
theorem dL_law_178 : decode cL_law 178 = .ok (.iadd, 1) := by decide +kernel
theorem dL_law_179 : decode cL_law 179 = .ok (.iaload, 1) := by decide +kernel
theorem dL_law_180 : decode cL_law 180 = .ok (.i2l, 1) := by decide +kernel
theorem dL_law_181 : decode cL_law 181 = .ok (.ldc2_w 13, 3) := by decide +kernel
theorem dL_law_184 : decode cL_law 184 = .ok (.land, 1) := by decide +kernel
theorem dL_law_185 : decode cL_law 185 = .ok (.lor, 1) := by decide +kernel
theorem dL_law_186 : decode cL_law 186 = .ok (.invokevirtual 15, 3) := by decide +kernel
theorem dL_law_189 : decode cL_law 189 = .ok (.aload_n 2, 1) := by decide +kernel
theorem dL_law_190 : decode cL_law 190 = .ok (.aload_n 0, 1) := by decide +kernel
theorem dL_law_191 : decode cL_law 191 = .ok (.iload_n 3, 1) := by decide +kernel
theorem dL_law_192 : decode cL_law 192 = .ok (.iconst 1, 1) := by decide +kernel
theorem dL_law_193 : decode cL_law 193 = .ok (.iadd, 1) := by decide +kernel
theorem dL_law_194 : decode cL_law 194 = .ok (.iaload, 1) := by decide +kernel
theorem dL_law_195 : decode cL_law 195 = .ok (.aload_n 0, 1) := by decide +kernel
theorem dL_law_196 : decode cL_law 196 = .ok (.iload_n 3, 1) := by decide +kernel
theorem dL_law_197 : decode cL_law 197 = .ok (.iconst 2, 1) := by decide +kernel
theorem dL_law_198 : decode cL_law 198 = .ok (.iadd, 1) := by decide +kernel
theorem dL_law_199 : decode cL_law 199 = .ok (.iaload, 1) := by decide +kernel
theorem dL_law_200 : decode cL_law 200 = .ok (.i2l, 1) := by decide +kernel
theorem dL_law_201 : decode cL_law 201 = .ok (.bipush 32, 2) := by decide +kernel
theorem dL_law_203 : decode cL_law 203 = .ok (.lshl, 1) := by decide +kernel
theorem dL_law_204 : decode cL_law 204 = .ok (.aload_n 0, 1) := by decide +kernel
theorem dL_law_205 : decode cL_law 205 = .ok (.iload_n 3, 1) := by decide +kernel
theorem dL_law_206 : decode cL_law 206 = .ok (.iconst 3, 1) := by decide +kernel
theorem dL_law_207 : decode cL_law 207 = .ok (.iadd, 1) := by decide +kernel
theorem dL_law_208 : decode cL_law 208 = .ok (.iaload, 1) := by decide +kernel
theorem dL_law_209 : decode cL_law 209 = .ok (.i2l, 1) := by decide +kernel
theorem dL_law_210 : decode cL_law 210 = .ok (.ldc2_w 13, 3) := by decide +kernel
theorem dL_law_213 : decode cL_law 213 = .ok (.land, 1) := by decide +kernel
theorem dL_law_214 : decode cL_law 214 = .ok (.lor, 1) := by decide +kernel
theorem dL_law_215 : decode cL_law 215 = .ok (.invokevirtual 19, 3) := by decide +kernel
theorem dL_law_218 : decode cL_law 218 = .ok (.if_icmp .eq 832, 3) := by decide +kernel
theorem dL_law_221 : decode cL_law 221 = .ok (.iconst 0, 1) := by decide +kernel
theorem dL_law_222 : decode cL_law 222 = .ok (.ireturn, 1) := by decide +kernel
theorem dL_law_223 : decode cL_law 223 = .ok (.aload_n 1, 1) := by decide +kernel
theorem dL_law_224 : decode cL_law 224 = .ok (.invokevirtual 20, 3) := by decide +kernel
theorem dL_law_227 : decode cL_law 227 = .ok (.aload_n 2, 1) := by decide +kernel
theorem dL_law_228 : decode cL_law 228 = .ok (.invokevirtual 24, 3) := by decide +kernel
theorem dL_law_231 : decode cL_law 231 = .ok (.if_icmp .eq 819, 3) := by decide +kernel
theorem dL_law_234 : decode cL_law 234 = .ok (.iconst 0, 1) := by decide +kernel
theorem dL_law_235 : decode cL_law 235 = .ok (.ireturn, 1) := by decide +kernel
theorem dL_law_236 : decode cL_law 236 = .ok (.aload_n 1, 1) := by decide +kernel
theorem dL_law_237 : decode cL_law 237 = .ok (.invokevirtual 25, 3) := by decide +kernel
theorem dL_law_240 : decode cL_law 240 = .ok (.aload_n 2, 1) := by decide +kernel
theorem dL_law_241 : decode cL_law 241 = .ok (.invokevirtual 28, 3) := by decide +kernel
theorem dL_law_244 : decode cL_law 244 = .ok (.if_icmp .eq 806, 3) := by decide +kernel
theorem dL_law_247 : decode cL_law 247 = .ok (.iconst 0, 1) := by decide +kernel
theorem dL_law_248 : decode cL_law 248 = .ok (.ireturn, 1) := by decide +kernel
theorem dL_law_249 : decode cL_law 249 = .ok (.aload_n 1, 1) := by decide +kernel
theorem dL_law_250 : decode cL_law 250 = .ok (.aload_n 0, 1) := by decide +kernel
theorem dL_law_251 : decode cL_law 251 = .ok (.iload_n 3, 1) := by decide +kernel
theorem dL_law_252 : decode cL_law 252 = .ok (.iconst 1, 1) := by decide +kernel
theorem dL_law_253 : decode cL_law 253 = .ok (.iadd, 1) := by decide +kernel
theorem dL_law_254 : decode cL_law 254 = .ok (.iaload, 1) := by decide +kernel
theorem dL_law_255 : decode cL_law 255 = .ok (.invokevirtual 29, 3) := by decide +kernel
theorem dL_law_258 : decode cL_law 258 = .ok (.aload_n 2, 1) := by decide +kernel
theorem dL_law_259 : decode cL_law 259 = .ok (.aload_n 0, 1) := by decide +kernel
theorem dL_law_260 : decode cL_law 260 = .ok (.iload_n 3, 1) := by decide +kernel
theorem dL_law_261 : decode cL_law 261 = .ok (.iconst 1, 1) := by decide +kernel
theorem dL_law_262 : decode cL_law 262 = .ok (.iadd, 1) := by decide +kernel
theorem dL_law_263 : decode cL_law 263 = .ok (.iaload, 1) := by decide +kernel
theorem dL_law_264 : decode cL_law 264 = .ok (.invokevirtual 33, 3) := by decide +kernel
theorem dL_law_267 : decode cL_law 267 = .ok (.if_icmp .eq 783, 3) := by decide +kernel
theorem dL_law_270 : decode cL_law 270 = .ok (.iconst 0, 1) := by decide +kernel
theorem dL_law_271 : decode cL_law 271 = .ok (.ireturn, 1) := by decide +kernel
theorem dL_law_272 : decode cL_law 272 = .ok (.aload_n 1, 1) := by decide +kernel
theorem dL_law_273 : decode cL_law 273 = .ok (.aload_n 0, 1) := by decide +kernel
theorem dL_law_274 : decode cL_law 274 = .ok (.iload_n 3, 1) := by decide +kernel
theorem dL_law_275 : decode cL_law 275 = .ok (.iconst 1, 1) := by decide +kernel
theorem dL_law_276 : decode cL_law 276 = .ok (.iadd, 1) := by decide +kernel
theorem dL_law_277 : decode cL_law 277 = .ok (.iaload, 1) := by decide +kernel
theorem dL_law_278 : decode cL_law 278 = .ok (.aload_n 0, 1) := by decide +kernel
theorem dL_law_279 : decode cL_law 279 = .ok (.iload_n 3, 1) := by decide +kernel
theorem dL_law_280 : decode cL_law 280 = .ok (.iconst 2, 1) := by decide +kernel
theorem dL_law_281 : decode cL_law 281 = .ok (.iadd, 1) := by decide +kernel
theorem dL_law_282 : decode cL_law 282 = .ok (.iaload, 1) := by decide +kernel
theorem dL_law_283 : decode cL_law 283 = .ok (.invokevirtual 34, 3) := by decide +kernel
theorem dL_law_286 : decode cL_law 286 = .ok (.aload_n 2, 1) := by decide +kernel
theorem dL_law_287 : decode cL_law 287 = .ok (.aload_n 0, 1) := by decide +kernel
theorem dL_law_288 : decode cL_law 288 = .ok (.iload_n 3, 1) := by decide +kernel
theorem dL_law_289 : decode cL_law 289 = .ok (.iconst 1, 1) := by decide +kernel
theorem dL_law_290 : decode cL_law 290 = .ok (.iadd, 1) := by decide +kernel
theorem dL_law_291 : decode cL_law 291 = .ok (.iaload, 1) := by decide +kernel
theorem dL_law_292 : decode cL_law 292 = .ok (.aload_n 0, 1) := by decide +kernel
theorem dL_law_293 : decode cL_law 293 = .ok (.iload_n 3, 1) := by decide +kernel
theorem dL_law_294 : decode cL_law 294 = .ok (.iconst 2, 1) := by decide +kernel
theorem dL_law_295 : decode cL_law 295 = .ok (.iadd, 1) := by decide +kernel
theorem dL_law_296 : decode cL_law 296 = .ok (.iaload, 1) := by decide +kernel
theorem dL_law_297 : decode cL_law 297 = .ok (.invokevirtual 38, 3) := by decide +kernel
theorem dL_law_300 : decode cL_law 300 = .ok (.if_icmp .eq 750, 3) := by decide +kernel
theorem dL_law_303 : decode cL_law 303 = .ok (.iconst 0, 1) := by decide +kernel
theorem dL_law_304 : decode cL_law 304 = .ok (.ireturn, 1) := by decide +kernel
theorem dL_law_305 : decode cL_law 305 = .ok (.aload_n 1, 1) := by decide +kernel
theorem dL_law_306 : decode cL_law 306 = .ok (.aload_n 0, 1) := by decide +kernel
theorem dL_law_307 : decode cL_law 307 = .ok (.iload_n 3, 1) := by decide +kernel
theorem dL_law_308 : decode cL_law 308 = .ok (.iconst 1, 1) := by decide +kernel
theorem dL_law_309 : decode cL_law 309 = .ok (.iadd, 1) := by decide +kernel
theorem dL_law_310 : decode cL_law 310 = .ok (.iaload, 1) := by decide +kernel
theorem dL_law_311 : decode cL_law 311 = .ok (.aload_n 0, 1) := by decide +kernel
theorem dL_law_312 : decode cL_law 312 = .ok (.iload_n 3, 1) := by decide +kernel
theorem dL_law_313 : decode cL_law 313 = .ok (.iconst 2, 1) := by decide +kernel
theorem dL_law_314 : decode cL_law 314 = .ok (.iadd, 1) := by decide +kernel
theorem dL_law_315 : decode cL_law 315 = .ok (.iaload, 1) := by decide +kernel
theorem dL_law_316 : decode cL_law 316 = .ok (.aload_n 0, 1) := by decide +kernel
theorem dL_law_317 : decode cL_law 317 = .ok (.iload_n 3, 1) := by decide +kernel
theorem dL_law_318 : decode cL_law 318 = .ok (.iconst 3, 1) := by decide +kernel
theorem dL_law_319 : decode cL_law 319 = .ok (.iadd, 1) := by decide +kernel
theorem dL_law_320 : decode cL_law 320 = .ok (.iaload, 1) := by decide +kernel
theorem dL_law_321 : decode cL_law 321 = .ok (.invokevirtual 39, 3) := by decide +kernel
theorem dL_law_324 : decode cL_law 324 = .ok (.aload_n 2, 1) := by decide +kernel
theorem dL_law_325 : decode cL_law 325 = .ok (.aload_n 0, 1) := by decide +kernel
theorem dL_law_326 : decode cL_law 326 = .ok (.iload_n 3, 1) := by decide +kernel
theorem dL_law_327 : decode cL_law 327 = .ok (.iconst 1, 1) := by decide +kernel
theorem dL_law_328 : decode cL_law 328 = .ok (.iadd, 1) := by decide +kernel
theorem dL_law_329 : decode cL_law 329 = .ok (.iaload, 1) := by decide +kernel
theorem dL_law_330 : decode cL_law 330 = .ok (.aload_n 0, 1) := by decide +kernel
theorem dL_law_331 : decode cL_law 331 = .ok (.iload_n 3, 1) := by decide +kernel
theorem dL_law_332 : decode cL_law 332 = .ok (.iconst 2, 1) := by decide +kernel
theorem dL_law_333 : decode cL_law 333 = .ok (.iadd, 1) := by decide +kernel
theorem dL_law_334 : decode cL_law 334 = .ok (.iaload, 1) := by decide +kernel
theorem dL_law_335 : decode cL_law 335 = .ok (.aload_n 0, 1) := by decide +kernel
theorem dL_law_336 : decode cL_law 336 = .ok (.iload_n 3, 1) := by decide +kernel
theorem dL_law_337 : decode cL_law 337 = .ok (.iconst 3, 1) := by decide +kernel
theorem dL_law_338 : decode cL_law 338 = .ok (.iadd, 1) := by decide +kernel
theorem dL_law_339 : decode cL_law 339 = .ok (.iaload, 1) := by decide +kernel
theorem dL_law_340 : decode cL_law 340 = .ok (.invokevirtual 43, 3) := by decide +kernel
theorem dL_law_343 : decode cL_law 343 = .ok (.if_icmp .eq 707, 3) := by decide +kernel
theorem dL_law_346 : decode cL_law 346 = .ok (.iconst 0, 1) := by decide +kernel
theorem dL_law_347 : decode cL_law 347 = .ok (.ireturn, 1) := by decide +kernel
theorem dL_law_348 : decode cL_law 348 = .ok (.aload_n 1, 1) := by decide +kernel
theorem dL_law_349 : decode cL_law 349 = .ok (.aload_n 0, 1) := by decide +kernel
theorem dL_law_350 : decode cL_law 350 = .ok (.iload_n 3, 1) := by decide +kernel
theorem dL_law_351 : decode cL_law 351 = .ok (.iconst 1, 1) := by decide +kernel
theorem dL_law_352 : decode cL_law 352 = .ok (.iadd, 1) := by decide +kernel
theorem dL_law_353 : decode cL_law 353 = .ok (.iaload, 1) := by decide +kernel
theorem dL_law_354 : decode cL_law 354 = .ok (.aload_n 0, 1) := by decide +kernel
theorem dL_law_355 : decode cL_law 355 = .ok (.iload_n 3, 1) := by decide +kernel
theorem dL_law_356 : decode cL_law 356 = .ok (.iconst 2, 1) := by decide +kernel
theorem dL_law_357 : decode cL_law 357 = .ok (.iadd, 1) := by decide +kernel
theorem dL_law_358 : decode cL_law 358 = .ok (.iaload, 1) := by decide +kernel
theorem dL_law_359 : decode cL_law 359 = .ok (.invokevirtual 44, 3) := by decide +kernel
theorem dL_law_362 : decode cL_law 362 = .ok (.aload_n 2, 1) := by decide +kernel
theorem dL_law_363 : decode cL_law 363 = .ok (.aload_n 0, 1) := by decide +kernel
theorem dL_law_364 : decode cL_law 364 = .ok (.iload_n 3, 1) := by decide +kernel
theorem dL_law_365 : decode cL_law 365 = .ok (.iconst 1, 1) := by decide +kernel
theorem dL_law_366 : decode cL_law 366 = .ok (.iadd, 1) := by decide +kernel
theorem dL_law_367 : decode cL_law 367 = .ok (.iaload, 1) := by decide +kernel
theorem dL_law_368 : decode cL_law 368 = .ok (.aload_n 0, 1) := by decide +kernel
theorem dL_law_369 : decode cL_law 369 = .ok (.iload_n 3, 1) := by decide +kernel
theorem dL_law_370 : decode cL_law 370 = .ok (.iconst 2, 1) := by decide +kernel
theorem dL_law_371 : decode cL_law 371 = .ok (.iadd, 1) := by decide +kernel
theorem dL_law_372 : decode cL_law 372 = .ok (.iaload, 1) := by decide +kernel
theorem dL_law_373 : decode cL_law 373 = .ok (.invokevirtual 47, 3) := by decide +kernel
theorem dL_law_376 : decode cL_law 376 = .ok (.if_icmp .eq 674, 3) := by decide +kernel
theorem dL_law_379 : decode cL_law 379 = .ok (.iconst 0, 1) := by decide +kernel
theorem dL_law_380 : decode cL_law 380 = .ok (.ireturn, 1) := by decide +kernel
theorem dL_law_381 : decode cL_law 381 = .ok (.aload_n 1, 1) := by decide +kernel
theorem dL_law_382 : decode cL_law 382 = .ok (.aload_n 0, 1) := by decide +kernel
theorem dL_law_383 : decode cL_law 383 = .ok (.iload_n 3, 1) := by decide +kernel
theorem dL_law_384 : decode cL_law 384 = .ok (.iconst 1, 1) := by decide +kernel
theorem dL_law_385 : decode cL_law 385 = .ok (.iadd, 1) := by decide +kernel
theorem dL_law_386 : decode cL_law 386 = .ok (.iaload, 1) := by decide +kernel
theorem dL_law_387 : decode cL_law 387 = .ok (.aload_n 0, 1) := by decide +kernel
theorem dL_law_388 : decode cL_law 388 = .ok (.iload_n 3, 1) := by decide +kernel
theorem dL_law_389 : decode cL_law 389 = .ok (.iconst 2, 1) := by decide +kernel
theorem dL_law_390 : decode cL_law 390 = .ok (.iadd, 1) := by decide +kernel
theorem dL_law_391 : decode cL_law 391 = .ok (.iaload, 1) := by decide +kernel
theorem dL_law_392 : decode cL_law 392 = .ok (.invokevirtual 48, 3) := by decide +kernel
theorem dL_law_395 : decode cL_law 395 = .ok (.aload_n 2, 1) := by decide +kernel
theorem dL_law_396 : decode cL_law 396 = .ok (.aload_n 0, 1) := by decide +kernel
theorem dL_law_397 : decode cL_law 397 = .ok (.iload_n 3, 1) := by decide +kernel
theorem dL_law_398 : decode cL_law 398 = .ok (.iconst 1, 1) := by decide +kernel
theorem dL_law_399 : decode cL_law 399 = .ok (.iadd, 1) := by decide +kernel
theorem dL_law_400 : decode cL_law 400 = .ok (.iaload, 1) := by decide +kernel
theorem dL_law_401 : decode cL_law 401 = .ok (.aload_n 0, 1) := by decide +kernel
theorem dL_law_402 : decode cL_law 402 = .ok (.iload_n 3, 1) := by decide +kernel
theorem dL_law_403 : decode cL_law 403 = .ok (.iconst 2, 1) := by decide +kernel
theorem dL_law_404 : decode cL_law 404 = .ok (.iadd, 1) := by decide +kernel
theorem dL_law_405 : decode cL_law 405 = .ok (.iaload, 1) := by decide +kernel
theorem dL_law_406 : decode cL_law 406 = .ok (.invokevirtual 51, 3) := by decide +kernel
theorem dL_law_409 : decode cL_law 409 = .ok (.if_icmp .eq 641, 3) := by decide +kernel
theorem dL_law_412 : decode cL_law 412 = .ok (.iconst 0, 1) := by decide +kernel
theorem dL_law_413 : decode cL_law 413 = .ok (.ireturn, 1) := by decide +kernel
theorem dL_law_414 : decode cL_law 414 = .ok (.aload_n 1, 1) := by decide +kernel
theorem dL_law_415 : decode cL_law 415 = .ok (.aload_n 0, 1) := by decide +kernel
theorem dL_law_416 : decode cL_law 416 = .ok (.iload_n 3, 1) := by decide +kernel
theorem dL_law_417 : decode cL_law 417 = .ok (.iconst 1, 1) := by decide +kernel
theorem dL_law_418 : decode cL_law 418 = .ok (.iadd, 1) := by decide +kernel
theorem dL_law_419 : decode cL_law 419 = .ok (.iaload, 1) := by decide +kernel
theorem dL_law_420 : decode cL_law 420 = .ok (.aload_n 0, 1) := by decide +kernel
theorem dL_law_421 : decode cL_law 421 = .ok (.iload_n 3, 1) := by decide +kernel
theorem dL_law_422 : decode cL_law 422 = .ok (.iconst 2, 1) := by decide +kernel
theorem dL_law_423 : decode cL_law 423 = .ok (.iadd, 1) := by decide +kernel
theorem dL_law_424 : decode cL_law 424 = .ok (.iaload, 1) := by decide +kernel
theorem dL_law_425 : decode cL_law 425 = .ok (.aload_n 0, 1) := by decide +kernel
theorem dL_law_426 : decode cL_law 426 = .ok (.iload_n 3, 1) := by decide +kernel
theorem dL_law_427 : decode cL_law 427 = .ok (.iconst 3, 1) := by decide +kernel
theorem dL_law_428 : decode cL_law 428 = .ok (.iadd, 1) := by decide +kernel
theorem dL_law_429 : decode cL_law 429 = .ok (.iaload, 1) := by decide +kernel
theorem dL_law_430 : decode cL_law 430 = .ok (.invokevirtual 52, 3) := by decide +kernel
theorem dL_law_433 : decode cL_law 433 = .ok (.aload_n 2, 1) := by decide +kernel
theorem dL_law_434 : decode cL_law 434 = .ok (.aload_n 0, 1) := by decide +kernel
theorem dL_law_435 : decode cL_law 435 = .ok (.iload_n 3, 1) := by decide +kernel
theorem dL_law_436 : decode cL_law 436 = .ok (.iconst 1, 1) := by decide +kernel
theorem dL_law_437 : decode cL_law 437 = .ok (.iadd, 1) := by decide +kernel
theorem dL_law_438 : decode cL_law 438 = .ok (.iaload, 1) := by decide +kernel
theorem dL_law_439 : decode cL_law 439 = .ok (.aload_n 0, 1) := by decide +kernel
theorem dL_law_440 : decode cL_law 440 = .ok (.iload_n 3, 1) := by decide +kernel
theorem dL_law_441 : decode cL_law 441 = .ok (.iconst 2, 1) := by decide +kernel
theorem dL_law_442 : decode cL_law 442 = .ok (.iadd, 1) := by decide +kernel
theorem dL_law_443 : decode cL_law 443 = .ok (.iaload, 1) := by decide +kernel
theorem dL_law_444 : decode cL_law 444 = .ok (.aload_n 0, 1) := by decide +kernel
theorem dL_law_445 : decode cL_law 445 = .ok (.iload_n 3, 1) := by decide +kernel
theorem dL_law_446 : decode cL_law 446 = .ok (.iconst 3, 1) := by decide +kernel
theorem dL_law_447 : decode cL_law 447 = .ok (.iadd, 1) := by decide +kernel
theorem dL_law_448 : decode cL_law 448 = .ok (.iaload, 1) := by decide +kernel
theorem dL_law_449 : decode cL_law 449 = .ok (.invokevirtual 55, 3) := by decide +kernel
theorem dL_law_452 : decode cL_law 452 = .ok (.if_icmp .eq 598, 3) := by decide +kernel
theorem dL_law_455 : decode cL_law 455 = .ok (.iconst 0, 1) := by decide +kernel
theorem dL_law_456 : decode cL_law 456 = .ok (.ireturn, 1) := by decide +kernel
theorem dL_law_457 : decode cL_law 457 = .ok (.aload_n 1, 1) := by decide +kernel
theorem dL_law_458 : decode cL_law 458 = .ok (.aload_n 0, 1) := by decide +kernel
theorem dL_law_459 : decode cL_law 459 = .ok (.iload_n 3, 1) := by decide +kernel
theorem dL_law_460 : decode cL_law 460 = .ok (.iconst 1, 1) := by decide +kernel
theorem dL_law_461 : decode cL_law 461 = .ok (.iadd, 1) := by decide +kernel
theorem dL_law_462 : decode cL_law 462 = .ok (.iaload, 1) := by decide +kernel
theorem dL_law_463 : decode cL_law 463 = .ok (.aload_n 0, 1) := by decide +kernel
theorem dL_law_464 : decode cL_law 464 = .ok (.iload_n 3, 1) := by decide +kernel
theorem dL_law_465 : decode cL_law 465 = .ok (.iconst 2, 1) := by decide +kernel
theorem dL_law_466 : decode cL_law 466 = .ok (.iadd, 1) := by decide +kernel
theorem dL_law_467 : decode cL_law 467 = .ok (.iaload, 1) := by decide +kernel
theorem dL_law_468 : decode cL_law 468 = .ok (.aload_n 0, 1) := by decide +kernel
theorem dL_law_469 : decode cL_law 469 = .ok (.iload_n 3, 1) := by decide +kernel
theorem dL_law_470 : decode cL_law 470 = .ok (.iconst 3, 1) := by decide +kernel
theorem dL_law_471 : decode cL_law 471 = .ok (.iadd, 1) := by decide +kernel
theorem dL_law_472 : decode cL_law 472 = .ok (.iaload, 1) := by decide +kernel
theorem dL_law_473 : decode cL_law 473 = .ok (.aload_n 0, 1) := by decide +kernel
theorem dL_law_474 : decode cL_law 474 = .ok (.iload_n 3, 1) := by decide +kernel
theorem dL_law_475 : decode cL_law 475 = .ok (.iconst 4, 1) := by decide +kernel
theorem dL_law_476 : decode cL_law 476 = .ok (.iadd, 1) := by decide +kernel
theorem dL_law_477 : decode cL_law 477 = .ok (.iaload, 1) := by decide +kernel
theorem dL_law_478 : decode cL_law 478 = .ok (.invokevirtual 56, 3) := by decide +kernel
theorem dL_law_481 : decode cL_law 481 = .ok (.aload_n 2, 1) := by decide +kernel
theorem dL_law_482 : decode cL_law 482 = .ok (.aload_n 0, 1) := by decide +kernel
theorem dL_law_483 : decode cL_law 483 = .ok (.iload_n 3, 1) := by decide +kernel
theorem dL_law_484 : decode cL_law 484 = .ok (.iconst 1, 1) := by decide +kernel
theorem dL_law_485 : decode cL_law 485 = .ok (.iadd, 1) := by decide +kernel
theorem dL_law_486 : decode cL_law 486 = .ok (.iaload, 1) := by decide +kernel
theorem dL_law_487 : decode cL_law 487 = .ok (.aload_n 0, 1) := by decide +kernel
theorem dL_law_488 : decode cL_law 488 = .ok (.iload_n 3, 1) := by decide +kernel
theorem dL_law_489 : decode cL_law 489 = .ok (.iconst 2, 1) := by decide +kernel
theorem dL_law_490 : decode cL_law 490 = .ok (.iadd, 1) := by decide +kernel
theorem dL_law_491 : decode cL_law 491 = .ok (.iaload, 1) := by decide +kernel
theorem dL_law_492 : decode cL_law 492 = .ok (.aload_n 0, 1) := by decide +kernel
theorem dL_law_493 : decode cL_law 493 = .ok (.iload_n 3, 1) := by decide +kernel
theorem dL_law_494 : decode cL_law 494 = .ok (.iconst 3, 1) := by decide +kernel
theorem dL_law_495 : decode cL_law 495 = .ok (.iadd, 1) := by decide +kernel
theorem dL_law_496 : decode cL_law 496 = .ok (.iaload, 1) := by decide +kernel
theorem dL_law_497 : decode cL_law 497 = .ok (.aload_n 0, 1) := by decide +kernel
theorem dL_law_498 : decode cL_law 498 = .ok (.iload_n 3, 1) := by decide +kernel
theorem dL_law_499 : decode cL_law 499 = .ok (.iconst 4, 1) := by decide +kernel
theorem dL_law_500 : decode cL_law 500 = .ok (.iadd, 1) := by decide +kernel
theorem dL_law_501 : decode cL_law 501 = .ok (.iaload, 1) := by decide +kernel
theorem dL_law_502 : decode cL_law 502 = .ok (.invokevirtual 60, 3) := by decide +kernel
theorem dL_law_505 : decode cL_law 505 = .ok (.if_icmp .eq 545, 3) := by decide +kernel
theorem dL_law_508 : decode cL_law 508 = .ok (.iconst 0, 1) := by decide +kernel
theorem dL_law_509 : decode cL_law 509 = .ok (.ireturn, 1) := by decide +kernel
theorem dL_law_510 : decode cL_law 510 = .ok (.aload_n 1, 1) := by decide +kernel
theorem dL_law_511 : decode cL_law 511 = .ok (.aload_n 0, 1) := by decide +kernel
theorem dL_law_512 : decode cL_law 512 = .ok (.iload_n 3, 1) := by decide +kernel
theorem dL_law_513 : decode cL_law 513 = .ok (.iconst 1, 1) := by decide +kernel
theorem dL_law_514 : decode cL_law 514 = .ok (.iadd, 1) := by decide +kernel
theorem dL_law_515 : decode cL_law 515 = .ok (.iaload, 1) := by decide +kernel
theorem dL_law_516 : decode cL_law 516 = .ok (.aload_n 0, 1) := by decide +kernel
theorem dL_law_517 : decode cL_law 517 = .ok (.iload_n 3, 1) := by decide +kernel
theorem dL_law_518 : decode cL_law 518 = .ok (.iconst 2, 1) := by decide +kernel
theorem dL_law_519 : decode cL_law 519 = .ok (.iadd, 1) := by decide +kernel
theorem dL_law_520 : decode cL_law 520 = .ok (.iaload, 1) := by decide +kernel
theorem dL_law_521 : decode cL_law 521 = .ok (.aload_n 0, 1) := by decide +kernel
theorem dL_law_522 : decode cL_law 522 = .ok (.iload_n 3, 1) := by decide +kernel
theorem dL_law_523 : decode cL_law 523 = .ok (.iconst 3, 1) := by decide +kernel
theorem dL_law_524 : decode cL_law 524 = .ok (.iadd, 1) := by decide +kernel
theorem dL_law_525 : decode cL_law 525 = .ok (.iaload, 1) := by decide +kernel
theorem dL_law_526 : decode cL_law 526 = .ok (.invokevirtual 61, 3) := by decide +kernel
theorem dL_law_529 : decode cL_law 529 = .ok (.aload_n 2, 1) := by decide +kernel
theorem dL_law_530 : decode cL_law 530 = .ok (.aload_n 0, 1) := by decide +kernel
theorem dL_law_531 : decode cL_law 531 = .ok (.iload_n 3, 1) := by decide +kernel
theorem dL_law_532 : decode cL_law 532 = .ok (.iconst 1, 1) := by decide +kernel
theorem dL_law_533 : decode cL_law 533 = .ok (.iadd, 1) := by decide +kernel
theorem dL_law_534 : decode cL_law 534 = .ok (.iaload, 1) := by decide +kernel
theorem dL_law_535 : decode cL_law 535 = .ok (.aload_n 0, 1) := by decide +kernel
theorem dL_law_536 : decode cL_law 536 = .ok (.iload_n 3, 1) := by decide +kernel
theorem dL_law_537 : decode cL_law 537 = .ok (.iconst 2, 1) := by decide +kernel
theorem dL_law_538 : decode cL_law 538 = .ok (.iadd, 1) := by decide +kernel
theorem dL_law_539 : decode cL_law 539 = .ok (.iaload, 1) := by decide +kernel
theorem dL_law_540 : decode cL_law 540 = .ok (.aload_n 0, 1) := by decide +kernel
theorem dL_law_541 : decode cL_law 541 = .ok (.iload_n 3, 1) := by decide +kernel
theorem dL_law_542 : decode cL_law 542 = .ok (.iconst 3, 1) := by decide +kernel
theorem dL_law_543 : decode cL_law 543 = .ok (.iadd, 1) := by decide +kernel
theorem dL_law_544 : decode cL_law 544 = .ok (.iaload, 1) := by decide +kernel
theorem dL_law_545 : decode cL_law 545 = .ok (.invokevirtual 64, 3) := by decide +kernel
theorem dL_law_548 : decode cL_law 548 = .ok (.if_icmp .eq 502, 3) := by decide +kernel
theorem dL_law_551 : decode cL_law 551 = .ok (.iconst 0, 1) := by decide +kernel
theorem dL_law_552 : decode cL_law 552 = .ok (.ireturn, 1) := by decide +kernel
theorem dL_law_553 : decode cL_law 553 = .ok (.aload_n 1, 1) := by decide +kernel
theorem dL_law_554 : decode cL_law 554 = .ok (.aload_n 0, 1) := by decide +kernel
theorem dL_law_555 : decode cL_law 555 = .ok (.iload_n 3, 1) := by decide +kernel
theorem dL_law_556 : decode cL_law 556 = .ok (.iconst 1, 1) := by decide +kernel
theorem dL_law_557 : decode cL_law 557 = .ok (.iadd, 1) := by decide +kernel
theorem dL_law_558 : decode cL_law 558 = .ok (.iaload, 1) := by decide +kernel
theorem dL_law_559 : decode cL_law 559 = .ok (.invokevirtual 65, 3) := by decide +kernel
theorem dL_law_562 : decode cL_law 562 = .ok (.aload_n 2, 1) := by decide +kernel
theorem dL_law_563 : decode cL_law 563 = .ok (.aload_n 0, 1) := by decide +kernel
theorem dL_law_564 : decode cL_law 564 = .ok (.iload_n 3, 1) := by decide +kernel
theorem dL_law_565 : decode cL_law 565 = .ok (.iconst 1, 1) := by decide +kernel
theorem dL_law_566 : decode cL_law 566 = .ok (.iadd, 1) := by decide +kernel
theorem dL_law_567 : decode cL_law 567 = .ok (.iaload, 1) := by decide +kernel
theorem dL_law_568 : decode cL_law 568 = .ok (.invokevirtual 68, 3) := by decide +kernel
theorem dL_law_571 : decode cL_law 571 = .ok (.if_icmp .eq 479, 3) := by decide +kernel
theorem dL_law_574 : decode cL_law 574 = .ok (.iconst 0, 1) := by decide +kernel
theorem dL_law_575 : decode cL_law 575 = .ok (.ireturn, 1) := by decide +kernel
theorem dL_law_576 : decode cL_law 576 = .ok (.aload_n 1, 1) := by decide +kernel
theorem dL_law_577 : decode cL_law 577 = .ok (.aload_n 0, 1) := by decide +kernel
theorem dL_law_578 : decode cL_law 578 = .ok (.iload_n 3, 1) := by decide +kernel
theorem dL_law_579 : decode cL_law 579 = .ok (.iconst 1, 1) := by decide +kernel
theorem dL_law_580 : decode cL_law 580 = .ok (.iadd, 1) := by decide +kernel
theorem dL_law_581 : decode cL_law 581 = .ok (.iaload, 1) := by decide +kernel
theorem dL_law_582 : decode cL_law 582 = .ok (.aload_n 0, 1) := by decide +kernel
theorem dL_law_583 : decode cL_law 583 = .ok (.iload_n 3, 1) := by decide +kernel
theorem dL_law_584 : decode cL_law 584 = .ok (.iconst 2, 1) := by decide +kernel
theorem dL_law_585 : decode cL_law 585 = .ok (.iadd, 1) := by decide +kernel
theorem dL_law_586 : decode cL_law 586 = .ok (.iaload, 1) := by decide +kernel
theorem dL_law_587 : decode cL_law 587 = .ok (.invokevirtual 69, 3) := by decide +kernel
theorem dL_law_590 : decode cL_law 590 = .ok (.aload_n 2, 1) := by decide +kernel
theorem dL_law_591 : decode cL_law 591 = .ok (.aload_n 0, 1) := by decide +kernel
theorem dL_law_592 : decode cL_law 592 = .ok (.iload_n 3, 1) := by decide +kernel
theorem dL_law_593 : decode cL_law 593 = .ok (.iconst 1, 1) := by decide +kernel
theorem dL_law_594 : decode cL_law 594 = .ok (.iadd, 1) := by decide +kernel
theorem dL_law_595 : decode cL_law 595 = .ok (.iaload, 1) := by decide +kernel
theorem dL_law_596 : decode cL_law 596 = .ok (.aload_n 0, 1) := by decide +kernel
theorem dL_law_597 : decode cL_law 597 = .ok (.iload_n 3, 1) := by decide +kernel
theorem dL_law_598 : decode cL_law 598 = .ok (.iconst 2, 1) := by decide +kernel
theorem dL_law_599 : decode cL_law 599 = .ok (.iadd, 1) := by decide +kernel
theorem dL_law_600 : decode cL_law 600 = .ok (.iaload, 1) := by decide +kernel
theorem dL_law_601 : decode cL_law 601 = .ok (.invokevirtual 72, 3) := by decide +kernel
theorem dL_law_604 : decode cL_law 604 = .ok (.if_icmp .eq 446, 3) := by decide +kernel
theorem dL_law_607 : decode cL_law 607 = .ok (.iconst 0, 1) := by decide +kernel
theorem dL_law_608 : decode cL_law 608 = .ok (.ireturn, 1) := by decide +kernel
theorem dL_law_609 : decode cL_law 609 = .ok (.aload_n 1, 1) := by decide +kernel
theorem dL_law_610 : decode cL_law 610 = .ok (.aload_n 0, 1) := by decide +kernel
theorem dL_law_611 : decode cL_law 611 = .ok (.iload_n 3, 1) := by decide +kernel
theorem dL_law_612 : decode cL_law 612 = .ok (.iconst 1, 1) := by decide +kernel
theorem dL_law_613 : decode cL_law 613 = .ok (.iadd, 1) := by decide +kernel
theorem dL_law_614 : decode cL_law 614 = .ok (.iaload, 1) := by decide +kernel
theorem dL_law_615 : decode cL_law 615 = .ok (.aload_n 0, 1) := by decide +kernel
theorem dL_law_616 : decode cL_law 616 = .ok (.iload_n 3, 1) := by decide +kernel
theorem dL_law_617 : decode cL_law 617 = .ok (.iconst 2, 1) := by decide +kernel
theorem dL_law_618 : decode cL_law 618 = .ok (.iadd, 1) := by decide +kernel
theorem dL_law_619 : decode cL_law 619 = .ok (.iaload, 1) := by decide +kernel
theorem dL_law_620 : decode cL_law 620 = .ok (.invokevirtual 73, 3) := by decide +kernel
theorem dL_law_623 : decode cL_law 623 = .ok (.aload_n 2, 1) := by decide +kernel
theorem dL_law_624 : decode cL_law 624 = .ok (.aload_n 0, 1) := by decide +kernel
theorem dL_law_625 : decode cL_law 625 = .ok (.iload_n 3, 1) := by decide +kernel
theorem dL_law_626 : decode cL_law 626 = .ok (.iconst 1, 1) := by decide +kernel
theorem dL_law_627 : decode cL_law 627 = .ok (.iadd, 1) := by decide +kernel
theorem dL_law_628 : decode cL_law 628 = .ok (.iaload, 1) := by decide +kernel
theorem dL_law_629 : decode cL_law 629 = .ok (.aload_n 0, 1) := by decide +kernel
theorem dL_law_630 : decode cL_law 630 = .ok (.iload_n 3, 1) := by decide +kernel
theorem dL_law_631 : decode cL_law 631 = .ok (.iconst 2, 1) := by decide +kernel
theorem dL_law_632 : decode cL_law 632 = .ok (.iadd, 1) := by decide +kernel
theorem dL_law_633 : decode cL_law 633 = .ok (.iaload, 1) := by decide +kernel
theorem dL_law_634 : decode cL_law 634 = .ok (.invokevirtual 76, 3) := by decide +kernel
theorem dL_law_637 : decode cL_law 637 = .ok (.if_icmp .eq 413, 3) := by decide +kernel
theorem dL_law_640 : decode cL_law 640 = .ok (.iconst 0, 1) := by decide +kernel
theorem dL_law_641 : decode cL_law 641 = .ok (.ireturn, 1) := by decide +kernel
theorem dL_law_642 : decode cL_law 642 = .ok (.aload_n 1, 1) := by decide +kernel
theorem dL_law_643 : decode cL_law 643 = .ok (.aload_n 0, 1) := by decide +kernel
theorem dL_law_644 : decode cL_law 644 = .ok (.iload_n 3, 1) := by decide +kernel
theorem dL_law_645 : decode cL_law 645 = .ok (.iconst 1, 1) := by decide +kernel
theorem dL_law_646 : decode cL_law 646 = .ok (.iadd, 1) := by decide +kernel
theorem dL_law_647 : decode cL_law 647 = .ok (.iaload, 1) := by decide +kernel
theorem dL_law_648 : decode cL_law 648 = .ok (.aload_n 0, 1) := by decide +kernel
theorem dL_law_649 : decode cL_law 649 = .ok (.iload_n 3, 1) := by decide +kernel
theorem dL_law_650 : decode cL_law 650 = .ok (.iconst 2, 1) := by decide +kernel
theorem dL_law_651 : decode cL_law 651 = .ok (.iadd, 1) := by decide +kernel
theorem dL_law_652 : decode cL_law 652 = .ok (.iaload, 1) := by decide +kernel
theorem dL_law_653 : decode cL_law 653 = .ok (.aload_n 0, 1) := by decide +kernel
theorem dL_law_654 : decode cL_law 654 = .ok (.iload_n 3, 1) := by decide +kernel
theorem dL_law_655 : decode cL_law 655 = .ok (.iconst 3, 1) := by decide +kernel
theorem dL_law_656 : decode cL_law 656 = .ok (.iadd, 1) := by decide +kernel
theorem dL_law_657 : decode cL_law 657 = .ok (.iaload, 1) := by decide +kernel
theorem dL_law_658 : decode cL_law 658 = .ok (.invokevirtual 77, 3) := by decide +kernel
theorem dL_law_661 : decode cL_law 661 = .ok (.aload_n 2, 1) := by decide +kernel
theorem dL_law_662 : decode cL_law 662 = .ok (.aload_n 0, 1) := by decide +kernel
theorem dL_law_663 : decode cL_law 663 = .ok (.iload_n 3, 1) := by decide +kernel
theorem dL_law_664 : decode cL_law 664 = .ok (.iconst 1, 1) := by decide +kernel
theorem dL_law_665 : decode cL_law 665 = .ok (.iadd, 1) := by decide +kernel
theorem dL_law_666 : decode cL_law 666 = .ok (.iaload, 1) := by decide +kernel
theorem dL_law_667 : decode cL_law 667 = .ok (.aload_n 0, 1) := by decide +kernel
theorem dL_law_668 : decode cL_law 668 = .ok (.iload_n 3, 1) := by decide +kernel
theorem dL_law_669 : decode cL_law 669 = .ok (.iconst 2, 1) := by decide +kernel
theorem dL_law_670 : decode cL_law 670 = .ok (.iadd, 1) := by decide +kernel
theorem dL_law_671 : decode cL_law 671 = .ok (.iaload, 1) := by decide +kernel
theorem dL_law_672 : decode cL_law 672 = .ok (.aload_n 0, 1) := by decide +kernel
theorem dL_law_673 : decode cL_law 673 = .ok (.iload_n 3, 1) := by decide +kernel
theorem dL_law_674 : decode cL_law 674 = .ok (.iconst 3, 1) := by decide +kernel
theorem dL_law_675 : decode cL_law 675 = .ok (.iadd, 1) := by decide +kernel
theorem dL_law_676 : decode cL_law 676 = .ok (.iaload, 1) := by decide +kernel
theorem dL_law_677 : decode cL_law 677 = .ok (.invokevirtual 80, 3) := by decide +kernel
theorem dL_law_680 : decode cL_law 680 = .ok (.if_icmp .eq 370, 3) := by decide +kernel
theorem dL_law_683 : decode cL_law 683 = .ok (.iconst 0, 1) := by decide +kernel
theorem dL_law_684 : decode cL_law 684 = .ok (.ireturn, 1) := by decide +kernel
theorem dL_law_685 : decode cL_law 685 = .ok (.aload_n 1, 1) := by decide +kernel
theorem dL_law_686 : decode cL_law 686 = .ok (.aload_n 0, 1) := by decide +kernel
theorem dL_law_687 : decode cL_law 687 = .ok (.iload_n 3, 1) := by decide +kernel
theorem dL_law_688 : decode cL_law 688 = .ok (.iconst 1, 1) := by decide +kernel
theorem dL_law_689 : decode cL_law 689 = .ok (.iadd, 1) := by decide +kernel
theorem dL_law_690 : decode cL_law 690 = .ok (.iaload, 1) := by decide +kernel
theorem dL_law_691 : decode cL_law 691 = .ok (.aload_n 0, 1) := by decide +kernel
theorem dL_law_692 : decode cL_law 692 = .ok (.iload_n 3, 1) := by decide +kernel
theorem dL_law_693 : decode cL_law 693 = .ok (.iconst 2, 1) := by decide +kernel
theorem dL_law_694 : decode cL_law 694 = .ok (.iadd, 1) := by decide +kernel
theorem dL_law_695 : decode cL_law 695 = .ok (.iaload, 1) := by decide +kernel
theorem dL_law_696 : decode cL_law 696 = .ok (.invokevirtual 81, 3) := by decide +kernel
theorem dL_law_699 : decode cL_law 699 = .ok (.aload_n 2, 1) := by decide +kernel
theorem dL_law_700 : decode cL_law 700 = .ok (.aload_n 0, 1) := by decide +kernel
theorem dL_law_701 : decode cL_law 701 = .ok (.iload_n 3, 1) := by decide +kernel
theorem dL_law_702 : decode cL_law 702 = .ok (.iconst 1, 1) := by decide +kernel
theorem dL_law_703 : decode cL_law 703 = .ok (.iadd, 1) := by decide +kernel
theorem dL_law_704 : decode cL_law 704 = .ok (.iaload, 1) := by decide +kernel
theorem dL_law_705 : decode cL_law 705 = .ok (.aload_n 0, 1) := by decide +kernel
theorem dL_law_706 : decode cL_law 706 = .ok (.iload_n 3, 1) := by decide +kernel
theorem dL_law_707 : decode cL_law 707 = .ok (.iconst 2, 1) := by decide +kernel
theorem dL_law_708 : decode cL_law 708 = .ok (.iadd, 1) := by decide +kernel
theorem dL_law_709 : decode cL_law 709 = .ok (.iaload, 1) := by decide +kernel
theorem dL_law_710 : decode cL_law 710 = .ok (.invokevirtual 84, 3) := by decide +kernel
theorem dL_law_713 : decode cL_law 713 = .ok (.if_icmp .eq 337, 3) := by decide +kernel
theorem dL_law_716 : decode cL_law 716 = .ok (.iconst 0, 1) := by decide +kernel
theorem dL_law_717 : decode cL_law 717 = .ok (.ireturn, 1) := by decide +kernel
theorem dL_law_718 : decode cL_law 718 = .ok (.aload_n 1, 1) := by decide +kernel
theorem dL_law_719 : decode cL_law 719 = .ok (.aload_n 0, 1) := by decide +kernel
theorem dL_law_720 : decode cL_law 720 = .ok (.iload_n 3, 1) := by decide +kernel
theorem dL_law_721 : decode cL_law 721 = .ok (.iconst 1, 1) := by decide +kernel
theorem dL_law_722 : decode cL_law 722 = .ok (.iadd, 1) := by decide +kernel
theorem dL_law_723 : decode cL_law 723 = .ok (.iaload, 1) := by decide +kernel
theorem dL_law_724 : decode cL_law 724 = .ok (.aload_n 0, 1) := by decide +kernel
theorem dL_law_725 : decode cL_law 725 = .ok (.iload_n 3, 1) := by decide +kernel
theorem dL_law_726 : decode cL_law 726 = .ok (.iconst 2, 1) := by decide +kernel
theorem dL_law_727 : decode cL_law 727 = .ok (.iadd, 1) := by decide +kernel
theorem dL_law_728 : decode cL_law 728 = .ok (.iaload, 1) := by decide +kernel
theorem dL_law_729 : decode cL_law 729 = .ok (.aload_n 0, 1) := by decide +kernel
theorem dL_law_730 : decode cL_law 730 = .ok (.iload_n 3, 1) := by decide +kernel
theorem dL_law_731 : decode cL_law 731 = .ok (.iconst 3, 1) := by decide +kernel
theorem dL_law_732 : decode cL_law 732 = .ok (.iadd, 1) := by decide +kernel
theorem dL_law_733 : decode cL_law 733 = .ok (.iaload, 1) := by decide +kernel
theorem dL_law_734 : decode cL_law 734 = .ok (.invokevirtual 85, 3) := by decide +kernel
theorem dL_law_737 : decode cL_law 737 = .ok (.aload_n 2, 1) := by decide +kernel
theorem dL_law_738 : decode cL_law 738 = .ok (.aload_n 0, 1) := by decide +kernel
theorem dL_law_739 : decode cL_law 739 = .ok (.iload_n 3, 1) := by decide +kernel
theorem dL_law_740 : decode cL_law 740 = .ok (.iconst 1, 1) := by decide +kernel
theorem dL_law_741 : decode cL_law 741 = .ok (.iadd, 1) := by decide +kernel
theorem dL_law_742 : decode cL_law 742 = .ok (.iaload, 1) := by decide +kernel
theorem dL_law_743 : decode cL_law 743 = .ok (.aload_n 0, 1) := by decide +kernel
theorem dL_law_744 : decode cL_law 744 = .ok (.iload_n 3, 1) := by decide +kernel
theorem dL_law_745 : decode cL_law 745 = .ok (.iconst 2, 1) := by decide +kernel
theorem dL_law_746 : decode cL_law 746 = .ok (.iadd, 1) := by decide +kernel
theorem dL_law_747 : decode cL_law 747 = .ok (.iaload, 1) := by decide +kernel
theorem dL_law_748 : decode cL_law 748 = .ok (.aload_n 0, 1) := by decide +kernel
theorem dL_law_749 : decode cL_law 749 = .ok (.iload_n 3, 1) := by decide +kernel
theorem dL_law_750 : decode cL_law 750 = .ok (.iconst 3, 1) := by decide +kernel
theorem dL_law_751 : decode cL_law 751 = .ok (.iadd, 1) := by decide +kernel
theorem dL_law_752 : decode cL_law 752 = .ok (.iaload, 1) := by decide +kernel
theorem dL_law_753 : decode cL_law 753 = .ok (.invokevirtual 88, 3) := by decide +kernel
theorem dL_law_756 : decode cL_law 756 = .ok (.if_icmp .eq 294, 3) := by decide +kernel
theorem dL_law_759 : decode cL_law 759 = .ok (.iconst 0, 1) := by decide +kernel
theorem dL_law_760 : decode cL_law 760 = .ok (.ireturn, 1) := by decide +kernel
theorem dL_law_761 : decode cL_law 761 = .ok (.aload_n 1, 1) := by decide +kernel
theorem dL_law_762 : decode cL_law 762 = .ok (.aload_n 0, 1) := by decide +kernel
theorem dL_law_763 : decode cL_law 763 = .ok (.iload_n 3, 1) := by decide +kernel
theorem dL_law_764 : decode cL_law 764 = .ok (.iconst 1, 1) := by decide +kernel
theorem dL_law_765 : decode cL_law 765 = .ok (.iadd, 1) := by decide +kernel
theorem dL_law_766 : decode cL_law 766 = .ok (.iaload, 1) := by decide +kernel
theorem dL_law_767 : decode cL_law 767 = .ok (.aload_n 0, 1) := by decide +kernel
theorem dL_law_768 : decode cL_law 768 = .ok (.iload_n 3, 1) := by decide +kernel
theorem dL_law_769 : decode cL_law 769 = .ok (.iconst 2, 1) := by decide +kernel
theorem dL_law_770 : decode cL_law 770 = .ok (.iadd, 1) := by decide +kernel
theorem dL_law_771 : decode cL_law 771 = .ok (.iaload, 1) := by decide +kernel
theorem dL_law_772 : decode cL_law 772 = .ok (.invokevirtual 89, 3) := by decide +kernel
theorem dL_law_775 : decode cL_law 775 = .ok (.aload_n 2, 1) := by decide +kernel
theorem dL_law_776 : decode cL_law 776 = .ok (.aload_n 0, 1) := by decide +kernel
theorem dL_law_777 : decode cL_law 777 = .ok (.iload_n 3, 1) := by decide +kernel
theorem dL_law_778 : decode cL_law 778 = .ok (.iconst 1, 1) := by decide +kernel
theorem dL_law_779 : decode cL_law 779 = .ok (.iadd, 1) := by decide +kernel
theorem dL_law_780 : decode cL_law 780 = .ok (.iaload, 1) := by decide +kernel
theorem dL_law_781 : decode cL_law 781 = .ok (.aload_n 0, 1) := by decide +kernel
theorem dL_law_782 : decode cL_law 782 = .ok (.iload_n 3, 1) := by decide +kernel
theorem dL_law_783 : decode cL_law 783 = .ok (.iconst 2, 1) := by decide +kernel
theorem dL_law_784 : decode cL_law 784 = .ok (.iadd, 1) := by decide +kernel
theorem dL_law_785 : decode cL_law 785 = .ok (.iaload, 1) := by decide +kernel
theorem dL_law_786 : decode cL_law 786 = .ok (.invokevirtual 92, 3) := by decide +kernel
theorem dL_law_789 : decode cL_law 789 = .ok (.if_icmp .eq 261, 3) := by decide +kernel
theorem dL_law_792 : decode cL_law 792 = .ok (.iconst 0, 1) := by decide +kernel
theorem dL_law_793 : decode cL_law 793 = .ok (.ireturn, 1) := by decide +kernel
theorem dL_law_794 : decode cL_law 794 = .ok (.aload_n 1, 1) := by decide +kernel
theorem dL_law_795 : decode cL_law 795 = .ok (.aload_n 0, 1) := by decide +kernel
theorem dL_law_796 : decode cL_law 796 = .ok (.iload_n 3, 1) := by decide +kernel
theorem dL_law_797 : decode cL_law 797 = .ok (.iconst 1, 1) := by decide +kernel
theorem dL_law_798 : decode cL_law 798 = .ok (.iadd, 1) := by decide +kernel
theorem dL_law_799 : decode cL_law 799 = .ok (.iaload, 1) := by decide +kernel
theorem dL_law_800 : decode cL_law 800 = .ok (.invokevirtual 93, 3) := by decide +kernel
theorem dL_law_803 : decode cL_law 803 = .ok (.aload_n 2, 1) := by decide +kernel
theorem dL_law_804 : decode cL_law 804 = .ok (.aload_n 0, 1) := by decide +kernel
theorem dL_law_805 : decode cL_law 805 = .ok (.iload_n 3, 1) := by decide +kernel
theorem dL_law_806 : decode cL_law 806 = .ok (.iconst 1, 1) := by decide +kernel
theorem dL_law_807 : decode cL_law 807 = .ok (.iadd, 1) := by decide +kernel
theorem dL_law_808 : decode cL_law 808 = .ok (.iaload, 1) := by decide +kernel
theorem dL_law_809 : decode cL_law 809 = .ok (.invokevirtual 96, 3) := by decide +kernel
theorem dL_law_812 : decode cL_law 812 = .ok (.if_icmp .eq 238, 3) := by decide +kernel
theorem dL_law_815 : decode cL_law 815 = .ok (.iconst 0, 1) := by decide +kernel
theorem dL_law_816 : decode cL_law 816 = .ok (.ireturn, 1) := by decide +kernel
theorem dL_law_817 : decode cL_law 817 = .ok (.aload_n 1, 1) := by decide +kernel
theorem dL_law_818 : decode cL_law 818 = .ok (.aload_n 0, 1) := by decide +kernel
theorem dL_law_819 : decode cL_law 819 = .ok (.iload_n 3, 1) := by decide +kernel
theorem dL_law_820 : decode cL_law 820 = .ok (.iconst 1, 1) := by decide +kernel
theorem dL_law_821 : decode cL_law 821 = .ok (.iadd, 1) := by decide +kernel
theorem dL_law_822 : decode cL_law 822 = .ok (.iaload, 1) := by decide +kernel
theorem dL_law_823 : decode cL_law 823 = .ok (.invokevirtual 97, 3) := by decide +kernel
theorem dL_law_826 : decode cL_law 826 = .ok (.aload_n 2, 1) := by decide +kernel
theorem dL_law_827 : decode cL_law 827 = .ok (.aload_n 0, 1) := by decide +kernel
theorem dL_law_828 : decode cL_law 828 = .ok (.iload_n 3, 1) := by decide +kernel
theorem dL_law_829 : decode cL_law 829 = .ok (.iconst 1, 1) := by decide +kernel
theorem dL_law_830 : decode cL_law 830 = .ok (.iadd, 1) := by decide +kernel
theorem dL_law_831 : decode cL_law 831 = .ok (.iaload, 1) := by decide +kernel
theorem dL_law_832 : decode cL_law 832 = .ok (.invokevirtual 100, 3) := by decide +kernel
theorem dL_law_835 : decode cL_law 835 = .ok (.if_icmp .eq 215, 3) := by decide +kernel
theorem dL_law_838 : decode cL_law 838 = .ok (.iconst 0, 1) := by decide +kernel
theorem dL_law_839 : decode cL_law 839 = .ok (.ireturn, 1) := by decide +kernel
theorem dL_law_840 : decode cL_law 840 = .ok (.aload_n 1, 1) := by decide +kernel
theorem dL_law_841 : decode cL_law 841 = .ok (.aload_n 0, 1) := by decide +kernel
theorem dL_law_842 : decode cL_law 842 = .ok (.iload_n 3, 1) := by decide +kernel
theorem dL_law_843 : decode cL_law 843 = .ok (.iconst 1, 1) := by decide +kernel
theorem dL_law_844 : decode cL_law 844 = .ok (.iadd, 1) := by decide +kernel
theorem dL_law_845 : decode cL_law 845 = .ok (.iaload, 1) := by decide +kernel
theorem dL_law_846 : decode cL_law 846 = .ok (.aload_n 0, 1) := by decide +kernel
theorem dL_law_847 : decode cL_law 847 = .ok (.iload_n 3, 1) := by decide +kernel
theorem dL_law_848 : decode cL_law 848 = .ok (.iconst 2, 1) := by decide +kernel
theorem dL_law_849 : decode cL_law 849 = .ok (.iadd, 1) := by decide +kernel
theorem dL_law_850 : decode cL_law 850 = .ok (.iaload, 1) := by decide +kernel
theorem dL_law_851 : decode cL_law 851 = .ok (.aload_n 0, 1) := by decide +kernel
theorem dL_law_852 : decode cL_law 852 = .ok (.iload_n 3, 1) := by decide +kernel
theorem dL_law_853 : decode cL_law 853 = .ok (.iconst 3, 1) := by decide +kernel
theorem dL_law_854 : decode cL_law 854 = .ok (.iadd, 1) := by decide +kernel
theorem dL_law_855 : decode cL_law 855 = .ok (.iaload, 1) := by decide +kernel
theorem dL_law_856 : decode cL_law 856 = .ok (.ifCond .eq 7, 3) := by decide +kernel
theorem dL_law_859 : decode cL_law 859 = .ok (.iconst 1, 1) := by decide +kernel
theorem dL_law_860 : decode cL_law 860 = .ok (.goto 4, 3) := by decide +kernel
theorem dL_law_863 : decode cL_law 863 = .ok (.iconst 0, 1) := by decide +kernel
theorem dL_law_864 : decode cL_law 864 = .ok (.invokevirtual 101, 3) := by decide +kernel
theorem dL_law_867 : decode cL_law 867 = .ok (.aload_n 2, 1) := by decide +kernel
theorem dL_law_868 : decode cL_law 868 = .ok (.aload_n 0, 1) := by decide +kernel
theorem dL_law_869 : decode cL_law 869 = .ok (.iload_n 3, 1) := by decide +kernel
theorem dL_law_870 : decode cL_law 870 = .ok (.iconst 1, 1) := by decide +kernel
theorem dL_law_871 : decode cL_law 871 = .ok (.iadd, 1) := by decide +kernel
theorem dL_law_872 : decode cL_law 872 = .ok (.iaload, 1) := by decide +kernel
theorem dL_law_873 : decode cL_law 873 = .ok (.aload_n 0, 1) := by decide +kernel
theorem dL_law_874 : decode cL_law 874 = .ok (.iload_n 3, 1) := by decide +kernel
theorem dL_law_875 : decode cL_law 875 = .ok (.iconst 2, 1) := by decide +kernel
theorem dL_law_876 : decode cL_law 876 = .ok (.iadd, 1) := by decide +kernel
theorem dL_law_877 : decode cL_law 877 = .ok (.iaload, 1) := by decide +kernel
theorem dL_law_878 : decode cL_law 878 = .ok (.aload_n 0, 1) := by decide +kernel
theorem dL_law_879 : decode cL_law 879 = .ok (.iload_n 3, 1) := by decide +kernel
theorem dL_law_880 : decode cL_law 880 = .ok (.iconst 3, 1) := by decide +kernel
theorem dL_law_881 : decode cL_law 881 = .ok (.iadd, 1) := by decide +kernel
theorem dL_law_882 : decode cL_law 882 = .ok (.iaload, 1) := by decide +kernel
theorem dL_law_883 : decode cL_law 883 = .ok (.ifCond .eq 7, 3) := by decide +kernel
theorem dL_law_886 : decode cL_law 886 = .ok (.iconst 1, 1) := by decide +kernel
theorem dL_law_887 : decode cL_law 887 = .ok (.goto 4, 3) := by decide +kernel
theorem dL_law_890 : decode cL_law 890 = .ok (.iconst 0, 1) := by decide +kernel
theorem dL_law_891 : decode cL_law 891 = .ok (.invokevirtual 105, 3) := by decide +kernel
theorem dL_law_894 : decode cL_law 894 = .ok (.if_icmp .eq 156, 3) := by decide +kernel
theorem dL_law_897 : decode cL_law 897 = .ok (.iconst 0, 1) := by decide +kernel
theorem dL_law_898 : decode cL_law 898 = .ok (.ireturn, 1) := by decide +kernel
theorem dL_law_899 : decode cL_law 899 = .ok (.aload_n 1, 1) := by decide +kernel
theorem dL_law_900 : decode cL_law 900 = .ok (.invokevirtual 106, 3) := by decide +kernel
theorem dL_law_903 : decode cL_law 903 = .ok (.aload_n 2, 1) := by decide +kernel
theorem dL_law_904 : decode cL_law 904 = .ok (.invokevirtual 109, 3) := by decide +kernel
theorem dL_law_907 : decode cL_law 907 = .ok (.if_icmp .eq 143, 3) := by decide +kernel
theorem dL_law_910 : decode cL_law 910 = .ok (.iconst 0, 1) := by decide +kernel
theorem dL_law_911 : decode cL_law 911 = .ok (.ireturn, 1) := by decide +kernel
theorem dL_law_912 : decode cL_law 912 = .ok (.aload_n 1, 1) := by decide +kernel
theorem dL_law_913 : decode cL_law 913 = .ok (.aload_n 0, 1) := by decide +kernel
theorem dL_law_914 : decode cL_law 914 = .ok (.iload_n 3, 1) := by decide +kernel
theorem dL_law_915 : decode cL_law 915 = .ok (.iconst 1, 1) := by decide +kernel
theorem dL_law_916 : decode cL_law 916 = .ok (.iadd, 1) := by decide +kernel
theorem dL_law_917 : decode cL_law 917 = .ok (.iaload, 1) := by decide +kernel
theorem dL_law_918 : decode cL_law 918 = .ok (.aload_n 0, 1) := by decide +kernel
theorem dL_law_919 : decode cL_law 919 = .ok (.iload_n 3, 1) := by decide +kernel
theorem dL_law_920 : decode cL_law 920 = .ok (.iconst 2, 1) := by decide +kernel
theorem dL_law_921 : decode cL_law 921 = .ok (.iadd, 1) := by decide +kernel
theorem dL_law_922 : decode cL_law 922 = .ok (.iaload, 1) := by decide +kernel
theorem dL_law_923 : decode cL_law 923 = .ok (.invokevirtual 110, 3) := by decide +kernel
theorem dL_law_926 : decode cL_law 926 = .ok (.aload_n 2, 1) := by decide +kernel
theorem dL_law_927 : decode cL_law 927 = .ok (.aload_n 0, 1) := by decide +kernel
theorem dL_law_928 : decode cL_law 928 = .ok (.iload_n 3, 1) := by decide +kernel
theorem dL_law_929 : decode cL_law 929 = .ok (.iconst 1, 1) := by decide +kernel
theorem dL_law_930 : decode cL_law 930 = .ok (.iadd, 1) := by decide +kernel
theorem dL_law_931 : decode cL_law 931 = .ok (.iaload, 1) := by decide +kernel
theorem dL_law_932 : decode cL_law 932 = .ok (.aload_n 0, 1) := by decide +kernel
theorem dL_law_933 : decode cL_law 933 = .ok (.iload_n 3, 1) := by decide +kernel
theorem dL_law_934 : decode cL_law 934 = .ok (.iconst 2, 1) := by decide +kernel
theorem dL_law_935 : decode cL_law 935 = .ok (.iadd, 1) := by decide +kernel
theorem dL_law_936 : decode cL_law 936 = .ok (.iaload, 1) := by decide +kernel
theorem dL_law_937 : decode cL_law 937 = .ok (.invokevirtual 113, 3) := by decide +kernel
theorem dL_law_940 : decode cL_law 940 = .ok (.if_icmp .eq 110, 3) := by decide +kernel
theorem dL_law_943 : decode cL_law 943 = .ok (.iconst 0, 1) := by decide +kernel
theorem dL_law_944 : decode cL_law 944 = .ok (.ireturn, 1) := by decide +kernel
theorem dL_law_945 : decode cL_law 945 = .ok (.aload_n 1, 1) := by decide +kernel
theorem dL_law_946 : decode cL_law 946 = .ok (.invokevirtual 114, 3) := by decide +kernel
theorem dL_law_949 : decode cL_law 949 = .ok (.aload_n 2, 1) := by decide +kernel
theorem dL_law_950 : decode cL_law 950 = .ok (.invokevirtual 117, 3) := by decide +kernel
theorem dL_law_953 : decode cL_law 953 = .ok (.if_icmp .eq 97, 3) := by decide +kernel
theorem dL_law_956 : decode cL_law 956 = .ok (.iconst 0, 1) := by decide +kernel
theorem dL_law_957 : decode cL_law 957 = .ok (.ireturn, 1) := by decide +kernel
theorem dL_law_958 : decode cL_law 958 = .ok (.aload_n 1, 1) := by decide +kernel
theorem dL_law_959 : decode cL_law 959 = .ok (.aload_n 0, 1) := by decide +kernel
theorem dL_law_960 : decode cL_law 960 = .ok (.iload_n 3, 1) := by decide +kernel
theorem dL_law_961 : decode cL_law 961 = .ok (.iconst 1, 1) := by decide +kernel
theorem dL_law_962 : decode cL_law 962 = .ok (.iadd, 1) := by decide +kernel
theorem dL_law_963 : decode cL_law 963 = .ok (.iaload, 1) := by decide +kernel
theorem dL_law_964 : decode cL_law 964 = .ok (.invokevirtual 118, 3) := by decide +kernel
theorem dL_law_967 : decode cL_law 967 = .ok (.aload_n 2, 1) := by decide +kernel
theorem dL_law_968 : decode cL_law 968 = .ok (.aload_n 0, 1) := by decide +kernel
theorem dL_law_969 : decode cL_law 969 = .ok (.iload_n 3, 1) := by decide +kernel
theorem dL_law_970 : decode cL_law 970 = .ok (.iconst 1, 1) := by decide +kernel
theorem dL_law_971 : decode cL_law 971 = .ok (.iadd, 1) := by decide +kernel
theorem dL_law_972 : decode cL_law 972 = .ok (.iaload, 1) := by decide +kernel
theorem dL_law_973 : decode cL_law 973 = .ok (.invokevirtual 121, 3) := by decide +kernel
theorem dL_law_976 : decode cL_law 976 = .ok (.if_icmp .eq 74, 3) := by decide +kernel
theorem dL_law_979 : decode cL_law 979 = .ok (.iconst 0, 1) := by decide +kernel
theorem dL_law_980 : decode cL_law 980 = .ok (.ireturn, 1) := by decide +kernel
theorem dL_law_981 : decode cL_law 981 = .ok (.aload_n 1, 1) := by decide +kernel
theorem dL_law_982 : decode cL_law 982 = .ok (.aload_n 0, 1) := by decide +kernel
theorem dL_law_983 : decode cL_law 983 = .ok (.iload_n 3, 1) := by decide +kernel
theorem dL_law_984 : decode cL_law 984 = .ok (.iconst 1, 1) := by decide +kernel
theorem dL_law_985 : decode cL_law 985 = .ok (.iadd, 1) := by decide +kernel
theorem dL_law_986 : decode cL_law 986 = .ok (.iaload, 1) := by decide +kernel
theorem dL_law_987 : decode cL_law 987 = .ok (.invokevirtual 122, 3) := by decide +kernel
theorem dL_law_990 : decode cL_law 990 = .ok (.aload_n 2, 1) := by decide +kernel
theorem dL_law_991 : decode cL_law 991 = .ok (.aload_n 0, 1) := by decide +kernel
theorem dL_law_992 : decode cL_law 992 = .ok (.iload_n 3, 1) := by decide +kernel
theorem dL_law_993 : decode cL_law 993 = .ok (.iconst 1, 1) := by decide +kernel
theorem dL_law_994 : decode cL_law 994 = .ok (.iadd, 1) := by decide +kernel
theorem dL_law_995 : decode cL_law 995 = .ok (.iaload, 1) := by decide +kernel
theorem dL_law_996 : decode cL_law 996 = .ok (.invokevirtual 125, 3) := by decide +kernel
theorem dL_law_999 : decode cL_law 999 = .ok (.if_icmp .eq 51, 3) := by decide +kernel
theorem dL_law_1002 : decode cL_law 1002 = .ok (.iconst 0, 1) := by decide +kernel
theorem dL_law_1003 : decode cL_law 1003 = .ok (.ireturn, 1) := by decide +kernel
theorem dL_law_1004 : decode cL_law 1004 = .ok (.aload_n 1, 1) := by decide +kernel
theorem dL_law_1005 : decode cL_law 1005 = .ok (.aload_n 0, 1) := by decide +kernel
theorem dL_law_1006 : decode cL_law 1006 = .ok (.iload_n 3, 1) := by decide +kernel
theorem dL_law_1007 : decode cL_law 1007 = .ok (.iconst 1, 1) := by decide +kernel
theorem dL_law_1008 : decode cL_law 1008 = .ok (.iadd, 1) := by decide +kernel
theorem dL_law_1009 : decode cL_law 1009 = .ok (.iaload, 1) := by decide +kernel
theorem dL_law_1010 : decode cL_law 1010 = .ok (.invokevirtual 126, 3) := by decide +kernel
theorem dL_law_1013 : decode cL_law 1013 = .ok (.aload_n 2, 1) := by decide +kernel
theorem dL_law_1014 : decode cL_law 1014 = .ok (.aload_n 0, 1) := by decide +kernel
theorem dL_law_1015 : decode cL_law 1015 = .ok (.iload_n 3, 1) := by decide +kernel
theorem dL_law_1016 : decode cL_law 1016 = .ok (.iconst 1, 1) := by decide +kernel
theorem dL_law_1017 : decode cL_law 1017 = .ok (.iadd, 1) := by decide +kernel
theorem dL_law_1018 : decode cL_law 1018 = .ok (.iaload, 1) := by decide +kernel
theorem dL_law_1019 : decode cL_law 1019 = .ok (.invokevirtual 129, 3) := by decide +kernel
theorem dL_law_1022 : decode cL_law 1022 = .ok (.if_icmp .eq 28, 3) := by decide +kernel
theorem dL_law_1025 : decode cL_law 1025 = .ok (.iconst 0, 1) := by decide +kernel
theorem dL_law_1026 : decode cL_law 1026 = .ok (.ireturn, 1) := by decide +kernel
theorem dL_law_1027 : decode cL_law 1027 = .ok (.aload_n 1, 1) := by decide +kernel
theorem dL_law_1028 : decode cL_law 1028 = .ok (.aload_n 0, 1) := by decide +kernel
theorem dL_law_1029 : decode cL_law 1029 = .ok (.iload_n 3, 1) := by decide +kernel
theorem dL_law_1030 : decode cL_law 1030 = .ok (.iconst 1, 1) := by decide +kernel
theorem dL_law_1031 : decode cL_law 1031 = .ok (.iadd, 1) := by decide +kernel
theorem dL_law_1032 : decode cL_law 1032 = .ok (.iaload, 1) := by decide +kernel
theorem dL_law_1033 : decode cL_law 1033 = .ok (.invokevirtual 130, 3) := by decide +kernel
theorem dL_law_1036 : decode cL_law 1036 = .ok (.aload_n 2, 1) := by decide +kernel
theorem dL_law_1037 : decode cL_law 1037 = .ok (.aload_n 0, 1) := by decide +kernel
theorem dL_law_1038 : decode cL_law 1038 = .ok (.iload_n 3, 1) := by decide +kernel
theorem dL_law_1039 : decode cL_law 1039 = .ok (.iconst 1, 1) := by decide +kernel
theorem dL_law_1040 : decode cL_law 1040 = .ok (.iadd, 1) := by decide +kernel
theorem dL_law_1041 : decode cL_law 1041 = .ok (.iaload, 1) := by decide +kernel
theorem dL_law_1042 : decode cL_law 1042 = .ok (.invokevirtual 133, 3) := by decide +kernel
theorem dL_law_1045 : decode cL_law 1045 = .ok (.if_icmp .eq 5, 3) := by decide +kernel
theorem dL_law_1048 : decode cL_law 1048 = .ok (.iconst 0, 1) := by decide +kernel
theorem dL_law_1049 : decode cL_law 1049 = .ok (.ireturn, 1) := by decide +kernel
theorem dL_law_1050 : decode cL_law 1050 = .ok (.iinc 3 5, 3) := by decide +kernel
theorem dL_law_1053 : decode cL_law 1053 = .ok (.goto (-1035), 3) := by decide +kernel
theorem dL_law_1056 : decode cL_law 1056 = .ok (.iconst 1, 1) := by decide +kernel
theorem dL_law_1057 : decode cL_law 1057 = .ok (.ireturn, 1) := by decide +kernel
end
section
/-! ===== heaps as numbers: which cells there are, what each holds ===== -/
/-- how many cells; of each its kind and length (kind 0: none; ci + 1: an object of vwCl's class ci; 8 byte[], 9 int[], 10 boolean[], 11 Standing[]); ints, longs, references by cell and place -/
abbrev Hp : Type := Nat × (Nat → Nat × Nat) × (Nat → Nat → Int32) × (Nat → Nat → Int64) × (Nat → Nat → Option Nat)
def up2 {α : Type} (f : Nat → Nat → α) (a k : Nat) (v : α) : Nat → Nat → α := fun x y => if x = a ∧ y = k then v else f x y
abbrev zN (h : Hp) : Nat := h.1
abbrev zS (h : Hp) : Nat → Nat × Nat := h.2.1
abbrev zI (h : Hp) : Nat → Nat → Int32 := h.2.2.1
abbrev zL (h : Hp) : Nat → Nat → Int64 := h.2.2.2.1
abbrev zR (h : Hp) : Nat → Nat → Option Nat := h.2.2.2.2
def sI (h : Hp) (a k : Nat) (v : Int32) : Hp := (h.1, h.2.1, up2 h.2.2.1 a k v, h.2.2.2.1, h.2.2.2.2)
def sL (h : Hp) (a k : Nat) (v : Int64) : Hp := (h.1, h.2.1, h.2.2.1, up2 h.2.2.2.1 a k v, h.2.2.2.2)
def sR (h : Hp) (a k : Nat) (v : Option Nat) : Hp := (h.1, h.2.1, h.2.2.1, h.2.2.2.1, up2 h.2.2.2.2 a k v)
/-- a stretch of an int row copied into another -/
def sC (h : Hp) (a b sp dp n : Nat) : Hp := (h.1, h.2.1, (fun x => if x = b then va_cpy (h.2.2.1 a) (h.2.2.1 b) sp dp n else h.2.2.1 x), h.2.2.2.1, h.2.2.2.2)
abbrev q_in (i : Int32) (n : Nat) : Prop := 0 ≤ i.toInt ∧ i.toInt < (n : Int)
/-! the steps on it; none: not such a cell, or not within -/
def q_gi (h : Hp) (a ci k : Nat) : Option Int32 := if (zS h a).1 = ci + 1 then some (zI h a k) else none
def q_gl (h : Hp) (a ci k : Nat) : Option Int64 := if (zS h a).1 = ci + 1 then some (zL h a k) else none
def q_gr (h : Hp) (a ci k : Nat) : Option Nat := if (zS h a).1 = ci + 1 then zR h a k else none
def q_pi (h : Hp) (a ci k : Nat) (v : Int32) : Option Hp := if (zS h a).1 = ci + 1 then some (sI h a k v) else none
def q_pl (h : Hp) (a ci k : Nat) (v : Int64) : Option Hp := if (zS h a).1 = ci + 1 then some (sL h a k v) else none
def q_pr (h : Hp) (a ci k v : Nat) : Option Hp := if (zS h a).1 = ci + 1 then some (sR h a k (some v)) else none
def q_ai (h : Hp) (a kd : Nat) (i : Int32) : Option Int32 := if (zS h a).1 = kd ∧ q_in i (zS h a).2 then some (zI h a i.toNatClampNeg) else none
def q_ar (h : Hp) (a : Nat) (i : Int32) : Option Nat := if (zS h a).1 = 11 ∧ q_in i (zS h a).2 then zR h a i.toNatClampNeg else none
def q_as (h : Hp) (a kd : Nat) (i x : Int32) : Option Hp := if (zS h a).1 = kd ∧ q_in i (zS h a).2 then some (sI h a i.toNatClampNeg x) else none
def q_al (h : Hp) (a : Nat) : Option Int32 := if 8 ≤ (zS h a).1 ∧ (zS h a).1 ≤ 11 then some (Int32.ofNat (zS h a).2) else none
def q_cp (h : Hp) (a : Nat) (sp : Int32) (b : Nat) (dp n : Int32) : Option Hp := if (zS h a).1 = 9 ∧ (zS h b).1 = 9 ∧ 0 ≤ sp.toInt ∧ 0 ≤ dp.toInt ∧ 0 ≤ n.toInt ∧ sp.toNatClampNeg + n.toNatClampNeg ≤ (zS h a).2 ∧ dp.toNatClampNeg + n.toNatClampNeg ≤ (zS h b).2 then some (sC h a b sp.toNatClampNeg dp.toNatClampNeg n.toNatClampNeg) else none
def q_on {α : Type} (h : Hp) (a ci : Nat) (K : Option α) : Option α := if (zS h a).1 = ci + 1 then K else none
def q_nz {α : Type} (y : Int32) (K : Option α) : Option α := if y = 0 then none else K
def q_nzl {α : Type} (y : Int64) (K : Option α) : Option α := if y = 0 then none else K
def q_bo {α : Type} (v : Int32) (K : Option α) : Option α := if v = 0 ∨ v = 1 then K else none
def lt {α β : Type} (e : α) (K : α → β) : β := K e
def z_TM (j : Nat) : Int32 := ([9, 1, 1, 2, 30, 1, 1] : List Int32).getD j 0
def z_NO (j : Nat) : Int32 := ([2, 3, 1, 4, 4, 1, 1] : List Int32).getD j 0
def q_tm (i : Int32) : Option Int32 := if q_in i 7 then some (z_TM i.toNatClampNeg) else none
def q_no (i : Int32) : Option Int32 := if q_in i 7 then some (z_NO i.toNatClampNeg) else none
/-! ===== the machine's side ===== -/
/-- the base, the classes, the array classes (byte, int, boolean, Standing), the two static rows, the text constants and their bytes -/
abbrev Gx : Type := Nat × va_G × (ClassId × ClassId × ClassId × ClassId) × (Nat × Nat) × (Nat → Nat) × (Nat → Nat)
abbrev gD (G : Gx) : va_G := G.2.1
abbrev gB (G : Gx) : ClassId := G.2.2.1.1
abbrev gI (G : Gx) : ClassId := G.2.2.1.2.1
abbrev gZ (G : Gx) : ClassId := G.2.2.1.2.2.1
abbrev gS (G : Gx) : ClassId := G.2.2.1.2.2.2
abbrev gT (G : Gx) : Nat := G.2.2.2.1.1
abbrev gO (G : Gx) : Nat := G.2.2.2.1.2
abbrev gK (G : Gx) : Nat → Nat := G.2.2.2.2.1
abbrev gV (G : Gx) : Nat → Nat := G.2.2.2.2.2
abbrev z_tys (G : Gx) : List (ClassId × FieldType) := [(gB G, .byte), (gI G, .int), (gZ G, .boolean), (gS G, .object "SixMaps$Standing")]
def z_A (G : Gx) : Nat → Prop := fun q => G.1 ≤ q
abbrev rf (G : Gx) (a : Nat) : Value := .ref (G.1 + a)
def z_ft (ci k : Nat) : Nat := match vwCl[ci]? with
  | some r => if (r.2.1 k).2.2.1 = "I" then 0 else if (r.2.1 k).2.2.1 = "J" then 1 else 2
  | none => 2
def z_nf (ci : Nat) : Nat := match vwCl[ci]? with
  | some r => r.2.2
  | none => 0
def z_fv (G : Gx) (h : Hp) (ci a k : Nat) : Value := if z_ft ci k = 0 then .int (zI h a k) else if z_ft ci k = 1 then .long (zL h a k) else va_rf ((zR h a k).map (fun b => G.1 + b))
def z_cell (G : Gx) (h : Hp) (a : Nat) : va_E :=
  if (zS h a).1 = 8 then .inl (gB G, (zS h a).2, .inl (zI h a))
  else if (zS h a).1 = 9 then .inl (gI G, (zS h a).2, .inl (zI h a))
  else if (zS h a).1 = 10 then .inl (gZ G, (zS h a).2, .inl (zI h a))
  else if (zS h a).1 = 11 then .inl (gS G, (zS h a).2, .inr (.inr (.inr (.inr (fun j => (zR h a j).map (fun b => G.1 + b))))))
  else .inr ((zS h a).1 - 1, (List.range (z_nf ((zS h a).1 - 1))).map (z_fv G h ((zS h a).1 - 1) a))
def z_W (G : Gx) (h : Hp) : va_W := (List.range (zN h)).map (fun a => (G.1 + a, z_cell G h a))
def z_P (G : Gx) (h : Hp) (H : Heap) : Prop := va_P (gD G) vwCl (z_W G h) H ∧ ∀ a, (zS h a).1 ≠ 0 → a < zN h
theorem z_W_at (G : Gx) (h : Hp) {a : Nat} (ha : a < zN h) : (z_W G h)[a]? = some (G.1 + a, z_cell G h a) := by
  unfold z_W
  rw [List.getElem?_map, List.getElem?_range ha]
  rfl
theorem z_W_of (G : Gx) (h : Hp) {a : Nat} {q : Nat × va_E} (ha : (z_W G h)[a]? = some q) : a < zN h ∧ q = (G.1 + a, z_cell G h a) := by
  have hl : a < (z_W G h).length := (List.getElem?_eq_some_iff.mp ha).1
  have hl2 : a < zN h := by simpa [z_W] using hl
  rw [z_W_at G h hl2] at ha
  exact ⟨hl2, (Option.some.inj ha).symm⟩
theorem z_W_D (G : Gx) (h : Hp) : va_D (z_A G) (z_W G h) := by
  refine ⟨fun i j p q hi hj e => ?_, fun k q hk => ?_⟩
  · obtain ⟨-, rfl⟩ := z_W_of G h hi
    obtain ⟨-, rfl⟩ := z_W_of G h hj
    have e' : G.1 + i = G.1 + j := e
    omega
  · obtain ⟨-, rfl⟩ := z_W_of G h hk
    exact Nat.le_add_right _ _
theorem z_low {G : Gx} {h : Hp} {H : Heap} (hP : z_P G h H) (h0 : G.1 ≤ H.size) : G.1 + zN h ≤ H.size := by
  rcases Nat.eq_zero_or_pos (zN h) with e | e
  · rw [e]; exact h0
  · have h1 : zN h - 1 < zN h := by omega
    have h2 := (hP.1 _ _ (z_W_at G h h1)).lt
    have h3 : G.1 + (zN h - 1) < H.size := h2
    omega
theorem z_cell_o (G : Gx) {h : Hp} {a ci : Nat} (hk : (zS h a).1 = ci + 1) (hc : ci < 7) : z_cell G h a = .inr (ci, (List.range (z_nf ci)).map (z_fv G h ci a)) := by
  unfold z_cell
  rw [hk, if_neg (by omega), if_neg (by omega), if_neg (by omega), if_neg (by omega), Nat.add_sub_cancel]
theorem z_cell_b (G : Gx) {h : Hp} {a : Nat} (hk : (zS h a).1 = 8) : z_cell G h a = .inl (gB G, (zS h a).2, .inl (zI h a)) := by
  unfold z_cell; rw [if_pos hk]
theorem z_cell_i (G : Gx) {h : Hp} {a : Nat} (hk : (zS h a).1 = 9) : z_cell G h a = .inl (gI G, (zS h a).2, .inl (zI h a)) := by
  unfold z_cell; rw [if_neg (by omega), if_pos hk]
theorem z_cell_z (G : Gx) {h : Hp} {a : Nat} (hk : (zS h a).1 = 10) : z_cell G h a = .inl (gZ G, (zS h a).2, .inl (zI h a)) := by
  unfold z_cell; rw [if_neg (by omega), if_neg (by omega), if_pos hk]
theorem z_cell_r (G : Gx) {h : Hp} {a : Nat} (hk : (zS h a).1 = 11) : z_cell G h a = .inl (gS G, (zS h a).2, .inr (.inr (.inr (.inr (fun j => (zR h a j).map (fun b => G.1 + b)))))) := by
  unfold z_cell; rw [if_neg (by omega), if_neg (by omega), if_neg (by omega), if_pos hk]
/-- a world with one cell set anew is the world of the heap set anew -/
theorem z_W_set {G : Gx} {h h' : Hp} {a : Nat} {e : va_E} (hn : zN h' = zN h) (ha : a < zN h) (he : z_cell G h' a = e) (ho : ∀ i, i ≠ a → z_cell G h' i = z_cell G h i) : (z_W G h).set a (G.1 + a, e) = z_W G h' := by
  apply List.ext_getElem?
  intro i
  by_cases hia : i = a
  · subst hia
    have hl : i < (z_W G h).length := by simpa [z_W] using ha
    rw [List.getElem?_set_self hl, z_W_at G h' (by rw [hn]; exact ha), he]
  · rw [List.getElem?_set_ne (Ne.symm hia)]
    by_cases hi : i < zN h
    · rw [z_W_at G h hi, z_W_at G h' (by rw [hn]; exact hi), ho i hia]
    · have h1 : (z_W G h)[i]? = none := by simp [z_W]; omega
      have h2 : (z_W G h')[i]? = none := by simp [z_W]; omega
      rw [h1, h2]
theorem up2_ne {α : Type} {f : Nat → Nat → α} {a k x : Nat} {v : α} (h : x ≠ a) : up2 f a k v x = f x := by
  funext y
  simp [up2, h]
theorem up2_self {α : Type} {f : Nat → Nat → α} {a k : Nat} {v : α} : up2 f a k v a k = v := by simp [up2]
theorem up2_nk {α : Type} {f : Nat → Nat → α} {a k x y : Nat} {v : α} (h : y ≠ k) : up2 f a k v x y = f x y := by simp [up2, h]
theorem z_cell_same {G : Gx} {h h' : Hp} {i : Nat} (hS : zS h' i = zS h i) (hI : zI h' i = zI h i) (hL : zL h' i = zL h i) (hR : zR h' i = zR h i) : z_cell G h' i = z_cell G h i := by
  have hf : ∀ ci, z_fv G h' ci i = z_fv G h ci i := fun ci => by
    funext k
    unfold z_fv
    rw [hI, hL, hR]
  unfold z_cell
  rw [hS, hI, hR, hf]
theorem z_sI {G : Gx} {h : Hp} {a k : Nat} {v : Int32} {e : va_E} (ha : a < zN h) (he : z_cell G (sI h a k v) a = e) : (z_W G h).set a (G.1 + a, e) = z_W G (sI h a k v) :=
  z_W_set rfl ha he (fun i hi => z_cell_same rfl (up2_ne hi) rfl rfl)
theorem z_sL {G : Gx} {h : Hp} {a k : Nat} {v : Int64} {e : va_E} (ha : a < zN h) (he : z_cell G (sL h a k v) a = e) : (z_W G h).set a (G.1 + a, e) = z_W G (sL h a k v) :=
  z_W_set rfl ha he (fun i hi => z_cell_same rfl rfl (up2_ne hi) rfl)
theorem z_sR {G : Gx} {h : Hp} {a k : Nat} {v : Option Nat} {e : va_E} (ha : a < zN h) (he : z_cell G (sR h a k v) a = e) : (z_W G h).set a (G.1 + a, e) = z_W G (sR h a k v) :=
  z_W_set rfl ha he (fun i hi => z_cell_same rfl rfl rfl (up2_ne hi))
/-- the fields' list, one field set -/
theorem z_fs_set (n : Nat) (f g : Nat → Value) {k : Nat} {v : Value} (hv : g k = v) (ho : ∀ j, j ≠ k → g j = f j) : ((List.range n).map f).set k v = (List.range n).map g := by
  apply List.ext_getElem?
  intro i
  by_cases hi : i < n
  · by_cases hik : i = k
    · subst hik
      rw [List.getElem?_set_self (by simpa using hi), List.getElem?_map, List.getElem?_range hi]
      simp [hv]
    · rw [List.getElem?_set_ne (Ne.symm hik), List.getElem?_map, List.getElem?_map, List.getElem?_range hi]
      simp [ho i hik]
  · have h1 : (((List.range n).map f).set k v)[i]? = none := by simp; omega
    have h2 : ((List.range n).map g)[i]? = none := by simp; omega
    rw [h1, h2]
theorem z_fs_at (n : Nat) (f : Nat → Value) {k : Nat} (hk : k < n) : ((List.range n).map f)[k]? = some (f k) := by
  rw [List.getElem?_map, List.getElem?_range hk]; rfl
/-! ===== the words ===== -/
def GW : List Cond := lw_tbl.filter goodWord
theorem gw_in {w : Cond} (i : Nat) (h : lw_tbl[i]? = some w) (hg : goodWord w = true) : w ∈ GW := List.mem_filter.mpr ⟨List.mem_of_getElem? h, hg⟩
theorem gw_all (ws : List Cond) (is : List Nat) (hl : ws.length ≤ is.length) (h : (ws.zip is).all (fun q => decide (lw_tbl[q.2]? = some q.1) && goodWord q.1) = true) : ∀ w ∈ ws, w ∈ GW := by
  intro w hw
  obtain ⟨i, hi⟩ := List.getElem?_of_mem hw
  have hil : i < ws.length := (List.getElem?_eq_some_iff.mp hi).1
  have h2 : ∃ j, is[i]? = some j := ⟨_, List.getElem?_eq_getElem (Nat.lt_of_lt_of_le hil hl)⟩
  obtain ⟨j, hj⟩ := h2
  have hm : (w, j) ∈ ws.zip is := by
    apply List.mem_of_getElem? (i := i)
    rw [List.getElem?_zip_eq_some]
    exact ⟨hi, hj⟩
  have h3 := List.all_eq_true.mp h _ hm
  simp only [Bool.and_eq_true, decide_eq_true_eq] at h3
  exact gw_in j h3.1 h3.2
theorem gw_good {ws : List Cond} (h : ∀ w ∈ ws, w ∈ GW) : GoodIn GW ws := fun w hw => ⟨h w hw, good_of_word (List.mem_filter.mp (h w hw)).2⟩
end
section
/-! ===== what is known everywhere: classes, array classes, nest words, static rows, text constants ===== -/
def z_nest : List (String × Nat × MethodName × String) := [(RX5, 22, yX0_init, RX5), (RX5, 32, yX2_init, RX5), (RX5, 39, yX4_init, RX5), (RX5, 54, yX3_init, RX5), (RX5, 61, yX1_init, RX5), (RX1, 41, yX0_init, RX5), (RX1, 48, yX4_init, RX5), (RX2, 140, yX5_isIn, RX5), (RX4, 46, yX5_isIn, RX5), (RX1, 105, yX5_isIn, RX5), (RX3, 26, yX5_isIn, RX5)]
def z_tx : List String := ["mark", "goal", "within", "lie", "err", "spade", "prize"]
def z_ln : List Nat := [4, 4, 6, 3, 3, 5, 5]
def z_by : List (List Int32) := [[109, 97, 114, 107], [103, 111, 97, 108], [119, 105, 116, 104, 105, 110], [108, 105, 101], [101, 114, 114], [115, 112, 97, 100, 101], [112, 114, 105, 122, 101]]
def z_E (G : Gx) (U : State) : Prop :=
  (va_Z RX2 "TIMES_MOST" "[I" (.ref (gT G)) (z_A G) U U.heap ∧ va_T .int (gT G) 7 (fun j => .int (z_TM j)) (z_A G) U U.heap) ∧
  (va_Z RX2 "NUMBERS_OF" "[I" (.ref (gO G)) (z_A G) U U.heap ∧ va_T .int (gO G) 7 (fun j => .int (z_NO j)) (z_A G) U U.heap) ∧
  va_Z "java/lang/String" "COMPACT_STRINGS" "Z" (.int 1) (z_A G) U U.heap ∧
  va_Zq "jdk/internal/util/Preconditions" "SIOOBE_FORMATTER" "Ljava/util/function/BiFunction;" (z_A G) U U.heap ∧
  (∀ i, i < 7 → vk_R RX2 (92 + 2 * i) (z_tx.getD i "") (gK G i) U) ∧ vk_S 7 z_ln z_by (gK G) (gV G) (z_A G) U U.heap
def z_K (G : Gx) (U : State) : Prop := va_K (gD G) vwCl (z_tys G) U ∧ (∀ w ∈ z_nest, va_Nw (.methodLinkNest w.1 w.2.1 w.2.2.1 w.2.2.2) U) ∧ z_E G U
theorem z_E_to {G : Gx} {s U : State} (hv : s.vm.Alike U.vm) (hr : ∀ (own : String) (k : Nat) (tx : String) (a : Nat), vk_R own k tx a s → vk_R own k tx a U) (hk : ∀ q, q < s.heap.size → ¬ z_A G q → U.heap[q]? = s.heap[q]?) (h : z_E G s) : z_E G U := by
  obtain ⟨⟨a1, a2⟩, ⟨b1, b2⟩, c1, d1, e1, f1⟩ := h
  exact ⟨⟨(a1.moved hv).kept hk, (a2.moved hv).kept hk⟩, ⟨(b1.moved hv).kept hk, (b2.moved hv).kept hk⟩, (c1.moved hv).kept hk, (d1.moved hv).kept hk, fun i hi => hr _ _ _ _ (e1 i hi), (f1.moved hv).kept hk⟩
theorem z_K_warm {G : Gx} {s U : State} (hW : s.WarmedH U.vm) (hk : ∀ q, q < s.heap.size → ¬ z_A G q → U.heap[q]? = s.heap[q]?) (h : z_K G s) : z_K G U :=
  ⟨va_K.moved hW.alike h.1, fun w hw => va_Nw.warmM hW (h.2.1 w hw), z_E_to hW.alike (fun _ _ _ _ hR => hR.warm hW) hk h.2.2⟩
theorem z_K_same {G : Gx} {s U : State} (hv : U.vm = s.vm) (hh : U.heap = s.heap) (h : z_K G s) : z_K G U := by
  have ha : s.vm.Alike U.vm := by rw [hv]; exact Vm.Alike.refl s.vm
  exact ⟨va_K.moved ha h.1, fun w hw => va_Nw.same rfl hv.symm (h.2.1 w hw), z_E_to ha (fun _ _ _ _ hR => hR.same hv) (fun q _ _ => by rw [hh]) h.2.2⟩
/-! ===== the context of a walk ===== -/
abbrev Cx : Type := Gx × Nat × Program × Launch × Env × Room × State × MethodId × Array Value × List Frame × Method × Code
abbrev xG (X : Cx) : Gx := X.1
abbrev xn (X : Cx) : Nat := X.2.1
abbrev xp (X : Cx) : Program := X.2.2.1
abbrev xl (X : Cx) : Launch := X.2.2.2.1
abbrev xe (X : Cx) : Env := X.2.2.2.2.1
abbrev xR (X : Cx) : Room := X.2.2.2.2.2.1
abbrev xs (X : Cx) : State := X.2.2.2.2.2.2.1
abbrev xm (X : Cx) : MethodId := X.2.2.2.2.2.2.2.1
abbrev xa (X : Cx) : Array Value := X.2.2.2.2.2.2.2.2.1
abbrev xb (X : Cx) : List Frame := X.2.2.2.2.2.2.2.2.2.1
abbrev xM (X : Cx) : Method := X.2.2.2.2.2.2.2.2.2.2.1
abbrev xc (X : Cx) : Code := X.2.2.2.2.2.2.2.2.2.2.2
def Ok (X : Cx) (own : String) (cc : ByteArray) (nL fr lo mc ms : Nat) (rt : Option FieldType) : Prop :=
  (xp X).tables.exec = Jvm.exec ∧ (xc X).code = cc ∧ (xc X).maxLocals = nL ∧ (xs X).vm.findClass own = some (xm X).cls ∧ (∀ w ∈ GW, w.before (xa X) (xs X) = true) ∧ z_K (xG X) (xs X) ∧ (xM X).locks = false ∧ (xM X).sig.returnType = rt ∧ (xR X) = { frames := fr, cells := mc, slots := ms, locals := lo } ∧ (xs X).heap.size = (xG X).1 + xn X
abbrev WX (X : Cx) (H : Heap) (locs : List Loc) (cs sl : Nat) (Q : State → Prop) (g : JFrame) : Prop := W (xp X) (xl X) (xe X) (xR X) (xs X) (xm X) (xa X) (xb X) (xM X) (xc X) H locs cs sl Q g
/-- the machine at pc, with these locals, this stack, this heap, comes to where K says -/
def Sim (X : Cx) {ρ : Type} (Qf : ρ → State → Prop) (cs sl pc : Nat) (lv : List (Nat × Value)) (st : List Value) (h : Hp) (K : Option ρ) : Prop :=
  ∀ r, K = some r → ∀ (H : Heap) (locs : List Loc) (ls : Array Slot), zN h = xn X + cs → z_P (xG X) h H → va_S (z_A (xG X)) (xs X).heap H locs → lv_has ls (xc X).maxLocals lv → WX X H locs cs sl (Qf r) (F0 (xm X) pc ls st)
theorem W_size {p : Program} {l : Launch} {e : Env} {R : Room} {s : State} {m : MethodId} {args : Array Value} {below : List Frame} {meth : Method} {c : Code} {H : Heap} {locs : List Loc} {cells slots : Nat} {Q : State → Prop} {g : JFrame} (k : H.size ≤ s.heap.size + cells → W p l e R s m args below meth c H locs cells slots Q g) : W p l e R s m args below meth c H locs cells slots Q g := by
  intro T hT X
  have h1 : T.heap.size ≤ s.heap.size + cells := X.same.2.2.1
  rw [hT] at h1
  exact k h1 T hT X
/-! a field that an instruction names -/
def FF (own : String) (idx ci k : Nat) (ty : FieldType) (t : Nat) (fin : Bool) : Prop := ∃ r : vw_C, vwCl[ci]? = some r ∧ ci < 7 ∧ k < r.2.2 ∧ Cond.fieldLink own idx (r.2.1 k).1 (r.2.1 k).2.1 (r.2.1 k).2.2.1 ∈ GW ∧ parseFieldDescriptor (r.2.1 k).2.2.1 = some ty ∧ z_ft ci k = t ∧ (r.2.1 k).2.2.2 = fin ∧ (∀ w ∈ u_ws r.1 r.2.1 r.2.2, w ∈ GW) ∧ (∃ ty0 : Nat → FieldType, ∀ k, k < r.2.2 → parseFieldDescriptor (r.2.1 k).2.2.1 = some (ty0 k)) ∧ (∀ a, a < r.2.2 → ∀ b, b < r.2.2 → a ≠ b → (r.2.1 a).2.1 ≠ (r.2.1 b).2.1)
section SIM
variable {X : Cx} {own : String} {cc : ByteArray} {nL fr lo mc ms : Nat} {rt : Option FieldType} {ρ : Type} {Qf : ρ → State → Prop} {cs sl pc q : Nat} {lv lv' : List (Nat × Value)} {st : List Value} {h : Hp} {K : Option ρ}
theorem s_none : Sim X Qf cs sl pc lv st h none := fun r hr => by cases hr
theorem s_sub (ks : List Nat) (hl : lv_pick lv ks = lv') (k : Sim X Qf cs sl pc lv' st h K) : Sim X Qf cs sl pc lv st h K := fun r hr H locs ls hn hP hS hv => k r hr H locs ls hn hP hS (lv_sub hv ks hl)
theorem s_let {e : Int32} {K : Int32 → Option ρ} (k : ∀ x, Sim X Qf cs sl pc lv (.int x :: st) h (K x)) : Sim X Qf cs sl pc lv (.int e :: st) h (lt e K) := k e
theorem s_letl {e : Int64} {K : Int64 → Option ρ} (k : ∀ x, Sim X Qf cs sl pc lv (.long x :: st) h (K x)) : Sim X Qf cs sl pc lv (.long e :: st) h (lt e K) := k e
theorem s_iconst (o : Ok X own cc nL fr lo mc ms rt) {n : Int} {v : Int32} (d : decode cc pc = .ok (.iconst n, 1)) (hv : Int32.ofInt n = v) (hq : pc + 1 = q) (k : Sim X Qf cs sl q lv (.int v :: st) h K) : Sim X Qf cs sl pc lv st h K := by
  subst hq; exact fun r hr H locs ls hn hP hS hl => lv_iconst o.1 o.2.1 d hv (k r hr H locs ls hn hP hS hl)
theorem s_bipush (o : Ok X own cc nL fr lo mc ms rt) {n : Int} {v : Int32} (d : decode cc pc = .ok (.bipush n, 2)) (hv : (Int8.ofInt n).toInt32 = v) (hq : pc + 2 = q) (k : Sim X Qf cs sl q lv (.int v :: st) h K) : Sim X Qf cs sl pc lv st h K := by
  subst hq; exact fun r hr H locs ls hn hP hS hl => lv_bipush o.1 o.2.1 d hv (k r hr H locs ls hn hP hS hl)
theorem s_sipush (o : Ok X own cc nL fr lo mc ms rt) {n : Int} {v : Int32} (d : decode cc pc = .ok (.sipush n, 3)) (hv : (Int16.ofInt n).toInt32 = v) (hq : pc + 3 = q) (k : Sim X Qf cs sl q lv (.int v :: st) h K) : Sim X Qf cs sl pc lv st h K := by
  subst hq; exact fun r hr H locs ls hn hP hS hl => lv_sipush o.1 o.2.1 d hv (k r hr H locs ls hn hP hS hl)
theorem s_lconst (o : Ok X own cc nL fr lo mc ms rt) {n : Fin 2} {v : Int64} (d : decode cc pc = .ok (.lconst n, 1)) (hv : Int64.ofNat (n : Nat) = v) (hq : pc + 1 = q) (k : Sim X Qf cs sl q lv (.long v :: st) h K) : Sim X Qf cs sl pc lv st h K := by
  subst hq; exact fun r hr H locs ls hn hP hS hl => lv_lconst o.1 o.2.1 d hv (k r hr H locs ls hn hP hS hl)
theorem s_ldc (o : Ok X own cc nL fr lo mc ms rt) {i : Nat} {v : Int32} (hw : Cond.constant own i v ∈ GW) (d : decode cc pc = .ok (.ldc i, 2)) (hq : pc + 2 = q) (k : Sim X Qf cs sl q lv (.int v :: st) h K) : Sim X Qf cs sl pc lv st h K := by
  subst hq; exact fun r hr H locs ls hn hP hS hl => lv_ldc o.1 o.2.1 o.2.2.2.1 (o.2.2.2.2.1 _ hw) d (k r hr H locs ls hn hP hS hl)
theorem s_ldcw (o : Ok X own cc nL fr lo mc ms rt) {i : Nat} {v : Int32} (hw : Cond.constant own i v ∈ GW) (d : decode cc pc = .ok (.ldc_w i, 3)) (hq : pc + 3 = q) (k : Sim X Qf cs sl q lv (.int v :: st) h K) : Sim X Qf cs sl pc lv st h K := by
  subst hq; exact fun r hr H locs ls hn hP hS hl => lv_ldcw o.1 o.2.1 o.2.2.2.1 (o.2.2.2.2.1 _ hw) d (k r hr H locs ls hn hP hS hl)
theorem s_ldc2 (o : Ok X own cc nL fr lo mc ms rt) {i : Nat} {v : Int64} (hw : Cond.constantLong own i v ∈ GW) (d : decode cc pc = .ok (.ldc2_w i, 3)) (hq : pc + 3 = q) (k : Sim X Qf cs sl q lv (.long v :: st) h K) : Sim X Qf cs sl pc lv st h K := by
  subst hq; exact fun r hr H locs ls hn hP hS hl => lv_ldc2 o.1 o.2.1 o.2.2.2.1 (o.2.2.2.2.1 _ hw) d (k r hr H locs ls hn hP hS hl)
theorem s_iload_n (o : Ok X own cc nL fr lo mc ms rt) {f : Fin 4} {x : Int32} (j : Nat) (hj : lv[j]? = some ((f : Nat), .int x)) (d : decode cc pc = .ok (.iload_n f, 1)) (hq : pc + 1 = q) (k : Sim X Qf cs sl q lv (.int x :: st) h K) : Sim X Qf cs sl pc lv st h K := by
  subst hq; exact fun r hr H locs ls hn hP hS hl => lv_iload_n o.1 o.2.1 d rfl (lv_at hl j hj) (k r hr H locs ls hn hP hS hl)
theorem s_iload (o : Ok X own cc nL fr lo mc ms rt) {i : Nat} {x : Int32} (j : Nat) (hj : lv[j]? = some (i, .int x)) (d : decode cc pc = .ok (.iload i, 2)) (hq : pc + 2 = q) (k : Sim X Qf cs sl q lv (.int x :: st) h K) : Sim X Qf cs sl pc lv st h K := by
  subst hq; exact fun r hr H locs ls hn hP hS hl => lv_iload o.1 o.2.1 d (lv_at hl j hj) (k r hr H locs ls hn hP hS hl)
theorem s_lload_n (o : Ok X own cc nL fr lo mc ms rt) {f : Fin 4} {x : Int64} (j : Nat) (hj : lv[j]? = some ((f : Nat), .long x)) (d : decode cc pc = .ok (.lload_n f, 1)) (hq : pc + 1 = q) (k : Sim X Qf cs sl q lv (.long x :: st) h K) : Sim X Qf cs sl pc lv st h K := by
  subst hq; exact fun r hr H locs ls hn hP hS hl => lv_lload_n o.1 o.2.1 d rfl (lv_at hl j hj) (k r hr H locs ls hn hP hS hl)
theorem s_lload (o : Ok X own cc nL fr lo mc ms rt) {i : Nat} {x : Int64} (j : Nat) (hj : lv[j]? = some (i, .long x)) (d : decode cc pc = .ok (.lload i, 2)) (hq : pc + 2 = q) (k : Sim X Qf cs sl q lv (.long x :: st) h K) : Sim X Qf cs sl pc lv st h K := by
  subst hq; exact fun r hr H locs ls hn hP hS hl => lv_lload o.1 o.2.1 d (lv_at hl j hj) (k r hr H locs ls hn hP hS hl)
theorem s_aload_n (o : Ok X own cc nL fr lo mc ms rt) {f : Fin 4} {x : Nat} (j : Nat) (hj : lv[j]? = some ((f : Nat), .ref x)) (d : decode cc pc = .ok (.aload_n f, 1)) (hq : pc + 1 = q) (k : Sim X Qf cs sl q lv (.ref x :: st) h K) : Sim X Qf cs sl pc lv st h K := by
  subst hq; exact fun r hr H locs ls hn hP hS hl => lv_aload_n o.1 o.2.1 d rfl (lv_at hl j hj) (k r hr H locs ls hn hP hS hl)
theorem s_aload (o : Ok X own cc nL fr lo mc ms rt) {i : Nat} {x : Nat} (j : Nat) (hj : lv[j]? = some (i, .ref x)) (d : decode cc pc = .ok (.aload i, 2)) (hq : pc + 2 = q) (k : Sim X Qf cs sl q lv (.ref x :: st) h K) : Sim X Qf cs sl pc lv st h K := by
  subst hq; exact fun r hr H locs ls hn hP hS hl => lv_aload o.1 o.2.1 d (lv_at hl j hj) (k r hr H locs ls hn hP hS hl)
theorem s_istore_n (o : Ok X own cc nL fr lo mc ms rt) {f : Fin 4} {x : Int32} (ks : List Nat) (hl' : lv_pick (((f : Nat), Value.int x) :: lv.filter (fun q => !(q.1 == (f : Nat)) && !(q.1 + 1 == (f : Nat) && q.2.category == 2))) ks = lv') (d : decode cc pc = .ok (.istore_n f, 1)) (hi : (f : Nat) < nL) (hq : pc + 1 = q) (k : Sim X Qf cs sl q lv' st h K) : Sim X Qf cs sl pc lv (.int x :: st) h K := by
  subst hq; exact fun r hr H locs ls hn hP hS hl => lv_istore_n o.1 o.2.1 d rfl hl (by rw [o.2.2.1]; exact hi) rfl (fun ls' h' => k r hr H locs ls' hn hP hS (lv_sub h' ks hl'))
theorem s_istore (o : Ok X own cc nL fr lo mc ms rt) {i : Nat} {x : Int32} (ks : List Nat) (hl' : lv_pick ((i, Value.int x) :: lv.filter (fun q => !(q.1 == i) && !(q.1 + 1 == i && q.2.category == 2))) ks = lv') (d : decode cc pc = .ok (.istore i, 2)) (hi : i < nL) (hq : pc + 2 = q) (k : Sim X Qf cs sl q lv' st h K) : Sim X Qf cs sl pc lv (.int x :: st) h K := by
  subst hq; exact fun r hr H locs ls hn hP hS hl => lv_istore o.1 o.2.1 d hl (by rw [o.2.2.1]; exact hi) rfl (fun ls' h' => k r hr H locs ls' hn hP hS (lv_sub h' ks hl'))
theorem s_astore_n (o : Ok X own cc nL fr lo mc ms rt) {f : Fin 4} {x : Nat} (ks : List Nat) (hl' : lv_pick (((f : Nat), Value.ref x) :: lv.filter (fun q => !(q.1 == (f : Nat)) && !(q.1 + 1 == (f : Nat) && q.2.category == 2))) ks = lv') (d : decode cc pc = .ok (.astore_n f, 1)) (hi : (f : Nat) < nL) (hq : pc + 1 = q) (k : Sim X Qf cs sl q lv' st h K) : Sim X Qf cs sl pc lv (.ref x :: st) h K := by
  subst hq; exact fun r hr H locs ls hn hP hS hl => lv_astore_n o.1 o.2.1 d rfl hl (by rw [o.2.2.1]; exact hi) rfl (fun ls' h' => k r hr H locs ls' hn hP hS (lv_sub h' ks hl'))
theorem s_iinc (o : Ok X own cc nL fr lo mc ms rt) {i : Nat} {n : Int} {x v : Int32} {K : Int32 → Option ρ} (j : Nat) (hj : lv[j]? = some (i, .int x)) (hv : Int32.ofInt n = v) (ks : List Nat) {lv' : Int32 → List (Nat × Value)} (hl' : ∀ y : Int32, lv_pick ((i, Value.int y) :: lv.filter (fun q => !(q.1 == i) && !(q.1 + 1 == i && q.2.category == 2))) ks = lv' y) (d : decode cc pc = .ok (.iinc i n, 3)) (hi : i < nL) (hq : pc + 3 = q) (k : ∀ y, Sim X Qf cs sl q (lv' y) st h (K y)) : Sim X Qf cs sl pc lv st h (lt (x + v) K) := by
  subst hq; subst hv
  exact fun r hr H locs ls hn hP hS hl => lv_iinc o.1 o.2.1 d hl hj rfl (by rw [o.2.2.1]; exact hi) rfl (fun ls' h' => k _ r hr H locs ls' hn hP hS (lv_sub h' ks (hl' _)))
theorem s_iadd (o : Ok X own cc nL fr lo mc ms rt) {x y : Int32} (d : decode cc pc = .ok (.iadd, 1)) (hq : pc + 1 = q) (k : Sim X Qf cs sl q lv (.int (x + y) :: st) h K) : Sim X Qf cs sl pc lv (.int y :: .int x :: st) h K := by
  subst hq; exact fun r hr H locs ls hn hP hS hl => lv_iadd o.1 o.2.1 d (k r hr H locs ls hn hP hS hl)
theorem s_isub (o : Ok X own cc nL fr lo mc ms rt) {x y : Int32} (d : decode cc pc = .ok (.isub, 1)) (hq : pc + 1 = q) (k : Sim X Qf cs sl q lv (.int (x - y) :: st) h K) : Sim X Qf cs sl pc lv (.int y :: .int x :: st) h K := by
  subst hq; exact fun r hr H locs ls hn hP hS hl => lv_isub o.1 o.2.1 d (k r hr H locs ls hn hP hS hl)
theorem s_imul (o : Ok X own cc nL fr lo mc ms rt) {x y : Int32} (d : decode cc pc = .ok (.imul, 1)) (hq : pc + 1 = q) (k : Sim X Qf cs sl q lv (.int (x * y) :: st) h K) : Sim X Qf cs sl pc lv (.int y :: .int x :: st) h K := by
  subst hq; exact fun r hr H locs ls hn hP hS hl => lv_imul o.1 o.2.1 d (k r hr H locs ls hn hP hS hl)
theorem s_iand (o : Ok X own cc nL fr lo mc ms rt) {x y : Int32} (d : decode cc pc = .ok (.iand, 1)) (hq : pc + 1 = q) (k : Sim X Qf cs sl q lv (.int (x &&& y) :: st) h K) : Sim X Qf cs sl pc lv (.int y :: .int x :: st) h K := by
  subst hq; exact fun r hr H locs ls hn hP hS hl => lv_iand o.1 o.2.1 d (k r hr H locs ls hn hP hS hl)
theorem s_ior (o : Ok X own cc nL fr lo mc ms rt) {x y : Int32} (d : decode cc pc = .ok (.ior, 1)) (hq : pc + 1 = q) (k : Sim X Qf cs sl q lv (.int (x ||| y) :: st) h K) : Sim X Qf cs sl pc lv (.int y :: .int x :: st) h K := by
  subst hq; exact fun r hr H locs ls hn hP hS hl => lv_ior o.1 o.2.1 d (k r hr H locs ls hn hP hS hl)
theorem s_ixor (o : Ok X own cc nL fr lo mc ms rt) {x y : Int32} (d : decode cc pc = .ok (.ixor, 1)) (hq : pc + 1 = q) (k : Sim X Qf cs sl q lv (.int (x ^^^ y) :: st) h K) : Sim X Qf cs sl pc lv (.int y :: .int x :: st) h K := by
  subst hq; exact fun r hr H locs ls hn hP hS hl => lv_ixor o.1 o.2.1 d (k r hr H locs ls hn hP hS hl)
theorem s_ishl (o : Ok X own cc nL fr lo mc ms rt) {x y : Int32} (d : decode cc pc = .ok (.ishl, 1)) (hq : pc + 1 = q) (k : Sim X Qf cs sl q lv (.int (x <<< (y &&& 31)) :: st) h K) : Sim X Qf cs sl pc lv (.int y :: .int x :: st) h K := by
  subst hq; exact fun r hr H locs ls hn hP hS hl => lv_ishl o.1 o.2.1 d (k r hr H locs ls hn hP hS hl)
theorem s_ishr (o : Ok X own cc nL fr lo mc ms rt) {x y : Int32} (d : decode cc pc = .ok (.ishr, 1)) (hq : pc + 1 = q) (k : Sim X Qf cs sl q lv (.int (x >>> (y &&& 31)) :: st) h K) : Sim X Qf cs sl pc lv (.int y :: .int x :: st) h K := by
  subst hq; exact fun r hr H locs ls hn hP hS hl => lv_ishr o.1 o.2.1 d (k r hr H locs ls hn hP hS hl)
theorem s_iushr (o : Ok X own cc nL fr lo mc ms rt) {x y : Int32} (d : decode cc pc = .ok (.iushr, 1)) (hq : pc + 1 = q) (k : Sim X Qf cs sl q lv (.int ((x.toUInt32 >>> (y.toUInt32 &&& Int32.toUInt32 31)).toInt32) :: st) h K) : Sim X Qf cs sl pc lv (.int y :: .int x :: st) h K := by
  subst hq; exact fun r hr H locs ls hn hP hS hl => lv_iushr o.1 o.2.1 d rfl (k r hr H locs ls hn hP hS hl)
theorem s_ineg (o : Ok X own cc nL fr lo mc ms rt) {x : Int32} (d : decode cc pc = .ok (.ineg, 1)) (hq : pc + 1 = q) (k : Sim X Qf cs sl q lv (.int (-x) :: st) h K) : Sim X Qf cs sl pc lv (.int x :: st) h K := by
  subst hq; exact fun r hr H locs ls hn hP hS hl => lv_ineg o.1 o.2.1 d (k r hr H locs ls hn hP hS hl)
theorem s_idiv (o : Ok X own cc nL fr lo mc ms rt) {x y : Int32} (d : decode cc pc = .ok (.idiv, 1)) (hq : pc + 1 = q) (k : Sim X Qf cs sl q lv (.int (x / y) :: st) h K) : Sim X Qf cs sl pc lv (.int y :: .int x :: st) h (q_nz y K) := by
  subst hq
  intro r hr H locs ls hn hP hS hl
  unfold q_nz at hr
  by_cases hy : y = 0
  · rw [if_pos hy] at hr; cases hr
  · rw [if_neg hy] at hr
    exact lv_idiv o.1 o.2.1 d hy (k r hr H locs ls hn hP hS hl)
theorem s_irem (o : Ok X own cc nL fr lo mc ms rt) {x y : Int32} (d : decode cc pc = .ok (.irem, 1)) (hq : pc + 1 = q) (k : Sim X Qf cs sl q lv (.int (x - x / y * y) :: st) h K) : Sim X Qf cs sl pc lv (.int y :: .int x :: st) h (q_nz y K) := by
  subst hq
  intro r hr H locs ls hn hP hS hl
  unfold q_nz at hr
  by_cases hy : y = 0
  · rw [if_pos hy] at hr; cases hr
  · rw [if_neg hy] at hr
    exact lv_irem o.1 o.2.1 d hy (k r hr H locs ls hn hP hS hl)
theorem s_lrem (o : Ok X own cc nL fr lo mc ms rt) {x y : Int64} (d : decode cc pc = .ok (.lrem, 1)) (hq : pc + 1 = q) (k : Sim X Qf cs sl q lv (.long (x - x / y * y) :: st) h K) : Sim X Qf cs sl pc lv (.long y :: .long x :: st) h (q_nzl y K) := by
  subst hq
  intro r hr H locs ls hn hP hS hl
  unfold q_nzl at hr
  by_cases hy : y = 0
  · rw [if_pos hy] at hr; cases hr
  · rw [if_neg hy] at hr
    exact lv_lrem o.1 o.2.1 d hy (k r hr H locs ls hn hP hS hl)
theorem s_ladd (o : Ok X own cc nL fr lo mc ms rt) {x y : Int64} (d : decode cc pc = .ok (.ladd, 1)) (hq : pc + 1 = q) (k : Sim X Qf cs sl q lv (.long (x + y) :: st) h K) : Sim X Qf cs sl pc lv (.long y :: .long x :: st) h K := by
  subst hq; exact fun r hr H locs ls hn hP hS hl => lv_ladd o.1 o.2.1 d (k r hr H locs ls hn hP hS hl)
theorem s_lsub (o : Ok X own cc nL fr lo mc ms rt) {x y : Int64} (d : decode cc pc = .ok (.lsub, 1)) (hq : pc + 1 = q) (k : Sim X Qf cs sl q lv (.long (x - y) :: st) h K) : Sim X Qf cs sl pc lv (.long y :: .long x :: st) h K := by
  subst hq; exact fun r hr H locs ls hn hP hS hl => lv_lsub o.1 o.2.1 d (k r hr H locs ls hn hP hS hl)
theorem s_lmul (o : Ok X own cc nL fr lo mc ms rt) {x y : Int64} (d : decode cc pc = .ok (.lmul, 1)) (hq : pc + 1 = q) (k : Sim X Qf cs sl q lv (.long (x * y) :: st) h K) : Sim X Qf cs sl pc lv (.long y :: .long x :: st) h K := by
  subst hq; exact fun r hr H locs ls hn hP hS hl => lv_lmul o.1 o.2.1 d (k r hr H locs ls hn hP hS hl)
theorem s_land (o : Ok X own cc nL fr lo mc ms rt) {x y : Int64} (d : decode cc pc = .ok (.land, 1)) (hq : pc + 1 = q) (k : Sim X Qf cs sl q lv (.long (x &&& y) :: st) h K) : Sim X Qf cs sl pc lv (.long y :: .long x :: st) h K := by
  subst hq; exact fun r hr H locs ls hn hP hS hl => lv_land o.1 o.2.1 d (k r hr H locs ls hn hP hS hl)
theorem s_lor (o : Ok X own cc nL fr lo mc ms rt) {x y : Int64} (d : decode cc pc = .ok (.lor, 1)) (hq : pc + 1 = q) (k : Sim X Qf cs sl q lv (.long (x ||| y) :: st) h K) : Sim X Qf cs sl pc lv (.long y :: .long x :: st) h K := by
  subst hq; exact fun r hr H locs ls hn hP hS hl => lv_lor o.1 o.2.1 d (k r hr H locs ls hn hP hS hl)
theorem s_lshl (o : Ok X own cc nL fr lo mc ms rt) {x : Int64} {y : Int32} (d : decode cc pc = .ok (.lshl, 1)) (hq : pc + 1 = q) (k : Sim X Qf cs sl q lv (.long (x <<< (y.toInt64 &&& 63)) :: st) h K) : Sim X Qf cs sl pc lv (.int y :: .long x :: st) h K := by
  subst hq; exact fun r hr H locs ls hn hP hS hl => lv_lshl o.1 o.2.1 d rfl (k r hr H locs ls hn hP hS hl)
theorem s_lshr (o : Ok X own cc nL fr lo mc ms rt) {x : Int64} {y : Int32} (d : decode cc pc = .ok (.lshr, 1)) (hq : pc + 1 = q) (k : Sim X Qf cs sl q lv (.long (x >>> (y.toInt64 &&& 63)) :: st) h K) : Sim X Qf cs sl pc lv (.int y :: .long x :: st) h K := by
  subst hq; exact fun r hr H locs ls hn hP hS hl => lv_lshr o.1 o.2.1 d rfl (k r hr H locs ls hn hP hS hl)
theorem s_lushr (o : Ok X own cc nL fr lo mc ms rt) {x : Int64} {y : Int32} (d : decode cc pc = .ok (.lushr, 1)) (hq : pc + 1 = q) (k : Sim X Qf cs sl q lv (.long ((x.toUInt64 >>> (y.toInt64.toUInt64 &&& Int64.toUInt64 63)).toInt64) :: st) h K) : Sim X Qf cs sl pc lv (.int y :: .long x :: st) h K := by
  subst hq; exact fun r hr H locs ls hn hP hS hl => lv_lushr o.1 o.2.1 d rfl (k r hr H locs ls hn hP hS hl)
theorem s_lcmp (o : Ok X own cc nL fr lo mc ms rt) {x y : Int64} (d : decode cc pc = .ok (.lcmp, 1)) (hq : pc + 1 = q) (k : Sim X Qf cs sl q lv (.int (lg_cmp x y) :: st) h K) : Sim X Qf cs sl pc lv (.long y :: .long x :: st) h K := by
  subst hq; exact fun r hr H locs ls hn hP hS hl => W.lcmp o.1 o.2.1 d (k r hr H locs ls hn hP hS hl)
theorem s_i2l (o : Ok X own cc nL fr lo mc ms rt) {x : Int32} (d : decode cc pc = .ok (.i2l, 1)) (hq : pc + 1 = q) (k : Sim X Qf cs sl q lv (.long x.toInt64 :: st) h K) : Sim X Qf cs sl pc lv (.int x :: st) h K := by
  subst hq; exact fun r hr H locs ls hn hP hS hl => lv_i2l o.1 o.2.1 d rfl (k r hr H locs ls hn hP hS hl)
theorem s_l2i (o : Ok X own cc nL fr lo mc ms rt) {x : Int64} (d : decode cc pc = .ok (.l2i, 1)) (hq : pc + 1 = q) (k : Sim X Qf cs sl q lv (.int x.toInt32 :: st) h K) : Sim X Qf cs sl pc lv (.long x :: st) h K := by
  subst hq; exact fun r hr H locs ls hn hP hS hl => lv_l2i o.1 o.2.1 d rfl (k r hr H locs ls hn hP hS hl)
theorem s_i2b (o : Ok X own cc nL fr lo mc ms rt) {x : Int32} (d : decode cc pc = .ok (.i2b, 1)) (hq : pc + 1 = q) (k : Sim X Qf cs sl q lv (.int x.toInt8.toInt32 :: st) h K) : Sim X Qf cs sl pc lv (.int x :: st) h K := by
  subst hq; exact fun r hr H locs ls hn hP hS hl => lv_i2b o.1 o.2.1 d rfl (k r hr H locs ls hn hP hS hl)
theorem s_dup (o : Ok X own cc nL fr lo mc ms rt) {v : Value} (hc : v.category = 1) (d : decode cc pc = .ok (.dup, 1)) (hq : pc + 1 = q) (k : Sim X Qf cs sl q lv (v :: v :: st) h K) : Sim X Qf cs sl pc lv (v :: st) h K := by
  subst hq; exact fun r hr H locs ls hn hP hS hl => lv_dup o.1 o.2.1 d hc (k r hr H locs ls hn hP hS hl)
theorem s_dup2 (o : Ok X own cc nL fr lo mc ms rt) {v w : Value} (hc : v.category = 1) (hc2 : w.category = 1) (d : decode cc pc = .ok (.dup2, 1)) (hq : pc + 1 = q) (k : Sim X Qf cs sl q lv (v :: w :: v :: w :: st) h K) : Sim X Qf cs sl pc lv (v :: w :: st) h K := by
  subst hq; exact fun r hr H locs ls hn hP hS hl => lv_dup2_11 o.1 o.2.1 d hc hc2 (k r hr H locs ls hn hP hS hl)
theorem s_pop (o : Ok X own cc nL fr lo mc ms rt) {v : Value} (hc : v.category = 1) (d : decode cc pc = .ok (.pop, 1)) (hq : pc + 1 = q) (k : Sim X Qf cs sl q lv st h K) : Sim X Qf cs sl pc lv (v :: st) h K := by
  subst hq; exact fun r hr H locs ls hn hP hS hl => lv_pop o.1 o.2.1 d hc (k r hr H locs ls hn hP hS hl)
theorem s_goto (o : Ok X own cc nL fr lo mc ms rt) {off : Int} {tgt : Nat} (d : decode cc pc = .ok (.goto off, 3)) (ht : (pc : Int) + off = (tgt : Int)) (k : Sim X Qf cs sl tgt lv st h K) : Sim X Qf cs sl pc lv st h K := fun r hr H locs ls hn hP hS hl => lv_goto o.1 o.2.1 d ht (k r hr H locs ls hn hP hS hl)
end SIM
end
section
/-! ===== branches, fields, rows, calls, returns ===== -/
section SIMB
variable {X : Cx} {own : String} {cc : ByteArray} {nL fr lo mc ms : Nat} {rt : Option FieldType} {ρ : Type} {Qf : ρ → State → Prop} {cs sl pc q : Nat} {lv lv' : List (Nat × Value)} {st : List Value} {h : Hp} {K K1 K2 : Option ρ}
theorem s_if_eq (o : Ok X own cc nL fr lo mc ms rt) {x : Int32} {off : Int} {tgt : Nat} {dc : Decidable (x = 0)} (d : decode cc pc = .ok (.ifCond .eq off, 3)) (ht : (pc : Int) + off = (tgt : Int)) (hq : pc + 3 = q) (kt : Sim X Qf cs sl tgt lv st h K1) (kf : Sim X Qf cs sl q lv st h K2) : Sim X Qf cs sl pc lv (.int x :: st) h (@ite _ (x = 0) dc K1 K2) := by
  subst hq
  intro r hr H locs ls hn hP hS hl
  refine lv_if_eq o.1 o.2.1 d ht (fun c => ?_) (fun c => ?_)
  · rw [if_pos c] at hr; exact kt r hr H locs ls hn hP hS hl
  · rw [if_neg c] at hr; exact kf r hr H locs ls hn hP hS hl
theorem s_ic_eq (o : Ok X own cc nL fr lo mc ms rt) {x y : Int32} {off : Int} {tgt : Nat} {dc : Decidable (x = y)} (d : decode cc pc = .ok (.if_icmp .eq off, 3)) (ht : (pc : Int) + off = (tgt : Int)) (hq : pc + 3 = q) (kt : Sim X Qf cs sl tgt lv st h K1) (kf : Sim X Qf cs sl q lv st h K2) : Sim X Qf cs sl pc lv (.int y :: .int x :: st) h (@ite _ (x = y) dc K1 K2) := by
  subst hq
  intro r hr H locs ls hn hP hS hl
  refine lv_icmp_eq o.1 o.2.1 d ht (fun c => ?_) (fun c => ?_)
  · rw [if_pos c] at hr; exact kt r hr H locs ls hn hP hS hl
  · rw [if_neg c] at hr; exact kf r hr H locs ls hn hP hS hl
theorem s_if_ne (o : Ok X own cc nL fr lo mc ms rt) {x : Int32} {off : Int} {tgt : Nat} {dc : Decidable (¬ x = 0)} (d : decode cc pc = .ok (.ifCond .ne off, 3)) (ht : (pc : Int) + off = (tgt : Int)) (hq : pc + 3 = q) (kt : Sim X Qf cs sl tgt lv st h K1) (kf : Sim X Qf cs sl q lv st h K2) : Sim X Qf cs sl pc lv (.int x :: st) h (@ite _ (¬ x = 0) dc K1 K2) := by
  subst hq
  intro r hr H locs ls hn hP hS hl
  refine lv_if_ne o.1 o.2.1 d ht (fun c => ?_) (fun c => ?_)
  · rw [if_pos c] at hr; exact kt r hr H locs ls hn hP hS hl
  · rw [if_neg (fun n9 => n9 c)] at hr; exact kf r hr H locs ls hn hP hS hl
theorem s_ic_ne (o : Ok X own cc nL fr lo mc ms rt) {x y : Int32} {off : Int} {tgt : Nat} {dc : Decidable (¬ x = y)} (d : decode cc pc = .ok (.if_icmp .ne off, 3)) (ht : (pc : Int) + off = (tgt : Int)) (hq : pc + 3 = q) (kt : Sim X Qf cs sl tgt lv st h K1) (kf : Sim X Qf cs sl q lv st h K2) : Sim X Qf cs sl pc lv (.int y :: .int x :: st) h (@ite _ (¬ x = y) dc K1 K2) := by
  subst hq
  intro r hr H locs ls hn hP hS hl
  refine lv_icmp_ne o.1 o.2.1 d ht (fun c => ?_) (fun c => ?_)
  · rw [if_pos c] at hr; exact kt r hr H locs ls hn hP hS hl
  · rw [if_neg (fun n9 => n9 c)] at hr; exact kf r hr H locs ls hn hP hS hl
theorem s_if_lt (o : Ok X own cc nL fr lo mc ms rt) {x : Int32} {off : Int} {tgt : Nat} {dc : Decidable (x < 0)} (d : decode cc pc = .ok (.ifCond .lt off, 3)) (ht : (pc : Int) + off = (tgt : Int)) (hq : pc + 3 = q) (kt : Sim X Qf cs sl tgt lv st h K1) (kf : Sim X Qf cs sl q lv st h K2) : Sim X Qf cs sl pc lv (.int x :: st) h (@ite _ (x < 0) dc K1 K2) := by
  subst hq
  intro r hr H locs ls hn hP hS hl
  refine lv_if_lt o.1 o.2.1 d ht (fun c => ?_) (fun c => ?_)
  · rw [if_pos c] at hr; exact kt r hr H locs ls hn hP hS hl
  · rw [if_neg c] at hr; exact kf r hr H locs ls hn hP hS hl
theorem s_ic_lt (o : Ok X own cc nL fr lo mc ms rt) {x y : Int32} {off : Int} {tgt : Nat} {dc : Decidable (x < y)} (d : decode cc pc = .ok (.if_icmp .lt off, 3)) (ht : (pc : Int) + off = (tgt : Int)) (hq : pc + 3 = q) (kt : Sim X Qf cs sl tgt lv st h K1) (kf : Sim X Qf cs sl q lv st h K2) : Sim X Qf cs sl pc lv (.int y :: .int x :: st) h (@ite _ (x < y) dc K1 K2) := by
  subst hq
  intro r hr H locs ls hn hP hS hl
  refine lv_icmp_lt o.1 o.2.1 d ht (fun c => ?_) (fun c => ?_)
  · rw [if_pos c] at hr; exact kt r hr H locs ls hn hP hS hl
  · rw [if_neg c] at hr; exact kf r hr H locs ls hn hP hS hl
theorem s_if_ge (o : Ok X own cc nL fr lo mc ms rt) {x : Int32} {off : Int} {tgt : Nat} {dc : Decidable (0 ≤ x)} (d : decode cc pc = .ok (.ifCond .ge off, 3)) (ht : (pc : Int) + off = (tgt : Int)) (hq : pc + 3 = q) (kt : Sim X Qf cs sl tgt lv st h K1) (kf : Sim X Qf cs sl q lv st h K2) : Sim X Qf cs sl pc lv (.int x :: st) h (@ite _ (0 ≤ x) dc K1 K2) := by
  subst hq
  intro r hr H locs ls hn hP hS hl
  refine lv_if_ge o.1 o.2.1 d ht (fun c => ?_) (fun c => ?_)
  · rw [if_pos c] at hr; exact kt r hr H locs ls hn hP hS hl
  · rw [if_neg c] at hr; exact kf r hr H locs ls hn hP hS hl
theorem s_ic_ge (o : Ok X own cc nL fr lo mc ms rt) {x y : Int32} {off : Int} {tgt : Nat} {dc : Decidable (y ≤ x)} (d : decode cc pc = .ok (.if_icmp .ge off, 3)) (ht : (pc : Int) + off = (tgt : Int)) (hq : pc + 3 = q) (kt : Sim X Qf cs sl tgt lv st h K1) (kf : Sim X Qf cs sl q lv st h K2) : Sim X Qf cs sl pc lv (.int y :: .int x :: st) h (@ite _ (y ≤ x) dc K1 K2) := by
  subst hq
  intro r hr H locs ls hn hP hS hl
  refine lv_icmp_ge o.1 o.2.1 d ht (fun c => ?_) (fun c => ?_)
  · rw [if_pos c] at hr; exact kt r hr H locs ls hn hP hS hl
  · rw [if_neg c] at hr; exact kf r hr H locs ls hn hP hS hl
theorem s_if_gt (o : Ok X own cc nL fr lo mc ms rt) {x : Int32} {off : Int} {tgt : Nat} {dc : Decidable (0 < x)} (d : decode cc pc = .ok (.ifCond .gt off, 3)) (ht : (pc : Int) + off = (tgt : Int)) (hq : pc + 3 = q) (kt : Sim X Qf cs sl tgt lv st h K1) (kf : Sim X Qf cs sl q lv st h K2) : Sim X Qf cs sl pc lv (.int x :: st) h (@ite _ (0 < x) dc K1 K2) := by
  subst hq
  intro r hr H locs ls hn hP hS hl
  refine lv_if_gt o.1 o.2.1 d ht (fun c => ?_) (fun c => ?_)
  · rw [if_pos c] at hr; exact kt r hr H locs ls hn hP hS hl
  · rw [if_neg c] at hr; exact kf r hr H locs ls hn hP hS hl
theorem s_ic_gt (o : Ok X own cc nL fr lo mc ms rt) {x y : Int32} {off : Int} {tgt : Nat} {dc : Decidable (y < x)} (d : decode cc pc = .ok (.if_icmp .gt off, 3)) (ht : (pc : Int) + off = (tgt : Int)) (hq : pc + 3 = q) (kt : Sim X Qf cs sl tgt lv st h K1) (kf : Sim X Qf cs sl q lv st h K2) : Sim X Qf cs sl pc lv (.int y :: .int x :: st) h (@ite _ (y < x) dc K1 K2) := by
  subst hq
  intro r hr H locs ls hn hP hS hl
  refine lv_icmp_gt o.1 o.2.1 d ht (fun c => ?_) (fun c => ?_)
  · rw [if_pos c] at hr; exact kt r hr H locs ls hn hP hS hl
  · rw [if_neg c] at hr; exact kf r hr H locs ls hn hP hS hl
theorem s_if_le (o : Ok X own cc nL fr lo mc ms rt) {x : Int32} {off : Int} {tgt : Nat} {dc : Decidable (x ≤ 0)} (d : decode cc pc = .ok (.ifCond .le off, 3)) (ht : (pc : Int) + off = (tgt : Int)) (hq : pc + 3 = q) (kt : Sim X Qf cs sl tgt lv st h K1) (kf : Sim X Qf cs sl q lv st h K2) : Sim X Qf cs sl pc lv (.int x :: st) h (@ite _ (x ≤ 0) dc K1 K2) := by
  subst hq
  intro r hr H locs ls hn hP hS hl
  refine lv_if_le o.1 o.2.1 d ht (fun c => ?_) (fun c => ?_)
  · rw [if_pos c] at hr; exact kt r hr H locs ls hn hP hS hl
  · rw [if_neg c] at hr; exact kf r hr H locs ls hn hP hS hl
theorem s_ic_le (o : Ok X own cc nL fr lo mc ms rt) {x y : Int32} {off : Int} {tgt : Nat} {dc : Decidable (x ≤ y)} (d : decode cc pc = .ok (.if_icmp .le off, 3)) (ht : (pc : Int) + off = (tgt : Int)) (hq : pc + 3 = q) (kt : Sim X Qf cs sl tgt lv st h K1) (kf : Sim X Qf cs sl q lv st h K2) : Sim X Qf cs sl pc lv (.int y :: .int x :: st) h (@ite _ (x ≤ y) dc K1 K2) := by
  subst hq
  intro r hr H locs ls hn hP hS hl
  refine lv_icmp_le o.1 o.2.1 d ht (fun c => ?_) (fun c => ?_)
  · rw [if_pos c] at hr; exact kt r hr H locs ls hn hP hS hl
  · rw [if_neg c] at hr; exact kf r hr H locs ls hn hP hS hl
/-- a switch over a dense row: the K of each place by a list, the other one's K -/
theorem s_table (o : Ok X own cc nL fr lo mc ms rt) {x : Int32} {dflt lw hg : Int} {offs : Array Int} {len : Nat} {dc : Decidable (x.toInt < lw ∨ hg < x.toInt)} {Kf : Int → Option ρ} {tgt : Int → Nat} {tgD : Nat} (d : decode cc pc = .ok (.tableswitch dflt lw hg offs, len)) (hD : (pc : Int) + dflt = (tgD : Int)) (hT : ∀ i : Int, lw ≤ i → i ≤ hg → ∃ off, offs[(i - lw).toNat]? = some off ∧ (pc : Int) + off = (tgt i : Int)) (kd : Sim X Qf cs sl tgD lv st h K1) (kt : ∀ i : Int, lw ≤ i → i ≤ hg → Sim X Qf cs sl (tgt i) lv st h (Kf i)) : Sim X Qf cs sl pc lv (.int x :: st) h (@ite _ (x.toInt < lw ∨ hg < x.toInt) dc K1 (Kf x.toInt)) := by
  intro r hr H locs ls hn hP hS hl
  by_cases c : x.toInt < lw ∨ hg < x.toInt
  · rw [if_pos c] at hr
    exact lv_tableOut o.1 o.2.1 d c hD (kd r hr H locs ls hn hP hS hl)
  · rw [if_neg c] at hr
    obtain ⟨off, h1, h2⟩ := hT x.toInt (by omega) (by omega)
    exact lv_tableIn o.1 o.2.1 d (by omega) (by omega) h1 h2 (kt x.toInt (by omega) (by omega) r hr H locs ls hn hP hS hl)
theorem s_gi (o : Ok X own cc nL fr lo mc ms rt) {a ci k idx : Nat} {fin : Bool} {K : Int32 → Option ρ} (f : FF own idx ci k .int 0 fin) (d : decode cc pc = .ok (.getfield idx, 3)) (hq : pc + 3 = q) (kk : ∀ v, Sim X Qf cs sl q lv (.int v :: st) h (K v)) : Sim X Qf cs sl pc lv (rf (xG X) a :: st) h ((q_gi h a ci k).bind K) := by
  subst hq
  intro r hr H locs ls hn hP hS hl
  obtain ⟨v, hv, hr⟩ := Option.bind_eq_some_iff.mp hr
  obtain ⟨rr, f1, f2, f3, f4, f5, f6, f7, f8, f9, f10⟩ := f
  unfold q_gi at hv
  split at hv
  · rename_i hk
    cases hv
    have ha : a < zN h := hP.2 a (by omega)
    have hnf : z_nf ci = rr.2.2 := by unfold z_nf; rw [f1]
    have hw := z_W_at (xG X) h ha
    rw [z_cell_o (xG X) hk f2] at hw
    refine va_get (C := rr.1) (T := rr.2.1) (N := rr.2.2) o.1 o.2.1 (o.2.2.2.2.1) f8 o.2.2.2.1 o.2.2.2.2.2.1.1 hP.1 a hw f1 k f3 (o.2.2.2.2.1 _ f4) (fun _ h9 => h9) (v := .int (zI h a k)) ?_ d (kk _ r hr H locs ls hn hP hS hl)
    rw [z_fs_at _ _ (by rw [hnf]; exact f3)]
    simp [z_fv, f6]
  · cases hv
theorem s_gl (o : Ok X own cc nL fr lo mc ms rt) {a ci k idx : Nat} {fin : Bool} {K : Int64 → Option ρ} (f : FF own idx ci k .long 1 fin) (d : decode cc pc = .ok (.getfield idx, 3)) (hq : pc + 3 = q) (kk : ∀ v, Sim X Qf cs sl q lv (.long v :: st) h (K v)) : Sim X Qf cs sl pc lv (rf (xG X) a :: st) h ((q_gl h a ci k).bind K) := by
  subst hq
  intro r hr H locs ls hn hP hS hl
  obtain ⟨v, hv, hr⟩ := Option.bind_eq_some_iff.mp hr
  obtain ⟨rr, f1, f2, f3, f4, f5, f6, f7, f8, f9, f10⟩ := f
  unfold q_gl at hv
  split at hv
  · rename_i hk
    cases hv
    have ha : a < zN h := hP.2 a (by omega)
    have hnf : z_nf ci = rr.2.2 := by unfold z_nf; rw [f1]
    have hw := z_W_at (xG X) h ha
    rw [z_cell_o (xG X) hk f2] at hw
    refine va_get (C := rr.1) (T := rr.2.1) (N := rr.2.2) o.1 o.2.1 (o.2.2.2.2.1) f8 o.2.2.2.1 o.2.2.2.2.2.1.1 hP.1 a hw f1 k f3 (o.2.2.2.2.1 _ f4) (fun _ h9 => h9) (v := .long (zL h a k)) ?_ d (kk _ r hr H locs ls hn hP hS hl)
    rw [z_fs_at _ _ (by rw [hnf]; exact f3)]
    simp [z_fv, f6]
  · cases hv
theorem s_gr (o : Ok X own cc nL fr lo mc ms rt) {a ci k idx : Nat} {fin : Bool} {ty : FieldType} {K : Nat → Option ρ} (f : FF own idx ci k ty 2 fin) (d : decode cc pc = .ok (.getfield idx, 3)) (hq : pc + 3 = q) (kk : ∀ v, Sim X Qf cs sl q lv (rf (xG X) v :: st) h (K v)) : Sim X Qf cs sl pc lv (rf (xG X) a :: st) h ((q_gr h a ci k).bind K) := by
  subst hq
  intro r hr H locs ls hn hP hS hl
  obtain ⟨v, hv, hr⟩ := Option.bind_eq_some_iff.mp hr
  obtain ⟨rr, f1, f2, f3, f4, f5, f6, f7, f8, f9, f10⟩ := f
  unfold q_gr at hv
  split at hv
  · rename_i hk
    have ha : a < zN h := hP.2 a (by omega)
    have hnf : z_nf ci = rr.2.2 := by unfold z_nf; rw [f1]
    have hw := z_W_at (xG X) h ha
    rw [z_cell_o (xG X) hk f2] at hw
    refine va_get (C := rr.1) (T := rr.2.1) (N := rr.2.2) o.1 o.2.1 (o.2.2.2.2.1) f8 o.2.2.2.1 o.2.2.2.2.2.1.1 hP.1 a hw f1 k f3 (o.2.2.2.2.1 _ f4) (fun _ h9 => h9) (v := rf (xG X) v) ?_ d (kk _ r hr H locs ls hn hP hS hl)
    rw [z_fs_at _ _ (by rw [hnf]; exact f3)]
    simp [z_fv, f6, hv, va_rf]
  · cases hv
theorem s_pi (o : Ok X own cc nL fr lo mc ms rt) {a ci k idx : Nat} {v : Int32} {K : Hp → Option ρ} (f : FF own idx ci k .int 0 false) (d : decode cc pc = .ok (.putfield idx, 3)) (hq : pc + 3 = q) (kk : ∀ h', Sim X Qf cs sl q lv st h' (K h')) : Sim X Qf cs sl pc lv (.int v :: rf (xG X) a :: st) h ((q_pi h a ci k v).bind K) := by
  subst hq
  intro r hr H locs ls hn hP hS hl
  obtain ⟨h', hv, hr⟩ := Option.bind_eq_some_iff.mp hr
  obtain ⟨rr, f1, f2, f3, f4, f5, f6, f7, f8, ⟨ty0, f9⟩, f10⟩ := f
  unfold q_pi at hv
  split at hv
  · rename_i hk
    cases hv
    have ha : a < zN h := hP.2 a (by omega)
    have hnf : z_nf ci = rr.2.2 := by unfold z_nf; rw [f1]
    have hw := z_W_at (xG X) h ha
    rw [z_cell_o (xG X) hk f2] at hw
    have he : z_cell (xG X) (sI h a k v) a = .inr (ci, ((List.range (z_nf ci)).map (z_fv (xG X) h ci a)).set k (.int v)) := by
      rw [z_cell_o (xG X) (h := sI h a k v) hk f2]
      rw [z_fs_set (z_nf ci) (z_fv (xG X) h ci a) (z_fv (xG X) (sI h a k v) ci a)]
      · simp [z_fv, f6, sI, up2, zI, zL, zR]
      · intro j hj
        simp [z_fv, sI, up2, hj, zI, zL, zR]
    refine va_put (C := rr.1) (T := rr.2.1) (N := rr.2.2) (ty := .int) o.1 o.2.1 (o.2.2.2.2.1) f8 ty0 f9 f10 o.2.2.2.1 o.2.2.2.2.2.1.1 hP.1 (z_W_D _ _) hS a hw f1 k f3 (o.2.2.2.2.1 _ f4) (fun _ h9 => h9) f7 f5 rfl rfl (by simpa [hnf] using f3) d (fun H1 locs1 hP1 hD1 hS1 => ?_)
    rw [z_sI ha he] at hP1
    exact kk _ r hr H1 locs1 ls hn ⟨hP1, hP.2⟩ hS1 hl
  · cases hv
theorem s_pl (o : Ok X own cc nL fr lo mc ms rt) {a ci k idx : Nat} {v : Int64} {K : Hp → Option ρ} (f : FF own idx ci k .long 1 false) (d : decode cc pc = .ok (.putfield idx, 3)) (hq : pc + 3 = q) (kk : ∀ h', Sim X Qf cs sl q lv st h' (K h')) : Sim X Qf cs sl pc lv (.long v :: rf (xG X) a :: st) h ((q_pl h a ci k v).bind K) := by
  subst hq
  intro r hr H locs ls hn hP hS hl
  obtain ⟨h', hv, hr⟩ := Option.bind_eq_some_iff.mp hr
  obtain ⟨rr, f1, f2, f3, f4, f5, f6, f7, f8, ⟨ty0, f9⟩, f10⟩ := f
  unfold q_pl at hv
  split at hv
  · rename_i hk
    cases hv
    have ha : a < zN h := hP.2 a (by omega)
    have hnf : z_nf ci = rr.2.2 := by unfold z_nf; rw [f1]
    have hw := z_W_at (xG X) h ha
    rw [z_cell_o (xG X) hk f2] at hw
    have he : z_cell (xG X) (sL h a k v) a = .inr (ci, ((List.range (z_nf ci)).map (z_fv (xG X) h ci a)).set k (.long v)) := by
      rw [z_cell_o (xG X) (h := sL h a k v) hk f2]
      rw [z_fs_set (z_nf ci) (z_fv (xG X) h ci a) (z_fv (xG X) (sL h a k v) ci a)]
      · simp [z_fv, f6, sL, up2, zI, zL, zR]
      · intro j hj
        simp [z_fv, sL, up2, hj, zI, zL, zR]
    refine va_put (C := rr.1) (T := rr.2.1) (N := rr.2.2) (ty := .long) o.1 o.2.1 (o.2.2.2.2.1) f8 ty0 f9 f10 o.2.2.2.1 o.2.2.2.2.2.1.1 hP.1 (z_W_D _ _) hS a hw f1 k f3 (o.2.2.2.2.1 _ f4) (fun _ h9 => h9) f7 f5 rfl rfl (by simpa [hnf] using f3) d (fun H1 locs1 hP1 hD1 hS1 => ?_)
    rw [z_sL ha he] at hP1
    exact kk _ r hr H1 locs1 ls hn ⟨hP1, hP.2⟩ hS1 hl
  · cases hv
theorem s_pr (o : Ok X own cc nL fr lo mc ms rt) {a ci k idx v : Nat} {ty : FieldType} {K : Hp → Option ρ} (f : FF own idx ci k ty 2 false) (hna : ∀ x : Nat, narrow ty (.ref x) = .ref x) (hfi : ∀ x : Nat, fits ty (.ref x) = true) (d : decode cc pc = .ok (.putfield idx, 3)) (hq : pc + 3 = q) (kk : ∀ h', Sim X Qf cs sl q lv st h' (K h')) : Sim X Qf cs sl pc lv (rf (xG X) v :: rf (xG X) a :: st) h ((q_pr h a ci k v).bind K) := by
  subst hq
  intro r hr H locs ls hn hP hS hl
  obtain ⟨h', hv, hr⟩ := Option.bind_eq_some_iff.mp hr
  obtain ⟨rr, f1, f2, f3, f4, f5, f6, f7, f8, ⟨ty0, f9⟩, f10⟩ := f
  unfold q_pr at hv
  split at hv
  · rename_i hk
    cases hv
    have ha : a < zN h := hP.2 a (by omega)
    have hnf : z_nf ci = rr.2.2 := by unfold z_nf; rw [f1]
    have hw := z_W_at (xG X) h ha
    rw [z_cell_o (xG X) hk f2] at hw
    have he : z_cell (xG X) (sR h a k (some v)) a = .inr (ci, ((List.range (z_nf ci)).map (z_fv (xG X) h ci a)).set k (rf (xG X) v)) := by
      rw [z_cell_o (xG X) (h := sR h a k (some v)) hk f2]
      rw [z_fs_set (z_nf ci) (z_fv (xG X) h ci a) (z_fv (xG X) (sR h a k (some v)) ci a)]
      · simp [z_fv, f6, sR, up2, va_rf, zI, zL, zR]
      · intro j hj
        simp [z_fv, sR, up2, hj, zI, zL, zR]
    refine va_put (C := rr.1) (T := rr.2.1) (N := rr.2.2) (ty := ty) o.1 o.2.1 (o.2.2.2.2.1) f8 ty0 f9 f10 o.2.2.2.1 o.2.2.2.2.2.1.1 hP.1 (z_W_D _ _) hS a hw f1 k f3 (o.2.2.2.2.1 _ f4) (fun _ h9 => h9) f7 f5 (hna _) (hfi _) (by simpa [hnf] using f3) d (fun H1 locs1 hP1 hD1 hS1 => ?_)
    rw [z_sR ha he] at hP1
    exact kk _ r hr H1 locs1 ls hn ⟨hP1, hP.2⟩ hS1 hl
  · cases hv
theorem s_prF (o : Ok X own cc nL fr lo mc ms rt) {a ci k idx v : Nat} {ty : FieldType} {K : Hp → Option ρ} (f : FF own idx ci k ty 2 true) (hna : ∀ x : Nat, narrow ty (.ref x) = .ref x) (hfi : ∀ x : Nat, fits ty (.ref x) = true) (hin : (xM X).name = "<init>") (hde : ∀ rr : vw_C, vwCl[ci]? = some rr → (rr.2.1 k).1 = own) (d : decode cc pc = .ok (.putfield idx, 3)) (hq : pc + 3 = q) (kk : ∀ h', Sim X Qf cs sl q lv st h' (K h')) : Sim X Qf cs sl pc lv (rf (xG X) v :: rf (xG X) a :: st) h ((q_pr h a ci k v).bind K) := by
  subst hq
  intro r hr H locs ls hn hP hS hl
  obtain ⟨h', hv, hr⟩ := Option.bind_eq_some_iff.mp hr
  obtain ⟨rr, f1, f2, f3, f4, f5, f6, f7, f8, ⟨ty0, f9⟩, f10⟩ := f
  unfold q_pr at hv
  split at hv
  · rename_i hk
    cases hv
    have ha : a < zN h := hP.2 a (by omega)
    have hnf : z_nf ci = rr.2.2 := by unfold z_nf; rw [f1]
    have hw := z_W_at (xG X) h ha
    rw [z_cell_o (xG X) hk f2] at hw
    have he : z_cell (xG X) (sR h a k (some v)) a = .inr (ci, ((List.range (z_nf ci)).map (z_fv (xG X) h ci a)).set k (rf (xG X) v)) := by
      rw [z_cell_o (xG X) (h := sR h a k (some v)) hk f2]
      rw [z_fs_set (z_nf ci) (z_fv (xG X) h ci a) (z_fv (xG X) (sR h a k (some v)) ci a)]
      · simp [z_fv, f6, sR, up2, va_rf, zI, zL, zR]
      · intro j hj
        simp [z_fv, sR, up2, hj, zI, zL, zR]
    refine va_putF (C := rr.1) (T := rr.2.1) (N := rr.2.2) (ty := ty) o.1 o.2.1 (o.2.2.2.2.1) f8 ty0 f9 f10 o.2.2.2.1 o.2.2.2.2.2.1.1 hP.1 (z_W_D _ _) hS a hw f1 k f3 (o.2.2.2.2.1 _ f4) (fun _ h9 => h9) f7 hin (hde _ f1) f5 (hna _) (hfi _) (by simpa [hnf] using f3) d (fun H1 locs1 hP1 hD1 hS1 => ?_)
    rw [z_sR ha he] at hP1
    exact kk _ r hr H1 locs1 ls hn ⟨hP1, hP.2⟩ hS1 hl
  · cases hv
theorem s_iald (o : Ok X own cc nL fr lo mc ms rt) {a : Nat} {i : Int32} {K : Int32 → Option ρ} (d : decode cc pc = .ok (.iaload, 1)) (hq : pc + 1 = q) (kk : ∀ v, Sim X Qf cs sl q lv (.int v :: st) h (K v)) : Sim X Qf cs sl pc lv (.int i :: rf (xG X) a :: st) h ((q_ai h a 9 i).bind K) := by
  subst hq
  intro r hr H locs ls hn hP hS hl
  obtain ⟨v, hv, hr⟩ := Option.bind_eq_some_iff.mp hr
  unfold q_ai at hv
  split at hv
  · rename_i hk
    cases hv
    have ha : a < zN h := hP.2 a (by omega)
    have hw := z_W_at (xG X) h ha
    rw [z_cell_i (xG X) hk.1] at hw
    exact va_iald o.1 o.2.1 o.2.2.2.2.2.1.1 hP.1 a 1 hw rfl (vp_in_iff.mpr hk.2) d (kk _ r hr H locs ls hn hP hS hl)
  · cases hv
theorem s_iast (o : Ok X own cc nL fr lo mc ms rt) {a : Nat} {i x : Int32} {K : Hp → Option ρ} (d : decode cc pc = .ok (.iastore, 1)) (hq : pc + 1 = q) (kk : ∀ h', Sim X Qf cs sl q lv st h' (K h')) : Sim X Qf cs sl pc lv (.int x :: .int i :: rf (xG X) a :: st) h ((q_as h a 9 i x).bind K) := by
  subst hq
  intro r hr H locs ls hn hP hS hl
  obtain ⟨h', hv, hr⟩ := Option.bind_eq_some_iff.mp hr
  unfold q_as at hv
  split at hv
  · rename_i hk
    cases hv
    have ha : a < zN h := hP.2 a (by omega)
    have hw := z_W_at (xG X) h ha
    rw [z_cell_i (xG X) hk.1] at hw
    refine va_iast o.1 o.2.1 o.2.2.2.2.2.1.1 hP.1 (z_W_D _ _) hS a 1 hw rfl (vp_in_iff.mpr hk.2) d (fun H1 locs1 hP1 hD1 hS1 => ?_)
    rw [z_sI (k := i.toNatClampNeg) (v := x) ha (by rw [z_cell_i (xG X) (h := sI h a i.toNatClampNeg x) hk.1]; congr 3; congr 1; funext y; simp [sI, up2, upd, zI])] at hP1
    exact kk _ r hr H1 locs1 ls hn ⟨hP1, hP.2⟩ hS1 hl
  · cases hv
theorem s_bald (o : Ok X own cc nL fr lo mc ms rt) {a : Nat} {i : Int32} {K : Int32 → Option ρ} (d : decode cc pc = .ok (.baload, 1)) (hq : pc + 1 = q) (kk : ∀ v, Sim X Qf cs sl q lv (.int v :: st) h (K v)) : Sim X Qf cs sl pc lv (.int i :: rf (xG X) a :: st) h ((q_ai h a 8 i).bind K) := by
  subst hq
  intro r hr H locs ls hn hP hS hl
  obtain ⟨v, hv, hr⟩ := Option.bind_eq_some_iff.mp hr
  unfold q_ai at hv
  split at hv
  · rename_i hk
    cases hv
    have ha : a < zN h := hP.2 a (by omega)
    have hw := z_W_at (xG X) h ha
    rw [z_cell_b (xG X) hk.1] at hw
    exact va_bald o.1 o.2.1 o.2.2.2.2.2.1.1 hP.1 a 0 hw rfl (vp_in_iff.mpr hk.2) d (kk _ r hr H locs ls hn hP hS hl)
  · cases hv
theorem s_bast (o : Ok X own cc nL fr lo mc ms rt) {a : Nat} {i x : Int32} {K : Hp → Option ρ} (d : decode cc pc = .ok (.bastore, 1)) (hq : pc + 1 = q) (kk : ∀ h', Sim X Qf cs sl q lv st h' (K h')) : Sim X Qf cs sl pc lv (.int x :: .int i :: rf (xG X) a :: st) h ((q_as h a 8 i (vp_nar .byte x)).bind K) := by
  subst hq
  intro r hr H locs ls hn hP hS hl
  obtain ⟨h', hv, hr⟩ := Option.bind_eq_some_iff.mp hr
  unfold q_as at hv
  split at hv
  · rename_i hk
    cases hv
    have ha : a < zN h := hP.2 a (by omega)
    have hw := z_W_at (xG X) h ha
    rw [z_cell_b (xG X) hk.1] at hw
    refine va_bast o.1 o.2.1 o.2.2.2.2.2.1.1 hP.1 (z_W_D _ _) hS a 0 hw rfl (vp_in_iff.mpr hk.2) d (fun H1 locs1 hP1 hD1 hS1 => ?_)
    rw [z_sI (k := i.toNatClampNeg) (v := (vp_nar .byte x)) ha (by rw [z_cell_b (xG X) (h := sI h a i.toNatClampNeg (vp_nar .byte x)) hk.1]; congr 3; congr 1; funext y; simp [sI, up2, upd, zI])] at hP1
    exact kk _ r hr H1 locs1 ls hn ⟨hP1, hP.2⟩ hS1 hl
  · cases hv
theorem s_zald (o : Ok X own cc nL fr lo mc ms rt) {a : Nat} {i : Int32} {K : Int32 → Option ρ} (d : decode cc pc = .ok (.baload, 1)) (hq : pc + 1 = q) (kk : ∀ v, Sim X Qf cs sl q lv (.int v :: st) h (K v)) : Sim X Qf cs sl pc lv (.int i :: rf (xG X) a :: st) h ((q_ai h a 10 i).bind K) := by
  subst hq
  intro r hr H locs ls hn hP hS hl
  obtain ⟨v, hv, hr⟩ := Option.bind_eq_some_iff.mp hr
  unfold q_ai at hv
  split at hv
  · rename_i hk
    cases hv
    have ha : a < zN h := hP.2 a (by omega)
    have hw := z_W_at (xG X) h ha
    rw [z_cell_z (xG X) hk.1] at hw
    exact va_zald o.1 o.2.1 o.2.2.2.2.2.1.1 hP.1 a 2 hw rfl (vp_in_iff.mpr hk.2) d (kk _ r hr H locs ls hn hP hS hl)
  · cases hv
theorem s_zast (o : Ok X own cc nL fr lo mc ms rt) {a : Nat} {i x : Int32} {K : Hp → Option ρ} (d : decode cc pc = .ok (.bastore, 1)) (hq : pc + 1 = q) (kk : ∀ h', Sim X Qf cs sl q lv st h' (K h')) : Sim X Qf cs sl pc lv (.int x :: .int i :: rf (xG X) a :: st) h ((q_as h a 10 i (vp_nar .boolean x)).bind K) := by
  subst hq
  intro r hr H locs ls hn hP hS hl
  obtain ⟨h', hv, hr⟩ := Option.bind_eq_some_iff.mp hr
  unfold q_as at hv
  split at hv
  · rename_i hk
    cases hv
    have ha : a < zN h := hP.2 a (by omega)
    have hw := z_W_at (xG X) h ha
    rw [z_cell_z (xG X) hk.1] at hw
    refine va_zast o.1 o.2.1 o.2.2.2.2.2.1.1 hP.1 (z_W_D _ _) hS a 2 hw rfl (vp_in_iff.mpr hk.2) d (fun H1 locs1 hP1 hD1 hS1 => ?_)
    rw [z_sI (k := i.toNatClampNeg) (v := (vp_nar .boolean x)) ha (by rw [z_cell_z (xG X) (h := sI h a i.toNatClampNeg (vp_nar .boolean x)) hk.1]; congr 3; congr 1; funext y; simp [sI, up2, upd, zI])] at hP1
    exact kk _ r hr H1 locs1 ls hn ⟨hP1, hP.2⟩ hS1 hl
  · cases hv
theorem s_aald (o : Ok X own cc nL fr lo mc ms rt) {a : Nat} {i : Int32} {K : Nat → Option ρ} (d : decode cc pc = .ok (.aaload, 1)) (hq : pc + 1 = q) (kk : ∀ v, Sim X Qf cs sl q lv (rf (xG X) v :: st) h (K v)) : Sim X Qf cs sl pc lv (.int i :: rf (xG X) a :: st) h ((q_ar h a i).bind K) := by
  subst hq
  intro r hr H locs ls hn hP hS hl
  obtain ⟨v, hv, hr⟩ := Option.bind_eq_some_iff.mp hr
  unfold q_ar at hv
  split at hv
  · rename_i hk
    have ha : a < zN h := hP.2 a (by omega)
    have hw := z_W_at (xG X) h ha
    rw [z_cell_r (xG X) hk.1] at hw
    refine va_aldq o.1 o.2.1 o.2.2.2.2.2.1.1 hP.1 a 3 hw rfl (vp_in_iff.mpr hk.2) d ?_
    rw [hv]
    exact kk _ r hr H locs ls hn hP hS hl
  · cases hv
theorem s_alen (o : Ok X own cc nL fr lo mc ms rt) {a : Nat} {K : Int32 → Option ρ} (d : decode cc pc = .ok (.arraylength, 1)) (hq : pc + 1 = q) (kk : ∀ v, Sim X Qf cs sl q lv (.int v :: st) h (K v)) : Sim X Qf cs sl pc lv (rf (xG X) a :: st) h ((q_al h a).bind K) := by
  subst hq
  intro r hr H locs ls hn hP hS hl
  obtain ⟨v, hv, hr⟩ := Option.bind_eq_some_iff.mp hr
  unfold q_al at hv
  split at hv
  · rename_i hk
    cases hv
    have ha : a < zN h := hP.2 a (by omega)
    have hw := z_W_at (xG X) h ha
    rcases (show (zS h a).1 = 8 ∨ (zS h a).1 = 9 ∨ (zS h a).1 = 10 ∨ (zS h a).1 = 11 by omega) with e | e | e | e
    · rw [z_cell_b (xG X) e] at hw
      exact va_alen o.1 o.2.1 o.2.2.2.2.2.1.1 hP.1 a 0 hw (ty := .byte) rfl rfl d (kk _ r hr H locs ls hn hP hS hl)
    · rw [z_cell_i (xG X) e] at hw
      exact va_alen o.1 o.2.1 o.2.2.2.2.2.1.1 hP.1 a 1 hw (ty := .int) rfl rfl d (kk _ r hr H locs ls hn hP hS hl)
    · rw [z_cell_z (xG X) e] at hw
      exact va_alen o.1 o.2.1 o.2.2.2.2.2.1.1 hP.1 a 2 hw (ty := .boolean) rfl rfl d (kk _ r hr H locs ls hn hP hS hl)
    · rw [z_cell_r (xG X) e] at hw
      exact va_alen o.1 o.2.1 o.2.2.2.2.2.1.1 hP.1 a 3 hw (ty := .object "SixMaps$Standing") rfl rfl d (kk _ r hr H locs ls hn hP hS hl)
  · cases hv
theorem q_ge0 {x : Int32} (h : 0 ≤ x.toInt) : ¬ x < 0 := fun hx => by
  have := Int32.lt_iff_toInt_lt.mp hx
  simp at this
  omega
/-- System.arraycopy of ints -/
theorem s_copy (o : Ok X own cc nL fr lo mc ms rt) {a b idx : Nat} {sp dp n : Int32} {K : Hp → Option ρ} (hw : ∀ w ∈ [Cond.methodLink own idx arraycopyName, Cond.native arraycopyName, Cond.static arraycopyName, Cond.initialized "java/lang/System"], w ∈ GW) (hfr : 1 ≤ fr) (hlo : (st.map fun v => v.category).sum + (nativeFrameWords "java/lang/System" "arraycopy" 5 + 11) ≤ lo) (d : decode cc pc = .ok (.invokestatic idx, 3)) (hq : pc + 3 = q) (kk : ∀ h', Sim X Qf cs sl q lv st h' (K h')) : Sim X Qf cs sl pc lv (.int n :: .int dp :: rf (xG X) b :: .int sp :: rf (xG X) a :: st) h ((q_cp h a sp b dp n).bind K) := by
  subst hq
  intro r hr H locs ls hn hP hS hl
  obtain ⟨h', hv, hr⟩ := Option.bind_eq_some_iff.mp hr
  unfold q_cp at hv
  split at hv
  · rename_i hk
    cases hv
    obtain ⟨k1, k2, k3, k4, k5, k6, k7⟩ := hk
    have ha : a < zN h := hP.2 a (by omega)
    have hb : b < zN h := hP.2 b (by omega)
    have hwa := z_W_at (xG X) h ha
    rw [z_cell_i (xG X) k1] at hwa
    have hwb := z_W_at (xG X) h hb
    rw [z_cell_i (xG X) k2] at hwb
    have hw' : ∀ w ∈ [Cond.methodLink own idx arraycopyName, Cond.native arraycopyName, Cond.static arraycopyName, Cond.initialized "java/lang/System"], w.before (xa X) (xs X) = true := fun w h9 => o.2.2.2.2.1 w (hw w h9)
    have hR := o.2.2.2.2.2.2.2.2.1
    refine va_copyi o.1 o.2.1 hl.1.symm o.2.2.2.1 (hw' _ (by simp)) (hw' _ (by simp)) (hw' _ (by simp)) (hw' _ (by simp)) o.2.2.2.2.2.1.1 hP.1 (z_W_D _ _) hS a b 1 1 (ty := .int) hwa hwb rfl rfl rfl (q_ge0 k3) (q_ge0 k4) (q_ge0 k5) k6 k7 (fun _ _ => rfl) (by rw [hR]; exact hfr) (by rw [hR]; exact hlo) d (fun H1 locs1 hP1 hD1 hS1 => ?_)
    rw [z_W_set (G := xG X) (h := h) (h' := sC h a b sp.toNatClampNeg dp.toNatClampNeg n.toNatClampNeg) (e := .inl (gI (xG X), (zS h b).2, .inl (va_cpy (zI h a) (zI h b) sp.toNatClampNeg dp.toNatClampNeg n.toNatClampNeg))) rfl hb (by rw [z_cell_i (xG X) (h := sC h a b sp.toNatClampNeg dp.toNatClampNeg n.toNatClampNeg) k2]; (try simp [sC, zI])) (fun i hi => z_cell_same rfl (by simp [sC, hi, zI]) rfl rfl)] at hP1
    exact kk _ r hr H1 locs1 ls hn ⟨hP1, hP.2⟩ hS1 hl
  · cases hv
theorem s_max (o : Ok X own cc nL fr lo mc ms rt) {idx : Nat} {x y : Int32} (hw : ∀ w ∈ [Cond.methodLink own idx Lib.Math.max.name, Cond.static Lib.Math.max.name, Cond.initialized "java/lang/Math", Cond.code Lib.Math.max.name Lib.Math.max.code 2 (some .int)], w ∈ GW) (hfr : 1 ≤ fr) (hlo : (st.map fun v => v.category).sum + 13 ≤ lo) (hc : cs ≤ mc) (hs : sl ≤ ms) (d : decode cc pc = .ok (.invokestatic idx, 3)) (hq : pc + 3 = q) (k : Sim X Qf cs sl q lv (.int (if x < y then y else x) :: st) h K) : Sim X Qf cs sl pc lv (.int y :: .int x :: st) h K := by
  subst hq
  intro r hr H locs ls hn hP hS hl
  have hw' := fun w h9 => o.2.2.2.2.1 w (hw w h9)
  have hR := o.2.2.2.2.2.2.2.2.1
  exact va_mmax o.1 o.2.1 hl.1.symm o.2.2.2.1 (hw' _ (by simp)) (hw' _ (by simp)) (hw' _ (by simp)) (hw' _ (by simp)) (by rw [hR]; exact hfr) (by rw [hR]; exact hlo) (by rw [hR]; exact hc) (by rw [hR]; exact hs) d (k r hr H locs ls hn hP hS hl)
theorem s_min (o : Ok X own cc nL fr lo mc ms rt) {idx : Nat} {x y : Int32} (hw : ∀ w ∈ [Cond.methodLink own idx Lib.Math.min.name, Cond.static Lib.Math.min.name, Cond.initialized "java/lang/Math", Cond.code Lib.Math.min.name Lib.Math.min.code 2 (some .int)], w ∈ GW) (hfr : 1 ≤ fr) (hlo : (st.map fun v => v.category).sum + 13 ≤ lo) (hc : cs ≤ mc) (hs : sl ≤ ms) (d : decode cc pc = .ok (.invokestatic idx, 3)) (hq : pc + 3 = q) (k : Sim X Qf cs sl q lv (.int (if y < x then y else x) :: st) h K) : Sim X Qf cs sl pc lv (.int y :: .int x :: st) h K := by
  subst hq
  intro r hr H locs ls hn hP hS hl
  have hw' := fun w h9 => o.2.2.2.2.1 w (hw w h9)
  have hR := o.2.2.2.2.2.2.2.2.1
  exact va_mmin o.1 o.2.1 hl.1.symm o.2.2.2.1 (hw' _ (by simp)) (hw' _ (by simp)) (hw' _ (by simp)) (hw' _ (by simp)) (by rw [hR]; exact hfr) (by rw [hR]; exact hlo) (by rw [hR]; exact hc) (by rw [hR]; exact hs) d (k r hr H locs ls hn hP hS hl)
theorem s_abs (o : Ok X own cc nL fr lo mc ms rt) {idx : Nat} {x : Int32} (hw : ∀ w ∈ [Cond.methodLink own idx Lib.Math.abs.name, Cond.static Lib.Math.abs.name, Cond.initialized "java/lang/Math", Cond.code Lib.Math.abs.name Lib.Math.abs.code 1 (some .int)], w ∈ GW) (hfr : 1 ≤ fr) (hlo : (st.map fun v => v.category).sum + 13 ≤ lo) (hc : cs ≤ mc) (hs : sl ≤ ms) (d : decode cc pc = .ok (.invokestatic idx, 3)) (hq : pc + 3 = q) (k : Sim X Qf cs sl q lv (.int (if 0 ≤ x then x else 0 - x) :: st) h K) : Sim X Qf cs sl pc lv (.int x :: st) h K := by
  subst hq
  intro r hr H locs ls hn hP hS hl
  have hw' := fun w h9 => o.2.2.2.2.1 w (hw w h9)
  have hR := o.2.2.2.2.2.2.2.2.1
  exact va_mabs o.1 o.2.1 hl.1.symm o.2.2.2.1 (hw' _ (by simp)) (hw' _ (by simp)) (hw' _ (by simp)) (hw' _ (by simp)) (by rw [hR]; exact hfr) (by rw [hR]; exact hlo) (by rw [hR]; exact hc) (by rw [hR]; exact hs) d (k r hr H locs ls hn hP hS hl)
end SIMB
end
section
/-! ===== contracts over the numbers; calls; returns; new cells ===== -/
def z_pre (G : Gx) (vs : List Value) (h : Hp) : Array Value → State → Prop := va_Pc vs (fun U => U.heap.size = G.1 + zN h ∧ z_P G h U.heap ∧ z_K G U)
def z_qi (G : Gx) (n0 : Nat) (r : Int32 × Hp) : Array Value → State → Outcome → State → Prop := va_Qi (fun a (u : Hp) => a = r.1 ∧ u = r.2 ∧ zN r.2 = n0) (fun u t => z_P G u t.heap) (z_A G)
def z_ql (G : Gx) (n0 : Nat) (r : Int64 × Hp) : Array Value → State → Outcome → State → Prop := va_Ql (fun a (u : Hp) => a = r.1 ∧ u = r.2 ∧ zN r.2 = n0) (fun u t => z_P G u t.heap) (z_A G)
def z_qv (G : Gx) (n0 : Nat) (r : Hp) : Array Value → State → Outcome → State → Prop := va_Qv (fun (u : Hp) => u = r ∧ zN r = n0) (fun u t => z_P G u t.heap) (z_A G)
def z_Zi (X : Cx) (mc ms : Nat) (r : Int32 × Hp) : State → Prop := MQ (xb X) (z_qi (xG X) (xn X + mc) r) (xa X) (xs X) mc ms (z_A (xG X))
def z_Zl (X : Cx) (mc ms : Nat) (r : Int64 × Hp) : State → Prop := MQ (xb X) (z_ql (xG X) (xn X + mc) r) (xa X) (xs X) mc ms (z_A (xG X))
def z_Zv (X : Cx) (mc ms : Nat) (r : Hp) : State → Prop := MQ (xb X) (z_qv (xG X) (xn X + mc) r) (xa X) (xs X) mc ms (z_A (xG X))
/-- a method's contract: what its numbers say (K), the machine does -/
def z_M {ρ : Type} (Q : Gx → Nat → ρ → Array Value → State → Outcome → State → Prop) (G : Gx) (y : MethodName) (cc : ByteArray) (maxL : Nat) (ret : Option FieldType) (fr lo mc ms : Nat) (vs : List Value) (h : Hp) (K : Option ρ) : Prop := ∀ (l : Launch) (r : ρ), K = some r → Met l y (Cond.code y cc maxL ret :: GW) { frames := fr, cells := mc, slots := ms, locals := lo } (z_pre G vs h) (Q G (zN h + mc) r) mc ms (z_A G)
theorem z_met {ρ : Type} {Q : Gx → Nat → ρ → Array Value → State → Outcome → State → Prop} {G : Gx} {y : MethodName} {cc : ByteArray} {maxL : Nat} {ret : Option FieldType} {fr lo mc ms : Nat} {vs : List Value} {h : Hp} {K : Option ρ} (hy : plainName y.cls = true) (hlen : (lg_sl vs).length ≤ maxL)
    (body : ∀ X : Cx, xG X = G → xn X = zN h → Ok X y.cls cc maxL fr lo mc ms ret → (xM X).name = y.name → Sim X (fun r => MQ (xb X) (Q (xG X) (xn X + mc) r) (xa X) (xs X) mc ms (z_A (xG X))) 0 0 0 (lv_args 0 vs) [] h K) : z_M Q G y cc maxL ret fr lo mc ms vs h K := by
  intro l r hr
  refine Met.ofW (cc := cc) (maxL := maxL) (ret := ret) hy rfl ?_
  intro p e s m args below meth c s₁ B hml hv
  obtain ⟨rfl, hsz, hP, hK⟩ := hv
  have hts := atoms_spec (ws := Cond.code y cc maxL ret :: GW) B.pre
  have o : Ok (G, zN h, p, l, e, { frames := fr, cells := mc, slots := ms, locals := lo }, s, m, vs.toArray, below, meth, c) y.cls cc maxL fr lo mc ms ret :=
    ⟨B.exec, B.bytes, hml, findClass_of_methodNamed B.named, fun w hw => hts w (List.mem_cons_of_mem _ hw), hK, B.notSynchronized, B.returns, rfl, hsz⟩
  rw [lg_entry_eq]
  have hl := lv_entry vs (n := maxL) hlen
  rw [← hml] at hl
  rw [← hml]
  exact body _ rfl rfl o (name_of_methodNamed B.named B.method).1 r hr s.heap [] _ rfl hP va_S.rf hl
theorem va_Run_size {p : Program} {l : Launch} {e : Env} {R : Room} {s : State} {m : MethodId} {args : Array Value} {below : List Frame} {meth : Method} {c : Code} {H : Heap} {locs : List Loc} {cells slots mc ms : Nat} {g : JFrame} {rest : List Value} {Qa : State → Outcome → State → Prop} {free : Addr → Prop} (k : H.size ≤ s.heap.size + cells → va_Run p l e R s m args below meth c H locs cells slots mc ms g rest Qa free) : va_Run p l e R s m args below meth c H locs cells slots mc ms g rest Qa free := by
  intro T hT X
  have h1 : T.heap.size ≤ s.heap.size + cells := X.same.2.2.1
  rw [hT] at h1
  exact k h1 T hT X
def Run (X : Cx) (cs sl pc mc ms : Nat) (lv : List (Nat × Value)) (st rest : List Value) (h : Hp) (Qc : Array Value → State → Outcome → State → Prop) (vs : List Value) : Prop := ∀ (H : Heap) (locs : List Loc) (ls : Array Slot), zN h = xn X + cs → z_P (xG X) h H → va_S (z_A (xG X)) (xs X).heap H locs → lv_has ls (xc X).maxLocals lv → va_Run (xp X) (xl X) (xe X) (xR X) (xs X) (xm X) (xa X) (xb X) (xM X) (xc X) H locs cs sl mc ms (F0 (xm X) pc ls st) rest (Qc vs.toArray) (z_A (xG X))
/-- a virtual call: its words -/
def CV (own : String) (idx ci : Nat) (y : MethodName) (cc : ByteArray) (maxL : Nat) (ret : Option FieldType) (n : Nat) : Prop := ∃ r : vw_C, vwCl[ci]? = some r ∧ ci < 7 ∧ (∀ w ∈ wsV own idx r.1 y [Cond.code y cc maxL ret], w ∈ GW) ∧ (y.cls = r.1 ∧ y.cls ≠ "java/lang/invoke/MethodHandle" ∧ y.cls ≠ "java/lang/invoke/VarHandle" ∧ (parseMethodDescriptor y.desc).map (fun d => d.parameters.length) = some n)
def CS (own : String) (idx : Nat) (y : MethodName) (cc : ByteArray) (maxL : Nat) (ret : Option FieldType) (n : Nat) : Prop := (∀ w ∈ va_wsS own idx y [Cond.code y cc maxL ret], w ∈ GW) ∧ (y.cls ≠ "java/lang/invoke/MethodHandle" ∧ y.cls ≠ "java/lang/invoke/VarHandle" ∧ (parseMethodDescriptor y.desc).map (fun d => d.parameters.length) = some n)
/-- a static call of a nest mate's -/
def CN (own : String) (idx : Nat) (y : MethodName) (cc : ByteArray) (maxL : Nat) (ret : Option FieldType) (n : Nat) : Prop := (own, idx, y, RX5) ∈ z_nest ∧ (∀ w ∈ [Cond.code y cc maxL ret, Cond.static y, Cond.initialized y.cls], w ∈ GW) ∧ (y.cls ≠ "java/lang/invoke/MethodHandle" ∧ y.cls ≠ "java/lang/invoke/VarHandle" ∧ (parseMethodDescriptor y.desc).map (fun d => d.parameters.length) = some n)
/-- a constructor's call: of a nest mate's, and of an open one -/
def CI (own : String) (idx : Nat) (y : MethodName) (cc : ByteArray) (maxL : Nat) (n : Nat) : Prop := (own, idx, y, RX5) ∈ z_nest ∧ (∀ w ∈ [Cond.code y cc maxL none, Cond.instanceMethod y, Cond.initialized y.cls], w ∈ GW) ∧ y.name = "<init>" ∧ (y.cls ≠ "java/lang/invoke/MethodHandle" ∧ y.cls ≠ "java/lang/invoke/VarHandle" ∧ (parseMethodDescriptor y.desc).map (fun d => d.parameters.length) = some n)
def CO (own : String) (idx : Nat) (y : MethodName) (cc : ByteArray) (maxL : Nat) (n : Nat) : Prop := (∀ w ∈ [Cond.code y cc maxL none, Cond.instanceMethod y, Cond.initialized y.cls, Cond.methodLink own idx y], w ∈ GW) ∧ y.name = "<init>" ∧ (y.cls ≠ "java/lang/invoke/MethodHandle" ∧ y.cls ≠ "java/lang/invoke/VarHandle" ∧ (parseMethodDescriptor y.desc).map (fun d => d.parameters.length) = some n)
theorem z_blind (G : Gx) (vs : List Value) (h : Hp) : FrameBlind (z_pre G vs h) := fun a U g mk q => by
  obtain ⟨q0, q1, qP, qK⟩ := q
  exact ⟨q0, q1, qP, z_K_same rfl rfl qK⟩
section SIMC
variable {X : Cx} {own : String} {cc : ByteArray} {nL fr lo mc ms : Nat} {rt : Option FieldType} {ρ : Type} {Qf : ρ → State → Prop} {cs sl pc q : Nat} {lv lv' : List (Nat × Value)} {st rest As : List Value} {h : Hp}
variable {a ci idx n maxL fr' lo' mc' ms' cs' sl' : Nat} {y : MethodName} {cc' : ByteArray} {ret : Option FieldType} {Qc : Array Value → State → Outcome → State → Prop}
theorem z_at_call (o : Ok X own cc nL fr lo mc ms rt) {H : Heap} {locs : List Loc} {vs : List Value} (hn : zN h = xn X + cs) (hP : z_P (xG X) h H) (hS : va_S (z_A (xG X)) (xs X).heap H locs) (hz : H.size ≤ (xs X).heap.size + cs) : ∀ U : State, U.heap = H → (xs X).WarmedH U.vm → z_pre (xG X) vs h vs.toArray U := by
  intro U hU hW
  have e := o.2.2.2.2.2.2.2.2.2
  have h1 := hS.1
  have h2 := z_low hP (by omega)
  exact ⟨rfl, by rw [hU]; omega, by rw [hU]; exact hP, z_K_warm hW (fun q h1 h2 => by rw [hU]; exact hS.2.1 q h1 h2) o.2.2.2.2.2.1⟩
theorem runV (o : Ok X own cc nL fr lo mc ms rt) (hk : (zS h a).1 = ci + 1) (cf : CV own idx ci y cc' maxL ret n) (hM : Met (xl X) y (Cond.code y cc' maxL ret :: GW) { frames := fr', cells := mc', slots := ms', locals := lo' } (z_pre (xG X) (rf (xG X) a :: As) h) Qc mc' ms' (z_A (xG X))) (hR : fr' + 1 ≤ fr ∧ 8 + (maxL + 11) + lo' ≤ lo) (hn : As.length = n) (hst : st = As.reverse ++ rf (xG X) a :: rest) (hcat : (rest.map fun v => v.category).sum ≤ 8) (d : decode cc pc = .ok (.invokevirtual idx, 3)) (hf : cs + mc' ≤ mc ∧ sl + ms' ≤ ms) : Run X cs sl pc mc' ms' lv st rest h Qc (rf (xG X) a :: As) := by
  intro H locs ls hnn hP hS hl
  refine va_Run_size fun hz => ?_
  obtain ⟨r, c1, c2, c3, c4⟩ := cf
  have hRR := o.2.2.2.2.2.2.2.2.1
  have ha : a < zN h := hP.2 a (by omega)
  have hw := z_W_at (xG X) h ha
  rw [z_cell_o (xG X) hk c2] at hw
  refine va_runV (C := r.1) (Ts := GW) (As := As) (rest := rest) (b := (xG X).1 + a) (n := n) ⟨o.1, o.2.1, rfl, o.2.2.2.1, o.2.2.2.2.1⟩ hM (cwV n o.2.2.2.2.1 (gw_good ?_) rfl rfl rfl c4 (by rw [hRR]; exact hR)) ⟨z_blind _ _ _, va_recv o.2.2.2.2.2.1.1 hP.1 c1 hw, z_at_call o hnn hP hS hz⟩ rfl hn hl.1 hst (lv_room hcat) d (by rw [hRR]; exact hf)
  intro w hw9
  rcases List.mem_append.mp hw9 with h9 | h9
  · exact c3 w (List.mem_append_left _ h9)
  · rcases List.mem_cons.mp h9 with h9 | h9
    · exact c3 w (List.mem_append_right _ (by rw [h9]; exact List.mem_cons_self))
    · exact h9
theorem runS (o : Ok X own cc nL fr lo mc ms rt) (cf : CS own idx y cc' maxL ret n) (hM : Met (xl X) y (Cond.code y cc' maxL ret :: GW) { frames := fr', cells := mc', slots := ms', locals := lo' } (z_pre (xG X) As h) Qc mc' ms' (z_A (xG X))) (hR : fr' + 1 ≤ fr ∧ 8 + (maxL + 11) + lo' ≤ lo) (hn : As.length = n) (hst : st = As.reverse ++ rest) (hcat : (rest.map fun v => v.category).sum ≤ 8) (d : decode cc pc = .ok (.invokestatic idx, 3)) (hf : cs + mc' ≤ mc ∧ sl + ms' ≤ ms) : Run X cs sl pc mc' ms' lv st rest h Qc As := by
  intro H locs ls hnn hP hS hl
  refine va_Run_size fun hz => ?_
  obtain ⟨c3, c4⟩ := cf
  have hRR := o.2.2.2.2.2.2.2.2.1
  refine va_runS (Ts := GW) (As := As) (rest := rest) (n := n) ⟨o.1, o.2.1, rfl, o.2.2.2.1, o.2.2.2.2.1⟩ hM (va_cwS n o.2.2.2.2.1 (gw_good ?_) rfl rfl rfl c4 (by rw [hRR]; exact hR)) ⟨z_blind _ _ _, z_at_call o hnn hP hS hz⟩ rfl hn hl.1 hst (lv_room hcat) d (by rw [hRR]; exact hf)
  intro w hw9
  rcases List.mem_append.mp hw9 with h9 | h9
  · exact c3 w (List.mem_append_left _ h9)
  · rcases List.mem_cons.mp h9 with h9 | h9
    · exact c3 w (List.mem_append_right _ (by rw [h9]; exact List.mem_cons_self))
    · exact h9
theorem gw_cons {w0 : Cond} (h0 : w0 ∈ GW) : ∀ w ∈ w0 :: GW, w ∈ GW := fun w h9 => by
  rcases List.mem_cons.mp h9 with e | e
  · rw [e]; exact h0
  · exact e
theorem runN (o : Ok X own cc nL fr lo mc ms rt) (cf : CN own idx y cc' maxL ret n) (hM : Met (xl X) y (Cond.code y cc' maxL ret :: GW) { frames := fr', cells := mc', slots := ms', locals := lo' } (z_pre (xG X) As h) Qc mc' ms' (z_A (xG X))) (hR : fr' + 1 ≤ fr ∧ 8 + (maxL + 11) + lo' ≤ lo) (hn : As.length = n) (hst : st = As.reverse ++ rest) (hcat : (rest.map fun v => v.category).sum ≤ 8) (d : decode cc pc = .ok (.invokestatic idx, 3)) (hf : cs + mc' ≤ mc ∧ sl + ms' ≤ ms) : Run X cs sl pc mc' ms' lv st rest h Qc As := by
  intro H locs ls hnn hP hS hl
  refine va_Run_size fun hz => ?_
  obtain ⟨c1, c3, c4⟩ := cf
  have hRR := o.2.2.2.2.2.2.2.2.1
  have hw' := fun w h9 => o.2.2.2.2.1 w (c3 w h9)
  exact va_runSN (Ts := GW) (As := As) (rest := rest) (n := n) ⟨o.1, o.2.1, rfl, o.2.2.2.1, o.2.2.2.2.1⟩ hM ⟨va_cnB n o.2.2.2.2.1 (gw_good (gw_cons (c3 _ (by simp)))) rfl rfl rfl (o.2.2.2.2.2.1.2.1 _ c1) (hw' _ (by simp)) c4 (by rw [hRR]; exact hR), hw' _ (by simp), trivial⟩ ⟨z_blind _ _ _, z_at_call o hnn hP hS hz⟩ rfl hn hl.1 hst (lv_room hcat) d (by rw [hRR]; exact hf)
theorem runI (o : Ok X own cc nL fr lo mc ms rt) (cf : CI own idx y cc' maxL n) (hM : Met (xl X) y (Cond.code y cc' maxL none :: GW) { frames := fr', cells := mc', slots := ms', locals := lo' } (z_pre (xG X) (rf (xG X) a :: As) h) Qc mc' ms' (z_A (xG X))) (hR : fr' + 1 ≤ fr ∧ 8 + (maxL + 11) + lo' ≤ lo) (hn : As.length = n) (hst : st = As.reverse ++ rf (xG X) a :: rest) (hcat : (rest.map fun v => v.category).sum ≤ 8) (d : decode cc pc = .ok (.invokespecial idx, 3)) (hf : cs + mc' ≤ mc ∧ sl + ms' ≤ ms) : Run X cs sl pc mc' ms' lv st rest h Qc (rf (xG X) a :: As) := by
  intro H locs ls hnn hP hS hl
  refine va_Run_size fun hz => ?_
  obtain ⟨c1, c3, c5, c4⟩ := cf
  have hRR := o.2.2.2.2.2.2.2.2.1
  have hw' := fun w h9 => o.2.2.2.2.1 w (c3 w h9)
  exact va_runIN (Ts := GW) (As := As) (rest := rest) (b := (xG X).1 + a) (n := n) ⟨o.1, o.2.1, rfl, o.2.2.2.1, o.2.2.2.2.1⟩ hM ⟨va_cnB n o.2.2.2.2.1 (gw_good (gw_cons (c3 _ (by simp)))) rfl rfl rfl (o.2.2.2.2.2.1.2.1 _ c1) (hw' _ (by simp)) c4 (by rw [hRR]; exact hR), c5, hw' _ (by simp)⟩ ⟨z_blind _ _ _, z_at_call o hnn hP hS hz⟩ rfl hn hl.1 hst (lv_room hcat) d (by rw [hRR]; exact hf)
theorem runO (o : Ok X own cc nL fr lo mc ms rt) (cf : CO own idx y cc' maxL n) (hM : Met (xl X) y (Cond.code y cc' maxL none :: GW) { frames := fr', cells := mc', slots := ms', locals := lo' } (z_pre (xG X) (rf (xG X) a :: As) h) Qc mc' ms' (z_A (xG X))) (hR : fr' + 1 ≤ fr ∧ 8 + (maxL + 11) + lo' ≤ lo) (hn : As.length = n) (hst : st = As.reverse ++ rf (xG X) a :: rest) (hcat : (rest.map fun v => v.category).sum ≤ 8) (d : decode cc pc = .ok (.invokespecial idx, 3)) (hf : cs + mc' ≤ mc ∧ sl + ms' ≤ ms) : Run X cs sl pc mc' ms' lv st rest h Qc (rf (xG X) a :: As) := by
  intro H locs ls hnn hP hS hl
  refine va_Run_size fun hz => ?_
  obtain ⟨c3, c5, c4⟩ := cf
  have hRR := o.2.2.2.2.2.2.2.2.1
  have hw' := fun w h9 => o.2.2.2.2.1 w (c3 w h9)
  exact va_runI (Ts := GW) (As := As) (rest := rest) (b := (xG X).1 + a) (n := n) ⟨o.1, o.2.1, rfl, o.2.2.2.1, o.2.2.2.2.1⟩ hM (cwI n o.2.2.2.2.1 (gw_good (gw_cons (c3 _ (by simp)))) rfl rfl rfl (hw' _ (by simp)) (hw' _ (by simp)) (hw' _ (by simp)) c5 c4 (by rw [hRR]; exact hR)) ⟨z_blind _ _ _, z_at_call o hnn hP hS hz⟩ rfl hn hl.1 hst (lv_room hcat) d (by rw [hRR]; exact hf)
/-- behind a call -/
theorem s_calli {K0 : Option (Int32 × Hp)} {K : Int32 × Hp → Option ρ} {vs : List Value} (hrun : ∀ r0, K0 = some r0 → Run X cs sl pc mc' ms' lv st rest h (z_qi (xG X) (zN h + mc') r0) vs) (hq : pc + 3 = q) (hc : cs + mc' = cs') (hs : sl + ms' = sl') (k : ∀ v h', Sim X Qf cs' sl' q lv (.int v :: rest) h' (K (v, h'))) : Sim X Qf cs sl pc lv st h (K0.bind K) := by
  subst hq; subst hc; subst hs
  intro r hr H locs ls hn hP hS hl
  obtain ⟨r0, hr0, hr⟩ := Option.bind_eq_some_iff.mp hr
  refine va_calli (hrun r0 hr0 H locs ls hn hP hS hl) hS (fun q _ h => h) (fun q h => h) (fun v u t H1 locs1 ht hvm hw hB hz hk hS1 => ?_)
  obtain ⟨rfl, rfl, hn1⟩ := hw
  exact k _ _ r hr H1 locs1 ls (by omega) (by rw [← ht]; exact hB) hS1 hl
theorem s_calll {K0 : Option (Int64 × Hp)} {K : Int64 × Hp → Option ρ} {vs : List Value} (hrun : ∀ r0, K0 = some r0 → Run X cs sl pc mc' ms' lv st rest h (z_ql (xG X) (zN h + mc') r0) vs) (hq : pc + 3 = q) (hc : cs + mc' = cs') (hs : sl + ms' = sl') (k : ∀ v h', Sim X Qf cs' sl' q lv (.long v :: rest) h' (K (v, h'))) : Sim X Qf cs sl pc lv st h (K0.bind K) := by
  subst hq; subst hc; subst hs
  intro r hr H locs ls hn hP hS hl
  obtain ⟨r0, hr0, hr⟩ := Option.bind_eq_some_iff.mp hr
  refine va_calll (hrun r0 hr0 H locs ls hn hP hS hl) hS (fun q _ h => h) (fun q h => h) (fun v u t H1 locs1 ht hvm hw hB hz hk hS1 => ?_)
  obtain ⟨rfl, rfl, hn1⟩ := hw
  exact k _ _ r hr H1 locs1 ls (by omega) (by rw [← ht]; exact hB) hS1 hl
theorem s_callv {K0 : Option Hp} {K : Hp → Option ρ} {vs : List Value} (hrun : ∀ r0, K0 = some r0 → Run X cs sl pc mc' ms' lv st rest h (z_qv (xG X) (zN h + mc') r0) vs) (hq : pc + 3 = q) (hc : cs + mc' = cs') (hs : sl + ms' = sl') (k : ∀ h', Sim X Qf cs' sl' q lv rest h' (K h')) : Sim X Qf cs sl pc lv st h (K0.bind K) := by
  subst hq; subst hc; subst hs
  intro r hr H locs ls hn hP hS hl
  obtain ⟨r0, hr0, hr⟩ := Option.bind_eq_some_iff.mp hr
  refine va_callv (hrun r0 hr0 H locs ls hn hP hS hl) hS (fun q _ h => h) (fun q h => h) (fun u t H1 locs1 ht hvm hw hB hz hk hS1 => ?_)
  obtain ⟨rfl, hn1⟩ := hw
  exact k _ r hr H1 locs1 ls (by omega) (by rw [← ht]; exact hB) hS1 hl
theorem s_on {K : Option ρ} (k : (zS h a).1 = ci + 1 → Sim X Qf cs sl pc lv st h K) : Sim X Qf cs sl pc lv st h (q_on h a ci K) := by
  intro r hr
  unfold q_on at hr
  split at hr
  · rename_i hk; exact k hk r hr
  · cases hr
/-! returns -/
theorem s_iret (o : Ok X own cc nL fr lo mc ms (some .int)) {v : Int32} (d : decode cc pc = .ok (.ireturn, 1)) : Sim X (z_Zi X cs sl) cs sl pc lv [.int v] h (some (v, h)) := by
  intro r hr H locs ls hn hP hS hl
  cases hr
  exact W.iret o.1 o.2.1 o.2.2.2.2.2.2.2.1 (fun t ht hW => ⟨⟨v, h, rfl, ⟨rfl, rfl, hn⟩, by show z_P _ _ t.heap; rw [ht]; exact hP⟩, hS.F ht⟩) hS.2.2 d o.2.2.2.2.2.2.1
theorem s_zret (o : Ok X own cc nL fr lo mc ms (some .boolean)) {v : Int32} (d : decode cc pc = .ok (.ireturn, 1)) : Sim X (z_Zi X cs sl) cs sl pc lv [.int v] h (q_bo v (some (v, h))) := by
  intro r hr H locs ls hn hP hS hl
  unfold q_bo at hr
  split at hr
  · rename_i hv
    cases hr
    exact W.zret o.1 o.2.1 o.2.2.2.2.2.2.2.1 (by rcases hv with rfl | rfl <;> rfl) (fun t ht hW => ⟨⟨v, h, rfl, ⟨rfl, rfl, hn⟩, by show z_P _ _ t.heap; rw [ht]; exact hP⟩, hS.F ht⟩) hS.2.2 d o.2.2.2.2.2.2.1
  · cases hr
theorem s_lret (o : Ok X own cc nL fr lo mc ms (some .long)) {v : Int64} (d : decode cc pc = .ok (.lreturn, 1)) : Sim X (z_Zl X cs sl) cs sl pc lv [.long v] h (some (v, h)) := by
  intro r hr H locs ls hn hP hS hl
  cases hr
  exact W.lret o.1 o.2.1 o.2.2.2.2.2.2.2.1 (fun t ht hW => ⟨⟨v, h, rfl, ⟨rfl, rfl, hn⟩, by show z_P _ _ t.heap; rw [ht]; exact hP⟩, hS.F ht⟩) hS.2.2 d o.2.2.2.2.2.2.1
theorem s_vret (o : Ok X own cc nL fr lo mc ms none) (d : decode cc pc = .ok (.return_, 1)) : Sim X (z_Zv X cs sl) cs sl pc lv [] h (some h) := by
  intro r hr H locs ls hn hP hS hl
  cases hr
  exact W.vret o.1 o.2.1 o.2.2.2.2.2.2.2.1 (fun t ht hW => ⟨⟨h, rfl, ⟨rfl, hn⟩, by show z_P _ _ t.heap; rw [ht]; exact hP⟩, hS.F ht⟩) hS.2.2 d o.2.2.2.2.2.2.1
/-! the two static rows -/
theorem s_gtm {K : Option ρ} (o : Ok X own cc nL fr lo mc ms rt) (hw : Cond.fieldLink own idx RX2 "TIMES_MOST" "[I" ∈ GW) (d : decode cc pc = .ok (.getstatic idx, 3)) (hq : pc + 3 = q) (k : Sim X Qf cs sl q lv (.ref (gT (xG X)) :: st) h K) : Sim X Qf cs sl pc lv st h K := by
  subst hq
  exact fun r hr H locs ls hn hP hS hl => va_gets o.1 o.2.1 o.2.2.2.2.2.1.2.2.1.1 hS o.2.2.2.1 (o.2.2.2.2.1 _ hw) (fun _ h9 => h9) d (k r hr H locs ls hn hP hS hl)
theorem s_gno {K : Option ρ} (o : Ok X own cc nL fr lo mc ms rt) (hw : Cond.fieldLink own idx RX2 "NUMBERS_OF" "[I" ∈ GW) (d : decode cc pc = .ok (.getstatic idx, 3)) (hq : pc + 3 = q) (k : Sim X Qf cs sl q lv (.ref (gO (xG X)) :: st) h K) : Sim X Qf cs sl pc lv st h K := by
  subst hq
  exact fun r hr H locs ls hn hP hS hl => va_gets o.1 o.2.1 o.2.2.2.2.2.1.2.2.2.1.1 hS o.2.2.2.1 (o.2.2.2.2.1 _ hw) (fun _ h9 => h9) d (k r hr H locs ls hn hP hS hl)
theorem s_atm {K : Int32 → Option ρ} (o : Ok X own cc nL fr lo mc ms rt) {i : Int32} (d : decode cc pc = .ok (.iaload, 1)) (hq : pc + 1 = q) (k : ∀ v, Sim X Qf cs sl q lv (.int v :: st) h (K v)) : Sim X Qf cs sl pc lv (.int i :: .ref (gT (xG X)) :: st) h ((q_tm i).bind K) := by
  subst hq
  intro r hr H locs ls hn hP hS hl
  obtain ⟨v, hv, hr⟩ := Option.bind_eq_some_iff.mp hr
  unfold q_tm at hv
  split at hv
  · rename_i hi
    cases hv
    exact va_ti o.1 o.2.1 o.2.2.2.2.2.1.2.2.1.2 hS (vp_in_iff.mpr hi) rfl d (k _ r hr H locs ls hn hP hS hl)
  · cases hv
theorem s_ano {K : Int32 → Option ρ} (o : Ok X own cc nL fr lo mc ms rt) {i : Int32} (d : decode cc pc = .ok (.iaload, 1)) (hq : pc + 1 = q) (k : ∀ v, Sim X Qf cs sl q lv (.int v :: st) h (K v)) : Sim X Qf cs sl pc lv (.int i :: .ref (gO (xG X)) :: st) h ((q_no i).bind K) := by
  subst hq
  intro r hr H locs ls hn hP hS hl
  obtain ⟨v, hv, hr⟩ := Option.bind_eq_some_iff.mp hr
  unfold q_no at hv
  split at hv
  · rename_i hi
    cases hv
    exact va_ti o.1 o.2.1 o.2.2.2.2.2.1.2.2.2.1.2 hS (vp_in_iff.mpr hi) rfl d (k _ r hr H locs ls hn hP hS hl)
  · cases hv
end SIMC
end
