section
-- ===== PART A: goes FIRST, ahead of the names: the tables' words, and 'selects' of the private methods out of them =====
/-- a private method of a class that the tables say can be made, by its rows of tables_1 -/
def lw_okq (q : MethodName × Nat) : Prop := (q.1.cls ≠ "java/lang/invoke/MethodHandle" ∧ q.1.cls ≠ "java/lang/invoke/VarHandle") ∧ Cond.instantiable q.1.cls q.2 ∈ tables_1 ∧ Cond.privateMethod q.1 ∈ tables_1 ∧ Cond.instanceMethod q.1 ∈ tables_1
theorem lw_p0 : lw_okq (⟨"NameRests", "comesFrom", "(LNameRests$Shelf;II)Z"⟩, 9) := ⟨⟨by decide +kernel, by decide +kernel⟩, List.mem_of_getElem? (i := 20) (by decide +kernel), List.mem_of_getElem? (i := 334) (by decide +kernel), List.mem_of_getElem? (i := 335) (by decide +kernel)⟩
theorem lw_p1 : lw_okq (⟨"NameRests", "mayMend", "(III)Z"⟩, 9) := ⟨⟨by decide +kernel, by decide +kernel⟩, List.mem_of_getElem? (i := 20) (by decide +kernel), List.mem_of_getElem? (i := 382) (by decide +kernel), List.mem_of_getElem? (i := 383) (by decide +kernel)⟩
theorem lw_p2 : lw_okq (⟨"NameRests", "ofPerson", "(II)I"⟩, 9) := ⟨⟨by decide +kernel, by decide +kernel⟩, List.mem_of_getElem? (i := 20) (by decide +kernel), List.mem_of_getElem? (i := 401) (by decide +kernel), List.mem_of_getElem? (i := 402) (by decide +kernel)⟩
theorem lw_p3 : lw_okq (⟨"NameRests", "ofName", "(II)I"⟩, 9) := ⟨⟨by decide +kernel, by decide +kernel⟩, List.mem_of_getElem? (i := 20) (by decide +kernel), List.mem_of_getElem? (i := 409) (by decide +kernel), List.mem_of_getElem? (i := 410) (by decide +kernel)⟩
theorem lw_p4 : lw_okq (⟨"NameRests", "ofMeeting", "(II)I"⟩, 9) := ⟨⟨by decide +kernel, by decide +kernel⟩, List.mem_of_getElem? (i := 20) (by decide +kernel), List.mem_of_getElem? (i := 421) (by decide +kernel), List.mem_of_getElem? (i := 422) (by decide +kernel)⟩
theorem lw_p5 : lw_okq (⟨"NameRests", "heldTill", "(II)I"⟩, 9) := ⟨⟨by decide +kernel, by decide +kernel⟩, List.mem_of_getElem? (i := 20) (by decide +kernel), List.mem_of_getElem? (i := 653) (by decide +kernel), List.mem_of_getElem? (i := 654) (by decide +kernel)⟩
theorem lw_p6 : lw_okq (⟨"NameRests", "setChanged", "(I)V"⟩, 9) := ⟨⟨by decide +kernel, by decide +kernel⟩, List.mem_of_getElem? (i := 20) (by decide +kernel), List.mem_of_getElem? (i := 830) (by decide +kernel), List.mem_of_getElem? (i := 831) (by decide +kernel)⟩
theorem lw_p7 : lw_okq (⟨"NameRests", "refusalOf", "(II)I"⟩, 9) := ⟨⟨by decide +kernel, by decide +kernel⟩, List.mem_of_getElem? (i := 20) (by decide +kernel), List.mem_of_getElem? (i := 922) (by decide +kernel), List.mem_of_getElem? (i := 923) (by decide +kernel)⟩
theorem lw_p8 : lw_okq (⟨"NameRestsModel", "addPerson", "(III)I"⟩, 47) := ⟨⟨by decide +kernel, by decide +kernel⟩, List.mem_of_getElem? (i := 960) (by decide +kernel), List.mem_of_getElem? (i := 1122) (by decide +kernel), List.mem_of_getElem? (i := 1123) (by decide +kernel)⟩
theorem lw_p9 : lw_okq (⟨"NameRestsModel", "isPerson", "(I)Z"⟩, 47) := ⟨⟨by decide +kernel, by decide +kernel⟩, List.mem_of_getElem? (i := 960) (by decide +kernel), List.mem_of_getElem? (i := 1138) (by decide +kernel), List.mem_of_getElem? (i := 1139) (by decide +kernel)⟩
theorem lw_p10 : lw_okq (⟨"NameRestsModel", "lives", "(II)Z"⟩, 47) := ⟨⟨by decide +kernel, by decide +kernel⟩, List.mem_of_getElem? (i := 960) (by decide +kernel), List.mem_of_getElem? (i := 1142) (by decide +kernel), List.mem_of_getElem? (i := 1143) (by decide +kernel)⟩
theorem lw_p11 : lw_okq (⟨"NameRestsModel", "lays", "(III)V"⟩, 47) := ⟨⟨by decide +kernel, by decide +kernel⟩, List.mem_of_getElem? (i := 960) (by decide +kernel), List.mem_of_getElem? (i := 1166) (by decide +kernel), List.mem_of_getElem? (i := 1167) (by decide +kernel)⟩
theorem lw_p12 : lw_okq (⟨"NameRestsModel", "changes", "(III)I"⟩, 47) := ⟨⟨by decide +kernel, by decide +kernel⟩, List.mem_of_getElem? (i := 960) (by decide +kernel), List.mem_of_getElem? (i := 1178) (by decide +kernel), List.mem_of_getElem? (i := 1179) (by decide +kernel)⟩
theorem lw_p13 : lw_okq (⟨"NameRestsModel", "valueAt", "(II)I"⟩, 47) := ⟨⟨by decide +kernel, by decide +kernel⟩, List.mem_of_getElem? (i := 960) (by decide +kernel), List.mem_of_getElem? (i := 1182) (by decide +kernel), List.mem_of_getElem? (i := 1183) (by decide +kernel)⟩
theorem lw_p14 : lw_okq (⟨"NameRestsModel", "placeOf", "(I)I"⟩, 47) := ⟨⟨by decide +kernel, by decide +kernel⟩, List.mem_of_getElem? (i := 960) (by decide +kernel), List.mem_of_getElem? (i := 1190) (by decide +kernel), List.mem_of_getElem? (i := 1191) (by decide +kernel)⟩
theorem lw_p15 : lw_okq (⟨"NameRestsModel", "isAhead", "(II)Z"⟩, 47) := ⟨⟨by decide +kernel, by decide +kernel⟩, List.mem_of_getElem? (i := 960) (by decide +kernel), List.mem_of_getElem? (i := 1194) (by decide +kernel), List.mem_of_getElem? (i := 1195) (by decide +kernel)⟩
def lw_privs_1 : List (MethodName × Nat) := [(⟨"NameRests", "comesFrom", "(LNameRests$Shelf;II)Z"⟩, 9), (⟨"NameRests", "mayMend", "(III)Z"⟩, 9), (⟨"NameRests", "ofPerson", "(II)I"⟩, 9), (⟨"NameRests", "ofName", "(II)I"⟩, 9), (⟨"NameRests", "ofMeeting", "(II)I"⟩, 9), (⟨"NameRests", "heldTill", "(II)I"⟩, 9), (⟨"NameRests", "setChanged", "(I)V"⟩, 9), (⟨"NameRests", "refusalOf", "(II)I"⟩, 9), (⟨"NameRestsModel", "addPerson", "(III)I"⟩, 47), (⟨"NameRestsModel", "isPerson", "(I)Z"⟩, 47), (⟨"NameRestsModel", "lives", "(II)Z"⟩, 47), (⟨"NameRestsModel", "lays", "(III)V"⟩, 47), (⟨"NameRestsModel", "changes", "(III)I"⟩, 47), (⟨"NameRestsModel", "valueAt", "(II)I"⟩, 47), (⟨"NameRestsModel", "placeOf", "(I)I"⟩, 47), (⟨"NameRestsModel", "isAhead", "(II)Z"⟩, 47)]
theorem lw_r1 : ∀ q ∈ lw_privs_1, lw_okq q := List.forall_mem_cons.mpr ⟨lw_p0, List.forall_mem_cons.mpr ⟨lw_p1, List.forall_mem_cons.mpr ⟨lw_p2, List.forall_mem_cons.mpr ⟨lw_p3, List.forall_mem_cons.mpr ⟨lw_p4, List.forall_mem_cons.mpr ⟨lw_p5, List.forall_mem_cons.mpr ⟨lw_p6, List.forall_mem_cons.mpr ⟨lw_p7, List.forall_mem_cons.mpr ⟨lw_p8, List.forall_mem_cons.mpr ⟨lw_p9, List.forall_mem_cons.mpr ⟨lw_p10, List.forall_mem_cons.mpr ⟨lw_p11, List.forall_mem_cons.mpr ⟨lw_p12, List.forall_mem_cons.mpr ⟨lw_p13, List.forall_mem_cons.mpr ⟨lw_p14, List.forall_mem_cons.mpr ⟨lw_p15, fun _ h => absurd h List.not_mem_nil⟩⟩⟩⟩⟩⟩⟩⟩⟩⟩⟩⟩⟩⟩⟩⟩
theorem lw_p16 : lw_okq (⟨"NameRestsModel", "bearersOf", "(I)I"⟩, 47) := ⟨⟨by decide +kernel, by decide +kernel⟩, List.mem_of_getElem? (i := 960) (by decide +kernel), List.mem_of_getElem? (i := 1198) (by decide +kernel), List.mem_of_getElem? (i := 1199) (by decide +kernel)⟩
theorem lw_p17 : lw_okq (⟨"NameRestsModel", "counts", "(I)Z"⟩, 47) := ⟨⟨by decide +kernel, by decide +kernel⟩, List.mem_of_getElem? (i := 960) (by decide +kernel), List.mem_of_getElem? (i := 1202) (by decide +kernel), List.mem_of_getElem? (i := 1203) (by decide +kernel)⟩
theorem lw_p18 : lw_okq (⟨"NameRestsModel", "readText", "(I)I"⟩, 47) := ⟨⟨by decide +kernel, by decide +kernel⟩, List.mem_of_getElem? (i := 960) (by decide +kernel), List.mem_of_getElem? (i := 1214) (by decide +kernel), List.mem_of_getElem? (i := 1215) (by decide +kernel)⟩
theorem lw_p19 : lw_okq (⟨"NameRestsModel", "line", "()V"⟩, 47) := ⟨⟨by decide +kernel, by decide +kernel⟩, List.mem_of_getElem? (i := 960) (by decide +kernel), List.mem_of_getElem? (i := 1218) (by decide +kernel), List.mem_of_getElem? (i := 1219) (by decide +kernel)⟩
theorem lw_p20 : lw_okq (⟨"NameRestsModel", "either", "()V"⟩, 47) := ⟨⟨by decide +kernel, by decide +kernel⟩, List.mem_of_getElem? (i := 960) (by decide +kernel), List.mem_of_getElem? (i := 1222) (by decide +kernel), List.mem_of_getElem? (i := 1223) (by decide +kernel)⟩
theorem lw_p21 : lw_okq (⟨"NameRestsModel", "both", "()V"⟩, 47) := ⟨⟨by decide +kernel, by decide +kernel⟩, List.mem_of_getElem? (i := 960) (by decide +kernel), List.mem_of_getElem? (i := 1226) (by decide +kernel), List.mem_of_getElem? (i := 1227) (by decide +kernel)⟩
theorem lw_p22 : lw_okq (⟨"NameRestsModel", "compared", "()V"⟩, 47) := ⟨⟨by decide +kernel, by decide +kernel⟩, List.mem_of_getElem? (i := 960) (by decide +kernel), List.mem_of_getElem? (i := 1230) (by decide +kernel), List.mem_of_getElem? (i := 1231) (by decide +kernel)⟩
theorem lw_p23 : lw_okq (⟨"NameRestsModel", "sum", "()V"⟩, 47) := ⟨⟨by decide +kernel, by decide +kernel⟩, List.mem_of_getElem? (i := 960) (by decide +kernel), List.mem_of_getElem? (i := 1234) (by decide +kernel), List.mem_of_getElem? (i := 1235) (by decide +kernel)⟩
theorem lw_p24 : lw_okq (⟨"NameRestsModel", "product", "()V"⟩, 47) := ⟨⟨by decide +kernel, by decide +kernel⟩, List.mem_of_getElem? (i := 960) (by decide +kernel), List.mem_of_getElem? (i := 1238) (by decide +kernel), List.mem_of_getElem? (i := 1239) (by decide +kernel)⟩
theorem lw_p25 : lw_okq (⟨"NameRestsModel", "operand", "()V"⟩, 47) := ⟨⟨by decide +kernel, by decide +kernel⟩, List.mem_of_getElem? (i := 960) (by decide +kernel), List.mem_of_getElem? (i := 1242) (by decide +kernel), List.mem_of_getElem? (i := 1243) (by decide +kernel)⟩
theorem lw_p26 : lw_okq (⟨"NameRestsModel", "look", "()I"⟩, 47) := ⟨⟨by decide +kernel, by decide +kernel⟩, List.mem_of_getElem? (i := 960) (by decide +kernel), List.mem_of_getElem? (i := 1246) (by decide +kernel), List.mem_of_getElem? (i := 1247) (by decide +kernel)⟩
theorem lw_p27 : lw_okq (⟨"NameRestsModel", "addStep", "(II)V"⟩, 47) := ⟨⟨by decide +kernel, by decide +kernel⟩, List.mem_of_getElem? (i := 960) (by decide +kernel), List.mem_of_getElem? (i := 1253) (by decide +kernel), List.mem_of_getElem? (i := 1254) (by decide +kernel)⟩
theorem lw_p28 : lw_okq (⟨"NameRestsModel", "opens", "()Z"⟩, 47) := ⟨⟨by decide +kernel, by decide +kernel⟩, List.mem_of_getElem? (i := 960) (by decide +kernel), List.mem_of_getElem? (i := 1257) (by decide +kernel), List.mem_of_getElem? (i := 1258) (by decide +kernel)⟩
theorem lw_p29 : lw_okq (⟨"NameRestsModel", "faulty", "()V"⟩, 47) := ⟨⟨by decide +kernel, by decide +kernel⟩, List.mem_of_getElem? (i := 960) (by decide +kernel), List.mem_of_getElem? (i := 1261) (by decide +kernel), List.mem_of_getElem? (i := 1262) (by decide +kernel)⟩
theorem lw_p30 : lw_okq (⟨"NameRestsModel", "figure", "()V"⟩, 47) := ⟨⟨by decide +kernel, by decide +kernel⟩, List.mem_of_getElem? (i := 960) (by decide +kernel), List.mem_of_getElem? (i := 1265) (by decide +kernel), List.mem_of_getElem? (i := 1266) (by decide +kernel)⟩
theorem lw_p31 : lw_okq (⟨"NameRestsModel", "findKnown", "(II)V"⟩, 47) := ⟨⟨by decide +kernel, by decide +kernel⟩, List.mem_of_getElem? (i := 960) (by decide +kernel), List.mem_of_getElem? (i := 1273) (by decide +kernel), List.mem_of_getElem? (i := 1274) (by decide +kernel)⟩
def lw_privs_2 : List (MethodName × Nat) := [(⟨"NameRestsModel", "bearersOf", "(I)I"⟩, 47), (⟨"NameRestsModel", "counts", "(I)Z"⟩, 47), (⟨"NameRestsModel", "readText", "(I)I"⟩, 47), (⟨"NameRestsModel", "line", "()V"⟩, 47), (⟨"NameRestsModel", "either", "()V"⟩, 47), (⟨"NameRestsModel", "both", "()V"⟩, 47), (⟨"NameRestsModel", "compared", "()V"⟩, 47), (⟨"NameRestsModel", "sum", "()V"⟩, 47), (⟨"NameRestsModel", "product", "()V"⟩, 47), (⟨"NameRestsModel", "operand", "()V"⟩, 47), (⟨"NameRestsModel", "look", "()I"⟩, 47), (⟨"NameRestsModel", "addStep", "(II)V"⟩, 47), (⟨"NameRestsModel", "opens", "()Z"⟩, 47), (⟨"NameRestsModel", "faulty", "()V"⟩, 47), (⟨"NameRestsModel", "figure", "()V"⟩, 47), (⟨"NameRestsModel", "findKnown", "(II)V"⟩, 47)]
theorem lw_r2 : ∀ q ∈ lw_privs_2, lw_okq q := List.forall_mem_cons.mpr ⟨lw_p16, List.forall_mem_cons.mpr ⟨lw_p17, List.forall_mem_cons.mpr ⟨lw_p18, List.forall_mem_cons.mpr ⟨lw_p19, List.forall_mem_cons.mpr ⟨lw_p20, List.forall_mem_cons.mpr ⟨lw_p21, List.forall_mem_cons.mpr ⟨lw_p22, List.forall_mem_cons.mpr ⟨lw_p23, List.forall_mem_cons.mpr ⟨lw_p24, List.forall_mem_cons.mpr ⟨lw_p25, List.forall_mem_cons.mpr ⟨lw_p26, List.forall_mem_cons.mpr ⟨lw_p27, List.forall_mem_cons.mpr ⟨lw_p28, List.forall_mem_cons.mpr ⟨lw_p29, List.forall_mem_cons.mpr ⟨lw_p30, List.forall_mem_cons.mpr ⟨lw_p31, fun _ h => absurd h List.not_mem_nil⟩⟩⟩⟩⟩⟩⟩⟩⟩⟩⟩⟩⟩⟩⟩⟩
theorem lw_p32 : lw_okq (⟨"NameRestsModel", "asNamed", "()V"⟩, 47) := ⟨⟨by decide +kernel, by decide +kernel⟩, List.mem_of_getElem? (i := 960) (by decide +kernel), List.mem_of_getElem? (i := 1281) (by decide +kernel), List.mem_of_getElem? (i := 1282) (by decide +kernel)⟩
theorem lw_p33 : lw_okq (⟨"NameRestsModel", "everybody", "()I"⟩, 47) := ⟨⟨by decide +kernel, by decide +kernel⟩, List.mem_of_getElem? (i := 960) (by decide +kernel), List.mem_of_getElem? (i := 1285) (by decide +kernel), List.mem_of_getElem? (i := 1286) (by decide +kernel)⟩
theorem lw_p34 : lw_okq (⟨"NameRestsModel", "isHeld", "(III)Z"⟩, 47) := ⟨⟨by decide +kernel, by decide +kernel⟩, List.mem_of_getElem? (i := 960) (by decide +kernel), List.mem_of_getElem? (i := 1289) (by decide +kernel), List.mem_of_getElem? (i := 1290) (by decide +kernel)⟩
theorem lw_p35 : lw_okq (⟨"NameRestsModel", "isFamous", "(III)Z"⟩, 47) := ⟨⟨by decide +kernel, by decide +kernel⟩, List.mem_of_getElem? (i := 960) (by decide +kernel), List.mem_of_getElem? (i := 1293) (by decide +kernel), List.mem_of_getElem? (i := 1294) (by decide +kernel)⟩
theorem lw_p36 : lw_okq (⟨"NameRestsModel", "bears", "(IIII)Z"⟩, 47) := ⟨⟨by decide +kernel, by decide +kernel⟩, List.mem_of_getElem? (i := 960) (by decide +kernel), List.mem_of_getElem? (i := 1297) (by decide +kernel), List.mem_of_getElem? (i := 1298) (by decide +kernel)⟩
theorem lw_p37 : lw_okq (⟨"NameRestsModel", "holders", "(III)I"⟩, 47) := ⟨⟨by decide +kernel, by decide +kernel⟩, List.mem_of_getElem? (i := 960) (by decide +kernel), List.mem_of_getElem? (i := 1301) (by decide +kernel), List.mem_of_getElem? (i := 1302) (by decide +kernel)⟩
theorem lw_p38 : lw_okq (⟨"NameRestsModel", "doesHold", "(IIII)Z"⟩, 47) := ⟨⟨by decide +kernel, by decide +kernel⟩, List.mem_of_getElem? (i := 960) (by decide +kernel), List.mem_of_getElem? (i := 1305) (by decide +kernel), List.mem_of_getElem? (i := 1306) (by decide +kernel)⟩
theorem lw_p39 : lw_okq (⟨"NameRestsModel", "holdsFor", "(IIII)Z"⟩, 47) := ⟨⟨by decide +kernel, by decide +kernel⟩, List.mem_of_getElem? (i := 960) (by decide +kernel), List.mem_of_getElem? (i := 1309) (by decide +kernel), List.mem_of_getElem? (i := 1310) (by decide +kernel)⟩
theorem lw_p40 : lw_okq (⟨"NameRestsModel", "gives", "(I)I"⟩, 47) := ⟨⟨by decide +kernel, by decide +kernel⟩, List.mem_of_getElem? (i := 960) (by decide +kernel), List.mem_of_getElem? (i := 1313) (by decide +kernel), List.mem_of_getElem? (i := 1314) (by decide +kernel)⟩
theorem lw_p41 : lw_okq (⟨"NameRestsModel", "worked", "(III)I"⟩, 47) := ⟨⟨by decide +kernel, by decide +kernel⟩, List.mem_of_getElem? (i := 960) (by decide +kernel), List.mem_of_getElem? (i := 1317) (by decide +kernel), List.mem_of_getElem? (i := 1318) (by decide +kernel)⟩
theorem lw_p42 : lw_okq (⟨"NameRestsModel", "heldIn", "(I)I"⟩, 47) := ⟨⟨by decide +kernel, by decide +kernel⟩, List.mem_of_getElem? (i := 960) (by decide +kernel), List.mem_of_getElem? (i := 1328) (by decide +kernel), List.mem_of_getElem? (i := 1329) (by decide +kernel)⟩
theorem lw_p43 : lw_okq (⟨"NameRestsModel", "personAt", "(I)I"⟩, 47) := ⟨⟨by decide +kernel, by decide +kernel⟩, List.mem_of_getElem? (i := 960) (by decide +kernel), List.mem_of_getElem? (i := 1343) (by decide +kernel), List.mem_of_getElem? (i := 1344) (by decide +kernel)⟩
theorem lw_p44 : lw_okq (⟨"NameRestsModel", "aheadOf", "(I)I"⟩, 47) := ⟨⟨by decide +kernel, by decide +kernel⟩, List.mem_of_getElem? (i := 960) (by decide +kernel), List.mem_of_getElem? (i := 1347) (by decide +kernel), List.mem_of_getElem? (i := 1348) (by decide +kernel)⟩
theorem lw_p45 : lw_okq (⟨"NameRestsModel", "given", "(II)I"⟩, 47) := ⟨⟨by decide +kernel, by decide +kernel⟩, List.mem_of_getElem? (i := 960) (by decide +kernel), List.mem_of_getElem? (i := 1355) (by decide +kernel), List.mem_of_getElem? (i := 1356) (by decide +kernel)⟩
theorem lw_p46 : lw_okq (⟨"NameRestsModel", "latestHeld", "(III)I"⟩, 47) := ⟨⟨by decide +kernel, by decide +kernel⟩, List.mem_of_getElem? (i := 960) (by decide +kernel), List.mem_of_getElem? (i := 1359) (by decide +kernel), List.mem_of_getElem? (i := 1360) (by decide +kernel)⟩
theorem lw_p47 : lw_okq (⟨"NameRestsModel", "runBy", "(I)V"⟩, 47) := ⟨⟨by decide +kernel, by decide +kernel⟩, List.mem_of_getElem? (i := 960) (by decide +kernel), List.mem_of_getElem? (i := 1367) (by decide +kernel), List.mem_of_getElem? (i := 1368) (by decide +kernel)⟩
def lw_privs_3 : List (MethodName × Nat) := [(⟨"NameRestsModel", "asNamed", "()V"⟩, 47), (⟨"NameRestsModel", "everybody", "()I"⟩, 47), (⟨"NameRestsModel", "isHeld", "(III)Z"⟩, 47), (⟨"NameRestsModel", "isFamous", "(III)Z"⟩, 47), (⟨"NameRestsModel", "bears", "(IIII)Z"⟩, 47), (⟨"NameRestsModel", "holders", "(III)I"⟩, 47), (⟨"NameRestsModel", "doesHold", "(IIII)Z"⟩, 47), (⟨"NameRestsModel", "holdsFor", "(IIII)Z"⟩, 47), (⟨"NameRestsModel", "gives", "(I)I"⟩, 47), (⟨"NameRestsModel", "worked", "(III)I"⟩, 47), (⟨"NameRestsModel", "heldIn", "(I)I"⟩, 47), (⟨"NameRestsModel", "personAt", "(I)I"⟩, 47), (⟨"NameRestsModel", "aheadOf", "(I)I"⟩, 47), (⟨"NameRestsModel", "given", "(II)I"⟩, 47), (⟨"NameRestsModel", "latestHeld", "(III)I"⟩, 47), (⟨"NameRestsModel", "runBy", "(I)V"⟩, 47)]
theorem lw_r3 : ∀ q ∈ lw_privs_3, lw_okq q := List.forall_mem_cons.mpr ⟨lw_p32, List.forall_mem_cons.mpr ⟨lw_p33, List.forall_mem_cons.mpr ⟨lw_p34, List.forall_mem_cons.mpr ⟨lw_p35, List.forall_mem_cons.mpr ⟨lw_p36, List.forall_mem_cons.mpr ⟨lw_p37, List.forall_mem_cons.mpr ⟨lw_p38, List.forall_mem_cons.mpr ⟨lw_p39, List.forall_mem_cons.mpr ⟨lw_p40, List.forall_mem_cons.mpr ⟨lw_p41, List.forall_mem_cons.mpr ⟨lw_p42, List.forall_mem_cons.mpr ⟨lw_p43, List.forall_mem_cons.mpr ⟨lw_p44, List.forall_mem_cons.mpr ⟨lw_p45, List.forall_mem_cons.mpr ⟨lw_p46, List.forall_mem_cons.mpr ⟨lw_p47, fun _ h => absurd h List.not_mem_nil⟩⟩⟩⟩⟩⟩⟩⟩⟩⟩⟩⟩⟩⟩⟩⟩
theorem lw_p48 : lw_okq (⟨"NameRestsModel", "unlikeNames", "()I"⟩, 47) := ⟨⟨by decide +kernel, by decide +kernel⟩, List.mem_of_getElem? (i := 960) (by decide +kernel), List.mem_of_getElem? (i := 1375) (by decide +kernel), List.mem_of_getElem? (i := 1376) (by decide +kernel)⟩
theorem lw_p49 : lw_okq (⟨"NameRestsModel", "isFreeWithout", "(III)Z"⟩, 47) := ⟨⟨by decide +kernel, by decide +kernel⟩, List.mem_of_getElem? (i := 960) (by decide +kernel), List.mem_of_getElem? (i := 1383) (by decide +kernel), List.mem_of_getElem? (i := 1384) (by decide +kernel)⟩
theorem lw_p50 : lw_okq (⟨"NameRestsModel", "isBody", "(I)Z"⟩, 47) := ⟨⟨by decide +kernel, by decide +kernel⟩, List.mem_of_getElem? (i := 960) (by decide +kernel), List.mem_of_getElem? (i := 1420) (by decide +kernel), List.mem_of_getElem? (i := 1421) (by decide +kernel)⟩
theorem lw_p51 : lw_okq (⟨"NameRestsModel", "giving", "(II)I"⟩, 47) := ⟨⟨by decide +kernel, by decide +kernel⟩, List.mem_of_getElem? (i := 960) (by decide +kernel), List.mem_of_getElem? (i := 1424) (by decide +kernel), List.mem_of_getElem? (i := 1425) (by decide +kernel)⟩
theorem lw_p52 : lw_okq (⟨"NameRestsModel", "ran", "(I)V"⟩, 47) := ⟨⟨by decide +kernel, by decide +kernel⟩, List.mem_of_getElem? (i := 960) (by decide +kernel), List.mem_of_getElem? (i := 1431) (by decide +kernel), List.mem_of_getElem? (i := 1432) (by decide +kernel)⟩
theorem lw_p53 : lw_okq (⟨"NameRestsModel", "plainGives", "(II)I"⟩, 47) := ⟨⟨by decide +kernel, by decide +kernel⟩, List.mem_of_getElem? (i := 960) (by decide +kernel), List.mem_of_getElem? (i := 1435) (by decide +kernel), List.mem_of_getElem? (i := 1436) (by decide +kernel)⟩
theorem lw_p54 : lw_okq (⟨"NameRestsModel", "toldGives", "(II)I"⟩, 47) := ⟨⟨by decide +kernel, by decide +kernel⟩, List.mem_of_getElem? (i := 960) (by decide +kernel), List.mem_of_getElem? (i := 1439) (by decide +kernel), List.mem_of_getElem? (i := 1440) (by decide +kernel)⟩
theorem lw_p55 : lw_okq (⟨"NameRestsModel", "holding", "(II)I"⟩, 47) := ⟨⟨by decide +kernel, by decide +kernel⟩, List.mem_of_getElem? (i := 960) (by decide +kernel), List.mem_of_getElem? (i := 1443) (by decide +kernel), List.mem_of_getElem? (i := 1444) (by decide +kernel)⟩
theorem lw_p56 : lw_okq (⟨"NameRestsModel", "soonHolds", "(II)I"⟩, 47) := ⟨⟨by decide +kernel, by decide +kernel⟩, List.mem_of_getElem? (i := 960) (by decide +kernel), List.mem_of_getElem? (i := 1447) (by decide +kernel), List.mem_of_getElem? (i := 1448) (by decide +kernel)⟩
theorem lw_p57 : lw_okq (⟨"NameRestsModel", "plainHolds", "(II)I"⟩, 47) := ⟨⟨by decide +kernel, by decide +kernel⟩, List.mem_of_getElem? (i := 960) (by decide +kernel), List.mem_of_getElem? (i := 1451) (by decide +kernel), List.mem_of_getElem? (i := 1452) (by decide +kernel)⟩
theorem lw_p58 : lw_okq (⟨"NameRestsModel", "knowing", "(II)I"⟩, 47) := ⟨⟨by decide +kernel, by decide +kernel⟩, List.mem_of_getElem? (i := 960) (by decide +kernel), List.mem_of_getElem? (i := 1455) (by decide +kernel), List.mem_of_getElem? (i := 1456) (by decide +kernel)⟩
theorem lw_p59 : lw_okq (⟨"NameRestsModel", "wishKnows", "(II)I"⟩, 47) := ⟨⟨by decide +kernel, by decide +kernel⟩, List.mem_of_getElem? (i := 960) (by decide +kernel), List.mem_of_getElem? (i := 1459) (by decide +kernel), List.mem_of_getElem? (i := 1460) (by decide +kernel)⟩
theorem lw_p60 : lw_okq (⟨"NameRestsModel", "plainKnows", "(II)I"⟩, 47) := ⟨⟨by decide +kernel, by decide +kernel⟩, List.mem_of_getElem? (i := 960) (by decide +kernel), List.mem_of_getElem? (i := 1463) (by decide +kernel), List.mem_of_getElem? (i := 1464) (by decide +kernel)⟩
theorem lw_p61 : lw_okq (⟨"NameRestsModel", "telling", "(II)I"⟩, 47) := ⟨⟨by decide +kernel, by decide +kernel⟩, List.mem_of_getElem? (i := 960) (by decide +kernel), List.mem_of_getElem? (i := 1467) (by decide +kernel), List.mem_of_getElem? (i := 1468) (by decide +kernel)⟩
theorem lw_p62 : lw_okq (⟨"NameRestsModel", "plainTells", "(II)I"⟩, 47) := ⟨⟨by decide +kernel, by decide +kernel⟩, List.mem_of_getElem? (i := 960) (by decide +kernel), List.mem_of_getElem? (i := 1471) (by decide +kernel), List.mem_of_getElem? (i := 1472) (by decide +kernel)⟩
theorem lw_p63 : lw_okq (⟨"NameRestsModel", "namedMany", "()I"⟩, 47) := ⟨⟨by decide +kernel, by decide +kernel⟩, List.mem_of_getElem? (i := 960) (by decide +kernel), List.mem_of_getElem? (i := 1479) (by decide +kernel), List.mem_of_getElem? (i := 1480) (by decide +kernel)⟩
def lw_privs_4 : List (MethodName × Nat) := [(⟨"NameRestsModel", "unlikeNames", "()I"⟩, 47), (⟨"NameRestsModel", "isFreeWithout", "(III)Z"⟩, 47), (⟨"NameRestsModel", "isBody", "(I)Z"⟩, 47), (⟨"NameRestsModel", "giving", "(II)I"⟩, 47), (⟨"NameRestsModel", "ran", "(I)V"⟩, 47), (⟨"NameRestsModel", "plainGives", "(II)I"⟩, 47), (⟨"NameRestsModel", "toldGives", "(II)I"⟩, 47), (⟨"NameRestsModel", "holding", "(II)I"⟩, 47), (⟨"NameRestsModel", "soonHolds", "(II)I"⟩, 47), (⟨"NameRestsModel", "plainHolds", "(II)I"⟩, 47), (⟨"NameRestsModel", "knowing", "(II)I"⟩, 47), (⟨"NameRestsModel", "wishKnows", "(II)I"⟩, 47), (⟨"NameRestsModel", "plainKnows", "(II)I"⟩, 47), (⟨"NameRestsModel", "telling", "(II)I"⟩, 47), (⟨"NameRestsModel", "plainTells", "(II)I"⟩, 47), (⟨"NameRestsModel", "namedMany", "()I"⟩, 47)]
theorem lw_r4 : ∀ q ∈ lw_privs_4, lw_okq q := List.forall_mem_cons.mpr ⟨lw_p48, List.forall_mem_cons.mpr ⟨lw_p49, List.forall_mem_cons.mpr ⟨lw_p50, List.forall_mem_cons.mpr ⟨lw_p51, List.forall_mem_cons.mpr ⟨lw_p52, List.forall_mem_cons.mpr ⟨lw_p53, List.forall_mem_cons.mpr ⟨lw_p54, List.forall_mem_cons.mpr ⟨lw_p55, List.forall_mem_cons.mpr ⟨lw_p56, List.forall_mem_cons.mpr ⟨lw_p57, List.forall_mem_cons.mpr ⟨lw_p58, List.forall_mem_cons.mpr ⟨lw_p59, List.forall_mem_cons.mpr ⟨lw_p60, List.forall_mem_cons.mpr ⟨lw_p61, List.forall_mem_cons.mpr ⟨lw_p62, List.forall_mem_cons.mpr ⟨lw_p63, fun _ h => absurd h List.not_mem_nil⟩⟩⟩⟩⟩⟩⟩⟩⟩⟩⟩⟩⟩⟩⟩⟩
theorem lw_p64 : lw_okq (⟨"NameRestsModel", "whyNoPlace", "(II)I"⟩, 47) := ⟨⟨by decide +kernel, by decide +kernel⟩, List.mem_of_getElem? (i := 960) (by decide +kernel), List.mem_of_getElem? (i := 1495) (by decide +kernel), List.mem_of_getElem? (i := 1496) (by decide +kernel)⟩
def lw_privs_5 : List (MethodName × Nat) := [(⟨"NameRestsModel", "whyNoPlace", "(II)I"⟩, 47)]
theorem lw_r5 : ∀ q ∈ lw_privs_5, lw_okq q := List.forall_mem_cons.mpr ⟨lw_p64, fun _ h => absurd h List.not_mem_nil⟩
def lw_privs : List (MethodName × Nat) := lw_privs_1 ++ (lw_privs_2 ++ (lw_privs_3 ++ (lw_privs_4 ++ (lw_privs_5))))
def lw_tbl : List Cond := k2_sels lw_privs ++ tables_1
theorem lw_privs_ok : ∀ q ∈ lw_privs, lw_okq q := by
  show ∀ q ∈ lw_privs_1 ++ (lw_privs_2 ++ (lw_privs_3 ++ (lw_privs_4 ++ (lw_privs_5)))), lw_okq q
  exact List.forall_mem_append.mpr ⟨lw_r1, List.forall_mem_append.mpr ⟨lw_r2, List.forall_mem_append.mpr ⟨lw_r3, List.forall_mem_append.mpr ⟨lw_r4, lw_r5⟩⟩⟩⟩
end
section
def RX0 : String := "NameRests$Changes"
def TX0 : u_T := fun k => match k with
  | 0 => ("NameRests$Changes", "what", "[I", true)
  | 1 => ("NameRests$Changes", "number", "[I", true)
  | 2 => ("NameRests$Changes", "before", "[I", true)
  | 3 => ("NameRests$Changes", "after", "[I", true)
  | 4 => ("NameRests$Changes", "done", "I", false)
  | _ => ("NameRests$Changes", "kept", "I", false)
def tyX0 : Nat → FieldType := fun k => match k with
  | 0 => .array .int
  | 1 => .array .int
  | 2 => .array .int
  | 3 => .array .int
  | 4 => .int
  | _ => .int
theorem nmX0 : ∀ a, a < 6 → ∀ b, b < 6 → a ≠ b → (TX0 a).2.1 ≠ (TX0 b).2.1 := by decide +kernel
theorem tyX0_ok : ∀ k, k < 6 → parseFieldDescriptor (TX0 k).2.2.1 = some (tyX0 k) := by decide +kernel
abbrev cX0_init : ByteArray := prog_2_method_1_code
def yX0_init : MethodName := ⟨RX0, "<init>", "()V"⟩
abbrev cX0_add : ByteArray := prog_2_method_2_code
def yX0_add : MethodName := ⟨RX0, "add", "(IIII)V"⟩
abbrev cX0_dropOldest : ByteArray := prog_2_method_3_code
def yX0_dropOldest : MethodName := ⟨RX0, "dropOldest", "()V"⟩
abbrev cX0_stepBack : ByteArray := prog_2_method_4_code
def yX0_stepBack : MethodName := ⟨RX0, "stepBack", "()Z"⟩
abbrev cX0_hasUndone : ByteArray := prog_2_method_5_code
def yX0_hasUndone : MethodName := ⟨RX0, "hasUndone", "()Z"⟩
abbrev cX0_stepOn : ByteArray := prog_2_method_6_code
def yX0_stepOn : MethodName := ⟨RX0, "stepOn", "()V"⟩
def RX1 : String := "NameRests$Givers"
def TX1 : u_T := fun k => match k with
  | 0 => ("NameRests$Givers", "kinds", "[I", true)
  | 1 => ("NameRests$Givers", "bodies", "I", false)
  | 2 => ("NameRests$Givers", "trace", "[I", true)
  | 3 => ("NameRests$Givers", "ran", "I", false)
  | _ => ("NameRests$Givers", "actor", "I", false)
def tyX1 : Nat → FieldType := fun k => match k with
  | 0 => .array .int
  | 1 => .int
  | 2 => .array .int
  | 3 => .int
  | _ => .int
theorem nmX1 : ∀ a, a < 5 → ∀ b, b < 5 → a ≠ b → (TX1 a).2.1 ≠ (TX1 b).2.1 := by decide +kernel
theorem tyX1_ok : ∀ k, k < 5 → parseFieldDescriptor (TX1 k).2.2.1 = some (tyX1 k) := by decide +kernel
abbrev cX1_init : ByteArray := prog_3_method_1_code
def yX1_init : MethodName := ⟨RX1, "<init>", "()V"⟩
abbrev cX1_has : ByteArray := prog_3_method_2_code
def yX1_has : MethodName := ⟨RX1, "has", "(I)Z"⟩
abbrev cX1_add : ByteArray := prog_3_method_3_code
def yX1_add : MethodName := ⟨RX1, "add", "(I)I"⟩
abbrev cX1_traced : ByteArray := prog_3_method_4_code
def yX1_traced : MethodName := ⟨RX1, "traced", "()I"⟩
abbrev cX1_isUnder : ByteArray := prog_3_method_5_code
def yX1_isUnder : MethodName := ⟨RX1, "isUnder", "(II)Z"⟩
abbrev cX1_perform : ByteArray := prog_3_method_6_code
def yX1_perform : MethodName := ⟨RX1, "perform", "(III)I"⟩
abbrev cX1_own : ByteArray := prog_3_method_7_code
def yX1_own : MethodName := ⟨RX1, "own", "(III)I"⟩
abbrev cX1_runFrom : ByteArray := prog_3_method_8_code
def yX1_runFrom : MethodName := ⟨RX1, "runFrom", "(IIII)I"⟩
abbrev cX1_noteBegun : ByteArray := prog_3_method_9_code
def yX1_noteBegun : MethodName := ⟨RX1, "noteBegun", "(I)V"⟩
abbrev cX1_runBody : ByteArray := prog_3_method_10_code
def yX1_runBody : MethodName := ⟨RX1, "runBody", "(IIII)I"⟩
def RX2 : String := "NameRests$Law"
def TX2 : u_T := fun k => match k with
  | 0 => ("NameRests$Law", "tape", "[I", true)
  | 1 => ("NameRests$Law", "onTape", "I", false)
  | 2 => ("NameRests$Law", "draft", "[I", true)
  | 3 => ("NameRests$Law", "drafted", "I", false)
  | 4 => ("NameRests$Law", "place", "I", false)
  | 5 => ("NameRests$Law", "fault", "I", false)
  | 6 => ("NameRests$Law", "code", "[I", true)
  | 7 => ("NameRests$Law", "codes", "I", false)
  | 8 => ("NameRests$Law", "told", "[I", true)
  | 9 => ("NameRests$Law", "stack", "[I", true)
  | _ => ("NameRests$Law", "height", "I", false)
def tyX2 : Nat → FieldType := fun k => match k with
  | 0 => .array .int
  | 1 => .int
  | 2 => .array .int
  | 3 => .int
  | 4 => .int
  | 5 => .int
  | 6 => .array .int
  | 7 => .int
  | 8 => .array .int
  | 9 => .array .int
  | _ => .int
theorem nmX2 : ∀ a, a < 11 → ∀ b, b < 11 → a ≠ b → (TX2 a).2.1 ≠ (TX2 b).2.1 := by decide +kernel
theorem tyX2_ok : ∀ k, k < 11 → parseFieldDescriptor (TX2 k).2.2.1 = some (tyX2 k) := by decide +kernel
abbrev cX2_init : ByteArray := prog_4_method_1_code
def yX2_init : MethodName := ⟨RX2, "<init>", "()V"⟩
abbrev cX2_takeByte : ByteArray := prog_4_method_2_code
def yX2_takeByte : MethodName := ⟨RX2, "takeByte", "(I)I"⟩
abbrev cX2_takeTape : ByteArray := prog_4_method_3_code
def yX2_takeTape : MethodName := ⟨RX2, "takeTape", "()I"⟩
abbrev cX2_readLines : ByteArray := prog_4_method_4_code
def yX2_readLines : MethodName := ⟨RX2, "readLines", "()V"⟩
abbrev cX2_readLine : ByteArray := prog_4_method_5_code
def yX2_readLine : MethodName := ⟨RX2, "readLine", "()V"⟩
abbrev cX2_readRank : ByteArray := prog_4_method_6_code
def yX2_readRank : MethodName := ⟨RX2, "readRank", "(II)V"⟩
abbrev cX2_readOperand : ByteArray := prog_4_method_7_code
def yX2_readOperand : MethodName := ⟨RX2, "readOperand", "(I)V"⟩
abbrev cX2_readClosing : ByteArray := prog_4_method_8_code
def yX2_readClosing : MethodName := ⟨RX2, "readClosing", "()V"⟩
abbrev cX2_readNumber : ByteArray := prog_4_method_9_code
def yX2_readNumber : MethodName := ⟨RX2, "readNumber", "()V"⟩
abbrev cX2_refuse : ByteArray := prog_4_method_10_code
def yX2_refuse : MethodName := ⟨RX2, "refuse", "()V"⟩
abbrev cX2_nextByte : ByteArray := prog_4_method_11_code
def yX2_nextByte : MethodName := ⟨RX2, "nextByte", "()I"⟩
abbrev cX2_draftSign : ByteArray := prog_4_method_12_code
def yX2_draftSign : MethodName := ⟨RX2, "draftSign", "()V"⟩
abbrev cX2_draftCode : ByteArray := prog_4_method_13_code
def yX2_draftCode : MethodName := ⟨RX2, "draftCode", "(I)V"⟩
abbrev cX2_isDigit : ByteArray := prog_4_method_14_code
def yX2_isDigit : MethodName := ⟨RX2, "isDigit", "(I)Z"⟩
abbrev cX2_letterOf : ByteArray := prog_4_method_15_code
def yX2_letterOf : MethodName := ⟨RX2, "letterOf", "(I)I"⟩
abbrev cX2_rankOf : ByteArray := prog_4_method_16_code
def yX2_rankOf : MethodName := ⟨RX2, "rankOf", "(I)I"⟩
abbrev cX2_tell : ByteArray := prog_4_method_17_code
def yX2_tell : MethodName := ⟨RX2, "tell", "(IIIIII)V"⟩
abbrev cX2_reckon : ByteArray := prog_4_method_18_code
def yX2_reckon : MethodName := ⟨RX2, "reckon", "()I"⟩
abbrev cX2_reckonSign : ByteArray := prog_4_method_19_code
def yX2_reckonSign : MethodName := ⟨RX2, "reckonSign", "(I)V"⟩
abbrev cX2_joined : ByteArray := prog_4_method_20_code
def yX2_joined : MethodName := ⟨RX2, "joined", "(III)I"⟩
abbrev cX2_push : ByteArray := prog_4_method_21_code
def yX2_push : MethodName := ⟨RX2, "push", "(I)V"⟩
abbrev cX2_pop : ByteArray := prog_4_method_22_code
def yX2_pop : MethodName := ⟨RX2, "pop", "()I"⟩
def RX3 : String := "NameRests$Naming"
def TX3 : u_T := fun k => match k with
  | 0 => ("NameRests$Naming", "real", "LNameRests$Parish;", true)
  | 1 => ("NameRests$Naming", "thought", "LNameRests$Parish;", true)
  | 2 => ("NameRests$Naming", "latestHeld", "[I", true)
  | _ => ("NameRests$Naming", "notedYears", "I", false)
def tyX3 : Nat → FieldType := fun k => match k with
  | 0 => .object "NameRests$Parish"
  | 1 => .object "NameRests$Parish"
  | 2 => .array .int
  | _ => .int
theorem nmX3 : ∀ a, a < 4 → ∀ b, b < 4 → a ≠ b → (TX3 a).2.1 ≠ (TX3 b).2.1 := by decide +kernel
theorem tyX3_ok : ∀ k, k < 4 → parseFieldDescriptor (TX3 k).2.2.1 = some (tyX3 k) := by decide +kernel
abbrev cX3_init : ByteArray := prog_5_method_1_code
def yX3_init : MethodName := ⟨RX3, "<init>", "(LNameRests$Parish;LNameRests$Parish;)V"⟩
abbrev cX3_begin : ByteArray := prog_5_method_2_code
def yX3_begin : MethodName := ⟨RX3, "begin", "()V"⟩
abbrev cX3_forgetNames : ByteArray := prog_5_method_3_code
def yX3_forgetNames : MethodName := ⟨RX3, "forgetNames", "()V"⟩
abbrev cX3_noteHeldAheadOf : ByteArray := prog_5_method_4_code
def yX3_noteHeldAheadOf : MethodName := ⟨RX3, "noteHeldAheadOf", "(I)V"⟩
abbrev cX3_isBetter : ByteArray := prog_5_method_5_code
def yX3_isBetter : MethodName := ⟨RX3, "isBetter", "(III)Z"⟩
abbrev cX3_choose : ByteArray := prog_5_method_6_code
def yX3_choose : MethodName := ⟨RX3, "choose", "(II)I"⟩
abbrev cX3_chosenFor : ByteArray := prog_5_method_7_code
def yX3_chosenFor : MethodName := ⟨RX3, "chosenFor", "(II)I"⟩
abbrev cX3_firstHeldAtBirth : ByteArray := prog_5_method_8_code
def yX3_firstHeldAtBirth : MethodName := ⟨RX3, "firstHeldAtBirth", "()I"⟩
abbrev cX3_nameAll : ByteArray := prog_5_method_9_code
def yX3_nameAll : MethodName := ⟨RX3, "nameAll", "(I)V"⟩
abbrev cX3_namesThatCame : ByteArray := prog_5_method_10_code
def yX3_namesThatCame : MethodName := ⟨RX3, "namesThatCame", "()I"⟩
abbrev cX3_sumOfWorths : ByteArray := prog_5_method_11_code
def yX3_sumOfWorths : MethodName := ⟨RX3, "sumOfWorths", "()I"⟩
abbrev cX3_peopleWithout : ByteArray := prog_5_method_12_code
def yX3_peopleWithout : MethodName := ⟨RX3, "peopleWithout", "()I"⟩
abbrev cX3_drawDeaths : ByteArray := prog_5_method_13_code
def yX3_drawDeaths : MethodName := ⟨RX3, "drawDeaths", "(I)I"⟩
def RX4 : String := "NameRests$Parish"
def TX4 : u_T := fun k => match k with
  | 0 => ("NameRests$Parish", "law", "LNameRests$Law;", true)
  | 1 => ("NameRests$Parish", "born", "[I", true)
  | 2 => ("NameRests$Parish", "dies", "[I", true)
  | 3 => ("NameRests$Parish", "names", "[I", true)
  | 4 => ("NameRests$Parish", "order", "[I", true)
  | 5 => ("NameRests$Parish", "people", "I", false)
  | 6 => ("NameRests$Parish", "one", "[I", true)
  | 7 => ("NameRests$Parish", "other", "[I", true)
  | 8 => ("NameRests$Parish", "meetingYear", "[I", true)
  | 9 => ("NameRests$Parish", "meetingOrder", "[I", true)
  | 10 => ("NameRests$Parish", "meetings", "I", false)
  | 11 => ("NameRests$Parish", "hearing", "I", false)
  | 12 => ("NameRests$Parish", "worth", "[I", true)
  | 13 => ("NameRests$Parish", "fame", "[I", true)
  | _ => ("NameRests$Parish", "known", "[I", true)
def tyX4 : Nat → FieldType := fun k => match k with
  | 0 => .object "NameRests$Law"
  | 1 => .array .int
  | 2 => .array .int
  | 3 => .array .int
  | 4 => .array .int
  | 5 => .int
  | 6 => .array .int
  | 7 => .array .int
  | 8 => .array .int
  | 9 => .array .int
  | 10 => .int
  | 11 => .int
  | 12 => .array .int
  | 13 => .array .int
  | _ => .array .int
theorem nmX4 : ∀ a, a < 15 → ∀ b, b < 15 → a ≠ b → (TX4 a).2.1 ≠ (TX4 b).2.1 := by decide +kernel
theorem tyX4_ok : ∀ k, k < 15 → parseFieldDescriptor (TX4 k).2.2.1 = some (tyX4 k) := by decide +kernel
abbrev cX4_init : ByteArray := prog_6_method_1_code
def yX4_init : MethodName := ⟨RX4, "<init>", "(LNameRests$Law;)V"⟩
abbrev cX4_copyAllButNames : ByteArray := prog_6_method_2_code
def yX4_copyAllButNames : MethodName := ⟨RX4, "copyAllButNames", "(LNameRests$Parish;)V"⟩
abbrev cX4_hasPerson : ByteArray := prog_6_method_3_code
def yX4_hasPerson : MethodName := ⟨RX4, "hasPerson", "(I)Z"⟩
abbrev cX4_hasMeeting : ByteArray := prog_6_method_4_code
def yX4_hasMeeting : MethodName := ⟨RX4, "hasMeeting", "(I)Z"⟩
abbrev cX4_come : ByteArray := prog_6_method_5_code
def yX4_come : MethodName := ⟨RX4, "come", "(III)I"⟩
abbrev cX4_placeOf : ByteArray := prog_6_method_6_code
def yX4_placeOf : MethodName := ⟨RX4, "placeOf", "(I)I"⟩
abbrev cX4_lives : ByteArray := prog_6_method_7_code
def yX4_lives : MethodName := ⟨RX4, "lives", "(II)Z"⟩
abbrev cX4_livingIn : ByteArray := prog_6_method_8_code
def yX4_livingIn : MethodName := ⟨RX4, "livingIn", "(I)I"⟩
abbrev cX4_mayMeet : ByteArray := prog_6_method_9_code
def yX4_mayMeet : MethodName := ⟨RX4, "mayMeet", "(III)Z"⟩
abbrev cX4_addMeeting : ByteArray := prog_6_method_10_code
def yX4_addMeeting : MethodName := ⟨RX4, "addMeeting", "(III)I"⟩
abbrev cX4_counts : ByteArray := prog_6_method_11_code
def yX4_counts : MethodName := ⟨RX4, "counts", "(I)Z"⟩
abbrev cX4_countsBy : ByteArray := prog_6_method_12_code
def yX4_countsBy : MethodName := ⟨RX4, "countsBy", "(II)Z"⟩
abbrev cX4_learnUpTo : ByteArray := prog_6_method_13_code
def yX4_learnUpTo : MethodName := ⟨RX4, "learnUpTo", "(I)V"⟩
abbrev cX4_knowOneself : ByteArray := prog_6_method_14_code
def yX4_knowOneself : MethodName := ⟨RX4, "knowOneself", "()V"⟩
abbrev cX4_greet : ByteArray := prog_6_method_15_code
def yX4_greet : MethodName := ⟨RX4, "greet", "(I)V"⟩
abbrev cX4_bearersOf : ByteArray := prog_6_method_16_code
def yX4_bearersOf : MethodName := ⟨RX4, "bearersOf", "(I)I"⟩
abbrev cX4_namedPeople : ByteArray := prog_6_method_17_code
def yX4_namedPeople : MethodName := ⟨RX4, "namedPeople", "()I"⟩
abbrev cX4_isBearer : ByteArray := prog_6_method_18_code
def yX4_isBearer : MethodName := ⟨RX4, "isBearer", "(III)Z"⟩
abbrev cX4_isFamed : ByteArray := prog_6_method_19_code
def yX4_isFamed : MethodName := ⟨RX4, "isFamed", "(II)Z"⟩
abbrev cX4_livesKnowing : ByteArray := prog_6_method_20_code
def yX4_livesKnowing : MethodName := ⟨RX4, "livesKnowing", "(III)Z"⟩
abbrev cX4_wouldHold : ByteArray := prog_6_method_21_code
def yX4_wouldHold : MethodName := ⟨RX4, "wouldHold", "(III)Z"⟩
abbrev cX4_holdersOf : ByteArray := prog_6_method_22_code
def yX4_holdersOf : MethodName := ⟨RX4, "holdersOf", "(II)I"⟩
abbrev cX4_heldIn : ByteArray := prog_6_method_23_code
def yX4_heldIn : MethodName := ⟨RX4, "heldIn", "(I)I"⟩
def RX5 : String := "NameRests$Parting"
def TX5 : u_T := fun k => match k with
  | 0 => ("NameRests$Parting", "parish", "LNameRests$Parish;", true)
  | 1 => ("NameRests$Parting", "holdsFor", "[I", true)
  | 2 => ("NameRests$Parting", "learntBy", "[I", true)
  | 3 => ("NameRests$Parting", "year", "I", false)
  | 4 => ("NameRests$Parting", "best", "I", false)
  | _ => ("NameRests$Parting", "bestSize", "I", false)
def tyX5 : Nat → FieldType := fun k => match k with
  | 0 => .object "NameRests$Parish"
  | 1 => .array .int
  | 2 => .array .int
  | 3 => .int
  | 4 => .int
  | _ => .int
theorem nmX5 : ∀ a, a < 6 → ∀ b, b < 6 → a ≠ b → (TX5 a).2.1 ≠ (TX5 b).2.1 := by decide +kernel
theorem tyX5_ok : ∀ k, k < 6 → parseFieldDescriptor (TX5 k).2.2.1 = some (tyX5 k) := by decide +kernel
abbrev cX5_init : ByteArray := prog_7_method_1_code
def yX5_init : MethodName := ⟨RX5, "<init>", "(LNameRests$Parish;)V"⟩
abbrev cX5_fewest : ByteArray := prog_7_method_2_code
def yX5_fewest : MethodName := ⟨RX5, "fewest", "(II)I"⟩
abbrev cX5_noteWhoHolds : ByteArray := prog_7_method_3_code
def yX5_noteWhoHolds : MethodName := ⟨RX5, "noteWhoHolds", "(I)Z"⟩
abbrev cX5_seek : ByteArray := prog_7_method_4_code
def yX5_seek : MethodName := ⟨RX5, "seek", "(III)V"⟩
abbrev cX5_chainWithout : ByteArray := prog_7_method_5_code
def yX5_chainWithout : MethodName := ⟨RX5, "chainWithout", "(I)I"⟩
abbrev cX5_greetAndNote : ByteArray := prog_7_method_6_code
def yX5_greetAndNote : MethodName := ⟨RX5, "greetAndNote", "(I)V"⟩
abbrev cX5_noteLearnt : ByteArray := prog_7_method_7_code
def yX5_noteLearnt : MethodName := ⟨RX5, "noteLearnt", "(III)V"⟩
abbrev cX5_chainOf : ByteArray := prog_7_method_8_code
def yX5_chainOf : MethodName := ⟨RX5, "chainOf", "(II)I"⟩
def RX6 : String := "NameRests$Shelf"
def TX6 : u_T := fun k => match k with
  | 0 => ("NameRests$Shelf", "elements", "[J", true)
  | 1 => ("NameRests$Shelf", "body", "I", false)
  | 2 => ("NameRests$Shelf", "sort", "I", false)
  | _ => ("NameRests$Shelf", "size", "I", false)
def tyX6 : Nat → FieldType := fun k => match k with
  | 0 => .array .long
  | 1 => .int
  | 2 => .int
  | _ => .int
theorem nmX6 : ∀ a, a < 4 → ∀ b, b < 4 → a ≠ b → (TX6 a).2.1 ≠ (TX6 b).2.1 := by decide +kernel
theorem tyX6_ok : ∀ k, k < 4 → parseFieldDescriptor (TX6 k).2.2.1 = some (tyX6 k) := by decide +kernel
abbrev cX6_init : ByteArray := prog_8_method_1_code
def yX6_init : MethodName := ⟨RX6, "<init>", "()V"⟩
abbrev cX6_isRow : ByteArray := prog_8_method_2_code
def yX6_isRow : MethodName := ⟨RX6, "isRow", "()Z"⟩
abbrev cX6_isEmpty : ByteArray := prog_8_method_3_code
def yX6_isEmpty : MethodName := ⟨RX6, "isEmpty", "()Z"⟩
abbrev cX6_holdBody : ByteArray := prog_8_method_4_code
def yX6_holdBody : MethodName := ⟨RX6, "holdBody", "(I)V"⟩
abbrev cX6_holdRow : ByteArray := prog_8_method_5_code
def yX6_holdRow : MethodName := ⟨RX6, "holdRow", "(II)V"⟩
abbrev cX6_hasPlaces : ByteArray := prog_8_method_6_code
def yX6_hasPlaces : MethodName := ⟨RX6, "hasPlaces", "(II)Z"⟩
abbrev cX6_setElement : ByteArray := prog_8_method_7_code
def yX6_setElement : MethodName := ⟨RX6, "setElement", "(IJ)V"⟩
abbrev cX6_lowestBits : ByteArray := prog_8_method_8_code
def yX6_lowestBits : MethodName := ⟨RX6, "lowestBits", "(J)J"⟩
def RX7 : String := "NameRests"
def TX7 : u_T := fun k => match k with
  | 0 => ("NameRests", "law", "LNameRests$Law;", true)
  | 1 => ("NameRests", "parish", "LNameRests$Parish;", true)
  | 2 => ("NameRests", "naming", "LNameRests$Naming;", true)
  | 3 => ("NameRests", "parting", "LNameRests$Parting;", true)
  | 4 => ("NameRests", "changes", "LNameRests$Changes;", true)
  | 5 => ("NameRests", "givers", "LNameRests$Givers;", true)
  | 6 => ("NameRests", "shelves", "[LNameRests$Shelf;", true)
  | 7 => ("NameRests", "imageNames", "[I", true)
  | _ => ("NameRests", "imagePeople", "I", false)
def tyX7 : Nat → FieldType := fun k => match k with
  | 0 => .object "NameRests$Law"
  | 1 => .object "NameRests$Parish"
  | 2 => .object "NameRests$Naming"
  | 3 => .object "NameRests$Parting"
  | 4 => .object "NameRests$Changes"
  | 5 => .object "NameRests$Givers"
  | 6 => .array (.object "NameRests$Shelf")
  | 7 => .array .int
  | _ => .int
theorem nmX7 : ∀ a, a < 9 → ∀ b, b < 9 → a ≠ b → (TX7 a).2.1 ≠ (TX7 b).2.1 := by decide +kernel
theorem tyX7_ok : ∀ k, k < 9 → parseFieldDescriptor (TX7 k).2.2.1 = some (tyX7 k) := by decide +kernel
abbrev cX7_init : ByteArray := prog_1_method_1_code
def yX7_init : MethodName := ⟨RX7, "<init>", "()V"⟩
abbrev cX7_person : ByteArray := prog_1_method_2_code
def yX7_person : MethodName := ⟨RX7, "person", "(II)I"⟩
abbrev cX7_people : ByteArray := prog_1_method_3_code
def yX7_people : MethodName := ⟨RX7, "people", "(III)I"⟩
abbrev cX7_meet : ByteArray := prog_1_method_4_code
def yX7_meet : MethodName := ⟨RX7, "meet", "(II)I"⟩
abbrev cX7_hearing : ByteArray := prog_1_method_5_code
def yX7_hearing : MethodName := ⟨RX7, "hearing", "(I)I"⟩
abbrev cX7_name : ByteArray := prog_1_method_6_code
def yX7_name : MethodName := ⟨RX7, "name", "(II)I"⟩
abbrev cX7_fame : ByteArray := prog_1_method_7_code
def yX7_fame : MethodName := ⟨RX7, "fame", "(II)I"⟩
abbrev cX7_mend : ByteArray := prog_1_method_8_code
def yX7_mend : MethodName := ⟨RX7, "mend", "(III)I"⟩
abbrev cX7_of : ByteArray := prog_1_method_9_code
def yX7_of : MethodName := ⟨RX7, "of", "(II)I"⟩
abbrev cX7_feed : ByteArray := prog_1_method_10_code
def yX7_feed : MethodName := ⟨RX7, "feed", "(I)I"⟩
abbrev cX7_law : ByteArray := prog_1_method_11_code
def yX7_law : MethodName := ⟨RX7, "law", "()I"⟩
abbrev cX7_knows : ByteArray := prog_1_method_12_code
def yX7_knows : MethodName := ⟨RX7, "knows", "(II)I"⟩
abbrev cX7_held : ByteArray := prog_1_method_13_code
def yX7_held : MethodName := ⟨RX7, "held", "(III)I"⟩
abbrev cX7_free : ByteArray := prog_1_method_14_code
def yX7_free : MethodName := ⟨RX7, "free", "(I)I"⟩
abbrev cX7_most : ByteArray := prog_1_method_15_code
def yX7_most : MethodName := ⟨RX7, "most", "(I)I"⟩
abbrev cX7_judge : ByteArray := prog_1_method_16_code
def yX7_judge : MethodName := ⟨RX7, "judge", "()I"⟩
abbrev cX7_give : ByteArray := prog_1_method_17_code
def yX7_give : MethodName := ⟨RX7, "give", "(II)I"⟩
abbrev cX7_run : ByteArray := prog_1_method_18_code
def yX7_run : MethodName := ⟨RX7, "run", "(II)I"⟩
abbrev cX7_used : ByteArray := prog_1_method_19_code
def yX7_used : MethodName := ⟨RX7, "used", "(II)I"⟩
abbrev cX7_apart : ByteArray := prog_1_method_20_code
def yX7_apart : MethodName := ⟨RX7, "apart", "(II)I"⟩
abbrev cX7_freed : ByteArray := prog_1_method_21_code
def yX7_freed : MethodName := ⟨RX7, "freed", "(II)I"⟩
abbrev cX7_never : ByteArray := prog_1_method_22_code
def yX7_never : MethodName := ⟨RX7, "never", "(I)I"⟩
abbrev cX7_needs : ByteArray := prog_1_method_23_code
def yX7_needs : MethodName := ⟨RX7, "needs", "(III)I"⟩
abbrev cX7_image : ByteArray := prog_1_method_24_code
def yX7_image : MethodName := ⟨RX7, "image", "()I"⟩
abbrev cX7_back : ByteArray := prog_1_method_25_code
def yX7_back : MethodName := ⟨RX7, "back", "()I"⟩
abbrev cX7_undo : ByteArray := prog_1_method_26_code
def yX7_undo : MethodName := ⟨RX7, "undo", "()I"⟩
abbrev cX7_redo : ByteArray := prog_1_method_27_code
def yX7_redo : MethodName := ⟨RX7, "redo", "()I"⟩
abbrev cX7_body : ByteArray := prog_1_method_28_code
def yX7_body : MethodName := ⟨RX7, "body", "(I)I"⟩
abbrev cX7_act : ByteArray := prog_1_method_29_code
def yX7_act : MethodName := ⟨RX7, "act", "(III)I"⟩
abbrev cX7_trace : ByteArray := prog_1_method_30_code
def yX7_trace : MethodName := ⟨RX7, "trace", "(I)I"⟩
abbrev cX7_keep : ByteArray := prog_1_method_31_code
def yX7_keep : MethodName := ⟨RX7, "keep", "(II)I"⟩
abbrev cX7_row : ByteArray := prog_1_method_32_code
def yX7_row : MethodName := ⟨RX7, "row", "(III)I"⟩
abbrev cX7_put : ByteArray := prog_1_method_33_code
def yX7_put : MethodName := ⟨RX7, "put", "(IIJ)I"⟩
abbrev cX7_element : ByteArray := prog_1_method_34_code
def yX7_element : MethodName := ⟨RX7, "element", "(II)J"⟩
abbrev cX7_shift : ByteArray := prog_1_method_35_code
def yX7_shift : MethodName := ⟨RX7, "shift", "(IIIII)I"⟩
abbrev cX7_taken : ByteArray := prog_1_method_36_code
def yX7_taken : MethodName := ⟨RX7, "taken", "(II)I"⟩
abbrev cX7_count : ByteArray := prog_1_method_37_code
def yX7_count : MethodName := ⟨RX7, "count", "(I)I"⟩
abbrev cX7_isYear : ByteArray := prog_1_method_38_code
def yX7_isYear : MethodName := ⟨RX7, "isYear", "(I)Z"⟩
abbrev cX7_isName : ByteArray := prog_1_method_39_code
def yX7_isName : MethodName := ⟨RX7, "isName", "(I)Z"⟩
abbrev cX7_isWay : ByteArray := prog_1_method_40_code
def yX7_isWay : MethodName := ⟨RX7, "isWay", "(I)Z"⟩
abbrev cX7_isShelf : ByteArray := prog_1_method_41_code
def yX7_isShelf : MethodName := ⟨RX7, "isShelf", "(I)Z"⟩
abbrev cX7_isKind : ByteArray := prog_1_method_42_code
def yX7_isKind : MethodName := ⟨RX7, "isKind", "(I)Z"⟩
abbrev cX7_mayLive : ByteArray := prog_1_method_43_code
def yX7_mayLive : MethodName := ⟨RX7, "mayLive", "(II)Z"⟩
abbrev cX7_mayBeNamed : ByteArray := prog_1_method_44_code
def yX7_mayBeNamed : MethodName := ⟨RX7, "mayBeNamed", "(I)Z"⟩
abbrev cX7_mayMend : ByteArray := prog_1_method_45_code
def yX7_mayMend : MethodName := ⟨RX7, "mayMend", "(III)Z"⟩
abbrev cX7_comesFrom : ByteArray := prog_1_method_46_code
def yX7_comesFrom : MethodName := ⟨RX7, "comesFrom", "(LNameRests$Shelf;II)Z"⟩
abbrev cX7_ofPerson : ByteArray := prog_1_method_47_code
def yX7_ofPerson : MethodName := ⟨RX7, "ofPerson", "(II)I"⟩
abbrev cX7_ofName : ByteArray := prog_1_method_48_code
def yX7_ofName : MethodName := ⟨RX7, "ofName", "(II)I"⟩
abbrev cX7_ofMeeting : ByteArray := prog_1_method_49_code
def yX7_ofMeeting : MethodName := ⟨RX7, "ofMeeting", "(II)I"⟩
abbrev cX7_heldTill : ByteArray := prog_1_method_50_code
def yX7_heldTill : MethodName := ⟨RX7, "heldTill", "(II)I"⟩
abbrev cX7_setChanged : ByteArray := prog_1_method_51_code
def yX7_setChanged : MethodName := ⟨RX7, "setChanged", "(I)V"⟩
abbrev cX7_refusalOf : ByteArray := prog_1_method_52_code
def yX7_refusalOf : MethodName := ⟨RX7, "refusalOf", "(II)I"⟩
def RX8 : String := "NameRestsModel"
def TX8 : u_T := fun k => match k with
  | 0 => ("NameRestsModel", "code", "I", false)
  | 1 => ("NameRestsModel", "people", "I", false)
  | 2 => ("NameRestsModel", "born", "[I", true)
  | 3 => ("NameRestsModel", "dies", "[I", true)
  | 4 => ("NameRestsModel", "named", "[I", true)
  | 5 => ("NameRestsModel", "meetings", "I", false)
  | 6 => ("NameRestsModel", "meetsOne", "[I", true)
  | 7 => ("NameRestsModel", "meetsOther", "[I", true)
  | 8 => ("NameRestsModel", "meetsIn", "[I", true)
  | 9 => ("NameRestsModel", "hearing", "I", false)
  | 10 => ("NameRestsModel", "worth", "[I", true)
  | 11 => ("NameRestsModel", "fame", "[I", true)
  | 12 => ("NameRestsModel", "doneMany", "I", false)
  | 13 => ("NameRestsModel", "undoneMany", "I", false)
  | 14 => ("NameRestsModel", "changeOf", "[I", true)
  | 15 => ("NameRestsModel", "changeAt", "[I", true)
  | 16 => ("NameRestsModel", "before", "[I", true)
  | 17 => ("NameRestsModel", "behind", "[I", true)
  | 18 => ("NameRestsModel", "tape", "[B", true)
  | 19 => ("NameRestsModel", "taped", "I", false)
  | 20 => ("NameRestsModel", "here", "I", false)
  | 21 => ("NameRestsModel", "fault", "I", false)
  | 22 => ("NameRestsModel", "open", "I", false)
  | 23 => ("NameRestsModel", "laid", "I", false)
  | 24 => ("NameRestsModel", "act", "[B", true)
  | 25 => ("NameRestsModel", "with", "[I", true)
  | 26 => ("NameRestsModel", "lineMany", "[I", true)
  | 27 => ("NameRestsModel", "testEnd", "[S", true)
  | 28 => ("NameRestsModel", "lineEnd", "[S", true)
  | 29 => ("NameRestsModel", "facts", "[I", true)
  | 30 => ("NameRestsModel", "pile", "[I", true)
  | 31 => ("NameRestsModel", "hasLaw", "Z", false)
  | 32 => ("NameRestsModel", "known", "[I", true)
  | 33 => ("NameRestsModel", "done", "[Z", true)
  | 34 => ("NameRestsModel", "row", "[I", true)
  | 35 => ("NameRestsModel", "wasDies", "[I", true)
  | 36 => ("NameRestsModel", "hasImage", "Z", false)
  | 37 => ("NameRestsModel", "keptPeople", "I", false)
  | 38 => ("NameRestsModel", "keptNamed", "[I", true)
  | 39 => ("NameRestsModel", "bodies", "I", false)
  | 40 => ("NameRestsModel", "kind", "[I", true)
  | 41 => ("NameRestsModel", "traces", "I", false)
  | 42 => ("NameRestsModel", "traced", "[I", true)
  | 43 => ("NameRestsModel", "holds", "[I", true)
  | 44 => ("NameRestsModel", "size", "[I", true)
  | 45 => ("NameRestsModel", "elements", "[J", true)
  | _ => ("NameRestsModel", "shifted", "[J", true)
def tyX8 : Nat → FieldType := fun k => match k with
  | 0 => .int
  | 1 => .int
  | 2 => .array .int
  | 3 => .array .int
  | 4 => .array .int
  | 5 => .int
  | 6 => .array .int
  | 7 => .array .int
  | 8 => .array .int
  | 9 => .int
  | 10 => .array .int
  | 11 => .array .int
  | 12 => .int
  | 13 => .int
  | 14 => .array .int
  | 15 => .array .int
  | 16 => .array .int
  | 17 => .array .int
  | 18 => .array .byte
  | 19 => .int
  | 20 => .int
  | 21 => .int
  | 22 => .int
  | 23 => .int
  | 24 => .array .byte
  | 25 => .array .int
  | 26 => .array .int
  | 27 => .array .short
  | 28 => .array .short
  | 29 => .array .int
  | 30 => .array .int
  | 31 => .boolean
  | 32 => .array .int
  | 33 => .array .boolean
  | 34 => .array .int
  | 35 => .array .int
  | 36 => .boolean
  | 37 => .int
  | 38 => .array .int
  | 39 => .int
  | 40 => .array .int
  | 41 => .int
  | 42 => .array .int
  | 43 => .array .int
  | 44 => .array .int
  | 45 => .array .long
  | _ => .array .long
theorem nmX8 : ∀ a, a < 47 → ∀ b, b < 47 → a ≠ b → (TX8 a).2.1 ≠ (TX8 b).2.1 := by decide +kernel
theorem tyX8_ok : ∀ k, k < 47 → parseFieldDescriptor (TX8 k).2.2.1 = some (tyX8 k) := by decide +kernel
abbrev cX8_init : ByteArray := prog_10_method_1_code
def yX8_init : MethodName := ⟨RX8, "<init>", "()V"⟩
abbrev cX8_in : ByteArray := prog_10_method_3_code
def yX8_in : MethodName := ⟨RX8, "in", "(III)Z"⟩
abbrev cX8_bitsOf : ByteArray := prog_10_method_4_code
def yX8_bitsOf : MethodName := ⟨RX8, "bitsOf", "(I)I"⟩
abbrev cX8_isPerson : ByteArray := prog_10_method_5_code
def yX8_isPerson : MethodName := ⟨RX8, "isPerson", "(I)Z"⟩
abbrev cX8_isName : ByteArray := prog_10_method_6_code
def yX8_isName : MethodName := ⟨RX8, "isName", "(I)Z"⟩
abbrev cX8_isYear : ByteArray := prog_10_method_7_code
def yX8_isYear : MethodName := ⟨RX8, "isYear", "(I)Z"⟩
abbrev cX8_lives : ByteArray := prog_10_method_8_code
def yX8_lives : MethodName := ⟨RX8, "lives", "(II)Z"⟩
abbrev cX8_isLife : ByteArray := prog_10_method_9_code
def yX8_isLife : MethodName := ⟨RX8, "isLife", "(II)Z"⟩
abbrev cX8_addPerson : ByteArray := prog_10_method_10_code
def yX8_addPerson : MethodName := ⟨RX8, "addPerson", "(III)I"⟩
abbrev cX8_person : ByteArray := prog_10_method_11_code
def yX8_person : MethodName := ⟨RX8, "person", "(II)I"⟩
abbrev cX8_people : ByteArray := prog_10_method_12_code
def yX8_people : MethodName := ⟨RX8, "people", "(III)I"⟩
abbrev cX8_meet : ByteArray := prog_10_method_13_code
def yX8_meet : MethodName := ⟨RX8, "meet", "(II)I"⟩
abbrev cX8_hearing : ByteArray := prog_10_method_14_code
def yX8_hearing : MethodName := ⟨RX8, "hearing", "(I)I"⟩
abbrev cX8_name : ByteArray := prog_10_method_15_code
def yX8_name : MethodName := ⟨RX8, "name", "(II)I"⟩
abbrev cX8_fame : ByteArray := prog_10_method_16_code
def yX8_fame : MethodName := ⟨RX8, "fame", "(II)I"⟩
abbrev cX8_valueAt : ByteArray := prog_10_method_17_code
def yX8_valueAt : MethodName := ⟨RX8, "valueAt", "(II)I"⟩
abbrev cX8_lays : ByteArray := prog_10_method_18_code
def yX8_lays : MethodName := ⟨RX8, "lays", "(III)V"⟩
abbrev cX8_changes : ByteArray := prog_10_method_19_code
def yX8_changes : MethodName := ⟨RX8, "changes", "(III)I"⟩
abbrev cX8_undo : ByteArray := prog_10_method_20_code
def yX8_undo : MethodName := ⟨RX8, "undo", "()I"⟩
abbrev cX8_redo : ByteArray := prog_10_method_21_code
def yX8_redo : MethodName := ⟨RX8, "redo", "()I"⟩
abbrev cX8_mend : ByteArray := prog_10_method_22_code
def yX8_mend : MethodName := ⟨RX8, "mend", "(III)I"⟩
abbrev cX8_isAhead : ByteArray := prog_10_method_23_code
def yX8_isAhead : MethodName := ⟨RX8, "isAhead", "(II)Z"⟩
abbrev cX8_placeOf : ByteArray := prog_10_method_24_code
def yX8_placeOf : MethodName := ⟨RX8, "placeOf", "(I)I"⟩
abbrev cX8_personAt : ByteArray := prog_10_method_25_code
def yX8_personAt : MethodName := ⟨RX8, "personAt", "(I)I"⟩
abbrev cX8_counts : ByteArray := prog_10_method_26_code
def yX8_counts : MethodName := ⟨RX8, "counts", "(I)Z"⟩
abbrev cX8_bearersOf : ByteArray := prog_10_method_27_code
def yX8_bearersOf : MethodName := ⟨RX8, "bearersOf", "(I)I"⟩
abbrev cX8_of : ByteArray := prog_10_method_28_code
def yX8_of : MethodName := ⟨RX8, "of", "(II)I"⟩
abbrev cX8_feed : ByteArray := prog_10_method_29_code
def yX8_feed : MethodName := ⟨RX8, "feed", "(I)I"⟩
abbrev cX8_look : ByteArray := prog_10_method_30_code
def yX8_look : MethodName := ⟨RX8, "look", "()I"⟩
abbrev cX8_faulty : ByteArray := prog_10_method_31_code
def yX8_faulty : MethodName := ⟨RX8, "faulty", "()V"⟩
abbrev cX8_addStep : ByteArray := prog_10_method_32_code
def yX8_addStep : MethodName := ⟨RX8, "addStep", "(II)V"⟩
abbrev cX8_nameOf : ByteArray := prog_10_method_33_code
def yX8_nameOf : MethodName := ⟨RX8, "nameOf", "(I)I"⟩
abbrev cX8_opens : ByteArray := prog_10_method_34_code
def yX8_opens : MethodName := ⟨RX8, "opens", "()Z"⟩
abbrev cX8_figure : ByteArray := prog_10_method_35_code
def yX8_figure : MethodName := ⟨RX8, "figure", "()V"⟩
abbrev cX8_operand : ByteArray := prog_10_method_36_code
def yX8_operand : MethodName := ⟨RX8, "operand", "()V"⟩
abbrev cX8_product : ByteArray := prog_10_method_37_code
def yX8_product : MethodName := ⟨RX8, "product", "()V"⟩
abbrev cX8_sum : ByteArray := prog_10_method_38_code
def yX8_sum : MethodName := ⟨RX8, "sum", "()V"⟩
abbrev cX8_compared : ByteArray := prog_10_method_39_code
def yX8_compared : MethodName := ⟨RX8, "compared", "()V"⟩
abbrev cX8_both : ByteArray := prog_10_method_40_code
def yX8_both : MethodName := ⟨RX8, "both", "()V"⟩
abbrev cX8_either : ByteArray := prog_10_method_41_code
def yX8_either : MethodName := ⟨RX8, "either", "()V"⟩
abbrev cX8_line : ByteArray := prog_10_method_42_code
def yX8_line : MethodName := ⟨RX8, "line", "()V"⟩
abbrev cX8_readText : ByteArray := prog_10_method_43_code
def yX8_readText : MethodName := ⟨RX8, "readText", "(I)I"⟩
abbrev cX8_twoOf : ByteArray := prog_10_method_44_code
def yX8_twoOf : MethodName := ⟨RX8, "twoOf", "(III)I"⟩
abbrev cX8_worked : ByteArray := prog_10_method_45_code
def yX8_worked : MethodName := ⟨RX8, "worked", "(III)I"⟩
abbrev cX8_gives : ByteArray := prog_10_method_46_code
def yX8_gives : MethodName := ⟨RX8, "gives", "(I)I"⟩
abbrev cX8_law : ByteArray := prog_10_method_47_code
def yX8_law : MethodName := ⟨RX8, "law", "()I"⟩
abbrev cX8_holdsFor : ByteArray := prog_10_method_48_code
def yX8_holdsFor : MethodName := ⟨RX8, "holdsFor", "(IIII)Z"⟩
abbrev cX8_findKnown : ByteArray := prog_10_method_49_code
def yX8_findKnown : MethodName := ⟨RX8, "findKnown", "(II)V"⟩
abbrev cX8_knows : ByteArray := prog_10_method_50_code
def yX8_knows : MethodName := ⟨RX8, "knows", "(II)I"⟩
abbrev cX8_asNamed : ByteArray := prog_10_method_51_code
def yX8_asNamed : MethodName := ⟨RX8, "asNamed", "()V"⟩
abbrev cX8_everybody : ByteArray := prog_10_method_52_code
def yX8_everybody : MethodName := ⟨RX8, "everybody", "()I"⟩
abbrev cX8_bears : ByteArray := prog_10_method_53_code
def yX8_bears : MethodName := ⟨RX8, "bears", "(IIII)Z"⟩
abbrev cX8_doesHold : ByteArray := prog_10_method_54_code
def yX8_doesHold : MethodName := ⟨RX8, "doesHold", "(IIII)Z"⟩
abbrev cX8_holders : ByteArray := prog_10_method_55_code
def yX8_holders : MethodName := ⟨RX8, "holders", "(III)I"⟩
abbrev cX8_isFamous : ByteArray := prog_10_method_56_code
def yX8_isFamous : MethodName := ⟨RX8, "isFamous", "(III)Z"⟩
abbrev cX8_isHeld : ByteArray := prog_10_method_57_code
def yX8_isHeld : MethodName := ⟨RX8, "isHeld", "(III)Z"⟩
abbrev cX8_held : ByteArray := prog_10_method_58_code
def yX8_held : MethodName := ⟨RX8, "held", "(III)I"⟩
abbrev cX8_heldIn : ByteArray := prog_10_method_59_code
def yX8_heldIn : MethodName := ⟨RX8, "heldIn", "(I)I"⟩
abbrev cX8_free : ByteArray := prog_10_method_60_code
def yX8_free : MethodName := ⟨RX8, "free", "(I)I"⟩
abbrev cX8_most : ByteArray := prog_10_method_61_code
def yX8_most : MethodName := ⟨RX8, "most", "(I)I"⟩
abbrev cX8_aheadOf : ByteArray := prog_10_method_62_code
def yX8_aheadOf : MethodName := ⟨RX8, "aheadOf", "(I)I"⟩
abbrev cX8_judge : ByteArray := prog_10_method_63_code
def yX8_judge : MethodName := ⟨RX8, "judge", "()I"⟩
abbrev cX8_latestHeld : ByteArray := prog_10_method_64_code
def yX8_latestHeld : MethodName := ⟨RX8, "latestHeld", "(III)I"⟩
abbrev cX8_given : ByteArray := prog_10_method_65_code
def yX8_given : MethodName := ⟨RX8, "given", "(II)I"⟩
abbrev cX8_give : ByteArray := prog_10_method_66_code
def yX8_give : MethodName := ⟨RX8, "give", "(II)I"⟩
abbrev cX8_runBy : ByteArray := prog_10_method_67_code
def yX8_runBy : MethodName := ⟨RX8, "runBy", "(I)V"⟩
abbrev cX8_run : ByteArray := prog_10_method_68_code
def yX8_run : MethodName := ⟨RX8, "run", "(II)I"⟩
abbrev cX8_unlikeNames : ByteArray := prog_10_method_69_code
def yX8_unlikeNames : MethodName := ⟨RX8, "unlikeNames", "()I"⟩
abbrev cX8_used : ByteArray := prog_10_method_70_code
def yX8_used : MethodName := ⟨RX8, "used", "(II)I"⟩
abbrev cX8_isFreeWithout : ByteArray := prog_10_method_71_code
def yX8_isFreeWithout : MethodName := ⟨RX8, "isFreeWithout", "(III)Z"⟩
abbrev cX8_apart : ByteArray := prog_10_method_72_code
def yX8_apart : MethodName := ⟨RX8, "apart", "(II)I"⟩
abbrev cX8_freed : ByteArray := prog_10_method_73_code
def yX8_freed : MethodName := ⟨RX8, "freed", "(II)I"⟩
abbrev cX8_never : ByteArray := prog_10_method_74_code
def yX8_never : MethodName := ⟨RX8, "never", "(I)I"⟩
abbrev cX8_needs : ByteArray := prog_10_method_75_code
def yX8_needs : MethodName := ⟨RX8, "needs", "(III)I"⟩
abbrev cX8_image : ByteArray := prog_10_method_76_code
def yX8_image : MethodName := ⟨RX8, "image", "()I"⟩
abbrev cX8_back : ByteArray := prog_10_method_77_code
def yX8_back : MethodName := ⟨RX8, "back", "()I"⟩
abbrev cX8_isBody : ByteArray := prog_10_method_78_code
def yX8_isBody : MethodName := ⟨RX8, "isBody", "(I)Z"⟩
abbrev cX8_ran : ByteArray := prog_10_method_79_code
def yX8_ran : MethodName := ⟨RX8, "ran", "(I)V"⟩
abbrev cX8_trace : ByteArray := prog_10_method_80_code
def yX8_trace : MethodName := ⟨RX8, "trace", "(I)I"⟩
abbrev cX8_body : ByteArray := prog_10_method_81_code
def yX8_body : MethodName := ⟨RX8, "body", "(I)I"⟩
abbrev cX8_isUnder : ByteArray := prog_10_method_82_code
def yX8_isUnder : MethodName := ⟨RX8, "isUnder", "(II)Z"⟩
abbrev cX8_plainGives : ByteArray := prog_10_method_83_code
def yX8_plainGives : MethodName := ⟨RX8, "plainGives", "(II)I"⟩
abbrev cX8_toldGives : ByteArray := prog_10_method_84_code
def yX8_toldGives : MethodName := ⟨RX8, "toldGives", "(II)I"⟩
abbrev cX8_giving : ByteArray := prog_10_method_85_code
def yX8_giving : MethodName := ⟨RX8, "giving", "(II)I"⟩
abbrev cX8_plainHolds : ByteArray := prog_10_method_86_code
def yX8_plainHolds : MethodName := ⟨RX8, "plainHolds", "(II)I"⟩
abbrev cX8_soonHolds : ByteArray := prog_10_method_87_code
def yX8_soonHolds : MethodName := ⟨RX8, "soonHolds", "(II)I"⟩
abbrev cX8_holding : ByteArray := prog_10_method_88_code
def yX8_holding : MethodName := ⟨RX8, "holding", "(II)I"⟩
abbrev cX8_plainKnows : ByteArray := prog_10_method_89_code
def yX8_plainKnows : MethodName := ⟨RX8, "plainKnows", "(II)I"⟩
abbrev cX8_wishKnows : ByteArray := prog_10_method_90_code
def yX8_wishKnows : MethodName := ⟨RX8, "wishKnows", "(II)I"⟩
abbrev cX8_knowing : ByteArray := prog_10_method_91_code
def yX8_knowing : MethodName := ⟨RX8, "knowing", "(II)I"⟩
abbrev cX8_plainTells : ByteArray := prog_10_method_92_code
def yX8_plainTells : MethodName := ⟨RX8, "plainTells", "(II)I"⟩
abbrev cX8_telling : ByteArray := prog_10_method_93_code
def yX8_telling : MethodName := ⟨RX8, "telling", "(II)I"⟩
abbrev cX8_act : ByteArray := prog_10_method_94_code
def yX8_act : MethodName := ⟨RX8, "act", "(III)I"⟩
abbrev cX8_namedMany : ByteArray := prog_10_method_95_code
def yX8_namedMany : MethodName := ⟨RX8, "namedMany", "()I"⟩
abbrev cX8_count : ByteArray := prog_10_method_96_code
def yX8_count : MethodName := ⟨RX8, "count", "(I)I"⟩
abbrev cX8_isShelf : ByteArray := prog_10_method_97_code
def yX8_isShelf : MethodName := ⟨RX8, "isShelf", "(I)Z"⟩
abbrev cX8_keep : ByteArray := prog_10_method_98_code
def yX8_keep : MethodName := ⟨RX8, "keep", "(II)I"⟩
abbrev cX8_row : ByteArray := prog_10_method_99_code
def yX8_row : MethodName := ⟨RX8, "row", "(III)I"⟩
abbrev cX8_whyNoPlace : ByteArray := prog_10_method_100_code
def yX8_whyNoPlace : MethodName := ⟨RX8, "whyNoPlace", "(II)I"⟩
abbrev cX8_put : ByteArray := prog_10_method_101_code
def yX8_put : MethodName := ⟨RX8, "put", "(IIJ)I"⟩
abbrev cX8_element : ByteArray := prog_10_method_102_code
def yX8_element : MethodName := ⟨RX8, "element", "(II)J"⟩
abbrev cX8_shift : ByteArray := prog_10_method_103_code
def yX8_shift : MethodName := ⟨RX8, "shift", "(IIIII)I"⟩
abbrev cX8_taken : ByteArray := prog_10_method_104_code
def yX8_taken : MethodName := ⟨RX8, "taken", "(II)I"⟩
def RJx145de : String := "java/io/Serializable"
def TJx145de : u_T := fun k => match k with
  | _ => ("", "", "", false)
def tyJx145de : Nat → FieldType := fun k => match k with
  | _ => .int
theorem nmJx145de : ∀ a, a < 0 → ∀ b, b < 0 → a ≠ b → (TJx145de a).2.1 ≠ (TJx145de b).2.1 := by decide +kernel
theorem tyJx145de_ok : ∀ k, k < 0 → parseFieldDescriptor (TJx145de k).2.2.1 = some (tyJx145de k) := by decide +kernel
def RJx9f9b0 : String := "java/lang/CharSequence"
def TJx9f9b0 : u_T := fun k => match k with
  | _ => ("", "", "", false)
def tyJx9f9b0 : Nat → FieldType := fun k => match k with
  | _ => .int
theorem nmJx9f9b0 : ∀ a, a < 0 → ∀ b, b < 0 → a ≠ b → (TJx9f9b0 a).2.1 ≠ (TJx9f9b0 b).2.1 := by decide +kernel
theorem tyJx9f9b0_ok : ∀ k, k < 0 → parseFieldDescriptor (TJx9f9b0 k).2.2.1 = some (tyJx9f9b0 k) := by decide +kernel
def RJ11 : String := "java/lang/Character"
def TJ11 : u_T := fun k => match k with
  | _ => ("", "", "", false)
def tyJ11 : Nat → FieldType := fun k => match k with
  | _ => .int
theorem nmJ11 : ∀ a, a < 0 → ∀ b, b < 0 → a ≠ b → (TJ11 a).2.1 ≠ (TJ11 b).2.1 := by decide +kernel
theorem tyJ11_ok : ∀ k, k < 0 → parseFieldDescriptor (TJ11 k).2.2.1 = some (tyJ11 k) := by decide +kernel
abbrev cJ11_isValidCodePoint_9a6ad : ByteArray := prog_11_method_11_code
def yJ11_isValidCodePoint_9a6ad : MethodName := ⟨RJ11, "isValidCodePoint", "(I)Z"⟩
abbrev cJ11_highSurrogate_5068e : ByteArray := prog_11_method_28_code
def yJ11_highSurrogate_5068e : MethodName := ⟨RJ11, "highSurrogate", "(I)C"⟩
abbrev cJ11_lowSurrogate_5068e : ByteArray := prog_11_method_29_code
def yJ11_lowSurrogate_5068e : MethodName := ⟨RJ11, "lowSurrogate", "(I)C"⟩
def RJxb160c : String := "java/lang/Comparable"
def TJxb160c : u_T := fun k => match k with
  | _ => ("", "", "", false)
def tyJxb160c : Nat → FieldType := fun k => match k with
  | _ => .int
theorem nmJxb160c : ∀ a, a < 0 → ∀ b, b < 0 → a ≠ b → (TJxb160c a).2.1 ≠ (TJxb160c b).2.1 := by decide +kernel
theorem tyJxb160c_ok : ∀ k, k < 0 → parseFieldDescriptor (TJxb160c k).2.2.1 = some (tyJxb160c k) := by decide +kernel
def RJ6 : String := "java/lang/Integer"
def TJ6 : u_T := fun k => match k with
  | _ => ("", "", "", false)
def tyJ6 : Nat → FieldType := fun k => match k with
  | _ => .int
theorem nmJ6 : ∀ a, a < 0 → ∀ b, b < 0 → a ≠ b → (TJ6 a).2.1 ≠ (TJ6 b).2.1 := by decide +kernel
theorem tyJ6_ok : ∀ k, k < 0 → parseFieldDescriptor (TJ6 k).2.2.1 = some (tyJ6 k) := by decide +kernel
abbrev cJ6_bitCount_0f7a4 : ByteArray := prog_12_method_49_code
def yJ6_bitCount_0f7a4 : MethodName := ⟨RJ6, "bitCount", "(I)I"⟩
def RJ9 : String := "java/lang/Math"
def TJ9 : u_T := fun k => match k with
  | _ => ("", "", "", false)
def tyJ9 : Nat → FieldType := fun k => match k with
  | _ => .int
theorem nmJ9 : ∀ a, a < 0 → ∀ b, b < 0 → a ≠ b → (TJ9 a).2.1 ≠ (TJ9 b).2.1 := by decide +kernel
theorem tyJ9_ok : ∀ k, k < 0 → parseFieldDescriptor (TJ9 k).2.2.1 = some (tyJ9 k) := by decide +kernel
abbrev cJ9_max_7cf53 : ByteArray := prog_13_method_65_code
def yJ9_max_7cf53 : MethodName := ⟨RJ9, "max", "(II)I"⟩
abbrev cJ9_min_7cf53 : ByteArray := prog_13_method_69_code
def yJ9_min_7cf53 : MethodName := ⟨RJ9, "min", "(II)I"⟩
def RJ0 : String := "java/lang/String"
def TJ0 : u_T := fun k => match k with
  | _ => ("", "", "", false)
def tyJ0 : Nat → FieldType := fun k => match k with
  | _ => .int
theorem nmJ0 : ∀ a, a < 0 → ∀ b, b < 0 → a ≠ b → (TJ0 a).2.1 ≠ (TJ0 b).2.1 := by decide +kernel
theorem tyJ0_ok : ∀ k, k < 0 → parseFieldDescriptor (TJ0 k).2.2.1 = some (tyJ0 k) := by decide +kernel
abbrev cJ0_length_8abf5 : ByteArray := prog_14_method_54_code
def yJ0_length_8abf5 : MethodName := ⟨RJ0, "length", "()I"⟩
abbrev cJ0_indexOf_0f7a4 : ByteArray := prog_14_method_79_code
def yJ0_indexOf_0f7a4 : MethodName := ⟨RJ0, "indexOf", "(I)I"⟩
abbrev cJ0_indexOf_7cf53 : ByteArray := prog_14_method_80_code
def yJ0_indexOf_7cf53 : MethodName := ⟨RJ0, "indexOf", "(II)I"⟩
abbrev cJ0_coder_7d493 : ByteArray := prog_14_method_152_code
def yJ0_coder_7d493 : MethodName := ⟨RJ0, "coder", "()B"⟩
abbrev cJ0_isLatin1_aae02 : ByteArray := prog_14_method_154_code
def yJ0_isLatin1_aae02 : MethodName := ⟨RJ0, "isLatin1", "()Z"⟩
abbrev cJ0_checkBoundsBeginEnd_23922 : ByteArray := prog_14_method_158_code
def yJ0_checkBoundsBeginEnd_23922 : MethodName := ⟨RJ0, "checkBoundsBeginEnd", "(III)V"⟩
def RJ1 : String := "java/lang/StringLatin1"
def TJ1 : u_T := fun k => match k with
  | _ => ("", "", "", false)
def tyJ1 : Nat → FieldType := fun k => match k with
  | _ => .int
theorem nmJ1 : ∀ a, a < 0 → ∀ b, b < 0 → a ≠ b → (TJ1 a).2.1 ≠ (TJ1 b).2.1 := by decide +kernel
theorem tyJ1_ok : ∀ k, k < 0 → parseFieldDescriptor (TJ1 k).2.2.1 = some (tyJ1 k) := by decide +kernel
abbrev cJ1_canEncode_9a6ad : ByteArray := prog_15_method_4_code
def yJ1_canEncode_9a6ad : MethodName := ⟨RJ1, "canEncode", "(I)Z"⟩
abbrev cJ1_indexOf_4cfef : ByteArray := prog_15_method_22_code
def yJ1_indexOf_4cfef : MethodName := ⟨RJ1, "indexOf", "([BIII)I"⟩
abbrev cJ1_indexOfChar_4cfef : ByteArray := prog_15_method_23_code
def yJ1_indexOfChar_4cfef : MethodName := ⟨RJ1, "indexOfChar", "([BIII)I"⟩
def RJ2 : String := "java/lang/StringUTF16"
def TJ2 : u_T := fun k => match k with
  | _ => ("", "", "", false)
def tyJ2 : Nat → FieldType := fun k => match k with
  | _ => .int
theorem nmJ2 : ∀ a, a < 0 → ∀ b, b < 0 → a ≠ b → (TJ2 a).2.1 ≠ (TJ2 b).2.1 := by decide +kernel
theorem tyJ2_ok : ∀ k, k < 0 → parseFieldDescriptor (TJ2 k).2.2.1 = some (tyJ2 k) := by decide +kernel
abbrev cJ2_getChar_3b067 : ByteArray := prog_16_method_5_code
def yJ2_getChar_3b067 : MethodName := ⟨RJ2, "getChar", "([BI)C"⟩
abbrev cJ2_length_9d52b : ByteArray := prog_16_method_6_code
def yJ2_length_9d52b : MethodName := ⟨RJ2, "length", "([B)I"⟩
abbrev cJ2_indexOf_4cfef : ByteArray := prog_16_method_40_code
def yJ2_indexOf_4cfef : MethodName := ⟨RJ2, "indexOf", "([BIII)I"⟩
abbrev cJ2_indexOfChar_4cfef : ByteArray := prog_16_method_47_code
def yJ2_indexOfChar_4cfef : MethodName := ⟨RJ2, "indexOfChar", "([BIII)I"⟩
abbrev cJ2_indexOfCharUnsafe_4cfef : ByteArray := prog_16_method_48_code
def yJ2_indexOfCharUnsafe_4cfef : MethodName := ⟨RJ2, "indexOfCharUnsafe", "([BIII)I"⟩
abbrev cJ2_indexOfSupplementary_4cfef : ByteArray := prog_16_method_49_code
def yJ2_indexOfSupplementary_4cfef : MethodName := ⟨RJ2, "indexOfSupplementary", "([BIII)I"⟩
abbrev cJ2_checkBoundsBeginEnd_d044e : ByteArray := prog_16_method_93_code
def yJ2_checkBoundsBeginEnd_d044e : MethodName := ⟨RJ2, "checkBoundsBeginEnd", "(II[B)V"⟩
def RJ10 : String := "java/lang/System"
def TJ10 : u_T := fun k => match k with
  | _ => ("", "", "", false)
def tyJ10 : Nat → FieldType := fun k => match k with
  | _ => .int
theorem nmJ10 : ∀ a, a < 0 → ∀ b, b < 0 → a ≠ b → (TJ10 a).2.1 ≠ (TJ10 b).2.1 := by decide +kernel
theorem tyJ10_ok : ∀ k, k < 0 → parseFieldDescriptor (TJ10 k).2.2.1 = some (tyJ10 k) := by decide +kernel
def RJxfd54e : String := "java/lang/constant/Constable"
def TJxfd54e : u_T := fun k => match k with
  | _ => ("", "", "", false)
def tyJxfd54e : Nat → FieldType := fun k => match k with
  | _ => .int
theorem nmJxfd54e : ∀ a, a < 0 → ∀ b, b < 0 → a ≠ b → (TJxfd54e a).2.1 ≠ (TJxfd54e b).2.1 := by decide +kernel
theorem tyJxfd54e_ok : ∀ k, k < 0 → parseFieldDescriptor (TJxfd54e k).2.2.1 = some (tyJxfd54e k) := by decide +kernel
def RJx3cf43 : String := "java/lang/constant/ConstantDesc"
def TJx3cf43 : u_T := fun k => match k with
  | _ => ("", "", "", false)
def tyJx3cf43 : Nat → FieldType := fun k => match k with
  | _ => .int
theorem nmJx3cf43 : ∀ a, a < 0 → ∀ b, b < 0 → a ≠ b → (TJx3cf43 a).2.1 ≠ (TJx3cf43 b).2.1 := by decide +kernel
theorem tyJx3cf43_ok : ∀ k, k < 0 → parseFieldDescriptor (TJx3cf43 k).2.2.1 = some (tyJx3cf43 k) := by decide +kernel
def RJ7 : String := "java/util/Arrays"
def TJ7 : u_T := fun k => match k with
  | _ => ("", "", "", false)
def tyJ7 : Nat → FieldType := fun k => match k with
  | _ => .int
theorem nmJ7 : ∀ a, a < 0 → ∀ b, b < 0 → a ≠ b → (TJ7 a).2.1 ≠ (TJ7 b).2.1 := by decide +kernel
theorem tyJ7_ok : ∀ k, k < 0 → parseFieldDescriptor (TJ7 k).2.2.1 = some (tyJ7 k) := by decide +kernel
abbrev cJ7_fill_d0a16 : ByteArray := prog_18_method_101_code
def yJ7_fill_d0a16 : MethodName := ⟨RJ7, "fill", "([JJ)V"⟩
abbrev cJ7_fill_53178 : ByteArray := prog_18_method_103_code
def yJ7_fill_53178 : MethodName := ⟨RJ7, "fill", "([II)V"⟩
def RJ3 : String := "jdk/internal/util/Preconditions"
def TJ3 : u_T := fun k => match k with
  | _ => ("", "", "", false)
def tyJ3 : Nat → FieldType := fun k => match k with
  | _ => .int
theorem nmJ3 : ∀ a, a < 0 → ∀ b, b < 0 → a ≠ b → (TJ3 a).2.1 ≠ (TJ3 b).2.1 := by decide +kernel
theorem tyJ3_ok : ∀ k, k < 0 → parseFieldDescriptor (TJ3 k).2.2.1 = some (tyJ3 k) := by decide +kernel
abbrev cJ3_checkFromToIndex_8c36e : ByteArray := prog_19_method_12_code
def yJ3_checkFromToIndex_8c36e : MethodName := ⟨RJ3, "checkFromToIndex", "(IIILjava/util/function/BiFunction;)I"⟩
def RL : String := "NameRestsLaw"
abbrev cL_law : ByteArray := code
def yL_law : MethodName := ⟨RL, "law", "([I)Z"⟩
abbrev vwCl : List vw_C := [(RX0, TX0, 6), (RX1, TX1, 5), (RX2, TX2, 11), (RX3, TX3, 4), (RX4, TX4, 15), (RX5, TX5, 6), (RX6, TX6, 4), (RX7, TX7, 9), (RX8, TX8, 47)]
end
section
theorem dX0_init_0 : decode cX0_init 0 = .ok (.aload_n 0, 1) := by decide +kernel
theorem dX0_init_1 : decode cX0_init 1 = .ok (.invokespecial 1, 3) := by decide +kernel
theorem dX0_init_4 : decode cX0_init 4 = .ok (.aload_n 0, 1) := by decide +kernel
theorem dX0_init_5 : decode cX0_init 5 = .ok (.bipush 40, 2) := by decide +kernel
theorem dX0_init_7 : decode cX0_init 7 = .ok (.newarray .int, 2) := by decide +kernel
theorem dX0_init_9 : decode cX0_init 9 = .ok (.putfield 9, 3) := by decide +kernel
theorem dX0_init_12 : decode cX0_init 12 = .ok (.aload_n 0, 1) := by decide +kernel
theorem dX0_init_13 : decode cX0_init 13 = .ok (.bipush 40, 2) := by decide +kernel
theorem dX0_init_15 : decode cX0_init 15 = .ok (.newarray .int, 2) := by decide +kernel
theorem dX0_init_17 : decode cX0_init 17 = .ok (.putfield 13, 3) := by decide +kernel
theorem dX0_init_20 : decode cX0_init 20 = .ok (.aload_n 0, 1) := by decide +kernel
theorem dX0_init_21 : decode cX0_init 21 = .ok (.bipush 40, 2) := by decide +kernel
theorem dX0_init_23 : decode cX0_init 23 = .ok (.newarray .int, 2) := by decide +kernel
theorem dX0_init_25 : decode cX0_init 25 = .ok (.putfield 16, 3) := by decide +kernel
theorem dX0_init_28 : decode cX0_init 28 = .ok (.aload_n 0, 1) := by decide +kernel
theorem dX0_init_29 : decode cX0_init 29 = .ok (.bipush 40, 2) := by decide +kernel
theorem dX0_init_31 : decode cX0_init 31 = .ok (.newarray .int, 2) := by decide +kernel
theorem dX0_init_33 : decode cX0_init 33 = .ok (.putfield 19, 3) := by decide +kernel
theorem dX0_init_36 : decode cX0_init 36 = .ok (.return_, 1) := by decide +kernel
theorem dX0_add_0 : decode cX0_add 0 = .ok (.aload_n 0, 1) := by decide +kernel
theorem dX0_add_1 : decode cX0_add 1 = .ok (.getfield 22, 3) := by decide +kernel
theorem dX0_add_4 : decode cX0_add 4 = .ok (.bipush 40, 2) := by decide +kernel
theorem dX0_add_6 : decode cX0_add 6 = .ok (.if_icmp .lt 7, 3) := by decide +kernel
theorem dX0_add_9 : decode cX0_add 9 = .ok (.aload_n 0, 1) := by decide +kernel
theorem dX0_add_10 : decode cX0_add 10 = .ok (.invokevirtual 26, 3) := by decide +kernel
theorem dX0_add_13 : decode cX0_add 13 = .ok (.aload_n 0, 1) := by decide +kernel
theorem dX0_add_14 : decode cX0_add 14 = .ok (.getfield 9, 3) := by decide +kernel
theorem dX0_add_17 : decode cX0_add 17 = .ok (.aload_n 0, 1) := by decide +kernel
theorem dX0_add_18 : decode cX0_add 18 = .ok (.getfield 22, 3) := by decide +kernel
theorem dX0_add_21 : decode cX0_add 21 = .ok (.iload_n 1, 1) := by decide +kernel
theorem dX0_add_22 : decode cX0_add 22 = .ok (.iastore, 1) := by decide +kernel
theorem dX0_add_23 : decode cX0_add 23 = .ok (.aload_n 0, 1) := by decide +kernel
theorem dX0_add_24 : decode cX0_add 24 = .ok (.getfield 13, 3) := by decide +kernel
theorem dX0_add_27 : decode cX0_add 27 = .ok (.aload_n 0, 1) := by decide +kernel
theorem dX0_add_28 : decode cX0_add 28 = .ok (.getfield 22, 3) := by decide +kernel
theorem dX0_add_31 : decode cX0_add 31 = .ok (.iload_n 2, 1) := by decide +kernel
theorem dX0_add_32 : decode cX0_add 32 = .ok (.iastore, 1) := by decide +kernel
theorem dX0_add_33 : decode cX0_add 33 = .ok (.aload_n 0, 1) := by decide +kernel
theorem dX0_add_34 : decode cX0_add 34 = .ok (.getfield 16, 3) := by decide +kernel
theorem dX0_add_37 : decode cX0_add 37 = .ok (.aload_n 0, 1) := by decide +kernel
theorem dX0_add_38 : decode cX0_add 38 = .ok (.getfield 22, 3) := by decide +kernel
theorem dX0_add_41 : decode cX0_add 41 = .ok (.iload_n 3, 1) := by decide +kernel
theorem dX0_add_42 : decode cX0_add 42 = .ok (.iastore, 1) := by decide +kernel
theorem dX0_add_43 : decode cX0_add 43 = .ok (.aload_n 0, 1) := by decide +kernel
theorem dX0_add_44 : decode cX0_add 44 = .ok (.getfield 19, 3) := by decide +kernel
theorem dX0_add_47 : decode cX0_add 47 = .ok (.aload_n 0, 1) := by decide +kernel
theorem dX0_add_48 : decode cX0_add 48 = .ok (.getfield 22, 3) := by decide +kernel
theorem dX0_add_51 : decode cX0_add 51 = .ok (.iload 4, 2) := by decide +kernel
theorem dX0_add_53 : decode cX0_add 53 = .ok (.iastore, 1) := by decide +kernel
theorem dX0_add_54 : decode cX0_add 54 = .ok (.aload_n 0, 1) := by decide +kernel
theorem dX0_add_55 : decode cX0_add 55 = .ok (.dup, 1) := by decide +kernel
theorem dX0_add_56 : decode cX0_add 56 = .ok (.getfield 22, 3) := by decide +kernel
theorem dX0_add_59 : decode cX0_add 59 = .ok (.iconst 1, 1) := by decide +kernel
theorem dX0_add_60 : decode cX0_add 60 = .ok (.iadd, 1) := by decide +kernel
theorem dX0_add_61 : decode cX0_add 61 = .ok (.putfield 22, 3) := by decide +kernel
theorem dX0_add_64 : decode cX0_add 64 = .ok (.aload_n 0, 1) := by decide +kernel
theorem dX0_add_65 : decode cX0_add 65 = .ok (.aload_n 0, 1) := by decide +kernel
theorem dX0_add_66 : decode cX0_add 66 = .ok (.getfield 22, 3) := by decide +kernel
theorem dX0_add_69 : decode cX0_add 69 = .ok (.putfield 29, 3) := by decide +kernel
theorem dX0_add_72 : decode cX0_add 72 = .ok (.return_, 1) := by decide +kernel
theorem dX0_dropOldest_0 : decode cX0_dropOldest 0 = .ok (.aload_n 0, 1) := by decide +kernel
theorem dX0_dropOldest_1 : decode cX0_dropOldest 1 = .ok (.bipush 39, 2) := by decide +kernel
theorem dX0_dropOldest_3 : decode cX0_dropOldest 3 = .ok (.putfield 22, 3) := by decide +kernel
theorem dX0_dropOldest_6 : decode cX0_dropOldest 6 = .ok (.aload_n 0, 1) := by decide +kernel
theorem dX0_dropOldest_7 : decode cX0_dropOldest 7 = .ok (.getfield 9, 3) := by decide +kernel
theorem dX0_dropOldest_10 : decode cX0_dropOldest 10 = .ok (.iconst 1, 1) := by decide +kernel
theorem dX0_dropOldest_11 : decode cX0_dropOldest 11 = .ok (.aload_n 0, 1) := by decide +kernel
theorem dX0_dropOldest_12 : decode cX0_dropOldest 12 = .ok (.getfield 9, 3) := by decide +kernel
theorem dX0_dropOldest_15 : decode cX0_dropOldest 15 = .ok (.iconst 0, 1) := by decide +kernel
theorem dX0_dropOldest_16 : decode cX0_dropOldest 16 = .ok (.aload_n 0, 1) := by decide +kernel
theorem dX0_dropOldest_17 : decode cX0_dropOldest 17 = .ok (.getfield 22, 3) := by decide +kernel
theorem dX0_dropOldest_20 : decode cX0_dropOldest 20 = .ok (.invokestatic 32, 3) := by decide +kernel
theorem dX0_dropOldest_23 : decode cX0_dropOldest 23 = .ok (.aload_n 0, 1) := by decide +kernel
theorem dX0_dropOldest_24 : decode cX0_dropOldest 24 = .ok (.getfield 13, 3) := by decide +kernel
theorem dX0_dropOldest_27 : decode cX0_dropOldest 27 = .ok (.iconst 1, 1) := by decide +kernel
theorem dX0_dropOldest_28 : decode cX0_dropOldest 28 = .ok (.aload_n 0, 1) := by decide +kernel
theorem dX0_dropOldest_29 : decode cX0_dropOldest 29 = .ok (.getfield 13, 3) := by decide +kernel
theorem dX0_dropOldest_32 : decode cX0_dropOldest 32 = .ok (.iconst 0, 1) := by decide +kernel
theorem dX0_dropOldest_33 : decode cX0_dropOldest 33 = .ok (.aload_n 0, 1) := by decide +kernel
theorem dX0_dropOldest_34 : decode cX0_dropOldest 34 = .ok (.getfield 22, 3) := by decide +kernel
theorem dX0_dropOldest_37 : decode cX0_dropOldest 37 = .ok (.invokestatic 32, 3) := by decide +kernel
theorem dX0_dropOldest_40 : decode cX0_dropOldest 40 = .ok (.aload_n 0, 1) := by decide +kernel
theorem dX0_dropOldest_41 : decode cX0_dropOldest 41 = .ok (.getfield 16, 3) := by decide +kernel
theorem dX0_dropOldest_44 : decode cX0_dropOldest 44 = .ok (.iconst 1, 1) := by decide +kernel
theorem dX0_dropOldest_45 : decode cX0_dropOldest 45 = .ok (.aload_n 0, 1) := by decide +kernel
theorem dX0_dropOldest_46 : decode cX0_dropOldest 46 = .ok (.getfield 16, 3) := by decide +kernel
theorem dX0_dropOldest_49 : decode cX0_dropOldest 49 = .ok (.iconst 0, 1) := by decide +kernel
theorem dX0_dropOldest_50 : decode cX0_dropOldest 50 = .ok (.aload_n 0, 1) := by decide +kernel
theorem dX0_dropOldest_51 : decode cX0_dropOldest 51 = .ok (.getfield 22, 3) := by decide +kernel
theorem dX0_dropOldest_54 : decode cX0_dropOldest 54 = .ok (.invokestatic 32, 3) := by decide +kernel
theorem dX0_dropOldest_57 : decode cX0_dropOldest 57 = .ok (.aload_n 0, 1) := by decide +kernel
theorem dX0_dropOldest_58 : decode cX0_dropOldest 58 = .ok (.getfield 19, 3) := by decide +kernel
theorem dX0_dropOldest_61 : decode cX0_dropOldest 61 = .ok (.iconst 1, 1) := by decide +kernel
theorem dX0_dropOldest_62 : decode cX0_dropOldest 62 = .ok (.aload_n 0, 1) := by decide +kernel
theorem dX0_dropOldest_63 : decode cX0_dropOldest 63 = .ok (.getfield 19, 3) := by decide +kernel
theorem dX0_dropOldest_66 : decode cX0_dropOldest 66 = .ok (.iconst 0, 1) := by decide +kernel
theorem dX0_dropOldest_67 : decode cX0_dropOldest 67 = .ok (.aload_n 0, 1) := by decide +kernel
theorem dX0_dropOldest_68 : decode cX0_dropOldest 68 = .ok (.getfield 22, 3) := by decide +kernel
theorem dX0_dropOldest_71 : decode cX0_dropOldest 71 = .ok (.invokestatic 32, 3) := by decide +kernel
theorem dX0_dropOldest_74 : decode cX0_dropOldest 74 = .ok (.return_, 1) := by decide +kernel
theorem dX0_stepBack_0 : decode cX0_stepBack 0 = .ok (.aload_n 0, 1) := by decide +kernel
theorem dX0_stepBack_1 : decode cX0_stepBack 1 = .ok (.getfield 22, 3) := by decide +kernel
theorem dX0_stepBack_4 : decode cX0_stepBack 4 = .ok (.iconst 1, 1) := by decide +kernel
theorem dX0_stepBack_5 : decode cX0_stepBack 5 = .ok (.if_icmp .ge 5, 3) := by decide +kernel
theorem dX0_stepBack_8 : decode cX0_stepBack 8 = .ok (.iconst 0, 1) := by decide +kernel
theorem dX0_stepBack_9 : decode cX0_stepBack 9 = .ok (.ireturn, 1) := by decide +kernel
theorem dX0_stepBack_10 : decode cX0_stepBack 10 = .ok (.aload_n 0, 1) := by decide +kernel
theorem dX0_stepBack_11 : decode cX0_stepBack 11 = .ok (.dup, 1) := by decide +kernel
theorem dX0_stepBack_12 : decode cX0_stepBack 12 = .ok (.getfield 22, 3) := by decide +kernel
theorem dX0_stepBack_15 : decode cX0_stepBack 15 = .ok (.iconst 1, 1) := by decide +kernel
theorem dX0_stepBack_16 : decode cX0_stepBack 16 = .ok (.isub, 1) := by decide +kernel
theorem dX0_stepBack_17 : decode cX0_stepBack 17 = .ok (.putfield 22, 3) := by decide +kernel
theorem dX0_stepBack_20 : decode cX0_stepBack 20 = .ok (.iconst 1, 1) := by decide +kernel
theorem dX0_stepBack_21 : decode cX0_stepBack 21 = .ok (.ireturn, 1) := by decide +kernel
theorem dX0_hasUndone_0 : decode cX0_hasUndone 0 = .ok (.aload_n 0, 1) := by decide +kernel
theorem dX0_hasUndone_1 : decode cX0_hasUndone 1 = .ok (.getfield 22, 3) := by decide +kernel
theorem dX0_hasUndone_4 : decode cX0_hasUndone 4 = .ok (.aload_n 0, 1) := by decide +kernel
theorem dX0_hasUndone_5 : decode cX0_hasUndone 5 = .ok (.getfield 29, 3) := by decide +kernel
theorem dX0_hasUndone_8 : decode cX0_hasUndone 8 = .ok (.if_icmp .ge 7, 3) := by decide +kernel
theorem dX0_hasUndone_11 : decode cX0_hasUndone 11 = .ok (.iconst 1, 1) := by decide +kernel
theorem dX0_hasUndone_12 : decode cX0_hasUndone 12 = .ok (.goto 4, 3) := by decide +kernel
theorem dX0_hasUndone_15 : decode cX0_hasUndone 15 = .ok (.iconst 0, 1) := by decide +kernel
theorem dX0_hasUndone_16 : decode cX0_hasUndone 16 = .ok (.ireturn, 1) := by decide +kernel
theorem dX0_stepOn_0 : decode cX0_stepOn 0 = .ok (.aload_n 0, 1) := by decide +kernel
theorem dX0_stepOn_1 : decode cX0_stepOn 1 = .ok (.dup, 1) := by decide +kernel
theorem dX0_stepOn_2 : decode cX0_stepOn 2 = .ok (.getfield 22, 3) := by decide +kernel
theorem dX0_stepOn_5 : decode cX0_stepOn 5 = .ok (.iconst 1, 1) := by decide +kernel
theorem dX0_stepOn_6 : decode cX0_stepOn 6 = .ok (.iadd, 1) := by decide +kernel
theorem dX0_stepOn_7 : decode cX0_stepOn 7 = .ok (.putfield 22, 3) := by decide +kernel
theorem dX0_stepOn_10 : decode cX0_stepOn 10 = .ok (.return_, 1) := by decide +kernel
theorem dX1_init_0 : decode cX1_init 0 = .ok (.aload_n 0, 1) := by decide +kernel
theorem dX1_init_1 : decode cX1_init 1 = .ok (.invokespecial 3, 3) := by decide +kernel
theorem dX1_init_4 : decode cX1_init 4 = .ok (.aload_n 0, 1) := by decide +kernel
theorem dX1_init_5 : decode cX1_init 5 = .ok (.bipush 50, 2) := by decide +kernel
theorem dX1_init_7 : decode cX1_init 7 = .ok (.newarray .int, 2) := by decide +kernel
theorem dX1_init_9 : decode cX1_init 9 = .ok (.putfield 11, 3) := by decide +kernel
theorem dX1_init_12 : decode cX1_init 12 = .ok (.aload_n 0, 1) := by decide +kernel
theorem dX1_init_13 : decode cX1_init 13 = .ok (.bipush 24, 2) := by decide +kernel
theorem dX1_init_15 : decode cX1_init 15 = .ok (.newarray .int, 2) := by decide +kernel
theorem dX1_init_17 : decode cX1_init 17 = .ok (.putfield 15, 3) := by decide +kernel
theorem dX1_init_20 : decode cX1_init 20 = .ok (.return_, 1) := by decide +kernel
theorem dX1_has_0 : decode cX1_has 0 = .ok (.iload_n 1, 1) := by decide +kernel
theorem dX1_has_1 : decode cX1_has 1 = .ok (.ifCond .lt 15, 3) := by decide +kernel
theorem dX1_has_4 : decode cX1_has 4 = .ok (.iload_n 1, 1) := by decide +kernel
theorem dX1_has_5 : decode cX1_has 5 = .ok (.aload_n 0, 1) := by decide +kernel
theorem dX1_has_6 : decode cX1_has 6 = .ok (.getfield 18, 3) := by decide +kernel
theorem dX1_has_9 : decode cX1_has 9 = .ok (.if_icmp .ge 7, 3) := by decide +kernel
theorem dX1_has_12 : decode cX1_has 12 = .ok (.iconst 1, 1) := by decide +kernel
theorem dX1_has_13 : decode cX1_has 13 = .ok (.goto 4, 3) := by decide +kernel
theorem dX1_has_16 : decode cX1_has 16 = .ok (.iconst 0, 1) := by decide +kernel
theorem dX1_has_17 : decode cX1_has 17 = .ok (.ireturn, 1) := by decide +kernel
theorem dX1_add_0 : decode cX1_add 0 = .ok (.aload_n 0, 1) := by decide +kernel
theorem dX1_add_1 : decode cX1_add 1 = .ok (.getfield 18, 3) := by decide +kernel
theorem dX1_add_4 : decode cX1_add 4 = .ok (.bipush 50, 2) := by decide +kernel
theorem dX1_add_6 : decode cX1_add 6 = .ok (.if_icmp .lt 6, 3) := by decide +kernel
theorem dX1_add_9 : decode cX1_add 9 = .ok (.bipush (-3), 2) := by decide +kernel
theorem dX1_add_11 : decode cX1_add 11 = .ok (.ireturn, 1) := by decide +kernel
theorem dX1_add_12 : decode cX1_add 12 = .ok (.aload_n 0, 1) := by decide +kernel
theorem dX1_add_13 : decode cX1_add 13 = .ok (.getfield 11, 3) := by decide +kernel
theorem dX1_add_16 : decode cX1_add 16 = .ok (.aload_n 0, 1) := by decide +kernel
theorem dX1_add_17 : decode cX1_add 17 = .ok (.getfield 18, 3) := by decide +kernel
theorem dX1_add_20 : decode cX1_add 20 = .ok (.iload_n 1, 1) := by decide +kernel
theorem dX1_add_21 : decode cX1_add 21 = .ok (.iastore, 1) := by decide +kernel
theorem dX1_add_22 : decode cX1_add 22 = .ok (.aload_n 0, 1) := by decide +kernel
theorem dX1_add_23 : decode cX1_add 23 = .ok (.dup, 1) := by decide +kernel
theorem dX1_add_24 : decode cX1_add 24 = .ok (.getfield 18, 3) := by decide +kernel
theorem dX1_add_27 : decode cX1_add 27 = .ok (.dup_x1, 1) := by decide +kernel
theorem dX1_add_28 : decode cX1_add 28 = .ok (.iconst 1, 1) := by decide +kernel
theorem dX1_add_29 : decode cX1_add 29 = .ok (.iadd, 1) := by decide +kernel
theorem dX1_add_30 : decode cX1_add 30 = .ok (.putfield 18, 3) := by decide +kernel
theorem dX1_add_33 : decode cX1_add 33 = .ok (.ireturn, 1) := by decide +kernel
theorem dX1_traced_0 : decode cX1_traced 0 = .ok (.aload_n 0, 1) := by decide +kernel
theorem dX1_traced_1 : decode cX1_traced 1 = .ok (.getfield 22, 3) := by decide +kernel
theorem dX1_traced_4 : decode cX1_traced 4 = .ok (.bipush 24, 2) := by decide +kernel
theorem dX1_traced_6 : decode cX1_traced 6 = .ok (.invokestatic 25, 3) := by decide +kernel
theorem dX1_traced_9 : decode cX1_traced 9 = .ok (.ireturn, 1) := by decide +kernel
theorem dX1_isUnder_0 : decode cX1_isUnder 0 = .ok (.iload_n 0, 1) := by decide +kernel
theorem dX1_isUnder_1 : decode cX1_isUnder 1 = .ok (.istore_n 2, 1) := by decide +kernel
theorem dX1_isUnder_2 : decode cX1_isUnder 2 = .ok (.iconst 0, 1) := by decide +kernel
theorem dX1_isUnder_3 : decode cX1_isUnder 3 = .ok (.istore_n 3, 1) := by decide +kernel
theorem dX1_isUnder_4 : decode cX1_isUnder 4 = .ok (.iload_n 3, 1) := by decide +kernel
theorem dX1_isUnder_5 : decode cX1_isUnder 5 = .ok (.bipush 8, 2) := by decide +kernel
theorem dX1_isUnder_7 : decode cX1_isUnder 7 = .ok (.if_icmp .ge 32, 3) := by decide +kernel
theorem dX1_isUnder_10 : decode cX1_isUnder 10 = .ok (.iload_n 2, 1) := by decide +kernel
theorem dX1_isUnder_11 : decode cX1_isUnder 11 = .ok (.ifCond .lt 28, 3) := by decide +kernel
theorem dX1_isUnder_14 : decode cX1_isUnder 14 = .ok (.iload_n 2, 1) := by decide +kernel
theorem dX1_isUnder_15 : decode cX1_isUnder 15 = .ok (.bipush 8, 2) := by decide +kernel
theorem dX1_isUnder_17 : decode cX1_isUnder 17 = .ok (.if_icmp .ge 22, 3) := by decide +kernel
theorem dX1_isUnder_20 : decode cX1_isUnder 20 = .ok (.iload_n 2, 1) := by decide +kernel
theorem dX1_isUnder_21 : decode cX1_isUnder 21 = .ok (.iload_n 1, 1) := by decide +kernel
theorem dX1_isUnder_22 : decode cX1_isUnder 22 = .ok (.if_icmp .ne 5, 3) := by decide +kernel
theorem dX1_isUnder_25 : decode cX1_isUnder 25 = .ok (.iconst 1, 1) := by decide +kernel
theorem dX1_isUnder_26 : decode cX1_isUnder 26 = .ok (.ireturn, 1) := by decide +kernel
theorem dX1_isUnder_27 : decode cX1_isUnder 27 = .ok (.getstatic 31, 3) := by decide +kernel
theorem dX1_isUnder_30 : decode cX1_isUnder 30 = .ok (.iload_n 2, 1) := by decide +kernel
theorem dX1_isUnder_31 : decode cX1_isUnder 31 = .ok (.iaload, 1) := by decide +kernel
theorem dX1_isUnder_32 : decode cX1_isUnder 32 = .ok (.istore_n 2, 1) := by decide +kernel
theorem dX1_isUnder_33 : decode cX1_isUnder 33 = .ok (.iinc 3 1, 3) := by decide +kernel
theorem dX1_isUnder_36 : decode cX1_isUnder 36 = .ok (.goto (-32), 3) := by decide +kernel
theorem dX1_isUnder_39 : decode cX1_isUnder 39 = .ok (.iconst 0, 1) := by decide +kernel
theorem dX1_isUnder_40 : decode cX1_isUnder 40 = .ok (.ireturn, 1) := by decide +kernel
theorem dX1_perform_0 : decode cX1_perform 0 = .ok (.aload_n 0, 1) := by decide +kernel
theorem dX1_perform_1 : decode cX1_perform 1 = .ok (.iconst 0, 1) := by decide +kernel
theorem dX1_perform_2 : decode cX1_perform 2 = .ok (.putfield 22, 3) := by decide +kernel
theorem dX1_perform_5 : decode cX1_perform 5 = .ok (.aload_n 0, 1) := by decide +kernel
theorem dX1_perform_6 : decode cX1_perform 6 = .ok (.iload_n 1, 1) := by decide +kernel
theorem dX1_perform_7 : decode cX1_perform 7 = .ok (.invokevirtual 34, 3) := by decide +kernel
theorem dX1_perform_10 : decode cX1_perform 10 = .ok (.ifCond .eq 12, 3) := by decide +kernel
theorem dX1_perform_13 : decode cX1_perform 13 = .ok (.iload_n 2, 1) := by decide +kernel
theorem dX1_perform_14 : decode cX1_perform 14 = .ok (.ifCond .lt 8, 3) := by decide +kernel
theorem dX1_perform_17 : decode cX1_perform 17 = .ok (.iload_n 2, 1) := by decide +kernel
theorem dX1_perform_18 : decode cX1_perform 18 = .ok (.iconst 4, 1) := by decide +kernel
theorem dX1_perform_19 : decode cX1_perform 19 = .ok (.if_icmp .lt 5, 3) := by decide +kernel
theorem dX1_perform_22 : decode cX1_perform 22 = .ok (.iconst 0, 1) := by decide +kernel
theorem dX1_perform_23 : decode cX1_perform 23 = .ok (.ireturn, 1) := by decide +kernel
theorem dX1_perform_24 : decode cX1_perform 24 = .ok (.aload_n 0, 1) := by decide +kernel
theorem dX1_perform_25 : decode cX1_perform 25 = .ok (.iload_n 1, 1) := by decide +kernel
theorem dX1_perform_26 : decode cX1_perform 26 = .ok (.putfield 38, 3) := by decide +kernel
theorem dX1_perform_29 : decode cX1_perform 29 = .ok (.aload_n 0, 1) := by decide +kernel
theorem dX1_perform_30 : decode cX1_perform 30 = .ok (.iload_n 2, 1) := by decide +kernel
theorem dX1_perform_31 : decode cX1_perform 31 = .ok (.iload_n 3, 1) := by decide +kernel
theorem dX1_perform_32 : decode cX1_perform 32 = .ok (.iconst 0, 1) := by decide +kernel
theorem dX1_perform_33 : decode cX1_perform 33 = .ok (.invokevirtual 41, 3) := by decide +kernel
theorem dX1_perform_36 : decode cX1_perform 36 = .ok (.ireturn, 1) := by decide +kernel
theorem dX1_own_0 : decode cX1_own 0 = .ok (.aload_n 0, 1) := by decide +kernel
theorem dX1_own_1 : decode cX1_own 1 = .ok (.aload_n 0, 1) := by decide +kernel
theorem dX1_own_2 : decode cX1_own 2 = .ok (.getfield 11, 3) := by decide +kernel
theorem dX1_own_5 : decode cX1_own 5 = .ok (.aload_n 0, 1) := by decide +kernel
theorem dX1_own_6 : decode cX1_own 6 = .ok (.getfield 38, 3) := by decide +kernel
theorem dX1_own_9 : decode cX1_own 9 = .ok (.iaload, 1) := by decide +kernel
theorem dX1_own_10 : decode cX1_own 10 = .ok (.iload_n 1, 1) := by decide +kernel
theorem dX1_own_11 : decode cX1_own 11 = .ok (.iload_n 2, 1) := by decide +kernel
theorem dX1_own_12 : decode cX1_own 12 = .ok (.iload_n 3, 1) := by decide +kernel
theorem dX1_own_13 : decode cX1_own 13 = .ok (.invokevirtual 45, 3) := by decide +kernel
theorem dX1_own_16 : decode cX1_own 16 = .ok (.ireturn, 1) := by decide +kernel
theorem dX1_runFrom_0 : decode cX1_runFrom 0 = .ok (.iload_n 1, 1) := by decide +kernel
theorem dX1_runFrom_1 : decode cX1_runFrom 1 = .ok (.istore 5, 2) := by decide +kernel
theorem dX1_runFrom_3 : decode cX1_runFrom 3 = .ok (.iconst 0, 1) := by decide +kernel
theorem dX1_runFrom_4 : decode cX1_runFrom 4 = .ok (.istore 6, 2) := by decide +kernel
theorem dX1_runFrom_6 : decode cX1_runFrom 6 = .ok (.iload 6, 2) := by decide +kernel
theorem dX1_runFrom_8 : decode cX1_runFrom 8 = .ok (.bipush 8, 2) := by decide +kernel
theorem dX1_runFrom_10 : decode cX1_runFrom 10 = .ok (.if_icmp .ge 77, 3) := by decide +kernel
theorem dX1_runFrom_13 : decode cX1_runFrom 13 = .ok (.iload 5, 2) := by decide +kernel
theorem dX1_runFrom_15 : decode cX1_runFrom 15 = .ok (.ifCond .lt 72, 3) := by decide +kernel
theorem dX1_runFrom_18 : decode cX1_runFrom 18 = .ok (.iload 5, 2) := by decide +kernel
theorem dX1_runFrom_20 : decode cX1_runFrom 20 = .ok (.bipush 8, 2) := by decide +kernel
theorem dX1_runFrom_22 : decode cX1_runFrom 22 = .ok (.if_icmp .ge 65, 3) := by decide +kernel
theorem dX1_runFrom_25 : decode cX1_runFrom 25 = .ok (.iload 4, 2) := by decide +kernel
theorem dX1_runFrom_27 : decode cX1_runFrom 27 = .ok (.bipush 40, 2) := by decide +kernel
theorem dX1_runFrom_29 : decode cX1_runFrom 29 = .ok (.if_icmp .ge 58, 3) := by decide +kernel
theorem dX1_runFrom_32 : decode cX1_runFrom 32 = .ok (.getstatic 49, 3) := by decide +kernel
theorem dX1_runFrom_35 : decode cX1_runFrom 35 = .ok (.iload 5, 2) := by decide +kernel
theorem dX1_runFrom_37 : decode cX1_runFrom 37 = .ok (.iconst 4, 1) := by decide +kernel
theorem dX1_runFrom_38 : decode cX1_runFrom 38 = .ok (.imul, 1) := by decide +kernel
theorem dX1_runFrom_39 : decode cX1_runFrom 39 = .ok (.iload_n 2, 1) := by decide +kernel
theorem dX1_runFrom_40 : decode cX1_runFrom 40 = .ok (.iadd, 1) := by decide +kernel
theorem dX1_runFrom_41 : decode cX1_runFrom 41 = .ok (.iaload, 1) := by decide +kernel
theorem dX1_runFrom_42 : decode cX1_runFrom 42 = .ok (.istore 7, 2) := by decide +kernel
theorem dX1_runFrom_44 : decode cX1_runFrom 44 = .ok (.iload 7, 2) := by decide +kernel
theorem dX1_runFrom_46 : decode cX1_runFrom 46 = .ok (.ifCond .eq 27, 3) := by decide +kernel
theorem dX1_runFrom_49 : decode cX1_runFrom 49 = .ok (.aload_n 0, 1) := by decide +kernel
theorem dX1_runFrom_50 : decode cX1_runFrom 50 = .ok (.iload 7, 2) := by decide +kernel
theorem dX1_runFrom_52 : decode cX1_runFrom 52 = .ok (.invokevirtual 52, 3) := by decide +kernel
theorem dX1_runFrom_55 : decode cX1_runFrom 55 = .ok (.aload_n 0, 1) := by decide +kernel
theorem dX1_runFrom_56 : decode cX1_runFrom 56 = .ok (.iload 7, 2) := by decide +kernel
theorem dX1_runFrom_58 : decode cX1_runFrom 58 = .ok (.getstatic 31, 3) := by decide +kernel
theorem dX1_runFrom_61 : decode cX1_runFrom 61 = .ok (.iload 5, 2) := by decide +kernel
theorem dX1_runFrom_63 : decode cX1_runFrom 63 = .ok (.iaload, 1) := by decide +kernel
theorem dX1_runFrom_64 : decode cX1_runFrom 64 = .ok (.iload_n 3, 1) := by decide +kernel
theorem dX1_runFrom_65 : decode cX1_runFrom 65 = .ok (.iload 4, 2) := by decide +kernel
theorem dX1_runFrom_67 : decode cX1_runFrom 67 = .ok (.iconst 1, 1) := by decide +kernel
theorem dX1_runFrom_68 : decode cX1_runFrom 68 = .ok (.iadd, 1) := by decide +kernel
theorem dX1_runFrom_69 : decode cX1_runFrom 69 = .ok (.invokevirtual 56, 3) := by decide +kernel
theorem dX1_runFrom_72 : decode cX1_runFrom 72 = .ok (.ireturn, 1) := by decide +kernel
theorem dX1_runFrom_73 : decode cX1_runFrom 73 = .ok (.getstatic 31, 3) := by decide +kernel
theorem dX1_runFrom_76 : decode cX1_runFrom 76 = .ok (.iload 5, 2) := by decide +kernel
theorem dX1_runFrom_78 : decode cX1_runFrom 78 = .ok (.iaload, 1) := by decide +kernel
theorem dX1_runFrom_79 : decode cX1_runFrom 79 = .ok (.istore 5, 2) := by decide +kernel
theorem dX1_runFrom_81 : decode cX1_runFrom 81 = .ok (.iinc 6 1, 3) := by decide +kernel
theorem dX1_runFrom_84 : decode cX1_runFrom 84 = .ok (.goto (-78), 3) := by decide +kernel
theorem dX1_runFrom_87 : decode cX1_runFrom 87 = .ok (.iconst 0, 1) := by decide +kernel
theorem dX1_runFrom_88 : decode cX1_runFrom 88 = .ok (.ireturn, 1) := by decide +kernel
theorem dX1_noteBegun_0 : decode cX1_noteBegun 0 = .ok (.aload_n 0, 1) := by decide +kernel
theorem dX1_noteBegun_1 : decode cX1_noteBegun 1 = .ok (.getfield 22, 3) := by decide +kernel
theorem dX1_noteBegun_4 : decode cX1_noteBegun 4 = .ok (.bipush 24, 2) := by decide +kernel
theorem dX1_noteBegun_6 : decode cX1_noteBegun 6 = .ok (.if_icmp .ge 13, 3) := by decide +kernel
theorem dX1_noteBegun_9 : decode cX1_noteBegun 9 = .ok (.aload_n 0, 1) := by decide +kernel
theorem dX1_noteBegun_10 : decode cX1_noteBegun 10 = .ok (.getfield 15, 3) := by decide +kernel
theorem dX1_noteBegun_13 : decode cX1_noteBegun 13 = .ok (.aload_n 0, 1) := by decide +kernel
theorem dX1_noteBegun_14 : decode cX1_noteBegun 14 = .ok (.getfield 22, 3) := by decide +kernel
theorem dX1_noteBegun_17 : decode cX1_noteBegun 17 = .ok (.iload_n 1, 1) := by decide +kernel
theorem dX1_noteBegun_18 : decode cX1_noteBegun 18 = .ok (.iastore, 1) := by decide +kernel
theorem dX1_noteBegun_19 : decode cX1_noteBegun 19 = .ok (.aload_n 0, 1) := by decide +kernel
theorem dX1_noteBegun_20 : decode cX1_noteBegun 20 = .ok (.dup, 1) := by decide +kernel
theorem dX1_noteBegun_21 : decode cX1_noteBegun 21 = .ok (.getfield 22, 3) := by decide +kernel
theorem dX1_noteBegun_24 : decode cX1_noteBegun 24 = .ok (.iconst 1, 1) := by decide +kernel
theorem dX1_noteBegun_25 : decode cX1_noteBegun 25 = .ok (.iadd, 1) := by decide +kernel
theorem dX1_noteBegun_26 : decode cX1_noteBegun 26 = .ok (.putfield 22, 3) := by decide +kernel
theorem dX1_noteBegun_29 : decode cX1_noteBegun 29 = .ok (.return_, 1) := by decide +kernel
theorem dX1_runBody_0 : decode cX1_runBody 0 = .ok (.iload_n 1, 1) := by decide +kernel
theorem dX1_runBody_1 : decode cX1_runBody 1 = .ok (.lookupswitch 299 #[(1, 123), (2, 130), (10, 148), (11, 159), (20, 166), (30, 178), (40, 189), (41, 201), (50, 213), (60, 225), (61, 244), (70, 256), (80, 268), (81, 287)], 123) := by decide +kernel
theorem dX1_runBody_124 : decode cX1_runBody 124 = .ok (.iload_n 3, 1) := by decide +kernel
theorem dX1_runBody_125 : decode cX1_runBody 125 = .ok (.aload_n 0, 1) := by decide +kernel
theorem dX1_runBody_126 : decode cX1_runBody 126 = .ok (.getfield 38, 3) := by decide +kernel
theorem dX1_runBody_129 : decode cX1_runBody 129 = .ok (.iadd, 1) := by decide +kernel
theorem dX1_runBody_130 : decode cX1_runBody 130 = .ok (.ireturn, 1) := by decide +kernel
theorem dX1_runBody_131 : decode cX1_runBody 131 = .ok (.aload_n 0, 1) := by decide +kernel
theorem dX1_runBody_132 : decode cX1_runBody 132 = .ok (.iconst 1, 1) := by decide +kernel
theorem dX1_runBody_133 : decode cX1_runBody 133 = .ok (.iload_n 3, 1) := by decide +kernel
theorem dX1_runBody_134 : decode cX1_runBody 134 = .ok (.iload 4, 2) := by decide +kernel
theorem dX1_runBody_136 : decode cX1_runBody 136 = .ok (.invokevirtual 41, 3) := by decide +kernel
theorem dX1_runBody_139 : decode cX1_runBody 139 = .ok (.aload_n 0, 1) := by decide +kernel
theorem dX1_runBody_140 : decode cX1_runBody 140 = .ok (.iconst 2, 1) := by decide +kernel
theorem dX1_runBody_141 : decode cX1_runBody 141 = .ok (.iconst 1, 1) := by decide +kernel
theorem dX1_runBody_142 : decode cX1_runBody 142 = .ok (.iload 4, 2) := by decide +kernel
theorem dX1_runBody_144 : decode cX1_runBody 144 = .ok (.invokevirtual 41, 3) := by decide +kernel
theorem dX1_runBody_147 : decode cX1_runBody 147 = .ok (.isub, 1) := by decide +kernel
theorem dX1_runBody_148 : decode cX1_runBody 148 = .ok (.ireturn, 1) := by decide +kernel
theorem dX1_runBody_149 : decode cX1_runBody 149 = .ok (.aload_n 0, 1) := by decide +kernel
theorem dX1_runBody_150 : decode cX1_runBody 150 = .ok (.iconst 0, 1) := by decide +kernel
theorem dX1_runBody_151 : decode cX1_runBody 151 = .ok (.iload_n 3, 1) := by decide +kernel
theorem dX1_runBody_152 : decode cX1_runBody 152 = .ok (.iload 4, 2) := by decide +kernel
theorem dX1_runBody_154 : decode cX1_runBody 154 = .ok (.invokevirtual 41, 3) := by decide +kernel
theorem dX1_runBody_157 : decode cX1_runBody 157 = .ok (.iconst 2, 1) := by decide +kernel
theorem dX1_runBody_158 : decode cX1_runBody 158 = .ok (.imul, 1) := by decide +kernel
theorem dX1_runBody_159 : decode cX1_runBody 159 = .ok (.ireturn, 1) := by decide +kernel
theorem dX1_runBody_160 : decode cX1_runBody 160 = .ok (.iload_n 3, 1) := by decide +kernel
theorem dX1_runBody_161 : decode cX1_runBody 161 = .ok (.aload_n 0, 1) := by decide +kernel
theorem dX1_runBody_162 : decode cX1_runBody 162 = .ok (.getfield 38, 3) := by decide +kernel
theorem dX1_runBody_165 : decode cX1_runBody 165 = .ok (.ixor, 1) := by decide +kernel
theorem dX1_runBody_166 : decode cX1_runBody 166 = .ok (.ireturn, 1) := by decide +kernel
theorem dX1_runBody_167 : decode cX1_runBody 167 = .ok (.aload_n 0, 1) := by decide +kernel
theorem dX1_runBody_168 : decode cX1_runBody 168 = .ok (.iload_n 2, 1) := by decide +kernel
theorem dX1_runBody_169 : decode cX1_runBody 169 = .ok (.iconst 0, 1) := by decide +kernel
theorem dX1_runBody_170 : decode cX1_runBody 170 = .ok (.iload_n 3, 1) := by decide +kernel
theorem dX1_runBody_171 : decode cX1_runBody 171 = .ok (.iload 4, 2) := by decide +kernel
theorem dX1_runBody_173 : decode cX1_runBody 173 = .ok (.invokevirtual 45, 3) := by decide +kernel
theorem dX1_runBody_176 : decode cX1_runBody 176 = .ok (.iconst 3, 1) := by decide +kernel
theorem dX1_runBody_177 : decode cX1_runBody 177 = .ok (.iadd, 1) := by decide +kernel
theorem dX1_runBody_178 : decode cX1_runBody 178 = .ok (.ireturn, 1) := by decide +kernel
theorem dX1_runBody_179 : decode cX1_runBody 179 = .ok (.aload_n 0, 1) := by decide +kernel
theorem dX1_runBody_180 : decode cX1_runBody 180 = .ok (.iload_n 2, 1) := by decide +kernel
theorem dX1_runBody_181 : decode cX1_runBody 181 = .ok (.iconst 1, 1) := by decide +kernel
theorem dX1_runBody_182 : decode cX1_runBody 182 = .ok (.iload_n 3, 1) := by decide +kernel
theorem dX1_runBody_183 : decode cX1_runBody 183 = .ok (.iload 4, 2) := by decide +kernel
theorem dX1_runBody_185 : decode cX1_runBody 185 = .ok (.invokevirtual 45, 3) := by decide +kernel
theorem dX1_runBody_188 : decode cX1_runBody 188 = .ok (.ineg, 1) := by decide +kernel
theorem dX1_runBody_189 : decode cX1_runBody 189 = .ok (.ireturn, 1) := by decide +kernel
theorem dX1_runBody_190 : decode cX1_runBody 190 = .ok (.aload_n 0, 1) := by decide +kernel
theorem dX1_runBody_191 : decode cX1_runBody 191 = .ok (.iload_n 2, 1) := by decide +kernel
theorem dX1_runBody_192 : decode cX1_runBody 192 = .ok (.iconst 2, 1) := by decide +kernel
theorem dX1_runBody_193 : decode cX1_runBody 193 = .ok (.iload_n 3, 1) := by decide +kernel
theorem dX1_runBody_194 : decode cX1_runBody 194 = .ok (.iload 4, 2) := by decide +kernel
theorem dX1_runBody_196 : decode cX1_runBody 196 = .ok (.invokevirtual 45, 3) := by decide +kernel
theorem dX1_runBody_199 : decode cX1_runBody 199 = .ok (.iconst 3, 1) := by decide +kernel
theorem dX1_runBody_200 : decode cX1_runBody 200 = .ok (.imul, 1) := by decide +kernel
theorem dX1_runBody_201 : decode cX1_runBody 201 = .ok (.ireturn, 1) := by decide +kernel
theorem dX1_runBody_202 : decode cX1_runBody 202 = .ok (.aload_n 0, 1) := by decide +kernel
theorem dX1_runBody_203 : decode cX1_runBody 203 = .ok (.iload_n 2, 1) := by decide +kernel
theorem dX1_runBody_204 : decode cX1_runBody 204 = .ok (.iconst 1, 1) := by decide +kernel
theorem dX1_runBody_205 : decode cX1_runBody 205 = .ok (.iload_n 3, 1) := by decide +kernel
theorem dX1_runBody_206 : decode cX1_runBody 206 = .ok (.iconst 1, 1) := by decide +kernel
theorem dX1_runBody_207 : decode cX1_runBody 207 = .ok (.iadd, 1) := by decide +kernel
theorem dX1_runBody_208 : decode cX1_runBody 208 = .ok (.iload 4, 2) := by decide +kernel
theorem dX1_runBody_210 : decode cX1_runBody 210 = .ok (.invokevirtual 45, 3) := by decide +kernel
theorem dX1_runBody_213 : decode cX1_runBody 213 = .ok (.ireturn, 1) := by decide +kernel
theorem dX1_runBody_214 : decode cX1_runBody 214 = .ok (.aload_n 0, 1) := by decide +kernel
theorem dX1_runBody_215 : decode cX1_runBody 215 = .ok (.iload_n 2, 1) := by decide +kernel
theorem dX1_runBody_216 : decode cX1_runBody 216 = .ok (.iconst 3, 1) := by decide +kernel
theorem dX1_runBody_217 : decode cX1_runBody 217 = .ok (.iload_n 3, 1) := by decide +kernel
theorem dX1_runBody_218 : decode cX1_runBody 218 = .ok (.iload 4, 2) := by decide +kernel
theorem dX1_runBody_220 : decode cX1_runBody 220 = .ok (.invokevirtual 45, 3) := by decide +kernel
theorem dX1_runBody_223 : decode cX1_runBody 223 = .ok (.iconst 5, 1) := by decide +kernel
theorem dX1_runBody_224 : decode cX1_runBody 224 = .ok (.ixor, 1) := by decide +kernel
theorem dX1_runBody_225 : decode cX1_runBody 225 = .ok (.ireturn, 1) := by decide +kernel
theorem dX1_runBody_226 : decode cX1_runBody 226 = .ok (.aload_n 0, 1) := by decide +kernel
theorem dX1_runBody_227 : decode cX1_runBody 227 = .ok (.iload_n 2, 1) := by decide +kernel
theorem dX1_runBody_228 : decode cX1_runBody 228 = .ok (.iconst 2, 1) := by decide +kernel
theorem dX1_runBody_229 : decode cX1_runBody 229 = .ok (.iload_n 3, 1) := by decide +kernel
theorem dX1_runBody_230 : decode cX1_runBody 230 = .ok (.iload 4, 2) := by decide +kernel
theorem dX1_runBody_232 : decode cX1_runBody 232 = .ok (.invokevirtual 45, 3) := by decide +kernel
theorem dX1_runBody_235 : decode cX1_runBody 235 = .ok (.aload_n 0, 1) := by decide +kernel
theorem dX1_runBody_236 : decode cX1_runBody 236 = .ok (.iconst 0, 1) := by decide +kernel
theorem dX1_runBody_237 : decode cX1_runBody 237 = .ok (.iconst 2, 1) := by decide +kernel
theorem dX1_runBody_238 : decode cX1_runBody 238 = .ok (.iload 4, 2) := by decide +kernel
theorem dX1_runBody_240 : decode cX1_runBody 240 = .ok (.invokevirtual 41, 3) := by decide +kernel
theorem dX1_runBody_243 : decode cX1_runBody 243 = .ok (.isub, 1) := by decide +kernel
theorem dX1_runBody_244 : decode cX1_runBody 244 = .ok (.ireturn, 1) := by decide +kernel
theorem dX1_runBody_245 : decode cX1_runBody 245 = .ok (.aload_n 0, 1) := by decide +kernel
theorem dX1_runBody_246 : decode cX1_runBody 246 = .ok (.iload_n 2, 1) := by decide +kernel
theorem dX1_runBody_247 : decode cX1_runBody 247 = .ok (.iconst 3, 1) := by decide +kernel
theorem dX1_runBody_248 : decode cX1_runBody 248 = .ok (.iload_n 3, 1) := by decide +kernel
theorem dX1_runBody_249 : decode cX1_runBody 249 = .ok (.iload 4, 2) := by decide +kernel
theorem dX1_runBody_251 : decode cX1_runBody 251 = .ok (.invokevirtual 45, 3) := by decide +kernel
theorem dX1_runBody_254 : decode cX1_runBody 254 = .ok (.iconst 1, 1) := by decide +kernel
theorem dX1_runBody_255 : decode cX1_runBody 255 = .ok (.iadd, 1) := by decide +kernel
theorem dX1_runBody_256 : decode cX1_runBody 256 = .ok (.ireturn, 1) := by decide +kernel
theorem dX1_runBody_257 : decode cX1_runBody 257 = .ok (.aload_n 0, 1) := by decide +kernel
theorem dX1_runBody_258 : decode cX1_runBody 258 = .ok (.iload_n 2, 1) := by decide +kernel
theorem dX1_runBody_259 : decode cX1_runBody 259 = .ok (.iconst 0, 1) := by decide +kernel
theorem dX1_runBody_260 : decode cX1_runBody 260 = .ok (.iload_n 3, 1) := by decide +kernel
theorem dX1_runBody_261 : decode cX1_runBody 261 = .ok (.iload 4, 2) := by decide +kernel
theorem dX1_runBody_263 : decode cX1_runBody 263 = .ok (.invokevirtual 45, 3) := by decide +kernel
theorem dX1_runBody_266 : decode cX1_runBody 266 = .ok (.iconst 2, 1) := by decide +kernel
theorem dX1_runBody_267 : decode cX1_runBody 267 = .ok (.imul, 1) := by decide +kernel
theorem dX1_runBody_268 : decode cX1_runBody 268 = .ok (.ireturn, 1) := by decide +kernel
theorem dX1_runBody_269 : decode cX1_runBody 269 = .ok (.aload_n 0, 1) := by decide +kernel
theorem dX1_runBody_270 : decode cX1_runBody 270 = .ok (.iload_n 2, 1) := by decide +kernel
theorem dX1_runBody_271 : decode cX1_runBody 271 = .ok (.iconst 1, 1) := by decide +kernel
theorem dX1_runBody_272 : decode cX1_runBody 272 = .ok (.iload_n 3, 1) := by decide +kernel
theorem dX1_runBody_273 : decode cX1_runBody 273 = .ok (.iload 4, 2) := by decide +kernel
theorem dX1_runBody_275 : decode cX1_runBody 275 = .ok (.invokevirtual 45, 3) := by decide +kernel
theorem dX1_runBody_278 : decode cX1_runBody 278 = .ok (.aload_n 0, 1) := by decide +kernel
theorem dX1_runBody_279 : decode cX1_runBody 279 = .ok (.iconst 2, 1) := by decide +kernel
theorem dX1_runBody_280 : decode cX1_runBody 280 = .ok (.iconst 2, 1) := by decide +kernel
theorem dX1_runBody_281 : decode cX1_runBody 281 = .ok (.iload 4, 2) := by decide +kernel
theorem dX1_runBody_283 : decode cX1_runBody 283 = .ok (.invokevirtual 41, 3) := by decide +kernel
theorem dX1_runBody_286 : decode cX1_runBody 286 = .ok (.iadd, 1) := by decide +kernel
theorem dX1_runBody_287 : decode cX1_runBody 287 = .ok (.ireturn, 1) := by decide +kernel
theorem dX1_runBody_288 : decode cX1_runBody 288 = .ok (.aload_n 0, 1) := by decide +kernel
theorem dX1_runBody_289 : decode cX1_runBody 289 = .ok (.iload_n 2, 1) := by decide +kernel
theorem dX1_runBody_290 : decode cX1_runBody 290 = .ok (.iconst 0, 1) := by decide +kernel
theorem dX1_runBody_291 : decode cX1_runBody 291 = .ok (.iload_n 3, 1) := by decide +kernel
theorem dX1_runBody_292 : decode cX1_runBody 292 = .ok (.iload 4, 2) := by decide +kernel
theorem dX1_runBody_294 : decode cX1_runBody 294 = .ok (.invokevirtual 45, 3) := by decide +kernel
theorem dX1_runBody_297 : decode cX1_runBody 297 = .ok (.iconst 1, 1) := by decide +kernel
theorem dX1_runBody_298 : decode cX1_runBody 298 = .ok (.isub, 1) := by decide +kernel
theorem dX1_runBody_299 : decode cX1_runBody 299 = .ok (.ireturn, 1) := by decide +kernel
theorem dX1_runBody_300 : decode cX1_runBody 300 = .ok (.iconst 0, 1) := by decide +kernel
theorem dX1_runBody_301 : decode cX1_runBody 301 = .ok (.ireturn, 1) := by decide +kernel
theorem dX2_init_0 : decode cX2_init 0 = .ok (.aload_n 0, 1) := by decide +kernel
theorem dX2_init_1 : decode cX2_init 1 = .ok (.invokespecial 3, 3) := by decide +kernel
theorem dX2_init_4 : decode cX2_init 4 = .ok (.aload_n 0, 1) := by decide +kernel
theorem dX2_init_5 : decode cX2_init 5 = .ok (.bipush 120, 2) := by decide +kernel
theorem dX2_init_7 : decode cX2_init 7 = .ok (.newarray .int, 2) := by decide +kernel
theorem dX2_init_9 : decode cX2_init 9 = .ok (.putfield 11, 3) := by decide +kernel
theorem dX2_init_12 : decode cX2_init 12 = .ok (.aload_n 0, 1) := by decide +kernel
theorem dX2_init_13 : decode cX2_init 13 = .ok (.bipush 120, 2) := by decide +kernel
theorem dX2_init_15 : decode cX2_init 15 = .ok (.newarray .int, 2) := by decide +kernel
theorem dX2_init_17 : decode cX2_init 17 = .ok (.putfield 15, 3) := by decide +kernel
theorem dX2_init_20 : decode cX2_init 20 = .ok (.aload_n 0, 1) := by decide +kernel
theorem dX2_init_21 : decode cX2_init 21 = .ok (.bipush 120, 2) := by decide +kernel
theorem dX2_init_23 : decode cX2_init 23 = .ok (.newarray .int, 2) := by decide +kernel
theorem dX2_init_25 : decode cX2_init 25 = .ok (.putfield 18, 3) := by decide +kernel
theorem dX2_init_28 : decode cX2_init 28 = .ok (.aload_n 0, 1) := by decide +kernel
theorem dX2_init_29 : decode cX2_init 29 = .ok (.bipush 6, 2) := by decide +kernel
theorem dX2_init_31 : decode cX2_init 31 = .ok (.newarray .int, 2) := by decide +kernel
theorem dX2_init_33 : decode cX2_init 33 = .ok (.putfield 21, 3) := by decide +kernel
theorem dX2_init_36 : decode cX2_init 36 = .ok (.aload_n 0, 1) := by decide +kernel
theorem dX2_init_37 : decode cX2_init 37 = .ok (.bipush 120, 2) := by decide +kernel
theorem dX2_init_39 : decode cX2_init 39 = .ok (.newarray .int, 2) := by decide +kernel
theorem dX2_init_41 : decode cX2_init 41 = .ok (.putfield 24, 3) := by decide +kernel
theorem dX2_init_44 : decode cX2_init 44 = .ok (.return_, 1) := by decide +kernel
theorem dX2_takeByte_0 : decode cX2_takeByte 0 = .ok (.aload_n 0, 1) := by decide +kernel
theorem dX2_takeByte_1 : decode cX2_takeByte 1 = .ok (.getfield 27, 3) := by decide +kernel
theorem dX2_takeByte_4 : decode cX2_takeByte 4 = .ok (.bipush 120, 2) := by decide +kernel
theorem dX2_takeByte_6 : decode cX2_takeByte 6 = .ok (.if_icmp .lt 6, 3) := by decide +kernel
theorem dX2_takeByte_9 : decode cX2_takeByte 9 = .ok (.bipush (-3), 2) := by decide +kernel
theorem dX2_takeByte_11 : decode cX2_takeByte 11 = .ok (.ireturn, 1) := by decide +kernel
theorem dX2_takeByte_12 : decode cX2_takeByte 12 = .ok (.aload_n 0, 1) := by decide +kernel
theorem dX2_takeByte_13 : decode cX2_takeByte 13 = .ok (.getfield 11, 3) := by decide +kernel
theorem dX2_takeByte_16 : decode cX2_takeByte 16 = .ok (.aload_n 0, 1) := by decide +kernel
theorem dX2_takeByte_17 : decode cX2_takeByte 17 = .ok (.getfield 27, 3) := by decide +kernel
theorem dX2_takeByte_20 : decode cX2_takeByte 20 = .ok (.iload_n 1, 1) := by decide +kernel
theorem dX2_takeByte_21 : decode cX2_takeByte 21 = .ok (.iastore, 1) := by decide +kernel
theorem dX2_takeByte_22 : decode cX2_takeByte 22 = .ok (.aload_n 0, 1) := by decide +kernel
theorem dX2_takeByte_23 : decode cX2_takeByte 23 = .ok (.dup, 1) := by decide +kernel
theorem dX2_takeByte_24 : decode cX2_takeByte 24 = .ok (.getfield 27, 3) := by decide +kernel
theorem dX2_takeByte_27 : decode cX2_takeByte 27 = .ok (.iconst 1, 1) := by decide +kernel
theorem dX2_takeByte_28 : decode cX2_takeByte 28 = .ok (.iadd, 1) := by decide +kernel
theorem dX2_takeByte_29 : decode cX2_takeByte 29 = .ok (.putfield 27, 3) := by decide +kernel
theorem dX2_takeByte_32 : decode cX2_takeByte 32 = .ok (.aload_n 0, 1) := by decide +kernel
theorem dX2_takeByte_33 : decode cX2_takeByte 33 = .ok (.getfield 27, 3) := by decide +kernel
theorem dX2_takeByte_36 : decode cX2_takeByte 36 = .ok (.ireturn, 1) := by decide +kernel
theorem dX2_takeTape_0 : decode cX2_takeTape 0 = .ok (.aload_n 0, 1) := by decide +kernel
theorem dX2_takeTape_1 : decode cX2_takeTape 1 = .ok (.iconst 0, 1) := by decide +kernel
theorem dX2_takeTape_2 : decode cX2_takeTape 2 = .ok (.putfield 31, 3) := by decide +kernel
theorem dX2_takeTape_5 : decode cX2_takeTape 5 = .ok (.aload_n 0, 1) := by decide +kernel
theorem dX2_takeTape_6 : decode cX2_takeTape 6 = .ok (.iconst 0, 1) := by decide +kernel
theorem dX2_takeTape_7 : decode cX2_takeTape 7 = .ok (.putfield 34, 3) := by decide +kernel
theorem dX2_takeTape_10 : decode cX2_takeTape 10 = .ok (.aload_n 0, 1) := by decide +kernel
theorem dX2_takeTape_11 : decode cX2_takeTape 11 = .ok (.iconst (-1), 1) := by decide +kernel
theorem dX2_takeTape_12 : decode cX2_takeTape 12 = .ok (.putfield 37, 3) := by decide +kernel
theorem dX2_takeTape_15 : decode cX2_takeTape 15 = .ok (.aload_n 0, 1) := by decide +kernel
theorem dX2_takeTape_16 : decode cX2_takeTape 16 = .ok (.invokevirtual 40, 3) := by decide +kernel
theorem dX2_takeTape_19 : decode cX2_takeTape 19 = .ok (.aload_n 0, 1) := by decide +kernel
theorem dX2_takeTape_20 : decode cX2_takeTape 20 = .ok (.iconst 0, 1) := by decide +kernel
theorem dX2_takeTape_21 : decode cX2_takeTape 21 = .ok (.putfield 27, 3) := by decide +kernel
theorem dX2_takeTape_24 : decode cX2_takeTape 24 = .ok (.aload_n 0, 1) := by decide +kernel
theorem dX2_takeTape_25 : decode cX2_takeTape 25 = .ok (.getfield 37, 3) := by decide +kernel
theorem dX2_takeTape_28 : decode cX2_takeTape 28 = .ok (.iconst (-1), 1) := by decide +kernel
theorem dX2_takeTape_29 : decode cX2_takeTape 29 = .ok (.if_icmp .ne 28, 3) := by decide +kernel
theorem dX2_takeTape_32 : decode cX2_takeTape 32 = .ok (.aload_n 0, 1) := by decide +kernel
theorem dX2_takeTape_33 : decode cX2_takeTape 33 = .ok (.getfield 15, 3) := by decide +kernel
theorem dX2_takeTape_36 : decode cX2_takeTape 36 = .ok (.iconst 0, 1) := by decide +kernel
theorem dX2_takeTape_37 : decode cX2_takeTape 37 = .ok (.aload_n 0, 1) := by decide +kernel
theorem dX2_takeTape_38 : decode cX2_takeTape 38 = .ok (.getfield 18, 3) := by decide +kernel
theorem dX2_takeTape_41 : decode cX2_takeTape 41 = .ok (.iconst 0, 1) := by decide +kernel
theorem dX2_takeTape_42 : decode cX2_takeTape 42 = .ok (.aload_n 0, 1) := by decide +kernel
theorem dX2_takeTape_43 : decode cX2_takeTape 43 = .ok (.getfield 31, 3) := by decide +kernel
theorem dX2_takeTape_46 : decode cX2_takeTape 46 = .ok (.invokestatic 43, 3) := by decide +kernel
theorem dX2_takeTape_49 : decode cX2_takeTape 49 = .ok (.aload_n 0, 1) := by decide +kernel
theorem dX2_takeTape_50 : decode cX2_takeTape 50 = .ok (.aload_n 0, 1) := by decide +kernel
theorem dX2_takeTape_51 : decode cX2_takeTape 51 = .ok (.getfield 31, 3) := by decide +kernel
theorem dX2_takeTape_54 : decode cX2_takeTape 54 = .ok (.putfield 49, 3) := by decide +kernel
theorem dX2_takeTape_57 : decode cX2_takeTape 57 = .ok (.aload_n 0, 1) := by decide +kernel
theorem dX2_takeTape_58 : decode cX2_takeTape 58 = .ok (.getfield 37, 3) := by decide +kernel
theorem dX2_takeTape_61 : decode cX2_takeTape 61 = .ok (.ireturn, 1) := by decide +kernel
theorem dX2_readLines_0 : decode cX2_readLines 0 = .ok (.aload_n 0, 1) := by decide +kernel
theorem dX2_readLines_1 : decode cX2_readLines 1 = .ok (.invokevirtual 52, 3) := by decide +kernel
theorem dX2_readLines_4 : decode cX2_readLines 4 = .ok (.iconst 0, 1) := by decide +kernel
theorem dX2_readLines_5 : decode cX2_readLines 5 = .ok (.istore_n 1, 1) := by decide +kernel
theorem dX2_readLines_6 : decode cX2_readLines 6 = .ok (.iload_n 1, 1) := by decide +kernel
theorem dX2_readLines_7 : decode cX2_readLines 7 = .ok (.bipush 120, 2) := by decide +kernel
theorem dX2_readLines_9 : decode cX2_readLines 9 = .ok (.if_icmp .ge 34, 3) := by decide +kernel
theorem dX2_readLines_12 : decode cX2_readLines 12 = .ok (.aload_n 0, 1) := by decide +kernel
theorem dX2_readLines_13 : decode cX2_readLines 13 = .ok (.getfield 37, 3) := by decide +kernel
theorem dX2_readLines_16 : decode cX2_readLines 16 = .ok (.iconst (-1), 1) := by decide +kernel
theorem dX2_readLines_17 : decode cX2_readLines 17 = .ok (.if_icmp .ne 26, 3) := by decide +kernel
theorem dX2_readLines_20 : decode cX2_readLines 20 = .ok (.aload_n 0, 1) := by decide +kernel
theorem dX2_readLines_21 : decode cX2_readLines 21 = .ok (.invokevirtual 55, 3) := by decide +kernel
theorem dX2_readLines_24 : decode cX2_readLines 24 = .ok (.bipush 59, 2) := by decide +kernel
theorem dX2_readLines_26 : decode cX2_readLines 26 = .ok (.if_icmp .ne 17, 3) := by decide +kernel
theorem dX2_readLines_29 : decode cX2_readLines 29 = .ok (.aload_n 0, 1) := by decide +kernel
theorem dX2_readLines_30 : decode cX2_readLines 30 = .ok (.invokevirtual 59, 3) := by decide +kernel
theorem dX2_readLines_33 : decode cX2_readLines 33 = .ok (.aload_n 0, 1) := by decide +kernel
theorem dX2_readLines_34 : decode cX2_readLines 34 = .ok (.invokevirtual 52, 3) := by decide +kernel
theorem dX2_readLines_37 : decode cX2_readLines 37 = .ok (.iinc 1 1, 3) := by decide +kernel
theorem dX2_readLines_40 : decode cX2_readLines 40 = .ok (.goto (-34), 3) := by decide +kernel
theorem dX2_readLines_43 : decode cX2_readLines 43 = .ok (.aload_n 0, 1) := by decide +kernel
theorem dX2_readLines_44 : decode cX2_readLines 44 = .ok (.invokevirtual 55, 3) := by decide +kernel
theorem dX2_readLines_47 : decode cX2_readLines 47 = .ok (.iconst (-1), 1) := by decide +kernel
theorem dX2_readLines_48 : decode cX2_readLines 48 = .ok (.if_icmp .eq 7, 3) := by decide +kernel
theorem dX2_readLines_51 : decode cX2_readLines 51 = .ok (.aload_n 0, 1) := by decide +kernel
theorem dX2_readLines_52 : decode cX2_readLines 52 = .ok (.invokevirtual 62, 3) := by decide +kernel
theorem dX2_readLines_55 : decode cX2_readLines 55 = .ok (.return_, 1) := by decide +kernel
theorem dX2_readLine_0 : decode cX2_readLine 0 = .ok (.aload_n 0, 1) := by decide +kernel
theorem dX2_readLine_1 : decode cX2_readLine 1 = .ok (.iconst 0, 1) := by decide +kernel
theorem dX2_readLine_2 : decode cX2_readLine 2 = .ok (.iconst 0, 1) := by decide +kernel
theorem dX2_readLine_3 : decode cX2_readLine 3 = .ok (.invokevirtual 65, 3) := by decide +kernel
theorem dX2_readLine_6 : decode cX2_readLine 6 = .ok (.aload_n 0, 1) := by decide +kernel
theorem dX2_readLine_7 : decode cX2_readLine 7 = .ok (.getfield 37, 3) := by decide +kernel
theorem dX2_readLine_10 : decode cX2_readLine 10 = .ok (.iconst (-1), 1) := by decide +kernel
theorem dX2_readLine_11 : decode cX2_readLine 11 = .ok (.if_icmp .ne 22, 3) := by decide +kernel
theorem dX2_readLine_14 : decode cX2_readLine 14 = .ok (.aload_n 0, 1) := by decide +kernel
theorem dX2_readLine_15 : decode cX2_readLine 15 = .ok (.invokevirtual 55, 3) := by decide +kernel
theorem dX2_readLine_18 : decode cX2_readLine 18 = .ok (.bipush 63, 2) := by decide +kernel
theorem dX2_readLine_20 : decode cX2_readLine 20 = .ok (.if_icmp .ne 13, 3) := by decide +kernel
theorem dX2_readLine_23 : decode cX2_readLine 23 = .ok (.aload_n 0, 1) := by decide +kernel
theorem dX2_readLine_24 : decode cX2_readLine 24 = .ok (.invokevirtual 59, 3) := by decide +kernel
theorem dX2_readLine_27 : decode cX2_readLine 27 = .ok (.aload_n 0, 1) := by decide +kernel
theorem dX2_readLine_28 : decode cX2_readLine 28 = .ok (.iconst 0, 1) := by decide +kernel
theorem dX2_readLine_29 : decode cX2_readLine 29 = .ok (.iconst 0, 1) := by decide +kernel
theorem dX2_readLine_30 : decode cX2_readLine 30 = .ok (.invokevirtual 65, 3) := by decide +kernel
theorem dX2_readLine_33 : decode cX2_readLine 33 = .ok (.return_, 1) := by decide +kernel
theorem dX2_readRank_0 : decode cX2_readRank 0 = .ok (.iload_n 1, 1) := by decide +kernel
theorem dX2_readRank_1 : decode cX2_readRank 1 = .ok (.iconst 5, 1) := by decide +kernel
theorem dX2_readRank_2 : decode cX2_readRank 2 = .ok (.if_icmp .lt 9, 3) := by decide +kernel
theorem dX2_readRank_5 : decode cX2_readRank 5 = .ok (.aload_n 0, 1) := by decide +kernel
theorem dX2_readRank_6 : decode cX2_readRank 6 = .ok (.iload_n 2, 1) := by decide +kernel
theorem dX2_readRank_7 : decode cX2_readRank 7 = .ok (.invokevirtual 69, 3) := by decide +kernel
theorem dX2_readRank_10 : decode cX2_readRank 10 = .ok (.return_, 1) := by decide +kernel
theorem dX2_readRank_11 : decode cX2_readRank 11 = .ok (.aload_n 0, 1) := by decide +kernel
theorem dX2_readRank_12 : decode cX2_readRank 12 = .ok (.iload_n 1, 1) := by decide +kernel
theorem dX2_readRank_13 : decode cX2_readRank 13 = .ok (.iconst 1, 1) := by decide +kernel
theorem dX2_readRank_14 : decode cX2_readRank 14 = .ok (.iadd, 1) := by decide +kernel
theorem dX2_readRank_15 : decode cX2_readRank 15 = .ok (.iload_n 2, 1) := by decide +kernel
theorem dX2_readRank_16 : decode cX2_readRank 16 = .ok (.invokevirtual 65, 3) := by decide +kernel
theorem dX2_readRank_19 : decode cX2_readRank 19 = .ok (.iconst 0, 1) := by decide +kernel
theorem dX2_readRank_20 : decode cX2_readRank 20 = .ok (.istore_n 3, 1) := by decide +kernel
theorem dX2_readRank_21 : decode cX2_readRank 21 = .ok (.iload_n 3, 1) := by decide +kernel
theorem dX2_readRank_22 : decode cX2_readRank 22 = .ok (.bipush 120, 2) := by decide +kernel
theorem dX2_readRank_24 : decode cX2_readRank 24 = .ok (.if_icmp .ge 65, 3) := by decide +kernel
theorem dX2_readRank_27 : decode cX2_readRank 27 = .ok (.aload_n 0, 1) := by decide +kernel
theorem dX2_readRank_28 : decode cX2_readRank 28 = .ok (.getfield 37, 3) := by decide +kernel
theorem dX2_readRank_31 : decode cX2_readRank 31 = .ok (.iconst (-1), 1) := by decide +kernel
theorem dX2_readRank_32 : decode cX2_readRank 32 = .ok (.if_icmp .ne 57, 3) := by decide +kernel
theorem dX2_readRank_35 : decode cX2_readRank 35 = .ok (.aload_n 0, 1) := by decide +kernel
theorem dX2_readRank_36 : decode cX2_readRank 36 = .ok (.invokevirtual 55, 3) := by decide +kernel
theorem dX2_readRank_39 : decode cX2_readRank 39 = .ok (.invokestatic 73, 3) := by decide +kernel
theorem dX2_readRank_42 : decode cX2_readRank 42 = .ok (.iload_n 1, 1) := by decide +kernel
theorem dX2_readRank_43 : decode cX2_readRank 43 = .ok (.if_icmp .ne 46, 3) := by decide +kernel
theorem dX2_readRank_46 : decode cX2_readRank 46 = .ok (.aload_n 0, 1) := by decide +kernel
theorem dX2_readRank_47 : decode cX2_readRank 47 = .ok (.invokevirtual 55, 3) := by decide +kernel
theorem dX2_readRank_50 : decode cX2_readRank 50 = .ok (.istore 4, 2) := by decide +kernel
theorem dX2_readRank_52 : decode cX2_readRank 52 = .ok (.aload_n 0, 1) := by decide +kernel
theorem dX2_readRank_53 : decode cX2_readRank 53 = .ok (.dup, 1) := by decide +kernel
theorem dX2_readRank_54 : decode cX2_readRank 54 = .ok (.getfield 34, 3) := by decide +kernel
theorem dX2_readRank_57 : decode cX2_readRank 57 = .ok (.iconst 1, 1) := by decide +kernel
theorem dX2_readRank_58 : decode cX2_readRank 58 = .ok (.iadd, 1) := by decide +kernel
theorem dX2_readRank_59 : decode cX2_readRank 59 = .ok (.putfield 34, 3) := by decide +kernel
theorem dX2_readRank_62 : decode cX2_readRank 62 = .ok (.aload_n 0, 1) := by decide +kernel
theorem dX2_readRank_63 : decode cX2_readRank 63 = .ok (.iload_n 1, 1) := by decide +kernel
theorem dX2_readRank_64 : decode cX2_readRank 64 = .ok (.iconst 1, 1) := by decide +kernel
theorem dX2_readRank_65 : decode cX2_readRank 65 = .ok (.iadd, 1) := by decide +kernel
theorem dX2_readRank_66 : decode cX2_readRank 66 = .ok (.iload_n 2, 1) := by decide +kernel
theorem dX2_readRank_67 : decode cX2_readRank 67 = .ok (.invokevirtual 65, 3) := by decide +kernel
theorem dX2_readRank_70 : decode cX2_readRank 70 = .ok (.aload_n 0, 1) := by decide +kernel
theorem dX2_readRank_71 : decode cX2_readRank 71 = .ok (.iload 4, 2) := by decide +kernel
theorem dX2_readRank_73 : decode cX2_readRank 73 = .ok (.ineg, 1) := by decide +kernel
theorem dX2_readRank_74 : decode cX2_readRank 74 = .ok (.invokevirtual 77, 3) := by decide +kernel
theorem dX2_readRank_77 : decode cX2_readRank 77 = .ok (.iload_n 1, 1) := by decide +kernel
theorem dX2_readRank_78 : decode cX2_readRank 78 = .ok (.iconst 2, 1) := by decide +kernel
theorem dX2_readRank_79 : decode cX2_readRank 79 = .ok (.if_icmp .ne 4, 3) := by decide +kernel
theorem dX2_readRank_82 : decode cX2_readRank 82 = .ok (.return_, 1) := by decide +kernel
theorem dX2_readRank_83 : decode cX2_readRank 83 = .ok (.iinc 3 1, 3) := by decide +kernel
theorem dX2_readRank_86 : decode cX2_readRank 86 = .ok (.goto (-65), 3) := by decide +kernel
theorem dX2_readRank_89 : decode cX2_readRank 89 = .ok (.return_, 1) := by decide +kernel
theorem dX2_readOperand_0 : decode cX2_readOperand 0 = .ok (.aload_n 0, 1) := by decide +kernel
theorem dX2_readOperand_1 : decode cX2_readOperand 1 = .ok (.invokevirtual 55, 3) := by decide +kernel
theorem dX2_readOperand_4 : decode cX2_readOperand 4 = .ok (.istore_n 2, 1) := by decide +kernel
theorem dX2_readOperand_5 : decode cX2_readOperand 5 = .ok (.iload_n 2, 1) := by decide +kernel
theorem dX2_readOperand_6 : decode cX2_readOperand 6 = .ok (.invokestatic 80, 3) := by decide +kernel
theorem dX2_readOperand_9 : decode cX2_readOperand 9 = .ok (.ifCond .eq 10, 3) := by decide +kernel
theorem dX2_readOperand_12 : decode cX2_readOperand 12 = .ok (.aload_n 0, 1) := by decide +kernel
theorem dX2_readOperand_13 : decode cX2_readOperand 13 = .ok (.invokevirtual 84, 3) := by decide +kernel
theorem dX2_readOperand_16 : decode cX2_readOperand 16 = .ok (.goto 129, 3) := by decide +kernel
theorem dX2_readOperand_19 : decode cX2_readOperand 19 = .ok (.iload_n 2, 1) := by decide +kernel
theorem dX2_readOperand_20 : decode cX2_readOperand 20 = .ok (.invokestatic 87, 3) := by decide +kernel
theorem dX2_readOperand_23 : decode cX2_readOperand 23 = .ok (.ifCond .lt 26, 3) := by decide +kernel
theorem dX2_readOperand_26 : decode cX2_readOperand 26 = .ok (.aload_n 0, 1) := by decide +kernel
theorem dX2_readOperand_27 : decode cX2_readOperand 27 = .ok (.iconst (-1), 1) := by decide +kernel
theorem dX2_readOperand_28 : decode cX2_readOperand 28 = .ok (.iload_n 2, 1) := by decide +kernel
theorem dX2_readOperand_29 : decode cX2_readOperand 29 = .ok (.invokestatic 87, 3) := by decide +kernel
theorem dX2_readOperand_32 : decode cX2_readOperand 32 = .ok (.isub, 1) := by decide +kernel
theorem dX2_readOperand_33 : decode cX2_readOperand 33 = .ok (.invokevirtual 77, 3) := by decide +kernel
theorem dX2_readOperand_36 : decode cX2_readOperand 36 = .ok (.aload_n 0, 1) := by decide +kernel
theorem dX2_readOperand_37 : decode cX2_readOperand 37 = .ok (.dup, 1) := by decide +kernel
theorem dX2_readOperand_38 : decode cX2_readOperand 38 = .ok (.getfield 34, 3) := by decide +kernel
theorem dX2_readOperand_41 : decode cX2_readOperand 41 = .ok (.iconst 1, 1) := by decide +kernel
theorem dX2_readOperand_42 : decode cX2_readOperand 42 = .ok (.iadd, 1) := by decide +kernel
theorem dX2_readOperand_43 : decode cX2_readOperand 43 = .ok (.putfield 34, 3) := by decide +kernel
theorem dX2_readOperand_46 : decode cX2_readOperand 46 = .ok (.goto 99, 3) := by decide +kernel
theorem dX2_readOperand_49 : decode cX2_readOperand 49 = .ok (.iload_n 1, 1) := by decide +kernel
theorem dX2_readOperand_50 : decode cX2_readOperand 50 = .ok (.bipush 6, 2) := by decide +kernel
theorem dX2_readOperand_52 : decode cX2_readOperand 52 = .ok (.if_icmp .ge 52, 3) := by decide +kernel
theorem dX2_readOperand_55 : decode cX2_readOperand 55 = .ok (.iload_n 2, 1) := by decide +kernel
theorem dX2_readOperand_56 : decode cX2_readOperand 56 = .ok (.bipush 33, 2) := by decide +kernel
theorem dX2_readOperand_58 : decode cX2_readOperand 58 = .ok (.if_icmp .eq 9, 3) := by decide +kernel
theorem dX2_readOperand_61 : decode cX2_readOperand 61 = .ok (.iload_n 2, 1) := by decide +kernel
theorem dX2_readOperand_62 : decode cX2_readOperand 62 = .ok (.bipush 45, 2) := by decide +kernel
theorem dX2_readOperand_64 : decode cX2_readOperand 64 = .ok (.if_icmp .ne 40, 3) := by decide +kernel
theorem dX2_readOperand_67 : decode cX2_readOperand 67 = .ok (.aload_n 0, 1) := by decide +kernel
theorem dX2_readOperand_68 : decode cX2_readOperand 68 = .ok (.dup, 1) := by decide +kernel
theorem dX2_readOperand_69 : decode cX2_readOperand 69 = .ok (.getfield 34, 3) := by decide +kernel
theorem dX2_readOperand_72 : decode cX2_readOperand 72 = .ok (.iconst 1, 1) := by decide +kernel
theorem dX2_readOperand_73 : decode cX2_readOperand 73 = .ok (.iadd, 1) := by decide +kernel
theorem dX2_readOperand_74 : decode cX2_readOperand 74 = .ok (.putfield 34, 3) := by decide +kernel
theorem dX2_readOperand_77 : decode cX2_readOperand 77 = .ok (.aload_n 0, 1) := by decide +kernel
theorem dX2_readOperand_78 : decode cX2_readOperand 78 = .ok (.iload_n 1, 1) := by decide +kernel
theorem dX2_readOperand_79 : decode cX2_readOperand 79 = .ok (.iconst 1, 1) := by decide +kernel
theorem dX2_readOperand_80 : decode cX2_readOperand 80 = .ok (.iadd, 1) := by decide +kernel
theorem dX2_readOperand_81 : decode cX2_readOperand 81 = .ok (.invokevirtual 69, 3) := by decide +kernel
theorem dX2_readOperand_84 : decode cX2_readOperand 84 = .ok (.aload_n 0, 1) := by decide +kernel
theorem dX2_readOperand_85 : decode cX2_readOperand 85 = .ok (.iload_n 2, 1) := by decide +kernel
theorem dX2_readOperand_86 : decode cX2_readOperand 86 = .ok (.bipush 45, 2) := by decide +kernel
theorem dX2_readOperand_88 : decode cX2_readOperand 88 = .ok (.if_icmp .ne 8, 3) := by decide +kernel
theorem dX2_readOperand_91 : decode cX2_readOperand 91 = .ok (.bipush (-126), 2) := by decide +kernel
theorem dX2_readOperand_93 : decode cX2_readOperand 93 = .ok (.goto 5, 3) := by decide +kernel
theorem dX2_readOperand_96 : decode cX2_readOperand 96 = .ok (.iload_n 2, 1) := by decide +kernel
theorem dX2_readOperand_97 : decode cX2_readOperand 97 = .ok (.ineg, 1) := by decide +kernel
theorem dX2_readOperand_98 : decode cX2_readOperand 98 = .ok (.invokevirtual 77, 3) := by decide +kernel
theorem dX2_readOperand_101 : decode cX2_readOperand 101 = .ok (.goto 44, 3) := by decide +kernel
theorem dX2_readOperand_104 : decode cX2_readOperand 104 = .ok (.iload_n 1, 1) := by decide +kernel
theorem dX2_readOperand_105 : decode cX2_readOperand 105 = .ok (.bipush 6, 2) := by decide +kernel
theorem dX2_readOperand_107 : decode cX2_readOperand 107 = .ok (.if_icmp .ge 34, 3) := by decide +kernel
theorem dX2_readOperand_110 : decode cX2_readOperand 110 = .ok (.iload_n 2, 1) := by decide +kernel
theorem dX2_readOperand_111 : decode cX2_readOperand 111 = .ok (.bipush 40, 2) := by decide +kernel
theorem dX2_readOperand_113 : decode cX2_readOperand 113 = .ok (.if_icmp .ne 28, 3) := by decide +kernel
theorem dX2_readOperand_116 : decode cX2_readOperand 116 = .ok (.aload_n 0, 1) := by decide +kernel
theorem dX2_readOperand_117 : decode cX2_readOperand 117 = .ok (.dup, 1) := by decide +kernel
theorem dX2_readOperand_118 : decode cX2_readOperand 118 = .ok (.getfield 34, 3) := by decide +kernel
theorem dX2_readOperand_121 : decode cX2_readOperand 121 = .ok (.iconst 1, 1) := by decide +kernel
theorem dX2_readOperand_122 : decode cX2_readOperand 122 = .ok (.iadd, 1) := by decide +kernel
theorem dX2_readOperand_123 : decode cX2_readOperand 123 = .ok (.putfield 34, 3) := by decide +kernel
theorem dX2_readOperand_126 : decode cX2_readOperand 126 = .ok (.aload_n 0, 1) := by decide +kernel
theorem dX2_readOperand_127 : decode cX2_readOperand 127 = .ok (.iconst 0, 1) := by decide +kernel
theorem dX2_readOperand_128 : decode cX2_readOperand 128 = .ok (.iload_n 1, 1) := by decide +kernel
theorem dX2_readOperand_129 : decode cX2_readOperand 129 = .ok (.iconst 1, 1) := by decide +kernel
theorem dX2_readOperand_130 : decode cX2_readOperand 130 = .ok (.iadd, 1) := by decide +kernel
theorem dX2_readOperand_131 : decode cX2_readOperand 131 = .ok (.invokevirtual 65, 3) := by decide +kernel
theorem dX2_readOperand_134 : decode cX2_readOperand 134 = .ok (.aload_n 0, 1) := by decide +kernel
theorem dX2_readOperand_135 : decode cX2_readOperand 135 = .ok (.invokevirtual 90, 3) := by decide +kernel
theorem dX2_readOperand_138 : decode cX2_readOperand 138 = .ok (.goto 7, 3) := by decide +kernel
theorem dX2_readOperand_141 : decode cX2_readOperand 141 = .ok (.aload_n 0, 1) := by decide +kernel
theorem dX2_readOperand_142 : decode cX2_readOperand 142 = .ok (.invokevirtual 62, 3) := by decide +kernel
theorem dX2_readOperand_145 : decode cX2_readOperand 145 = .ok (.return_, 1) := by decide +kernel
theorem dX2_readClosing_0 : decode cX2_readClosing 0 = .ok (.aload_n 0, 1) := by decide +kernel
theorem dX2_readClosing_1 : decode cX2_readClosing 1 = .ok (.invokevirtual 55, 3) := by decide +kernel
theorem dX2_readClosing_4 : decode cX2_readClosing 4 = .ok (.bipush 41, 2) := by decide +kernel
theorem dX2_readClosing_6 : decode cX2_readClosing 6 = .ok (.if_icmp .ne 16, 3) := by decide +kernel
theorem dX2_readClosing_9 : decode cX2_readClosing 9 = .ok (.aload_n 0, 1) := by decide +kernel
theorem dX2_readClosing_10 : decode cX2_readClosing 10 = .ok (.dup, 1) := by decide +kernel
theorem dX2_readClosing_11 : decode cX2_readClosing 11 = .ok (.getfield 34, 3) := by decide +kernel
theorem dX2_readClosing_14 : decode cX2_readClosing 14 = .ok (.iconst 1, 1) := by decide +kernel
theorem dX2_readClosing_15 : decode cX2_readClosing 15 = .ok (.iadd, 1) := by decide +kernel
theorem dX2_readClosing_16 : decode cX2_readClosing 16 = .ok (.putfield 34, 3) := by decide +kernel
theorem dX2_readClosing_19 : decode cX2_readClosing 19 = .ok (.goto 7, 3) := by decide +kernel
theorem dX2_readClosing_22 : decode cX2_readClosing 22 = .ok (.aload_n 0, 1) := by decide +kernel
theorem dX2_readClosing_23 : decode cX2_readClosing 23 = .ok (.invokevirtual 62, 3) := by decide +kernel
theorem dX2_readClosing_26 : decode cX2_readClosing 26 = .ok (.return_, 1) := by decide +kernel
theorem dX2_readNumber_0 : decode cX2_readNumber 0 = .ok (.iconst 0, 1) := by decide +kernel
theorem dX2_readNumber_1 : decode cX2_readNumber 1 = .ok (.istore_n 1, 1) := by decide +kernel
theorem dX2_readNumber_2 : decode cX2_readNumber 2 = .ok (.iconst 0, 1) := by decide +kernel
theorem dX2_readNumber_3 : decode cX2_readNumber 3 = .ok (.istore_n 2, 1) := by decide +kernel
theorem dX2_readNumber_4 : decode cX2_readNumber 4 = .ok (.iload_n 2, 1) := by decide +kernel
theorem dX2_readNumber_5 : decode cX2_readNumber 5 = .ok (.iconst 4, 1) := by decide +kernel
theorem dX2_readNumber_6 : decode cX2_readNumber 6 = .ok (.if_icmp .ge 42, 3) := by decide +kernel
theorem dX2_readNumber_9 : decode cX2_readNumber 9 = .ok (.aload_n 0, 1) := by decide +kernel
theorem dX2_readNumber_10 : decode cX2_readNumber 10 = .ok (.invokevirtual 55, 3) := by decide +kernel
theorem dX2_readNumber_13 : decode cX2_readNumber 13 = .ok (.invokestatic 80, 3) := by decide +kernel
theorem dX2_readNumber_16 : decode cX2_readNumber 16 = .ok (.ifCond .eq 32, 3) := by decide +kernel
theorem dX2_readNumber_19 : decode cX2_readNumber 19 = .ok (.iload_n 1, 1) := by decide +kernel
theorem dX2_readNumber_20 : decode cX2_readNumber 20 = .ok (.bipush 10, 2) := by decide +kernel
theorem dX2_readNumber_22 : decode cX2_readNumber 22 = .ok (.imul, 1) := by decide +kernel
theorem dX2_readNumber_23 : decode cX2_readNumber 23 = .ok (.aload_n 0, 1) := by decide +kernel
theorem dX2_readNumber_24 : decode cX2_readNumber 24 = .ok (.invokevirtual 55, 3) := by decide +kernel
theorem dX2_readNumber_27 : decode cX2_readNumber 27 = .ok (.iadd, 1) := by decide +kernel
theorem dX2_readNumber_28 : decode cX2_readNumber 28 = .ok (.bipush 48, 2) := by decide +kernel
theorem dX2_readNumber_30 : decode cX2_readNumber 30 = .ok (.isub, 1) := by decide +kernel
theorem dX2_readNumber_31 : decode cX2_readNumber 31 = .ok (.istore_n 1, 1) := by decide +kernel
theorem dX2_readNumber_32 : decode cX2_readNumber 32 = .ok (.aload_n 0, 1) := by decide +kernel
theorem dX2_readNumber_33 : decode cX2_readNumber 33 = .ok (.dup, 1) := by decide +kernel
theorem dX2_readNumber_34 : decode cX2_readNumber 34 = .ok (.getfield 34, 3) := by decide +kernel
theorem dX2_readNumber_37 : decode cX2_readNumber 37 = .ok (.iconst 1, 1) := by decide +kernel
theorem dX2_readNumber_38 : decode cX2_readNumber 38 = .ok (.iadd, 1) := by decide +kernel
theorem dX2_readNumber_39 : decode cX2_readNumber 39 = .ok (.putfield 34, 3) := by decide +kernel
theorem dX2_readNumber_42 : decode cX2_readNumber 42 = .ok (.iinc 2 1, 3) := by decide +kernel
theorem dX2_readNumber_45 : decode cX2_readNumber 45 = .ok (.goto (-41), 3) := by decide +kernel
theorem dX2_readNumber_48 : decode cX2_readNumber 48 = .ok (.aload_n 0, 1) := by decide +kernel
theorem dX2_readNumber_49 : decode cX2_readNumber 49 = .ok (.iload_n 1, 1) := by decide +kernel
theorem dX2_readNumber_50 : decode cX2_readNumber 50 = .ok (.invokevirtual 77, 3) := by decide +kernel
theorem dX2_readNumber_53 : decode cX2_readNumber 53 = .ok (.return_, 1) := by decide +kernel
theorem dX2_refuse_0 : decode cX2_refuse 0 = .ok (.aload_n 0, 1) := by decide +kernel
theorem dX2_refuse_1 : decode cX2_refuse 1 = .ok (.getfield 37, 3) := by decide +kernel
theorem dX2_refuse_4 : decode cX2_refuse 4 = .ok (.iconst (-1), 1) := by decide +kernel
theorem dX2_refuse_5 : decode cX2_refuse 5 = .ok (.if_icmp .ne 11, 3) := by decide +kernel
theorem dX2_refuse_8 : decode cX2_refuse 8 = .ok (.aload_n 0, 1) := by decide +kernel
theorem dX2_refuse_9 : decode cX2_refuse 9 = .ok (.aload_n 0, 1) := by decide +kernel
theorem dX2_refuse_10 : decode cX2_refuse 10 = .ok (.getfield 34, 3) := by decide +kernel
theorem dX2_refuse_13 : decode cX2_refuse 13 = .ok (.putfield 37, 3) := by decide +kernel
theorem dX2_refuse_16 : decode cX2_refuse 16 = .ok (.return_, 1) := by decide +kernel
theorem dX2_nextByte_0 : decode cX2_nextByte 0 = .ok (.aload_n 0, 1) := by decide +kernel
theorem dX2_nextByte_1 : decode cX2_nextByte 1 = .ok (.getfield 34, 3) := by decide +kernel
theorem dX2_nextByte_4 : decode cX2_nextByte 4 = .ok (.ifCond .lt 26, 3) := by decide +kernel
theorem dX2_nextByte_7 : decode cX2_nextByte 7 = .ok (.aload_n 0, 1) := by decide +kernel
theorem dX2_nextByte_8 : decode cX2_nextByte 8 = .ok (.getfield 34, 3) := by decide +kernel
theorem dX2_nextByte_11 : decode cX2_nextByte 11 = .ok (.aload_n 0, 1) := by decide +kernel
theorem dX2_nextByte_12 : decode cX2_nextByte 12 = .ok (.getfield 27, 3) := by decide +kernel
theorem dX2_nextByte_15 : decode cX2_nextByte 15 = .ok (.if_icmp .ge 15, 3) := by decide +kernel
theorem dX2_nextByte_18 : decode cX2_nextByte 18 = .ok (.aload_n 0, 1) := by decide +kernel
theorem dX2_nextByte_19 : decode cX2_nextByte 19 = .ok (.getfield 11, 3) := by decide +kernel
theorem dX2_nextByte_22 : decode cX2_nextByte 22 = .ok (.aload_n 0, 1) := by decide +kernel
theorem dX2_nextByte_23 : decode cX2_nextByte 23 = .ok (.getfield 34, 3) := by decide +kernel
theorem dX2_nextByte_26 : decode cX2_nextByte 26 = .ok (.iaload, 1) := by decide +kernel
theorem dX2_nextByte_27 : decode cX2_nextByte 27 = .ok (.goto 4, 3) := by decide +kernel
theorem dX2_nextByte_30 : decode cX2_nextByte 30 = .ok (.iconst (-1), 1) := by decide +kernel
theorem dX2_nextByte_31 : decode cX2_nextByte 31 = .ok (.ireturn, 1) := by decide +kernel
theorem dX2_draftSign_0 : decode cX2_draftSign 0 = .ok (.aload_n 0, 1) := by decide +kernel
theorem dX2_draftSign_1 : decode cX2_draftSign 1 = .ok (.aload_n 0, 1) := by decide +kernel
theorem dX2_draftSign_2 : decode cX2_draftSign 2 = .ok (.invokevirtual 55, 3) := by decide +kernel
theorem dX2_draftSign_5 : decode cX2_draftSign 5 = .ok (.ineg, 1) := by decide +kernel
theorem dX2_draftSign_6 : decode cX2_draftSign 6 = .ok (.invokevirtual 77, 3) := by decide +kernel
theorem dX2_draftSign_9 : decode cX2_draftSign 9 = .ok (.aload_n 0, 1) := by decide +kernel
theorem dX2_draftSign_10 : decode cX2_draftSign 10 = .ok (.dup, 1) := by decide +kernel
theorem dX2_draftSign_11 : decode cX2_draftSign 11 = .ok (.getfield 34, 3) := by decide +kernel
theorem dX2_draftSign_14 : decode cX2_draftSign 14 = .ok (.iconst 1, 1) := by decide +kernel
theorem dX2_draftSign_15 : decode cX2_draftSign 15 = .ok (.iadd, 1) := by decide +kernel
theorem dX2_draftSign_16 : decode cX2_draftSign 16 = .ok (.putfield 34, 3) := by decide +kernel
theorem dX2_draftSign_19 : decode cX2_draftSign 19 = .ok (.return_, 1) := by decide +kernel
theorem dX2_draftCode_0 : decode cX2_draftCode 0 = .ok (.aload_n 0, 1) := by decide +kernel
theorem dX2_draftCode_1 : decode cX2_draftCode 1 = .ok (.getfield 31, 3) := by decide +kernel
theorem dX2_draftCode_4 : decode cX2_draftCode 4 = .ok (.bipush 120, 2) := by decide +kernel
theorem dX2_draftCode_6 : decode cX2_draftCode 6 = .ok (.if_icmp .ge 23, 3) := by decide +kernel
theorem dX2_draftCode_9 : decode cX2_draftCode 9 = .ok (.aload_n 0, 1) := by decide +kernel
theorem dX2_draftCode_10 : decode cX2_draftCode 10 = .ok (.getfield 15, 3) := by decide +kernel
theorem dX2_draftCode_13 : decode cX2_draftCode 13 = .ok (.aload_n 0, 1) := by decide +kernel
theorem dX2_draftCode_14 : decode cX2_draftCode 14 = .ok (.getfield 31, 3) := by decide +kernel
theorem dX2_draftCode_17 : decode cX2_draftCode 17 = .ok (.iload_n 1, 1) := by decide +kernel
theorem dX2_draftCode_18 : decode cX2_draftCode 18 = .ok (.iastore, 1) := by decide +kernel
theorem dX2_draftCode_19 : decode cX2_draftCode 19 = .ok (.aload_n 0, 1) := by decide +kernel
theorem dX2_draftCode_20 : decode cX2_draftCode 20 = .ok (.dup, 1) := by decide +kernel
theorem dX2_draftCode_21 : decode cX2_draftCode 21 = .ok (.getfield 31, 3) := by decide +kernel
theorem dX2_draftCode_24 : decode cX2_draftCode 24 = .ok (.iconst 1, 1) := by decide +kernel
theorem dX2_draftCode_25 : decode cX2_draftCode 25 = .ok (.iadd, 1) := by decide +kernel
theorem dX2_draftCode_26 : decode cX2_draftCode 26 = .ok (.putfield 31, 3) := by decide +kernel
theorem dX2_draftCode_29 : decode cX2_draftCode 29 = .ok (.return_, 1) := by decide +kernel
theorem dX2_isDigit_0 : decode cX2_isDigit 0 = .ok (.iload_n 0, 1) := by decide +kernel
theorem dX2_isDigit_1 : decode cX2_isDigit 1 = .ok (.bipush 48, 2) := by decide +kernel
theorem dX2_isDigit_3 : decode cX2_isDigit 3 = .ok (.if_icmp .lt 13, 3) := by decide +kernel
theorem dX2_isDigit_6 : decode cX2_isDigit 6 = .ok (.iload_n 0, 1) := by decide +kernel
theorem dX2_isDigit_7 : decode cX2_isDigit 7 = .ok (.bipush 57, 2) := by decide +kernel
theorem dX2_isDigit_9 : decode cX2_isDigit 9 = .ok (.if_icmp .gt 7, 3) := by decide +kernel
theorem dX2_isDigit_12 : decode cX2_isDigit 12 = .ok (.iconst 1, 1) := by decide +kernel
theorem dX2_isDigit_13 : decode cX2_isDigit 13 = .ok (.goto 4, 3) := by decide +kernel
theorem dX2_isDigit_16 : decode cX2_isDigit 16 = .ok (.iconst 0, 1) := by decide +kernel
theorem dX2_isDigit_17 : decode cX2_isDigit 17 = .ok (.ireturn, 1) := by decide +kernel
theorem dX2_letterOf_0 : decode cX2_letterOf 0 = .ok (.iload_n 0, 1) := by decide +kernel
theorem dX2_letterOf_1 : decode cX2_letterOf 1 = .ok (.ifCond .ge 7, 3) := by decide +kernel
theorem dX2_letterOf_4 : decode cX2_letterOf 4 = .ok (.iconst (-1), 1) := by decide +kernel
theorem dX2_letterOf_5 : decode cX2_letterOf 5 = .ok (.goto 10, 3) := by decide +kernel
theorem dX2_letterOf_8 : decode cX2_letterOf 8 = .ok (.ldc 93, 2) := by decide +kernel
theorem dX2_letterOf_10 : decode cX2_letterOf 10 = .ok (.iload_n 0, 1) := by decide +kernel
theorem dX2_letterOf_11 : decode cX2_letterOf 11 = .ok (.i2c, 1) := by decide +kernel
theorem dX2_letterOf_12 : decode cX2_letterOf 12 = .ok (.invokevirtual 95, 3) := by decide +kernel
theorem dX2_letterOf_15 : decode cX2_letterOf 15 = .ok (.ireturn, 1) := by decide +kernel
theorem dX2_rankOf_0 : decode cX2_rankOf 0 = .ok (.iload_n 0, 1) := by decide +kernel
theorem dX2_rankOf_1 : decode cX2_rankOf 1 = .ok (.lookupswitch 101 #[(37, 99), (38, 93), (42, 99), (43, 97), (45, 97), (47, 99), (60, 95), (61, 95), (62, 95), (124, 91)], 91) := by decide +kernel
theorem dX2_rankOf_92 : decode cX2_rankOf 92 = .ok (.iconst 0, 1) := by decide +kernel
theorem dX2_rankOf_93 : decode cX2_rankOf 93 = .ok (.ireturn, 1) := by decide +kernel
theorem dX2_rankOf_94 : decode cX2_rankOf 94 = .ok (.iconst 1, 1) := by decide +kernel
theorem dX2_rankOf_95 : decode cX2_rankOf 95 = .ok (.ireturn, 1) := by decide +kernel
theorem dX2_rankOf_96 : decode cX2_rankOf 96 = .ok (.iconst 2, 1) := by decide +kernel
theorem dX2_rankOf_97 : decode cX2_rankOf 97 = .ok (.ireturn, 1) := by decide +kernel
theorem dX2_rankOf_98 : decode cX2_rankOf 98 = .ok (.iconst 3, 1) := by decide +kernel
theorem dX2_rankOf_99 : decode cX2_rankOf 99 = .ok (.ireturn, 1) := by decide +kernel
theorem dX2_rankOf_100 : decode cX2_rankOf 100 = .ok (.iconst 4, 1) := by decide +kernel
theorem dX2_rankOf_101 : decode cX2_rankOf 101 = .ok (.ireturn, 1) := by decide +kernel
theorem dX2_rankOf_102 : decode cX2_rankOf 102 = .ok (.iconst (-1), 1) := by decide +kernel
theorem dX2_rankOf_103 : decode cX2_rankOf 103 = .ok (.ireturn, 1) := by decide +kernel
theorem dX2_tell_0 : decode cX2_tell 0 = .ok (.aload_n 0, 1) := by decide +kernel
theorem dX2_tell_1 : decode cX2_tell 1 = .ok (.getfield 21, 3) := by decide +kernel
theorem dX2_tell_4 : decode cX2_tell 4 = .ok (.iconst 0, 1) := by decide +kernel
theorem dX2_tell_5 : decode cX2_tell 5 = .ok (.iload_n 1, 1) := by decide +kernel
theorem dX2_tell_6 : decode cX2_tell 6 = .ok (.iastore, 1) := by decide +kernel
theorem dX2_tell_7 : decode cX2_tell 7 = .ok (.aload_n 0, 1) := by decide +kernel
theorem dX2_tell_8 : decode cX2_tell 8 = .ok (.getfield 21, 3) := by decide +kernel
theorem dX2_tell_11 : decode cX2_tell 11 = .ok (.iconst 1, 1) := by decide +kernel
theorem dX2_tell_12 : decode cX2_tell 12 = .ok (.iload_n 2, 1) := by decide +kernel
theorem dX2_tell_13 : decode cX2_tell 13 = .ok (.iastore, 1) := by decide +kernel
theorem dX2_tell_14 : decode cX2_tell 14 = .ok (.aload_n 0, 1) := by decide +kernel
theorem dX2_tell_15 : decode cX2_tell 15 = .ok (.getfield 21, 3) := by decide +kernel
theorem dX2_tell_18 : decode cX2_tell 18 = .ok (.iconst 2, 1) := by decide +kernel
theorem dX2_tell_19 : decode cX2_tell 19 = .ok (.iload_n 3, 1) := by decide +kernel
theorem dX2_tell_20 : decode cX2_tell 20 = .ok (.iastore, 1) := by decide +kernel
theorem dX2_tell_21 : decode cX2_tell 21 = .ok (.aload_n 0, 1) := by decide +kernel
theorem dX2_tell_22 : decode cX2_tell 22 = .ok (.getfield 21, 3) := by decide +kernel
theorem dX2_tell_25 : decode cX2_tell 25 = .ok (.iconst 3, 1) := by decide +kernel
theorem dX2_tell_26 : decode cX2_tell 26 = .ok (.iload 4, 2) := by decide +kernel
theorem dX2_tell_28 : decode cX2_tell 28 = .ok (.iastore, 1) := by decide +kernel
theorem dX2_tell_29 : decode cX2_tell 29 = .ok (.aload_n 0, 1) := by decide +kernel
theorem dX2_tell_30 : decode cX2_tell 30 = .ok (.getfield 21, 3) := by decide +kernel
theorem dX2_tell_33 : decode cX2_tell 33 = .ok (.iconst 4, 1) := by decide +kernel
theorem dX2_tell_34 : decode cX2_tell 34 = .ok (.iload 5, 2) := by decide +kernel
theorem dX2_tell_36 : decode cX2_tell 36 = .ok (.iastore, 1) := by decide +kernel
theorem dX2_tell_37 : decode cX2_tell 37 = .ok (.aload_n 0, 1) := by decide +kernel
theorem dX2_tell_38 : decode cX2_tell 38 = .ok (.getfield 21, 3) := by decide +kernel
theorem dX2_tell_41 : decode cX2_tell 41 = .ok (.iconst 5, 1) := by decide +kernel
theorem dX2_tell_42 : decode cX2_tell 42 = .ok (.iload 6, 2) := by decide +kernel
theorem dX2_tell_44 : decode cX2_tell 44 = .ok (.iastore, 1) := by decide +kernel
theorem dX2_tell_45 : decode cX2_tell 45 = .ok (.return_, 1) := by decide +kernel
theorem dX2_reckon_0 : decode cX2_reckon 0 = .ok (.aload_n 0, 1) := by decide +kernel
theorem dX2_reckon_1 : decode cX2_reckon 1 = .ok (.getfield 49, 3) := by decide +kernel
theorem dX2_reckon_4 : decode cX2_reckon 4 = .ok (.ifCond .ne 30, 3) := by decide +kernel
theorem dX2_reckon_7 : decode cX2_reckon 7 = .ok (.aload_n 0, 1) := by decide +kernel
theorem dX2_reckon_8 : decode cX2_reckon 8 = .ok (.getfield 21, 3) := by decide +kernel
theorem dX2_reckon_11 : decode cX2_reckon 11 = .ok (.iconst 0, 1) := by decide +kernel
theorem dX2_reckon_12 : decode cX2_reckon 12 = .ok (.iaload, 1) := by decide +kernel
theorem dX2_reckon_13 : decode cX2_reckon 13 = .ok (.bipush 80, 2) := by decide +kernel
theorem dX2_reckon_15 : decode cX2_reckon 15 = .ok (.if_icmp .lt 13, 3) := by decide +kernel
theorem dX2_reckon_18 : decode cX2_reckon 18 = .ok (.aload_n 0, 1) := by decide +kernel
theorem dX2_reckon_19 : decode cX2_reckon 19 = .ok (.getfield 21, 3) := by decide +kernel
theorem dX2_reckon_22 : decode cX2_reckon 22 = .ok (.iconst 4, 1) := by decide +kernel
theorem dX2_reckon_23 : decode cX2_reckon 23 = .ok (.iaload, 1) := by decide +kernel
theorem dX2_reckon_24 : decode cX2_reckon 24 = .ok (.iconst 1, 1) := by decide +kernel
theorem dX2_reckon_25 : decode cX2_reckon 25 = .ok (.if_icmp .ne 7, 3) := by decide +kernel
theorem dX2_reckon_28 : decode cX2_reckon 28 = .ok (.iconst 1, 1) := by decide +kernel
theorem dX2_reckon_29 : decode cX2_reckon 29 = .ok (.goto 4, 3) := by decide +kernel
theorem dX2_reckon_32 : decode cX2_reckon 32 = .ok (.iconst 0, 1) := by decide +kernel
theorem dX2_reckon_33 : decode cX2_reckon 33 = .ok (.ireturn, 1) := by decide +kernel
theorem dX2_reckon_34 : decode cX2_reckon 34 = .ok (.aload_n 0, 1) := by decide +kernel
theorem dX2_reckon_35 : decode cX2_reckon 35 = .ok (.iconst 0, 1) := by decide +kernel
theorem dX2_reckon_36 : decode cX2_reckon 36 = .ok (.putfield 100, 3) := by decide +kernel
theorem dX2_reckon_39 : decode cX2_reckon 39 = .ok (.iconst 0, 1) := by decide +kernel
theorem dX2_reckon_40 : decode cX2_reckon 40 = .ok (.istore_n 1, 1) := by decide +kernel
theorem dX2_reckon_41 : decode cX2_reckon 41 = .ok (.iconst 0, 1) := by decide +kernel
theorem dX2_reckon_42 : decode cX2_reckon 42 = .ok (.istore_n 2, 1) := by decide +kernel
theorem dX2_reckon_43 : decode cX2_reckon 43 = .ok (.iload_n 2, 1) := by decide +kernel
theorem dX2_reckon_44 : decode cX2_reckon 44 = .ok (.aload_n 0, 1) := by decide +kernel
theorem dX2_reckon_45 : decode cX2_reckon 45 = .ok (.getfield 49, 3) := by decide +kernel
theorem dX2_reckon_48 : decode cX2_reckon 48 = .ok (.if_icmp .ge 100, 3) := by decide +kernel
theorem dX2_reckon_51 : decode cX2_reckon 51 = .ok (.aload_n 0, 1) := by decide +kernel
theorem dX2_reckon_52 : decode cX2_reckon 52 = .ok (.getfield 18, 3) := by decide +kernel
theorem dX2_reckon_55 : decode cX2_reckon 55 = .ok (.iload_n 2, 1) := by decide +kernel
theorem dX2_reckon_56 : decode cX2_reckon 56 = .ok (.iaload, 1) := by decide +kernel
theorem dX2_reckon_57 : decode cX2_reckon 57 = .ok (.istore_n 3, 1) := by decide +kernel
theorem dX2_reckon_58 : decode cX2_reckon 58 = .ok (.iload_n 3, 1) := by decide +kernel
theorem dX2_reckon_59 : decode cX2_reckon 59 = .ok (.bipush (-59), 2) := by decide +kernel
theorem dX2_reckon_61 : decode cX2_reckon 61 = .ok (.if_icmp .ne 17, 3) := by decide +kernel
theorem dX2_reckon_64 : decode cX2_reckon 64 = .ok (.iload_n 1, 1) := by decide +kernel
theorem dX2_reckon_65 : decode cX2_reckon 65 = .ok (.ifCond .ne 8, 3) := by decide +kernel
theorem dX2_reckon_68 : decode cX2_reckon 68 = .ok (.aload_n 0, 1) := by decide +kernel
theorem dX2_reckon_69 : decode cX2_reckon 69 = .ok (.invokevirtual 103, 3) := by decide +kernel
theorem dX2_reckon_72 : decode cX2_reckon 72 = .ok (.ireturn, 1) := by decide +kernel
theorem dX2_reckon_73 : decode cX2_reckon 73 = .ok (.iconst 0, 1) := by decide +kernel
theorem dX2_reckon_74 : decode cX2_reckon 74 = .ok (.istore_n 1, 1) := by decide +kernel
theorem dX2_reckon_75 : decode cX2_reckon 75 = .ok (.goto 67, 3) := by decide +kernel
theorem dX2_reckon_78 : decode cX2_reckon 78 = .ok (.iload_n 1, 1) := by decide +kernel
theorem dX2_reckon_79 : decode cX2_reckon 79 = .ok (.ifCond .eq 6, 3) := by decide +kernel
theorem dX2_reckon_82 : decode cX2_reckon 82 = .ok (.goto 60, 3) := by decide +kernel
theorem dX2_reckon_85 : decode cX2_reckon 85 = .ok (.iload_n 3, 1) := by decide +kernel
theorem dX2_reckon_86 : decode cX2_reckon 86 = .ok (.bipush (-63), 2) := by decide +kernel
theorem dX2_reckon_88 : decode cX2_reckon 88 = .ok (.if_icmp .ne 19, 3) := by decide +kernel
theorem dX2_reckon_91 : decode cX2_reckon 91 = .ok (.aload_n 0, 1) := by decide +kernel
theorem dX2_reckon_92 : decode cX2_reckon 92 = .ok (.invokevirtual 103, 3) := by decide +kernel
theorem dX2_reckon_95 : decode cX2_reckon 95 = .ok (.ifCond .ne 7, 3) := by decide +kernel
theorem dX2_reckon_98 : decode cX2_reckon 98 = .ok (.iconst 1, 1) := by decide +kernel
theorem dX2_reckon_99 : decode cX2_reckon 99 = .ok (.goto 4, 3) := by decide +kernel
theorem dX2_reckon_102 : decode cX2_reckon 102 = .ok (.iconst 0, 1) := by decide +kernel
theorem dX2_reckon_103 : decode cX2_reckon 103 = .ok (.istore_n 1, 1) := by decide +kernel
theorem dX2_reckon_104 : decode cX2_reckon 104 = .ok (.goto 38, 3) := by decide +kernel
theorem dX2_reckon_107 : decode cX2_reckon 107 = .ok (.iload_n 3, 1) := by decide +kernel
theorem dX2_reckon_108 : decode cX2_reckon 108 = .ok (.bipush (-6), 2) := by decide +kernel
theorem dX2_reckon_110 : decode cX2_reckon 110 = .ok (.if_icmp .lt 26, 3) := by decide +kernel
theorem dX2_reckon_113 : decode cX2_reckon 113 = .ok (.aload_n 0, 1) := by decide +kernel
theorem dX2_reckon_114 : decode cX2_reckon 114 = .ok (.iload_n 3, 1) := by decide +kernel
theorem dX2_reckon_115 : decode cX2_reckon 115 = .ok (.ifCond .lt 7, 3) := by decide +kernel
theorem dX2_reckon_118 : decode cX2_reckon 118 = .ok (.iload_n 3, 1) := by decide +kernel
theorem dX2_reckon_119 : decode cX2_reckon 119 = .ok (.goto 11, 3) := by decide +kernel
theorem dX2_reckon_122 : decode cX2_reckon 122 = .ok (.aload_n 0, 1) := by decide +kernel
theorem dX2_reckon_123 : decode cX2_reckon 123 = .ok (.getfield 21, 3) := by decide +kernel
theorem dX2_reckon_126 : decode cX2_reckon 126 = .ok (.iconst (-1), 1) := by decide +kernel
theorem dX2_reckon_127 : decode cX2_reckon 127 = .ok (.iload_n 3, 1) := by decide +kernel
theorem dX2_reckon_128 : decode cX2_reckon 128 = .ok (.isub, 1) := by decide +kernel
theorem dX2_reckon_129 : decode cX2_reckon 129 = .ok (.iaload, 1) := by decide +kernel
theorem dX2_reckon_130 : decode cX2_reckon 130 = .ok (.invokevirtual 106, 3) := by decide +kernel
theorem dX2_reckon_133 : decode cX2_reckon 133 = .ok (.goto 9, 3) := by decide +kernel
theorem dX2_reckon_136 : decode cX2_reckon 136 = .ok (.aload_n 0, 1) := by decide +kernel
theorem dX2_reckon_137 : decode cX2_reckon 137 = .ok (.iload_n 3, 1) := by decide +kernel
theorem dX2_reckon_138 : decode cX2_reckon 138 = .ok (.ineg, 1) := by decide +kernel
theorem dX2_reckon_139 : decode cX2_reckon 139 = .ok (.invokevirtual 109, 3) := by decide +kernel
theorem dX2_reckon_142 : decode cX2_reckon 142 = .ok (.iinc 2 1, 3) := by decide +kernel
theorem dX2_reckon_145 : decode cX2_reckon 145 = .ok (.goto (-102), 3) := by decide +kernel
theorem dX2_reckon_148 : decode cX2_reckon 148 = .ok (.aload_n 0, 1) := by decide +kernel
theorem dX2_reckon_149 : decode cX2_reckon 149 = .ok (.invokevirtual 103, 3) := by decide +kernel
theorem dX2_reckon_152 : decode cX2_reckon 152 = .ok (.ireturn, 1) := by decide +kernel
theorem dX2_reckonSign_0 : decode cX2_reckonSign 0 = .ok (.aload_n 0, 1) := by decide +kernel
theorem dX2_reckonSign_1 : decode cX2_reckonSign 1 = .ok (.invokevirtual 103, 3) := by decide +kernel
theorem dX2_reckonSign_4 : decode cX2_reckonSign 4 = .ok (.istore_n 2, 1) := by decide +kernel
theorem dX2_reckonSign_5 : decode cX2_reckonSign 5 = .ok (.iload_n 1, 1) := by decide +kernel
theorem dX2_reckonSign_6 : decode cX2_reckonSign 6 = .ok (.bipush 33, 2) := by decide +kernel
theorem dX2_reckonSign_8 : decode cX2_reckonSign 8 = .ok (.if_icmp .ne 19, 3) := by decide +kernel
theorem dX2_reckonSign_11 : decode cX2_reckonSign 11 = .ok (.aload_n 0, 1) := by decide +kernel
theorem dX2_reckonSign_12 : decode cX2_reckonSign 12 = .ok (.iload_n 2, 1) := by decide +kernel
theorem dX2_reckonSign_13 : decode cX2_reckonSign 13 = .ok (.ifCond .ne 7, 3) := by decide +kernel
theorem dX2_reckonSign_16 : decode cX2_reckonSign 16 = .ok (.iconst 1, 1) := by decide +kernel
theorem dX2_reckonSign_17 : decode cX2_reckonSign 17 = .ok (.goto 4, 3) := by decide +kernel
theorem dX2_reckonSign_20 : decode cX2_reckonSign 20 = .ok (.iconst 0, 1) := by decide +kernel
theorem dX2_reckonSign_21 : decode cX2_reckonSign 21 = .ok (.invokevirtual 106, 3) := by decide +kernel
theorem dX2_reckonSign_24 : decode cX2_reckonSign 24 = .ok (.goto 31, 3) := by decide +kernel
theorem dX2_reckonSign_27 : decode cX2_reckonSign 27 = .ok (.iload_n 1, 1) := by decide +kernel
theorem dX2_reckonSign_28 : decode cX2_reckonSign 28 = .ok (.bipush 126, 2) := by decide +kernel
theorem dX2_reckonSign_30 : decode cX2_reckonSign 30 = .ok (.if_icmp .ne 12, 3) := by decide +kernel
theorem dX2_reckonSign_33 : decode cX2_reckonSign 33 = .ok (.aload_n 0, 1) := by decide +kernel
theorem dX2_reckonSign_34 : decode cX2_reckonSign 34 = .ok (.iload_n 2, 1) := by decide +kernel
theorem dX2_reckonSign_35 : decode cX2_reckonSign 35 = .ok (.ineg, 1) := by decide +kernel
theorem dX2_reckonSign_36 : decode cX2_reckonSign 36 = .ok (.invokevirtual 106, 3) := by decide +kernel
theorem dX2_reckonSign_39 : decode cX2_reckonSign 39 = .ok (.goto 16, 3) := by decide +kernel
theorem dX2_reckonSign_42 : decode cX2_reckonSign 42 = .ok (.aload_n 0, 1) := by decide +kernel
theorem dX2_reckonSign_43 : decode cX2_reckonSign 43 = .ok (.iload_n 1, 1) := by decide +kernel
theorem dX2_reckonSign_44 : decode cX2_reckonSign 44 = .ok (.aload_n 0, 1) := by decide +kernel
theorem dX2_reckonSign_45 : decode cX2_reckonSign 45 = .ok (.invokevirtual 103, 3) := by decide +kernel
theorem dX2_reckonSign_48 : decode cX2_reckonSign 48 = .ok (.iload_n 2, 1) := by decide +kernel
theorem dX2_reckonSign_49 : decode cX2_reckonSign 49 = .ok (.invokestatic 112, 3) := by decide +kernel
theorem dX2_reckonSign_52 : decode cX2_reckonSign 52 = .ok (.invokevirtual 106, 3) := by decide +kernel
theorem dX2_reckonSign_55 : decode cX2_reckonSign 55 = .ok (.return_, 1) := by decide +kernel
theorem dX2_joined_0 : decode cX2_joined 0 = .ok (.iload_n 0, 1) := by decide +kernel
theorem dX2_joined_1 : decode cX2_joined 1 = .ok (.lookupswitch 188 #[(37, 115), (38, 141), (42, 99), (43, 91), (45, 95), (47, 103), (60, 155), (61, 166), (62, 177), (124, 127)], 91) := by decide +kernel
theorem dX2_joined_92 : decode cX2_joined 92 = .ok (.iload_n 1, 1) := by decide +kernel
theorem dX2_joined_93 : decode cX2_joined 93 = .ok (.iload_n 2, 1) := by decide +kernel
theorem dX2_joined_94 : decode cX2_joined 94 = .ok (.iadd, 1) := by decide +kernel
theorem dX2_joined_95 : decode cX2_joined 95 = .ok (.ireturn, 1) := by decide +kernel
theorem dX2_joined_96 : decode cX2_joined 96 = .ok (.iload_n 1, 1) := by decide +kernel
theorem dX2_joined_97 : decode cX2_joined 97 = .ok (.iload_n 2, 1) := by decide +kernel
theorem dX2_joined_98 : decode cX2_joined 98 = .ok (.isub, 1) := by decide +kernel
theorem dX2_joined_99 : decode cX2_joined 99 = .ok (.ireturn, 1) := by decide +kernel
theorem dX2_joined_100 : decode cX2_joined 100 = .ok (.iload_n 1, 1) := by decide +kernel
theorem dX2_joined_101 : decode cX2_joined 101 = .ok (.iload_n 2, 1) := by decide +kernel
theorem dX2_joined_102 : decode cX2_joined 102 = .ok (.imul, 1) := by decide +kernel
theorem dX2_joined_103 : decode cX2_joined 103 = .ok (.ireturn, 1) := by decide +kernel
theorem dX2_joined_104 : decode cX2_joined 104 = .ok (.iload_n 2, 1) := by decide +kernel
theorem dX2_joined_105 : decode cX2_joined 105 = .ok (.ifCond .ne 7, 3) := by decide +kernel
theorem dX2_joined_108 : decode cX2_joined 108 = .ok (.iconst 0, 1) := by decide +kernel
theorem dX2_joined_109 : decode cX2_joined 109 = .ok (.goto 6, 3) := by decide +kernel
theorem dX2_joined_112 : decode cX2_joined 112 = .ok (.iload_n 1, 1) := by decide +kernel
theorem dX2_joined_113 : decode cX2_joined 113 = .ok (.iload_n 2, 1) := by decide +kernel
theorem dX2_joined_114 : decode cX2_joined 114 = .ok (.idiv, 1) := by decide +kernel
theorem dX2_joined_115 : decode cX2_joined 115 = .ok (.ireturn, 1) := by decide +kernel
theorem dX2_joined_116 : decode cX2_joined 116 = .ok (.iload_n 2, 1) := by decide +kernel
theorem dX2_joined_117 : decode cX2_joined 117 = .ok (.ifCond .ne 7, 3) := by decide +kernel
theorem dX2_joined_120 : decode cX2_joined 120 = .ok (.iconst 0, 1) := by decide +kernel
theorem dX2_joined_121 : decode cX2_joined 121 = .ok (.goto 6, 3) := by decide +kernel
theorem dX2_joined_124 : decode cX2_joined 124 = .ok (.iload_n 1, 1) := by decide +kernel
theorem dX2_joined_125 : decode cX2_joined 125 = .ok (.iload_n 2, 1) := by decide +kernel
theorem dX2_joined_126 : decode cX2_joined 126 = .ok (.irem, 1) := by decide +kernel
theorem dX2_joined_127 : decode cX2_joined 127 = .ok (.ireturn, 1) := by decide +kernel
theorem dX2_joined_128 : decode cX2_joined 128 = .ok (.iload_n 1, 1) := by decide +kernel
theorem dX2_joined_129 : decode cX2_joined 129 = .ok (.ifCond .ne 7, 3) := by decide +kernel
theorem dX2_joined_132 : decode cX2_joined 132 = .ok (.iload_n 2, 1) := by decide +kernel
theorem dX2_joined_133 : decode cX2_joined 133 = .ok (.ifCond .eq 7, 3) := by decide +kernel
theorem dX2_joined_136 : decode cX2_joined 136 = .ok (.iconst 1, 1) := by decide +kernel
theorem dX2_joined_137 : decode cX2_joined 137 = .ok (.goto 4, 3) := by decide +kernel
theorem dX2_joined_140 : decode cX2_joined 140 = .ok (.iconst 0, 1) := by decide +kernel
theorem dX2_joined_141 : decode cX2_joined 141 = .ok (.ireturn, 1) := by decide +kernel
theorem dX2_joined_142 : decode cX2_joined 142 = .ok (.iload_n 1, 1) := by decide +kernel
theorem dX2_joined_143 : decode cX2_joined 143 = .ok (.ifCond .eq 11, 3) := by decide +kernel
theorem dX2_joined_146 : decode cX2_joined 146 = .ok (.iload_n 2, 1) := by decide +kernel
theorem dX2_joined_147 : decode cX2_joined 147 = .ok (.ifCond .eq 7, 3) := by decide +kernel
theorem dX2_joined_150 : decode cX2_joined 150 = .ok (.iconst 1, 1) := by decide +kernel
theorem dX2_joined_151 : decode cX2_joined 151 = .ok (.goto 4, 3) := by decide +kernel
theorem dX2_joined_154 : decode cX2_joined 154 = .ok (.iconst 0, 1) := by decide +kernel
theorem dX2_joined_155 : decode cX2_joined 155 = .ok (.ireturn, 1) := by decide +kernel
theorem dX2_joined_156 : decode cX2_joined 156 = .ok (.iload_n 1, 1) := by decide +kernel
theorem dX2_joined_157 : decode cX2_joined 157 = .ok (.iload_n 2, 1) := by decide +kernel
theorem dX2_joined_158 : decode cX2_joined 158 = .ok (.if_icmp .ge 7, 3) := by decide +kernel
theorem dX2_joined_161 : decode cX2_joined 161 = .ok (.iconst 1, 1) := by decide +kernel
theorem dX2_joined_162 : decode cX2_joined 162 = .ok (.goto 4, 3) := by decide +kernel
theorem dX2_joined_165 : decode cX2_joined 165 = .ok (.iconst 0, 1) := by decide +kernel
theorem dX2_joined_166 : decode cX2_joined 166 = .ok (.ireturn, 1) := by decide +kernel
theorem dX2_joined_167 : decode cX2_joined 167 = .ok (.iload_n 1, 1) := by decide +kernel
theorem dX2_joined_168 : decode cX2_joined 168 = .ok (.iload_n 2, 1) := by decide +kernel
theorem dX2_joined_169 : decode cX2_joined 169 = .ok (.if_icmp .ne 7, 3) := by decide +kernel
theorem dX2_joined_172 : decode cX2_joined 172 = .ok (.iconst 1, 1) := by decide +kernel
theorem dX2_joined_173 : decode cX2_joined 173 = .ok (.goto 4, 3) := by decide +kernel
theorem dX2_joined_176 : decode cX2_joined 176 = .ok (.iconst 0, 1) := by decide +kernel
theorem dX2_joined_177 : decode cX2_joined 177 = .ok (.ireturn, 1) := by decide +kernel
theorem dX2_joined_178 : decode cX2_joined 178 = .ok (.iload_n 1, 1) := by decide +kernel
theorem dX2_joined_179 : decode cX2_joined 179 = .ok (.iload_n 2, 1) := by decide +kernel
theorem dX2_joined_180 : decode cX2_joined 180 = .ok (.if_icmp .le 7, 3) := by decide +kernel
theorem dX2_joined_183 : decode cX2_joined 183 = .ok (.iconst 1, 1) := by decide +kernel
theorem dX2_joined_184 : decode cX2_joined 184 = .ok (.goto 4, 3) := by decide +kernel
theorem dX2_joined_187 : decode cX2_joined 187 = .ok (.iconst 0, 1) := by decide +kernel
theorem dX2_joined_188 : decode cX2_joined 188 = .ok (.ireturn, 1) := by decide +kernel
theorem dX2_joined_189 : decode cX2_joined 189 = .ok (.iconst 0, 1) := by decide +kernel
theorem dX2_joined_190 : decode cX2_joined 190 = .ok (.ireturn, 1) := by decide +kernel
theorem dX2_push_0 : decode cX2_push 0 = .ok (.aload_n 0, 1) := by decide +kernel
theorem dX2_push_1 : decode cX2_push 1 = .ok (.getfield 100, 3) := by decide +kernel
theorem dX2_push_4 : decode cX2_push 4 = .ok (.bipush 120, 2) := by decide +kernel
theorem dX2_push_6 : decode cX2_push 6 = .ok (.if_icmp .ge 23, 3) := by decide +kernel
theorem dX2_push_9 : decode cX2_push 9 = .ok (.aload_n 0, 1) := by decide +kernel
theorem dX2_push_10 : decode cX2_push 10 = .ok (.getfield 24, 3) := by decide +kernel
theorem dX2_push_13 : decode cX2_push 13 = .ok (.aload_n 0, 1) := by decide +kernel
theorem dX2_push_14 : decode cX2_push 14 = .ok (.getfield 100, 3) := by decide +kernel
theorem dX2_push_17 : decode cX2_push 17 = .ok (.iload_n 1, 1) := by decide +kernel
theorem dX2_push_18 : decode cX2_push 18 = .ok (.iastore, 1) := by decide +kernel
theorem dX2_push_19 : decode cX2_push 19 = .ok (.aload_n 0, 1) := by decide +kernel
theorem dX2_push_20 : decode cX2_push 20 = .ok (.dup, 1) := by decide +kernel
theorem dX2_push_21 : decode cX2_push 21 = .ok (.getfield 100, 3) := by decide +kernel
theorem dX2_push_24 : decode cX2_push 24 = .ok (.iconst 1, 1) := by decide +kernel
theorem dX2_push_25 : decode cX2_push 25 = .ok (.iadd, 1) := by decide +kernel
theorem dX2_push_26 : decode cX2_push 26 = .ok (.putfield 100, 3) := by decide +kernel
theorem dX2_push_29 : decode cX2_push 29 = .ok (.return_, 1) := by decide +kernel
theorem dX2_pop_0 : decode cX2_pop 0 = .ok (.aload_n 0, 1) := by decide +kernel
theorem dX2_pop_1 : decode cX2_pop 1 = .ok (.getfield 100, 3) := by decide +kernel
theorem dX2_pop_4 : decode cX2_pop 4 = .ok (.iconst 1, 1) := by decide +kernel
theorem dX2_pop_5 : decode cX2_pop 5 = .ok (.if_icmp .ge 5, 3) := by decide +kernel
theorem dX2_pop_8 : decode cX2_pop 8 = .ok (.iconst 0, 1) := by decide +kernel
theorem dX2_pop_9 : decode cX2_pop 9 = .ok (.ireturn, 1) := by decide +kernel
theorem dX2_pop_10 : decode cX2_pop 10 = .ok (.aload_n 0, 1) := by decide +kernel
theorem dX2_pop_11 : decode cX2_pop 11 = .ok (.dup, 1) := by decide +kernel
theorem dX2_pop_12 : decode cX2_pop 12 = .ok (.getfield 100, 3) := by decide +kernel
theorem dX2_pop_15 : decode cX2_pop 15 = .ok (.iconst 1, 1) := by decide +kernel
theorem dX2_pop_16 : decode cX2_pop 16 = .ok (.isub, 1) := by decide +kernel
theorem dX2_pop_17 : decode cX2_pop 17 = .ok (.putfield 100, 3) := by decide +kernel
theorem dX2_pop_20 : decode cX2_pop 20 = .ok (.aload_n 0, 1) := by decide +kernel
theorem dX2_pop_21 : decode cX2_pop 21 = .ok (.getfield 24, 3) := by decide +kernel
theorem dX2_pop_24 : decode cX2_pop 24 = .ok (.aload_n 0, 1) := by decide +kernel
theorem dX2_pop_25 : decode cX2_pop 25 = .ok (.getfield 100, 3) := by decide +kernel
theorem dX2_pop_28 : decode cX2_pop 28 = .ok (.iaload, 1) := by decide +kernel
theorem dX2_pop_29 : decode cX2_pop 29 = .ok (.ireturn, 1) := by decide +kernel
theorem dX3_init_0 : decode cX3_init 0 = .ok (.aload_n 0, 1) := by decide +kernel
theorem dX3_init_1 : decode cX3_init 1 = .ok (.invokespecial 3, 3) := by decide +kernel
theorem dX3_init_4 : decode cX3_init 4 = .ok (.aload_n 0, 1) := by decide +kernel
theorem dX3_init_5 : decode cX3_init 5 = .ok (.bipush 12, 2) := by decide +kernel
theorem dX3_init_7 : decode cX3_init 7 = .ok (.newarray .int, 2) := by decide +kernel
theorem dX3_init_9 : decode cX3_init 9 = .ok (.putfield 9, 3) := by decide +kernel
theorem dX3_init_12 : decode cX3_init 12 = .ok (.aload_n 0, 1) := by decide +kernel
theorem dX3_init_13 : decode cX3_init 13 = .ok (.aload_n 1, 1) := by decide +kernel
theorem dX3_init_14 : decode cX3_init 14 = .ok (.putfield 15, 3) := by decide +kernel
theorem dX3_init_17 : decode cX3_init 17 = .ok (.aload_n 0, 1) := by decide +kernel
theorem dX3_init_18 : decode cX3_init 18 = .ok (.aload_n 2, 1) := by decide +kernel
theorem dX3_init_19 : decode cX3_init 19 = .ok (.putfield 19, 3) := by decide +kernel
theorem dX3_init_22 : decode cX3_init 22 = .ok (.return_, 1) := by decide +kernel
theorem dX3_begin_0 : decode cX3_begin 0 = .ok (.aload_n 0, 1) := by decide +kernel
theorem dX3_begin_1 : decode cX3_begin 1 = .ok (.getfield 19, 3) := by decide +kernel
theorem dX3_begin_4 : decode cX3_begin 4 = .ok (.aload_n 0, 1) := by decide +kernel
theorem dX3_begin_5 : decode cX3_begin 5 = .ok (.getfield 15, 3) := by decide +kernel
theorem dX3_begin_8 : decode cX3_begin 8 = .ok (.invokevirtual 22, 3) := by decide +kernel
theorem dX3_begin_11 : decode cX3_begin 11 = .ok (.aload_n 0, 1) := by decide +kernel
theorem dX3_begin_12 : decode cX3_begin 12 = .ok (.invokevirtual 28, 3) := by decide +kernel
theorem dX3_begin_15 : decode cX3_begin 15 = .ok (.return_, 1) := by decide +kernel
theorem dX3_forgetNames_0 : decode cX3_forgetNames 0 = .ok (.aload_n 0, 1) := by decide +kernel
theorem dX3_forgetNames_1 : decode cX3_forgetNames 1 = .ok (.getfield 19, 3) := by decide +kernel
theorem dX3_forgetNames_4 : decode cX3_forgetNames 4 = .ok (.getfield 31, 3) := by decide +kernel
theorem dX3_forgetNames_7 : decode cX3_forgetNames 7 = .ok (.iconst (-1), 1) := by decide +kernel
theorem dX3_forgetNames_8 : decode cX3_forgetNames 8 = .ok (.invokestatic 34, 3) := by decide +kernel
theorem dX3_forgetNames_11 : decode cX3_forgetNames 11 = .ok (.aload_n 0, 1) := by decide +kernel
theorem dX3_forgetNames_12 : decode cX3_forgetNames 12 = .ok (.getfield 9, 3) := by decide +kernel
theorem dX3_forgetNames_15 : decode cX3_forgetNames 15 = .ok (.iconst (-1), 1) := by decide +kernel
theorem dX3_forgetNames_16 : decode cX3_forgetNames 16 = .ok (.invokestatic 34, 3) := by decide +kernel
theorem dX3_forgetNames_19 : decode cX3_forgetNames 19 = .ok (.aload_n 0, 1) := by decide +kernel
theorem dX3_forgetNames_20 : decode cX3_forgetNames 20 = .ok (.iconst 0, 1) := by decide +kernel
theorem dX3_forgetNames_21 : decode cX3_forgetNames 21 = .ok (.putfield 40, 3) := by decide +kernel
theorem dX3_forgetNames_24 : decode cX3_forgetNames 24 = .ok (.return_, 1) := by decide +kernel
theorem dX3_noteHeldAheadOf_0 : decode cX3_noteHeldAheadOf 0 = .ok (.aload_n 0, 1) := by decide +kernel
theorem dX3_noteHeldAheadOf_1 : decode cX3_noteHeldAheadOf 1 = .ok (.getfield 40, 3) := by decide +kernel
theorem dX3_noteHeldAheadOf_4 : decode cX3_noteHeldAheadOf 4 = .ok (.istore_n 2, 1) := by decide +kernel
theorem dX3_noteHeldAheadOf_5 : decode cX3_noteHeldAheadOf 5 = .ok (.iload_n 2, 1) := by decide +kernel
theorem dX3_noteHeldAheadOf_6 : decode cX3_noteHeldAheadOf 6 = .ok (.iload_n 1, 1) := by decide +kernel
theorem dX3_noteHeldAheadOf_7 : decode cX3_noteHeldAheadOf 7 = .ok (.if_icmp .ge 62, 3) := by decide +kernel
theorem dX3_noteHeldAheadOf_10 : decode cX3_noteHeldAheadOf 10 = .ok (.aload_n 0, 1) := by decide +kernel
theorem dX3_noteHeldAheadOf_11 : decode cX3_noteHeldAheadOf 11 = .ok (.getfield 19, 3) := by decide +kernel
theorem dX3_noteHeldAheadOf_14 : decode cX3_noteHeldAheadOf 14 = .ok (.iload_n 2, 1) := by decide +kernel
theorem dX3_noteHeldAheadOf_15 : decode cX3_noteHeldAheadOf 15 = .ok (.invokevirtual 44, 3) := by decide +kernel
theorem dX3_noteHeldAheadOf_18 : decode cX3_noteHeldAheadOf 18 = .ok (.istore_n 3, 1) := by decide +kernel
theorem dX3_noteHeldAheadOf_19 : decode cX3_noteHeldAheadOf 19 = .ok (.iconst 0, 1) := by decide +kernel
theorem dX3_noteHeldAheadOf_20 : decode cX3_noteHeldAheadOf 20 = .ok (.istore 4, 2) := by decide +kernel
theorem dX3_noteHeldAheadOf_22 : decode cX3_noteHeldAheadOf 22 = .ok (.iload 4, 2) := by decide +kernel
theorem dX3_noteHeldAheadOf_24 : decode cX3_noteHeldAheadOf 24 = .ok (.bipush 12, 2) := by decide +kernel
theorem dX3_noteHeldAheadOf_26 : decode cX3_noteHeldAheadOf 26 = .ok (.if_icmp .ge 37, 3) := by decide +kernel
theorem dX3_noteHeldAheadOf_29 : decode cX3_noteHeldAheadOf 29 = .ok (.aload_n 0, 1) := by decide +kernel
theorem dX3_noteHeldAheadOf_30 : decode cX3_noteHeldAheadOf 30 = .ok (.getfield 9, 3) := by decide +kernel
theorem dX3_noteHeldAheadOf_33 : decode cX3_noteHeldAheadOf 33 = .ok (.iload 4, 2) := by decide +kernel
theorem dX3_noteHeldAheadOf_35 : decode cX3_noteHeldAheadOf 35 = .ok (.iload_n 3, 1) := by decide +kernel
theorem dX3_noteHeldAheadOf_36 : decode cX3_noteHeldAheadOf 36 = .ok (.iload 4, 2) := by decide +kernel
theorem dX3_noteHeldAheadOf_38 : decode cX3_noteHeldAheadOf 38 = .ok (.ishr, 1) := by decide +kernel
theorem dX3_noteHeldAheadOf_39 : decode cX3_noteHeldAheadOf 39 = .ok (.iconst 1, 1) := by decide +kernel
theorem dX3_noteHeldAheadOf_40 : decode cX3_noteHeldAheadOf 40 = .ok (.iand, 1) := by decide +kernel
theorem dX3_noteHeldAheadOf_41 : decode cX3_noteHeldAheadOf 41 = .ok (.iconst 1, 1) := by decide +kernel
theorem dX3_noteHeldAheadOf_42 : decode cX3_noteHeldAheadOf 42 = .ok (.if_icmp .ne 7, 3) := by decide +kernel
theorem dX3_noteHeldAheadOf_45 : decode cX3_noteHeldAheadOf 45 = .ok (.iload_n 2, 1) := by decide +kernel
theorem dX3_noteHeldAheadOf_46 : decode cX3_noteHeldAheadOf 46 = .ok (.goto 10, 3) := by decide +kernel
theorem dX3_noteHeldAheadOf_49 : decode cX3_noteHeldAheadOf 49 = .ok (.aload_n 0, 1) := by decide +kernel
theorem dX3_noteHeldAheadOf_50 : decode cX3_noteHeldAheadOf 50 = .ok (.getfield 9, 3) := by decide +kernel
theorem dX3_noteHeldAheadOf_53 : decode cX3_noteHeldAheadOf 53 = .ok (.iload 4, 2) := by decide +kernel
theorem dX3_noteHeldAheadOf_55 : decode cX3_noteHeldAheadOf 55 = .ok (.iaload, 1) := by decide +kernel
theorem dX3_noteHeldAheadOf_56 : decode cX3_noteHeldAheadOf 56 = .ok (.iastore, 1) := by decide +kernel
theorem dX3_noteHeldAheadOf_57 : decode cX3_noteHeldAheadOf 57 = .ok (.iinc 4 1, 3) := by decide +kernel
theorem dX3_noteHeldAheadOf_60 : decode cX3_noteHeldAheadOf 60 = .ok (.goto (-38), 3) := by decide +kernel
theorem dX3_noteHeldAheadOf_63 : decode cX3_noteHeldAheadOf 63 = .ok (.iinc 2 1, 3) := by decide +kernel
theorem dX3_noteHeldAheadOf_66 : decode cX3_noteHeldAheadOf 66 = .ok (.goto (-61), 3) := by decide +kernel
theorem dX3_noteHeldAheadOf_69 : decode cX3_noteHeldAheadOf 69 = .ok (.aload_n 0, 1) := by decide +kernel
theorem dX3_noteHeldAheadOf_70 : decode cX3_noteHeldAheadOf 70 = .ok (.aload_n 0, 1) := by decide +kernel
theorem dX3_noteHeldAheadOf_71 : decode cX3_noteHeldAheadOf 71 = .ok (.getfield 40, 3) := by decide +kernel
theorem dX3_noteHeldAheadOf_74 : decode cX3_noteHeldAheadOf 74 = .ok (.iload_n 1, 1) := by decide +kernel
theorem dX3_noteHeldAheadOf_75 : decode cX3_noteHeldAheadOf 75 = .ok (.invokestatic 48, 3) := by decide +kernel
theorem dX3_noteHeldAheadOf_78 : decode cX3_noteHeldAheadOf 78 = .ok (.putfield 40, 3) := by decide +kernel
theorem dX3_noteHeldAheadOf_81 : decode cX3_noteHeldAheadOf 81 = .ok (.return_, 1) := by decide +kernel
theorem dX3_isBetter_0 : decode cX3_isBetter 0 = .ok (.iload_n 2, 1) := by decide +kernel
theorem dX3_isBetter_1 : decode cX3_isBetter 1 = .ok (.bipush (-2), 2) := by decide +kernel
theorem dX3_isBetter_3 : decode cX3_isBetter 3 = .ok (.if_icmp .ne 5, 3) := by decide +kernel
theorem dX3_isBetter_6 : decode cX3_isBetter 6 = .ok (.iconst 1, 1) := by decide +kernel
theorem dX3_isBetter_7 : decode cX3_isBetter 7 = .ok (.ireturn, 1) := by decide +kernel
theorem dX3_isBetter_8 : decode cX3_isBetter 8 = .ok (.iload_n 3, 1) := by decide +kernel
theorem dX3_isBetter_9 : decode cX3_isBetter 9 = .ok (.iconst 1, 1) := by decide +kernel
theorem dX3_isBetter_10 : decode cX3_isBetter 10 = .ok (.if_icmp .ne 24, 3) := by decide +kernel
theorem dX3_isBetter_13 : decode cX3_isBetter 13 = .ok (.aload_n 0, 1) := by decide +kernel
theorem dX3_isBetter_14 : decode cX3_isBetter 14 = .ok (.getfield 9, 3) := by decide +kernel
theorem dX3_isBetter_17 : decode cX3_isBetter 17 = .ok (.iload_n 1, 1) := by decide +kernel
theorem dX3_isBetter_18 : decode cX3_isBetter 18 = .ok (.iaload, 1) := by decide +kernel
theorem dX3_isBetter_19 : decode cX3_isBetter 19 = .ok (.aload_n 0, 1) := by decide +kernel
theorem dX3_isBetter_20 : decode cX3_isBetter 20 = .ok (.getfield 9, 3) := by decide +kernel
theorem dX3_isBetter_23 : decode cX3_isBetter 23 = .ok (.iload_n 2, 1) := by decide +kernel
theorem dX3_isBetter_24 : decode cX3_isBetter 24 = .ok (.iaload, 1) := by decide +kernel
theorem dX3_isBetter_25 : decode cX3_isBetter 25 = .ok (.if_icmp .le 7, 3) := by decide +kernel
theorem dX3_isBetter_28 : decode cX3_isBetter 28 = .ok (.iconst 1, 1) := by decide +kernel
theorem dX3_isBetter_29 : decode cX3_isBetter 29 = .ok (.goto 4, 3) := by decide +kernel
theorem dX3_isBetter_32 : decode cX3_isBetter 32 = .ok (.iconst 0, 1) := by decide +kernel
theorem dX3_isBetter_33 : decode cX3_isBetter 33 = .ok (.ireturn, 1) := by decide +kernel
theorem dX3_isBetter_34 : decode cX3_isBetter 34 = .ok (.iload_n 3, 1) := by decide +kernel
theorem dX3_isBetter_35 : decode cX3_isBetter 35 = .ok (.iconst 2, 1) := by decide +kernel
theorem dX3_isBetter_36 : decode cX3_isBetter 36 = .ok (.if_icmp .ne 28, 3) := by decide +kernel
theorem dX3_isBetter_39 : decode cX3_isBetter 39 = .ok (.aload_n 0, 1) := by decide +kernel
theorem dX3_isBetter_40 : decode cX3_isBetter 40 = .ok (.getfield 19, 3) := by decide +kernel
theorem dX3_isBetter_43 : decode cX3_isBetter 43 = .ok (.getfield 54, 3) := by decide +kernel
theorem dX3_isBetter_46 : decode cX3_isBetter 46 = .ok (.iload_n 1, 1) := by decide +kernel
theorem dX3_isBetter_47 : decode cX3_isBetter 47 = .ok (.iaload, 1) := by decide +kernel
theorem dX3_isBetter_48 : decode cX3_isBetter 48 = .ok (.aload_n 0, 1) := by decide +kernel
theorem dX3_isBetter_49 : decode cX3_isBetter 49 = .ok (.getfield 19, 3) := by decide +kernel
theorem dX3_isBetter_52 : decode cX3_isBetter 52 = .ok (.getfield 54, 3) := by decide +kernel
theorem dX3_isBetter_55 : decode cX3_isBetter 55 = .ok (.iload_n 2, 1) := by decide +kernel
theorem dX3_isBetter_56 : decode cX3_isBetter 56 = .ok (.iaload, 1) := by decide +kernel
theorem dX3_isBetter_57 : decode cX3_isBetter 57 = .ok (.if_icmp .le 7, 3) := by decide +kernel
theorem dX3_isBetter_60 : decode cX3_isBetter 60 = .ok (.iconst 1, 1) := by decide +kernel
theorem dX3_isBetter_61 : decode cX3_isBetter 61 = .ok (.goto 4, 3) := by decide +kernel
theorem dX3_isBetter_64 : decode cX3_isBetter 64 = .ok (.iconst 0, 1) := by decide +kernel
theorem dX3_isBetter_65 : decode cX3_isBetter 65 = .ok (.ireturn, 1) := by decide +kernel
theorem dX3_choose_0 : decode cX3_choose 0 = .ok (.aload_n 0, 1) := by decide +kernel
theorem dX3_choose_1 : decode cX3_choose 1 = .ok (.getfield 19, 3) := by decide +kernel
theorem dX3_choose_4 : decode cX3_choose 4 = .ok (.aload_n 0, 1) := by decide +kernel
theorem dX3_choose_5 : decode cX3_choose 5 = .ok (.getfield 19, 3) := by decide +kernel
theorem dX3_choose_8 : decode cX3_choose 8 = .ok (.getfield 57, 3) := by decide +kernel
theorem dX3_choose_11 : decode cX3_choose 11 = .ok (.iload_n 1, 1) := by decide +kernel
theorem dX3_choose_12 : decode cX3_choose 12 = .ok (.iaload, 1) := by decide +kernel
theorem dX3_choose_13 : decode cX3_choose 13 = .ok (.invokevirtual 44, 3) := by decide +kernel
theorem dX3_choose_16 : decode cX3_choose 16 = .ok (.istore_n 3, 1) := by decide +kernel
theorem dX3_choose_17 : decode cX3_choose 17 = .ok (.bipush (-2), 2) := by decide +kernel
theorem dX3_choose_19 : decode cX3_choose 19 = .ok (.istore 4, 2) := by decide +kernel
theorem dX3_choose_21 : decode cX3_choose 21 = .ok (.iconst 0, 1) := by decide +kernel
theorem dX3_choose_22 : decode cX3_choose 22 = .ok (.istore 5, 2) := by decide +kernel
theorem dX3_choose_24 : decode cX3_choose 24 = .ok (.iload 5, 2) := by decide +kernel
theorem dX3_choose_26 : decode cX3_choose 26 = .ok (.bipush 12, 2) := by decide +kernel
theorem dX3_choose_28 : decode cX3_choose 28 = .ok (.if_icmp .ge 34, 3) := by decide +kernel
theorem dX3_choose_31 : decode cX3_choose 31 = .ok (.iload_n 3, 1) := by decide +kernel
theorem dX3_choose_32 : decode cX3_choose 32 = .ok (.iload 5, 2) := by decide +kernel
theorem dX3_choose_34 : decode cX3_choose 34 = .ok (.ishr, 1) := by decide +kernel
theorem dX3_choose_35 : decode cX3_choose 35 = .ok (.iconst 1, 1) := by decide +kernel
theorem dX3_choose_36 : decode cX3_choose 36 = .ok (.iand, 1) := by decide +kernel
theorem dX3_choose_37 : decode cX3_choose 37 = .ok (.ifCond .ne 19, 3) := by decide +kernel
theorem dX3_choose_40 : decode cX3_choose 40 = .ok (.aload_n 0, 1) := by decide +kernel
theorem dX3_choose_41 : decode cX3_choose 41 = .ok (.iload 5, 2) := by decide +kernel
theorem dX3_choose_43 : decode cX3_choose 43 = .ok (.iload 4, 2) := by decide +kernel
theorem dX3_choose_45 : decode cX3_choose 45 = .ok (.iload_n 2, 1) := by decide +kernel
theorem dX3_choose_46 : decode cX3_choose 46 = .ok (.invokevirtual 60, 3) := by decide +kernel
theorem dX3_choose_49 : decode cX3_choose 49 = .ok (.ifCond .eq 7, 3) := by decide +kernel
theorem dX3_choose_52 : decode cX3_choose 52 = .ok (.iload 5, 2) := by decide +kernel
theorem dX3_choose_54 : decode cX3_choose 54 = .ok (.istore 4, 2) := by decide +kernel
theorem dX3_choose_56 : decode cX3_choose 56 = .ok (.iinc 5 1, 3) := by decide +kernel
theorem dX3_choose_59 : decode cX3_choose 59 = .ok (.goto (-35), 3) := by decide +kernel
theorem dX3_choose_62 : decode cX3_choose 62 = .ok (.iload 4, 2) := by decide +kernel
theorem dX3_choose_64 : decode cX3_choose 64 = .ok (.ireturn, 1) := by decide +kernel
theorem dX3_chosenFor_0 : decode cX3_chosenFor 0 = .ok (.aload_n 0, 1) := by decide +kernel
theorem dX3_chosenFor_1 : decode cX3_chosenFor 1 = .ok (.invokevirtual 64, 3) := by decide +kernel
theorem dX3_chosenFor_4 : decode cX3_chosenFor 4 = .ok (.iconst 0, 1) := by decide +kernel
theorem dX3_chosenFor_5 : decode cX3_chosenFor 5 = .ok (.istore_n 3, 1) := by decide +kernel
theorem dX3_chosenFor_6 : decode cX3_chosenFor 6 = .ok (.iload_n 3, 1) := by decide +kernel
theorem dX3_chosenFor_7 : decode cX3_chosenFor 7 = .ok (.aload_n 0, 1) := by decide +kernel
theorem dX3_chosenFor_8 : decode cX3_chosenFor 8 = .ok (.getfield 15, 3) := by decide +kernel
theorem dX3_chosenFor_11 : decode cX3_chosenFor 11 = .ok (.getfield 67, 3) := by decide +kernel
theorem dX3_chosenFor_14 : decode cX3_chosenFor 14 = .ok (.if_icmp .ge 56, 3) := by decide +kernel
theorem dX3_chosenFor_17 : decode cX3_chosenFor 17 = .ok (.aload_n 0, 1) := by decide +kernel
theorem dX3_chosenFor_18 : decode cX3_chosenFor 18 = .ok (.getfield 15, 3) := by decide +kernel
theorem dX3_chosenFor_21 : decode cX3_chosenFor 21 = .ok (.getfield 70, 3) := by decide +kernel
theorem dX3_chosenFor_24 : decode cX3_chosenFor 24 = .ok (.iload_n 3, 1) := by decide +kernel
theorem dX3_chosenFor_25 : decode cX3_chosenFor 25 = .ok (.iaload, 1) := by decide +kernel
theorem dX3_chosenFor_26 : decode cX3_chosenFor 26 = .ok (.iload_n 1, 1) := by decide +kernel
theorem dX3_chosenFor_27 : decode cX3_chosenFor 27 = .ok (.if_icmp .eq 43, 3) := by decide +kernel
theorem dX3_chosenFor_30 : decode cX3_chosenFor 30 = .ok (.aload_n 0, 1) := by decide +kernel
theorem dX3_chosenFor_31 : decode cX3_chosenFor 31 = .ok (.getfield 19, 3) := by decide +kernel
theorem dX3_chosenFor_34 : decode cX3_chosenFor 34 = .ok (.getfield 31, 3) := by decide +kernel
theorem dX3_chosenFor_37 : decode cX3_chosenFor 37 = .ok (.aload_n 0, 1) := by decide +kernel
theorem dX3_chosenFor_38 : decode cX3_chosenFor 38 = .ok (.getfield 15, 3) := by decide +kernel
theorem dX3_chosenFor_41 : decode cX3_chosenFor 41 = .ok (.getfield 70, 3) := by decide +kernel
theorem dX3_chosenFor_44 : decode cX3_chosenFor 44 = .ok (.iload_n 3, 1) := by decide +kernel
theorem dX3_chosenFor_45 : decode cX3_chosenFor 45 = .ok (.iaload, 1) := by decide +kernel
theorem dX3_chosenFor_46 : decode cX3_chosenFor 46 = .ok (.aload_n 0, 1) := by decide +kernel
theorem dX3_chosenFor_47 : decode cX3_chosenFor 47 = .ok (.getfield 15, 3) := by decide +kernel
theorem dX3_chosenFor_50 : decode cX3_chosenFor 50 = .ok (.getfield 31, 3) := by decide +kernel
theorem dX3_chosenFor_53 : decode cX3_chosenFor 53 = .ok (.aload_n 0, 1) := by decide +kernel
theorem dX3_chosenFor_54 : decode cX3_chosenFor 54 = .ok (.getfield 15, 3) := by decide +kernel
theorem dX3_chosenFor_57 : decode cX3_chosenFor 57 = .ok (.getfield 70, 3) := by decide +kernel
theorem dX3_chosenFor_60 : decode cX3_chosenFor 60 = .ok (.iload_n 3, 1) := by decide +kernel
theorem dX3_chosenFor_61 : decode cX3_chosenFor 61 = .ok (.iaload, 1) := by decide +kernel
theorem dX3_chosenFor_62 : decode cX3_chosenFor 62 = .ok (.iaload, 1) := by decide +kernel
theorem dX3_chosenFor_63 : decode cX3_chosenFor 63 = .ok (.iastore, 1) := by decide +kernel
theorem dX3_chosenFor_64 : decode cX3_chosenFor 64 = .ok (.iinc 3 1, 3) := by decide +kernel
theorem dX3_chosenFor_67 : decode cX3_chosenFor 67 = .ok (.goto (-61), 3) := by decide +kernel
theorem dX3_chosenFor_70 : decode cX3_chosenFor 70 = .ok (.iload_n 2, 1) := by decide +kernel
theorem dX3_chosenFor_71 : decode cX3_chosenFor 71 = .ok (.iconst 1, 1) := by decide +kernel
theorem dX3_chosenFor_72 : decode cX3_chosenFor 72 = .ok (.if_icmp .ne 16, 3) := by decide +kernel
theorem dX3_chosenFor_75 : decode cX3_chosenFor 75 = .ok (.aload_n 0, 1) := by decide +kernel
theorem dX3_chosenFor_76 : decode cX3_chosenFor 76 = .ok (.aload_n 0, 1) := by decide +kernel
theorem dX3_chosenFor_77 : decode cX3_chosenFor 77 = .ok (.getfield 15, 3) := by decide +kernel
theorem dX3_chosenFor_80 : decode cX3_chosenFor 80 = .ok (.getfield 57, 3) := by decide +kernel
theorem dX3_chosenFor_83 : decode cX3_chosenFor 83 = .ok (.iload_n 1, 1) := by decide +kernel
theorem dX3_chosenFor_84 : decode cX3_chosenFor 84 = .ok (.iaload, 1) := by decide +kernel
theorem dX3_chosenFor_85 : decode cX3_chosenFor 85 = .ok (.invokevirtual 73, 3) := by decide +kernel
theorem dX3_chosenFor_88 : decode cX3_chosenFor 88 = .ok (.aload_n 0, 1) := by decide +kernel
theorem dX3_chosenFor_89 : decode cX3_chosenFor 89 = .ok (.iload_n 1, 1) := by decide +kernel
theorem dX3_chosenFor_90 : decode cX3_chosenFor 90 = .ok (.iload_n 2, 1) := by decide +kernel
theorem dX3_chosenFor_91 : decode cX3_chosenFor 91 = .ok (.invokevirtual 77, 3) := by decide +kernel
theorem dX3_chosenFor_94 : decode cX3_chosenFor 94 = .ok (.ireturn, 1) := by decide +kernel
theorem dX3_firstHeldAtBirth_0 : decode cX3_firstHeldAtBirth 0 = .ok (.aload_n 0, 1) := by decide +kernel
theorem dX3_firstHeldAtBirth_1 : decode cX3_firstHeldAtBirth 1 = .ok (.invokevirtual 64, 3) := by decide +kernel
theorem dX3_firstHeldAtBirth_4 : decode cX3_firstHeldAtBirth 4 = .ok (.iconst 0, 1) := by decide +kernel
theorem dX3_firstHeldAtBirth_5 : decode cX3_firstHeldAtBirth 5 = .ok (.istore_n 1, 1) := by decide +kernel
theorem dX3_firstHeldAtBirth_6 : decode cX3_firstHeldAtBirth 6 = .ok (.iload_n 1, 1) := by decide +kernel
theorem dX3_firstHeldAtBirth_7 : decode cX3_firstHeldAtBirth 7 = .ok (.aload_n 0, 1) := by decide +kernel
theorem dX3_firstHeldAtBirth_8 : decode cX3_firstHeldAtBirth 8 = .ok (.getfield 15, 3) := by decide +kernel
theorem dX3_firstHeldAtBirth_11 : decode cX3_firstHeldAtBirth 11 = .ok (.getfield 67, 3) := by decide +kernel
theorem dX3_firstHeldAtBirth_14 : decode cX3_firstHeldAtBirth 14 = .ok (.if_icmp .ge 69, 3) := by decide +kernel
theorem dX3_firstHeldAtBirth_17 : decode cX3_firstHeldAtBirth 17 = .ok (.aload_n 0, 1) := by decide +kernel
theorem dX3_firstHeldAtBirth_18 : decode cX3_firstHeldAtBirth 18 = .ok (.getfield 15, 3) := by decide +kernel
theorem dX3_firstHeldAtBirth_21 : decode cX3_firstHeldAtBirth 21 = .ok (.getfield 70, 3) := by decide +kernel
theorem dX3_firstHeldAtBirth_24 : decode cX3_firstHeldAtBirth 24 = .ok (.iload_n 1, 1) := by decide +kernel
theorem dX3_firstHeldAtBirth_25 : decode cX3_firstHeldAtBirth 25 = .ok (.iaload, 1) := by decide +kernel
theorem dX3_firstHeldAtBirth_26 : decode cX3_firstHeldAtBirth 26 = .ok (.istore_n 2, 1) := by decide +kernel
theorem dX3_firstHeldAtBirth_27 : decode cX3_firstHeldAtBirth 27 = .ok (.aload_n 0, 1) := by decide +kernel
theorem dX3_firstHeldAtBirth_28 : decode cX3_firstHeldAtBirth 28 = .ok (.getfield 15, 3) := by decide +kernel
theorem dX3_firstHeldAtBirth_31 : decode cX3_firstHeldAtBirth 31 = .ok (.getfield 31, 3) := by decide +kernel
theorem dX3_firstHeldAtBirth_34 : decode cX3_firstHeldAtBirth 34 = .ok (.iload_n 2, 1) := by decide +kernel
theorem dX3_firstHeldAtBirth_35 : decode cX3_firstHeldAtBirth 35 = .ok (.iaload, 1) := by decide +kernel
theorem dX3_firstHeldAtBirth_36 : decode cX3_firstHeldAtBirth 36 = .ok (.istore_n 3, 1) := by decide +kernel
theorem dX3_firstHeldAtBirth_37 : decode cX3_firstHeldAtBirth 37 = .ok (.iload_n 3, 1) := by decide +kernel
theorem dX3_firstHeldAtBirth_38 : decode cX3_firstHeldAtBirth 38 = .ok (.ifCond .lt 29, 3) := by decide +kernel
theorem dX3_firstHeldAtBirth_41 : decode cX3_firstHeldAtBirth 41 = .ok (.aload_n 0, 1) := by decide +kernel
theorem dX3_firstHeldAtBirth_42 : decode cX3_firstHeldAtBirth 42 = .ok (.getfield 19, 3) := by decide +kernel
theorem dX3_firstHeldAtBirth_45 : decode cX3_firstHeldAtBirth 45 = .ok (.aload_n 0, 1) := by decide +kernel
theorem dX3_firstHeldAtBirth_46 : decode cX3_firstHeldAtBirth 46 = .ok (.getfield 15, 3) := by decide +kernel
theorem dX3_firstHeldAtBirth_49 : decode cX3_firstHeldAtBirth 49 = .ok (.getfield 57, 3) := by decide +kernel
theorem dX3_firstHeldAtBirth_52 : decode cX3_firstHeldAtBirth 52 = .ok (.iload_n 2, 1) := by decide +kernel
theorem dX3_firstHeldAtBirth_53 : decode cX3_firstHeldAtBirth 53 = .ok (.iaload, 1) := by decide +kernel
theorem dX3_firstHeldAtBirth_54 : decode cX3_firstHeldAtBirth 54 = .ok (.invokevirtual 44, 3) := by decide +kernel
theorem dX3_firstHeldAtBirth_57 : decode cX3_firstHeldAtBirth 57 = .ok (.iload_n 3, 1) := by decide +kernel
theorem dX3_firstHeldAtBirth_58 : decode cX3_firstHeldAtBirth 58 = .ok (.ishr, 1) := by decide +kernel
theorem dX3_firstHeldAtBirth_59 : decode cX3_firstHeldAtBirth 59 = .ok (.iconst 1, 1) := by decide +kernel
theorem dX3_firstHeldAtBirth_60 : decode cX3_firstHeldAtBirth 60 = .ok (.iand, 1) := by decide +kernel
theorem dX3_firstHeldAtBirth_61 : decode cX3_firstHeldAtBirth 61 = .ok (.iconst 1, 1) := by decide +kernel
theorem dX3_firstHeldAtBirth_62 : decode cX3_firstHeldAtBirth 62 = .ok (.if_icmp .ne 5, 3) := by decide +kernel
theorem dX3_firstHeldAtBirth_65 : decode cX3_firstHeldAtBirth 65 = .ok (.iload_n 2, 1) := by decide +kernel
theorem dX3_firstHeldAtBirth_66 : decode cX3_firstHeldAtBirth 66 = .ok (.ireturn, 1) := by decide +kernel
theorem dX3_firstHeldAtBirth_67 : decode cX3_firstHeldAtBirth 67 = .ok (.aload_n 0, 1) := by decide +kernel
theorem dX3_firstHeldAtBirth_68 : decode cX3_firstHeldAtBirth 68 = .ok (.getfield 19, 3) := by decide +kernel
theorem dX3_firstHeldAtBirth_71 : decode cX3_firstHeldAtBirth 71 = .ok (.getfield 31, 3) := by decide +kernel
theorem dX3_firstHeldAtBirth_74 : decode cX3_firstHeldAtBirth 74 = .ok (.iload_n 2, 1) := by decide +kernel
theorem dX3_firstHeldAtBirth_75 : decode cX3_firstHeldAtBirth 75 = .ok (.iload_n 3, 1) := by decide +kernel
theorem dX3_firstHeldAtBirth_76 : decode cX3_firstHeldAtBirth 76 = .ok (.iastore, 1) := by decide +kernel
theorem dX3_firstHeldAtBirth_77 : decode cX3_firstHeldAtBirth 77 = .ok (.iinc 1 1, 3) := by decide +kernel
theorem dX3_firstHeldAtBirth_80 : decode cX3_firstHeldAtBirth 80 = .ok (.goto (-74), 3) := by decide +kernel
theorem dX3_firstHeldAtBirth_83 : decode cX3_firstHeldAtBirth 83 = .ok (.bipush (-2), 2) := by decide +kernel
theorem dX3_firstHeldAtBirth_85 : decode cX3_firstHeldAtBirth 85 = .ok (.ireturn, 1) := by decide +kernel
theorem dX3_nameAll_0 : decode cX3_nameAll 0 = .ok (.aload_n 0, 1) := by decide +kernel
theorem dX3_nameAll_1 : decode cX3_nameAll 1 = .ok (.invokevirtual 28, 3) := by decide +kernel
theorem dX3_nameAll_4 : decode cX3_nameAll 4 = .ok (.iconst 0, 1) := by decide +kernel
theorem dX3_nameAll_5 : decode cX3_nameAll 5 = .ok (.istore_n 2, 1) := by decide +kernel
theorem dX3_nameAll_6 : decode cX3_nameAll 6 = .ok (.iload_n 2, 1) := by decide +kernel
theorem dX3_nameAll_7 : decode cX3_nameAll 7 = .ok (.aload_n 0, 1) := by decide +kernel
theorem dX3_nameAll_8 : decode cX3_nameAll 8 = .ok (.getfield 19, 3) := by decide +kernel
theorem dX3_nameAll_11 : decode cX3_nameAll 11 = .ok (.getfield 67, 3) := by decide +kernel
theorem dX3_nameAll_14 : decode cX3_nameAll 14 = .ok (.if_icmp .ge 67, 3) := by decide +kernel
theorem dX3_nameAll_17 : decode cX3_nameAll 17 = .ok (.aload_n 0, 1) := by decide +kernel
theorem dX3_nameAll_18 : decode cX3_nameAll 18 = .ok (.getfield 19, 3) := by decide +kernel
theorem dX3_nameAll_21 : decode cX3_nameAll 21 = .ok (.getfield 70, 3) := by decide +kernel
theorem dX3_nameAll_24 : decode cX3_nameAll 24 = .ok (.iload_n 2, 1) := by decide +kernel
theorem dX3_nameAll_25 : decode cX3_nameAll 25 = .ok (.iaload, 1) := by decide +kernel
theorem dX3_nameAll_26 : decode cX3_nameAll 26 = .ok (.istore_n 3, 1) := by decide +kernel
theorem dX3_nameAll_27 : decode cX3_nameAll 27 = .ok (.iload_n 1, 1) := by decide +kernel
theorem dX3_nameAll_28 : decode cX3_nameAll 28 = .ok (.iconst 1, 1) := by decide +kernel
theorem dX3_nameAll_29 : decode cX3_nameAll 29 = .ok (.if_icmp .ne 16, 3) := by decide +kernel
theorem dX3_nameAll_32 : decode cX3_nameAll 32 = .ok (.aload_n 0, 1) := by decide +kernel
theorem dX3_nameAll_33 : decode cX3_nameAll 33 = .ok (.aload_n 0, 1) := by decide +kernel
theorem dX3_nameAll_34 : decode cX3_nameAll 34 = .ok (.getfield 19, 3) := by decide +kernel
theorem dX3_nameAll_37 : decode cX3_nameAll 37 = .ok (.getfield 57, 3) := by decide +kernel
theorem dX3_nameAll_40 : decode cX3_nameAll 40 = .ok (.iload_n 3, 1) := by decide +kernel
theorem dX3_nameAll_41 : decode cX3_nameAll 41 = .ok (.iaload, 1) := by decide +kernel
theorem dX3_nameAll_42 : decode cX3_nameAll 42 = .ok (.invokevirtual 73, 3) := by decide +kernel
theorem dX3_nameAll_45 : decode cX3_nameAll 45 = .ok (.aload_n 0, 1) := by decide +kernel
theorem dX3_nameAll_46 : decode cX3_nameAll 46 = .ok (.iload_n 3, 1) := by decide +kernel
theorem dX3_nameAll_47 : decode cX3_nameAll 47 = .ok (.iload_n 1, 1) := by decide +kernel
theorem dX3_nameAll_48 : decode cX3_nameAll 48 = .ok (.invokevirtual 77, 3) := by decide +kernel
theorem dX3_nameAll_51 : decode cX3_nameAll 51 = .ok (.istore 4, 2) := by decide +kernel
theorem dX3_nameAll_53 : decode cX3_nameAll 53 = .ok (.aload_n 0, 1) := by decide +kernel
theorem dX3_nameAll_54 : decode cX3_nameAll 54 = .ok (.getfield 19, 3) := by decide +kernel
theorem dX3_nameAll_57 : decode cX3_nameAll 57 = .ok (.getfield 31, 3) := by decide +kernel
theorem dX3_nameAll_60 : decode cX3_nameAll 60 = .ok (.iload_n 3, 1) := by decide +kernel
theorem dX3_nameAll_61 : decode cX3_nameAll 61 = .ok (.iload 4, 2) := by decide +kernel
theorem dX3_nameAll_63 : decode cX3_nameAll 63 = .ok (.bipush (-2), 2) := by decide +kernel
theorem dX3_nameAll_65 : decode cX3_nameAll 65 = .ok (.if_icmp .ne 7, 3) := by decide +kernel
theorem dX3_nameAll_68 : decode cX3_nameAll 68 = .ok (.iconst (-1), 1) := by decide +kernel
theorem dX3_nameAll_69 : decode cX3_nameAll 69 = .ok (.goto 5, 3) := by decide +kernel
theorem dX3_nameAll_72 : decode cX3_nameAll 72 = .ok (.iload 4, 2) := by decide +kernel
theorem dX3_nameAll_74 : decode cX3_nameAll 74 = .ok (.iastore, 1) := by decide +kernel
theorem dX3_nameAll_75 : decode cX3_nameAll 75 = .ok (.iinc 2 1, 3) := by decide +kernel
theorem dX3_nameAll_78 : decode cX3_nameAll 78 = .ok (.goto (-72), 3) := by decide +kernel
theorem dX3_nameAll_81 : decode cX3_nameAll 81 = .ok (.return_, 1) := by decide +kernel
theorem dX3_namesThatCame_0 : decode cX3_namesThatCame 0 = .ok (.iconst 0, 1) := by decide +kernel
theorem dX3_namesThatCame_1 : decode cX3_namesThatCame 1 = .ok (.istore_n 1, 1) := by decide +kernel
theorem dX3_namesThatCame_2 : decode cX3_namesThatCame 2 = .ok (.iconst 0, 1) := by decide +kernel
theorem dX3_namesThatCame_3 : decode cX3_namesThatCame 3 = .ok (.istore_n 2, 1) := by decide +kernel
theorem dX3_namesThatCame_4 : decode cX3_namesThatCame 4 = .ok (.iload_n 2, 1) := by decide +kernel
theorem dX3_namesThatCame_5 : decode cX3_namesThatCame 5 = .ok (.aload_n 0, 1) := by decide +kernel
theorem dX3_namesThatCame_6 : decode cX3_namesThatCame 6 = .ok (.getfield 19, 3) := by decide +kernel
theorem dX3_namesThatCame_9 : decode cX3_namesThatCame 9 = .ok (.getfield 67, 3) := by decide +kernel
theorem dX3_namesThatCame_12 : decode cX3_namesThatCame 12 = .ok (.if_icmp .ge 35, 3) := by decide +kernel
theorem dX3_namesThatCame_15 : decode cX3_namesThatCame 15 = .ok (.aload_n 0, 1) := by decide +kernel
theorem dX3_namesThatCame_16 : decode cX3_namesThatCame 16 = .ok (.getfield 19, 3) := by decide +kernel
theorem dX3_namesThatCame_19 : decode cX3_namesThatCame 19 = .ok (.getfield 31, 3) := by decide +kernel
theorem dX3_namesThatCame_22 : decode cX3_namesThatCame 22 = .ok (.iload_n 2, 1) := by decide +kernel
theorem dX3_namesThatCame_23 : decode cX3_namesThatCame 23 = .ok (.iaload, 1) := by decide +kernel
theorem dX3_namesThatCame_24 : decode cX3_namesThatCame 24 = .ok (.ifCond .lt 17, 3) := by decide +kernel
theorem dX3_namesThatCame_27 : decode cX3_namesThatCame 27 = .ok (.iload_n 1, 1) := by decide +kernel
theorem dX3_namesThatCame_28 : decode cX3_namesThatCame 28 = .ok (.iconst 1, 1) := by decide +kernel
theorem dX3_namesThatCame_29 : decode cX3_namesThatCame 29 = .ok (.aload_n 0, 1) := by decide +kernel
theorem dX3_namesThatCame_30 : decode cX3_namesThatCame 30 = .ok (.getfield 19, 3) := by decide +kernel
theorem dX3_namesThatCame_33 : decode cX3_namesThatCame 33 = .ok (.getfield 31, 3) := by decide +kernel
theorem dX3_namesThatCame_36 : decode cX3_namesThatCame 36 = .ok (.iload_n 2, 1) := by decide +kernel
theorem dX3_namesThatCame_37 : decode cX3_namesThatCame 37 = .ok (.iaload, 1) := by decide +kernel
theorem dX3_namesThatCame_38 : decode cX3_namesThatCame 38 = .ok (.ishl, 1) := by decide +kernel
theorem dX3_namesThatCame_39 : decode cX3_namesThatCame 39 = .ok (.ior, 1) := by decide +kernel
theorem dX3_namesThatCame_40 : decode cX3_namesThatCame 40 = .ok (.istore_n 1, 1) := by decide +kernel
theorem dX3_namesThatCame_41 : decode cX3_namesThatCame 41 = .ok (.iinc 2 1, 3) := by decide +kernel
theorem dX3_namesThatCame_44 : decode cX3_namesThatCame 44 = .ok (.goto (-40), 3) := by decide +kernel
theorem dX3_namesThatCame_47 : decode cX3_namesThatCame 47 = .ok (.iload_n 1, 1) := by decide +kernel
theorem dX3_namesThatCame_48 : decode cX3_namesThatCame 48 = .ok (.invokestatic 80, 3) := by decide +kernel
theorem dX3_namesThatCame_51 : decode cX3_namesThatCame 51 = .ok (.ireturn, 1) := by decide +kernel
theorem dX3_sumOfWorths_0 : decode cX3_sumOfWorths 0 = .ok (.iconst 0, 1) := by decide +kernel
theorem dX3_sumOfWorths_1 : decode cX3_sumOfWorths 1 = .ok (.istore_n 1, 1) := by decide +kernel
theorem dX3_sumOfWorths_2 : decode cX3_sumOfWorths 2 = .ok (.iconst 0, 1) := by decide +kernel
theorem dX3_sumOfWorths_3 : decode cX3_sumOfWorths 3 = .ok (.istore_n 2, 1) := by decide +kernel
theorem dX3_sumOfWorths_4 : decode cX3_sumOfWorths 4 = .ok (.iload_n 2, 1) := by decide +kernel
theorem dX3_sumOfWorths_5 : decode cX3_sumOfWorths 5 = .ok (.aload_n 0, 1) := by decide +kernel
theorem dX3_sumOfWorths_6 : decode cX3_sumOfWorths 6 = .ok (.getfield 19, 3) := by decide +kernel
theorem dX3_sumOfWorths_9 : decode cX3_sumOfWorths 9 = .ok (.getfield 67, 3) := by decide +kernel
theorem dX3_sumOfWorths_12 : decode cX3_sumOfWorths 12 = .ok (.if_icmp .ge 41, 3) := by decide +kernel
theorem dX3_sumOfWorths_15 : decode cX3_sumOfWorths 15 = .ok (.aload_n 0, 1) := by decide +kernel
theorem dX3_sumOfWorths_16 : decode cX3_sumOfWorths 16 = .ok (.getfield 19, 3) := by decide +kernel
theorem dX3_sumOfWorths_19 : decode cX3_sumOfWorths 19 = .ok (.getfield 31, 3) := by decide +kernel
theorem dX3_sumOfWorths_22 : decode cX3_sumOfWorths 22 = .ok (.iload_n 2, 1) := by decide +kernel
theorem dX3_sumOfWorths_23 : decode cX3_sumOfWorths 23 = .ok (.iaload, 1) := by decide +kernel
theorem dX3_sumOfWorths_24 : decode cX3_sumOfWorths 24 = .ok (.ifCond .lt 23, 3) := by decide +kernel
theorem dX3_sumOfWorths_27 : decode cX3_sumOfWorths 27 = .ok (.iload_n 1, 1) := by decide +kernel
theorem dX3_sumOfWorths_28 : decode cX3_sumOfWorths 28 = .ok (.aload_n 0, 1) := by decide +kernel
theorem dX3_sumOfWorths_29 : decode cX3_sumOfWorths 29 = .ok (.getfield 19, 3) := by decide +kernel
theorem dX3_sumOfWorths_32 : decode cX3_sumOfWorths 32 = .ok (.getfield 54, 3) := by decide +kernel
theorem dX3_sumOfWorths_35 : decode cX3_sumOfWorths 35 = .ok (.aload_n 0, 1) := by decide +kernel
theorem dX3_sumOfWorths_36 : decode cX3_sumOfWorths 36 = .ok (.getfield 19, 3) := by decide +kernel
theorem dX3_sumOfWorths_39 : decode cX3_sumOfWorths 39 = .ok (.getfield 31, 3) := by decide +kernel
theorem dX3_sumOfWorths_42 : decode cX3_sumOfWorths 42 = .ok (.iload_n 2, 1) := by decide +kernel
theorem dX3_sumOfWorths_43 : decode cX3_sumOfWorths 43 = .ok (.iaload, 1) := by decide +kernel
theorem dX3_sumOfWorths_44 : decode cX3_sumOfWorths 44 = .ok (.iaload, 1) := by decide +kernel
theorem dX3_sumOfWorths_45 : decode cX3_sumOfWorths 45 = .ok (.iadd, 1) := by decide +kernel
theorem dX3_sumOfWorths_46 : decode cX3_sumOfWorths 46 = .ok (.istore_n 1, 1) := by decide +kernel
theorem dX3_sumOfWorths_47 : decode cX3_sumOfWorths 47 = .ok (.iinc 2 1, 3) := by decide +kernel
theorem dX3_sumOfWorths_50 : decode cX3_sumOfWorths 50 = .ok (.goto (-46), 3) := by decide +kernel
theorem dX3_sumOfWorths_53 : decode cX3_sumOfWorths 53 = .ok (.iload_n 1, 1) := by decide +kernel
theorem dX3_sumOfWorths_54 : decode cX3_sumOfWorths 54 = .ok (.ireturn, 1) := by decide +kernel
theorem dX3_peopleWithout_0 : decode cX3_peopleWithout 0 = .ok (.aload_n 0, 1) := by decide +kernel
theorem dX3_peopleWithout_1 : decode cX3_peopleWithout 1 = .ok (.getfield 19, 3) := by decide +kernel
theorem dX3_peopleWithout_4 : decode cX3_peopleWithout 4 = .ok (.getfield 67, 3) := by decide +kernel
theorem dX3_peopleWithout_7 : decode cX3_peopleWithout 7 = .ok (.aload_n 0, 1) := by decide +kernel
theorem dX3_peopleWithout_8 : decode cX3_peopleWithout 8 = .ok (.getfield 19, 3) := by decide +kernel
theorem dX3_peopleWithout_11 : decode cX3_peopleWithout 11 = .ok (.invokevirtual 85, 3) := by decide +kernel
theorem dX3_peopleWithout_14 : decode cX3_peopleWithout 14 = .ok (.isub, 1) := by decide +kernel
theorem dX3_peopleWithout_15 : decode cX3_peopleWithout 15 = .ok (.ireturn, 1) := by decide +kernel
theorem dX3_drawDeaths_0 : decode cX3_drawDeaths 0 = .ok (.iload_n 1, 1) := by decide +kernel
theorem dX3_drawDeaths_1 : decode cX3_drawDeaths 1 = .ok (.istore_n 2, 1) := by decide +kernel
theorem dX3_drawDeaths_2 : decode cX3_drawDeaths 2 = .ok (.iconst 0, 1) := by decide +kernel
theorem dX3_drawDeaths_3 : decode cX3_drawDeaths 3 = .ok (.istore_n 3, 1) := by decide +kernel
theorem dX3_drawDeaths_4 : decode cX3_drawDeaths 4 = .ok (.iload_n 3, 1) := by decide +kernel
theorem dX3_drawDeaths_5 : decode cX3_drawDeaths 5 = .ok (.aload_n 0, 1) := by decide +kernel
theorem dX3_drawDeaths_6 : decode cX3_drawDeaths 6 = .ok (.getfield 19, 3) := by decide +kernel
theorem dX3_drawDeaths_9 : decode cX3_drawDeaths 9 = .ok (.getfield 67, 3) := by decide +kernel
theorem dX3_drawDeaths_12 : decode cX3_drawDeaths 12 = .ok (.if_icmp .ge 65, 3) := by decide +kernel
theorem dX3_drawDeaths_15 : decode cX3_drawDeaths 15 = .ok (.iload_n 2, 1) := by decide +kernel
theorem dX3_drawDeaths_16 : decode cX3_drawDeaths 16 = .ok (.ldc 89, 2) := by decide +kernel
theorem dX3_drawDeaths_18 : decode cX3_drawDeaths 18 = .ok (.imul, 1) := by decide +kernel
theorem dX3_drawDeaths_19 : decode cX3_drawDeaths 19 = .ok (.sipush 12345, 3) := by decide +kernel
theorem dX3_drawDeaths_22 : decode cX3_drawDeaths 22 = .ok (.iadd, 1) := by decide +kernel
theorem dX3_drawDeaths_23 : decode cX3_drawDeaths 23 = .ok (.istore_n 2, 1) := by decide +kernel
theorem dX3_drawDeaths_24 : decode cX3_drawDeaths 24 = .ok (.bipush 100, 2) := by decide +kernel
theorem dX3_drawDeaths_26 : decode cX3_drawDeaths 26 = .ok (.aload_n 0, 1) := by decide +kernel
theorem dX3_drawDeaths_27 : decode cX3_drawDeaths 27 = .ok (.getfield 19, 3) := by decide +kernel
theorem dX3_drawDeaths_30 : decode cX3_drawDeaths 30 = .ok (.getfield 57, 3) := by decide +kernel
theorem dX3_drawDeaths_33 : decode cX3_drawDeaths 33 = .ok (.iload_n 3, 1) := by decide +kernel
theorem dX3_drawDeaths_34 : decode cX3_drawDeaths 34 = .ok (.iaload, 1) := by decide +kernel
theorem dX3_drawDeaths_35 : decode cX3_drawDeaths 35 = .ok (.isub, 1) := by decide +kernel
theorem dX3_drawDeaths_36 : decode cX3_drawDeaths 36 = .ok (.istore 4, 2) := by decide +kernel
theorem dX3_drawDeaths_38 : decode cX3_drawDeaths 38 = .ok (.iload 4, 2) := by decide +kernel
theorem dX3_drawDeaths_40 : decode cX3_drawDeaths 40 = .ok (.ifCond .le 31, 3) := by decide +kernel
theorem dX3_drawDeaths_43 : decode cX3_drawDeaths 43 = .ok (.aload_n 0, 1) := by decide +kernel
theorem dX3_drawDeaths_44 : decode cX3_drawDeaths 44 = .ok (.getfield 19, 3) := by decide +kernel
theorem dX3_drawDeaths_47 : decode cX3_drawDeaths 47 = .ok (.getfield 90, 3) := by decide +kernel
theorem dX3_drawDeaths_50 : decode cX3_drawDeaths 50 = .ok (.iload_n 3, 1) := by decide +kernel
theorem dX3_drawDeaths_51 : decode cX3_drawDeaths 51 = .ok (.aload_n 0, 1) := by decide +kernel
theorem dX3_drawDeaths_52 : decode cX3_drawDeaths 52 = .ok (.getfield 19, 3) := by decide +kernel
theorem dX3_drawDeaths_55 : decode cX3_drawDeaths 55 = .ok (.getfield 57, 3) := by decide +kernel
theorem dX3_drawDeaths_58 : decode cX3_drawDeaths 58 = .ok (.iload_n 3, 1) := by decide +kernel
theorem dX3_drawDeaths_59 : decode cX3_drawDeaths 59 = .ok (.iaload, 1) := by decide +kernel
theorem dX3_drawDeaths_60 : decode cX3_drawDeaths 60 = .ok (.iconst 1, 1) := by decide +kernel
theorem dX3_drawDeaths_61 : decode cX3_drawDeaths 61 = .ok (.iadd, 1) := by decide +kernel
theorem dX3_drawDeaths_62 : decode cX3_drawDeaths 62 = .ok (.iload_n 2, 1) := by decide +kernel
theorem dX3_drawDeaths_63 : decode cX3_drawDeaths 63 = .ok (.bipush 8, 2) := by decide +kernel
theorem dX3_drawDeaths_65 : decode cX3_drawDeaths 65 = .ok (.iushr, 1) := by decide +kernel
theorem dX3_drawDeaths_66 : decode cX3_drawDeaths 66 = .ok (.iload 4, 2) := by decide +kernel
theorem dX3_drawDeaths_68 : decode cX3_drawDeaths 68 = .ok (.irem, 1) := by decide +kernel
theorem dX3_drawDeaths_69 : decode cX3_drawDeaths 69 = .ok (.iadd, 1) := by decide +kernel
theorem dX3_drawDeaths_70 : decode cX3_drawDeaths 70 = .ok (.iastore, 1) := by decide +kernel
theorem dX3_drawDeaths_71 : decode cX3_drawDeaths 71 = .ok (.iinc 3 1, 3) := by decide +kernel
theorem dX3_drawDeaths_74 : decode cX3_drawDeaths 74 = .ok (.goto (-70), 3) := by decide +kernel
theorem dX3_drawDeaths_77 : decode cX3_drawDeaths 77 = .ok (.iload_n 2, 1) := by decide +kernel
theorem dX3_drawDeaths_78 : decode cX3_drawDeaths 78 = .ok (.ireturn, 1) := by decide +kernel
theorem dX4_init_0 : decode cX4_init 0 = .ok (.aload_n 0, 1) := by decide +kernel
theorem dX4_init_1 : decode cX4_init 1 = .ok (.invokespecial 3, 3) := by decide +kernel
theorem dX4_init_4 : decode cX4_init 4 = .ok (.aload_n 0, 1) := by decide +kernel
theorem dX4_init_5 : decode cX4_init 5 = .ok (.bipush 12, 2) := by decide +kernel
theorem dX4_init_7 : decode cX4_init 7 = .ok (.newarray .int, 2) := by decide +kernel
theorem dX4_init_9 : decode cX4_init 9 = .ok (.putfield 9, 3) := by decide +kernel
theorem dX4_init_12 : decode cX4_init 12 = .ok (.aload_n 0, 1) := by decide +kernel
theorem dX4_init_13 : decode cX4_init 13 = .ok (.bipush 12, 2) := by decide +kernel
theorem dX4_init_15 : decode cX4_init 15 = .ok (.newarray .int, 2) := by decide +kernel
theorem dX4_init_17 : decode cX4_init 17 = .ok (.putfield 15, 3) := by decide +kernel
theorem dX4_init_20 : decode cX4_init 20 = .ok (.aload_n 0, 1) := by decide +kernel
theorem dX4_init_21 : decode cX4_init 21 = .ok (.bipush 12, 2) := by decide +kernel
theorem dX4_init_23 : decode cX4_init 23 = .ok (.newarray .int, 2) := by decide +kernel
theorem dX4_init_25 : decode cX4_init 25 = .ok (.putfield 18, 3) := by decide +kernel
theorem dX4_init_28 : decode cX4_init 28 = .ok (.aload_n 0, 1) := by decide +kernel
theorem dX4_init_29 : decode cX4_init 29 = .ok (.bipush 12, 2) := by decide +kernel
theorem dX4_init_31 : decode cX4_init 31 = .ok (.newarray .int, 2) := by decide +kernel
theorem dX4_init_33 : decode cX4_init 33 = .ok (.putfield 21, 3) := by decide +kernel
theorem dX4_init_36 : decode cX4_init 36 = .ok (.aload_n 0, 1) := by decide +kernel
theorem dX4_init_37 : decode cX4_init 37 = .ok (.bipush 16, 2) := by decide +kernel
theorem dX4_init_39 : decode cX4_init 39 = .ok (.newarray .int, 2) := by decide +kernel
theorem dX4_init_41 : decode cX4_init 41 = .ok (.putfield 24, 3) := by decide +kernel
theorem dX4_init_44 : decode cX4_init 44 = .ok (.aload_n 0, 1) := by decide +kernel
theorem dX4_init_45 : decode cX4_init 45 = .ok (.bipush 16, 2) := by decide +kernel
theorem dX4_init_47 : decode cX4_init 47 = .ok (.newarray .int, 2) := by decide +kernel
theorem dX4_init_49 : decode cX4_init 49 = .ok (.putfield 27, 3) := by decide +kernel
theorem dX4_init_52 : decode cX4_init 52 = .ok (.aload_n 0, 1) := by decide +kernel
theorem dX4_init_53 : decode cX4_init 53 = .ok (.bipush 16, 2) := by decide +kernel
theorem dX4_init_55 : decode cX4_init 55 = .ok (.newarray .int, 2) := by decide +kernel
theorem dX4_init_57 : decode cX4_init 57 = .ok (.putfield 30, 3) := by decide +kernel
theorem dX4_init_60 : decode cX4_init 60 = .ok (.aload_n 0, 1) := by decide +kernel
theorem dX4_init_61 : decode cX4_init 61 = .ok (.bipush 16, 2) := by decide +kernel
theorem dX4_init_63 : decode cX4_init 63 = .ok (.newarray .int, 2) := by decide +kernel
theorem dX4_init_65 : decode cX4_init 65 = .ok (.putfield 33, 3) := by decide +kernel
theorem dX4_init_68 : decode cX4_init 68 = .ok (.aload_n 0, 1) := by decide +kernel
theorem dX4_init_69 : decode cX4_init 69 = .ok (.bipush 12, 2) := by decide +kernel
theorem dX4_init_71 : decode cX4_init 71 = .ok (.newarray .int, 2) := by decide +kernel
theorem dX4_init_73 : decode cX4_init 73 = .ok (.putfield 36, 3) := by decide +kernel
theorem dX4_init_76 : decode cX4_init 76 = .ok (.aload_n 0, 1) := by decide +kernel
theorem dX4_init_77 : decode cX4_init 77 = .ok (.bipush 12, 2) := by decide +kernel
theorem dX4_init_79 : decode cX4_init 79 = .ok (.newarray .int, 2) := by decide +kernel
theorem dX4_init_81 : decode cX4_init 81 = .ok (.putfield 39, 3) := by decide +kernel
theorem dX4_init_84 : decode cX4_init 84 = .ok (.aload_n 0, 1) := by decide +kernel
theorem dX4_init_85 : decode cX4_init 85 = .ok (.bipush 12, 2) := by decide +kernel
theorem dX4_init_87 : decode cX4_init 87 = .ok (.newarray .int, 2) := by decide +kernel
theorem dX4_init_89 : decode cX4_init 89 = .ok (.putfield 42, 3) := by decide +kernel
theorem dX4_init_92 : decode cX4_init 92 = .ok (.aload_n 0, 1) := by decide +kernel
theorem dX4_init_93 : decode cX4_init 93 = .ok (.aload_n 1, 1) := by decide +kernel
theorem dX4_init_94 : decode cX4_init 94 = .ok (.putfield 45, 3) := by decide +kernel
theorem dX4_init_97 : decode cX4_init 97 = .ok (.aload_n 0, 1) := by decide +kernel
theorem dX4_init_98 : decode cX4_init 98 = .ok (.getfield 18, 3) := by decide +kernel
theorem dX4_init_101 : decode cX4_init 101 = .ok (.iconst (-1), 1) := by decide +kernel
theorem dX4_init_102 : decode cX4_init 102 = .ok (.invokestatic 49, 3) := by decide +kernel
theorem dX4_init_105 : decode cX4_init 105 = .ok (.aload_n 0, 1) := by decide +kernel
theorem dX4_init_106 : decode cX4_init 106 = .ok (.getfield 36, 3) := by decide +kernel
theorem dX4_init_109 : decode cX4_init 109 = .ok (.iconst 1, 1) := by decide +kernel
theorem dX4_init_110 : decode cX4_init 110 = .ok (.invokestatic 49, 3) := by decide +kernel
theorem dX4_init_113 : decode cX4_init 113 = .ok (.return_, 1) := by decide +kernel
theorem dX4_copyAllButNames_0 : decode cX4_copyAllButNames 0 = .ok (.aload_n 1, 1) := by decide +kernel
theorem dX4_copyAllButNames_1 : decode cX4_copyAllButNames 1 = .ok (.getfield 9, 3) := by decide +kernel
theorem dX4_copyAllButNames_4 : decode cX4_copyAllButNames 4 = .ok (.iconst 0, 1) := by decide +kernel
theorem dX4_copyAllButNames_5 : decode cX4_copyAllButNames 5 = .ok (.aload_n 0, 1) := by decide +kernel
theorem dX4_copyAllButNames_6 : decode cX4_copyAllButNames 6 = .ok (.getfield 9, 3) := by decide +kernel
theorem dX4_copyAllButNames_9 : decode cX4_copyAllButNames 9 = .ok (.iconst 0, 1) := by decide +kernel
theorem dX4_copyAllButNames_10 : decode cX4_copyAllButNames 10 = .ok (.bipush 12, 2) := by decide +kernel
theorem dX4_copyAllButNames_12 : decode cX4_copyAllButNames 12 = .ok (.invokestatic 55, 3) := by decide +kernel
theorem dX4_copyAllButNames_15 : decode cX4_copyAllButNames 15 = .ok (.aload_n 1, 1) := by decide +kernel
theorem dX4_copyAllButNames_16 : decode cX4_copyAllButNames 16 = .ok (.getfield 15, 3) := by decide +kernel
theorem dX4_copyAllButNames_19 : decode cX4_copyAllButNames 19 = .ok (.iconst 0, 1) := by decide +kernel
theorem dX4_copyAllButNames_20 : decode cX4_copyAllButNames 20 = .ok (.aload_n 0, 1) := by decide +kernel
theorem dX4_copyAllButNames_21 : decode cX4_copyAllButNames 21 = .ok (.getfield 15, 3) := by decide +kernel
theorem dX4_copyAllButNames_24 : decode cX4_copyAllButNames 24 = .ok (.iconst 0, 1) := by decide +kernel
theorem dX4_copyAllButNames_25 : decode cX4_copyAllButNames 25 = .ok (.bipush 12, 2) := by decide +kernel
theorem dX4_copyAllButNames_27 : decode cX4_copyAllButNames 27 = .ok (.invokestatic 55, 3) := by decide +kernel
theorem dX4_copyAllButNames_30 : decode cX4_copyAllButNames 30 = .ok (.aload_n 1, 1) := by decide +kernel
theorem dX4_copyAllButNames_31 : decode cX4_copyAllButNames 31 = .ok (.getfield 21, 3) := by decide +kernel
theorem dX4_copyAllButNames_34 : decode cX4_copyAllButNames 34 = .ok (.iconst 0, 1) := by decide +kernel
theorem dX4_copyAllButNames_35 : decode cX4_copyAllButNames 35 = .ok (.aload_n 0, 1) := by decide +kernel
theorem dX4_copyAllButNames_36 : decode cX4_copyAllButNames 36 = .ok (.getfield 21, 3) := by decide +kernel
theorem dX4_copyAllButNames_39 : decode cX4_copyAllButNames 39 = .ok (.iconst 0, 1) := by decide +kernel
theorem dX4_copyAllButNames_40 : decode cX4_copyAllButNames 40 = .ok (.bipush 12, 2) := by decide +kernel
theorem dX4_copyAllButNames_42 : decode cX4_copyAllButNames 42 = .ok (.invokestatic 55, 3) := by decide +kernel
theorem dX4_copyAllButNames_45 : decode cX4_copyAllButNames 45 = .ok (.aload_n 0, 1) := by decide +kernel
theorem dX4_copyAllButNames_46 : decode cX4_copyAllButNames 46 = .ok (.aload_n 1, 1) := by decide +kernel
theorem dX4_copyAllButNames_47 : decode cX4_copyAllButNames 47 = .ok (.getfield 61, 3) := by decide +kernel
theorem dX4_copyAllButNames_50 : decode cX4_copyAllButNames 50 = .ok (.putfield 61, 3) := by decide +kernel
theorem dX4_copyAllButNames_53 : decode cX4_copyAllButNames 53 = .ok (.aload_n 1, 1) := by decide +kernel
theorem dX4_copyAllButNames_54 : decode cX4_copyAllButNames 54 = .ok (.getfield 24, 3) := by decide +kernel
theorem dX4_copyAllButNames_57 : decode cX4_copyAllButNames 57 = .ok (.iconst 0, 1) := by decide +kernel
theorem dX4_copyAllButNames_58 : decode cX4_copyAllButNames 58 = .ok (.aload_n 0, 1) := by decide +kernel
theorem dX4_copyAllButNames_59 : decode cX4_copyAllButNames 59 = .ok (.getfield 24, 3) := by decide +kernel
theorem dX4_copyAllButNames_62 : decode cX4_copyAllButNames 62 = .ok (.iconst 0, 1) := by decide +kernel
theorem dX4_copyAllButNames_63 : decode cX4_copyAllButNames 63 = .ok (.bipush 16, 2) := by decide +kernel
theorem dX4_copyAllButNames_65 : decode cX4_copyAllButNames 65 = .ok (.invokestatic 55, 3) := by decide +kernel
theorem dX4_copyAllButNames_68 : decode cX4_copyAllButNames 68 = .ok (.aload_n 1, 1) := by decide +kernel
theorem dX4_copyAllButNames_69 : decode cX4_copyAllButNames 69 = .ok (.getfield 27, 3) := by decide +kernel
theorem dX4_copyAllButNames_72 : decode cX4_copyAllButNames 72 = .ok (.iconst 0, 1) := by decide +kernel
theorem dX4_copyAllButNames_73 : decode cX4_copyAllButNames 73 = .ok (.aload_n 0, 1) := by decide +kernel
theorem dX4_copyAllButNames_74 : decode cX4_copyAllButNames 74 = .ok (.getfield 27, 3) := by decide +kernel
theorem dX4_copyAllButNames_77 : decode cX4_copyAllButNames 77 = .ok (.iconst 0, 1) := by decide +kernel
theorem dX4_copyAllButNames_78 : decode cX4_copyAllButNames 78 = .ok (.bipush 16, 2) := by decide +kernel
theorem dX4_copyAllButNames_80 : decode cX4_copyAllButNames 80 = .ok (.invokestatic 55, 3) := by decide +kernel
theorem dX4_copyAllButNames_83 : decode cX4_copyAllButNames 83 = .ok (.aload_n 1, 1) := by decide +kernel
theorem dX4_copyAllButNames_84 : decode cX4_copyAllButNames 84 = .ok (.getfield 30, 3) := by decide +kernel
theorem dX4_copyAllButNames_87 : decode cX4_copyAllButNames 87 = .ok (.iconst 0, 1) := by decide +kernel
theorem dX4_copyAllButNames_88 : decode cX4_copyAllButNames 88 = .ok (.aload_n 0, 1) := by decide +kernel
theorem dX4_copyAllButNames_89 : decode cX4_copyAllButNames 89 = .ok (.getfield 30, 3) := by decide +kernel
theorem dX4_copyAllButNames_92 : decode cX4_copyAllButNames 92 = .ok (.iconst 0, 1) := by decide +kernel
theorem dX4_copyAllButNames_93 : decode cX4_copyAllButNames 93 = .ok (.bipush 16, 2) := by decide +kernel
theorem dX4_copyAllButNames_95 : decode cX4_copyAllButNames 95 = .ok (.invokestatic 55, 3) := by decide +kernel
theorem dX4_copyAllButNames_98 : decode cX4_copyAllButNames 98 = .ok (.aload_n 1, 1) := by decide +kernel
theorem dX4_copyAllButNames_99 : decode cX4_copyAllButNames 99 = .ok (.getfield 33, 3) := by decide +kernel
theorem dX4_copyAllButNames_102 : decode cX4_copyAllButNames 102 = .ok (.iconst 0, 1) := by decide +kernel
theorem dX4_copyAllButNames_103 : decode cX4_copyAllButNames 103 = .ok (.aload_n 0, 1) := by decide +kernel
theorem dX4_copyAllButNames_104 : decode cX4_copyAllButNames 104 = .ok (.getfield 33, 3) := by decide +kernel
theorem dX4_copyAllButNames_107 : decode cX4_copyAllButNames 107 = .ok (.iconst 0, 1) := by decide +kernel
theorem dX4_copyAllButNames_108 : decode cX4_copyAllButNames 108 = .ok (.bipush 16, 2) := by decide +kernel
theorem dX4_copyAllButNames_110 : decode cX4_copyAllButNames 110 = .ok (.invokestatic 55, 3) := by decide +kernel
theorem dX4_copyAllButNames_113 : decode cX4_copyAllButNames 113 = .ok (.aload_n 0, 1) := by decide +kernel
theorem dX4_copyAllButNames_114 : decode cX4_copyAllButNames 114 = .ok (.aload_n 1, 1) := by decide +kernel
theorem dX4_copyAllButNames_115 : decode cX4_copyAllButNames 115 = .ok (.getfield 65, 3) := by decide +kernel
theorem dX4_copyAllButNames_118 : decode cX4_copyAllButNames 118 = .ok (.putfield 65, 3) := by decide +kernel
theorem dX4_copyAllButNames_121 : decode cX4_copyAllButNames 121 = .ok (.aload_n 0, 1) := by decide +kernel
theorem dX4_copyAllButNames_122 : decode cX4_copyAllButNames 122 = .ok (.aload_n 1, 1) := by decide +kernel
theorem dX4_copyAllButNames_123 : decode cX4_copyAllButNames 123 = .ok (.getfield 68, 3) := by decide +kernel
theorem dX4_copyAllButNames_126 : decode cX4_copyAllButNames 126 = .ok (.putfield 68, 3) := by decide +kernel
theorem dX4_copyAllButNames_129 : decode cX4_copyAllButNames 129 = .ok (.aload_n 1, 1) := by decide +kernel
theorem dX4_copyAllButNames_130 : decode cX4_copyAllButNames 130 = .ok (.getfield 36, 3) := by decide +kernel
theorem dX4_copyAllButNames_133 : decode cX4_copyAllButNames 133 = .ok (.iconst 0, 1) := by decide +kernel
theorem dX4_copyAllButNames_134 : decode cX4_copyAllButNames 134 = .ok (.aload_n 0, 1) := by decide +kernel
theorem dX4_copyAllButNames_135 : decode cX4_copyAllButNames 135 = .ok (.getfield 36, 3) := by decide +kernel
theorem dX4_copyAllButNames_138 : decode cX4_copyAllButNames 138 = .ok (.iconst 0, 1) := by decide +kernel
theorem dX4_copyAllButNames_139 : decode cX4_copyAllButNames 139 = .ok (.bipush 12, 2) := by decide +kernel
theorem dX4_copyAllButNames_141 : decode cX4_copyAllButNames 141 = .ok (.invokestatic 55, 3) := by decide +kernel
theorem dX4_copyAllButNames_144 : decode cX4_copyAllButNames 144 = .ok (.aload_n 1, 1) := by decide +kernel
theorem dX4_copyAllButNames_145 : decode cX4_copyAllButNames 145 = .ok (.getfield 39, 3) := by decide +kernel
theorem dX4_copyAllButNames_148 : decode cX4_copyAllButNames 148 = .ok (.iconst 0, 1) := by decide +kernel
theorem dX4_copyAllButNames_149 : decode cX4_copyAllButNames 149 = .ok (.aload_n 0, 1) := by decide +kernel
theorem dX4_copyAllButNames_150 : decode cX4_copyAllButNames 150 = .ok (.getfield 39, 3) := by decide +kernel
theorem dX4_copyAllButNames_153 : decode cX4_copyAllButNames 153 = .ok (.iconst 0, 1) := by decide +kernel
theorem dX4_copyAllButNames_154 : decode cX4_copyAllButNames 154 = .ok (.bipush 12, 2) := by decide +kernel
theorem dX4_copyAllButNames_156 : decode cX4_copyAllButNames 156 = .ok (.invokestatic 55, 3) := by decide +kernel
theorem dX4_copyAllButNames_159 : decode cX4_copyAllButNames 159 = .ok (.return_, 1) := by decide +kernel
theorem dX4_hasPerson_0 : decode cX4_hasPerson 0 = .ok (.iload_n 1, 1) := by decide +kernel
theorem dX4_hasPerson_1 : decode cX4_hasPerson 1 = .ok (.ifCond .lt 15, 3) := by decide +kernel
theorem dX4_hasPerson_4 : decode cX4_hasPerson 4 = .ok (.iload_n 1, 1) := by decide +kernel
theorem dX4_hasPerson_5 : decode cX4_hasPerson 5 = .ok (.aload_n 0, 1) := by decide +kernel
theorem dX4_hasPerson_6 : decode cX4_hasPerson 6 = .ok (.getfield 61, 3) := by decide +kernel
theorem dX4_hasPerson_9 : decode cX4_hasPerson 9 = .ok (.if_icmp .ge 7, 3) := by decide +kernel
theorem dX4_hasPerson_12 : decode cX4_hasPerson 12 = .ok (.iconst 1, 1) := by decide +kernel
theorem dX4_hasPerson_13 : decode cX4_hasPerson 13 = .ok (.goto 4, 3) := by decide +kernel
theorem dX4_hasPerson_16 : decode cX4_hasPerson 16 = .ok (.iconst 0, 1) := by decide +kernel
theorem dX4_hasPerson_17 : decode cX4_hasPerson 17 = .ok (.ireturn, 1) := by decide +kernel
theorem dX4_hasMeeting_0 : decode cX4_hasMeeting 0 = .ok (.iload_n 1, 1) := by decide +kernel
theorem dX4_hasMeeting_1 : decode cX4_hasMeeting 1 = .ok (.ifCond .lt 15, 3) := by decide +kernel
theorem dX4_hasMeeting_4 : decode cX4_hasMeeting 4 = .ok (.iload_n 1, 1) := by decide +kernel
theorem dX4_hasMeeting_5 : decode cX4_hasMeeting 5 = .ok (.aload_n 0, 1) := by decide +kernel
theorem dX4_hasMeeting_6 : decode cX4_hasMeeting 6 = .ok (.getfield 65, 3) := by decide +kernel
theorem dX4_hasMeeting_9 : decode cX4_hasMeeting 9 = .ok (.if_icmp .ge 7, 3) := by decide +kernel
theorem dX4_hasMeeting_12 : decode cX4_hasMeeting 12 = .ok (.iconst 1, 1) := by decide +kernel
theorem dX4_hasMeeting_13 : decode cX4_hasMeeting 13 = .ok (.goto 4, 3) := by decide +kernel
theorem dX4_hasMeeting_16 : decode cX4_hasMeeting 16 = .ok (.iconst 0, 1) := by decide +kernel
theorem dX4_hasMeeting_17 : decode cX4_hasMeeting 17 = .ok (.ireturn, 1) := by decide +kernel
theorem dX4_come_0 : decode cX4_come 0 = .ok (.aload_n 0, 1) := by decide +kernel
theorem dX4_come_1 : decode cX4_come 1 = .ok (.getfield 61, 3) := by decide +kernel
theorem dX4_come_4 : decode cX4_come 4 = .ok (.bipush 12, 2) := by decide +kernel
theorem dX4_come_6 : decode cX4_come 6 = .ok (.if_icmp .lt 6, 3) := by decide +kernel
theorem dX4_come_9 : decode cX4_come 9 = .ok (.bipush (-3), 2) := by decide +kernel
theorem dX4_come_11 : decode cX4_come 11 = .ok (.ireturn, 1) := by decide +kernel
theorem dX4_come_12 : decode cX4_come 12 = .ok (.aload_n 0, 1) := by decide +kernel
theorem dX4_come_13 : decode cX4_come 13 = .ok (.getfield 61, 3) := by decide +kernel
theorem dX4_come_16 : decode cX4_come 16 = .ok (.istore 4, 2) := by decide +kernel
theorem dX4_come_18 : decode cX4_come 18 = .ok (.aload_n 0, 1) := by decide +kernel
theorem dX4_come_19 : decode cX4_come 19 = .ok (.getfield 61, 3) := by decide +kernel
theorem dX4_come_22 : decode cX4_come 22 = .ok (.iconst 1, 1) := by decide +kernel
theorem dX4_come_23 : decode cX4_come 23 = .ok (.isub, 1) := by decide +kernel
theorem dX4_come_24 : decode cX4_come 24 = .ok (.istore 5, 2) := by decide +kernel
theorem dX4_come_26 : decode cX4_come 26 = .ok (.iload 5, 2) := by decide +kernel
theorem dX4_come_28 : decode cX4_come 28 = .ok (.ifCond .lt 45, 3) := by decide +kernel
theorem dX4_come_31 : decode cX4_come 31 = .ok (.aload_n 0, 1) := by decide +kernel
theorem dX4_come_32 : decode cX4_come 32 = .ok (.getfield 9, 3) := by decide +kernel
theorem dX4_come_35 : decode cX4_come 35 = .ok (.aload_n 0, 1) := by decide +kernel
theorem dX4_come_36 : decode cX4_come 36 = .ok (.getfield 21, 3) := by decide +kernel
theorem dX4_come_39 : decode cX4_come 39 = .ok (.iload 5, 2) := by decide +kernel
theorem dX4_come_41 : decode cX4_come 41 = .ok (.iaload, 1) := by decide +kernel
theorem dX4_come_42 : decode cX4_come 42 = .ok (.iaload, 1) := by decide +kernel
theorem dX4_come_43 : decode cX4_come 43 = .ok (.iload_n 1, 1) := by decide +kernel
theorem dX4_come_44 : decode cX4_come 44 = .ok (.if_icmp .le 29, 3) := by decide +kernel
theorem dX4_come_47 : decode cX4_come 47 = .ok (.aload_n 0, 1) := by decide +kernel
theorem dX4_come_48 : decode cX4_come 48 = .ok (.getfield 21, 3) := by decide +kernel
theorem dX4_come_51 : decode cX4_come 51 = .ok (.iload 5, 2) := by decide +kernel
theorem dX4_come_53 : decode cX4_come 53 = .ok (.iconst 1, 1) := by decide +kernel
theorem dX4_come_54 : decode cX4_come 54 = .ok (.iadd, 1) := by decide +kernel
theorem dX4_come_55 : decode cX4_come 55 = .ok (.aload_n 0, 1) := by decide +kernel
theorem dX4_come_56 : decode cX4_come 56 = .ok (.getfield 21, 3) := by decide +kernel
theorem dX4_come_59 : decode cX4_come 59 = .ok (.iload 5, 2) := by decide +kernel
theorem dX4_come_61 : decode cX4_come 61 = .ok (.iaload, 1) := by decide +kernel
theorem dX4_come_62 : decode cX4_come 62 = .ok (.iastore, 1) := by decide +kernel
theorem dX4_come_63 : decode cX4_come 63 = .ok (.iload 5, 2) := by decide +kernel
theorem dX4_come_65 : decode cX4_come 65 = .ok (.istore 4, 2) := by decide +kernel
theorem dX4_come_67 : decode cX4_come 67 = .ok (.iinc 5 (-1), 3) := by decide +kernel
theorem dX4_come_70 : decode cX4_come 70 = .ok (.goto (-44), 3) := by decide +kernel
theorem dX4_come_73 : decode cX4_come 73 = .ok (.aload_n 0, 1) := by decide +kernel
theorem dX4_come_74 : decode cX4_come 74 = .ok (.getfield 21, 3) := by decide +kernel
theorem dX4_come_77 : decode cX4_come 77 = .ok (.iload 4, 2) := by decide +kernel
theorem dX4_come_79 : decode cX4_come 79 = .ok (.aload_n 0, 1) := by decide +kernel
theorem dX4_come_80 : decode cX4_come 80 = .ok (.getfield 61, 3) := by decide +kernel
theorem dX4_come_83 : decode cX4_come 83 = .ok (.iastore, 1) := by decide +kernel
theorem dX4_come_84 : decode cX4_come 84 = .ok (.aload_n 0, 1) := by decide +kernel
theorem dX4_come_85 : decode cX4_come 85 = .ok (.getfield 9, 3) := by decide +kernel
theorem dX4_come_88 : decode cX4_come 88 = .ok (.aload_n 0, 1) := by decide +kernel
theorem dX4_come_89 : decode cX4_come 89 = .ok (.getfield 61, 3) := by decide +kernel
theorem dX4_come_92 : decode cX4_come 92 = .ok (.iload_n 1, 1) := by decide +kernel
theorem dX4_come_93 : decode cX4_come 93 = .ok (.iastore, 1) := by decide +kernel
theorem dX4_come_94 : decode cX4_come 94 = .ok (.aload_n 0, 1) := by decide +kernel
theorem dX4_come_95 : decode cX4_come 95 = .ok (.getfield 15, 3) := by decide +kernel
theorem dX4_come_98 : decode cX4_come 98 = .ok (.aload_n 0, 1) := by decide +kernel
theorem dX4_come_99 : decode cX4_come 99 = .ok (.getfield 61, 3) := by decide +kernel
theorem dX4_come_102 : decode cX4_come 102 = .ok (.iload_n 2, 1) := by decide +kernel
theorem dX4_come_103 : decode cX4_come 103 = .ok (.iastore, 1) := by decide +kernel
theorem dX4_come_104 : decode cX4_come 104 = .ok (.aload_n 0, 1) := by decide +kernel
theorem dX4_come_105 : decode cX4_come 105 = .ok (.getfield 18, 3) := by decide +kernel
theorem dX4_come_108 : decode cX4_come 108 = .ok (.aload_n 0, 1) := by decide +kernel
theorem dX4_come_109 : decode cX4_come 109 = .ok (.getfield 61, 3) := by decide +kernel
theorem dX4_come_112 : decode cX4_come 112 = .ok (.iload_n 3, 1) := by decide +kernel
theorem dX4_come_113 : decode cX4_come 113 = .ok (.iastore, 1) := by decide +kernel
theorem dX4_come_114 : decode cX4_come 114 = .ok (.aload_n 0, 1) := by decide +kernel
theorem dX4_come_115 : decode cX4_come 115 = .ok (.dup, 1) := by decide +kernel
theorem dX4_come_116 : decode cX4_come 116 = .ok (.getfield 61, 3) := by decide +kernel
theorem dX4_come_119 : decode cX4_come 119 = .ok (.dup_x1, 1) := by decide +kernel
theorem dX4_come_120 : decode cX4_come 120 = .ok (.iconst 1, 1) := by decide +kernel
theorem dX4_come_121 : decode cX4_come 121 = .ok (.iadd, 1) := by decide +kernel
theorem dX4_come_122 : decode cX4_come 122 = .ok (.putfield 61, 3) := by decide +kernel
theorem dX4_come_125 : decode cX4_come 125 = .ok (.ireturn, 1) := by decide +kernel
theorem dX4_placeOf_0 : decode cX4_placeOf 0 = .ok (.iconst 0, 1) := by decide +kernel
theorem dX4_placeOf_1 : decode cX4_placeOf 1 = .ok (.istore_n 2, 1) := by decide +kernel
theorem dX4_placeOf_2 : decode cX4_placeOf 2 = .ok (.iload_n 2, 1) := by decide +kernel
theorem dX4_placeOf_3 : decode cX4_placeOf 3 = .ok (.aload_n 0, 1) := by decide +kernel
theorem dX4_placeOf_4 : decode cX4_placeOf 4 = .ok (.getfield 61, 3) := by decide +kernel
theorem dX4_placeOf_7 : decode cX4_placeOf 7 = .ok (.if_icmp .ge 21, 3) := by decide +kernel
theorem dX4_placeOf_10 : decode cX4_placeOf 10 = .ok (.aload_n 0, 1) := by decide +kernel
theorem dX4_placeOf_11 : decode cX4_placeOf 11 = .ok (.getfield 21, 3) := by decide +kernel
theorem dX4_placeOf_14 : decode cX4_placeOf 14 = .ok (.iload_n 2, 1) := by decide +kernel
theorem dX4_placeOf_15 : decode cX4_placeOf 15 = .ok (.iaload, 1) := by decide +kernel
theorem dX4_placeOf_16 : decode cX4_placeOf 16 = .ok (.iload_n 1, 1) := by decide +kernel
theorem dX4_placeOf_17 : decode cX4_placeOf 17 = .ok (.if_icmp .ne 5, 3) := by decide +kernel
theorem dX4_placeOf_20 : decode cX4_placeOf 20 = .ok (.iload_n 2, 1) := by decide +kernel
theorem dX4_placeOf_21 : decode cX4_placeOf 21 = .ok (.ireturn, 1) := by decide +kernel
theorem dX4_placeOf_22 : decode cX4_placeOf 22 = .ok (.iinc 2 1, 3) := by decide +kernel
theorem dX4_placeOf_25 : decode cX4_placeOf 25 = .ok (.goto (-23), 3) := by decide +kernel
theorem dX4_placeOf_28 : decode cX4_placeOf 28 = .ok (.aload_n 0, 1) := by decide +kernel
theorem dX4_placeOf_29 : decode cX4_placeOf 29 = .ok (.getfield 61, 3) := by decide +kernel
theorem dX4_placeOf_32 : decode cX4_placeOf 32 = .ok (.ireturn, 1) := by decide +kernel
theorem dX4_lives_0 : decode cX4_lives 0 = .ok (.aload_n 0, 1) := by decide +kernel
theorem dX4_lives_1 : decode cX4_lives 1 = .ok (.getfield 9, 3) := by decide +kernel
theorem dX4_lives_4 : decode cX4_lives 4 = .ok (.iload_n 1, 1) := by decide +kernel
theorem dX4_lives_5 : decode cX4_lives 5 = .ok (.iaload, 1) := by decide +kernel
theorem dX4_lives_6 : decode cX4_lives 6 = .ok (.iload_n 2, 1) := by decide +kernel
theorem dX4_lives_7 : decode cX4_lives 7 = .ok (.if_icmp .gt 17, 3) := by decide +kernel
theorem dX4_lives_10 : decode cX4_lives 10 = .ok (.iload_n 2, 1) := by decide +kernel
theorem dX4_lives_11 : decode cX4_lives 11 = .ok (.aload_n 0, 1) := by decide +kernel
theorem dX4_lives_12 : decode cX4_lives 12 = .ok (.getfield 15, 3) := by decide +kernel
theorem dX4_lives_15 : decode cX4_lives 15 = .ok (.iload_n 1, 1) := by decide +kernel
theorem dX4_lives_16 : decode cX4_lives 16 = .ok (.iaload, 1) := by decide +kernel
theorem dX4_lives_17 : decode cX4_lives 17 = .ok (.if_icmp .ge 7, 3) := by decide +kernel
theorem dX4_lives_20 : decode cX4_lives 20 = .ok (.iconst 1, 1) := by decide +kernel
theorem dX4_lives_21 : decode cX4_lives 21 = .ok (.goto 4, 3) := by decide +kernel
theorem dX4_lives_24 : decode cX4_lives 24 = .ok (.iconst 0, 1) := by decide +kernel
theorem dX4_lives_25 : decode cX4_lives 25 = .ok (.ireturn, 1) := by decide +kernel
theorem dX4_livingIn_0 : decode cX4_livingIn 0 = .ok (.iconst 0, 1) := by decide +kernel
theorem dX4_livingIn_1 : decode cX4_livingIn 1 = .ok (.istore_n 2, 1) := by decide +kernel
theorem dX4_livingIn_2 : decode cX4_livingIn 2 = .ok (.iconst 0, 1) := by decide +kernel
theorem dX4_livingIn_3 : decode cX4_livingIn 3 = .ok (.istore_n 3, 1) := by decide +kernel
theorem dX4_livingIn_4 : decode cX4_livingIn 4 = .ok (.iload_n 3, 1) := by decide +kernel
theorem dX4_livingIn_5 : decode cX4_livingIn 5 = .ok (.aload_n 0, 1) := by decide +kernel
theorem dX4_livingIn_6 : decode cX4_livingIn 6 = .ok (.getfield 61, 3) := by decide +kernel
theorem dX4_livingIn_9 : decode cX4_livingIn 9 = .ok (.if_icmp .ge 24, 3) := by decide +kernel
theorem dX4_livingIn_12 : decode cX4_livingIn 12 = .ok (.aload_n 0, 1) := by decide +kernel
theorem dX4_livingIn_13 : decode cX4_livingIn 13 = .ok (.iload_n 3, 1) := by decide +kernel
theorem dX4_livingIn_14 : decode cX4_livingIn 14 = .ok (.iload_n 1, 1) := by decide +kernel
theorem dX4_livingIn_15 : decode cX4_livingIn 15 = .ok (.invokevirtual 71, 3) := by decide +kernel
theorem dX4_livingIn_18 : decode cX4_livingIn 18 = .ok (.ifCond .eq 9, 3) := by decide +kernel
theorem dX4_livingIn_21 : decode cX4_livingIn 21 = .ok (.iload_n 2, 1) := by decide +kernel
theorem dX4_livingIn_22 : decode cX4_livingIn 22 = .ok (.iconst 1, 1) := by decide +kernel
theorem dX4_livingIn_23 : decode cX4_livingIn 23 = .ok (.iload_n 3, 1) := by decide +kernel
theorem dX4_livingIn_24 : decode cX4_livingIn 24 = .ok (.ishl, 1) := by decide +kernel
theorem dX4_livingIn_25 : decode cX4_livingIn 25 = .ok (.ior, 1) := by decide +kernel
theorem dX4_livingIn_26 : decode cX4_livingIn 26 = .ok (.istore_n 2, 1) := by decide +kernel
theorem dX4_livingIn_27 : decode cX4_livingIn 27 = .ok (.iinc 3 1, 3) := by decide +kernel
theorem dX4_livingIn_30 : decode cX4_livingIn 30 = .ok (.goto (-26), 3) := by decide +kernel
theorem dX4_livingIn_33 : decode cX4_livingIn 33 = .ok (.iload_n 2, 1) := by decide +kernel
theorem dX4_livingIn_34 : decode cX4_livingIn 34 = .ok (.ireturn, 1) := by decide +kernel
theorem dX4_mayMeet_0 : decode cX4_mayMeet 0 = .ok (.aload_n 0, 1) := by decide +kernel
theorem dX4_mayMeet_1 : decode cX4_mayMeet 1 = .ok (.iload_n 1, 1) := by decide +kernel
theorem dX4_mayMeet_2 : decode cX4_mayMeet 2 = .ok (.invokevirtual 75, 3) := by decide +kernel
theorem dX4_mayMeet_5 : decode cX4_mayMeet 5 = .ok (.ifCond .eq 38, 3) := by decide +kernel
theorem dX4_mayMeet_8 : decode cX4_mayMeet 8 = .ok (.aload_n 0, 1) := by decide +kernel
theorem dX4_mayMeet_9 : decode cX4_mayMeet 9 = .ok (.iload_n 2, 1) := by decide +kernel
theorem dX4_mayMeet_10 : decode cX4_mayMeet 10 = .ok (.invokevirtual 75, 3) := by decide +kernel
theorem dX4_mayMeet_13 : decode cX4_mayMeet 13 = .ok (.ifCond .eq 30, 3) := by decide +kernel
theorem dX4_mayMeet_16 : decode cX4_mayMeet 16 = .ok (.iload_n 1, 1) := by decide +kernel
theorem dX4_mayMeet_17 : decode cX4_mayMeet 17 = .ok (.iload_n 2, 1) := by decide +kernel
theorem dX4_mayMeet_18 : decode cX4_mayMeet 18 = .ok (.if_icmp .eq 25, 3) := by decide +kernel
theorem dX4_mayMeet_21 : decode cX4_mayMeet 21 = .ok (.aload_n 0, 1) := by decide +kernel
theorem dX4_mayMeet_22 : decode cX4_mayMeet 22 = .ok (.iload_n 1, 1) := by decide +kernel
theorem dX4_mayMeet_23 : decode cX4_mayMeet 23 = .ok (.iload_n 3, 1) := by decide +kernel
theorem dX4_mayMeet_24 : decode cX4_mayMeet 24 = .ok (.invokevirtual 71, 3) := by decide +kernel
theorem dX4_mayMeet_27 : decode cX4_mayMeet 27 = .ok (.ifCond .eq 16, 3) := by decide +kernel
theorem dX4_mayMeet_30 : decode cX4_mayMeet 30 = .ok (.aload_n 0, 1) := by decide +kernel
theorem dX4_mayMeet_31 : decode cX4_mayMeet 31 = .ok (.iload_n 2, 1) := by decide +kernel
theorem dX4_mayMeet_32 : decode cX4_mayMeet 32 = .ok (.iload_n 3, 1) := by decide +kernel
theorem dX4_mayMeet_33 : decode cX4_mayMeet 33 = .ok (.invokevirtual 71, 3) := by decide +kernel
theorem dX4_mayMeet_36 : decode cX4_mayMeet 36 = .ok (.ifCond .eq 7, 3) := by decide +kernel
theorem dX4_mayMeet_39 : decode cX4_mayMeet 39 = .ok (.iconst 1, 1) := by decide +kernel
theorem dX4_mayMeet_40 : decode cX4_mayMeet 40 = .ok (.goto 4, 3) := by decide +kernel
theorem dX4_mayMeet_43 : decode cX4_mayMeet 43 = .ok (.iconst 0, 1) := by decide +kernel
theorem dX4_mayMeet_44 : decode cX4_mayMeet 44 = .ok (.ireturn, 1) := by decide +kernel
theorem dX4_addMeeting_0 : decode cX4_addMeeting 0 = .ok (.aload_n 0, 1) := by decide +kernel
theorem dX4_addMeeting_1 : decode cX4_addMeeting 1 = .ok (.getfield 65, 3) := by decide +kernel
theorem dX4_addMeeting_4 : decode cX4_addMeeting 4 = .ok (.bipush 16, 2) := by decide +kernel
theorem dX4_addMeeting_6 : decode cX4_addMeeting 6 = .ok (.if_icmp .lt 6, 3) := by decide +kernel
theorem dX4_addMeeting_9 : decode cX4_addMeeting 9 = .ok (.bipush (-3), 2) := by decide +kernel
theorem dX4_addMeeting_11 : decode cX4_addMeeting 11 = .ok (.ireturn, 1) := by decide +kernel
theorem dX4_addMeeting_12 : decode cX4_addMeeting 12 = .ok (.aload_n 0, 1) := by decide +kernel
theorem dX4_addMeeting_13 : decode cX4_addMeeting 13 = .ok (.getfield 65, 3) := by decide +kernel
theorem dX4_addMeeting_16 : decode cX4_addMeeting 16 = .ok (.istore 4, 2) := by decide +kernel
theorem dX4_addMeeting_18 : decode cX4_addMeeting 18 = .ok (.aload_n 0, 1) := by decide +kernel
theorem dX4_addMeeting_19 : decode cX4_addMeeting 19 = .ok (.getfield 65, 3) := by decide +kernel
theorem dX4_addMeeting_22 : decode cX4_addMeeting 22 = .ok (.iconst 1, 1) := by decide +kernel
theorem dX4_addMeeting_23 : decode cX4_addMeeting 23 = .ok (.isub, 1) := by decide +kernel
theorem dX4_addMeeting_24 : decode cX4_addMeeting 24 = .ok (.istore 5, 2) := by decide +kernel
theorem dX4_addMeeting_26 : decode cX4_addMeeting 26 = .ok (.iload 5, 2) := by decide +kernel
theorem dX4_addMeeting_28 : decode cX4_addMeeting 28 = .ok (.ifCond .lt 45, 3) := by decide +kernel
theorem dX4_addMeeting_31 : decode cX4_addMeeting 31 = .ok (.aload_n 0, 1) := by decide +kernel
theorem dX4_addMeeting_32 : decode cX4_addMeeting 32 = .ok (.getfield 30, 3) := by decide +kernel
theorem dX4_addMeeting_35 : decode cX4_addMeeting 35 = .ok (.aload_n 0, 1) := by decide +kernel
theorem dX4_addMeeting_36 : decode cX4_addMeeting 36 = .ok (.getfield 33, 3) := by decide +kernel
theorem dX4_addMeeting_39 : decode cX4_addMeeting 39 = .ok (.iload 5, 2) := by decide +kernel
theorem dX4_addMeeting_41 : decode cX4_addMeeting 41 = .ok (.iaload, 1) := by decide +kernel
theorem dX4_addMeeting_42 : decode cX4_addMeeting 42 = .ok (.iaload, 1) := by decide +kernel
theorem dX4_addMeeting_43 : decode cX4_addMeeting 43 = .ok (.iload_n 3, 1) := by decide +kernel
theorem dX4_addMeeting_44 : decode cX4_addMeeting 44 = .ok (.if_icmp .le 29, 3) := by decide +kernel
theorem dX4_addMeeting_47 : decode cX4_addMeeting 47 = .ok (.aload_n 0, 1) := by decide +kernel
theorem dX4_addMeeting_48 : decode cX4_addMeeting 48 = .ok (.getfield 33, 3) := by decide +kernel
theorem dX4_addMeeting_51 : decode cX4_addMeeting 51 = .ok (.iload 5, 2) := by decide +kernel
theorem dX4_addMeeting_53 : decode cX4_addMeeting 53 = .ok (.iconst 1, 1) := by decide +kernel
theorem dX4_addMeeting_54 : decode cX4_addMeeting 54 = .ok (.iadd, 1) := by decide +kernel
theorem dX4_addMeeting_55 : decode cX4_addMeeting 55 = .ok (.aload_n 0, 1) := by decide +kernel
theorem dX4_addMeeting_56 : decode cX4_addMeeting 56 = .ok (.getfield 33, 3) := by decide +kernel
theorem dX4_addMeeting_59 : decode cX4_addMeeting 59 = .ok (.iload 5, 2) := by decide +kernel
theorem dX4_addMeeting_61 : decode cX4_addMeeting 61 = .ok (.iaload, 1) := by decide +kernel
theorem dX4_addMeeting_62 : decode cX4_addMeeting 62 = .ok (.iastore, 1) := by decide +kernel
theorem dX4_addMeeting_63 : decode cX4_addMeeting 63 = .ok (.iload 5, 2) := by decide +kernel
theorem dX4_addMeeting_65 : decode cX4_addMeeting 65 = .ok (.istore 4, 2) := by decide +kernel
theorem dX4_addMeeting_67 : decode cX4_addMeeting 67 = .ok (.iinc 5 (-1), 3) := by decide +kernel
theorem dX4_addMeeting_70 : decode cX4_addMeeting 70 = .ok (.goto (-44), 3) := by decide +kernel
theorem dX4_addMeeting_73 : decode cX4_addMeeting 73 = .ok (.aload_n 0, 1) := by decide +kernel
theorem dX4_addMeeting_74 : decode cX4_addMeeting 74 = .ok (.getfield 33, 3) := by decide +kernel
theorem dX4_addMeeting_77 : decode cX4_addMeeting 77 = .ok (.iload 4, 2) := by decide +kernel
theorem dX4_addMeeting_79 : decode cX4_addMeeting 79 = .ok (.aload_n 0, 1) := by decide +kernel
theorem dX4_addMeeting_80 : decode cX4_addMeeting 80 = .ok (.getfield 65, 3) := by decide +kernel
theorem dX4_addMeeting_83 : decode cX4_addMeeting 83 = .ok (.iastore, 1) := by decide +kernel
theorem dX4_addMeeting_84 : decode cX4_addMeeting 84 = .ok (.aload_n 0, 1) := by decide +kernel
theorem dX4_addMeeting_85 : decode cX4_addMeeting 85 = .ok (.getfield 24, 3) := by decide +kernel
theorem dX4_addMeeting_88 : decode cX4_addMeeting 88 = .ok (.aload_n 0, 1) := by decide +kernel
theorem dX4_addMeeting_89 : decode cX4_addMeeting 89 = .ok (.getfield 65, 3) := by decide +kernel
theorem dX4_addMeeting_92 : decode cX4_addMeeting 92 = .ok (.iload_n 1, 1) := by decide +kernel
theorem dX4_addMeeting_93 : decode cX4_addMeeting 93 = .ok (.iastore, 1) := by decide +kernel
theorem dX4_addMeeting_94 : decode cX4_addMeeting 94 = .ok (.aload_n 0, 1) := by decide +kernel
theorem dX4_addMeeting_95 : decode cX4_addMeeting 95 = .ok (.getfield 27, 3) := by decide +kernel
theorem dX4_addMeeting_98 : decode cX4_addMeeting 98 = .ok (.aload_n 0, 1) := by decide +kernel
theorem dX4_addMeeting_99 : decode cX4_addMeeting 99 = .ok (.getfield 65, 3) := by decide +kernel
theorem dX4_addMeeting_102 : decode cX4_addMeeting 102 = .ok (.iload_n 2, 1) := by decide +kernel
theorem dX4_addMeeting_103 : decode cX4_addMeeting 103 = .ok (.iastore, 1) := by decide +kernel
theorem dX4_addMeeting_104 : decode cX4_addMeeting 104 = .ok (.aload_n 0, 1) := by decide +kernel
theorem dX4_addMeeting_105 : decode cX4_addMeeting 105 = .ok (.getfield 30, 3) := by decide +kernel
theorem dX4_addMeeting_108 : decode cX4_addMeeting 108 = .ok (.aload_n 0, 1) := by decide +kernel
theorem dX4_addMeeting_109 : decode cX4_addMeeting 109 = .ok (.getfield 65, 3) := by decide +kernel
theorem dX4_addMeeting_112 : decode cX4_addMeeting 112 = .ok (.iload_n 3, 1) := by decide +kernel
theorem dX4_addMeeting_113 : decode cX4_addMeeting 113 = .ok (.iastore, 1) := by decide +kernel
theorem dX4_addMeeting_114 : decode cX4_addMeeting 114 = .ok (.aload_n 0, 1) := by decide +kernel
theorem dX4_addMeeting_115 : decode cX4_addMeeting 115 = .ok (.dup, 1) := by decide +kernel
theorem dX4_addMeeting_116 : decode cX4_addMeeting 116 = .ok (.getfield 65, 3) := by decide +kernel
theorem dX4_addMeeting_119 : decode cX4_addMeeting 119 = .ok (.dup_x1, 1) := by decide +kernel
theorem dX4_addMeeting_120 : decode cX4_addMeeting 120 = .ok (.iconst 1, 1) := by decide +kernel
theorem dX4_addMeeting_121 : decode cX4_addMeeting 121 = .ok (.iadd, 1) := by decide +kernel
theorem dX4_addMeeting_122 : decode cX4_addMeeting 122 = .ok (.putfield 65, 3) := by decide +kernel
theorem dX4_addMeeting_125 : decode cX4_addMeeting 125 = .ok (.ireturn, 1) := by decide +kernel
theorem dX4_counts_0 : decode cX4_counts 0 = .ok (.aload_n 0, 1) := by decide +kernel
theorem dX4_counts_1 : decode cX4_counts 1 = .ok (.aload_n 0, 1) := by decide +kernel
theorem dX4_counts_2 : decode cX4_counts 2 = .ok (.getfield 24, 3) := by decide +kernel
theorem dX4_counts_5 : decode cX4_counts 5 = .ok (.iload_n 1, 1) := by decide +kernel
theorem dX4_counts_6 : decode cX4_counts 6 = .ok (.iaload, 1) := by decide +kernel
theorem dX4_counts_7 : decode cX4_counts 7 = .ok (.aload_n 0, 1) := by decide +kernel
theorem dX4_counts_8 : decode cX4_counts 8 = .ok (.getfield 30, 3) := by decide +kernel
theorem dX4_counts_11 : decode cX4_counts 11 = .ok (.iload_n 1, 1) := by decide +kernel
theorem dX4_counts_12 : decode cX4_counts 12 = .ok (.iaload, 1) := by decide +kernel
theorem dX4_counts_13 : decode cX4_counts 13 = .ok (.invokevirtual 71, 3) := by decide +kernel
theorem dX4_counts_16 : decode cX4_counts 16 = .ok (.ifCond .eq 26, 3) := by decide +kernel
theorem dX4_counts_19 : decode cX4_counts 19 = .ok (.aload_n 0, 1) := by decide +kernel
theorem dX4_counts_20 : decode cX4_counts 20 = .ok (.aload_n 0, 1) := by decide +kernel
theorem dX4_counts_21 : decode cX4_counts 21 = .ok (.getfield 27, 3) := by decide +kernel
theorem dX4_counts_24 : decode cX4_counts 24 = .ok (.iload_n 1, 1) := by decide +kernel
theorem dX4_counts_25 : decode cX4_counts 25 = .ok (.iaload, 1) := by decide +kernel
theorem dX4_counts_26 : decode cX4_counts 26 = .ok (.aload_n 0, 1) := by decide +kernel
theorem dX4_counts_27 : decode cX4_counts 27 = .ok (.getfield 30, 3) := by decide +kernel
theorem dX4_counts_30 : decode cX4_counts 30 = .ok (.iload_n 1, 1) := by decide +kernel
theorem dX4_counts_31 : decode cX4_counts 31 = .ok (.iaload, 1) := by decide +kernel
theorem dX4_counts_32 : decode cX4_counts 32 = .ok (.invokevirtual 71, 3) := by decide +kernel
theorem dX4_counts_35 : decode cX4_counts 35 = .ok (.ifCond .eq 7, 3) := by decide +kernel
theorem dX4_counts_38 : decode cX4_counts 38 = .ok (.iconst 1, 1) := by decide +kernel
theorem dX4_counts_39 : decode cX4_counts 39 = .ok (.goto 4, 3) := by decide +kernel
theorem dX4_counts_42 : decode cX4_counts 42 = .ok (.iconst 0, 1) := by decide +kernel
theorem dX4_counts_43 : decode cX4_counts 43 = .ok (.ireturn, 1) := by decide +kernel
theorem dX4_countsBy_0 : decode cX4_countsBy 0 = .ok (.aload_n 0, 1) := by decide +kernel
theorem dX4_countsBy_1 : decode cX4_countsBy 1 = .ok (.getfield 30, 3) := by decide +kernel
theorem dX4_countsBy_4 : decode cX4_countsBy 4 = .ok (.iload_n 1, 1) := by decide +kernel
theorem dX4_countsBy_5 : decode cX4_countsBy 5 = .ok (.iaload, 1) := by decide +kernel
theorem dX4_countsBy_6 : decode cX4_countsBy 6 = .ok (.iload_n 2, 1) := by decide +kernel
theorem dX4_countsBy_7 : decode cX4_countsBy 7 = .ok (.if_icmp .gt 15, 3) := by decide +kernel
theorem dX4_countsBy_10 : decode cX4_countsBy 10 = .ok (.aload_n 0, 1) := by decide +kernel
theorem dX4_countsBy_11 : decode cX4_countsBy 11 = .ok (.iload_n 1, 1) := by decide +kernel
theorem dX4_countsBy_12 : decode cX4_countsBy 12 = .ok (.invokevirtual 79, 3) := by decide +kernel
theorem dX4_countsBy_15 : decode cX4_countsBy 15 = .ok (.ifCond .eq 7, 3) := by decide +kernel
theorem dX4_countsBy_18 : decode cX4_countsBy 18 = .ok (.iconst 1, 1) := by decide +kernel
theorem dX4_countsBy_19 : decode cX4_countsBy 19 = .ok (.goto 4, 3) := by decide +kernel
theorem dX4_countsBy_22 : decode cX4_countsBy 22 = .ok (.iconst 0, 1) := by decide +kernel
theorem dX4_countsBy_23 : decode cX4_countsBy 23 = .ok (.ireturn, 1) := by decide +kernel
theorem dX4_learnUpTo_0 : decode cX4_learnUpTo 0 = .ok (.aload_n 0, 1) := by decide +kernel
theorem dX4_learnUpTo_1 : decode cX4_learnUpTo 1 = .ok (.invokevirtual 82, 3) := by decide +kernel
theorem dX4_learnUpTo_4 : decode cX4_learnUpTo 4 = .ok (.iconst 0, 1) := by decide +kernel
theorem dX4_learnUpTo_5 : decode cX4_learnUpTo 5 = .ok (.istore_n 2, 1) := by decide +kernel
theorem dX4_learnUpTo_6 : decode cX4_learnUpTo 6 = .ok (.iload_n 2, 1) := by decide +kernel
theorem dX4_learnUpTo_7 : decode cX4_learnUpTo 7 = .ok (.aload_n 0, 1) := by decide +kernel
theorem dX4_learnUpTo_8 : decode cX4_learnUpTo 8 = .ok (.getfield 65, 3) := by decide +kernel
theorem dX4_learnUpTo_11 : decode cX4_learnUpTo 11 = .ok (.if_icmp .ge 33, 3) := by decide +kernel
theorem dX4_learnUpTo_14 : decode cX4_learnUpTo 14 = .ok (.aload_n 0, 1) := by decide +kernel
theorem dX4_learnUpTo_15 : decode cX4_learnUpTo 15 = .ok (.aload_n 0, 1) := by decide +kernel
theorem dX4_learnUpTo_16 : decode cX4_learnUpTo 16 = .ok (.getfield 33, 3) := by decide +kernel
theorem dX4_learnUpTo_19 : decode cX4_learnUpTo 19 = .ok (.iload_n 2, 1) := by decide +kernel
theorem dX4_learnUpTo_20 : decode cX4_learnUpTo 20 = .ok (.iaload, 1) := by decide +kernel
theorem dX4_learnUpTo_21 : decode cX4_learnUpTo 21 = .ok (.iload_n 1, 1) := by decide +kernel
theorem dX4_learnUpTo_22 : decode cX4_learnUpTo 22 = .ok (.invokevirtual 85, 3) := by decide +kernel
theorem dX4_learnUpTo_25 : decode cX4_learnUpTo 25 = .ok (.ifCond .eq 13, 3) := by decide +kernel
theorem dX4_learnUpTo_28 : decode cX4_learnUpTo 28 = .ok (.aload_n 0, 1) := by decide +kernel
theorem dX4_learnUpTo_29 : decode cX4_learnUpTo 29 = .ok (.aload_n 0, 1) := by decide +kernel
theorem dX4_learnUpTo_30 : decode cX4_learnUpTo 30 = .ok (.getfield 33, 3) := by decide +kernel
theorem dX4_learnUpTo_33 : decode cX4_learnUpTo 33 = .ok (.iload_n 2, 1) := by decide +kernel
theorem dX4_learnUpTo_34 : decode cX4_learnUpTo 34 = .ok (.iaload, 1) := by decide +kernel
theorem dX4_learnUpTo_35 : decode cX4_learnUpTo 35 = .ok (.invokevirtual 88, 3) := by decide +kernel
theorem dX4_learnUpTo_38 : decode cX4_learnUpTo 38 = .ok (.iinc 2 1, 3) := by decide +kernel
theorem dX4_learnUpTo_41 : decode cX4_learnUpTo 41 = .ok (.goto (-35), 3) := by decide +kernel
theorem dX4_learnUpTo_44 : decode cX4_learnUpTo 44 = .ok (.return_, 1) := by decide +kernel
theorem dX4_knowOneself_0 : decode cX4_knowOneself 0 = .ok (.iconst 0, 1) := by decide +kernel
theorem dX4_knowOneself_1 : decode cX4_knowOneself 1 = .ok (.istore_n 1, 1) := by decide +kernel
theorem dX4_knowOneself_2 : decode cX4_knowOneself 2 = .ok (.iload_n 1, 1) := by decide +kernel
theorem dX4_knowOneself_3 : decode cX4_knowOneself 3 = .ok (.aload_n 0, 1) := by decide +kernel
theorem dX4_knowOneself_4 : decode cX4_knowOneself 4 = .ok (.getfield 61, 3) := by decide +kernel
theorem dX4_knowOneself_7 : decode cX4_knowOneself 7 = .ok (.if_icmp .ge 18, 3) := by decide +kernel
theorem dX4_knowOneself_10 : decode cX4_knowOneself 10 = .ok (.aload_n 0, 1) := by decide +kernel
theorem dX4_knowOneself_11 : decode cX4_knowOneself 11 = .ok (.getfield 42, 3) := by decide +kernel
theorem dX4_knowOneself_14 : decode cX4_knowOneself 14 = .ok (.iload_n 1, 1) := by decide +kernel
theorem dX4_knowOneself_15 : decode cX4_knowOneself 15 = .ok (.iconst 1, 1) := by decide +kernel
theorem dX4_knowOneself_16 : decode cX4_knowOneself 16 = .ok (.iload_n 1, 1) := by decide +kernel
theorem dX4_knowOneself_17 : decode cX4_knowOneself 17 = .ok (.ishl, 1) := by decide +kernel
theorem dX4_knowOneself_18 : decode cX4_knowOneself 18 = .ok (.iastore, 1) := by decide +kernel
theorem dX4_knowOneself_19 : decode cX4_knowOneself 19 = .ok (.iinc 1 1, 3) := by decide +kernel
theorem dX4_knowOneself_22 : decode cX4_knowOneself 22 = .ok (.goto (-20), 3) := by decide +kernel
theorem dX4_knowOneself_25 : decode cX4_knowOneself 25 = .ok (.return_, 1) := by decide +kernel
theorem dX4_greet_0 : decode cX4_greet 0 = .ok (.aload_n 0, 1) := by decide +kernel
theorem dX4_greet_1 : decode cX4_greet 1 = .ok (.getfield 24, 3) := by decide +kernel
theorem dX4_greet_4 : decode cX4_greet 4 = .ok (.iload_n 1, 1) := by decide +kernel
theorem dX4_greet_5 : decode cX4_greet 5 = .ok (.iaload, 1) := by decide +kernel
theorem dX4_greet_6 : decode cX4_greet 6 = .ok (.istore_n 2, 1) := by decide +kernel
theorem dX4_greet_7 : decode cX4_greet 7 = .ok (.aload_n 0, 1) := by decide +kernel
theorem dX4_greet_8 : decode cX4_greet 8 = .ok (.getfield 27, 3) := by decide +kernel
theorem dX4_greet_11 : decode cX4_greet 11 = .ok (.iload_n 1, 1) := by decide +kernel
theorem dX4_greet_12 : decode cX4_greet 12 = .ok (.iaload, 1) := by decide +kernel
theorem dX4_greet_13 : decode cX4_greet 13 = .ok (.istore_n 3, 1) := by decide +kernel
theorem dX4_greet_14 : decode cX4_greet 14 = .ok (.aload_n 0, 1) := by decide +kernel
theorem dX4_greet_15 : decode cX4_greet 15 = .ok (.getfield 42, 3) := by decide +kernel
theorem dX4_greet_18 : decode cX4_greet 18 = .ok (.iload_n 2, 1) := by decide +kernel
theorem dX4_greet_19 : decode cX4_greet 19 = .ok (.iaload, 1) := by decide +kernel
theorem dX4_greet_20 : decode cX4_greet 20 = .ok (.istore 4, 2) := by decide +kernel
theorem dX4_greet_22 : decode cX4_greet 22 = .ok (.aload_n 0, 1) := by decide +kernel
theorem dX4_greet_23 : decode cX4_greet 23 = .ok (.getfield 42, 3) := by decide +kernel
theorem dX4_greet_26 : decode cX4_greet 26 = .ok (.iload_n 3, 1) := by decide +kernel
theorem dX4_greet_27 : decode cX4_greet 27 = .ok (.iaload, 1) := by decide +kernel
theorem dX4_greet_28 : decode cX4_greet 28 = .ok (.istore 5, 2) := by decide +kernel
theorem dX4_greet_30 : decode cX4_greet 30 = .ok (.aload_n 0, 1) := by decide +kernel
theorem dX4_greet_31 : decode cX4_greet 31 = .ok (.getfield 42, 3) := by decide +kernel
theorem dX4_greet_34 : decode cX4_greet 34 = .ok (.iload_n 2, 1) := by decide +kernel
theorem dX4_greet_35 : decode cX4_greet 35 = .ok (.iload 4, 2) := by decide +kernel
theorem dX4_greet_37 : decode cX4_greet 37 = .ok (.aload_n 0, 1) := by decide +kernel
theorem dX4_greet_38 : decode cX4_greet 38 = .ok (.getfield 68, 3) := by decide +kernel
theorem dX4_greet_41 : decode cX4_greet 41 = .ok (.iconst 1, 1) := by decide +kernel
theorem dX4_greet_42 : decode cX4_greet 42 = .ok (.if_icmp .ne 8, 3) := by decide +kernel
theorem dX4_greet_45 : decode cX4_greet 45 = .ok (.iload 5, 2) := by decide +kernel
theorem dX4_greet_47 : decode cX4_greet 47 = .ok (.goto 6, 3) := by decide +kernel
theorem dX4_greet_50 : decode cX4_greet 50 = .ok (.iconst 1, 1) := by decide +kernel
theorem dX4_greet_51 : decode cX4_greet 51 = .ok (.iload_n 3, 1) := by decide +kernel
theorem dX4_greet_52 : decode cX4_greet 52 = .ok (.ishl, 1) := by decide +kernel
theorem dX4_greet_53 : decode cX4_greet 53 = .ok (.ior, 1) := by decide +kernel
theorem dX4_greet_54 : decode cX4_greet 54 = .ok (.iastore, 1) := by decide +kernel
theorem dX4_greet_55 : decode cX4_greet 55 = .ok (.aload_n 0, 1) := by decide +kernel
theorem dX4_greet_56 : decode cX4_greet 56 = .ok (.getfield 42, 3) := by decide +kernel
theorem dX4_greet_59 : decode cX4_greet 59 = .ok (.iload_n 3, 1) := by decide +kernel
theorem dX4_greet_60 : decode cX4_greet 60 = .ok (.iload 5, 2) := by decide +kernel
theorem dX4_greet_62 : decode cX4_greet 62 = .ok (.aload_n 0, 1) := by decide +kernel
theorem dX4_greet_63 : decode cX4_greet 63 = .ok (.getfield 68, 3) := by decide +kernel
theorem dX4_greet_66 : decode cX4_greet 66 = .ok (.iconst 1, 1) := by decide +kernel
theorem dX4_greet_67 : decode cX4_greet 67 = .ok (.if_icmp .ne 8, 3) := by decide +kernel
theorem dX4_greet_70 : decode cX4_greet 70 = .ok (.iload 4, 2) := by decide +kernel
theorem dX4_greet_72 : decode cX4_greet 72 = .ok (.goto 6, 3) := by decide +kernel
theorem dX4_greet_75 : decode cX4_greet 75 = .ok (.iconst 1, 1) := by decide +kernel
theorem dX4_greet_76 : decode cX4_greet 76 = .ok (.iload_n 2, 1) := by decide +kernel
theorem dX4_greet_77 : decode cX4_greet 77 = .ok (.ishl, 1) := by decide +kernel
theorem dX4_greet_78 : decode cX4_greet 78 = .ok (.ior, 1) := by decide +kernel
theorem dX4_greet_79 : decode cX4_greet 79 = .ok (.iastore, 1) := by decide +kernel
theorem dX4_greet_80 : decode cX4_greet 80 = .ok (.return_, 1) := by decide +kernel
theorem dX4_bearersOf_0 : decode cX4_bearersOf 0 = .ok (.iconst 0, 1) := by decide +kernel
theorem dX4_bearersOf_1 : decode cX4_bearersOf 1 = .ok (.istore_n 2, 1) := by decide +kernel
theorem dX4_bearersOf_2 : decode cX4_bearersOf 2 = .ok (.iconst 0, 1) := by decide +kernel
theorem dX4_bearersOf_3 : decode cX4_bearersOf 3 = .ok (.istore_n 3, 1) := by decide +kernel
theorem dX4_bearersOf_4 : decode cX4_bearersOf 4 = .ok (.iload_n 3, 1) := by decide +kernel
theorem dX4_bearersOf_5 : decode cX4_bearersOf 5 = .ok (.aload_n 0, 1) := by decide +kernel
theorem dX4_bearersOf_6 : decode cX4_bearersOf 6 = .ok (.getfield 61, 3) := by decide +kernel
theorem dX4_bearersOf_9 : decode cX4_bearersOf 9 = .ok (.if_icmp .ge 25, 3) := by decide +kernel
theorem dX4_bearersOf_12 : decode cX4_bearersOf 12 = .ok (.aload_n 0, 1) := by decide +kernel
theorem dX4_bearersOf_13 : decode cX4_bearersOf 13 = .ok (.getfield 18, 3) := by decide +kernel
theorem dX4_bearersOf_16 : decode cX4_bearersOf 16 = .ok (.iload_n 3, 1) := by decide +kernel
theorem dX4_bearersOf_17 : decode cX4_bearersOf 17 = .ok (.iaload, 1) := by decide +kernel
theorem dX4_bearersOf_18 : decode cX4_bearersOf 18 = .ok (.iload_n 1, 1) := by decide +kernel
theorem dX4_bearersOf_19 : decode cX4_bearersOf 19 = .ok (.if_icmp .ne 9, 3) := by decide +kernel
theorem dX4_bearersOf_22 : decode cX4_bearersOf 22 = .ok (.iload_n 2, 1) := by decide +kernel
theorem dX4_bearersOf_23 : decode cX4_bearersOf 23 = .ok (.iconst 1, 1) := by decide +kernel
theorem dX4_bearersOf_24 : decode cX4_bearersOf 24 = .ok (.iload_n 3, 1) := by decide +kernel
theorem dX4_bearersOf_25 : decode cX4_bearersOf 25 = .ok (.ishl, 1) := by decide +kernel
theorem dX4_bearersOf_26 : decode cX4_bearersOf 26 = .ok (.ior, 1) := by decide +kernel
theorem dX4_bearersOf_27 : decode cX4_bearersOf 27 = .ok (.istore_n 2, 1) := by decide +kernel
theorem dX4_bearersOf_28 : decode cX4_bearersOf 28 = .ok (.iinc 3 1, 3) := by decide +kernel
theorem dX4_bearersOf_31 : decode cX4_bearersOf 31 = .ok (.goto (-27), 3) := by decide +kernel
theorem dX4_bearersOf_34 : decode cX4_bearersOf 34 = .ok (.iload_n 2, 1) := by decide +kernel
theorem dX4_bearersOf_35 : decode cX4_bearersOf 35 = .ok (.ireturn, 1) := by decide +kernel
theorem dX4_namedPeople_0 : decode cX4_namedPeople 0 = .ok (.iconst 0, 1) := by decide +kernel
theorem dX4_namedPeople_1 : decode cX4_namedPeople 1 = .ok (.istore_n 1, 1) := by decide +kernel
theorem dX4_namedPeople_2 : decode cX4_namedPeople 2 = .ok (.iconst 0, 1) := by decide +kernel
theorem dX4_namedPeople_3 : decode cX4_namedPeople 3 = .ok (.istore_n 2, 1) := by decide +kernel
theorem dX4_namedPeople_4 : decode cX4_namedPeople 4 = .ok (.iload_n 2, 1) := by decide +kernel
theorem dX4_namedPeople_5 : decode cX4_namedPeople 5 = .ok (.aload_n 0, 1) := by decide +kernel
theorem dX4_namedPeople_6 : decode cX4_namedPeople 6 = .ok (.getfield 61, 3) := by decide +kernel
theorem dX4_namedPeople_9 : decode cX4_namedPeople 9 = .ok (.if_icmp .ge 22, 3) := by decide +kernel
theorem dX4_namedPeople_12 : decode cX4_namedPeople 12 = .ok (.aload_n 0, 1) := by decide +kernel
theorem dX4_namedPeople_13 : decode cX4_namedPeople 13 = .ok (.getfield 18, 3) := by decide +kernel
theorem dX4_namedPeople_16 : decode cX4_namedPeople 16 = .ok (.iload_n 2, 1) := by decide +kernel
theorem dX4_namedPeople_17 : decode cX4_namedPeople 17 = .ok (.iaload, 1) := by decide +kernel
theorem dX4_namedPeople_18 : decode cX4_namedPeople 18 = .ok (.iconst (-1), 1) := by decide +kernel
theorem dX4_namedPeople_19 : decode cX4_namedPeople 19 = .ok (.if_icmp .eq 6, 3) := by decide +kernel
theorem dX4_namedPeople_22 : decode cX4_namedPeople 22 = .ok (.iinc 1 1, 3) := by decide +kernel
theorem dX4_namedPeople_25 : decode cX4_namedPeople 25 = .ok (.iinc 2 1, 3) := by decide +kernel
theorem dX4_namedPeople_28 : decode cX4_namedPeople 28 = .ok (.goto (-24), 3) := by decide +kernel
theorem dX4_namedPeople_31 : decode cX4_namedPeople 31 = .ok (.iload_n 1, 1) := by decide +kernel
theorem dX4_namedPeople_32 : decode cX4_namedPeople 32 = .ok (.ireturn, 1) := by decide +kernel
theorem dX4_isBearer_0 : decode cX4_isBearer 0 = .ok (.aload_n 0, 1) := by decide +kernel
theorem dX4_isBearer_1 : decode cX4_isBearer 1 = .ok (.getfield 18, 3) := by decide +kernel
theorem dX4_isBearer_4 : decode cX4_isBearer 4 = .ok (.iload_n 1, 1) := by decide +kernel
theorem dX4_isBearer_5 : decode cX4_isBearer 5 = .ok (.iaload, 1) := by decide +kernel
theorem dX4_isBearer_6 : decode cX4_isBearer 6 = .ok (.iload_n 2, 1) := by decide +kernel
theorem dX4_isBearer_7 : decode cX4_isBearer 7 = .ok (.if_icmp .ne 17, 3) := by decide +kernel
theorem dX4_isBearer_10 : decode cX4_isBearer 10 = .ok (.aload_n 0, 1) := by decide +kernel
theorem dX4_isBearer_11 : decode cX4_isBearer 11 = .ok (.getfield 9, 3) := by decide +kernel
theorem dX4_isBearer_14 : decode cX4_isBearer 14 = .ok (.iload_n 1, 1) := by decide +kernel
theorem dX4_isBearer_15 : decode cX4_isBearer 15 = .ok (.iaload, 1) := by decide +kernel
theorem dX4_isBearer_16 : decode cX4_isBearer 16 = .ok (.iload_n 3, 1) := by decide +kernel
theorem dX4_isBearer_17 : decode cX4_isBearer 17 = .ok (.if_icmp .gt 7, 3) := by decide +kernel
theorem dX4_isBearer_20 : decode cX4_isBearer 20 = .ok (.iconst 1, 1) := by decide +kernel
theorem dX4_isBearer_21 : decode cX4_isBearer 21 = .ok (.goto 4, 3) := by decide +kernel
theorem dX4_isBearer_24 : decode cX4_isBearer 24 = .ok (.iconst 0, 1) := by decide +kernel
theorem dX4_isBearer_25 : decode cX4_isBearer 25 = .ok (.ireturn, 1) := by decide +kernel
theorem dX4_isFamed_0 : decode cX4_isFamed 0 = .ok (.iconst 0, 1) := by decide +kernel
theorem dX4_isFamed_1 : decode cX4_isFamed 1 = .ok (.istore_n 3, 1) := by decide +kernel
theorem dX4_isFamed_2 : decode cX4_isFamed 2 = .ok (.iload_n 3, 1) := by decide +kernel
theorem dX4_isFamed_3 : decode cX4_isFamed 3 = .ok (.aload_n 0, 1) := by decide +kernel
theorem dX4_isFamed_4 : decode cX4_isFamed 4 = .ok (.getfield 61, 3) := by decide +kernel
theorem dX4_isFamed_7 : decode cX4_isFamed 7 = .ok (.if_icmp .ge 31, 3) := by decide +kernel
theorem dX4_isFamed_10 : decode cX4_isFamed 10 = .ok (.aload_n 0, 1) := by decide +kernel
theorem dX4_isFamed_11 : decode cX4_isFamed 11 = .ok (.getfield 39, 3) := by decide +kernel
theorem dX4_isFamed_14 : decode cX4_isFamed 14 = .ok (.iload_n 1, 1) := by decide +kernel
theorem dX4_isFamed_15 : decode cX4_isFamed 15 = .ok (.iaload, 1) := by decide +kernel
theorem dX4_isFamed_16 : decode cX4_isFamed 16 = .ok (.iconst 1, 1) := by decide +kernel
theorem dX4_isFamed_17 : decode cX4_isFamed 17 = .ok (.if_icmp .ne 21, 3) := by decide +kernel
theorem dX4_isFamed_20 : decode cX4_isFamed 20 = .ok (.aload_n 0, 1) := by decide +kernel
theorem dX4_isFamed_21 : decode cX4_isFamed 21 = .ok (.iload_n 3, 1) := by decide +kernel
theorem dX4_isFamed_22 : decode cX4_isFamed 22 = .ok (.iload_n 1, 1) := by decide +kernel
theorem dX4_isFamed_23 : decode cX4_isFamed 23 = .ok (.iload_n 2, 1) := by decide +kernel
theorem dX4_isFamed_24 : decode cX4_isFamed 24 = .ok (.invokevirtual 92, 3) := by decide +kernel
theorem dX4_isFamed_27 : decode cX4_isFamed 27 = .ok (.ifCond .eq 5, 3) := by decide +kernel
theorem dX4_isFamed_30 : decode cX4_isFamed 30 = .ok (.iconst 1, 1) := by decide +kernel
theorem dX4_isFamed_31 : decode cX4_isFamed 31 = .ok (.ireturn, 1) := by decide +kernel
theorem dX4_isFamed_32 : decode cX4_isFamed 32 = .ok (.iinc 3 1, 3) := by decide +kernel
theorem dX4_isFamed_35 : decode cX4_isFamed 35 = .ok (.goto (-33), 3) := by decide +kernel
theorem dX4_isFamed_38 : decode cX4_isFamed 38 = .ok (.iconst 0, 1) := by decide +kernel
theorem dX4_isFamed_39 : decode cX4_isFamed 39 = .ok (.ireturn, 1) := by decide +kernel
theorem dX4_livesKnowing_0 : decode cX4_livesKnowing 0 = .ok (.aload_n 0, 1) := by decide +kernel
theorem dX4_livesKnowing_1 : decode cX4_livesKnowing 1 = .ok (.getfield 42, 3) := by decide +kernel
theorem dX4_livesKnowing_4 : decode cX4_livesKnowing 4 = .ok (.iload_n 1, 1) := by decide +kernel
theorem dX4_livesKnowing_5 : decode cX4_livesKnowing 5 = .ok (.iaload, 1) := by decide +kernel
theorem dX4_livesKnowing_6 : decode cX4_livesKnowing 6 = .ok (.iload_n 2, 1) := by decide +kernel
theorem dX4_livesKnowing_7 : decode cX4_livesKnowing 7 = .ok (.ishr, 1) := by decide +kernel
theorem dX4_livesKnowing_8 : decode cX4_livesKnowing 8 = .ok (.iconst 1, 1) := by decide +kernel
theorem dX4_livesKnowing_9 : decode cX4_livesKnowing 9 = .ok (.iand, 1) := by decide +kernel
theorem dX4_livesKnowing_10 : decode cX4_livesKnowing 10 = .ok (.iconst 1, 1) := by decide +kernel
theorem dX4_livesKnowing_11 : decode cX4_livesKnowing 11 = .ok (.if_icmp .ne 16, 3) := by decide +kernel
theorem dX4_livesKnowing_14 : decode cX4_livesKnowing 14 = .ok (.aload_n 0, 1) := by decide +kernel
theorem dX4_livesKnowing_15 : decode cX4_livesKnowing 15 = .ok (.iload_n 1, 1) := by decide +kernel
theorem dX4_livesKnowing_16 : decode cX4_livesKnowing 16 = .ok (.iload_n 3, 1) := by decide +kernel
theorem dX4_livesKnowing_17 : decode cX4_livesKnowing 17 = .ok (.invokevirtual 71, 3) := by decide +kernel
theorem dX4_livesKnowing_20 : decode cX4_livesKnowing 20 = .ok (.ifCond .eq 7, 3) := by decide +kernel
theorem dX4_livesKnowing_23 : decode cX4_livesKnowing 23 = .ok (.iconst 1, 1) := by decide +kernel
theorem dX4_livesKnowing_24 : decode cX4_livesKnowing 24 = .ok (.goto 4, 3) := by decide +kernel
theorem dX4_livesKnowing_27 : decode cX4_livesKnowing 27 = .ok (.iconst 0, 1) := by decide +kernel
theorem dX4_livesKnowing_28 : decode cX4_livesKnowing 28 = .ok (.ireturn, 1) := by decide +kernel
theorem dX4_wouldHold_0 : decode cX4_wouldHold 0 = .ok (.aload_n 0, 1) := by decide +kernel
theorem dX4_wouldHold_1 : decode cX4_wouldHold 1 = .ok (.getfield 18, 3) := by decide +kernel
theorem dX4_wouldHold_4 : decode cX4_wouldHold 4 = .ok (.iload_n 2, 1) := by decide +kernel
theorem dX4_wouldHold_5 : decode cX4_wouldHold 5 = .ok (.iaload, 1) := by decide +kernel
theorem dX4_wouldHold_6 : decode cX4_wouldHold 6 = .ok (.istore 4, 2) := by decide +kernel
theorem dX4_wouldHold_8 : decode cX4_wouldHold 8 = .ok (.iload 4, 2) := by decide +kernel
theorem dX4_wouldHold_10 : decode cX4_wouldHold 10 = .ok (.ifCond .ge 5, 3) := by decide +kernel
theorem dX4_wouldHold_13 : decode cX4_wouldHold 13 = .ok (.iconst 0, 1) := by decide +kernel
theorem dX4_wouldHold_14 : decode cX4_wouldHold 14 = .ok (.ireturn, 1) := by decide +kernel
theorem dX4_wouldHold_15 : decode cX4_wouldHold 15 = .ok (.iconst 0, 1) := by decide +kernel
theorem dX4_wouldHold_16 : decode cX4_wouldHold 16 = .ok (.iload_n 3, 1) := by decide +kernel
theorem dX4_wouldHold_17 : decode cX4_wouldHold 17 = .ok (.aload_n 0, 1) := by decide +kernel
theorem dX4_wouldHold_18 : decode cX4_wouldHold 18 = .ok (.getfield 15, 3) := by decide +kernel
theorem dX4_wouldHold_21 : decode cX4_wouldHold 21 = .ok (.iload_n 2, 1) := by decide +kernel
theorem dX4_wouldHold_22 : decode cX4_wouldHold 22 = .ok (.iaload, 1) := by decide +kernel
theorem dX4_wouldHold_23 : decode cX4_wouldHold 23 = .ok (.isub, 1) := by decide +kernel
theorem dX4_wouldHold_24 : decode cX4_wouldHold 24 = .ok (.invokestatic 96, 3) := by decide +kernel
theorem dX4_wouldHold_27 : decode cX4_wouldHold 27 = .ok (.istore 5, 2) := by decide +kernel
theorem dX4_wouldHold_29 : decode cX4_wouldHold 29 = .ok (.iload_n 1, 1) := by decide +kernel
theorem dX4_wouldHold_30 : decode cX4_wouldHold 30 = .ok (.iload_n 2, 1) := by decide +kernel
theorem dX4_wouldHold_31 : decode cX4_wouldHold 31 = .ok (.if_icmp .ne 7, 3) := by decide +kernel
theorem dX4_wouldHold_34 : decode cX4_wouldHold 34 = .ok (.iconst 1, 1) := by decide +kernel
theorem dX4_wouldHold_35 : decode cX4_wouldHold 35 = .ok (.goto 4, 3) := by decide +kernel
theorem dX4_wouldHold_38 : decode cX4_wouldHold 38 = .ok (.iconst 0, 1) := by decide +kernel
theorem dX4_wouldHold_39 : decode cX4_wouldHold 39 = .ok (.istore 6, 2) := by decide +kernel
theorem dX4_wouldHold_41 : decode cX4_wouldHold 41 = .ok (.aload_n 0, 1) := by decide +kernel
theorem dX4_wouldHold_42 : decode cX4_wouldHold 42 = .ok (.getfield 45, 3) := by decide +kernel
theorem dX4_wouldHold_45 : decode cX4_wouldHold 45 = .ok (.iload_n 3, 1) := by decide +kernel
theorem dX4_wouldHold_46 : decode cX4_wouldHold 46 = .ok (.aload_n 0, 1) := by decide +kernel
theorem dX4_wouldHold_47 : decode cX4_wouldHold 47 = .ok (.getfield 9, 3) := by decide +kernel
theorem dX4_wouldHold_50 : decode cX4_wouldHold 50 = .ok (.iload_n 1, 1) := by decide +kernel
theorem dX4_wouldHold_51 : decode cX4_wouldHold 51 = .ok (.iaload, 1) := by decide +kernel
theorem dX4_wouldHold_52 : decode cX4_wouldHold 52 = .ok (.isub, 1) := by decide +kernel
theorem dX4_wouldHold_53 : decode cX4_wouldHold 53 = .ok (.iload 5, 2) := by decide +kernel
theorem dX4_wouldHold_55 : decode cX4_wouldHold 55 = .ok (.aload_n 0, 1) := by decide +kernel
theorem dX4_wouldHold_56 : decode cX4_wouldHold 56 = .ok (.getfield 39, 3) := by decide +kernel
theorem dX4_wouldHold_59 : decode cX4_wouldHold 59 = .ok (.iload 4, 2) := by decide +kernel
theorem dX4_wouldHold_61 : decode cX4_wouldHold 61 = .ok (.iaload, 1) := by decide +kernel
theorem dX4_wouldHold_62 : decode cX4_wouldHold 62 = .ok (.aload_n 0, 1) := by decide +kernel
theorem dX4_wouldHold_63 : decode cX4_wouldHold 63 = .ok (.getfield 36, 3) := by decide +kernel
theorem dX4_wouldHold_66 : decode cX4_wouldHold 66 = .ok (.iload 4, 2) := by decide +kernel
theorem dX4_wouldHold_68 : decode cX4_wouldHold 68 = .ok (.iaload, 1) := by decide +kernel
theorem dX4_wouldHold_69 : decode cX4_wouldHold 69 = .ok (.iload 6, 2) := by decide +kernel
theorem dX4_wouldHold_71 : decode cX4_wouldHold 71 = .ok (.iload 4, 2) := by decide +kernel
theorem dX4_wouldHold_73 : decode cX4_wouldHold 73 = .ok (.invokevirtual 102, 3) := by decide +kernel
theorem dX4_wouldHold_76 : decode cX4_wouldHold 76 = .ok (.aload_n 0, 1) := by decide +kernel
theorem dX4_wouldHold_77 : decode cX4_wouldHold 77 = .ok (.getfield 45, 3) := by decide +kernel
theorem dX4_wouldHold_80 : decode cX4_wouldHold 80 = .ok (.invokevirtual 108, 3) := by decide +kernel
theorem dX4_wouldHold_83 : decode cX4_wouldHold 83 = .ok (.ifCond .eq 7, 3) := by decide +kernel
theorem dX4_wouldHold_86 : decode cX4_wouldHold 86 = .ok (.iconst 1, 1) := by decide +kernel
theorem dX4_wouldHold_87 : decode cX4_wouldHold 87 = .ok (.goto 4, 3) := by decide +kernel
theorem dX4_wouldHold_90 : decode cX4_wouldHold 90 = .ok (.iconst 0, 1) := by decide +kernel
theorem dX4_wouldHold_91 : decode cX4_wouldHold 91 = .ok (.ireturn, 1) := by decide +kernel
theorem dX4_holdersOf_0 : decode cX4_holdersOf 0 = .ok (.aload_n 0, 1) := by decide +kernel
theorem dX4_holdersOf_1 : decode cX4_holdersOf 1 = .ok (.iload_n 2, 1) := by decide +kernel
theorem dX4_holdersOf_2 : decode cX4_holdersOf 2 = .ok (.invokevirtual 112, 3) := by decide +kernel
theorem dX4_holdersOf_5 : decode cX4_holdersOf 5 = .ok (.iconst 0, 1) := by decide +kernel
theorem dX4_holdersOf_6 : decode cX4_holdersOf 6 = .ok (.istore_n 3, 1) := by decide +kernel
theorem dX4_holdersOf_7 : decode cX4_holdersOf 7 = .ok (.iconst 0, 1) := by decide +kernel
theorem dX4_holdersOf_8 : decode cX4_holdersOf 8 = .ok (.istore 4, 2) := by decide +kernel
theorem dX4_holdersOf_10 : decode cX4_holdersOf 10 = .ok (.iload 4, 2) := by decide +kernel
theorem dX4_holdersOf_12 : decode cX4_holdersOf 12 = .ok (.aload_n 0, 1) := by decide +kernel
theorem dX4_holdersOf_13 : decode cX4_holdersOf 13 = .ok (.getfield 61, 3) := by decide +kernel
theorem dX4_holdersOf_16 : decode cX4_holdersOf 16 = .ok (.if_icmp .ge 81, 3) := by decide +kernel
theorem dX4_holdersOf_19 : decode cX4_holdersOf 19 = .ok (.aload_n 0, 1) := by decide +kernel
theorem dX4_holdersOf_20 : decode cX4_holdersOf 20 = .ok (.iload 4, 2) := by decide +kernel
theorem dX4_holdersOf_22 : decode cX4_holdersOf 22 = .ok (.iload_n 1, 1) := by decide +kernel
theorem dX4_holdersOf_23 : decode cX4_holdersOf 23 = .ok (.iload_n 2, 1) := by decide +kernel
theorem dX4_holdersOf_24 : decode cX4_holdersOf 24 = .ok (.invokevirtual 92, 3) := by decide +kernel
theorem dX4_holdersOf_27 : decode cX4_holdersOf 27 = .ok (.ifCond .ne 6, 3) := by decide +kernel
theorem dX4_holdersOf_30 : decode cX4_holdersOf 30 = .ok (.goto 61, 3) := by decide +kernel
theorem dX4_holdersOf_33 : decode cX4_holdersOf 33 = .ok (.iconst 0, 1) := by decide +kernel
theorem dX4_holdersOf_34 : decode cX4_holdersOf 34 = .ok (.istore 5, 2) := by decide +kernel
theorem dX4_holdersOf_36 : decode cX4_holdersOf 36 = .ok (.iload 5, 2) := by decide +kernel
theorem dX4_holdersOf_38 : decode cX4_holdersOf 38 = .ok (.aload_n 0, 1) := by decide +kernel
theorem dX4_holdersOf_39 : decode cX4_holdersOf 39 = .ok (.getfield 61, 3) := by decide +kernel
theorem dX4_holdersOf_42 : decode cX4_holdersOf 42 = .ok (.if_icmp .ge 49, 3) := by decide +kernel
theorem dX4_holdersOf_45 : decode cX4_holdersOf 45 = .ok (.iload_n 3, 1) := by decide +kernel
theorem dX4_holdersOf_46 : decode cX4_holdersOf 46 = .ok (.iload 5, 2) := by decide +kernel
theorem dX4_holdersOf_48 : decode cX4_holdersOf 48 = .ok (.ishr, 1) := by decide +kernel
theorem dX4_holdersOf_49 : decode cX4_holdersOf 49 = .ok (.iconst 1, 1) := by decide +kernel
theorem dX4_holdersOf_50 : decode cX4_holdersOf 50 = .ok (.iand, 1) := by decide +kernel
theorem dX4_holdersOf_51 : decode cX4_holdersOf 51 = .ok (.ifCond .ne 34, 3) := by decide +kernel
theorem dX4_holdersOf_54 : decode cX4_holdersOf 54 = .ok (.aload_n 0, 1) := by decide +kernel
theorem dX4_holdersOf_55 : decode cX4_holdersOf 55 = .ok (.iload 5, 2) := by decide +kernel
theorem dX4_holdersOf_57 : decode cX4_holdersOf 57 = .ok (.iload 4, 2) := by decide +kernel
theorem dX4_holdersOf_59 : decode cX4_holdersOf 59 = .ok (.iload_n 2, 1) := by decide +kernel
theorem dX4_holdersOf_60 : decode cX4_holdersOf 60 = .ok (.invokevirtual 115, 3) := by decide +kernel
theorem dX4_holdersOf_63 : decode cX4_holdersOf 63 = .ok (.ifCond .eq 22, 3) := by decide +kernel
theorem dX4_holdersOf_66 : decode cX4_holdersOf 66 = .ok (.aload_n 0, 1) := by decide +kernel
theorem dX4_holdersOf_67 : decode cX4_holdersOf 67 = .ok (.iload 5, 2) := by decide +kernel
theorem dX4_holdersOf_69 : decode cX4_holdersOf 69 = .ok (.iload 4, 2) := by decide +kernel
theorem dX4_holdersOf_71 : decode cX4_holdersOf 71 = .ok (.iload_n 2, 1) := by decide +kernel
theorem dX4_holdersOf_72 : decode cX4_holdersOf 72 = .ok (.invokevirtual 118, 3) := by decide +kernel
theorem dX4_holdersOf_75 : decode cX4_holdersOf 75 = .ok (.ifCond .eq 10, 3) := by decide +kernel
theorem dX4_holdersOf_78 : decode cX4_holdersOf 78 = .ok (.iload_n 3, 1) := by decide +kernel
theorem dX4_holdersOf_79 : decode cX4_holdersOf 79 = .ok (.iconst 1, 1) := by decide +kernel
theorem dX4_holdersOf_80 : decode cX4_holdersOf 80 = .ok (.iload 5, 2) := by decide +kernel
theorem dX4_holdersOf_82 : decode cX4_holdersOf 82 = .ok (.ishl, 1) := by decide +kernel
theorem dX4_holdersOf_83 : decode cX4_holdersOf 83 = .ok (.ior, 1) := by decide +kernel
theorem dX4_holdersOf_84 : decode cX4_holdersOf 84 = .ok (.istore_n 3, 1) := by decide +kernel
theorem dX4_holdersOf_85 : decode cX4_holdersOf 85 = .ok (.iinc 5 1, 3) := by decide +kernel
theorem dX4_holdersOf_88 : decode cX4_holdersOf 88 = .ok (.goto (-52), 3) := by decide +kernel
theorem dX4_holdersOf_91 : decode cX4_holdersOf 91 = .ok (.iinc 4 1, 3) := by decide +kernel
theorem dX4_holdersOf_94 : decode cX4_holdersOf 94 = .ok (.goto (-84), 3) := by decide +kernel
theorem dX4_holdersOf_97 : decode cX4_holdersOf 97 = .ok (.iload_n 3, 1) := by decide +kernel
theorem dX4_holdersOf_98 : decode cX4_holdersOf 98 = .ok (.ireturn, 1) := by decide +kernel
theorem dX4_heldIn_0 : decode cX4_heldIn 0 = .ok (.aload_n 0, 1) := by decide +kernel
theorem dX4_heldIn_1 : decode cX4_heldIn 1 = .ok (.iload_n 1, 1) := by decide +kernel
theorem dX4_heldIn_2 : decode cX4_heldIn 2 = .ok (.invokevirtual 112, 3) := by decide +kernel
theorem dX4_heldIn_5 : decode cX4_heldIn 5 = .ok (.iconst 0, 1) := by decide +kernel
theorem dX4_heldIn_6 : decode cX4_heldIn 6 = .ok (.istore_n 2, 1) := by decide +kernel
theorem dX4_heldIn_7 : decode cX4_heldIn 7 = .ok (.iconst 0, 1) := by decide +kernel
theorem dX4_heldIn_8 : decode cX4_heldIn 8 = .ok (.istore_n 3, 1) := by decide +kernel
theorem dX4_heldIn_9 : decode cX4_heldIn 9 = .ok (.iload_n 3, 1) := by decide +kernel
theorem dX4_heldIn_10 : decode cX4_heldIn 10 = .ok (.aload_n 0, 1) := by decide +kernel
theorem dX4_heldIn_11 : decode cX4_heldIn 11 = .ok (.getfield 61, 3) := by decide +kernel
theorem dX4_heldIn_14 : decode cX4_heldIn 14 = .ok (.if_icmp .ge 131, 3) := by decide +kernel
theorem dX4_heldIn_17 : decode cX4_heldIn 17 = .ok (.aload_n 0, 1) := by decide +kernel
theorem dX4_heldIn_18 : decode cX4_heldIn 18 = .ok (.getfield 18, 3) := by decide +kernel
theorem dX4_heldIn_21 : decode cX4_heldIn 21 = .ok (.iload_n 3, 1) := by decide +kernel
theorem dX4_heldIn_22 : decode cX4_heldIn 22 = .ok (.iaload, 1) := by decide +kernel
theorem dX4_heldIn_23 : decode cX4_heldIn 23 = .ok (.istore 4, 2) := by decide +kernel
theorem dX4_heldIn_25 : decode cX4_heldIn 25 = .ok (.iload 4, 2) := by decide +kernel
theorem dX4_heldIn_27 : decode cX4_heldIn 27 = .ok (.ifCond .lt 112, 3) := by decide +kernel
theorem dX4_heldIn_30 : decode cX4_heldIn 30 = .ok (.aload_n 0, 1) := by decide +kernel
theorem dX4_heldIn_31 : decode cX4_heldIn 31 = .ok (.getfield 9, 3) := by decide +kernel
theorem dX4_heldIn_34 : decode cX4_heldIn 34 = .ok (.iload_n 3, 1) := by decide +kernel
theorem dX4_heldIn_35 : decode cX4_heldIn 35 = .ok (.iaload, 1) := by decide +kernel
theorem dX4_heldIn_36 : decode cX4_heldIn 36 = .ok (.iload_n 1, 1) := by decide +kernel
theorem dX4_heldIn_37 : decode cX4_heldIn 37 = .ok (.if_icmp .gt 102, 3) := by decide +kernel
theorem dX4_heldIn_40 : decode cX4_heldIn 40 = .ok (.iload_n 2, 1) := by decide +kernel
theorem dX4_heldIn_41 : decode cX4_heldIn 41 = .ok (.iload 4, 2) := by decide +kernel
theorem dX4_heldIn_43 : decode cX4_heldIn 43 = .ok (.ishr, 1) := by decide +kernel
theorem dX4_heldIn_44 : decode cX4_heldIn 44 = .ok (.iconst 1, 1) := by decide +kernel
theorem dX4_heldIn_45 : decode cX4_heldIn 45 = .ok (.iand, 1) := by decide +kernel
theorem dX4_heldIn_46 : decode cX4_heldIn 46 = .ok (.iconst 1, 1) := by decide +kernel
theorem dX4_heldIn_47 : decode cX4_heldIn 47 = .ok (.if_icmp .ne 6, 3) := by decide +kernel
theorem dX4_heldIn_50 : decode cX4_heldIn 50 = .ok (.goto 89, 3) := by decide +kernel
theorem dX4_heldIn_53 : decode cX4_heldIn 53 = .ok (.aload_n 0, 1) := by decide +kernel
theorem dX4_heldIn_54 : decode cX4_heldIn 54 = .ok (.getfield 39, 3) := by decide +kernel
theorem dX4_heldIn_57 : decode cX4_heldIn 57 = .ok (.iload 4, 2) := by decide +kernel
theorem dX4_heldIn_59 : decode cX4_heldIn 59 = .ok (.iaload, 1) := by decide +kernel
theorem dX4_heldIn_60 : decode cX4_heldIn 60 = .ok (.iconst 1, 1) := by decide +kernel
theorem dX4_heldIn_61 : decode cX4_heldIn 61 = .ok (.if_icmp .ne 7, 3) := by decide +kernel
theorem dX4_heldIn_64 : decode cX4_heldIn 64 = .ok (.iconst 1, 1) := by decide +kernel
theorem dX4_heldIn_65 : decode cX4_heldIn 65 = .ok (.goto 4, 3) := by decide +kernel
theorem dX4_heldIn_68 : decode cX4_heldIn 68 = .ok (.iconst 0, 1) := by decide +kernel
theorem dX4_heldIn_69 : decode cX4_heldIn 69 = .ok (.istore 5, 2) := by decide +kernel
theorem dX4_heldIn_71 : decode cX4_heldIn 71 = .ok (.iconst 0, 1) := by decide +kernel
theorem dX4_heldIn_72 : decode cX4_heldIn 72 = .ok (.istore 6, 2) := by decide +kernel
theorem dX4_heldIn_74 : decode cX4_heldIn 74 = .ok (.iload 6, 2) := by decide +kernel
theorem dX4_heldIn_76 : decode cX4_heldIn 76 = .ok (.aload_n 0, 1) := by decide +kernel
theorem dX4_heldIn_77 : decode cX4_heldIn 77 = .ok (.getfield 61, 3) := by decide +kernel
theorem dX4_heldIn_80 : decode cX4_heldIn 80 = .ok (.if_icmp .ge 43, 3) := by decide +kernel
theorem dX4_heldIn_83 : decode cX4_heldIn 83 = .ok (.iload 5, 2) := by decide +kernel
theorem dX4_heldIn_85 : decode cX4_heldIn 85 = .ok (.ifCond .ne 38, 3) := by decide +kernel
theorem dX4_heldIn_88 : decode cX4_heldIn 88 = .ok (.aload_n 0, 1) := by decide +kernel
theorem dX4_heldIn_89 : decode cX4_heldIn 89 = .ok (.iload 6, 2) := by decide +kernel
theorem dX4_heldIn_91 : decode cX4_heldIn 91 = .ok (.iload_n 3, 1) := by decide +kernel
theorem dX4_heldIn_92 : decode cX4_heldIn 92 = .ok (.iload_n 1, 1) := by decide +kernel
theorem dX4_heldIn_93 : decode cX4_heldIn 93 = .ok (.invokevirtual 115, 3) := by decide +kernel
theorem dX4_heldIn_96 : decode cX4_heldIn 96 = .ok (.ifCond .eq 18, 3) := by decide +kernel
theorem dX4_heldIn_99 : decode cX4_heldIn 99 = .ok (.aload_n 0, 1) := by decide +kernel
theorem dX4_heldIn_100 : decode cX4_heldIn 100 = .ok (.iload 6, 2) := by decide +kernel
theorem dX4_heldIn_102 : decode cX4_heldIn 102 = .ok (.iload_n 3, 1) := by decide +kernel
theorem dX4_heldIn_103 : decode cX4_heldIn 103 = .ok (.iload_n 1, 1) := by decide +kernel
theorem dX4_heldIn_104 : decode cX4_heldIn 104 = .ok (.invokevirtual 118, 3) := by decide +kernel
theorem dX4_heldIn_107 : decode cX4_heldIn 107 = .ok (.ifCond .eq 7, 3) := by decide +kernel
theorem dX4_heldIn_110 : decode cX4_heldIn 110 = .ok (.iconst 1, 1) := by decide +kernel
theorem dX4_heldIn_111 : decode cX4_heldIn 111 = .ok (.goto 4, 3) := by decide +kernel
theorem dX4_heldIn_114 : decode cX4_heldIn 114 = .ok (.iconst 0, 1) := by decide +kernel
theorem dX4_heldIn_115 : decode cX4_heldIn 115 = .ok (.istore 5, 2) := by decide +kernel
theorem dX4_heldIn_117 : decode cX4_heldIn 117 = .ok (.iinc 6 1, 3) := by decide +kernel
theorem dX4_heldIn_120 : decode cX4_heldIn 120 = .ok (.goto (-46), 3) := by decide +kernel
theorem dX4_heldIn_123 : decode cX4_heldIn 123 = .ok (.iload_n 2, 1) := by decide +kernel
theorem dX4_heldIn_124 : decode cX4_heldIn 124 = .ok (.iload 5, 2) := by decide +kernel
theorem dX4_heldIn_126 : decode cX4_heldIn 126 = .ok (.ifCond .eq 10, 3) := by decide +kernel
theorem dX4_heldIn_129 : decode cX4_heldIn 129 = .ok (.iconst 1, 1) := by decide +kernel
theorem dX4_heldIn_130 : decode cX4_heldIn 130 = .ok (.iload 4, 2) := by decide +kernel
theorem dX4_heldIn_132 : decode cX4_heldIn 132 = .ok (.ishl, 1) := by decide +kernel
theorem dX4_heldIn_133 : decode cX4_heldIn 133 = .ok (.goto 4, 3) := by decide +kernel
theorem dX4_heldIn_136 : decode cX4_heldIn 136 = .ok (.iconst 0, 1) := by decide +kernel
theorem dX4_heldIn_137 : decode cX4_heldIn 137 = .ok (.ior, 1) := by decide +kernel
theorem dX4_heldIn_138 : decode cX4_heldIn 138 = .ok (.istore_n 2, 1) := by decide +kernel
theorem dX4_heldIn_139 : decode cX4_heldIn 139 = .ok (.iinc 3 1, 3) := by decide +kernel
theorem dX4_heldIn_142 : decode cX4_heldIn 142 = .ok (.goto (-133), 3) := by decide +kernel
theorem dX4_heldIn_145 : decode cX4_heldIn 145 = .ok (.iload_n 2, 1) := by decide +kernel
theorem dX4_heldIn_146 : decode cX4_heldIn 146 = .ok (.ireturn, 1) := by decide +kernel
theorem dX5_init_0 : decode cX5_init 0 = .ok (.aload_n 0, 1) := by decide +kernel
theorem dX5_init_1 : decode cX5_init 1 = .ok (.invokespecial 3, 3) := by decide +kernel
theorem dX5_init_4 : decode cX5_init 4 = .ok (.aload_n 0, 1) := by decide +kernel
theorem dX5_init_5 : decode cX5_init 5 = .ok (.bipush 12, 2) := by decide +kernel
theorem dX5_init_7 : decode cX5_init 7 = .ok (.newarray .int, 2) := by decide +kernel
theorem dX5_init_9 : decode cX5_init 9 = .ok (.putfield 9, 3) := by decide +kernel
theorem dX5_init_12 : decode cX5_init 12 = .ok (.aload_n 0, 1) := by decide +kernel
theorem dX5_init_13 : decode cX5_init 13 = .ok (.sipush 144, 3) := by decide +kernel
theorem dX5_init_16 : decode cX5_init 16 = .ok (.newarray .int, 2) := by decide +kernel
theorem dX5_init_18 : decode cX5_init 18 = .ok (.putfield 15, 3) := by decide +kernel
theorem dX5_init_21 : decode cX5_init 21 = .ok (.aload_n 0, 1) := by decide +kernel
theorem dX5_init_22 : decode cX5_init 22 = .ok (.aload_n 1, 1) := by decide +kernel
theorem dX5_init_23 : decode cX5_init 23 = .ok (.putfield 18, 3) := by decide +kernel
theorem dX5_init_26 : decode cX5_init 26 = .ok (.return_, 1) := by decide +kernel
theorem dX5_fewest_0 : decode cX5_fewest 0 = .ok (.aload_n 0, 1) := by decide +kernel
theorem dX5_fewest_1 : decode cX5_fewest 1 = .ok (.iload_n 2, 1) := by decide +kernel
theorem dX5_fewest_2 : decode cX5_fewest 2 = .ok (.putfield 22, 3) := by decide +kernel
theorem dX5_fewest_5 : decode cX5_fewest 5 = .ok (.aload_n 0, 1) := by decide +kernel
theorem dX5_fewest_6 : decode cX5_fewest 6 = .ok (.getfield 18, 3) := by decide +kernel
theorem dX5_fewest_9 : decode cX5_fewest 9 = .ok (.iload_n 1, 1) := by decide +kernel
theorem dX5_fewest_10 : decode cX5_fewest 10 = .ok (.aload_n 0, 1) := by decide +kernel
theorem dX5_fewest_11 : decode cX5_fewest 11 = .ok (.getfield 22, 3) := by decide +kernel
theorem dX5_fewest_14 : decode cX5_fewest 14 = .ok (.invokevirtual 26, 3) := by decide +kernel
theorem dX5_fewest_17 : decode cX5_fewest 17 = .ok (.ifCond .ne 11, 3) := by decide +kernel
theorem dX5_fewest_20 : decode cX5_fewest 20 = .ok (.aload_n 0, 1) := by decide +kernel
theorem dX5_fewest_21 : decode cX5_fewest 21 = .ok (.iload_n 1, 1) := by decide +kernel
theorem dX5_fewest_22 : decode cX5_fewest 22 = .ok (.invokevirtual 32, 3) := by decide +kernel
theorem dX5_fewest_25 : decode cX5_fewest 25 = .ok (.ifCond .ne 6, 3) := by decide +kernel
theorem dX5_fewest_28 : decode cX5_fewest 28 = .ok (.bipush (-2), 2) := by decide +kernel
theorem dX5_fewest_30 : decode cX5_fewest 30 = .ok (.ireturn, 1) := by decide +kernel
theorem dX5_fewest_31 : decode cX5_fewest 31 = .ok (.aload_n 0, 1) := by decide +kernel
theorem dX5_fewest_32 : decode cX5_fewest 32 = .ok (.iconst 0, 1) := by decide +kernel
theorem dX5_fewest_33 : decode cX5_fewest 33 = .ok (.putfield 36, 3) := by decide +kernel
theorem dX5_fewest_36 : decode cX5_fewest 36 = .ok (.aload_n 0, 1) := by decide +kernel
theorem dX5_fewest_37 : decode cX5_fewest 37 = .ok (.bipush 17, 2) := by decide +kernel
theorem dX5_fewest_39 : decode cX5_fewest 39 = .ok (.putfield 39, 3) := by decide +kernel
theorem dX5_fewest_42 : decode cX5_fewest 42 = .ok (.aload_n 0, 1) := by decide +kernel
theorem dX5_fewest_43 : decode cX5_fewest 43 = .ok (.iconst 0, 1) := by decide +kernel
theorem dX5_fewest_44 : decode cX5_fewest 44 = .ok (.iconst 0, 1) := by decide +kernel
theorem dX5_fewest_45 : decode cX5_fewest 45 = .ok (.iconst 0, 1) := by decide +kernel
theorem dX5_fewest_46 : decode cX5_fewest 46 = .ok (.invokevirtual 42, 3) := by decide +kernel
theorem dX5_fewest_49 : decode cX5_fewest 49 = .ok (.aload_n 0, 1) := by decide +kernel
theorem dX5_fewest_50 : decode cX5_fewest 50 = .ok (.getfield 36, 3) := by decide +kernel
theorem dX5_fewest_53 : decode cX5_fewest 53 = .ok (.ireturn, 1) := by decide +kernel
theorem dX5_noteWhoHolds_0 : decode cX5_noteWhoHolds 0 = .ok (.iconst 0, 1) := by decide +kernel
theorem dX5_noteWhoHolds_1 : decode cX5_noteWhoHolds 1 = .ok (.istore_n 2, 1) := by decide +kernel
theorem dX5_noteWhoHolds_2 : decode cX5_noteWhoHolds 2 = .ok (.iload_n 2, 1) := by decide +kernel
theorem dX5_noteWhoHolds_3 : decode cX5_noteWhoHolds 3 = .ok (.aload_n 0, 1) := by decide +kernel
theorem dX5_noteWhoHolds_4 : decode cX5_noteWhoHolds 4 = .ok (.getfield 18, 3) := by decide +kernel
theorem dX5_noteWhoHolds_7 : decode cX5_noteWhoHolds 7 = .ok (.getfield 46, 3) := by decide +kernel
theorem dX5_noteWhoHolds_10 : decode cX5_noteWhoHolds 10 = .ok (.if_icmp .ge 110, 3) := by decide +kernel
theorem dX5_noteWhoHolds_13 : decode cX5_noteWhoHolds 13 = .ok (.aload_n 0, 1) := by decide +kernel
theorem dX5_noteWhoHolds_14 : decode cX5_noteWhoHolds 14 = .ok (.getfield 9, 3) := by decide +kernel
theorem dX5_noteWhoHolds_17 : decode cX5_noteWhoHolds 17 = .ok (.iload_n 2, 1) := by decide +kernel
theorem dX5_noteWhoHolds_18 : decode cX5_noteWhoHolds 18 = .ok (.iconst 0, 1) := by decide +kernel
theorem dX5_noteWhoHolds_19 : decode cX5_noteWhoHolds 19 = .ok (.iastore, 1) := by decide +kernel
theorem dX5_noteWhoHolds_20 : decode cX5_noteWhoHolds 20 = .ok (.iconst 0, 1) := by decide +kernel
theorem dX5_noteWhoHolds_21 : decode cX5_noteWhoHolds 21 = .ok (.istore_n 3, 1) := by decide +kernel
theorem dX5_noteWhoHolds_22 : decode cX5_noteWhoHolds 22 = .ok (.iload_n 3, 1) := by decide +kernel
theorem dX5_noteWhoHolds_23 : decode cX5_noteWhoHolds 23 = .ok (.aload_n 0, 1) := by decide +kernel
theorem dX5_noteWhoHolds_24 : decode cX5_noteWhoHolds 24 = .ok (.getfield 18, 3) := by decide +kernel
theorem dX5_noteWhoHolds_27 : decode cX5_noteWhoHolds 27 = .ok (.getfield 46, 3) := by decide +kernel
theorem dX5_noteWhoHolds_30 : decode cX5_noteWhoHolds 30 = .ok (.if_icmp .ge 68, 3) := by decide +kernel
theorem dX5_noteWhoHolds_33 : decode cX5_noteWhoHolds 33 = .ok (.aload_n 0, 1) := by decide +kernel
theorem dX5_noteWhoHolds_34 : decode cX5_noteWhoHolds 34 = .ok (.getfield 18, 3) := by decide +kernel
theorem dX5_noteWhoHolds_37 : decode cX5_noteWhoHolds 37 = .ok (.iload_n 2, 1) := by decide +kernel
theorem dX5_noteWhoHolds_38 : decode cX5_noteWhoHolds 38 = .ok (.aload_n 0, 1) := by decide +kernel
theorem dX5_noteWhoHolds_39 : decode cX5_noteWhoHolds 39 = .ok (.getfield 22, 3) := by decide +kernel
theorem dX5_noteWhoHolds_42 : decode cX5_noteWhoHolds 42 = .ok (.invokevirtual 49, 3) := by decide +kernel
theorem dX5_noteWhoHolds_45 : decode cX5_noteWhoHolds 45 = .ok (.ifCond .eq 53, 3) := by decide +kernel
theorem dX5_noteWhoHolds_48 : decode cX5_noteWhoHolds 48 = .ok (.aload_n 0, 1) := by decide +kernel
theorem dX5_noteWhoHolds_49 : decode cX5_noteWhoHolds 49 = .ok (.getfield 18, 3) := by decide +kernel
theorem dX5_noteWhoHolds_52 : decode cX5_noteWhoHolds 52 = .ok (.iload_n 3, 1) := by decide +kernel
theorem dX5_noteWhoHolds_53 : decode cX5_noteWhoHolds 53 = .ok (.iload_n 1, 1) := by decide +kernel
theorem dX5_noteWhoHolds_54 : decode cX5_noteWhoHolds 54 = .ok (.aload_n 0, 1) := by decide +kernel
theorem dX5_noteWhoHolds_55 : decode cX5_noteWhoHolds 55 = .ok (.getfield 22, 3) := by decide +kernel
theorem dX5_noteWhoHolds_58 : decode cX5_noteWhoHolds 58 = .ok (.invokevirtual 52, 3) := by decide +kernel
theorem dX5_noteWhoHolds_61 : decode cX5_noteWhoHolds 61 = .ok (.ifCond .eq 31, 3) := by decide +kernel
theorem dX5_noteWhoHolds_64 : decode cX5_noteWhoHolds 64 = .ok (.aload_n 0, 1) := by decide +kernel
theorem dX5_noteWhoHolds_65 : decode cX5_noteWhoHolds 65 = .ok (.getfield 18, 3) := by decide +kernel
theorem dX5_noteWhoHolds_68 : decode cX5_noteWhoHolds 68 = .ok (.iload_n 2, 1) := by decide +kernel
theorem dX5_noteWhoHolds_69 : decode cX5_noteWhoHolds 69 = .ok (.iload_n 3, 1) := by decide +kernel
theorem dX5_noteWhoHolds_70 : decode cX5_noteWhoHolds 70 = .ok (.aload_n 0, 1) := by decide +kernel
theorem dX5_noteWhoHolds_71 : decode cX5_noteWhoHolds 71 = .ok (.getfield 22, 3) := by decide +kernel
theorem dX5_noteWhoHolds_74 : decode cX5_noteWhoHolds 74 = .ok (.invokevirtual 56, 3) := by decide +kernel
theorem dX5_noteWhoHolds_77 : decode cX5_noteWhoHolds 77 = .ok (.ifCond .eq 15, 3) := by decide +kernel
theorem dX5_noteWhoHolds_80 : decode cX5_noteWhoHolds 80 = .ok (.aload_n 0, 1) := by decide +kernel
theorem dX5_noteWhoHolds_81 : decode cX5_noteWhoHolds 81 = .ok (.getfield 9, 3) := by decide +kernel
theorem dX5_noteWhoHolds_84 : decode cX5_noteWhoHolds 84 = .ok (.iload_n 2, 1) := by decide +kernel
theorem dX5_noteWhoHolds_85 : decode cX5_noteWhoHolds 85 = .ok (.dup2, 1) := by decide +kernel
theorem dX5_noteWhoHolds_86 : decode cX5_noteWhoHolds 86 = .ok (.iaload, 1) := by decide +kernel
theorem dX5_noteWhoHolds_87 : decode cX5_noteWhoHolds 87 = .ok (.iconst 1, 1) := by decide +kernel
theorem dX5_noteWhoHolds_88 : decode cX5_noteWhoHolds 88 = .ok (.iload_n 3, 1) := by decide +kernel
theorem dX5_noteWhoHolds_89 : decode cX5_noteWhoHolds 89 = .ok (.ishl, 1) := by decide +kernel
theorem dX5_noteWhoHolds_90 : decode cX5_noteWhoHolds 90 = .ok (.ior, 1) := by decide +kernel
theorem dX5_noteWhoHolds_91 : decode cX5_noteWhoHolds 91 = .ok (.iastore, 1) := by decide +kernel
theorem dX5_noteWhoHolds_92 : decode cX5_noteWhoHolds 92 = .ok (.iinc 3 1, 3) := by decide +kernel
theorem dX5_noteWhoHolds_95 : decode cX5_noteWhoHolds 95 = .ok (.goto (-73), 3) := by decide +kernel
theorem dX5_noteWhoHolds_98 : decode cX5_noteWhoHolds 98 = .ok (.aload_n 0, 1) := by decide +kernel
theorem dX5_noteWhoHolds_99 : decode cX5_noteWhoHolds 99 = .ok (.getfield 9, 3) := by decide +kernel
theorem dX5_noteWhoHolds_102 : decode cX5_noteWhoHolds 102 = .ok (.iload_n 2, 1) := by decide +kernel
theorem dX5_noteWhoHolds_103 : decode cX5_noteWhoHolds 103 = .ok (.iaload, 1) := by decide +kernel
theorem dX5_noteWhoHolds_104 : decode cX5_noteWhoHolds 104 = .ok (.iload_n 2, 1) := by decide +kernel
theorem dX5_noteWhoHolds_105 : decode cX5_noteWhoHolds 105 = .ok (.ishr, 1) := by decide +kernel
theorem dX5_noteWhoHolds_106 : decode cX5_noteWhoHolds 106 = .ok (.iconst 1, 1) := by decide +kernel
theorem dX5_noteWhoHolds_107 : decode cX5_noteWhoHolds 107 = .ok (.iand, 1) := by decide +kernel
theorem dX5_noteWhoHolds_108 : decode cX5_noteWhoHolds 108 = .ok (.iconst 1, 1) := by decide +kernel
theorem dX5_noteWhoHolds_109 : decode cX5_noteWhoHolds 109 = .ok (.if_icmp .ne 5, 3) := by decide +kernel
theorem dX5_noteWhoHolds_112 : decode cX5_noteWhoHolds 112 = .ok (.iconst 0, 1) := by decide +kernel
theorem dX5_noteWhoHolds_113 : decode cX5_noteWhoHolds 113 = .ok (.ireturn, 1) := by decide +kernel
theorem dX5_noteWhoHolds_114 : decode cX5_noteWhoHolds 114 = .ok (.iinc 2 1, 3) := by decide +kernel
theorem dX5_noteWhoHolds_117 : decode cX5_noteWhoHolds 117 = .ok (.goto (-115), 3) := by decide +kernel
theorem dX5_noteWhoHolds_120 : decode cX5_noteWhoHolds 120 = .ok (.iconst 1, 1) := by decide +kernel
theorem dX5_noteWhoHolds_121 : decode cX5_noteWhoHolds 121 = .ok (.ireturn, 1) := by decide +kernel
theorem dX5_seek_0 : decode cX5_seek 0 = .ok (.aload_n 0, 1) := by decide +kernel
theorem dX5_seek_1 : decode cX5_seek 1 = .ok (.iload_n 1, 1) := by decide +kernel
theorem dX5_seek_2 : decode cX5_seek 2 = .ok (.invokevirtual 59, 3) := by decide +kernel
theorem dX5_seek_5 : decode cX5_seek 5 = .ok (.istore 4, 2) := by decide +kernel
theorem dX5_seek_7 : decode cX5_seek 7 = .ok (.iload 4, 2) := by decide +kernel
theorem dX5_seek_9 : decode cX5_seek 9 = .ok (.ifCond .ne 30, 3) := by decide +kernel
theorem dX5_seek_12 : decode cX5_seek 12 = .ok (.iload_n 3, 1) := by decide +kernel
theorem dX5_seek_13 : decode cX5_seek 13 = .ok (.aload_n 0, 1) := by decide +kernel
theorem dX5_seek_14 : decode cX5_seek 14 = .ok (.getfield 39, 3) := by decide +kernel
theorem dX5_seek_17 : decode cX5_seek 17 = .ok (.if_icmp .lt 11, 3) := by decide +kernel
theorem dX5_seek_20 : decode cX5_seek 20 = .ok (.iload_n 1, 1) := by decide +kernel
theorem dX5_seek_21 : decode cX5_seek 21 = .ok (.aload_n 0, 1) := by decide +kernel
theorem dX5_seek_22 : decode cX5_seek 22 = .ok (.getfield 36, 3) := by decide +kernel
theorem dX5_seek_25 : decode cX5_seek 25 = .ok (.if_icmp .ge 13, 3) := by decide +kernel
theorem dX5_seek_28 : decode cX5_seek 28 = .ok (.aload_n 0, 1) := by decide +kernel
theorem dX5_seek_29 : decode cX5_seek 29 = .ok (.iload_n 1, 1) := by decide +kernel
theorem dX5_seek_30 : decode cX5_seek 30 = .ok (.putfield 36, 3) := by decide +kernel
theorem dX5_seek_33 : decode cX5_seek 33 = .ok (.aload_n 0, 1) := by decide +kernel
theorem dX5_seek_34 : decode cX5_seek 34 = .ok (.iload_n 3, 1) := by decide +kernel
theorem dX5_seek_35 : decode cX5_seek 35 = .ok (.putfield 39, 3) := by decide +kernel
theorem dX5_seek_38 : decode cX5_seek 38 = .ok (.return_, 1) := by decide +kernel
theorem dX5_seek_39 : decode cX5_seek 39 = .ok (.iload_n 2, 1) := by decide +kernel
theorem dX5_seek_40 : decode cX5_seek 40 = .ok (.istore 5, 2) := by decide +kernel
theorem dX5_seek_42 : decode cX5_seek 42 = .ok (.iconst 0, 1) := by decide +kernel
theorem dX5_seek_43 : decode cX5_seek 43 = .ok (.istore 6, 2) := by decide +kernel
theorem dX5_seek_45 : decode cX5_seek 45 = .ok (.iload 6, 2) := by decide +kernel
theorem dX5_seek_47 : decode cX5_seek 47 = .ok (.bipush 16, 2) := by decide +kernel
theorem dX5_seek_49 : decode cX5_seek 49 = .ok (.if_icmp .ge 77, 3) := by decide +kernel
theorem dX5_seek_52 : decode cX5_seek 52 = .ok (.iload_n 3, 1) := by decide +kernel
theorem dX5_seek_53 : decode cX5_seek 53 = .ok (.aload_n 0, 1) := by decide +kernel
theorem dX5_seek_54 : decode cX5_seek 54 = .ok (.getfield 39, 3) := by decide +kernel
theorem dX5_seek_57 : decode cX5_seek 57 = .ok (.if_icmp .ge 69, 3) := by decide +kernel
theorem dX5_seek_60 : decode cX5_seek 60 = .ok (.iload_n 3, 1) := by decide +kernel
theorem dX5_seek_61 : decode cX5_seek 61 = .ok (.bipush 16, 2) := by decide +kernel
theorem dX5_seek_63 : decode cX5_seek 63 = .ok (.if_icmp .ge 63, 3) := by decide +kernel
theorem dX5_seek_66 : decode cX5_seek 66 = .ok (.iload 4, 2) := by decide +kernel
theorem dX5_seek_68 : decode cX5_seek 68 = .ok (.iload 5, 2) := by decide +kernel
theorem dX5_seek_70 : decode cX5_seek 70 = .ok (.iconst (-1), 1) := by decide +kernel
theorem dX5_seek_71 : decode cX5_seek 71 = .ok (.ixor, 1) := by decide +kernel
theorem dX5_seek_72 : decode cX5_seek 72 = .ok (.iand, 1) := by decide +kernel
theorem dX5_seek_73 : decode cX5_seek 73 = .ok (.iload 6, 2) := by decide +kernel
theorem dX5_seek_75 : decode cX5_seek 75 = .ok (.ishr, 1) := by decide +kernel
theorem dX5_seek_76 : decode cX5_seek 76 = .ok (.ifCond .ne 4, 3) := by decide +kernel
theorem dX5_seek_79 : decode cX5_seek 79 = .ok (.return_, 1) := by decide +kernel
theorem dX5_seek_80 : decode cX5_seek 80 = .ok (.iload 4, 2) := by decide +kernel
theorem dX5_seek_82 : decode cX5_seek 82 = .ok (.iload 5, 2) := by decide +kernel
theorem dX5_seek_84 : decode cX5_seek 84 = .ok (.iconst (-1), 1) := by decide +kernel
theorem dX5_seek_85 : decode cX5_seek 85 = .ok (.ixor, 1) := by decide +kernel
theorem dX5_seek_86 : decode cX5_seek 86 = .ok (.iand, 1) := by decide +kernel
theorem dX5_seek_87 : decode cX5_seek 87 = .ok (.iload 6, 2) := by decide +kernel
theorem dX5_seek_89 : decode cX5_seek 89 = .ok (.ishr, 1) := by decide +kernel
theorem dX5_seek_90 : decode cX5_seek 90 = .ok (.iconst 1, 1) := by decide +kernel
theorem dX5_seek_91 : decode cX5_seek 91 = .ok (.iand, 1) := by decide +kernel
theorem dX5_seek_92 : decode cX5_seek 92 = .ok (.iconst 1, 1) := by decide +kernel
theorem dX5_seek_93 : decode cX5_seek 93 = .ok (.if_icmp .ne 27, 3) := by decide +kernel
theorem dX5_seek_96 : decode cX5_seek 96 = .ok (.aload_n 0, 1) := by decide +kernel
theorem dX5_seek_97 : decode cX5_seek 97 = .ok (.iload_n 1, 1) := by decide +kernel
theorem dX5_seek_98 : decode cX5_seek 98 = .ok (.iconst 1, 1) := by decide +kernel
theorem dX5_seek_99 : decode cX5_seek 99 = .ok (.iload 6, 2) := by decide +kernel
theorem dX5_seek_101 : decode cX5_seek 101 = .ok (.ishl, 1) := by decide +kernel
theorem dX5_seek_102 : decode cX5_seek 102 = .ok (.ior, 1) := by decide +kernel
theorem dX5_seek_103 : decode cX5_seek 103 = .ok (.iload 5, 2) := by decide +kernel
theorem dX5_seek_105 : decode cX5_seek 105 = .ok (.iload_n 3, 1) := by decide +kernel
theorem dX5_seek_106 : decode cX5_seek 106 = .ok (.iconst 1, 1) := by decide +kernel
theorem dX5_seek_107 : decode cX5_seek 107 = .ok (.iadd, 1) := by decide +kernel
theorem dX5_seek_108 : decode cX5_seek 108 = .ok (.invokevirtual 42, 3) := by decide +kernel
theorem dX5_seek_111 : decode cX5_seek 111 = .ok (.iload 5, 2) := by decide +kernel
theorem dX5_seek_113 : decode cX5_seek 113 = .ok (.iconst 1, 1) := by decide +kernel
theorem dX5_seek_114 : decode cX5_seek 114 = .ok (.iload 6, 2) := by decide +kernel
theorem dX5_seek_116 : decode cX5_seek 116 = .ok (.ishl, 1) := by decide +kernel
theorem dX5_seek_117 : decode cX5_seek 117 = .ok (.ior, 1) := by decide +kernel
theorem dX5_seek_118 : decode cX5_seek 118 = .ok (.istore 5, 2) := by decide +kernel
theorem dX5_seek_120 : decode cX5_seek 120 = .ok (.iinc 6 1, 3) := by decide +kernel
theorem dX5_seek_123 : decode cX5_seek 123 = .ok (.goto (-78), 3) := by decide +kernel
theorem dX5_seek_126 : decode cX5_seek 126 = .ok (.return_, 1) := by decide +kernel
theorem dX5_chainWithout_0 : decode cX5_chainWithout 0 = .ok (.aload_n 0, 1) := by decide +kernel
theorem dX5_chainWithout_1 : decode cX5_chainWithout 1 = .ok (.getfield 18, 3) := by decide +kernel
theorem dX5_chainWithout_4 : decode cX5_chainWithout 4 = .ok (.invokevirtual 63, 3) := by decide +kernel
theorem dX5_chainWithout_7 : decode cX5_chainWithout 7 = .ok (.iconst 0, 1) := by decide +kernel
theorem dX5_chainWithout_8 : decode cX5_chainWithout 8 = .ok (.istore_n 2, 1) := by decide +kernel
theorem dX5_chainWithout_9 : decode cX5_chainWithout 9 = .ok (.iload_n 2, 1) := by decide +kernel
theorem dX5_chainWithout_10 : decode cX5_chainWithout 10 = .ok (.aload_n 0, 1) := by decide +kernel
theorem dX5_chainWithout_11 : decode cX5_chainWithout 11 = .ok (.getfield 18, 3) := by decide +kernel
theorem dX5_chainWithout_14 : decode cX5_chainWithout 14 = .ok (.getfield 66, 3) := by decide +kernel
theorem dX5_chainWithout_17 : decode cX5_chainWithout 17 = .ok (.if_icmp .ge 47, 3) := by decide +kernel
theorem dX5_chainWithout_20 : decode cX5_chainWithout 20 = .ok (.aload_n 0, 1) := by decide +kernel
theorem dX5_chainWithout_21 : decode cX5_chainWithout 21 = .ok (.getfield 18, 3) := by decide +kernel
theorem dX5_chainWithout_24 : decode cX5_chainWithout 24 = .ok (.getfield 69, 3) := by decide +kernel
theorem dX5_chainWithout_27 : decode cX5_chainWithout 27 = .ok (.iload_n 2, 1) := by decide +kernel
theorem dX5_chainWithout_28 : decode cX5_chainWithout 28 = .ok (.iaload, 1) := by decide +kernel
theorem dX5_chainWithout_29 : decode cX5_chainWithout 29 = .ok (.istore_n 3, 1) := by decide +kernel
theorem dX5_chainWithout_30 : decode cX5_chainWithout 30 = .ok (.iload_n 1, 1) := by decide +kernel
theorem dX5_chainWithout_31 : decode cX5_chainWithout 31 = .ok (.iload_n 3, 1) := by decide +kernel
theorem dX5_chainWithout_32 : decode cX5_chainWithout 32 = .ok (.ishr, 1) := by decide +kernel
theorem dX5_chainWithout_33 : decode cX5_chainWithout 33 = .ok (.iconst 1, 1) := by decide +kernel
theorem dX5_chainWithout_34 : decode cX5_chainWithout 34 = .ok (.iand, 1) := by decide +kernel
theorem dX5_chainWithout_35 : decode cX5_chainWithout 35 = .ok (.ifCond .ne 23, 3) := by decide +kernel
theorem dX5_chainWithout_38 : decode cX5_chainWithout 38 = .ok (.aload_n 0, 1) := by decide +kernel
theorem dX5_chainWithout_39 : decode cX5_chainWithout 39 = .ok (.getfield 18, 3) := by decide +kernel
theorem dX5_chainWithout_42 : decode cX5_chainWithout 42 = .ok (.iload_n 3, 1) := by decide +kernel
theorem dX5_chainWithout_43 : decode cX5_chainWithout 43 = .ok (.aload_n 0, 1) := by decide +kernel
theorem dX5_chainWithout_44 : decode cX5_chainWithout 44 = .ok (.getfield 22, 3) := by decide +kernel
theorem dX5_chainWithout_47 : decode cX5_chainWithout 47 = .ok (.invokevirtual 72, 3) := by decide +kernel
theorem dX5_chainWithout_50 : decode cX5_chainWithout 50 = .ok (.ifCond .eq 8, 3) := by decide +kernel
theorem dX5_chainWithout_53 : decode cX5_chainWithout 53 = .ok (.aload_n 0, 1) := by decide +kernel
theorem dX5_chainWithout_54 : decode cX5_chainWithout 54 = .ok (.iload_n 3, 1) := by decide +kernel
theorem dX5_chainWithout_55 : decode cX5_chainWithout 55 = .ok (.invokevirtual 75, 3) := by decide +kernel
theorem dX5_chainWithout_58 : decode cX5_chainWithout 58 = .ok (.iinc 2 1, 3) := by decide +kernel
theorem dX5_chainWithout_61 : decode cX5_chainWithout 61 = .ok (.goto (-52), 3) := by decide +kernel
theorem dX5_chainWithout_64 : decode cX5_chainWithout 64 = .ok (.iconst 0, 1) := by decide +kernel
theorem dX5_chainWithout_65 : decode cX5_chainWithout 65 = .ok (.istore_n 2, 1) := by decide +kernel
theorem dX5_chainWithout_66 : decode cX5_chainWithout 66 = .ok (.iload_n 2, 1) := by decide +kernel
theorem dX5_chainWithout_67 : decode cX5_chainWithout 67 = .ok (.aload_n 0, 1) := by decide +kernel
theorem dX5_chainWithout_68 : decode cX5_chainWithout 68 = .ok (.getfield 18, 3) := by decide +kernel
theorem dX5_chainWithout_71 : decode cX5_chainWithout 71 = .ok (.getfield 46, 3) := by decide +kernel
theorem dX5_chainWithout_74 : decode cX5_chainWithout 74 = .ok (.if_icmp .ge 69, 3) := by decide +kernel
theorem dX5_chainWithout_77 : decode cX5_chainWithout 77 = .ok (.aload_n 0, 1) := by decide +kernel
theorem dX5_chainWithout_78 : decode cX5_chainWithout 78 = .ok (.getfield 18, 3) := by decide +kernel
theorem dX5_chainWithout_81 : decode cX5_chainWithout 81 = .ok (.getfield 79, 3) := by decide +kernel
theorem dX5_chainWithout_84 : decode cX5_chainWithout 84 = .ok (.iload_n 2, 1) := by decide +kernel
theorem dX5_chainWithout_85 : decode cX5_chainWithout 85 = .ok (.iaload, 1) := by decide +kernel
theorem dX5_chainWithout_86 : decode cX5_chainWithout 86 = .ok (.aload_n 0, 1) := by decide +kernel
theorem dX5_chainWithout_87 : decode cX5_chainWithout 87 = .ok (.getfield 9, 3) := by decide +kernel
theorem dX5_chainWithout_90 : decode cX5_chainWithout 90 = .ok (.iload_n 2, 1) := by decide +kernel
theorem dX5_chainWithout_91 : decode cX5_chainWithout 91 = .ok (.iaload, 1) := by decide +kernel
theorem dX5_chainWithout_92 : decode cX5_chainWithout 92 = .ok (.iand, 1) := by decide +kernel
theorem dX5_chainWithout_93 : decode cX5_chainWithout 93 = .ok (.istore_n 3, 1) := by decide +kernel
theorem dX5_chainWithout_94 : decode cX5_chainWithout 94 = .ok (.iconst 0, 1) := by decide +kernel
theorem dX5_chainWithout_95 : decode cX5_chainWithout 95 = .ok (.istore 4, 2) := by decide +kernel
theorem dX5_chainWithout_97 : decode cX5_chainWithout 97 = .ok (.iload 4, 2) := by decide +kernel
theorem dX5_chainWithout_99 : decode cX5_chainWithout 99 = .ok (.aload_n 0, 1) := by decide +kernel
theorem dX5_chainWithout_100 : decode cX5_chainWithout 100 = .ok (.getfield 18, 3) := by decide +kernel
theorem dX5_chainWithout_103 : decode cX5_chainWithout 103 = .ok (.getfield 46, 3) := by decide +kernel
theorem dX5_chainWithout_106 : decode cX5_chainWithout 106 = .ok (.if_icmp .ge 31, 3) := by decide +kernel
theorem dX5_chainWithout_109 : decode cX5_chainWithout 109 = .ok (.iload_n 3, 1) := by decide +kernel
theorem dX5_chainWithout_110 : decode cX5_chainWithout 110 = .ok (.ifCond .eq 27, 3) := by decide +kernel
theorem dX5_chainWithout_113 : decode cX5_chainWithout 113 = .ok (.iload_n 3, 1) := by decide +kernel
theorem dX5_chainWithout_114 : decode cX5_chainWithout 114 = .ok (.iload 4, 2) := by decide +kernel
theorem dX5_chainWithout_116 : decode cX5_chainWithout 116 = .ok (.ishr, 1) := by decide +kernel
theorem dX5_chainWithout_117 : decode cX5_chainWithout 117 = .ok (.iconst 1, 1) := by decide +kernel
theorem dX5_chainWithout_118 : decode cX5_chainWithout 118 = .ok (.iand, 1) := by decide +kernel
theorem dX5_chainWithout_119 : decode cX5_chainWithout 119 = .ok (.iconst 1, 1) := by decide +kernel
theorem dX5_chainWithout_120 : decode cX5_chainWithout 120 = .ok (.if_icmp .ne 11, 3) := by decide +kernel
theorem dX5_chainWithout_123 : decode cX5_chainWithout 123 = .ok (.aload_n 0, 1) := by decide +kernel
theorem dX5_chainWithout_124 : decode cX5_chainWithout 124 = .ok (.iload_n 2, 1) := by decide +kernel
theorem dX5_chainWithout_125 : decode cX5_chainWithout 125 = .ok (.iload 4, 2) := by decide +kernel
theorem dX5_chainWithout_127 : decode cX5_chainWithout 127 = .ok (.invokevirtual 82, 3) := by decide +kernel
theorem dX5_chainWithout_130 : decode cX5_chainWithout 130 = .ok (.ireturn, 1) := by decide +kernel
theorem dX5_chainWithout_131 : decode cX5_chainWithout 131 = .ok (.iinc 4 1, 3) := by decide +kernel
theorem dX5_chainWithout_134 : decode cX5_chainWithout 134 = .ok (.goto (-37), 3) := by decide +kernel
theorem dX5_chainWithout_137 : decode cX5_chainWithout 137 = .ok (.iinc 2 1, 3) := by decide +kernel
theorem dX5_chainWithout_140 : decode cX5_chainWithout 140 = .ok (.goto (-74), 3) := by decide +kernel
theorem dX5_chainWithout_143 : decode cX5_chainWithout 143 = .ok (.iconst 0, 1) := by decide +kernel
theorem dX5_chainWithout_144 : decode cX5_chainWithout 144 = .ok (.ireturn, 1) := by decide +kernel
theorem dX5_greetAndNote_0 : decode cX5_greetAndNote 0 = .ok (.aload_n 0, 1) := by decide +kernel
theorem dX5_greetAndNote_1 : decode cX5_greetAndNote 1 = .ok (.getfield 18, 3) := by decide +kernel
theorem dX5_greetAndNote_4 : decode cX5_greetAndNote 4 = .ok (.getfield 86, 3) := by decide +kernel
theorem dX5_greetAndNote_7 : decode cX5_greetAndNote 7 = .ok (.iload_n 1, 1) := by decide +kernel
theorem dX5_greetAndNote_8 : decode cX5_greetAndNote 8 = .ok (.iaload, 1) := by decide +kernel
theorem dX5_greetAndNote_9 : decode cX5_greetAndNote 9 = .ok (.istore_n 2, 1) := by decide +kernel
theorem dX5_greetAndNote_10 : decode cX5_greetAndNote 10 = .ok (.aload_n 0, 1) := by decide +kernel
theorem dX5_greetAndNote_11 : decode cX5_greetAndNote 11 = .ok (.getfield 18, 3) := by decide +kernel
theorem dX5_greetAndNote_14 : decode cX5_greetAndNote 14 = .ok (.getfield 89, 3) := by decide +kernel
theorem dX5_greetAndNote_17 : decode cX5_greetAndNote 17 = .ok (.iload_n 1, 1) := by decide +kernel
theorem dX5_greetAndNote_18 : decode cX5_greetAndNote 18 = .ok (.iaload, 1) := by decide +kernel
theorem dX5_greetAndNote_19 : decode cX5_greetAndNote 19 = .ok (.istore_n 3, 1) := by decide +kernel
theorem dX5_greetAndNote_20 : decode cX5_greetAndNote 20 = .ok (.aload_n 0, 1) := by decide +kernel
theorem dX5_greetAndNote_21 : decode cX5_greetAndNote 21 = .ok (.getfield 18, 3) := by decide +kernel
theorem dX5_greetAndNote_24 : decode cX5_greetAndNote 24 = .ok (.getfield 79, 3) := by decide +kernel
theorem dX5_greetAndNote_27 : decode cX5_greetAndNote 27 = .ok (.iload_n 2, 1) := by decide +kernel
theorem dX5_greetAndNote_28 : decode cX5_greetAndNote 28 = .ok (.iaload, 1) := by decide +kernel
theorem dX5_greetAndNote_29 : decode cX5_greetAndNote 29 = .ok (.istore 4, 2) := by decide +kernel
theorem dX5_greetAndNote_31 : decode cX5_greetAndNote 31 = .ok (.aload_n 0, 1) := by decide +kernel
theorem dX5_greetAndNote_32 : decode cX5_greetAndNote 32 = .ok (.getfield 18, 3) := by decide +kernel
theorem dX5_greetAndNote_35 : decode cX5_greetAndNote 35 = .ok (.getfield 79, 3) := by decide +kernel
theorem dX5_greetAndNote_38 : decode cX5_greetAndNote 38 = .ok (.iload_n 3, 1) := by decide +kernel
theorem dX5_greetAndNote_39 : decode cX5_greetAndNote 39 = .ok (.iaload, 1) := by decide +kernel
theorem dX5_greetAndNote_40 : decode cX5_greetAndNote 40 = .ok (.istore 5, 2) := by decide +kernel
theorem dX5_greetAndNote_42 : decode cX5_greetAndNote 42 = .ok (.aload_n 0, 1) := by decide +kernel
theorem dX5_greetAndNote_43 : decode cX5_greetAndNote 43 = .ok (.getfield 18, 3) := by decide +kernel
theorem dX5_greetAndNote_46 : decode cX5_greetAndNote 46 = .ok (.iload_n 1, 1) := by decide +kernel
theorem dX5_greetAndNote_47 : decode cX5_greetAndNote 47 = .ok (.invokevirtual 92, 3) := by decide +kernel
theorem dX5_greetAndNote_50 : decode cX5_greetAndNote 50 = .ok (.aload_n 0, 1) := by decide +kernel
theorem dX5_greetAndNote_51 : decode cX5_greetAndNote 51 = .ok (.iload_n 2, 1) := by decide +kernel
theorem dX5_greetAndNote_52 : decode cX5_greetAndNote 52 = .ok (.aload_n 0, 1) := by decide +kernel
theorem dX5_greetAndNote_53 : decode cX5_greetAndNote 53 = .ok (.getfield 18, 3) := by decide +kernel
theorem dX5_greetAndNote_56 : decode cX5_greetAndNote 56 = .ok (.getfield 79, 3) := by decide +kernel
theorem dX5_greetAndNote_59 : decode cX5_greetAndNote 59 = .ok (.iload_n 2, 1) := by decide +kernel
theorem dX5_greetAndNote_60 : decode cX5_greetAndNote 60 = .ok (.iaload, 1) := by decide +kernel
theorem dX5_greetAndNote_61 : decode cX5_greetAndNote 61 = .ok (.iload 4, 2) := by decide +kernel
theorem dX5_greetAndNote_63 : decode cX5_greetAndNote 63 = .ok (.iconst (-1), 1) := by decide +kernel
theorem dX5_greetAndNote_64 : decode cX5_greetAndNote 64 = .ok (.ixor, 1) := by decide +kernel
theorem dX5_greetAndNote_65 : decode cX5_greetAndNote 65 = .ok (.iand, 1) := by decide +kernel
theorem dX5_greetAndNote_66 : decode cX5_greetAndNote 66 = .ok (.iload_n 1, 1) := by decide +kernel
theorem dX5_greetAndNote_67 : decode cX5_greetAndNote 67 = .ok (.invokevirtual 95, 3) := by decide +kernel
theorem dX5_greetAndNote_70 : decode cX5_greetAndNote 70 = .ok (.aload_n 0, 1) := by decide +kernel
theorem dX5_greetAndNote_71 : decode cX5_greetAndNote 71 = .ok (.iload_n 3, 1) := by decide +kernel
theorem dX5_greetAndNote_72 : decode cX5_greetAndNote 72 = .ok (.aload_n 0, 1) := by decide +kernel
theorem dX5_greetAndNote_73 : decode cX5_greetAndNote 73 = .ok (.getfield 18, 3) := by decide +kernel
theorem dX5_greetAndNote_76 : decode cX5_greetAndNote 76 = .ok (.getfield 79, 3) := by decide +kernel
theorem dX5_greetAndNote_79 : decode cX5_greetAndNote 79 = .ok (.iload_n 3, 1) := by decide +kernel
theorem dX5_greetAndNote_80 : decode cX5_greetAndNote 80 = .ok (.iaload, 1) := by decide +kernel
theorem dX5_greetAndNote_81 : decode cX5_greetAndNote 81 = .ok (.iload 5, 2) := by decide +kernel
theorem dX5_greetAndNote_83 : decode cX5_greetAndNote 83 = .ok (.iconst (-1), 1) := by decide +kernel
theorem dX5_greetAndNote_84 : decode cX5_greetAndNote 84 = .ok (.ixor, 1) := by decide +kernel
theorem dX5_greetAndNote_85 : decode cX5_greetAndNote 85 = .ok (.iand, 1) := by decide +kernel
theorem dX5_greetAndNote_86 : decode cX5_greetAndNote 86 = .ok (.iload_n 1, 1) := by decide +kernel
theorem dX5_greetAndNote_87 : decode cX5_greetAndNote 87 = .ok (.invokevirtual 95, 3) := by decide +kernel
theorem dX5_greetAndNote_90 : decode cX5_greetAndNote 90 = .ok (.return_, 1) := by decide +kernel
theorem dX5_noteLearnt_0 : decode cX5_noteLearnt 0 = .ok (.iconst 0, 1) := by decide +kernel
theorem dX5_noteLearnt_1 : decode cX5_noteLearnt 1 = .ok (.istore 4, 2) := by decide +kernel
theorem dX5_noteLearnt_3 : decode cX5_noteLearnt 3 = .ok (.iload 4, 2) := by decide +kernel
theorem dX5_noteLearnt_5 : decode cX5_noteLearnt 5 = .ok (.bipush 12, 2) := by decide +kernel
theorem dX5_noteLearnt_7 : decode cX5_noteLearnt 7 = .ok (.if_icmp .ge 39, 3) := by decide +kernel
theorem dX5_noteLearnt_10 : decode cX5_noteLearnt 10 = .ok (.iload_n 2, 1) := by decide +kernel
theorem dX5_noteLearnt_11 : decode cX5_noteLearnt 11 = .ok (.iload 4, 2) := by decide +kernel
theorem dX5_noteLearnt_13 : decode cX5_noteLearnt 13 = .ok (.ishr, 1) := by decide +kernel
theorem dX5_noteLearnt_14 : decode cX5_noteLearnt 14 = .ok (.ifCond .eq 32, 3) := by decide +kernel
theorem dX5_noteLearnt_17 : decode cX5_noteLearnt 17 = .ok (.iload_n 2, 1) := by decide +kernel
theorem dX5_noteLearnt_18 : decode cX5_noteLearnt 18 = .ok (.iload 4, 2) := by decide +kernel
theorem dX5_noteLearnt_20 : decode cX5_noteLearnt 20 = .ok (.ishr, 1) := by decide +kernel
theorem dX5_noteLearnt_21 : decode cX5_noteLearnt 21 = .ok (.iconst 1, 1) := by decide +kernel
theorem dX5_noteLearnt_22 : decode cX5_noteLearnt 22 = .ok (.iand, 1) := by decide +kernel
theorem dX5_noteLearnt_23 : decode cX5_noteLearnt 23 = .ok (.iconst 1, 1) := by decide +kernel
theorem dX5_noteLearnt_24 : decode cX5_noteLearnt 24 = .ok (.if_icmp .ne 16, 3) := by decide +kernel
theorem dX5_noteLearnt_27 : decode cX5_noteLearnt 27 = .ok (.aload_n 0, 1) := by decide +kernel
theorem dX5_noteLearnt_28 : decode cX5_noteLearnt 28 = .ok (.getfield 15, 3) := by decide +kernel
theorem dX5_noteLearnt_31 : decode cX5_noteLearnt 31 = .ok (.iload_n 1, 1) := by decide +kernel
theorem dX5_noteLearnt_32 : decode cX5_noteLearnt 32 = .ok (.bipush 12, 2) := by decide +kernel
theorem dX5_noteLearnt_34 : decode cX5_noteLearnt 34 = .ok (.imul, 1) := by decide +kernel
theorem dX5_noteLearnt_35 : decode cX5_noteLearnt 35 = .ok (.iload 4, 2) := by decide +kernel
theorem dX5_noteLearnt_37 : decode cX5_noteLearnt 37 = .ok (.iadd, 1) := by decide +kernel
theorem dX5_noteLearnt_38 : decode cX5_noteLearnt 38 = .ok (.iload_n 3, 1) := by decide +kernel
theorem dX5_noteLearnt_39 : decode cX5_noteLearnt 39 = .ok (.iastore, 1) := by decide +kernel
theorem dX5_noteLearnt_40 : decode cX5_noteLearnt 40 = .ok (.iinc 4 1, 3) := by decide +kernel
theorem dX5_noteLearnt_43 : decode cX5_noteLearnt 43 = .ok (.goto (-40), 3) := by decide +kernel
theorem dX5_noteLearnt_46 : decode cX5_noteLearnt 46 = .ok (.return_, 1) := by decide +kernel
theorem dX5_chainOf_0 : decode cX5_chainOf 0 = .ok (.iconst 0, 1) := by decide +kernel
theorem dX5_chainOf_1 : decode cX5_chainOf 1 = .ok (.istore_n 3, 1) := by decide +kernel
theorem dX5_chainOf_2 : decode cX5_chainOf 2 = .ok (.iload_n 1, 1) := by decide +kernel
theorem dX5_chainOf_3 : decode cX5_chainOf 3 = .ok (.istore 4, 2) := by decide +kernel
theorem dX5_chainOf_5 : decode cX5_chainOf 5 = .ok (.iconst 0, 1) := by decide +kernel
theorem dX5_chainOf_6 : decode cX5_chainOf 6 = .ok (.istore 5, 2) := by decide +kernel
theorem dX5_chainOf_8 : decode cX5_chainOf 8 = .ok (.iload 5, 2) := by decide +kernel
theorem dX5_chainOf_10 : decode cX5_chainOf 10 = .ok (.bipush 16, 2) := by decide +kernel
theorem dX5_chainOf_12 : decode cX5_chainOf 12 = .ok (.if_icmp .ge 76, 3) := by decide +kernel
theorem dX5_chainOf_15 : decode cX5_chainOf 15 = .ok (.iload 4, 2) := by decide +kernel
theorem dX5_chainOf_17 : decode cX5_chainOf 17 = .ok (.iload_n 2, 1) := by decide +kernel
theorem dX5_chainOf_18 : decode cX5_chainOf 18 = .ok (.if_icmp .eq 70, 3) := by decide +kernel
theorem dX5_chainOf_21 : decode cX5_chainOf 21 = .ok (.aload_n 0, 1) := by decide +kernel
theorem dX5_chainOf_22 : decode cX5_chainOf 22 = .ok (.getfield 15, 3) := by decide +kernel
theorem dX5_chainOf_25 : decode cX5_chainOf 25 = .ok (.iload 4, 2) := by decide +kernel
theorem dX5_chainOf_27 : decode cX5_chainOf 27 = .ok (.bipush 12, 2) := by decide +kernel
theorem dX5_chainOf_29 : decode cX5_chainOf 29 = .ok (.imul, 1) := by decide +kernel
theorem dX5_chainOf_30 : decode cX5_chainOf 30 = .ok (.iload_n 2, 1) := by decide +kernel
theorem dX5_chainOf_31 : decode cX5_chainOf 31 = .ok (.iadd, 1) := by decide +kernel
theorem dX5_chainOf_32 : decode cX5_chainOf 32 = .ok (.iaload, 1) := by decide +kernel
theorem dX5_chainOf_33 : decode cX5_chainOf 33 = .ok (.istore 6, 2) := by decide +kernel
theorem dX5_chainOf_35 : decode cX5_chainOf 35 = .ok (.iload_n 3, 1) := by decide +kernel
theorem dX5_chainOf_36 : decode cX5_chainOf 36 = .ok (.iconst 1, 1) := by decide +kernel
theorem dX5_chainOf_37 : decode cX5_chainOf 37 = .ok (.iload 6, 2) := by decide +kernel
theorem dX5_chainOf_39 : decode cX5_chainOf 39 = .ok (.ishl, 1) := by decide +kernel
theorem dX5_chainOf_40 : decode cX5_chainOf 40 = .ok (.ior, 1) := by decide +kernel
theorem dX5_chainOf_41 : decode cX5_chainOf 41 = .ok (.istore_n 3, 1) := by decide +kernel
theorem dX5_chainOf_42 : decode cX5_chainOf 42 = .ok (.aload_n 0, 1) := by decide +kernel
theorem dX5_chainOf_43 : decode cX5_chainOf 43 = .ok (.getfield 18, 3) := by decide +kernel
theorem dX5_chainOf_46 : decode cX5_chainOf 46 = .ok (.getfield 86, 3) := by decide +kernel
theorem dX5_chainOf_49 : decode cX5_chainOf 49 = .ok (.iload 6, 2) := by decide +kernel
theorem dX5_chainOf_51 : decode cX5_chainOf 51 = .ok (.iaload, 1) := by decide +kernel
theorem dX5_chainOf_52 : decode cX5_chainOf 52 = .ok (.iload 4, 2) := by decide +kernel
theorem dX5_chainOf_54 : decode cX5_chainOf 54 = .ok (.if_icmp .ne 16, 3) := by decide +kernel
theorem dX5_chainOf_57 : decode cX5_chainOf 57 = .ok (.aload_n 0, 1) := by decide +kernel
theorem dX5_chainOf_58 : decode cX5_chainOf 58 = .ok (.getfield 18, 3) := by decide +kernel
theorem dX5_chainOf_61 : decode cX5_chainOf 61 = .ok (.getfield 89, 3) := by decide +kernel
theorem dX5_chainOf_64 : decode cX5_chainOf 64 = .ok (.iload 6, 2) := by decide +kernel
theorem dX5_chainOf_66 : decode cX5_chainOf 66 = .ok (.iaload, 1) := by decide +kernel
theorem dX5_chainOf_67 : decode cX5_chainOf 67 = .ok (.goto 13, 3) := by decide +kernel
theorem dX5_chainOf_70 : decode cX5_chainOf 70 = .ok (.aload_n 0, 1) := by decide +kernel
theorem dX5_chainOf_71 : decode cX5_chainOf 71 = .ok (.getfield 18, 3) := by decide +kernel
theorem dX5_chainOf_74 : decode cX5_chainOf 74 = .ok (.getfield 86, 3) := by decide +kernel
theorem dX5_chainOf_77 : decode cX5_chainOf 77 = .ok (.iload 6, 2) := by decide +kernel
theorem dX5_chainOf_79 : decode cX5_chainOf 79 = .ok (.iaload, 1) := by decide +kernel
theorem dX5_chainOf_80 : decode cX5_chainOf 80 = .ok (.istore 4, 2) := by decide +kernel
theorem dX5_chainOf_82 : decode cX5_chainOf 82 = .ok (.iinc 5 1, 3) := by decide +kernel
theorem dX5_chainOf_85 : decode cX5_chainOf 85 = .ok (.goto (-77), 3) := by decide +kernel
theorem dX5_chainOf_88 : decode cX5_chainOf 88 = .ok (.iload_n 3, 1) := by decide +kernel
theorem dX5_chainOf_89 : decode cX5_chainOf 89 = .ok (.ireturn, 1) := by decide +kernel
theorem dX6_init_0 : decode cX6_init 0 = .ok (.aload_n 0, 1) := by decide +kernel
theorem dX6_init_1 : decode cX6_init 1 = .ok (.invokespecial 3, 3) := by decide +kernel
theorem dX6_init_4 : decode cX6_init 4 = .ok (.aload_n 0, 1) := by decide +kernel
theorem dX6_init_5 : decode cX6_init 5 = .ok (.bipush 60, 2) := by decide +kernel
theorem dX6_init_7 : decode cX6_init 7 = .ok (.newarray .long, 2) := by decide +kernel
theorem dX6_init_9 : decode cX6_init 9 = .ok (.putfield 11, 3) := by decide +kernel
theorem dX6_init_12 : decode cX6_init 12 = .ok (.aload_n 0, 1) := by decide +kernel
theorem dX6_init_13 : decode cX6_init 13 = .ok (.iconst (-1), 1) := by decide +kernel
theorem dX6_init_14 : decode cX6_init 14 = .ok (.putfield 15, 3) := by decide +kernel
theorem dX6_init_17 : decode cX6_init 17 = .ok (.aload_n 0, 1) := by decide +kernel
theorem dX6_init_18 : decode cX6_init 18 = .ok (.iconst (-1), 1) := by decide +kernel
theorem dX6_init_19 : decode cX6_init 19 = .ok (.putfield 19, 3) := by decide +kernel
theorem dX6_init_22 : decode cX6_init 22 = .ok (.return_, 1) := by decide +kernel
theorem dX6_isRow_0 : decode cX6_isRow 0 = .ok (.aload_n 0, 1) := by decide +kernel
theorem dX6_isRow_1 : decode cX6_isRow 1 = .ok (.getfield 19, 3) := by decide +kernel
theorem dX6_isRow_4 : decode cX6_isRow 4 = .ok (.iconst (-1), 1) := by decide +kernel
theorem dX6_isRow_5 : decode cX6_isRow 5 = .ok (.if_icmp .eq 7, 3) := by decide +kernel
theorem dX6_isRow_8 : decode cX6_isRow 8 = .ok (.iconst 1, 1) := by decide +kernel
theorem dX6_isRow_9 : decode cX6_isRow 9 = .ok (.goto 4, 3) := by decide +kernel
theorem dX6_isRow_12 : decode cX6_isRow 12 = .ok (.iconst 0, 1) := by decide +kernel
theorem dX6_isRow_13 : decode cX6_isRow 13 = .ok (.ireturn, 1) := by decide +kernel
theorem dX6_isEmpty_0 : decode cX6_isEmpty 0 = .ok (.aload_n 0, 1) := by decide +kernel
theorem dX6_isEmpty_1 : decode cX6_isEmpty 1 = .ok (.getfield 19, 3) := by decide +kernel
theorem dX6_isEmpty_4 : decode cX6_isEmpty 4 = .ok (.iconst (-1), 1) := by decide +kernel
theorem dX6_isEmpty_5 : decode cX6_isEmpty 5 = .ok (.if_icmp .ne 15, 3) := by decide +kernel
theorem dX6_isEmpty_8 : decode cX6_isEmpty 8 = .ok (.aload_n 0, 1) := by decide +kernel
theorem dX6_isEmpty_9 : decode cX6_isEmpty 9 = .ok (.getfield 15, 3) := by decide +kernel
theorem dX6_isEmpty_12 : decode cX6_isEmpty 12 = .ok (.iconst (-1), 1) := by decide +kernel
theorem dX6_isEmpty_13 : decode cX6_isEmpty 13 = .ok (.if_icmp .ne 7, 3) := by decide +kernel
theorem dX6_isEmpty_16 : decode cX6_isEmpty 16 = .ok (.iconst 1, 1) := by decide +kernel
theorem dX6_isEmpty_17 : decode cX6_isEmpty 17 = .ok (.goto 4, 3) := by decide +kernel
theorem dX6_isEmpty_20 : decode cX6_isEmpty 20 = .ok (.iconst 0, 1) := by decide +kernel
theorem dX6_isEmpty_21 : decode cX6_isEmpty 21 = .ok (.ireturn, 1) := by decide +kernel
theorem dX6_holdBody_0 : decode cX6_holdBody 0 = .ok (.aload_n 0, 1) := by decide +kernel
theorem dX6_holdBody_1 : decode cX6_holdBody 1 = .ok (.iload_n 1, 1) := by decide +kernel
theorem dX6_holdBody_2 : decode cX6_holdBody 2 = .ok (.putfield 15, 3) := by decide +kernel
theorem dX6_holdBody_5 : decode cX6_holdBody 5 = .ok (.aload_n 0, 1) := by decide +kernel
theorem dX6_holdBody_6 : decode cX6_holdBody 6 = .ok (.iconst (-1), 1) := by decide +kernel
theorem dX6_holdBody_7 : decode cX6_holdBody 7 = .ok (.putfield 19, 3) := by decide +kernel
theorem dX6_holdBody_10 : decode cX6_holdBody 10 = .ok (.aload_n 0, 1) := by decide +kernel
theorem dX6_holdBody_11 : decode cX6_holdBody 11 = .ok (.iconst 0, 1) := by decide +kernel
theorem dX6_holdBody_12 : decode cX6_holdBody 12 = .ok (.putfield 22, 3) := by decide +kernel
theorem dX6_holdBody_15 : decode cX6_holdBody 15 = .ok (.return_, 1) := by decide +kernel
theorem dX6_holdRow_0 : decode cX6_holdRow 0 = .ok (.aload_n 0, 1) := by decide +kernel
theorem dX6_holdRow_1 : decode cX6_holdRow 1 = .ok (.iconst (-1), 1) := by decide +kernel
theorem dX6_holdRow_2 : decode cX6_holdRow 2 = .ok (.putfield 15, 3) := by decide +kernel
theorem dX6_holdRow_5 : decode cX6_holdRow 5 = .ok (.aload_n 0, 1) := by decide +kernel
theorem dX6_holdRow_6 : decode cX6_holdRow 6 = .ok (.iload_n 1, 1) := by decide +kernel
theorem dX6_holdRow_7 : decode cX6_holdRow 7 = .ok (.putfield 19, 3) := by decide +kernel
theorem dX6_holdRow_10 : decode cX6_holdRow 10 = .ok (.aload_n 0, 1) := by decide +kernel
theorem dX6_holdRow_11 : decode cX6_holdRow 11 = .ok (.iload_n 2, 1) := by decide +kernel
theorem dX6_holdRow_12 : decode cX6_holdRow 12 = .ok (.putfield 22, 3) := by decide +kernel
theorem dX6_holdRow_15 : decode cX6_holdRow 15 = .ok (.aload_n 0, 1) := by decide +kernel
theorem dX6_holdRow_16 : decode cX6_holdRow 16 = .ok (.getfield 11, 3) := by decide +kernel
theorem dX6_holdRow_19 : decode cX6_holdRow 19 = .ok (.lconst 0, 1) := by decide +kernel
theorem dX6_holdRow_20 : decode cX6_holdRow 20 = .ok (.invokestatic 25, 3) := by decide +kernel
theorem dX6_holdRow_23 : decode cX6_holdRow 23 = .ok (.return_, 1) := by decide +kernel
theorem dX6_hasPlaces_0 : decode cX6_hasPlaces 0 = .ok (.iload_n 1, 1) := by decide +kernel
theorem dX6_hasPlaces_1 : decode cX6_hasPlaces 1 = .ok (.ifCond .lt 29, 3) := by decide +kernel
theorem dX6_hasPlaces_4 : decode cX6_hasPlaces 4 = .ok (.iload_n 2, 1) := by decide +kernel
theorem dX6_hasPlaces_5 : decode cX6_hasPlaces 5 = .ok (.ifCond .lt 25, 3) := by decide +kernel
theorem dX6_hasPlaces_8 : decode cX6_hasPlaces 8 = .ok (.iload_n 1, 1) := by decide +kernel
theorem dX6_hasPlaces_9 : decode cX6_hasPlaces 9 = .ok (.aload_n 0, 1) := by decide +kernel
theorem dX6_hasPlaces_10 : decode cX6_hasPlaces 10 = .ok (.getfield 22, 3) := by decide +kernel
theorem dX6_hasPlaces_13 : decode cX6_hasPlaces 13 = .ok (.if_icmp .gt 17, 3) := by decide +kernel
theorem dX6_hasPlaces_16 : decode cX6_hasPlaces 16 = .ok (.iload_n 2, 1) := by decide +kernel
theorem dX6_hasPlaces_17 : decode cX6_hasPlaces 17 = .ok (.aload_n 0, 1) := by decide +kernel
theorem dX6_hasPlaces_18 : decode cX6_hasPlaces 18 = .ok (.getfield 22, 3) := by decide +kernel
theorem dX6_hasPlaces_21 : decode cX6_hasPlaces 21 = .ok (.iload_n 1, 1) := by decide +kernel
theorem dX6_hasPlaces_22 : decode cX6_hasPlaces 22 = .ok (.isub, 1) := by decide +kernel
theorem dX6_hasPlaces_23 : decode cX6_hasPlaces 23 = .ok (.if_icmp .gt 7, 3) := by decide +kernel
theorem dX6_hasPlaces_26 : decode cX6_hasPlaces 26 = .ok (.iconst 1, 1) := by decide +kernel
theorem dX6_hasPlaces_27 : decode cX6_hasPlaces 27 = .ok (.goto 4, 3) := by decide +kernel
theorem dX6_hasPlaces_30 : decode cX6_hasPlaces 30 = .ok (.iconst 0, 1) := by decide +kernel
theorem dX6_hasPlaces_31 : decode cX6_hasPlaces 31 = .ok (.ireturn, 1) := by decide +kernel
theorem dX6_setElement_0 : decode cX6_setElement 0 = .ok (.aload_n 0, 1) := by decide +kernel
theorem dX6_setElement_1 : decode cX6_setElement 1 = .ok (.iload_n 1, 1) := by decide +kernel
theorem dX6_setElement_2 : decode cX6_setElement 2 = .ok (.iconst 1, 1) := by decide +kernel
theorem dX6_setElement_3 : decode cX6_setElement 3 = .ok (.invokevirtual 31, 3) := by decide +kernel
theorem dX6_setElement_6 : decode cX6_setElement 6 = .ok (.ifCond .eq 14, 3) := by decide +kernel
theorem dX6_setElement_9 : decode cX6_setElement 9 = .ok (.aload_n 0, 1) := by decide +kernel
theorem dX6_setElement_10 : decode cX6_setElement 10 = .ok (.getfield 11, 3) := by decide +kernel
theorem dX6_setElement_13 : decode cX6_setElement 13 = .ok (.iload_n 1, 1) := by decide +kernel
theorem dX6_setElement_14 : decode cX6_setElement 14 = .ok (.aload_n 0, 1) := by decide +kernel
theorem dX6_setElement_15 : decode cX6_setElement 15 = .ok (.lload_n 2, 1) := by decide +kernel
theorem dX6_setElement_16 : decode cX6_setElement 16 = .ok (.invokevirtual 35, 3) := by decide +kernel
theorem dX6_setElement_19 : decode cX6_setElement 19 = .ok (.lastore, 1) := by decide +kernel
theorem dX6_setElement_20 : decode cX6_setElement 20 = .ok (.return_, 1) := by decide +kernel
theorem dX6_lowestBits_0 : decode cX6_lowestBits 0 = .ok (.aload_n 0, 1) := by decide +kernel
theorem dX6_lowestBits_1 : decode cX6_lowestBits 1 = .ok (.getfield 19, 3) := by decide +kernel
theorem dX6_lowestBits_4 : decode cX6_lowestBits 4 = .ok (.tableswitch 62 0 4 #[36, 41, 46, 62, 50], 36) := by decide +kernel
theorem dX6_lowestBits_40 : decode cX6_lowestBits 40 = .ok (.lload_n 1, 1) := by decide +kernel
theorem dX6_lowestBits_41 : decode cX6_lowestBits 41 = .ok (.l2i, 1) := by decide +kernel
theorem dX6_lowestBits_42 : decode cX6_lowestBits 42 = .ok (.i2b, 1) := by decide +kernel
theorem dX6_lowestBits_43 : decode cX6_lowestBits 43 = .ok (.i2l, 1) := by decide +kernel
theorem dX6_lowestBits_44 : decode cX6_lowestBits 44 = .ok (.lreturn, 1) := by decide +kernel
theorem dX6_lowestBits_45 : decode cX6_lowestBits 45 = .ok (.lload_n 1, 1) := by decide +kernel
theorem dX6_lowestBits_46 : decode cX6_lowestBits 46 = .ok (.l2i, 1) := by decide +kernel
theorem dX6_lowestBits_47 : decode cX6_lowestBits 47 = .ok (.i2s, 1) := by decide +kernel
theorem dX6_lowestBits_48 : decode cX6_lowestBits 48 = .ok (.i2l, 1) := by decide +kernel
theorem dX6_lowestBits_49 : decode cX6_lowestBits 49 = .ok (.lreturn, 1) := by decide +kernel
theorem dX6_lowestBits_50 : decode cX6_lowestBits 50 = .ok (.lload_n 1, 1) := by decide +kernel
theorem dX6_lowestBits_51 : decode cX6_lowestBits 51 = .ok (.l2i, 1) := by decide +kernel
theorem dX6_lowestBits_52 : decode cX6_lowestBits 52 = .ok (.i2l, 1) := by decide +kernel
theorem dX6_lowestBits_53 : decode cX6_lowestBits 53 = .ok (.lreturn, 1) := by decide +kernel
theorem dX6_lowestBits_54 : decode cX6_lowestBits 54 = .ok (.lload_n 1, 1) := by decide +kernel
theorem dX6_lowestBits_55 : decode cX6_lowestBits 55 = .ok (.lconst 0, 1) := by decide +kernel
theorem dX6_lowestBits_56 : decode cX6_lowestBits 56 = .ok (.lcmp, 1) := by decide +kernel
theorem dX6_lowestBits_57 : decode cX6_lowestBits 57 = .ok (.ifCond .eq 7, 3) := by decide +kernel
theorem dX6_lowestBits_60 : decode cX6_lowestBits 60 = .ok (.lconst 1, 1) := by decide +kernel
theorem dX6_lowestBits_61 : decode cX6_lowestBits 61 = .ok (.goto 4, 3) := by decide +kernel
theorem dX6_lowestBits_64 : decode cX6_lowestBits 64 = .ok (.lconst 0, 1) := by decide +kernel
theorem dX6_lowestBits_65 : decode cX6_lowestBits 65 = .ok (.lreturn, 1) := by decide +kernel
theorem dX6_lowestBits_66 : decode cX6_lowestBits 66 = .ok (.lload_n 1, 1) := by decide +kernel
theorem dX6_lowestBits_67 : decode cX6_lowestBits 67 = .ok (.lreturn, 1) := by decide +kernel
theorem dX7_init_0 : decode cX7_init 0 = .ok (.aload_n 0, 1) := by decide +kernel
theorem dX7_init_1 : decode cX7_init 1 = .ok (.invokespecial 1, 3) := by decide +kernel
theorem dX7_init_4 : decode cX7_init 4 = .ok (.aload_n 0, 1) := by decide +kernel
theorem dX7_init_5 : decode cX7_init 5 = .ok (.new 7, 3) := by decide +kernel
theorem dX7_init_8 : decode cX7_init 8 = .ok (.dup, 1) := by decide +kernel
theorem dX7_init_9 : decode cX7_init 9 = .ok (.invokespecial 9, 3) := by decide +kernel
theorem dX7_init_12 : decode cX7_init 12 = .ok (.putfield 10, 3) := by decide +kernel
theorem dX7_init_15 : decode cX7_init 15 = .ok (.aload_n 0, 1) := by decide +kernel
theorem dX7_init_16 : decode cX7_init 16 = .ok (.new 16, 3) := by decide +kernel
theorem dX7_init_19 : decode cX7_init 19 = .ok (.dup, 1) := by decide +kernel
theorem dX7_init_20 : decode cX7_init 20 = .ok (.aload_n 0, 1) := by decide +kernel
theorem dX7_init_21 : decode cX7_init 21 = .ok (.getfield 10, 3) := by decide +kernel
theorem dX7_init_24 : decode cX7_init 24 = .ok (.invokespecial 18, 3) := by decide +kernel
theorem dX7_init_27 : decode cX7_init 27 = .ok (.putfield 21, 3) := by decide +kernel
theorem dX7_init_30 : decode cX7_init 30 = .ok (.aload_n 0, 1) := by decide +kernel
theorem dX7_init_31 : decode cX7_init 31 = .ok (.new 25, 3) := by decide +kernel
theorem dX7_init_34 : decode cX7_init 34 = .ok (.dup, 1) := by decide +kernel
theorem dX7_init_35 : decode cX7_init 35 = .ok (.aload_n 0, 1) := by decide +kernel
theorem dX7_init_36 : decode cX7_init 36 = .ok (.getfield 21, 3) := by decide +kernel
theorem dX7_init_39 : decode cX7_init 39 = .ok (.new 16, 3) := by decide +kernel
theorem dX7_init_42 : decode cX7_init 42 = .ok (.dup, 1) := by decide +kernel
theorem dX7_init_43 : decode cX7_init 43 = .ok (.aload_n 0, 1) := by decide +kernel
theorem dX7_init_44 : decode cX7_init 44 = .ok (.getfield 10, 3) := by decide +kernel
theorem dX7_init_47 : decode cX7_init 47 = .ok (.invokespecial 18, 3) := by decide +kernel
theorem dX7_init_50 : decode cX7_init 50 = .ok (.invokespecial 27, 3) := by decide +kernel
theorem dX7_init_53 : decode cX7_init 53 = .ok (.putfield 30, 3) := by decide +kernel
theorem dX7_init_56 : decode cX7_init 56 = .ok (.aload_n 0, 1) := by decide +kernel
theorem dX7_init_57 : decode cX7_init 57 = .ok (.new 34, 3) := by decide +kernel
theorem dX7_init_60 : decode cX7_init 60 = .ok (.dup, 1) := by decide +kernel
theorem dX7_init_61 : decode cX7_init 61 = .ok (.aload_n 0, 1) := by decide +kernel
theorem dX7_init_62 : decode cX7_init 62 = .ok (.getfield 21, 3) := by decide +kernel
theorem dX7_init_65 : decode cX7_init 65 = .ok (.invokespecial 36, 3) := by decide +kernel
theorem dX7_init_68 : decode cX7_init 68 = .ok (.putfield 39, 3) := by decide +kernel
theorem dX7_init_71 : decode cX7_init 71 = .ok (.aload_n 0, 1) := by decide +kernel
theorem dX7_init_72 : decode cX7_init 72 = .ok (.new 43, 3) := by decide +kernel
theorem dX7_init_75 : decode cX7_init 75 = .ok (.dup, 1) := by decide +kernel
theorem dX7_init_76 : decode cX7_init 76 = .ok (.invokespecial 45, 3) := by decide +kernel
theorem dX7_init_79 : decode cX7_init 79 = .ok (.putfield 46, 3) := by decide +kernel
theorem dX7_init_82 : decode cX7_init 82 = .ok (.aload_n 0, 1) := by decide +kernel
theorem dX7_init_83 : decode cX7_init 83 = .ok (.new 50, 3) := by decide +kernel
theorem dX7_init_86 : decode cX7_init 86 = .ok (.dup, 1) := by decide +kernel
theorem dX7_init_87 : decode cX7_init 87 = .ok (.invokespecial 52, 3) := by decide +kernel
theorem dX7_init_90 : decode cX7_init 90 = .ok (.putfield 53, 3) := by decide +kernel
theorem dX7_init_93 : decode cX7_init 93 = .ok (.aload_n 0, 1) := by decide +kernel
theorem dX7_init_94 : decode cX7_init 94 = .ok (.bipush 6, 2) := by decide +kernel
theorem dX7_init_96 : decode cX7_init 96 = .ok (.anewarray 57, 3) := by decide +kernel
theorem dX7_init_99 : decode cX7_init 99 = .ok (.putfield 59, 3) := by decide +kernel
theorem dX7_init_102 : decode cX7_init 102 = .ok (.iconst 0, 1) := by decide +kernel
theorem dX7_init_103 : decode cX7_init 103 = .ok (.istore_n 1, 1) := by decide +kernel
theorem dX7_init_104 : decode cX7_init 104 = .ok (.iload_n 1, 1) := by decide +kernel
theorem dX7_init_105 : decode cX7_init 105 = .ok (.bipush 6, 2) := by decide +kernel
theorem dX7_init_107 : decode cX7_init 107 = .ok (.if_icmp .ge 22, 3) := by decide +kernel
theorem dX7_init_110 : decode cX7_init 110 = .ok (.aload_n 0, 1) := by decide +kernel
theorem dX7_init_111 : decode cX7_init 111 = .ok (.getfield 59, 3) := by decide +kernel
theorem dX7_init_114 : decode cX7_init 114 = .ok (.iload_n 1, 1) := by decide +kernel
theorem dX7_init_115 : decode cX7_init 115 = .ok (.new 57, 3) := by decide +kernel
theorem dX7_init_118 : decode cX7_init 118 = .ok (.dup, 1) := by decide +kernel
theorem dX7_init_119 : decode cX7_init 119 = .ok (.invokespecial 63, 3) := by decide +kernel
theorem dX7_init_122 : decode cX7_init 122 = .ok (.aastore, 1) := by decide +kernel
theorem dX7_init_123 : decode cX7_init 123 = .ok (.iinc 1 1, 3) := by decide +kernel
theorem dX7_init_126 : decode cX7_init 126 = .ok (.goto (-22), 3) := by decide +kernel
theorem dX7_init_129 : decode cX7_init 129 = .ok (.aload_n 0, 1) := by decide +kernel
theorem dX7_init_130 : decode cX7_init 130 = .ok (.bipush 12, 2) := by decide +kernel
theorem dX7_init_132 : decode cX7_init 132 = .ok (.newarray .int, 2) := by decide +kernel
theorem dX7_init_134 : decode cX7_init 134 = .ok (.putfield 64, 3) := by decide +kernel
theorem dX7_init_137 : decode cX7_init 137 = .ok (.aload_n 0, 1) := by decide +kernel
theorem dX7_init_138 : decode cX7_init 138 = .ok (.iconst (-1), 1) := by decide +kernel
theorem dX7_init_139 : decode cX7_init 139 = .ok (.putfield 68, 3) := by decide +kernel
theorem dX7_init_142 : decode cX7_init 142 = .ok (.return_, 1) := by decide +kernel
theorem dX7_person_0 : decode cX7_person 0 = .ok (.iload_n 1, 1) := by decide +kernel
theorem dX7_person_1 : decode cX7_person 1 = .ok (.iload_n 2, 1) := by decide +kernel
theorem dX7_person_2 : decode cX7_person 2 = .ok (.invokestatic 72, 3) := by decide +kernel
theorem dX7_person_5 : decode cX7_person 5 = .ok (.ifCond .ne 5, 3) := by decide +kernel
theorem dX7_person_8 : decode cX7_person 8 = .ok (.iconst (-1), 1) := by decide +kernel
theorem dX7_person_9 : decode cX7_person 9 = .ok (.ireturn, 1) := by decide +kernel
theorem dX7_person_10 : decode cX7_person 10 = .ok (.aload_n 0, 1) := by decide +kernel
theorem dX7_person_11 : decode cX7_person 11 = .ok (.getfield 21, 3) := by decide +kernel
theorem dX7_person_14 : decode cX7_person 14 = .ok (.iload_n 1, 1) := by decide +kernel
theorem dX7_person_15 : decode cX7_person 15 = .ok (.iload_n 2, 1) := by decide +kernel
theorem dX7_person_16 : decode cX7_person 16 = .ok (.iconst (-1), 1) := by decide +kernel
theorem dX7_person_17 : decode cX7_person 17 = .ok (.invokevirtual 76, 3) := by decide +kernel
theorem dX7_person_20 : decode cX7_person 20 = .ok (.ireturn, 1) := by decide +kernel
theorem dX7_people_0 : decode cX7_people 0 = .ok (.iload_n 1, 1) := by decide +kernel
theorem dX7_people_1 : decode cX7_people 1 = .ok (.invokestatic 80, 3) := by decide +kernel
theorem dX7_people_4 : decode cX7_people 4 = .ok (.ifCond .eq 14, 3) := by decide +kernel
theorem dX7_people_7 : decode cX7_people 7 = .ok (.iload_n 3, 1) := by decide +kernel
theorem dX7_people_8 : decode cX7_people 8 = .ok (.iconst 1, 1) := by decide +kernel
theorem dX7_people_9 : decode cX7_people 9 = .ok (.if_icmp .lt 9, 3) := by decide +kernel
theorem dX7_people_12 : decode cX7_people 12 = .ok (.iload_n 3, 1) := by decide +kernel
theorem dX7_people_13 : decode cX7_people 13 = .ok (.bipush 12, 2) := by decide +kernel
theorem dX7_people_15 : decode cX7_people 15 = .ok (.if_icmp .le 5, 3) := by decide +kernel
theorem dX7_people_18 : decode cX7_people 18 = .ok (.iconst (-1), 1) := by decide +kernel
theorem dX7_people_19 : decode cX7_people 19 = .ok (.ireturn, 1) := by decide +kernel
theorem dX7_people_20 : decode cX7_people 20 = .ok (.aload_n 0, 1) := by decide +kernel
theorem dX7_people_21 : decode cX7_people 21 = .ok (.getfield 59, 3) := by decide +kernel
theorem dX7_people_24 : decode cX7_people 24 = .ok (.iload_n 1, 1) := by decide +kernel
theorem dX7_people_25 : decode cX7_people 25 = .ok (.aaload, 1) := by decide +kernel
theorem dX7_people_26 : decode cX7_people 26 = .ok (.astore 4, 2) := by decide +kernel
theorem dX7_people_28 : decode cX7_people 28 = .ok (.aload 4, 2) := by decide +kernel
theorem dX7_people_30 : decode cX7_people 30 = .ok (.invokevirtual 84, 3) := by decide +kernel
theorem dX7_people_33 : decode cX7_people 33 = .ok (.ifCond .eq 5, 3) := by decide +kernel
theorem dX7_people_36 : decode cX7_people 36 = .ok (.iconst 0, 1) := by decide +kernel
theorem dX7_people_37 : decode cX7_people 37 = .ok (.ireturn, 1) := by decide +kernel
theorem dX7_people_38 : decode cX7_people 38 = .ok (.aload 4, 2) := by decide +kernel
theorem dX7_people_40 : decode cX7_people 40 = .ok (.invokevirtual 88, 3) := by decide +kernel
theorem dX7_people_43 : decode cX7_people 43 = .ok (.ifCond .eq 11, 3) := by decide +kernel
theorem dX7_people_46 : decode cX7_people 46 = .ok (.aload 4, 2) := by decide +kernel
theorem dX7_people_48 : decode cX7_people 48 = .ok (.getfield 91, 3) := by decide +kernel
theorem dX7_people_51 : decode cX7_people 51 = .ok (.ifCond .eq 6, 3) := by decide +kernel
theorem dX7_people_54 : decode cX7_people 54 = .ok (.bipush (-12), 2) := by decide +kernel
theorem dX7_people_56 : decode cX7_people 56 = .ok (.ireturn, 1) := by decide +kernel
theorem dX7_people_57 : decode cX7_people 57 = .ok (.iconst 0, 1) := by decide +kernel
theorem dX7_people_58 : decode cX7_people 58 = .ok (.istore 5, 2) := by decide +kernel
theorem dX7_people_60 : decode cX7_people 60 = .ok (.iload 5, 2) := by decide +kernel
theorem dX7_people_62 : decode cX7_people 62 = .ok (.iload_n 3, 1) := by decide +kernel
theorem dX7_people_63 : decode cX7_people 63 = .ok (.if_icmp .ge 24, 3) := by decide +kernel
theorem dX7_people_66 : decode cX7_people 66 = .ok (.aload_n 0, 1) := by decide +kernel
theorem dX7_people_67 : decode cX7_people 67 = .ok (.aload 4, 2) := by decide +kernel
theorem dX7_people_69 : decode cX7_people 69 = .ok (.iload_n 2, 1) := by decide +kernel
theorem dX7_people_70 : decode cX7_people 70 = .ok (.iload 5, 2) := by decide +kernel
theorem dX7_people_72 : decode cX7_people 72 = .ok (.invokevirtual 94, 3) := by decide +kernel
theorem dX7_people_75 : decode cX7_people 75 = .ok (.ifCond .ne 6, 3) := by decide +kernel
theorem dX7_people_78 : decode cX7_people 78 = .ok (.iload 5, 2) := by decide +kernel
theorem dX7_people_80 : decode cX7_people 80 = .ok (.ireturn, 1) := by decide +kernel
theorem dX7_people_81 : decode cX7_people 81 = .ok (.iinc 5 1, 3) := by decide +kernel
theorem dX7_people_84 : decode cX7_people 84 = .ok (.goto (-24), 3) := by decide +kernel
theorem dX7_people_87 : decode cX7_people 87 = .ok (.iload_n 3, 1) := by decide +kernel
theorem dX7_people_88 : decode cX7_people 88 = .ok (.ireturn, 1) := by decide +kernel
theorem dX7_meet_0 : decode cX7_meet 0 = .ok (.iload_n 1, 1) := by decide +kernel
theorem dX7_meet_1 : decode cX7_meet 1 = .ok (.ifCond .lt 22, 3) := by decide +kernel
theorem dX7_meet_4 : decode cX7_meet 4 = .ok (.aload_n 0, 1) := by decide +kernel
theorem dX7_meet_5 : decode cX7_meet 5 = .ok (.getfield 21, 3) := by decide +kernel
theorem dX7_meet_8 : decode cX7_meet 8 = .ok (.iload_n 1, 1) := by decide +kernel
theorem dX7_meet_9 : decode cX7_meet 9 = .ok (.bipush 100, 2) := by decide +kernel
theorem dX7_meet_11 : decode cX7_meet 11 = .ok (.idiv, 1) := by decide +kernel
theorem dX7_meet_12 : decode cX7_meet 12 = .ok (.iload_n 1, 1) := by decide +kernel
theorem dX7_meet_13 : decode cX7_meet 13 = .ok (.bipush 100, 2) := by decide +kernel
theorem dX7_meet_15 : decode cX7_meet 15 = .ok (.irem, 1) := by decide +kernel
theorem dX7_meet_16 : decode cX7_meet 16 = .ok (.iload_n 2, 1) := by decide +kernel
theorem dX7_meet_17 : decode cX7_meet 17 = .ok (.invokevirtual 98, 3) := by decide +kernel
theorem dX7_meet_20 : decode cX7_meet 20 = .ok (.ifCond .ne 5, 3) := by decide +kernel
theorem dX7_meet_23 : decode cX7_meet 23 = .ok (.iconst (-1), 1) := by decide +kernel
theorem dX7_meet_24 : decode cX7_meet 24 = .ok (.ireturn, 1) := by decide +kernel
theorem dX7_meet_25 : decode cX7_meet 25 = .ok (.aload_n 0, 1) := by decide +kernel
theorem dX7_meet_26 : decode cX7_meet 26 = .ok (.getfield 21, 3) := by decide +kernel
theorem dX7_meet_29 : decode cX7_meet 29 = .ok (.iload_n 1, 1) := by decide +kernel
theorem dX7_meet_30 : decode cX7_meet 30 = .ok (.bipush 100, 2) := by decide +kernel
theorem dX7_meet_32 : decode cX7_meet 32 = .ok (.idiv, 1) := by decide +kernel
theorem dX7_meet_33 : decode cX7_meet 33 = .ok (.iload_n 1, 1) := by decide +kernel
theorem dX7_meet_34 : decode cX7_meet 34 = .ok (.bipush 100, 2) := by decide +kernel
theorem dX7_meet_36 : decode cX7_meet 36 = .ok (.irem, 1) := by decide +kernel
theorem dX7_meet_37 : decode cX7_meet 37 = .ok (.iload_n 2, 1) := by decide +kernel
theorem dX7_meet_38 : decode cX7_meet 38 = .ok (.invokevirtual 102, 3) := by decide +kernel
theorem dX7_meet_41 : decode cX7_meet 41 = .ok (.ireturn, 1) := by decide +kernel
theorem dX7_hearing_0 : decode cX7_hearing 0 = .ok (.iload_n 1, 1) := by decide +kernel
theorem dX7_hearing_1 : decode cX7_hearing 1 = .ok (.ifCond .eq 10, 3) := by decide +kernel
theorem dX7_hearing_4 : decode cX7_hearing 4 = .ok (.iload_n 1, 1) := by decide +kernel
theorem dX7_hearing_5 : decode cX7_hearing 5 = .ok (.iconst 1, 1) := by decide +kernel
theorem dX7_hearing_6 : decode cX7_hearing 6 = .ok (.if_icmp .eq 5, 3) := by decide +kernel
theorem dX7_hearing_9 : decode cX7_hearing 9 = .ok (.iconst (-1), 1) := by decide +kernel
theorem dX7_hearing_10 : decode cX7_hearing 10 = .ok (.ireturn, 1) := by decide +kernel
theorem dX7_hearing_11 : decode cX7_hearing 11 = .ok (.aload_n 0, 1) := by decide +kernel
theorem dX7_hearing_12 : decode cX7_hearing 12 = .ok (.getfield 21, 3) := by decide +kernel
theorem dX7_hearing_15 : decode cX7_hearing 15 = .ok (.getfield 105, 3) := by decide +kernel
theorem dX7_hearing_18 : decode cX7_hearing 18 = .ok (.istore_n 2, 1) := by decide +kernel
theorem dX7_hearing_19 : decode cX7_hearing 19 = .ok (.aload_n 0, 1) := by decide +kernel
theorem dX7_hearing_20 : decode cX7_hearing 20 = .ok (.getfield 21, 3) := by decide +kernel
theorem dX7_hearing_23 : decode cX7_hearing 23 = .ok (.iload_n 1, 1) := by decide +kernel
theorem dX7_hearing_24 : decode cX7_hearing 24 = .ok (.putfield 105, 3) := by decide +kernel
theorem dX7_hearing_27 : decode cX7_hearing 27 = .ok (.iload_n 2, 1) := by decide +kernel
theorem dX7_hearing_28 : decode cX7_hearing 28 = .ok (.ireturn, 1) := by decide +kernel
theorem dX7_name_0 : decode cX7_name 0 = .ok (.aload_n 0, 1) := by decide +kernel
theorem dX7_name_1 : decode cX7_name 1 = .ok (.getfield 21, 3) := by decide +kernel
theorem dX7_name_4 : decode cX7_name 4 = .ok (.iload_n 1, 1) := by decide +kernel
theorem dX7_name_5 : decode cX7_name 5 = .ok (.invokevirtual 108, 3) := by decide +kernel
theorem dX7_name_8 : decode cX7_name 8 = .ok (.ifCond .eq 10, 3) := by decide +kernel
theorem dX7_name_11 : decode cX7_name 11 = .ok (.iload_n 2, 1) := by decide +kernel
theorem dX7_name_12 : decode cX7_name 12 = .ok (.invokestatic 111, 3) := by decide +kernel
theorem dX7_name_15 : decode cX7_name 15 = .ok (.ifCond .ne 6, 3) := by decide +kernel
theorem dX7_name_18 : decode cX7_name 18 = .ok (.ldc 114, 2) := by decide +kernel
theorem dX7_name_20 : decode cX7_name 20 = .ok (.ireturn, 1) := by decide +kernel
theorem dX7_name_21 : decode cX7_name 21 = .ok (.aload_n 0, 1) := by decide +kernel
theorem dX7_name_22 : decode cX7_name 22 = .ok (.getfield 21, 3) := by decide +kernel
theorem dX7_name_25 : decode cX7_name 25 = .ok (.getfield 115, 3) := by decide +kernel
theorem dX7_name_28 : decode cX7_name 28 = .ok (.iload_n 1, 1) := by decide +kernel
theorem dX7_name_29 : decode cX7_name 29 = .ok (.iaload, 1) := by decide +kernel
theorem dX7_name_30 : decode cX7_name 30 = .ok (.istore_n 3, 1) := by decide +kernel
theorem dX7_name_31 : decode cX7_name 31 = .ok (.aload_n 0, 1) := by decide +kernel
theorem dX7_name_32 : decode cX7_name 32 = .ok (.getfield 21, 3) := by decide +kernel
theorem dX7_name_35 : decode cX7_name 35 = .ok (.getfield 115, 3) := by decide +kernel
theorem dX7_name_38 : decode cX7_name 38 = .ok (.iload_n 1, 1) := by decide +kernel
theorem dX7_name_39 : decode cX7_name 39 = .ok (.iload_n 2, 1) := by decide +kernel
theorem dX7_name_40 : decode cX7_name 40 = .ok (.iastore, 1) := by decide +kernel
theorem dX7_name_41 : decode cX7_name 41 = .ok (.iload_n 3, 1) := by decide +kernel
theorem dX7_name_42 : decode cX7_name 42 = .ok (.ireturn, 1) := by decide +kernel
theorem dX7_fame_0 : decode cX7_fame 0 = .ok (.iload_n 1, 1) := by decide +kernel
theorem dX7_fame_1 : decode cX7_fame 1 = .ok (.invokestatic 118, 3) := by decide +kernel
theorem dX7_fame_4 : decode cX7_fame 4 = .ok (.ifCond .eq 12, 3) := by decide +kernel
theorem dX7_fame_7 : decode cX7_fame 7 = .ok (.iload_n 2, 1) := by decide +kernel
theorem dX7_fame_8 : decode cX7_fame 8 = .ok (.ifCond .eq 10, 3) := by decide +kernel
theorem dX7_fame_11 : decode cX7_fame 11 = .ok (.iload_n 2, 1) := by decide +kernel
theorem dX7_fame_12 : decode cX7_fame 12 = .ok (.iconst 1, 1) := by decide +kernel
theorem dX7_fame_13 : decode cX7_fame 13 = .ok (.if_icmp .eq 5, 3) := by decide +kernel
theorem dX7_fame_16 : decode cX7_fame 16 = .ok (.iconst (-1), 1) := by decide +kernel
theorem dX7_fame_17 : decode cX7_fame 17 = .ok (.ireturn, 1) := by decide +kernel
theorem dX7_fame_18 : decode cX7_fame 18 = .ok (.aload_n 0, 1) := by decide +kernel
theorem dX7_fame_19 : decode cX7_fame 19 = .ok (.getfield 21, 3) := by decide +kernel
theorem dX7_fame_22 : decode cX7_fame 22 = .ok (.getfield 121, 3) := by decide +kernel
theorem dX7_fame_25 : decode cX7_fame 25 = .ok (.iload_n 1, 1) := by decide +kernel
theorem dX7_fame_26 : decode cX7_fame 26 = .ok (.iaload, 1) := by decide +kernel
theorem dX7_fame_27 : decode cX7_fame 27 = .ok (.istore_n 3, 1) := by decide +kernel
theorem dX7_fame_28 : decode cX7_fame 28 = .ok (.aload_n 0, 1) := by decide +kernel
theorem dX7_fame_29 : decode cX7_fame 29 = .ok (.getfield 21, 3) := by decide +kernel
theorem dX7_fame_32 : decode cX7_fame 32 = .ok (.getfield 121, 3) := by decide +kernel
theorem dX7_fame_35 : decode cX7_fame 35 = .ok (.iload_n 1, 1) := by decide +kernel
theorem dX7_fame_36 : decode cX7_fame 36 = .ok (.iload_n 2, 1) := by decide +kernel
theorem dX7_fame_37 : decode cX7_fame 37 = .ok (.iastore, 1) := by decide +kernel
theorem dX7_fame_38 : decode cX7_fame 38 = .ok (.iload_n 3, 1) := by decide +kernel
theorem dX7_fame_39 : decode cX7_fame 39 = .ok (.ireturn, 1) := by decide +kernel
theorem dX7_mend_0 : decode cX7_mend 0 = .ok (.aload_n 0, 1) := by decide +kernel
theorem dX7_mend_1 : decode cX7_mend 1 = .ok (.iload_n 1, 1) := by decide +kernel
theorem dX7_mend_2 : decode cX7_mend 2 = .ok (.iload_n 2, 1) := by decide +kernel
theorem dX7_mend_3 : decode cX7_mend 3 = .ok (.iload_n 3, 1) := by decide +kernel
theorem dX7_mend_4 : decode cX7_mend 4 = .ok (.invokevirtual 124, 3) := by decide +kernel
theorem dX7_mend_7 : decode cX7_mend 7 = .ok (.ifCond .ne 5, 3) := by decide +kernel
theorem dX7_mend_10 : decode cX7_mend 10 = .ok (.iconst (-1), 1) := by decide +kernel
theorem dX7_mend_11 : decode cX7_mend 11 = .ok (.ireturn, 1) := by decide +kernel
theorem dX7_mend_12 : decode cX7_mend 12 = .ok (.iload_n 2, 1) := by decide +kernel
theorem dX7_mend_13 : decode cX7_mend 13 = .ok (.ifCond .ne 13, 3) := by decide +kernel
theorem dX7_mend_16 : decode cX7_mend 16 = .ok (.aload_n 0, 1) := by decide +kernel
theorem dX7_mend_17 : decode cX7_mend 17 = .ok (.getfield 21, 3) := by decide +kernel
theorem dX7_mend_20 : decode cX7_mend 20 = .ok (.getfield 127, 3) := by decide +kernel
theorem dX7_mend_23 : decode cX7_mend 23 = .ok (.goto 10, 3) := by decide +kernel
theorem dX7_mend_26 : decode cX7_mend 26 = .ok (.aload_n 0, 1) := by decide +kernel
theorem dX7_mend_27 : decode cX7_mend 27 = .ok (.getfield 21, 3) := by decide +kernel
theorem dX7_mend_30 : decode cX7_mend 30 = .ok (.getfield 130, 3) := by decide +kernel
theorem dX7_mend_33 : decode cX7_mend 33 = .ok (.astore 4, 2) := by decide +kernel
theorem dX7_mend_35 : decode cX7_mend 35 = .ok (.aload 4, 2) := by decide +kernel
theorem dX7_mend_37 : decode cX7_mend 37 = .ok (.iload_n 1, 1) := by decide +kernel
theorem dX7_mend_38 : decode cX7_mend 38 = .ok (.iaload, 1) := by decide +kernel
theorem dX7_mend_39 : decode cX7_mend 39 = .ok (.istore 5, 2) := by decide +kernel
theorem dX7_mend_41 : decode cX7_mend 41 = .ok (.iload 5, 2) := by decide +kernel
theorem dX7_mend_43 : decode cX7_mend 43 = .ok (.iload_n 3, 1) := by decide +kernel
theorem dX7_mend_44 : decode cX7_mend 44 = .ok (.if_icmp .eq 20, 3) := by decide +kernel
theorem dX7_mend_47 : decode cX7_mend 47 = .ok (.aload 4, 2) := by decide +kernel
theorem dX7_mend_49 : decode cX7_mend 49 = .ok (.iload_n 1, 1) := by decide +kernel
theorem dX7_mend_50 : decode cX7_mend 50 = .ok (.iload_n 3, 1) := by decide +kernel
theorem dX7_mend_51 : decode cX7_mend 51 = .ok (.iastore, 1) := by decide +kernel
theorem dX7_mend_52 : decode cX7_mend 52 = .ok (.aload_n 0, 1) := by decide +kernel
theorem dX7_mend_53 : decode cX7_mend 53 = .ok (.getfield 46, 3) := by decide +kernel
theorem dX7_mend_56 : decode cX7_mend 56 = .ok (.iload_n 2, 1) := by decide +kernel
theorem dX7_mend_57 : decode cX7_mend 57 = .ok (.iload_n 1, 1) := by decide +kernel
theorem dX7_mend_58 : decode cX7_mend 58 = .ok (.iload 5, 2) := by decide +kernel
theorem dX7_mend_60 : decode cX7_mend 60 = .ok (.iload_n 3, 1) := by decide +kernel
theorem dX7_mend_61 : decode cX7_mend 61 = .ok (.invokevirtual 133, 3) := by decide +kernel
theorem dX7_mend_64 : decode cX7_mend 64 = .ok (.iload 5, 2) := by decide +kernel
theorem dX7_mend_66 : decode cX7_mend 66 = .ok (.ireturn, 1) := by decide +kernel
theorem dX7_of_0 : decode cX7_of 0 = .ok (.iload_n 2, 1) := by decide +kernel
theorem dX7_of_1 : decode cX7_of 1 = .ok (.bipush 10, 2) := by decide +kernel
theorem dX7_of_3 : decode cX7_of 3 = .ok (.if_icmp .ge 26, 3) := by decide +kernel
theorem dX7_of_6 : decode cX7_of 6 = .ok (.aload_n 0, 1) := by decide +kernel
theorem dX7_of_7 : decode cX7_of 7 = .ok (.getfield 21, 3) := by decide +kernel
theorem dX7_of_10 : decode cX7_of 10 = .ok (.iload_n 1, 1) := by decide +kernel
theorem dX7_of_11 : decode cX7_of 11 = .ok (.invokevirtual 108, 3) := by decide +kernel
theorem dX7_of_14 : decode cX7_of 14 = .ok (.ifCond .eq 12, 3) := by decide +kernel
theorem dX7_of_17 : decode cX7_of 17 = .ok (.aload_n 0, 1) := by decide +kernel
theorem dX7_of_18 : decode cX7_of 18 = .ok (.iload_n 1, 1) := by decide +kernel
theorem dX7_of_19 : decode cX7_of 19 = .ok (.iload_n 2, 1) := by decide +kernel
theorem dX7_of_20 : decode cX7_of 20 = .ok (.invokevirtual 137, 3) := by decide +kernel
theorem dX7_of_23 : decode cX7_of 23 = .ok (.goto 5, 3) := by decide +kernel
theorem dX7_of_26 : decode cX7_of 26 = .ok (.ldc 114, 2) := by decide +kernel
theorem dX7_of_28 : decode cX7_of 28 = .ok (.ireturn, 1) := by decide +kernel
theorem dX7_of_29 : decode cX7_of 29 = .ok (.iload_n 2, 1) := by decide +kernel
theorem dX7_of_30 : decode cX7_of 30 = .ok (.bipush 20, 2) := by decide +kernel
theorem dX7_of_32 : decode cX7_of 32 = .ok (.if_icmp .ge 22, 3) := by decide +kernel
theorem dX7_of_35 : decode cX7_of 35 = .ok (.iload_n 1, 1) := by decide +kernel
theorem dX7_of_36 : decode cX7_of 36 = .ok (.invokestatic 118, 3) := by decide +kernel
theorem dX7_of_39 : decode cX7_of 39 = .ok (.ifCond .eq 12, 3) := by decide +kernel
theorem dX7_of_42 : decode cX7_of 42 = .ok (.aload_n 0, 1) := by decide +kernel
theorem dX7_of_43 : decode cX7_of 43 = .ok (.iload_n 1, 1) := by decide +kernel
theorem dX7_of_44 : decode cX7_of 44 = .ok (.iload_n 2, 1) := by decide +kernel
theorem dX7_of_45 : decode cX7_of 45 = .ok (.invokevirtual 141, 3) := by decide +kernel
theorem dX7_of_48 : decode cX7_of 48 = .ok (.goto 5, 3) := by decide +kernel
theorem dX7_of_51 : decode cX7_of 51 = .ok (.ldc 114, 2) := by decide +kernel
theorem dX7_of_53 : decode cX7_of 53 = .ok (.ireturn, 1) := by decide +kernel
theorem dX7_of_54 : decode cX7_of 54 = .ok (.aload_n 0, 1) := by decide +kernel
theorem dX7_of_55 : decode cX7_of 55 = .ok (.getfield 21, 3) := by decide +kernel
theorem dX7_of_58 : decode cX7_of 58 = .ok (.iload_n 1, 1) := by decide +kernel
theorem dX7_of_59 : decode cX7_of 59 = .ok (.invokevirtual 144, 3) := by decide +kernel
theorem dX7_of_62 : decode cX7_of 62 = .ok (.ifCond .eq 12, 3) := by decide +kernel
theorem dX7_of_65 : decode cX7_of 65 = .ok (.aload_n 0, 1) := by decide +kernel
theorem dX7_of_66 : decode cX7_of 66 = .ok (.iload_n 1, 1) := by decide +kernel
theorem dX7_of_67 : decode cX7_of 67 = .ok (.iload_n 2, 1) := by decide +kernel
theorem dX7_of_68 : decode cX7_of 68 = .ok (.invokevirtual 147, 3) := by decide +kernel
theorem dX7_of_71 : decode cX7_of 71 = .ok (.goto 5, 3) := by decide +kernel
theorem dX7_of_74 : decode cX7_of 74 = .ok (.ldc 114, 2) := by decide +kernel
theorem dX7_of_76 : decode cX7_of 76 = .ok (.ireturn, 1) := by decide +kernel
theorem dX7_feed_0 : decode cX7_feed 0 = .ok (.iload_n 1, 1) := by decide +kernel
theorem dX7_feed_1 : decode cX7_feed 1 = .ok (.ifCond .lt 10, 3) := by decide +kernel
theorem dX7_feed_4 : decode cX7_feed 4 = .ok (.iload_n 1, 1) := by decide +kernel
theorem dX7_feed_5 : decode cX7_feed 5 = .ok (.sipush 255, 3) := by decide +kernel
theorem dX7_feed_8 : decode cX7_feed 8 = .ok (.if_icmp .le 5, 3) := by decide +kernel
theorem dX7_feed_11 : decode cX7_feed 11 = .ok (.iconst (-1), 1) := by decide +kernel
theorem dX7_feed_12 : decode cX7_feed 12 = .ok (.ireturn, 1) := by decide +kernel
theorem dX7_feed_13 : decode cX7_feed 13 = .ok (.aload_n 0, 1) := by decide +kernel
theorem dX7_feed_14 : decode cX7_feed 14 = .ok (.getfield 10, 3) := by decide +kernel
theorem dX7_feed_17 : decode cX7_feed 17 = .ok (.iload_n 1, 1) := by decide +kernel
theorem dX7_feed_18 : decode cX7_feed 18 = .ok (.invokevirtual 150, 3) := by decide +kernel
theorem dX7_feed_21 : decode cX7_feed 21 = .ok (.ireturn, 1) := by decide +kernel
theorem dX7_law_0 : decode cX7_law 0 = .ok (.aload_n 0, 1) := by decide +kernel
theorem dX7_law_1 : decode cX7_law 1 = .ok (.getfield 10, 3) := by decide +kernel
theorem dX7_law_4 : decode cX7_law 4 = .ok (.invokevirtual 154, 3) := by decide +kernel
theorem dX7_law_7 : decode cX7_law 7 = .ok (.istore_n 1, 1) := by decide +kernel
theorem dX7_law_8 : decode cX7_law 8 = .ok (.iload_n 1, 1) := by decide +kernel
theorem dX7_law_9 : decode cX7_law 9 = .ok (.iconst (-1), 1) := by decide +kernel
theorem dX7_law_10 : decode cX7_law 10 = .ok (.if_icmp .ne 7, 3) := by decide +kernel
theorem dX7_law_13 : decode cX7_law 13 = .ok (.iconst 1, 1) := by decide +kernel
theorem dX7_law_14 : decode cX7_law 14 = .ok (.goto 7, 3) := by decide +kernel
theorem dX7_law_17 : decode cX7_law 17 = .ok (.bipush (-100), 2) := by decide +kernel
theorem dX7_law_19 : decode cX7_law 19 = .ok (.iload_n 1, 1) := by decide +kernel
theorem dX7_law_20 : decode cX7_law 20 = .ok (.isub, 1) := by decide +kernel
theorem dX7_law_21 : decode cX7_law 21 = .ok (.ireturn, 1) := by decide +kernel
theorem dX7_knows_0 : decode cX7_knows 0 = .ok (.aload_n 0, 1) := by decide +kernel
theorem dX7_knows_1 : decode cX7_knows 1 = .ok (.getfield 21, 3) := by decide +kernel
theorem dX7_knows_4 : decode cX7_knows 4 = .ok (.iload_n 1, 1) := by decide +kernel
theorem dX7_knows_5 : decode cX7_knows 5 = .ok (.invokevirtual 108, 3) := by decide +kernel
theorem dX7_knows_8 : decode cX7_knows 8 = .ok (.ifCond .eq 10, 3) := by decide +kernel
theorem dX7_knows_11 : decode cX7_knows 11 = .ok (.iload_n 2, 1) := by decide +kernel
theorem dX7_knows_12 : decode cX7_knows 12 = .ok (.invokestatic 158, 3) := by decide +kernel
theorem dX7_knows_15 : decode cX7_knows 15 = .ok (.ifCond .ne 5, 3) := by decide +kernel
theorem dX7_knows_18 : decode cX7_knows 18 = .ok (.iconst (-1), 1) := by decide +kernel
theorem dX7_knows_19 : decode cX7_knows 19 = .ok (.ireturn, 1) := by decide +kernel
theorem dX7_knows_20 : decode cX7_knows 20 = .ok (.aload_n 0, 1) := by decide +kernel
theorem dX7_knows_21 : decode cX7_knows 21 = .ok (.getfield 21, 3) := by decide +kernel
theorem dX7_knows_24 : decode cX7_knows 24 = .ok (.iload_n 2, 1) := by decide +kernel
theorem dX7_knows_25 : decode cX7_knows 25 = .ok (.invokevirtual 161, 3) := by decide +kernel
theorem dX7_knows_28 : decode cX7_knows 28 = .ok (.aload_n 0, 1) := by decide +kernel
theorem dX7_knows_29 : decode cX7_knows 29 = .ok (.getfield 21, 3) := by decide +kernel
theorem dX7_knows_32 : decode cX7_knows 32 = .ok (.getfield 165, 3) := by decide +kernel
theorem dX7_knows_35 : decode cX7_knows 35 = .ok (.iload_n 1, 1) := by decide +kernel
theorem dX7_knows_36 : decode cX7_knows 36 = .ok (.iaload, 1) := by decide +kernel
theorem dX7_knows_37 : decode cX7_knows 37 = .ok (.ireturn, 1) := by decide +kernel
theorem dX7_held_0 : decode cX7_held 0 = .ok (.iload_n 1, 1) := by decide +kernel
theorem dX7_held_1 : decode cX7_held 1 = .ok (.invokestatic 118, 3) := by decide +kernel
theorem dX7_held_4 : decode cX7_held 4 = .ok (.ifCond .eq 10, 3) := by decide +kernel
theorem dX7_held_7 : decode cX7_held 7 = .ok (.iload_n 2, 1) := by decide +kernel
theorem dX7_held_8 : decode cX7_held 8 = .ok (.invokestatic 158, 3) := by decide +kernel
theorem dX7_held_11 : decode cX7_held 11 = .ok (.ifCond .ne 5, 3) := by decide +kernel
theorem dX7_held_14 : decode cX7_held 14 = .ok (.iconst (-1), 1) := by decide +kernel
theorem dX7_held_15 : decode cX7_held 15 = .ok (.ireturn, 1) := by decide +kernel
theorem dX7_held_16 : decode cX7_held 16 = .ok (.iload_n 3, 1) := by decide +kernel
theorem dX7_held_17 : decode cX7_held 17 = .ok (.tableswitch 57 0 2 #[27, 40, 50], 27) := by decide +kernel
theorem dX7_held_44 : decode cX7_held 44 = .ok (.aload_n 0, 1) := by decide +kernel
theorem dX7_held_45 : decode cX7_held 45 = .ok (.getfield 21, 3) := by decide +kernel
theorem dX7_held_48 : decode cX7_held 48 = .ok (.iload_n 2, 1) := by decide +kernel
theorem dX7_held_49 : decode cX7_held 49 = .ok (.invokevirtual 168, 3) := by decide +kernel
theorem dX7_held_52 : decode cX7_held 52 = .ok (.iload_n 1, 1) := by decide +kernel
theorem dX7_held_53 : decode cX7_held 53 = .ok (.ishr, 1) := by decide +kernel
theorem dX7_held_54 : decode cX7_held 54 = .ok (.iconst 1, 1) := by decide +kernel
theorem dX7_held_55 : decode cX7_held 55 = .ok (.iand, 1) := by decide +kernel
theorem dX7_held_56 : decode cX7_held 56 = .ok (.ireturn, 1) := by decide +kernel
theorem dX7_held_57 : decode cX7_held 57 = .ok (.aload_n 0, 1) := by decide +kernel
theorem dX7_held_58 : decode cX7_held 58 = .ok (.getfield 21, 3) := by decide +kernel
theorem dX7_held_61 : decode cX7_held 61 = .ok (.iload_n 1, 1) := by decide +kernel
theorem dX7_held_62 : decode cX7_held 62 = .ok (.iload_n 2, 1) := by decide +kernel
theorem dX7_held_63 : decode cX7_held 63 = .ok (.invokevirtual 171, 3) := by decide +kernel
theorem dX7_held_66 : decode cX7_held 66 = .ok (.ireturn, 1) := by decide +kernel
theorem dX7_held_67 : decode cX7_held 67 = .ok (.aload_n 0, 1) := by decide +kernel
theorem dX7_held_68 : decode cX7_held 68 = .ok (.iload_n 1, 1) := by decide +kernel
theorem dX7_held_69 : decode cX7_held 69 = .ok (.iload_n 2, 1) := by decide +kernel
theorem dX7_held_70 : decode cX7_held 70 = .ok (.invokevirtual 174, 3) := by decide +kernel
theorem dX7_held_73 : decode cX7_held 73 = .ok (.ireturn, 1) := by decide +kernel
theorem dX7_held_74 : decode cX7_held 74 = .ok (.iconst (-1), 1) := by decide +kernel
theorem dX7_held_75 : decode cX7_held 75 = .ok (.ireturn, 1) := by decide +kernel
theorem dX7_free_0 : decode cX7_free 0 = .ok (.iload_n 1, 1) := by decide +kernel
theorem dX7_free_1 : decode cX7_free 1 = .ok (.invokestatic 158, 3) := by decide +kernel
theorem dX7_free_4 : decode cX7_free 4 = .ok (.ifCond .eq 20, 3) := by decide +kernel
theorem dX7_free_7 : decode cX7_free 7 = .ok (.sipush 4095, 3) := by decide +kernel
theorem dX7_free_10 : decode cX7_free 10 = .ok (.aload_n 0, 1) := by decide +kernel
theorem dX7_free_11 : decode cX7_free 11 = .ok (.getfield 21, 3) := by decide +kernel
theorem dX7_free_14 : decode cX7_free 14 = .ok (.iload_n 1, 1) := by decide +kernel
theorem dX7_free_15 : decode cX7_free 15 = .ok (.invokevirtual 168, 3) := by decide +kernel
theorem dX7_free_18 : decode cX7_free 18 = .ok (.iconst (-1), 1) := by decide +kernel
theorem dX7_free_19 : decode cX7_free 19 = .ok (.ixor, 1) := by decide +kernel
theorem dX7_free_20 : decode cX7_free 20 = .ok (.iand, 1) := by decide +kernel
theorem dX7_free_21 : decode cX7_free 21 = .ok (.goto 4, 3) := by decide +kernel
theorem dX7_free_24 : decode cX7_free 24 = .ok (.iconst (-1), 1) := by decide +kernel
theorem dX7_free_25 : decode cX7_free 25 = .ok (.ireturn, 1) := by decide +kernel
theorem dX7_most_0 : decode cX7_most 0 = .ok (.iload_n 1, 1) := by decide +kernel
theorem dX7_most_1 : decode cX7_most 1 = .ok (.ifCond .eq 10, 3) := by decide +kernel
theorem dX7_most_4 : decode cX7_most 4 = .ok (.iload_n 1, 1) := by decide +kernel
theorem dX7_most_5 : decode cX7_most 5 = .ok (.iconst 1, 1) := by decide +kernel
theorem dX7_most_6 : decode cX7_most 6 = .ok (.if_icmp .eq 5, 3) := by decide +kernel
theorem dX7_most_9 : decode cX7_most 9 = .ok (.iconst (-1), 1) := by decide +kernel
theorem dX7_most_10 : decode cX7_most 10 = .ok (.ireturn, 1) := by decide +kernel
theorem dX7_most_11 : decode cX7_most 11 = .ok (.iconst 0, 1) := by decide +kernel
theorem dX7_most_12 : decode cX7_most 12 = .ok (.istore_n 2, 1) := by decide +kernel
theorem dX7_most_13 : decode cX7_most 13 = .ok (.iconst 0, 1) := by decide +kernel
theorem dX7_most_14 : decode cX7_most 14 = .ok (.istore_n 3, 1) := by decide +kernel
theorem dX7_most_15 : decode cX7_most 15 = .ok (.iconst 0, 1) := by decide +kernel
theorem dX7_most_16 : decode cX7_most 16 = .ok (.istore 4, 2) := by decide +kernel
theorem dX7_most_18 : decode cX7_most 18 = .ok (.iload 4, 2) := by decide +kernel
theorem dX7_most_20 : decode cX7_most 20 = .ok (.bipush 100, 2) := by decide +kernel
theorem dX7_most_22 : decode cX7_most 22 = .ok (.if_icmp .ge 35, 3) := by decide +kernel
theorem dX7_most_25 : decode cX7_most 25 = .ok (.aload_n 0, 1) := by decide +kernel
theorem dX7_most_26 : decode cX7_most 26 = .ok (.getfield 21, 3) := by decide +kernel
theorem dX7_most_29 : decode cX7_most 29 = .ok (.iload 4, 2) := by decide +kernel
theorem dX7_most_31 : decode cX7_most 31 = .ok (.invokevirtual 168, 3) := by decide +kernel
theorem dX7_most_34 : decode cX7_most 34 = .ok (.invokestatic 177, 3) := by decide +kernel
theorem dX7_most_37 : decode cX7_most 37 = .ok (.istore 5, 2) := by decide +kernel
theorem dX7_most_39 : decode cX7_most 39 = .ok (.iload 5, 2) := by decide +kernel
theorem dX7_most_41 : decode cX7_most 41 = .ok (.iload_n 2, 1) := by decide +kernel
theorem dX7_most_42 : decode cX7_most 42 = .ok (.if_icmp .le 9, 3) := by decide +kernel
theorem dX7_most_45 : decode cX7_most 45 = .ok (.iload 5, 2) := by decide +kernel
theorem dX7_most_47 : decode cX7_most 47 = .ok (.istore_n 2, 1) := by decide +kernel
theorem dX7_most_48 : decode cX7_most 48 = .ok (.iload 4, 2) := by decide +kernel
theorem dX7_most_50 : decode cX7_most 50 = .ok (.istore_n 3, 1) := by decide +kernel
theorem dX7_most_51 : decode cX7_most 51 = .ok (.iinc 4 1, 3) := by decide +kernel
theorem dX7_most_54 : decode cX7_most 54 = .ok (.goto (-36), 3) := by decide +kernel
theorem dX7_most_57 : decode cX7_most 57 = .ok (.iload_n 1, 1) := by decide +kernel
theorem dX7_most_58 : decode cX7_most 58 = .ok (.ifCond .ne 7, 3) := by decide +kernel
theorem dX7_most_61 : decode cX7_most 61 = .ok (.iload_n 2, 1) := by decide +kernel
theorem dX7_most_62 : decode cX7_most 62 = .ok (.goto 4, 3) := by decide +kernel
theorem dX7_most_65 : decode cX7_most 65 = .ok (.iload_n 3, 1) := by decide +kernel
theorem dX7_most_66 : decode cX7_most 66 = .ok (.ireturn, 1) := by decide +kernel
theorem dX7_judge_0 : decode cX7_judge 0 = .ok (.aload_n 0, 1) := by decide +kernel
theorem dX7_judge_1 : decode cX7_judge 1 = .ok (.getfield 30, 3) := by decide +kernel
theorem dX7_judge_4 : decode cX7_judge 4 = .ok (.invokevirtual 182, 3) := by decide +kernel
theorem dX7_judge_7 : decode cX7_judge 7 = .ok (.ireturn, 1) := by decide +kernel
theorem dX7_give_0 : decode cX7_give 0 = .ok (.aload_n 0, 1) := by decide +kernel
theorem dX7_give_1 : decode cX7_give 1 = .ok (.getfield 21, 3) := by decide +kernel
theorem dX7_give_4 : decode cX7_give 4 = .ok (.iload_n 1, 1) := by decide +kernel
theorem dX7_give_5 : decode cX7_give 5 = .ok (.invokevirtual 108, 3) := by decide +kernel
theorem dX7_give_8 : decode cX7_give 8 = .ok (.ifCond .eq 10, 3) := by decide +kernel
theorem dX7_give_11 : decode cX7_give 11 = .ok (.iload_n 2, 1) := by decide +kernel
theorem dX7_give_12 : decode cX7_give 12 = .ok (.invokestatic 185, 3) := by decide +kernel
theorem dX7_give_15 : decode cX7_give 15 = .ok (.ifCond .ne 5, 3) := by decide +kernel
theorem dX7_give_18 : decode cX7_give 18 = .ok (.iconst (-1), 1) := by decide +kernel
theorem dX7_give_19 : decode cX7_give 19 = .ok (.ireturn, 1) := by decide +kernel
theorem dX7_give_20 : decode cX7_give 20 = .ok (.aload_n 0, 1) := by decide +kernel
theorem dX7_give_21 : decode cX7_give 21 = .ok (.getfield 21, 3) := by decide +kernel
theorem dX7_give_24 : decode cX7_give 24 = .ok (.getfield 115, 3) := by decide +kernel
theorem dX7_give_27 : decode cX7_give 27 = .ok (.iload_n 1, 1) := by decide +kernel
theorem dX7_give_28 : decode cX7_give 28 = .ok (.iaload, 1) := by decide +kernel
theorem dX7_give_29 : decode cX7_give 29 = .ok (.iconst (-1), 1) := by decide +kernel
theorem dX7_give_30 : decode cX7_give 30 = .ok (.if_icmp .eq 6, 3) := by decide +kernel
theorem dX7_give_33 : decode cX7_give 33 = .ok (.bipush (-5), 2) := by decide +kernel
theorem dX7_give_35 : decode cX7_give 35 = .ok (.ireturn, 1) := by decide +kernel
theorem dX7_give_36 : decode cX7_give 36 = .ok (.aload_n 0, 1) := by decide +kernel
theorem dX7_give_37 : decode cX7_give 37 = .ok (.getfield 30, 3) := by decide +kernel
theorem dX7_give_40 : decode cX7_give 40 = .ok (.iload_n 1, 1) := by decide +kernel
theorem dX7_give_41 : decode cX7_give 41 = .ok (.iload_n 2, 1) := by decide +kernel
theorem dX7_give_42 : decode cX7_give 42 = .ok (.invokevirtual 188, 3) := by decide +kernel
theorem dX7_give_45 : decode cX7_give 45 = .ok (.istore_n 3, 1) := by decide +kernel
theorem dX7_give_46 : decode cX7_give 46 = .ok (.iload_n 3, 1) := by decide +kernel
theorem dX7_give_47 : decode cX7_give 47 = .ok (.bipush (-2), 2) := by decide +kernel
theorem dX7_give_49 : decode cX7_give 49 = .ok (.if_icmp .eq 13, 3) := by decide +kernel
theorem dX7_give_52 : decode cX7_give 52 = .ok (.aload_n 0, 1) := by decide +kernel
theorem dX7_give_53 : decode cX7_give 53 = .ok (.getfield 21, 3) := by decide +kernel
theorem dX7_give_56 : decode cX7_give 56 = .ok (.getfield 115, 3) := by decide +kernel
theorem dX7_give_59 : decode cX7_give 59 = .ok (.iload_n 1, 1) := by decide +kernel
theorem dX7_give_60 : decode cX7_give 60 = .ok (.iload_n 3, 1) := by decide +kernel
theorem dX7_give_61 : decode cX7_give 61 = .ok (.iastore, 1) := by decide +kernel
theorem dX7_give_62 : decode cX7_give 62 = .ok (.iload_n 3, 1) := by decide +kernel
theorem dX7_give_63 : decode cX7_give 63 = .ok (.ireturn, 1) := by decide +kernel
theorem dX7_run_0 : decode cX7_run 0 = .ok (.iload_n 1, 1) := by decide +kernel
theorem dX7_run_1 : decode cX7_run 1 = .ok (.invokestatic 185, 3) := by decide +kernel
theorem dX7_run_4 : decode cX7_run 4 = .ok (.ifCond .eq 14, 3) := by decide +kernel
theorem dX7_run_7 : decode cX7_run 7 = .ok (.aload_n 0, 1) := by decide +kernel
theorem dX7_run_8 : decode cX7_run 8 = .ok (.getfield 21, 3) := by decide +kernel
theorem dX7_run_11 : decode cX7_run 11 = .ok (.iload_n 2, 1) := by decide +kernel
theorem dX7_run_12 : decode cX7_run 12 = .ok (.invokevirtual 108, 3) := by decide +kernel
theorem dX7_run_15 : decode cX7_run 15 = .ok (.ifCond .ne 5, 3) := by decide +kernel
theorem dX7_run_18 : decode cX7_run 18 = .ok (.iconst (-1), 1) := by decide +kernel
theorem dX7_run_19 : decode cX7_run 19 = .ok (.ireturn, 1) := by decide +kernel
theorem dX7_run_20 : decode cX7_run 20 = .ok (.aload_n 0, 1) := by decide +kernel
theorem dX7_run_21 : decode cX7_run 21 = .ok (.getfield 30, 3) := by decide +kernel
theorem dX7_run_24 : decode cX7_run 24 = .ok (.invokevirtual 191, 3) := by decide +kernel
theorem dX7_run_27 : decode cX7_run 27 = .ok (.aload_n 0, 1) := by decide +kernel
theorem dX7_run_28 : decode cX7_run 28 = .ok (.getfield 30, 3) := by decide +kernel
theorem dX7_run_31 : decode cX7_run 31 = .ok (.iload_n 1, 1) := by decide +kernel
theorem dX7_run_32 : decode cX7_run 32 = .ok (.invokevirtual 194, 3) := by decide +kernel
theorem dX7_run_35 : decode cX7_run 35 = .ok (.aload_n 0, 1) := by decide +kernel
theorem dX7_run_36 : decode cX7_run 36 = .ok (.getfield 30, 3) := by decide +kernel
theorem dX7_run_39 : decode cX7_run 39 = .ok (.getfield 197, 3) := by decide +kernel
theorem dX7_run_42 : decode cX7_run 42 = .ok (.getfield 115, 3) := by decide +kernel
theorem dX7_run_45 : decode cX7_run 45 = .ok (.iload_n 2, 1) := by decide +kernel
theorem dX7_run_46 : decode cX7_run 46 = .ok (.iaload, 1) := by decide +kernel
theorem dX7_run_47 : decode cX7_run 47 = .ok (.istore_n 3, 1) := by decide +kernel
theorem dX7_run_48 : decode cX7_run 48 = .ok (.iload_n 3, 1) := by decide +kernel
theorem dX7_run_49 : decode cX7_run 49 = .ok (.iconst (-1), 1) := by decide +kernel
theorem dX7_run_50 : decode cX7_run 50 = .ok (.if_icmp .ne 8, 3) := by decide +kernel
theorem dX7_run_53 : decode cX7_run 53 = .ok (.bipush (-2), 2) := by decide +kernel
theorem dX7_run_55 : decode cX7_run 55 = .ok (.goto 4, 3) := by decide +kernel
theorem dX7_run_58 : decode cX7_run 58 = .ok (.iload_n 3, 1) := by decide +kernel
theorem dX7_run_59 : decode cX7_run 59 = .ok (.ireturn, 1) := by decide +kernel
theorem dX7_used_0 : decode cX7_used 0 = .ok (.iload_n 1, 1) := by decide +kernel
theorem dX7_used_1 : decode cX7_used 1 = .ok (.invokestatic 185, 3) := by decide +kernel
theorem dX7_used_4 : decode cX7_used 4 = .ok (.ifCond .eq 12, 3) := by decide +kernel
theorem dX7_used_7 : decode cX7_used 7 = .ok (.iload_n 2, 1) := by decide +kernel
theorem dX7_used_8 : decode cX7_used 8 = .ok (.ifCond .lt 8, 3) := by decide +kernel
theorem dX7_used_11 : decode cX7_used 11 = .ok (.iload_n 2, 1) := by decide +kernel
theorem dX7_used_12 : decode cX7_used 12 = .ok (.iconst 2, 1) := by decide +kernel
theorem dX7_used_13 : decode cX7_used 13 = .ok (.if_icmp .le 5, 3) := by decide +kernel
theorem dX7_used_16 : decode cX7_used 16 = .ok (.iconst (-1), 1) := by decide +kernel
theorem dX7_used_17 : decode cX7_used 17 = .ok (.ireturn, 1) := by decide +kernel
theorem dX7_used_18 : decode cX7_used 18 = .ok (.aload_n 0, 1) := by decide +kernel
theorem dX7_used_19 : decode cX7_used 19 = .ok (.getfield 30, 3) := by decide +kernel
theorem dX7_used_22 : decode cX7_used 22 = .ok (.invokevirtual 191, 3) := by decide +kernel
theorem dX7_used_25 : decode cX7_used 25 = .ok (.aload_n 0, 1) := by decide +kernel
theorem dX7_used_26 : decode cX7_used 26 = .ok (.getfield 30, 3) := by decide +kernel
theorem dX7_used_29 : decode cX7_used 29 = .ok (.iload_n 1, 1) := by decide +kernel
theorem dX7_used_30 : decode cX7_used 30 = .ok (.invokevirtual 194, 3) := by decide +kernel
theorem dX7_used_33 : decode cX7_used 33 = .ok (.iload_n 2, 1) := by decide +kernel
theorem dX7_used_34 : decode cX7_used 34 = .ok (.ifCond .ne 11, 3) := by decide +kernel
theorem dX7_used_37 : decode cX7_used 37 = .ok (.aload_n 0, 1) := by decide +kernel
theorem dX7_used_38 : decode cX7_used 38 = .ok (.getfield 30, 3) := by decide +kernel
theorem dX7_used_41 : decode cX7_used 41 = .ok (.invokevirtual 200, 3) := by decide +kernel
theorem dX7_used_44 : decode cX7_used 44 = .ok (.ireturn, 1) := by decide +kernel
theorem dX7_used_45 : decode cX7_used 45 = .ok (.iload_n 2, 1) := by decide +kernel
theorem dX7_used_46 : decode cX7_used 46 = .ok (.iconst 1, 1) := by decide +kernel
theorem dX7_used_47 : decode cX7_used 47 = .ok (.if_icmp .ne 13, 3) := by decide +kernel
theorem dX7_used_50 : decode cX7_used 50 = .ok (.aload_n 0, 1) := by decide +kernel
theorem dX7_used_51 : decode cX7_used 51 = .ok (.getfield 30, 3) := by decide +kernel
theorem dX7_used_54 : decode cX7_used 54 = .ok (.invokevirtual 203, 3) := by decide +kernel
theorem dX7_used_57 : decode cX7_used 57 = .ok (.goto 10, 3) := by decide +kernel
theorem dX7_used_60 : decode cX7_used 60 = .ok (.aload_n 0, 1) := by decide +kernel
theorem dX7_used_61 : decode cX7_used 61 = .ok (.getfield 30, 3) := by decide +kernel
theorem dX7_used_64 : decode cX7_used 64 = .ok (.invokevirtual 206, 3) := by decide +kernel
theorem dX7_used_67 : decode cX7_used 67 = .ok (.ireturn, 1) := by decide +kernel
theorem dX7_apart_0 : decode cX7_apart 0 = .ok (.iload_n 1, 1) := by decide +kernel
theorem dX7_apart_1 : decode cX7_apart 1 = .ok (.invokestatic 118, 3) := by decide +kernel
theorem dX7_apart_4 : decode cX7_apart 4 = .ok (.ifCond .eq 10, 3) := by decide +kernel
theorem dX7_apart_7 : decode cX7_apart 7 = .ok (.iload_n 2, 1) := by decide +kernel
theorem dX7_apart_8 : decode cX7_apart 8 = .ok (.invokestatic 158, 3) := by decide +kernel
theorem dX7_apart_11 : decode cX7_apart 11 = .ok (.ifCond .ne 5, 3) := by decide +kernel
theorem dX7_apart_14 : decode cX7_apart 14 = .ok (.iconst (-1), 1) := by decide +kernel
theorem dX7_apart_15 : decode cX7_apart 15 = .ok (.ireturn, 1) := by decide +kernel
theorem dX7_apart_16 : decode cX7_apart 16 = .ok (.aload_n 0, 1) := by decide +kernel
theorem dX7_apart_17 : decode cX7_apart 17 = .ok (.getfield 39, 3) := by decide +kernel
theorem dX7_apart_20 : decode cX7_apart 20 = .ok (.iload_n 1, 1) := by decide +kernel
theorem dX7_apart_21 : decode cX7_apart 21 = .ok (.iload_n 2, 1) := by decide +kernel
theorem dX7_apart_22 : decode cX7_apart 22 = .ok (.invokevirtual 209, 3) := by decide +kernel
theorem dX7_apart_25 : decode cX7_apart 25 = .ok (.ireturn, 1) := by decide +kernel
theorem dX7_freed_0 : decode cX7_freed 0 = .ok (.aload_n 0, 1) := by decide +kernel
theorem dX7_freed_1 : decode cX7_freed 1 = .ok (.getfield 21, 3) := by decide +kernel
theorem dX7_freed_4 : decode cX7_freed 4 = .ok (.iload_n 1, 1) := by decide +kernel
theorem dX7_freed_5 : decode cX7_freed 5 = .ok (.invokevirtual 108, 3) := by decide +kernel
theorem dX7_freed_8 : decode cX7_freed 8 = .ok (.ifCond .eq 10, 3) := by decide +kernel
theorem dX7_freed_11 : decode cX7_freed 11 = .ok (.iload_n 2, 1) := by decide +kernel
theorem dX7_freed_12 : decode cX7_freed 12 = .ok (.invokestatic 158, 3) := by decide +kernel
theorem dX7_freed_15 : decode cX7_freed 15 = .ok (.ifCond .ne 5, 3) := by decide +kernel
theorem dX7_freed_18 : decode cX7_freed 18 = .ok (.iconst (-1), 1) := by decide +kernel
theorem dX7_freed_19 : decode cX7_freed 19 = .ok (.ireturn, 1) := by decide +kernel
theorem dX7_freed_20 : decode cX7_freed 20 = .ok (.iconst 0, 1) := by decide +kernel
theorem dX7_freed_21 : decode cX7_freed 21 = .ok (.istore_n 3, 1) := by decide +kernel
theorem dX7_freed_22 : decode cX7_freed 22 = .ok (.iconst 0, 1) := by decide +kernel
theorem dX7_freed_23 : decode cX7_freed 23 = .ok (.istore 4, 2) := by decide +kernel
theorem dX7_freed_25 : decode cX7_freed 25 = .ok (.iload 4, 2) := by decide +kernel
theorem dX7_freed_27 : decode cX7_freed 27 = .ok (.bipush 12, 2) := by decide +kernel
theorem dX7_freed_29 : decode cX7_freed 29 = .ok (.if_icmp .ge 45, 3) := by decide +kernel
theorem dX7_freed_32 : decode cX7_freed 32 = .ok (.aload_n 0, 1) := by decide +kernel
theorem dX7_freed_33 : decode cX7_freed 33 = .ok (.getfield 21, 3) := by decide +kernel
theorem dX7_freed_36 : decode cX7_freed 36 = .ok (.iload 4, 2) := by decide +kernel
theorem dX7_freed_38 : decode cX7_freed 38 = .ok (.iload_n 2, 1) := by decide +kernel
theorem dX7_freed_39 : decode cX7_freed 39 = .ok (.invokevirtual 171, 3) := by decide +kernel
theorem dX7_freed_42 : decode cX7_freed 42 = .ok (.iconst 1, 1) := by decide +kernel
theorem dX7_freed_43 : decode cX7_freed 43 = .ok (.iload_n 1, 1) := by decide +kernel
theorem dX7_freed_44 : decode cX7_freed 44 = .ok (.ishl, 1) := by decide +kernel
theorem dX7_freed_45 : decode cX7_freed 45 = .ok (.if_icmp .ne 23, 3) := by decide +kernel
theorem dX7_freed_48 : decode cX7_freed 48 = .ok (.aload_n 0, 1) := by decide +kernel
theorem dX7_freed_49 : decode cX7_freed 49 = .ok (.getfield 21, 3) := by decide +kernel
theorem dX7_freed_52 : decode cX7_freed 52 = .ok (.iload 4, 2) := by decide +kernel
theorem dX7_freed_54 : decode cX7_freed 54 = .ok (.iload_n 2, 1) := by decide +kernel
theorem dX7_freed_55 : decode cX7_freed 55 = .ok (.invokevirtual 212, 3) := by decide +kernel
theorem dX7_freed_58 : decode cX7_freed 58 = .ok (.ifCond .ne 10, 3) := by decide +kernel
theorem dX7_freed_61 : decode cX7_freed 61 = .ok (.iload_n 3, 1) := by decide +kernel
theorem dX7_freed_62 : decode cX7_freed 62 = .ok (.iconst 1, 1) := by decide +kernel
theorem dX7_freed_63 : decode cX7_freed 63 = .ok (.iload 4, 2) := by decide +kernel
theorem dX7_freed_65 : decode cX7_freed 65 = .ok (.ishl, 1) := by decide +kernel
theorem dX7_freed_66 : decode cX7_freed 66 = .ok (.ior, 1) := by decide +kernel
theorem dX7_freed_67 : decode cX7_freed 67 = .ok (.istore_n 3, 1) := by decide +kernel
theorem dX7_freed_68 : decode cX7_freed 68 = .ok (.iinc 4 1, 3) := by decide +kernel
theorem dX7_freed_71 : decode cX7_freed 71 = .ok (.goto (-46), 3) := by decide +kernel
theorem dX7_freed_74 : decode cX7_freed 74 = .ok (.iload_n 3, 1) := by decide +kernel
theorem dX7_freed_75 : decode cX7_freed 75 = .ok (.ireturn, 1) := by decide +kernel
theorem dX7_never_0 : decode cX7_never 0 = .ok (.aload_n 0, 1) := by decide +kernel
theorem dX7_never_1 : decode cX7_never 1 = .ok (.getfield 21, 3) := by decide +kernel
theorem dX7_never_4 : decode cX7_never 4 = .ok (.iload_n 1, 1) := by decide +kernel
theorem dX7_never_5 : decode cX7_never 5 = .ok (.invokevirtual 108, 3) := by decide +kernel
theorem dX7_never_8 : decode cX7_never 8 = .ok (.ifCond .ne 5, 3) := by decide +kernel
theorem dX7_never_11 : decode cX7_never 11 = .ok (.iconst (-1), 1) := by decide +kernel
theorem dX7_never_12 : decode cX7_never 12 = .ok (.ireturn, 1) := by decide +kernel
theorem dX7_never_13 : decode cX7_never 13 = .ok (.aload_n 0, 1) := by decide +kernel
theorem dX7_never_14 : decode cX7_never 14 = .ok (.getfield 21, 3) := by decide +kernel
theorem dX7_never_17 : decode cX7_never 17 = .ok (.getfield 115, 3) := by decide +kernel
theorem dX7_never_20 : decode cX7_never 20 = .ok (.iload_n 1, 1) := by decide +kernel
theorem dX7_never_21 : decode cX7_never 21 = .ok (.iaload, 1) := by decide +kernel
theorem dX7_never_22 : decode cX7_never 22 = .ok (.iconst (-1), 1) := by decide +kernel
theorem dX7_never_23 : decode cX7_never 23 = .ok (.if_icmp .ne 5, 3) := by decide +kernel
theorem dX7_never_26 : decode cX7_never 26 = .ok (.iconst 0, 1) := by decide +kernel
theorem dX7_never_27 : decode cX7_never 27 = .ok (.ireturn, 1) := by decide +kernel
theorem dX7_never_28 : decode cX7_never 28 = .ok (.iconst 0, 1) := by decide +kernel
theorem dX7_never_29 : decode cX7_never 29 = .ok (.istore_n 2, 1) := by decide +kernel
theorem dX7_never_30 : decode cX7_never 30 = .ok (.aload_n 0, 1) := by decide +kernel
theorem dX7_never_31 : decode cX7_never 31 = .ok (.getfield 21, 3) := by decide +kernel
theorem dX7_never_34 : decode cX7_never 34 = .ok (.iload_n 1, 1) := by decide +kernel
theorem dX7_never_35 : decode cX7_never 35 = .ok (.invokevirtual 215, 3) := by decide +kernel
theorem dX7_never_38 : decode cX7_never 38 = .ok (.iconst 1, 1) := by decide +kernel
theorem dX7_never_39 : decode cX7_never 39 = .ok (.iadd, 1) := by decide +kernel
theorem dX7_never_40 : decode cX7_never 40 = .ok (.istore_n 3, 1) := by decide +kernel
theorem dX7_never_41 : decode cX7_never 41 = .ok (.iload_n 3, 1) := by decide +kernel
theorem dX7_never_42 : decode cX7_never 42 = .ok (.aload_n 0, 1) := by decide +kernel
theorem dX7_never_43 : decode cX7_never 43 = .ok (.getfield 21, 3) := by decide +kernel
theorem dX7_never_46 : decode cX7_never 46 = .ok (.getfield 218, 3) := by decide +kernel
theorem dX7_never_49 : decode cX7_never 49 = .ok (.if_icmp .ge 69, 3) := by decide +kernel
theorem dX7_never_52 : decode cX7_never 52 = .ok (.aload_n 0, 1) := by decide +kernel
theorem dX7_never_53 : decode cX7_never 53 = .ok (.getfield 21, 3) := by decide +kernel
theorem dX7_never_56 : decode cX7_never 56 = .ok (.getfield 221, 3) := by decide +kernel
theorem dX7_never_59 : decode cX7_never 59 = .ok (.iload_n 3, 1) := by decide +kernel
theorem dX7_never_60 : decode cX7_never 60 = .ok (.iaload, 1) := by decide +kernel
theorem dX7_never_61 : decode cX7_never 61 = .ok (.istore 4, 2) := by decide +kernel
theorem dX7_never_63 : decode cX7_never 63 = .ok (.aload_n 0, 1) := by decide +kernel
theorem dX7_never_64 : decode cX7_never 64 = .ok (.getfield 21, 3) := by decide +kernel
theorem dX7_never_67 : decode cX7_never 67 = .ok (.getfield 115, 3) := by decide +kernel
theorem dX7_never_70 : decode cX7_never 70 = .ok (.iload 4, 2) := by decide +kernel
theorem dX7_never_72 : decode cX7_never 72 = .ok (.iaload, 1) := by decide +kernel
theorem dX7_never_73 : decode cX7_never 73 = .ok (.aload_n 0, 1) := by decide +kernel
theorem dX7_never_74 : decode cX7_never 74 = .ok (.getfield 21, 3) := by decide +kernel
theorem dX7_never_77 : decode cX7_never 77 = .ok (.getfield 115, 3) := by decide +kernel
theorem dX7_never_80 : decode cX7_never 80 = .ok (.iload_n 1, 1) := by decide +kernel
theorem dX7_never_81 : decode cX7_never 81 = .ok (.iaload, 1) := by decide +kernel
theorem dX7_never_82 : decode cX7_never 82 = .ok (.if_icmp .ne 30, 3) := by decide +kernel
theorem dX7_never_85 : decode cX7_never 85 = .ok (.iload_n 2, 1) := by decide +kernel
theorem dX7_never_86 : decode cX7_never 86 = .ok (.aload_n 0, 1) := by decide +kernel
theorem dX7_never_87 : decode cX7_never 87 = .ok (.getfield 21, 3) := by decide +kernel
theorem dX7_never_90 : decode cX7_never 90 = .ok (.aload_n 0, 1) := by decide +kernel
theorem dX7_never_91 : decode cX7_never 91 = .ok (.getfield 21, 3) := by decide +kernel
theorem dX7_never_94 : decode cX7_never 94 = .ok (.getfield 224, 3) := by decide +kernel
theorem dX7_never_97 : decode cX7_never 97 = .ok (.iload 4, 2) := by decide +kernel
theorem dX7_never_99 : decode cX7_never 99 = .ok (.iaload, 1) := by decide +kernel
theorem dX7_never_100 : decode cX7_never 100 = .ok (.invokevirtual 227, 3) := by decide +kernel
theorem dX7_never_103 : decode cX7_never 103 = .ok (.iconst 1, 1) := by decide +kernel
theorem dX7_never_104 : decode cX7_never 104 = .ok (.iload 4, 2) := by decide +kernel
theorem dX7_never_106 : decode cX7_never 106 = .ok (.ishl, 1) := by decide +kernel
theorem dX7_never_107 : decode cX7_never 107 = .ok (.iconst (-1), 1) := by decide +kernel
theorem dX7_never_108 : decode cX7_never 108 = .ok (.ixor, 1) := by decide +kernel
theorem dX7_never_109 : decode cX7_never 109 = .ok (.iand, 1) := by decide +kernel
theorem dX7_never_110 : decode cX7_never 110 = .ok (.ior, 1) := by decide +kernel
theorem dX7_never_111 : decode cX7_never 111 = .ok (.istore_n 2, 1) := by decide +kernel
theorem dX7_never_112 : decode cX7_never 112 = .ok (.iinc 3 1, 3) := by decide +kernel
theorem dX7_never_115 : decode cX7_never 115 = .ok (.goto (-74), 3) := by decide +kernel
theorem dX7_never_118 : decode cX7_never 118 = .ok (.iload_n 2, 1) := by decide +kernel
theorem dX7_never_119 : decode cX7_never 119 = .ok (.iconst 1, 1) := by decide +kernel
theorem dX7_never_120 : decode cX7_never 120 = .ok (.iload_n 1, 1) := by decide +kernel
theorem dX7_never_121 : decode cX7_never 121 = .ok (.ishl, 1) := by decide +kernel
theorem dX7_never_122 : decode cX7_never 122 = .ok (.iconst (-1), 1) := by decide +kernel
theorem dX7_never_123 : decode cX7_never 123 = .ok (.ixor, 1) := by decide +kernel
theorem dX7_never_124 : decode cX7_never 124 = .ok (.iand, 1) := by decide +kernel
theorem dX7_never_125 : decode cX7_never 125 = .ok (.ireturn, 1) := by decide +kernel
theorem dX7_needs_0 : decode cX7_needs 0 = .ok (.iload_n 2, 1) := by decide +kernel
theorem dX7_needs_1 : decode cX7_needs 1 = .ok (.iconst 1, 1) := by decide +kernel
theorem dX7_needs_2 : decode cX7_needs 2 = .ok (.if_icmp .lt 18, 3) := by decide +kernel
theorem dX7_needs_5 : decode cX7_needs 5 = .ok (.iload_n 2, 1) := by decide +kernel
theorem dX7_needs_6 : decode cX7_needs 6 = .ok (.bipush 20, 2) := by decide +kernel
theorem dX7_needs_8 : decode cX7_needs 8 = .ok (.if_icmp .gt 12, 3) := by decide +kernel
theorem dX7_needs_11 : decode cX7_needs 11 = .ok (.iload_n 3, 1) := by decide +kernel
theorem dX7_needs_12 : decode cX7_needs 12 = .ok (.ifCond .eq 10, 3) := by decide +kernel
theorem dX7_needs_15 : decode cX7_needs 15 = .ok (.iload_n 3, 1) := by decide +kernel
theorem dX7_needs_16 : decode cX7_needs 16 = .ok (.iconst 1, 1) := by decide +kernel
theorem dX7_needs_17 : decode cX7_needs 17 = .ok (.if_icmp .eq 5, 3) := by decide +kernel
theorem dX7_needs_20 : decode cX7_needs 20 = .ok (.iconst (-1), 1) := by decide +kernel
theorem dX7_needs_21 : decode cX7_needs 21 = .ok (.ireturn, 1) := by decide +kernel
theorem dX7_needs_22 : decode cX7_needs 22 = .ok (.aload_n 0, 1) := by decide +kernel
theorem dX7_needs_23 : decode cX7_needs 23 = .ok (.getfield 30, 3) := by decide +kernel
theorem dX7_needs_26 : decode cX7_needs 26 = .ok (.invokevirtual 191, 3) := by decide +kernel
theorem dX7_needs_29 : decode cX7_needs 29 = .ok (.iload_n 1, 1) := by decide +kernel
theorem dX7_needs_30 : decode cX7_needs 30 = .ok (.istore 4, 2) := by decide +kernel
theorem dX7_needs_32 : decode cX7_needs 32 = .ok (.iconst 0, 1) := by decide +kernel
theorem dX7_needs_33 : decode cX7_needs 33 = .ok (.istore 5, 2) := by decide +kernel
theorem dX7_needs_35 : decode cX7_needs 35 = .ok (.iconst 0, 1) := by decide +kernel
theorem dX7_needs_36 : decode cX7_needs 36 = .ok (.istore 6, 2) := by decide +kernel
theorem dX7_needs_38 : decode cX7_needs 38 = .ok (.iconst 0, 1) := by decide +kernel
theorem dX7_needs_39 : decode cX7_needs 39 = .ok (.istore 7, 2) := by decide +kernel
theorem dX7_needs_41 : decode cX7_needs 41 = .ok (.iload 7, 2) := by decide +kernel
theorem dX7_needs_43 : decode cX7_needs 43 = .ok (.iload_n 2, 1) := by decide +kernel
theorem dX7_needs_44 : decode cX7_needs 44 = .ok (.if_icmp .ge 54, 3) := by decide +kernel
theorem dX7_needs_47 : decode cX7_needs 47 = .ok (.aload_n 0, 1) := by decide +kernel
theorem dX7_needs_48 : decode cX7_needs 48 = .ok (.getfield 30, 3) := by decide +kernel
theorem dX7_needs_51 : decode cX7_needs 51 = .ok (.iload 4, 2) := by decide +kernel
theorem dX7_needs_53 : decode cX7_needs 53 = .ok (.invokevirtual 230, 3) := by decide +kernel
theorem dX7_needs_56 : decode cX7_needs 56 = .ok (.istore 4, 2) := by decide +kernel
theorem dX7_needs_58 : decode cX7_needs 58 = .ok (.aload_n 0, 1) := by decide +kernel
theorem dX7_needs_59 : decode cX7_needs 59 = .ok (.getfield 30, 3) := by decide +kernel
theorem dX7_needs_62 : decode cX7_needs 62 = .ok (.iconst 0, 1) := by decide +kernel
theorem dX7_needs_63 : decode cX7_needs 63 = .ok (.invokevirtual 194, 3) := by decide +kernel
theorem dX7_needs_66 : decode cX7_needs 66 = .ok (.iload 5, 2) := by decide +kernel
theorem dX7_needs_68 : decode cX7_needs 68 = .ok (.aload_n 0, 1) := by decide +kernel
theorem dX7_needs_69 : decode cX7_needs 69 = .ok (.getfield 30, 3) := by decide +kernel
theorem dX7_needs_72 : decode cX7_needs 72 = .ok (.invokevirtual 200, 3) := by decide +kernel
theorem dX7_needs_75 : decode cX7_needs 75 = .ok (.iadd, 1) := by decide +kernel
theorem dX7_needs_76 : decode cX7_needs 76 = .ok (.istore 5, 2) := by decide +kernel
theorem dX7_needs_78 : decode cX7_needs 78 = .ok (.iload 6, 2) := by decide +kernel
theorem dX7_needs_80 : decode cX7_needs 80 = .ok (.aload_n 0, 1) := by decide +kernel
theorem dX7_needs_81 : decode cX7_needs 81 = .ok (.getfield 30, 3) := by decide +kernel
theorem dX7_needs_84 : decode cX7_needs 84 = .ok (.invokevirtual 200, 3) := by decide +kernel
theorem dX7_needs_87 : decode cX7_needs 87 = .ok (.invokestatic 233, 3) := by decide +kernel
theorem dX7_needs_90 : decode cX7_needs 90 = .ok (.istore 6, 2) := by decide +kernel
theorem dX7_needs_92 : decode cX7_needs 92 = .ok (.iinc 7 1, 3) := by decide +kernel
theorem dX7_needs_95 : decode cX7_needs 95 = .ok (.goto (-54), 3) := by decide +kernel
theorem dX7_needs_98 : decode cX7_needs 98 = .ok (.iload_n 3, 1) := by decide +kernel
theorem dX7_needs_99 : decode cX7_needs 99 = .ok (.ifCond .ne 10, 3) := by decide +kernel
theorem dX7_needs_102 : decode cX7_needs 102 = .ok (.iload 5, 2) := by decide +kernel
theorem dX7_needs_104 : decode cX7_needs 104 = .ok (.iload_n 2, 1) := by decide +kernel
theorem dX7_needs_105 : decode cX7_needs 105 = .ok (.idiv, 1) := by decide +kernel
theorem dX7_needs_106 : decode cX7_needs 106 = .ok (.goto 5, 3) := by decide +kernel
theorem dX7_needs_109 : decode cX7_needs 109 = .ok (.iload 6, 2) := by decide +kernel
theorem dX7_needs_111 : decode cX7_needs 111 = .ok (.ireturn, 1) := by decide +kernel
theorem dX7_image_0 : decode cX7_image 0 = .ok (.aload_n 0, 1) := by decide +kernel
theorem dX7_image_1 : decode cX7_image 1 = .ok (.aload_n 0, 1) := by decide +kernel
theorem dX7_image_2 : decode cX7_image 2 = .ok (.getfield 21, 3) := by decide +kernel
theorem dX7_image_5 : decode cX7_image 5 = .ok (.getfield 218, 3) := by decide +kernel
theorem dX7_image_8 : decode cX7_image 8 = .ok (.putfield 68, 3) := by decide +kernel
theorem dX7_image_11 : decode cX7_image 11 = .ok (.aload_n 0, 1) := by decide +kernel
theorem dX7_image_12 : decode cX7_image 12 = .ok (.getfield 21, 3) := by decide +kernel
theorem dX7_image_15 : decode cX7_image 15 = .ok (.getfield 115, 3) := by decide +kernel
theorem dX7_image_18 : decode cX7_image 18 = .ok (.iconst 0, 1) := by decide +kernel
theorem dX7_image_19 : decode cX7_image 19 = .ok (.aload_n 0, 1) := by decide +kernel
theorem dX7_image_20 : decode cX7_image 20 = .ok (.getfield 64, 3) := by decide +kernel
theorem dX7_image_23 : decode cX7_image 23 = .ok (.iconst 0, 1) := by decide +kernel
theorem dX7_image_24 : decode cX7_image 24 = .ok (.bipush 12, 2) := by decide +kernel
theorem dX7_image_26 : decode cX7_image 26 = .ok (.invokestatic 238, 3) := by decide +kernel
theorem dX7_image_29 : decode cX7_image 29 = .ok (.aload_n 0, 1) := by decide +kernel
theorem dX7_image_30 : decode cX7_image 30 = .ok (.getfield 68, 3) := by decide +kernel
theorem dX7_image_33 : decode cX7_image 33 = .ok (.ireturn, 1) := by decide +kernel
theorem dX7_back_0 : decode cX7_back 0 = .ok (.aload_n 0, 1) := by decide +kernel
theorem dX7_back_1 : decode cX7_back 1 = .ok (.getfield 68, 3) := by decide +kernel
theorem dX7_back_4 : decode cX7_back 4 = .ok (.iconst (-1), 1) := by decide +kernel
theorem dX7_back_5 : decode cX7_back 5 = .ok (.if_icmp .ne 6, 3) := by decide +kernel
theorem dX7_back_8 : decode cX7_back 8 = .ok (.bipush (-5), 2) := by decide +kernel
theorem dX7_back_10 : decode cX7_back 10 = .ok (.ireturn, 1) := by decide +kernel
theorem dX7_back_11 : decode cX7_back 11 = .ok (.aload_n 0, 1) := by decide +kernel
theorem dX7_back_12 : decode cX7_back 12 = .ok (.getfield 64, 3) := by decide +kernel
theorem dX7_back_15 : decode cX7_back 15 = .ok (.iconst 0, 1) := by decide +kernel
theorem dX7_back_16 : decode cX7_back 16 = .ok (.aload_n 0, 1) := by decide +kernel
theorem dX7_back_17 : decode cX7_back 17 = .ok (.getfield 21, 3) := by decide +kernel
theorem dX7_back_20 : decode cX7_back 20 = .ok (.getfield 115, 3) := by decide +kernel
theorem dX7_back_23 : decode cX7_back 23 = .ok (.iconst 0, 1) := by decide +kernel
theorem dX7_back_24 : decode cX7_back 24 = .ok (.aload_n 0, 1) := by decide +kernel
theorem dX7_back_25 : decode cX7_back 25 = .ok (.getfield 68, 3) := by decide +kernel
theorem dX7_back_28 : decode cX7_back 28 = .ok (.invokestatic 238, 3) := by decide +kernel
theorem dX7_back_31 : decode cX7_back 31 = .ok (.aload_n 0, 1) := by decide +kernel
theorem dX7_back_32 : decode cX7_back 32 = .ok (.getfield 68, 3) := by decide +kernel
theorem dX7_back_35 : decode cX7_back 35 = .ok (.ireturn, 1) := by decide +kernel
theorem dX7_undo_0 : decode cX7_undo 0 = .ok (.aload_n 0, 1) := by decide +kernel
theorem dX7_undo_1 : decode cX7_undo 1 = .ok (.getfield 46, 3) := by decide +kernel
theorem dX7_undo_4 : decode cX7_undo 4 = .ok (.invokevirtual 244, 3) := by decide +kernel
theorem dX7_undo_7 : decode cX7_undo 7 = .ok (.ifCond .ne 6, 3) := by decide +kernel
theorem dX7_undo_10 : decode cX7_undo 10 = .ok (.bipush (-5), 2) := by decide +kernel
theorem dX7_undo_12 : decode cX7_undo 12 = .ok (.ireturn, 1) := by decide +kernel
theorem dX7_undo_13 : decode cX7_undo 13 = .ok (.aload_n 0, 1) := by decide +kernel
theorem dX7_undo_14 : decode cX7_undo 14 = .ok (.aload_n 0, 1) := by decide +kernel
theorem dX7_undo_15 : decode cX7_undo 15 = .ok (.getfield 46, 3) := by decide +kernel
theorem dX7_undo_18 : decode cX7_undo 18 = .ok (.getfield 247, 3) := by decide +kernel
theorem dX7_undo_21 : decode cX7_undo 21 = .ok (.aload_n 0, 1) := by decide +kernel
theorem dX7_undo_22 : decode cX7_undo 22 = .ok (.getfield 46, 3) := by decide +kernel
theorem dX7_undo_25 : decode cX7_undo 25 = .ok (.getfield 250, 3) := by decide +kernel
theorem dX7_undo_28 : decode cX7_undo 28 = .ok (.iaload, 1) := by decide +kernel
theorem dX7_undo_29 : decode cX7_undo 29 = .ok (.invokevirtual 253, 3) := by decide +kernel
theorem dX7_undo_32 : decode cX7_undo 32 = .ok (.aload_n 0, 1) := by decide +kernel
theorem dX7_undo_33 : decode cX7_undo 33 = .ok (.getfield 46, 3) := by decide +kernel
theorem dX7_undo_36 : decode cX7_undo 36 = .ok (.getfield 250, 3) := by decide +kernel
theorem dX7_undo_39 : decode cX7_undo 39 = .ok (.ireturn, 1) := by decide +kernel
theorem dX7_redo_0 : decode cX7_redo 0 = .ok (.aload_n 0, 1) := by decide +kernel
theorem dX7_redo_1 : decode cX7_redo 1 = .ok (.getfield 46, 3) := by decide +kernel
theorem dX7_redo_4 : decode cX7_redo 4 = .ok (.invokevirtual 256, 3) := by decide +kernel
theorem dX7_redo_7 : decode cX7_redo 7 = .ok (.ifCond .ne 6, 3) := by decide +kernel
theorem dX7_redo_10 : decode cX7_redo 10 = .ok (.bipush (-5), 2) := by decide +kernel
theorem dX7_redo_12 : decode cX7_redo 12 = .ok (.ireturn, 1) := by decide +kernel
theorem dX7_redo_13 : decode cX7_redo 13 = .ok (.aload_n 0, 1) := by decide +kernel
theorem dX7_redo_14 : decode cX7_redo 14 = .ok (.aload_n 0, 1) := by decide +kernel
theorem dX7_redo_15 : decode cX7_redo 15 = .ok (.getfield 46, 3) := by decide +kernel
theorem dX7_redo_18 : decode cX7_redo 18 = .ok (.getfield 259, 3) := by decide +kernel
theorem dX7_redo_21 : decode cX7_redo 21 = .ok (.aload_n 0, 1) := by decide +kernel
theorem dX7_redo_22 : decode cX7_redo 22 = .ok (.getfield 46, 3) := by decide +kernel
theorem dX7_redo_25 : decode cX7_redo 25 = .ok (.getfield 250, 3) := by decide +kernel
theorem dX7_redo_28 : decode cX7_redo 28 = .ok (.iaload, 1) := by decide +kernel
theorem dX7_redo_29 : decode cX7_redo 29 = .ok (.invokevirtual 253, 3) := by decide +kernel
theorem dX7_redo_32 : decode cX7_redo 32 = .ok (.aload_n 0, 1) := by decide +kernel
theorem dX7_redo_33 : decode cX7_redo 33 = .ok (.getfield 46, 3) := by decide +kernel
theorem dX7_redo_36 : decode cX7_redo 36 = .ok (.invokevirtual 262, 3) := by decide +kernel
theorem dX7_redo_39 : decode cX7_redo 39 = .ok (.aload_n 0, 1) := by decide +kernel
theorem dX7_redo_40 : decode cX7_redo 40 = .ok (.getfield 46, 3) := by decide +kernel
theorem dX7_redo_43 : decode cX7_redo 43 = .ok (.getfield 265, 3) := by decide +kernel
theorem dX7_redo_46 : decode cX7_redo 46 = .ok (.aload_n 0, 1) := by decide +kernel
theorem dX7_redo_47 : decode cX7_redo 47 = .ok (.getfield 46, 3) := by decide +kernel
theorem dX7_redo_50 : decode cX7_redo 50 = .ok (.getfield 250, 3) := by decide +kernel
theorem dX7_redo_53 : decode cX7_redo 53 = .ok (.isub, 1) := by decide +kernel
theorem dX7_redo_54 : decode cX7_redo 54 = .ok (.ireturn, 1) := by decide +kernel
theorem dX7_body_0 : decode cX7_body 0 = .ok (.iload_n 1, 1) := by decide +kernel
theorem dX7_body_1 : decode cX7_body 1 = .ok (.invokestatic 268, 3) := by decide +kernel
theorem dX7_body_4 : decode cX7_body 4 = .ok (.ifCond .eq 14, 3) := by decide +kernel
theorem dX7_body_7 : decode cX7_body 7 = .ok (.aload_n 0, 1) := by decide +kernel
theorem dX7_body_8 : decode cX7_body 8 = .ok (.getfield 53, 3) := by decide +kernel
theorem dX7_body_11 : decode cX7_body 11 = .ok (.iload_n 1, 1) := by decide +kernel
theorem dX7_body_12 : decode cX7_body 12 = .ok (.invokevirtual 271, 3) := by decide +kernel
theorem dX7_body_15 : decode cX7_body 15 = .ok (.goto 4, 3) := by decide +kernel
theorem dX7_body_18 : decode cX7_body 18 = .ok (.iconst (-1), 1) := by decide +kernel
theorem dX7_body_19 : decode cX7_body 19 = .ok (.ireturn, 1) := by decide +kernel
theorem dX7_act_0 : decode cX7_act 0 = .ok (.aload_n 0, 1) := by decide +kernel
theorem dX7_act_1 : decode cX7_act 1 = .ok (.getfield 53, 3) := by decide +kernel
theorem dX7_act_4 : decode cX7_act 4 = .ok (.iload_n 1, 1) := by decide +kernel
theorem dX7_act_5 : decode cX7_act 5 = .ok (.iload_n 2, 1) := by decide +kernel
theorem dX7_act_6 : decode cX7_act 6 = .ok (.iload_n 3, 1) := by decide +kernel
theorem dX7_act_7 : decode cX7_act 7 = .ok (.invokevirtual 273, 3) := by decide +kernel
theorem dX7_act_10 : decode cX7_act 10 = .ok (.ireturn, 1) := by decide +kernel
theorem dX7_trace_0 : decode cX7_trace 0 = .ok (.iload_n 1, 1) := by decide +kernel
theorem dX7_trace_1 : decode cX7_trace 1 = .ok (.ifCond .lt 26, 3) := by decide +kernel
theorem dX7_trace_4 : decode cX7_trace 4 = .ok (.iload_n 1, 1) := by decide +kernel
theorem dX7_trace_5 : decode cX7_trace 5 = .ok (.aload_n 0, 1) := by decide +kernel
theorem dX7_trace_6 : decode cX7_trace 6 = .ok (.getfield 53, 3) := by decide +kernel
theorem dX7_trace_9 : decode cX7_trace 9 = .ok (.invokevirtual 276, 3) := by decide +kernel
theorem dX7_trace_12 : decode cX7_trace 12 = .ok (.if_icmp .ge 15, 3) := by decide +kernel
theorem dX7_trace_15 : decode cX7_trace 15 = .ok (.aload_n 0, 1) := by decide +kernel
theorem dX7_trace_16 : decode cX7_trace 16 = .ok (.getfield 53, 3) := by decide +kernel
theorem dX7_trace_19 : decode cX7_trace 19 = .ok (.getfield 279, 3) := by decide +kernel
theorem dX7_trace_22 : decode cX7_trace 22 = .ok (.iload_n 1, 1) := by decide +kernel
theorem dX7_trace_23 : decode cX7_trace 23 = .ok (.iaload, 1) := by decide +kernel
theorem dX7_trace_24 : decode cX7_trace 24 = .ok (.goto 4, 3) := by decide +kernel
theorem dX7_trace_27 : decode cX7_trace 27 = .ok (.iconst (-1), 1) := by decide +kernel
theorem dX7_trace_28 : decode cX7_trace 28 = .ok (.ireturn, 1) := by decide +kernel
theorem dX7_keep_0 : decode cX7_keep 0 = .ok (.iload_n 1, 1) := by decide +kernel
theorem dX7_keep_1 : decode cX7_keep 1 = .ok (.invokestatic 80, 3) := by decide +kernel
theorem dX7_keep_4 : decode cX7_keep 4 = .ok (.ifCond .eq 19, 3) := by decide +kernel
theorem dX7_keep_7 : decode cX7_keep 7 = .ok (.iload_n 2, 1) := by decide +kernel
theorem dX7_keep_8 : decode cX7_keep 8 = .ok (.iconst (-1), 1) := by decide +kernel
theorem dX7_keep_9 : decode cX7_keep 9 = .ok (.if_icmp .eq 16, 3) := by decide +kernel
theorem dX7_keep_12 : decode cX7_keep 12 = .ok (.aload_n 0, 1) := by decide +kernel
theorem dX7_keep_13 : decode cX7_keep 13 = .ok (.getfield 53, 3) := by decide +kernel
theorem dX7_keep_16 : decode cX7_keep 16 = .ok (.iload_n 2, 1) := by decide +kernel
theorem dX7_keep_17 : decode cX7_keep 17 = .ok (.invokevirtual 282, 3) := by decide +kernel
theorem dX7_keep_20 : decode cX7_keep 20 = .ok (.ifCond .ne 5, 3) := by decide +kernel
theorem dX7_keep_23 : decode cX7_keep 23 = .ok (.iconst (-1), 1) := by decide +kernel
theorem dX7_keep_24 : decode cX7_keep 24 = .ok (.ireturn, 1) := by decide +kernel
theorem dX7_keep_25 : decode cX7_keep 25 = .ok (.aload_n 0, 1) := by decide +kernel
theorem dX7_keep_26 : decode cX7_keep 26 = .ok (.getfield 59, 3) := by decide +kernel
theorem dX7_keep_29 : decode cX7_keep 29 = .ok (.iload_n 1, 1) := by decide +kernel
theorem dX7_keep_30 : decode cX7_keep 30 = .ok (.aaload, 1) := by decide +kernel
theorem dX7_keep_31 : decode cX7_keep 31 = .ok (.iload_n 2, 1) := by decide +kernel
theorem dX7_keep_32 : decode cX7_keep 32 = .ok (.invokevirtual 285, 3) := by decide +kernel
theorem dX7_keep_35 : decode cX7_keep 35 = .ok (.iconst 1, 1) := by decide +kernel
theorem dX7_keep_36 : decode cX7_keep 36 = .ok (.ireturn, 1) := by decide +kernel
theorem dX7_row_0 : decode cX7_row 0 = .ok (.iload_n 1, 1) := by decide +kernel
theorem dX7_row_1 : decode cX7_row 1 = .ok (.invokestatic 80, 3) := by decide +kernel
theorem dX7_row_4 : decode cX7_row 4 = .ok (.ifCond .eq 18, 3) := by decide +kernel
theorem dX7_row_7 : decode cX7_row 7 = .ok (.iload_n 2, 1) := by decide +kernel
theorem dX7_row_8 : decode cX7_row 8 = .ok (.ifCond .lt 14, 3) := by decide +kernel
theorem dX7_row_11 : decode cX7_row 11 = .ok (.iload_n 2, 1) := by decide +kernel
theorem dX7_row_12 : decode cX7_row 12 = .ok (.iconst 4, 1) := by decide +kernel
theorem dX7_row_13 : decode cX7_row 13 = .ok (.if_icmp .gt 9, 3) := by decide +kernel
theorem dX7_row_16 : decode cX7_row 16 = .ok (.iload_n 3, 1) := by decide +kernel
theorem dX7_row_17 : decode cX7_row 17 = .ok (.bipush 60, 2) := by decide +kernel
theorem dX7_row_19 : decode cX7_row 19 = .ok (.if_icmp .le 5, 3) := by decide +kernel
theorem dX7_row_22 : decode cX7_row 22 = .ok (.iconst (-1), 1) := by decide +kernel
theorem dX7_row_23 : decode cX7_row 23 = .ok (.ireturn, 1) := by decide +kernel
theorem dX7_row_24 : decode cX7_row 24 = .ok (.iload_n 3, 1) := by decide +kernel
theorem dX7_row_25 : decode cX7_row 25 = .ok (.ifCond .ge 6, 3) := by decide +kernel
theorem dX7_row_28 : decode cX7_row 28 = .ok (.bipush (-14), 2) := by decide +kernel
theorem dX7_row_30 : decode cX7_row 30 = .ok (.ireturn, 1) := by decide +kernel
theorem dX7_row_31 : decode cX7_row 31 = .ok (.aload_n 0, 1) := by decide +kernel
theorem dX7_row_32 : decode cX7_row 32 = .ok (.getfield 59, 3) := by decide +kernel
theorem dX7_row_35 : decode cX7_row 35 = .ok (.iload_n 1, 1) := by decide +kernel
theorem dX7_row_36 : decode cX7_row 36 = .ok (.aaload, 1) := by decide +kernel
theorem dX7_row_37 : decode cX7_row 37 = .ok (.iload_n 2, 1) := by decide +kernel
theorem dX7_row_38 : decode cX7_row 38 = .ok (.iload_n 3, 1) := by decide +kernel
theorem dX7_row_39 : decode cX7_row 39 = .ok (.invokevirtual 288, 3) := by decide +kernel
theorem dX7_row_42 : decode cX7_row 42 = .ok (.iconst 1, 1) := by decide +kernel
theorem dX7_row_43 : decode cX7_row 43 = .ok (.ireturn, 1) := by decide +kernel
theorem dX7_put_0 : decode cX7_put 0 = .ok (.aload_n 0, 1) := by decide +kernel
theorem dX7_put_1 : decode cX7_put 1 = .ok (.iload_n 1, 1) := by decide +kernel
theorem dX7_put_2 : decode cX7_put 2 = .ok (.iload_n 2, 1) := by decide +kernel
theorem dX7_put_3 : decode cX7_put 3 = .ok (.invokevirtual 292, 3) := by decide +kernel
theorem dX7_put_6 : decode cX7_put 6 = .ok (.istore 5, 2) := by decide +kernel
theorem dX7_put_8 : decode cX7_put 8 = .ok (.iload 5, 2) := by decide +kernel
theorem dX7_put_10 : decode cX7_put 10 = .ok (.ifCond .eq 6, 3) := by decide +kernel
theorem dX7_put_13 : decode cX7_put 13 = .ok (.iload 5, 2) := by decide +kernel
theorem dX7_put_15 : decode cX7_put 15 = .ok (.ireturn, 1) := by decide +kernel
theorem dX7_put_16 : decode cX7_put 16 = .ok (.aload_n 0, 1) := by decide +kernel
theorem dX7_put_17 : decode cX7_put 17 = .ok (.getfield 59, 3) := by decide +kernel
theorem dX7_put_20 : decode cX7_put 20 = .ok (.iload_n 1, 1) := by decide +kernel
theorem dX7_put_21 : decode cX7_put 21 = .ok (.aaload, 1) := by decide +kernel
theorem dX7_put_22 : decode cX7_put 22 = .ok (.iload_n 2, 1) := by decide +kernel
theorem dX7_put_23 : decode cX7_put 23 = .ok (.lload_n 3, 1) := by decide +kernel
theorem dX7_put_24 : decode cX7_put 24 = .ok (.invokevirtual 295, 3) := by decide +kernel
theorem dX7_put_27 : decode cX7_put 27 = .ok (.iconst 1, 1) := by decide +kernel
theorem dX7_put_28 : decode cX7_put 28 = .ok (.ireturn, 1) := by decide +kernel
theorem dX7_element_0 : decode cX7_element 0 = .ok (.aload_n 0, 1) := by decide +kernel
theorem dX7_element_1 : decode cX7_element 1 = .ok (.iload_n 1, 1) := by decide +kernel
theorem dX7_element_2 : decode cX7_element 2 = .ok (.iload_n 2, 1) := by decide +kernel
theorem dX7_element_3 : decode cX7_element 3 = .ok (.invokevirtual 292, 3) := by decide +kernel
theorem dX7_element_6 : decode cX7_element 6 = .ok (.ifCond .ne 17, 3) := by decide +kernel
theorem dX7_element_9 : decode cX7_element 9 = .ok (.aload_n 0, 1) := by decide +kernel
theorem dX7_element_10 : decode cX7_element 10 = .ok (.getfield 59, 3) := by decide +kernel
theorem dX7_element_13 : decode cX7_element 13 = .ok (.iload_n 1, 1) := by decide +kernel
theorem dX7_element_14 : decode cX7_element 14 = .ok (.aaload, 1) := by decide +kernel
theorem dX7_element_15 : decode cX7_element 15 = .ok (.getfield 299, 3) := by decide +kernel
theorem dX7_element_18 : decode cX7_element 18 = .ok (.iload_n 2, 1) := by decide +kernel
theorem dX7_element_19 : decode cX7_element 19 = .ok (.laload, 1) := by decide +kernel
theorem dX7_element_20 : decode cX7_element 20 = .ok (.goto 6, 3) := by decide +kernel
theorem dX7_element_23 : decode cX7_element 23 = .ok (.ldc2_w 305, 3) := by decide +kernel
theorem dX7_element_26 : decode cX7_element 26 = .ok (.lreturn, 1) := by decide +kernel
theorem dX7_shift_0 : decode cX7_shift 0 = .ok (.iload_n 1, 1) := by decide +kernel
theorem dX7_shift_1 : decode cX7_shift 1 = .ok (.invokestatic 80, 3) := by decide +kernel
theorem dX7_shift_4 : decode cX7_shift 4 = .ok (.ifCond .eq 10, 3) := by decide +kernel
theorem dX7_shift_7 : decode cX7_shift 7 = .ok (.iload_n 3, 1) := by decide +kernel
theorem dX7_shift_8 : decode cX7_shift 8 = .ok (.invokestatic 80, 3) := by decide +kernel
theorem dX7_shift_11 : decode cX7_shift 11 = .ok (.ifCond .ne 5, 3) := by decide +kernel
theorem dX7_shift_14 : decode cX7_shift 14 = .ok (.iconst (-1), 1) := by decide +kernel
theorem dX7_shift_15 : decode cX7_shift 15 = .ok (.ireturn, 1) := by decide +kernel
theorem dX7_shift_16 : decode cX7_shift 16 = .ok (.aload_n 0, 1) := by decide +kernel
theorem dX7_shift_17 : decode cX7_shift 17 = .ok (.getfield 59, 3) := by decide +kernel
theorem dX7_shift_20 : decode cX7_shift 20 = .ok (.iload_n 1, 1) := by decide +kernel
theorem dX7_shift_21 : decode cX7_shift 21 = .ok (.aaload, 1) := by decide +kernel
theorem dX7_shift_22 : decode cX7_shift 22 = .ok (.astore 6, 2) := by decide +kernel
theorem dX7_shift_24 : decode cX7_shift 24 = .ok (.aload_n 0, 1) := by decide +kernel
theorem dX7_shift_25 : decode cX7_shift 25 = .ok (.getfield 59, 3) := by decide +kernel
theorem dX7_shift_28 : decode cX7_shift 28 = .ok (.iload_n 3, 1) := by decide +kernel
theorem dX7_shift_29 : decode cX7_shift 29 = .ok (.aaload, 1) := by decide +kernel
theorem dX7_shift_30 : decode cX7_shift 30 = .ok (.astore 7, 2) := by decide +kernel
theorem dX7_shift_32 : decode cX7_shift 32 = .ok (.aload 6, 2) := by decide +kernel
theorem dX7_shift_34 : decode cX7_shift 34 = .ok (.invokevirtual 84, 3) := by decide +kernel
theorem dX7_shift_37 : decode cX7_shift 37 = .ok (.ifCond .ne 11, 3) := by decide +kernel
theorem dX7_shift_40 : decode cX7_shift 40 = .ok (.aload 7, 2) := by decide +kernel
theorem dX7_shift_42 : decode cX7_shift 42 = .ok (.invokevirtual 84, 3) := by decide +kernel
theorem dX7_shift_45 : decode cX7_shift 45 = .ok (.ifCond .eq 6, 3) := by decide +kernel
theorem dX7_shift_48 : decode cX7_shift 48 = .ok (.bipush (-11), 2) := by decide +kernel
theorem dX7_shift_50 : decode cX7_shift 50 = .ok (.ireturn, 1) := by decide +kernel
theorem dX7_shift_51 : decode cX7_shift 51 = .ok (.aload 6, 2) := by decide +kernel
theorem dX7_shift_53 : decode cX7_shift 53 = .ok (.invokevirtual 88, 3) := by decide +kernel
theorem dX7_shift_56 : decode cX7_shift 56 = .ok (.ifCond .eq 24, 3) := by decide +kernel
theorem dX7_shift_59 : decode cX7_shift 59 = .ok (.aload 7, 2) := by decide +kernel
theorem dX7_shift_61 : decode cX7_shift 61 = .ok (.invokevirtual 88, 3) := by decide +kernel
theorem dX7_shift_64 : decode cX7_shift 64 = .ok (.ifCond .eq 16, 3) := by decide +kernel
theorem dX7_shift_67 : decode cX7_shift 67 = .ok (.aload 6, 2) := by decide +kernel
theorem dX7_shift_69 : decode cX7_shift 69 = .ok (.getfield 91, 3) := by decide +kernel
theorem dX7_shift_72 : decode cX7_shift 72 = .ok (.aload 7, 2) := by decide +kernel
theorem dX7_shift_74 : decode cX7_shift 74 = .ok (.getfield 91, 3) := by decide +kernel
theorem dX7_shift_77 : decode cX7_shift 77 = .ok (.if_icmp .eq 6, 3) := by decide +kernel
theorem dX7_shift_80 : decode cX7_shift 80 = .ok (.bipush (-12), 2) := by decide +kernel
theorem dX7_shift_82 : decode cX7_shift 82 = .ok (.ireturn, 1) := by decide +kernel
theorem dX7_shift_83 : decode cX7_shift 83 = .ok (.aload 6, 2) := by decide +kernel
theorem dX7_shift_85 : decode cX7_shift 85 = .ok (.iload_n 2, 1) := by decide +kernel
theorem dX7_shift_86 : decode cX7_shift 86 = .ok (.iload 5, 2) := by decide +kernel
theorem dX7_shift_88 : decode cX7_shift 88 = .ok (.invokevirtual 307, 3) := by decide +kernel
theorem dX7_shift_91 : decode cX7_shift 91 = .ok (.ifCond .eq 15, 3) := by decide +kernel
theorem dX7_shift_94 : decode cX7_shift 94 = .ok (.aload 7, 2) := by decide +kernel
theorem dX7_shift_96 : decode cX7_shift 96 = .ok (.iload 4, 2) := by decide +kernel
theorem dX7_shift_98 : decode cX7_shift 98 = .ok (.iload 5, 2) := by decide +kernel
theorem dX7_shift_100 : decode cX7_shift 100 = .ok (.invokevirtual 307, 3) := by decide +kernel
theorem dX7_shift_103 : decode cX7_shift 103 = .ok (.ifCond .ne 6, 3) := by decide +kernel
theorem dX7_shift_106 : decode cX7_shift 106 = .ok (.bipush (-13), 2) := by decide +kernel
theorem dX7_shift_108 : decode cX7_shift 108 = .ok (.ireturn, 1) := by decide +kernel
theorem dX7_shift_109 : decode cX7_shift 109 = .ok (.aload 6, 2) := by decide +kernel
theorem dX7_shift_111 : decode cX7_shift 111 = .ok (.getfield 299, 3) := by decide +kernel
theorem dX7_shift_114 : decode cX7_shift 114 = .ok (.iload_n 2, 1) := by decide +kernel
theorem dX7_shift_115 : decode cX7_shift 115 = .ok (.aload 7, 2) := by decide +kernel
theorem dX7_shift_117 : decode cX7_shift 117 = .ok (.getfield 299, 3) := by decide +kernel
theorem dX7_shift_120 : decode cX7_shift 120 = .ok (.iload 4, 2) := by decide +kernel
theorem dX7_shift_122 : decode cX7_shift 122 = .ok (.iload 5, 2) := by decide +kernel
theorem dX7_shift_124 : decode cX7_shift 124 = .ok (.invokestatic 238, 3) := by decide +kernel
theorem dX7_shift_127 : decode cX7_shift 127 = .ok (.iload 5, 2) := by decide +kernel
theorem dX7_shift_129 : decode cX7_shift 129 = .ok (.ireturn, 1) := by decide +kernel
theorem dX7_taken_0 : decode cX7_taken 0 = .ok (.iload_n 1, 1) := by decide +kernel
theorem dX7_taken_1 : decode cX7_taken 1 = .ok (.invokestatic 80, 3) := by decide +kernel
theorem dX7_taken_4 : decode cX7_taken 4 = .ok (.ifCond .eq 10, 3) := by decide +kernel
theorem dX7_taken_7 : decode cX7_taken 7 = .ok (.iload_n 2, 1) := by decide +kernel
theorem dX7_taken_8 : decode cX7_taken 8 = .ok (.invokestatic 268, 3) := by decide +kernel
theorem dX7_taken_11 : decode cX7_taken 11 = .ok (.ifCond .ne 5, 3) := by decide +kernel
theorem dX7_taken_14 : decode cX7_taken 14 = .ok (.iconst (-1), 1) := by decide +kernel
theorem dX7_taken_15 : decode cX7_taken 15 = .ok (.ireturn, 1) := by decide +kernel
theorem dX7_taken_16 : decode cX7_taken 16 = .ok (.aload_n 0, 1) := by decide +kernel
theorem dX7_taken_17 : decode cX7_taken 17 = .ok (.getfield 59, 3) := by decide +kernel
theorem dX7_taken_20 : decode cX7_taken 20 = .ok (.iload_n 1, 1) := by decide +kernel
theorem dX7_taken_21 : decode cX7_taken 21 = .ok (.aaload, 1) := by decide +kernel
theorem dX7_taken_22 : decode cX7_taken 22 = .ok (.astore_n 3, 1) := by decide +kernel
theorem dX7_taken_23 : decode cX7_taken 23 = .ok (.aload_n 3, 1) := by decide +kernel
theorem dX7_taken_24 : decode cX7_taken 24 = .ok (.invokevirtual 84, 3) := by decide +kernel
theorem dX7_taken_27 : decode cX7_taken 27 = .ok (.ifCond .eq 6, 3) := by decide +kernel
theorem dX7_taken_30 : decode cX7_taken 30 = .ok (.bipush (-11), 2) := by decide +kernel
theorem dX7_taken_32 : decode cX7_taken 32 = .ok (.ireturn, 1) := by decide +kernel
theorem dX7_taken_33 : decode cX7_taken 33 = .ok (.aload_n 3, 1) := by decide +kernel
theorem dX7_taken_34 : decode cX7_taken 34 = .ok (.invokevirtual 88, 3) := by decide +kernel
theorem dX7_taken_37 : decode cX7_taken 37 = .ok (.ifCond .ne 17, 3) := by decide +kernel
theorem dX7_taken_40 : decode cX7_taken 40 = .ok (.aload_n 0, 1) := by decide +kernel
theorem dX7_taken_41 : decode cX7_taken 41 = .ok (.getfield 53, 3) := by decide +kernel
theorem dX7_taken_44 : decode cX7_taken 44 = .ok (.aload_n 3, 1) := by decide +kernel
theorem dX7_taken_45 : decode cX7_taken 45 = .ok (.getfield 310, 3) := by decide +kernel
theorem dX7_taken_48 : decode cX7_taken 48 = .ok (.invokevirtual 282, 3) := by decide +kernel
theorem dX7_taken_51 : decode cX7_taken 51 = .ok (.ifCond .ne 6, 3) := by decide +kernel
theorem dX7_taken_54 : decode cX7_taken 54 = .ok (.bipush (-12), 2) := by decide +kernel
theorem dX7_taken_56 : decode cX7_taken 56 = .ok (.ireturn, 1) := by decide +kernel
theorem dX7_taken_57 : decode cX7_taken 57 = .ok (.aload_n 0, 1) := by decide +kernel
theorem dX7_taken_58 : decode cX7_taken 58 = .ok (.getfield 53, 3) := by decide +kernel
theorem dX7_taken_61 : decode cX7_taken 61 = .ok (.getfield 313, 3) := by decide +kernel
theorem dX7_taken_64 : decode cX7_taken 64 = .ok (.aload_n 3, 1) := by decide +kernel
theorem dX7_taken_65 : decode cX7_taken 65 = .ok (.getfield 310, 3) := by decide +kernel
theorem dX7_taken_68 : decode cX7_taken 68 = .ok (.iaload, 1) := by decide +kernel
theorem dX7_taken_69 : decode cX7_taken 69 = .ok (.istore 4, 2) := by decide +kernel
theorem dX7_taken_71 : decode cX7_taken 71 = .ok (.iload 4, 2) := by decide +kernel
theorem dX7_taken_73 : decode cX7_taken 73 = .ok (.iload_n 2, 1) := by decide +kernel
theorem dX7_taken_74 : decode cX7_taken 74 = .ok (.invokestatic 316, 3) := by decide +kernel
theorem dX7_taken_77 : decode cX7_taken 77 = .ok (.ifCond .eq 8, 3) := by decide +kernel
theorem dX7_taken_80 : decode cX7_taken 80 = .ok (.iload 4, 2) := by decide +kernel
theorem dX7_taken_82 : decode cX7_taken 82 = .ok (.goto 5, 3) := by decide +kernel
theorem dX7_taken_85 : decode cX7_taken 85 = .ok (.bipush (-12), 2) := by decide +kernel
theorem dX7_taken_87 : decode cX7_taken 87 = .ok (.ireturn, 1) := by decide +kernel
theorem dX7_count_0 : decode cX7_count 0 = .ok (.iload_n 1, 1) := by decide +kernel
theorem dX7_count_1 : decode cX7_count 1 = .ok (.tableswitch 99 0 6 #[43, 51, 59, 67, 75, 83, 91], 43) := by decide +kernel
theorem dX7_count_44 : decode cX7_count 44 = .ok (.aload_n 0, 1) := by decide +kernel
theorem dX7_count_45 : decode cX7_count 45 = .ok (.getfield 21, 3) := by decide +kernel
theorem dX7_count_48 : decode cX7_count 48 = .ok (.getfield 218, 3) := by decide +kernel
theorem dX7_count_51 : decode cX7_count 51 = .ok (.ireturn, 1) := by decide +kernel
theorem dX7_count_52 : decode cX7_count 52 = .ok (.aload_n 0, 1) := by decide +kernel
theorem dX7_count_53 : decode cX7_count 53 = .ok (.getfield 21, 3) := by decide +kernel
theorem dX7_count_56 : decode cX7_count 56 = .ok (.getfield 319, 3) := by decide +kernel
theorem dX7_count_59 : decode cX7_count 59 = .ok (.ireturn, 1) := by decide +kernel
theorem dX7_count_60 : decode cX7_count 60 = .ok (.aload_n 0, 1) := by decide +kernel
theorem dX7_count_61 : decode cX7_count 61 = .ok (.getfield 21, 3) := by decide +kernel
theorem dX7_count_64 : decode cX7_count 64 = .ok (.invokevirtual 322, 3) := by decide +kernel
theorem dX7_count_67 : decode cX7_count 67 = .ok (.ireturn, 1) := by decide +kernel
theorem dX7_count_68 : decode cX7_count 68 = .ok (.aload_n 0, 1) := by decide +kernel
theorem dX7_count_69 : decode cX7_count 69 = .ok (.getfield 10, 3) := by decide +kernel
theorem dX7_count_72 : decode cX7_count 72 = .ok (.getfield 325, 3) := by decide +kernel
theorem dX7_count_75 : decode cX7_count 75 = .ok (.ireturn, 1) := by decide +kernel
theorem dX7_count_76 : decode cX7_count 76 = .ok (.aload_n 0, 1) := by decide +kernel
theorem dX7_count_77 : decode cX7_count 77 = .ok (.getfield 46, 3) := by decide +kernel
theorem dX7_count_80 : decode cX7_count 80 = .ok (.getfield 250, 3) := by decide +kernel
theorem dX7_count_83 : decode cX7_count 83 = .ok (.ireturn, 1) := by decide +kernel
theorem dX7_count_84 : decode cX7_count 84 = .ok (.aload_n 0, 1) := by decide +kernel
theorem dX7_count_85 : decode cX7_count 85 = .ok (.getfield 53, 3) := by decide +kernel
theorem dX7_count_88 : decode cX7_count 88 = .ok (.getfield 328, 3) := by decide +kernel
theorem dX7_count_91 : decode cX7_count 91 = .ok (.ireturn, 1) := by decide +kernel
theorem dX7_count_92 : decode cX7_count 92 = .ok (.aload_n 0, 1) := by decide +kernel
theorem dX7_count_93 : decode cX7_count 93 = .ok (.getfield 53, 3) := by decide +kernel
theorem dX7_count_96 : decode cX7_count 96 = .ok (.getfield 331, 3) := by decide +kernel
theorem dX7_count_99 : decode cX7_count 99 = .ok (.ireturn, 1) := by decide +kernel
theorem dX7_count_100 : decode cX7_count 100 = .ok (.iconst (-1), 1) := by decide +kernel
theorem dX7_count_101 : decode cX7_count 101 = .ok (.ireturn, 1) := by decide +kernel
theorem dX7_isYear_0 : decode cX7_isYear 0 = .ok (.iload_n 0, 1) := by decide +kernel
theorem dX7_isYear_1 : decode cX7_isYear 1 = .ok (.ifCond .lt 13, 3) := by decide +kernel
theorem dX7_isYear_4 : decode cX7_isYear 4 = .ok (.iload_n 0, 1) := by decide +kernel
theorem dX7_isYear_5 : decode cX7_isYear 5 = .ok (.bipush 100, 2) := by decide +kernel
theorem dX7_isYear_7 : decode cX7_isYear 7 = .ok (.if_icmp .ge 7, 3) := by decide +kernel
theorem dX7_isYear_10 : decode cX7_isYear 10 = .ok (.iconst 1, 1) := by decide +kernel
theorem dX7_isYear_11 : decode cX7_isYear 11 = .ok (.goto 4, 3) := by decide +kernel
theorem dX7_isYear_14 : decode cX7_isYear 14 = .ok (.iconst 0, 1) := by decide +kernel
theorem dX7_isYear_15 : decode cX7_isYear 15 = .ok (.ireturn, 1) := by decide +kernel
theorem dX7_isName_0 : decode cX7_isName 0 = .ok (.iload_n 0, 1) := by decide +kernel
theorem dX7_isName_1 : decode cX7_isName 1 = .ok (.ifCond .lt 13, 3) := by decide +kernel
theorem dX7_isName_4 : decode cX7_isName 4 = .ok (.iload_n 0, 1) := by decide +kernel
theorem dX7_isName_5 : decode cX7_isName 5 = .ok (.bipush 12, 2) := by decide +kernel
theorem dX7_isName_7 : decode cX7_isName 7 = .ok (.if_icmp .ge 7, 3) := by decide +kernel
theorem dX7_isName_10 : decode cX7_isName 10 = .ok (.iconst 1, 1) := by decide +kernel
theorem dX7_isName_11 : decode cX7_isName 11 = .ok (.goto 4, 3) := by decide +kernel
theorem dX7_isName_14 : decode cX7_isName 14 = .ok (.iconst 0, 1) := by decide +kernel
theorem dX7_isName_15 : decode cX7_isName 15 = .ok (.ireturn, 1) := by decide +kernel
theorem dX7_isWay_0 : decode cX7_isWay 0 = .ok (.iload_n 0, 1) := by decide +kernel
theorem dX7_isWay_1 : decode cX7_isWay 1 = .ok (.ifCond .lt 12, 3) := by decide +kernel
theorem dX7_isWay_4 : decode cX7_isWay 4 = .ok (.iload_n 0, 1) := by decide +kernel
theorem dX7_isWay_5 : decode cX7_isWay 5 = .ok (.iconst 3, 1) := by decide +kernel
theorem dX7_isWay_6 : decode cX7_isWay 6 = .ok (.if_icmp .ge 7, 3) := by decide +kernel
theorem dX7_isWay_9 : decode cX7_isWay 9 = .ok (.iconst 1, 1) := by decide +kernel
theorem dX7_isWay_10 : decode cX7_isWay 10 = .ok (.goto 4, 3) := by decide +kernel
theorem dX7_isWay_13 : decode cX7_isWay 13 = .ok (.iconst 0, 1) := by decide +kernel
theorem dX7_isWay_14 : decode cX7_isWay 14 = .ok (.ireturn, 1) := by decide +kernel
theorem dX7_isShelf_0 : decode cX7_isShelf 0 = .ok (.iload_n 0, 1) := by decide +kernel
theorem dX7_isShelf_1 : decode cX7_isShelf 1 = .ok (.ifCond .lt 13, 3) := by decide +kernel
theorem dX7_isShelf_4 : decode cX7_isShelf 4 = .ok (.iload_n 0, 1) := by decide +kernel
theorem dX7_isShelf_5 : decode cX7_isShelf 5 = .ok (.bipush 6, 2) := by decide +kernel
theorem dX7_isShelf_7 : decode cX7_isShelf 7 = .ok (.if_icmp .ge 7, 3) := by decide +kernel
theorem dX7_isShelf_10 : decode cX7_isShelf 10 = .ok (.iconst 1, 1) := by decide +kernel
theorem dX7_isShelf_11 : decode cX7_isShelf 11 = .ok (.goto 4, 3) := by decide +kernel
theorem dX7_isShelf_14 : decode cX7_isShelf 14 = .ok (.iconst 0, 1) := by decide +kernel
theorem dX7_isShelf_15 : decode cX7_isShelf 15 = .ok (.ireturn, 1) := by decide +kernel
theorem dX7_isKind_0 : decode cX7_isKind 0 = .ok (.iload_n 0, 1) := by decide +kernel
theorem dX7_isKind_1 : decode cX7_isKind 1 = .ok (.ifCond .lt 13, 3) := by decide +kernel
theorem dX7_isKind_4 : decode cX7_isKind 4 = .ok (.iload_n 0, 1) := by decide +kernel
theorem dX7_isKind_5 : decode cX7_isKind 5 = .ok (.bipush 8, 2) := by decide +kernel
theorem dX7_isKind_7 : decode cX7_isKind 7 = .ok (.if_icmp .ge 7, 3) := by decide +kernel
theorem dX7_isKind_10 : decode cX7_isKind 10 = .ok (.iconst 1, 1) := by decide +kernel
theorem dX7_isKind_11 : decode cX7_isKind 11 = .ok (.goto 4, 3) := by decide +kernel
theorem dX7_isKind_14 : decode cX7_isKind 14 = .ok (.iconst 0, 1) := by decide +kernel
theorem dX7_isKind_15 : decode cX7_isKind 15 = .ok (.ireturn, 1) := by decide +kernel
theorem dX7_mayLive_0 : decode cX7_mayLive 0 = .ok (.iload_n 0, 1) := by decide +kernel
theorem dX7_mayLive_1 : decode cX7_mayLive 1 = .ok (.invokestatic 158, 3) := by decide +kernel
theorem dX7_mayLive_4 : decode cX7_mayLive 4 = .ok (.ifCond .eq 18, 3) := by decide +kernel
theorem dX7_mayLive_7 : decode cX7_mayLive 7 = .ok (.iload_n 1, 1) := by decide +kernel
theorem dX7_mayLive_8 : decode cX7_mayLive 8 = .ok (.iload_n 0, 1) := by decide +kernel
theorem dX7_mayLive_9 : decode cX7_mayLive 9 = .ok (.if_icmp .le 13, 3) := by decide +kernel
theorem dX7_mayLive_12 : decode cX7_mayLive 12 = .ok (.iload_n 1, 1) := by decide +kernel
theorem dX7_mayLive_13 : decode cX7_mayLive 13 = .ok (.bipush 100, 2) := by decide +kernel
theorem dX7_mayLive_15 : decode cX7_mayLive 15 = .ok (.if_icmp .gt 7, 3) := by decide +kernel
theorem dX7_mayLive_18 : decode cX7_mayLive 18 = .ok (.iconst 1, 1) := by decide +kernel
theorem dX7_mayLive_19 : decode cX7_mayLive 19 = .ok (.goto 4, 3) := by decide +kernel
theorem dX7_mayLive_22 : decode cX7_mayLive 22 = .ok (.iconst 0, 1) := by decide +kernel
theorem dX7_mayLive_23 : decode cX7_mayLive 23 = .ok (.ireturn, 1) := by decide +kernel
theorem dX7_mayBeNamed_0 : decode cX7_mayBeNamed 0 = .ok (.iload_n 0, 1) := by decide +kernel
theorem dX7_mayBeNamed_1 : decode cX7_mayBeNamed 1 = .ok (.iconst (-1), 1) := by decide +kernel
theorem dX7_mayBeNamed_2 : decode cX7_mayBeNamed 2 = .ok (.if_icmp .eq 10, 3) := by decide +kernel
theorem dX7_mayBeNamed_5 : decode cX7_mayBeNamed 5 = .ok (.iload_n 0, 1) := by decide +kernel
theorem dX7_mayBeNamed_6 : decode cX7_mayBeNamed 6 = .ok (.invokestatic 118, 3) := by decide +kernel
theorem dX7_mayBeNamed_9 : decode cX7_mayBeNamed 9 = .ok (.ifCond .eq 7, 3) := by decide +kernel
theorem dX7_mayBeNamed_12 : decode cX7_mayBeNamed 12 = .ok (.iconst 1, 1) := by decide +kernel
theorem dX7_mayBeNamed_13 : decode cX7_mayBeNamed 13 = .ok (.goto 4, 3) := by decide +kernel
theorem dX7_mayBeNamed_16 : decode cX7_mayBeNamed 16 = .ok (.iconst 0, 1) := by decide +kernel
theorem dX7_mayBeNamed_17 : decode cX7_mayBeNamed 17 = .ok (.ireturn, 1) := by decide +kernel
theorem dX7_mayMend_0 : decode cX7_mayMend 0 = .ok (.iload_n 2, 1) := by decide +kernel
theorem dX7_mayMend_1 : decode cX7_mayMend 1 = .ok (.ifCond .ne 36, 3) := by decide +kernel
theorem dX7_mayMend_4 : decode cX7_mayMend 4 = .ok (.aload_n 0, 1) := by decide +kernel
theorem dX7_mayMend_5 : decode cX7_mayMend 5 = .ok (.getfield 21, 3) := by decide +kernel
theorem dX7_mayMend_8 : decode cX7_mayMend 8 = .ok (.iload_n 1, 1) := by decide +kernel
theorem dX7_mayMend_9 : decode cX7_mayMend 9 = .ok (.invokevirtual 108, 3) := by decide +kernel
theorem dX7_mayMend_12 : decode cX7_mayMend 12 = .ok (.ifCond .eq 23, 3) := by decide +kernel
theorem dX7_mayMend_15 : decode cX7_mayMend 15 = .ok (.aload_n 0, 1) := by decide +kernel
theorem dX7_mayMend_16 : decode cX7_mayMend 16 = .ok (.getfield 21, 3) := by decide +kernel
theorem dX7_mayMend_19 : decode cX7_mayMend 19 = .ok (.getfield 224, 3) := by decide +kernel
theorem dX7_mayMend_22 : decode cX7_mayMend 22 = .ok (.iload_n 1, 1) := by decide +kernel
theorem dX7_mayMend_23 : decode cX7_mayMend 23 = .ok (.iaload, 1) := by decide +kernel
theorem dX7_mayMend_24 : decode cX7_mayMend 24 = .ok (.iload_n 3, 1) := by decide +kernel
theorem dX7_mayMend_25 : decode cX7_mayMend 25 = .ok (.invokestatic 72, 3) := by decide +kernel
theorem dX7_mayMend_28 : decode cX7_mayMend 28 = .ok (.ifCond .eq 7, 3) := by decide +kernel
theorem dX7_mayMend_31 : decode cX7_mayMend 31 = .ok (.iconst 1, 1) := by decide +kernel
theorem dX7_mayMend_32 : decode cX7_mayMend 32 = .ok (.goto 4, 3) := by decide +kernel
theorem dX7_mayMend_35 : decode cX7_mayMend 35 = .ok (.iconst 0, 1) := by decide +kernel
theorem dX7_mayMend_36 : decode cX7_mayMend 36 = .ok (.ireturn, 1) := by decide +kernel
theorem dX7_mayMend_37 : decode cX7_mayMend 37 = .ok (.iload_n 2, 1) := by decide +kernel
theorem dX7_mayMend_38 : decode cX7_mayMend 38 = .ok (.iconst 1, 1) := by decide +kernel
theorem dX7_mayMend_39 : decode cX7_mayMend 39 = .ok (.if_icmp .ne 24, 3) := by decide +kernel
theorem dX7_mayMend_42 : decode cX7_mayMend 42 = .ok (.iload_n 1, 1) := by decide +kernel
theorem dX7_mayMend_43 : decode cX7_mayMend 43 = .ok (.invokestatic 118, 3) := by decide +kernel
theorem dX7_mayMend_46 : decode cX7_mayMend 46 = .ok (.ifCond .eq 17, 3) := by decide +kernel
theorem dX7_mayMend_49 : decode cX7_mayMend 49 = .ok (.iload_n 3, 1) := by decide +kernel
theorem dX7_mayMend_50 : decode cX7_mayMend 50 = .ok (.ifCond .lt 13, 3) := by decide +kernel
theorem dX7_mayMend_53 : decode cX7_mayMend 53 = .ok (.iload_n 3, 1) := by decide +kernel
theorem dX7_mayMend_54 : decode cX7_mayMend 54 = .ok (.bipush 9, 2) := by decide +kernel
theorem dX7_mayMend_56 : decode cX7_mayMend 56 = .ok (.if_icmp .gt 7, 3) := by decide +kernel
theorem dX7_mayMend_59 : decode cX7_mayMend 59 = .ok (.iconst 1, 1) := by decide +kernel
theorem dX7_mayMend_60 : decode cX7_mayMend 60 = .ok (.goto 4, 3) := by decide +kernel
theorem dX7_mayMend_63 : decode cX7_mayMend 63 = .ok (.iconst 0, 1) := by decide +kernel
theorem dX7_mayMend_64 : decode cX7_mayMend 64 = .ok (.ireturn, 1) := by decide +kernel
theorem dX7_comesFrom_0 : decode cX7_comesFrom 0 = .ok (.iload_n 2, 1) := by decide +kernel
theorem dX7_comesFrom_1 : decode cX7_comesFrom 1 = .ok (.ifCond .lt 17, 3) := by decide +kernel
theorem dX7_comesFrom_4 : decode cX7_comesFrom 4 = .ok (.iload_n 2, 1) := by decide +kernel
theorem dX7_comesFrom_5 : decode cX7_comesFrom 5 = .ok (.aload_n 1, 1) := by decide +kernel
theorem dX7_comesFrom_6 : decode cX7_comesFrom 6 = .ok (.getfield 334, 3) := by decide +kernel
theorem dX7_comesFrom_9 : decode cX7_comesFrom 9 = .ok (.iconst 3, 1) := by decide +kernel
theorem dX7_comesFrom_10 : decode cX7_comesFrom 10 = .ok (.isub, 1) := by decide +kernel
theorem dX7_comesFrom_11 : decode cX7_comesFrom 11 = .ok (.iconst 3, 1) := by decide +kernel
theorem dX7_comesFrom_12 : decode cX7_comesFrom 12 = .ok (.iload_n 3, 1) := by decide +kernel
theorem dX7_comesFrom_13 : decode cX7_comesFrom 13 = .ok (.imul, 1) := by decide +kernel
theorem dX7_comesFrom_14 : decode cX7_comesFrom 14 = .ok (.isub, 1) := by decide +kernel
theorem dX7_comesFrom_15 : decode cX7_comesFrom 15 = .ok (.if_icmp .le 5, 3) := by decide +kernel
theorem dX7_comesFrom_18 : decode cX7_comesFrom 18 = .ok (.iconst 0, 1) := by decide +kernel
theorem dX7_comesFrom_19 : decode cX7_comesFrom 19 = .ok (.ireturn, 1) := by decide +kernel
theorem dX7_comesFrom_20 : decode cX7_comesFrom 20 = .ok (.iload_n 2, 1) := by decide +kernel
theorem dX7_comesFrom_21 : decode cX7_comesFrom 21 = .ok (.iconst 3, 1) := by decide +kernel
theorem dX7_comesFrom_22 : decode cX7_comesFrom 22 = .ok (.iload_n 3, 1) := by decide +kernel
theorem dX7_comesFrom_23 : decode cX7_comesFrom 23 = .ok (.imul, 1) := by decide +kernel
theorem dX7_comesFrom_24 : decode cX7_comesFrom 24 = .ok (.iadd, 1) := by decide +kernel
theorem dX7_comesFrom_25 : decode cX7_comesFrom 25 = .ok (.istore 4, 2) := by decide +kernel
theorem dX7_comesFrom_27 : decode cX7_comesFrom 27 = .ok (.aload_n 1, 1) := by decide +kernel
theorem dX7_comesFrom_28 : decode cX7_comesFrom 28 = .ok (.getfield 299, 3) := by decide +kernel
theorem dX7_comesFrom_31 : decode cX7_comesFrom 31 = .ok (.iload 4, 2) := by decide +kernel
theorem dX7_comesFrom_33 : decode cX7_comesFrom 33 = .ok (.laload, 1) := by decide +kernel
theorem dX7_comesFrom_34 : decode cX7_comesFrom 34 = .ok (.l2i, 1) := by decide +kernel
theorem dX7_comesFrom_35 : decode cX7_comesFrom 35 = .ok (.istore 5, 2) := by decide +kernel
theorem dX7_comesFrom_37 : decode cX7_comesFrom 37 = .ok (.aload_n 1, 1) := by decide +kernel
theorem dX7_comesFrom_38 : decode cX7_comesFrom 38 = .ok (.getfield 299, 3) := by decide +kernel
theorem dX7_comesFrom_41 : decode cX7_comesFrom 41 = .ok (.iload 4, 2) := by decide +kernel
theorem dX7_comesFrom_43 : decode cX7_comesFrom 43 = .ok (.iconst 1, 1) := by decide +kernel
theorem dX7_comesFrom_44 : decode cX7_comesFrom 44 = .ok (.iadd, 1) := by decide +kernel
theorem dX7_comesFrom_45 : decode cX7_comesFrom 45 = .ok (.laload, 1) := by decide +kernel
theorem dX7_comesFrom_46 : decode cX7_comesFrom 46 = .ok (.l2i, 1) := by decide +kernel
theorem dX7_comesFrom_47 : decode cX7_comesFrom 47 = .ok (.istore 6, 2) := by decide +kernel
theorem dX7_comesFrom_49 : decode cX7_comesFrom 49 = .ok (.aload_n 1, 1) := by decide +kernel
theorem dX7_comesFrom_50 : decode cX7_comesFrom 50 = .ok (.getfield 299, 3) := by decide +kernel
theorem dX7_comesFrom_53 : decode cX7_comesFrom 53 = .ok (.iload 4, 2) := by decide +kernel
theorem dX7_comesFrom_55 : decode cX7_comesFrom 55 = .ok (.iconst 2, 1) := by decide +kernel
theorem dX7_comesFrom_56 : decode cX7_comesFrom 56 = .ok (.iadd, 1) := by decide +kernel
theorem dX7_comesFrom_57 : decode cX7_comesFrom 57 = .ok (.laload, 1) := by decide +kernel
theorem dX7_comesFrom_58 : decode cX7_comesFrom 58 = .ok (.l2i, 1) := by decide +kernel
theorem dX7_comesFrom_59 : decode cX7_comesFrom 59 = .ok (.istore 7, 2) := by decide +kernel
theorem dX7_comesFrom_61 : decode cX7_comesFrom 61 = .ok (.iload 5, 2) := by decide +kernel
theorem dX7_comesFrom_63 : decode cX7_comesFrom 63 = .ok (.iload 6, 2) := by decide +kernel
theorem dX7_comesFrom_65 : decode cX7_comesFrom 65 = .ok (.invokestatic 72, 3) := by decide +kernel
theorem dX7_comesFrom_68 : decode cX7_comesFrom 68 = .ok (.ifCond .eq 33, 3) := by decide +kernel
theorem dX7_comesFrom_71 : decode cX7_comesFrom 71 = .ok (.iload 7, 2) := by decide +kernel
theorem dX7_comesFrom_73 : decode cX7_comesFrom 73 = .ok (.invokestatic 111, 3) := by decide +kernel
theorem dX7_comesFrom_76 : decode cX7_comesFrom 76 = .ok (.ifCond .eq 25, 3) := by decide +kernel
theorem dX7_comesFrom_79 : decode cX7_comesFrom 79 = .ok (.aload_n 0, 1) := by decide +kernel
theorem dX7_comesFrom_80 : decode cX7_comesFrom 80 = .ok (.getfield 21, 3) := by decide +kernel
theorem dX7_comesFrom_83 : decode cX7_comesFrom 83 = .ok (.iload 5, 2) := by decide +kernel
theorem dX7_comesFrom_85 : decode cX7_comesFrom 85 = .ok (.iload 6, 2) := by decide +kernel
theorem dX7_comesFrom_87 : decode cX7_comesFrom 87 = .ok (.iload 7, 2) := by decide +kernel
theorem dX7_comesFrom_89 : decode cX7_comesFrom 89 = .ok (.invokevirtual 76, 3) := by decide +kernel
theorem dX7_comesFrom_92 : decode cX7_comesFrom 92 = .ok (.bipush (-3), 2) := by decide +kernel
theorem dX7_comesFrom_94 : decode cX7_comesFrom 94 = .ok (.if_icmp .eq 7, 3) := by decide +kernel
theorem dX7_comesFrom_97 : decode cX7_comesFrom 97 = .ok (.iconst 1, 1) := by decide +kernel
theorem dX7_comesFrom_98 : decode cX7_comesFrom 98 = .ok (.goto 4, 3) := by decide +kernel
theorem dX7_comesFrom_101 : decode cX7_comesFrom 101 = .ok (.iconst 0, 1) := by decide +kernel
theorem dX7_comesFrom_102 : decode cX7_comesFrom 102 = .ok (.ireturn, 1) := by decide +kernel
theorem dX7_ofPerson_0 : decode cX7_ofPerson 0 = .ok (.iload_n 2, 1) := by decide +kernel
theorem dX7_ofPerson_1 : decode cX7_ofPerson 1 = .ok (.tableswitch 70 0 3 #[31, 41, 51, 61], 31) := by decide +kernel
theorem dX7_ofPerson_32 : decode cX7_ofPerson 32 = .ok (.aload_n 0, 1) := by decide +kernel
theorem dX7_ofPerson_33 : decode cX7_ofPerson 33 = .ok (.getfield 21, 3) := by decide +kernel
theorem dX7_ofPerson_36 : decode cX7_ofPerson 36 = .ok (.getfield 224, 3) := by decide +kernel
theorem dX7_ofPerson_39 : decode cX7_ofPerson 39 = .ok (.iload_n 1, 1) := by decide +kernel
theorem dX7_ofPerson_40 : decode cX7_ofPerson 40 = .ok (.iaload, 1) := by decide +kernel
theorem dX7_ofPerson_41 : decode cX7_ofPerson 41 = .ok (.ireturn, 1) := by decide +kernel
theorem dX7_ofPerson_42 : decode cX7_ofPerson 42 = .ok (.aload_n 0, 1) := by decide +kernel
theorem dX7_ofPerson_43 : decode cX7_ofPerson 43 = .ok (.getfield 21, 3) := by decide +kernel
theorem dX7_ofPerson_46 : decode cX7_ofPerson 46 = .ok (.getfield 127, 3) := by decide +kernel
theorem dX7_ofPerson_49 : decode cX7_ofPerson 49 = .ok (.iload_n 1, 1) := by decide +kernel
theorem dX7_ofPerson_50 : decode cX7_ofPerson 50 = .ok (.iaload, 1) := by decide +kernel
theorem dX7_ofPerson_51 : decode cX7_ofPerson 51 = .ok (.ireturn, 1) := by decide +kernel
theorem dX7_ofPerson_52 : decode cX7_ofPerson 52 = .ok (.aload_n 0, 1) := by decide +kernel
theorem dX7_ofPerson_53 : decode cX7_ofPerson 53 = .ok (.getfield 21, 3) := by decide +kernel
theorem dX7_ofPerson_56 : decode cX7_ofPerson 56 = .ok (.getfield 115, 3) := by decide +kernel
theorem dX7_ofPerson_59 : decode cX7_ofPerson 59 = .ok (.iload_n 1, 1) := by decide +kernel
theorem dX7_ofPerson_60 : decode cX7_ofPerson 60 = .ok (.iaload, 1) := by decide +kernel
theorem dX7_ofPerson_61 : decode cX7_ofPerson 61 = .ok (.ireturn, 1) := by decide +kernel
theorem dX7_ofPerson_62 : decode cX7_ofPerson 62 = .ok (.aload_n 0, 1) := by decide +kernel
theorem dX7_ofPerson_63 : decode cX7_ofPerson 63 = .ok (.getfield 21, 3) := by decide +kernel
theorem dX7_ofPerson_66 : decode cX7_ofPerson 66 = .ok (.iload_n 1, 1) := by decide +kernel
theorem dX7_ofPerson_67 : decode cX7_ofPerson 67 = .ok (.invokevirtual 215, 3) := by decide +kernel
theorem dX7_ofPerson_70 : decode cX7_ofPerson 70 = .ok (.ireturn, 1) := by decide +kernel
theorem dX7_ofPerson_71 : decode cX7_ofPerson 71 = .ok (.ldc 114, 2) := by decide +kernel
theorem dX7_ofPerson_73 : decode cX7_ofPerson 73 = .ok (.ireturn, 1) := by decide +kernel
theorem dX7_ofName_0 : decode cX7_ofName 0 = .ok (.iload_n 2, 1) := by decide +kernel
theorem dX7_ofName_1 : decode cX7_ofName 1 = .ok (.tableswitch 56 10 12 #[27, 37, 47], 27) := by decide +kernel
theorem dX7_ofName_28 : decode cX7_ofName 28 = .ok (.aload_n 0, 1) := by decide +kernel
theorem dX7_ofName_29 : decode cX7_ofName 29 = .ok (.getfield 21, 3) := by decide +kernel
theorem dX7_ofName_32 : decode cX7_ofName 32 = .ok (.getfield 130, 3) := by decide +kernel
theorem dX7_ofName_35 : decode cX7_ofName 35 = .ok (.iload_n 1, 1) := by decide +kernel
theorem dX7_ofName_36 : decode cX7_ofName 36 = .ok (.iaload, 1) := by decide +kernel
theorem dX7_ofName_37 : decode cX7_ofName 37 = .ok (.ireturn, 1) := by decide +kernel
theorem dX7_ofName_38 : decode cX7_ofName 38 = .ok (.aload_n 0, 1) := by decide +kernel
theorem dX7_ofName_39 : decode cX7_ofName 39 = .ok (.getfield 21, 3) := by decide +kernel
theorem dX7_ofName_42 : decode cX7_ofName 42 = .ok (.getfield 121, 3) := by decide +kernel
theorem dX7_ofName_45 : decode cX7_ofName 45 = .ok (.iload_n 1, 1) := by decide +kernel
theorem dX7_ofName_46 : decode cX7_ofName 46 = .ok (.iaload, 1) := by decide +kernel
theorem dX7_ofName_47 : decode cX7_ofName 47 = .ok (.ireturn, 1) := by decide +kernel
theorem dX7_ofName_48 : decode cX7_ofName 48 = .ok (.aload_n 0, 1) := by decide +kernel
theorem dX7_ofName_49 : decode cX7_ofName 49 = .ok (.getfield 21, 3) := by decide +kernel
theorem dX7_ofName_52 : decode cX7_ofName 52 = .ok (.iload_n 1, 1) := by decide +kernel
theorem dX7_ofName_53 : decode cX7_ofName 53 = .ok (.invokevirtual 337, 3) := by decide +kernel
theorem dX7_ofName_56 : decode cX7_ofName 56 = .ok (.ireturn, 1) := by decide +kernel
theorem dX7_ofName_57 : decode cX7_ofName 57 = .ok (.ldc 114, 2) := by decide +kernel
theorem dX7_ofName_59 : decode cX7_ofName 59 = .ok (.ireturn, 1) := by decide +kernel
theorem dX7_ofMeeting_0 : decode cX7_ofMeeting 0 = .ok (.iload_n 2, 1) := by decide +kernel
theorem dX7_ofMeeting_1 : decode cX7_ofMeeting 1 = .ok (.tableswitch 77 20 22 #[27, 50, 60], 27) := by decide +kernel
theorem dX7_ofMeeting_28 : decode cX7_ofMeeting 28 = .ok (.bipush 100, 2) := by decide +kernel
theorem dX7_ofMeeting_30 : decode cX7_ofMeeting 30 = .ok (.aload_n 0, 1) := by decide +kernel
theorem dX7_ofMeeting_31 : decode cX7_ofMeeting 31 = .ok (.getfield 21, 3) := by decide +kernel
theorem dX7_ofMeeting_34 : decode cX7_ofMeeting 34 = .ok (.getfield 340, 3) := by decide +kernel
theorem dX7_ofMeeting_37 : decode cX7_ofMeeting 37 = .ok (.iload_n 1, 1) := by decide +kernel
theorem dX7_ofMeeting_38 : decode cX7_ofMeeting 38 = .ok (.iaload, 1) := by decide +kernel
theorem dX7_ofMeeting_39 : decode cX7_ofMeeting 39 = .ok (.imul, 1) := by decide +kernel
theorem dX7_ofMeeting_40 : decode cX7_ofMeeting 40 = .ok (.aload_n 0, 1) := by decide +kernel
theorem dX7_ofMeeting_41 : decode cX7_ofMeeting 41 = .ok (.getfield 21, 3) := by decide +kernel
theorem dX7_ofMeeting_44 : decode cX7_ofMeeting 44 = .ok (.getfield 343, 3) := by decide +kernel
theorem dX7_ofMeeting_47 : decode cX7_ofMeeting 47 = .ok (.iload_n 1, 1) := by decide +kernel
theorem dX7_ofMeeting_48 : decode cX7_ofMeeting 48 = .ok (.iaload, 1) := by decide +kernel
theorem dX7_ofMeeting_49 : decode cX7_ofMeeting 49 = .ok (.iadd, 1) := by decide +kernel
theorem dX7_ofMeeting_50 : decode cX7_ofMeeting 50 = .ok (.ireturn, 1) := by decide +kernel
theorem dX7_ofMeeting_51 : decode cX7_ofMeeting 51 = .ok (.aload_n 0, 1) := by decide +kernel
theorem dX7_ofMeeting_52 : decode cX7_ofMeeting 52 = .ok (.getfield 21, 3) := by decide +kernel
theorem dX7_ofMeeting_55 : decode cX7_ofMeeting 55 = .ok (.getfield 346, 3) := by decide +kernel
theorem dX7_ofMeeting_58 : decode cX7_ofMeeting 58 = .ok (.iload_n 1, 1) := by decide +kernel
theorem dX7_ofMeeting_59 : decode cX7_ofMeeting 59 = .ok (.iaload, 1) := by decide +kernel
theorem dX7_ofMeeting_60 : decode cX7_ofMeeting 60 = .ok (.ireturn, 1) := by decide +kernel
theorem dX7_ofMeeting_61 : decode cX7_ofMeeting 61 = .ok (.aload_n 0, 1) := by decide +kernel
theorem dX7_ofMeeting_62 : decode cX7_ofMeeting 62 = .ok (.getfield 21, 3) := by decide +kernel
theorem dX7_ofMeeting_65 : decode cX7_ofMeeting 65 = .ok (.iload_n 1, 1) := by decide +kernel
theorem dX7_ofMeeting_66 : decode cX7_ofMeeting 66 = .ok (.invokevirtual 349, 3) := by decide +kernel
theorem dX7_ofMeeting_69 : decode cX7_ofMeeting 69 = .ok (.ifCond .eq 7, 3) := by decide +kernel
theorem dX7_ofMeeting_72 : decode cX7_ofMeeting 72 = .ok (.iconst 1, 1) := by decide +kernel
theorem dX7_ofMeeting_73 : decode cX7_ofMeeting 73 = .ok (.goto 4, 3) := by decide +kernel
theorem dX7_ofMeeting_76 : decode cX7_ofMeeting 76 = .ok (.iconst 0, 1) := by decide +kernel
theorem dX7_ofMeeting_77 : decode cX7_ofMeeting 77 = .ok (.ireturn, 1) := by decide +kernel
theorem dX7_ofMeeting_78 : decode cX7_ofMeeting 78 = .ok (.ldc 114, 2) := by decide +kernel
theorem dX7_ofMeeting_80 : decode cX7_ofMeeting 80 = .ok (.ireturn, 1) := by decide +kernel
theorem dX7_heldTill_0 : decode cX7_heldTill 0 = .ok (.iload_n 2, 1) := by decide +kernel
theorem dX7_heldTill_1 : decode cX7_heldTill 1 = .ok (.istore_n 3, 1) := by decide +kernel
theorem dX7_heldTill_2 : decode cX7_heldTill 2 = .ok (.iload_n 3, 1) := by decide +kernel
theorem dX7_heldTill_3 : decode cX7_heldTill 3 = .ok (.bipush 100, 2) := by decide +kernel
theorem dX7_heldTill_5 : decode cX7_heldTill 5 = .ok (.if_icmp .ge 26, 3) := by decide +kernel
theorem dX7_heldTill_8 : decode cX7_heldTill 8 = .ok (.aload_n 0, 1) := by decide +kernel
theorem dX7_heldTill_9 : decode cX7_heldTill 9 = .ok (.getfield 21, 3) := by decide +kernel
theorem dX7_heldTill_12 : decode cX7_heldTill 12 = .ok (.iload_n 3, 1) := by decide +kernel
theorem dX7_heldTill_13 : decode cX7_heldTill 13 = .ok (.invokevirtual 168, 3) := by decide +kernel
theorem dX7_heldTill_16 : decode cX7_heldTill 16 = .ok (.iload_n 1, 1) := by decide +kernel
theorem dX7_heldTill_17 : decode cX7_heldTill 17 = .ok (.ishr, 1) := by decide +kernel
theorem dX7_heldTill_18 : decode cX7_heldTill 18 = .ok (.iconst 1, 1) := by decide +kernel
theorem dX7_heldTill_19 : decode cX7_heldTill 19 = .ok (.iand, 1) := by decide +kernel
theorem dX7_heldTill_20 : decode cX7_heldTill 20 = .ok (.ifCond .ne 5, 3) := by decide +kernel
theorem dX7_heldTill_23 : decode cX7_heldTill 23 = .ok (.iload_n 3, 1) := by decide +kernel
theorem dX7_heldTill_24 : decode cX7_heldTill 24 = .ok (.ireturn, 1) := by decide +kernel
theorem dX7_heldTill_25 : decode cX7_heldTill 25 = .ok (.iinc 3 1, 3) := by decide +kernel
theorem dX7_heldTill_28 : decode cX7_heldTill 28 = .ok (.goto (-26), 3) := by decide +kernel
theorem dX7_heldTill_31 : decode cX7_heldTill 31 = .ok (.bipush (-2), 2) := by decide +kernel
theorem dX7_heldTill_33 : decode cX7_heldTill 33 = .ok (.ireturn, 1) := by decide +kernel
theorem dX7_setChanged_0 : decode cX7_setChanged 0 = .ok (.aload_n 0, 1) := by decide +kernel
theorem dX7_setChanged_1 : decode cX7_setChanged 1 = .ok (.getfield 46, 3) := by decide +kernel
theorem dX7_setChanged_4 : decode cX7_setChanged 4 = .ok (.getfield 352, 3) := by decide +kernel
theorem dX7_setChanged_7 : decode cX7_setChanged 7 = .ok (.aload_n 0, 1) := by decide +kernel
theorem dX7_setChanged_8 : decode cX7_setChanged 8 = .ok (.getfield 46, 3) := by decide +kernel
theorem dX7_setChanged_11 : decode cX7_setChanged 11 = .ok (.getfield 250, 3) := by decide +kernel
theorem dX7_setChanged_14 : decode cX7_setChanged 14 = .ok (.iaload, 1) := by decide +kernel
theorem dX7_setChanged_15 : decode cX7_setChanged 15 = .ok (.istore_n 2, 1) := by decide +kernel
theorem dX7_setChanged_16 : decode cX7_setChanged 16 = .ok (.aload_n 0, 1) := by decide +kernel
theorem dX7_setChanged_17 : decode cX7_setChanged 17 = .ok (.getfield 46, 3) := by decide +kernel
theorem dX7_setChanged_20 : decode cX7_setChanged 20 = .ok (.getfield 355, 3) := by decide +kernel
theorem dX7_setChanged_23 : decode cX7_setChanged 23 = .ok (.aload_n 0, 1) := by decide +kernel
theorem dX7_setChanged_24 : decode cX7_setChanged 24 = .ok (.getfield 46, 3) := by decide +kernel
theorem dX7_setChanged_27 : decode cX7_setChanged 27 = .ok (.getfield 250, 3) := by decide +kernel
theorem dX7_setChanged_30 : decode cX7_setChanged 30 = .ok (.iaload, 1) := by decide +kernel
theorem dX7_setChanged_31 : decode cX7_setChanged 31 = .ok (.ifCond .ne 16, 3) := by decide +kernel
theorem dX7_setChanged_34 : decode cX7_setChanged 34 = .ok (.aload_n 0, 1) := by decide +kernel
theorem dX7_setChanged_35 : decode cX7_setChanged 35 = .ok (.getfield 21, 3) := by decide +kernel
theorem dX7_setChanged_38 : decode cX7_setChanged 38 = .ok (.getfield 127, 3) := by decide +kernel
theorem dX7_setChanged_41 : decode cX7_setChanged 41 = .ok (.iload_n 2, 1) := by decide +kernel
theorem dX7_setChanged_42 : decode cX7_setChanged 42 = .ok (.iload_n 1, 1) := by decide +kernel
theorem dX7_setChanged_43 : decode cX7_setChanged 43 = .ok (.iastore, 1) := by decide +kernel
theorem dX7_setChanged_44 : decode cX7_setChanged 44 = .ok (.goto 13, 3) := by decide +kernel
theorem dX7_setChanged_47 : decode cX7_setChanged 47 = .ok (.aload_n 0, 1) := by decide +kernel
theorem dX7_setChanged_48 : decode cX7_setChanged 48 = .ok (.getfield 21, 3) := by decide +kernel
theorem dX7_setChanged_51 : decode cX7_setChanged 51 = .ok (.getfield 130, 3) := by decide +kernel
theorem dX7_setChanged_54 : decode cX7_setChanged 54 = .ok (.iload_n 2, 1) := by decide +kernel
theorem dX7_setChanged_55 : decode cX7_setChanged 55 = .ok (.iload_n 1, 1) := by decide +kernel
theorem dX7_setChanged_56 : decode cX7_setChanged 56 = .ok (.iastore, 1) := by decide +kernel
theorem dX7_setChanged_57 : decode cX7_setChanged 57 = .ok (.return_, 1) := by decide +kernel
theorem dX7_refusalOf_0 : decode cX7_refusalOf 0 = .ok (.iload_n 1, 1) := by decide +kernel
theorem dX7_refusalOf_1 : decode cX7_refusalOf 1 = .ok (.invokestatic 80, 3) := by decide +kernel
theorem dX7_refusalOf_4 : decode cX7_refusalOf 4 = .ok (.ifCond .ne 5, 3) := by decide +kernel
theorem dX7_refusalOf_7 : decode cX7_refusalOf 7 = .ok (.iconst (-1), 1) := by decide +kernel
theorem dX7_refusalOf_8 : decode cX7_refusalOf 8 = .ok (.ireturn, 1) := by decide +kernel
theorem dX7_refusalOf_9 : decode cX7_refusalOf 9 = .ok (.aload_n 0, 1) := by decide +kernel
theorem dX7_refusalOf_10 : decode cX7_refusalOf 10 = .ok (.getfield 59, 3) := by decide +kernel
theorem dX7_refusalOf_13 : decode cX7_refusalOf 13 = .ok (.iload_n 1, 1) := by decide +kernel
theorem dX7_refusalOf_14 : decode cX7_refusalOf 14 = .ok (.aaload, 1) := by decide +kernel
theorem dX7_refusalOf_15 : decode cX7_refusalOf 15 = .ok (.invokevirtual 84, 3) := by decide +kernel
theorem dX7_refusalOf_18 : decode cX7_refusalOf 18 = .ok (.ifCond .eq 6, 3) := by decide +kernel
theorem dX7_refusalOf_21 : decode cX7_refusalOf 21 = .ok (.bipush (-11), 2) := by decide +kernel
theorem dX7_refusalOf_23 : decode cX7_refusalOf 23 = .ok (.ireturn, 1) := by decide +kernel
theorem dX7_refusalOf_24 : decode cX7_refusalOf 24 = .ok (.aload_n 0, 1) := by decide +kernel
theorem dX7_refusalOf_25 : decode cX7_refusalOf 25 = .ok (.getfield 59, 3) := by decide +kernel
theorem dX7_refusalOf_28 : decode cX7_refusalOf 28 = .ok (.iload_n 1, 1) := by decide +kernel
theorem dX7_refusalOf_29 : decode cX7_refusalOf 29 = .ok (.aaload, 1) := by decide +kernel
theorem dX7_refusalOf_30 : decode cX7_refusalOf 30 = .ok (.invokevirtual 88, 3) := by decide +kernel
theorem dX7_refusalOf_33 : decode cX7_refusalOf 33 = .ok (.ifCond .ne 6, 3) := by decide +kernel
theorem dX7_refusalOf_36 : decode cX7_refusalOf 36 = .ok (.bipush (-12), 2) := by decide +kernel
theorem dX7_refusalOf_38 : decode cX7_refusalOf 38 = .ok (.ireturn, 1) := by decide +kernel
theorem dX7_refusalOf_39 : decode cX7_refusalOf 39 = .ok (.aload_n 0, 1) := by decide +kernel
theorem dX7_refusalOf_40 : decode cX7_refusalOf 40 = .ok (.getfield 59, 3) := by decide +kernel
theorem dX7_refusalOf_43 : decode cX7_refusalOf 43 = .ok (.iload_n 1, 1) := by decide +kernel
theorem dX7_refusalOf_44 : decode cX7_refusalOf 44 = .ok (.aaload, 1) := by decide +kernel
theorem dX7_refusalOf_45 : decode cX7_refusalOf 45 = .ok (.iload_n 2, 1) := by decide +kernel
theorem dX7_refusalOf_46 : decode cX7_refusalOf 46 = .ok (.iconst 1, 1) := by decide +kernel
theorem dX7_refusalOf_47 : decode cX7_refusalOf 47 = .ok (.invokevirtual 307, 3) := by decide +kernel
theorem dX7_refusalOf_50 : decode cX7_refusalOf 50 = .ok (.ifCond .eq 7, 3) := by decide +kernel
theorem dX7_refusalOf_53 : decode cX7_refusalOf 53 = .ok (.iconst 0, 1) := by decide +kernel
theorem dX7_refusalOf_54 : decode cX7_refusalOf 54 = .ok (.goto 5, 3) := by decide +kernel
theorem dX7_refusalOf_57 : decode cX7_refusalOf 57 = .ok (.bipush (-13), 2) := by decide +kernel
theorem dX7_refusalOf_59 : decode cX7_refusalOf 59 = .ok (.ireturn, 1) := by decide +kernel
theorem dJ11_isValidCodePoint_9a6ad_0 : decode cJ11_isValidCodePoint_9a6ad 0 = .ok (.iload_n 0, 1) := by decide +kernel
theorem dJ11_isValidCodePoint_9a6ad_1 : decode cJ11_isValidCodePoint_9a6ad 1 = .ok (.bipush 16, 2) := by decide +kernel
theorem dJ11_isValidCodePoint_9a6ad_3 : decode cJ11_isValidCodePoint_9a6ad 3 = .ok (.iushr, 1) := by decide +kernel
theorem dJ11_isValidCodePoint_9a6ad_4 : decode cJ11_isValidCodePoint_9a6ad 4 = .ok (.istore_n 1, 1) := by decide +kernel
theorem dJ11_isValidCodePoint_9a6ad_5 : decode cJ11_isValidCodePoint_9a6ad 5 = .ok (.iload_n 1, 1) := by decide +kernel
theorem dJ11_isValidCodePoint_9a6ad_6 : decode cJ11_isValidCodePoint_9a6ad 6 = .ok (.bipush 17, 2) := by decide +kernel
theorem dJ11_isValidCodePoint_9a6ad_8 : decode cJ11_isValidCodePoint_9a6ad 8 = .ok (.if_icmp .ge 7, 3) := by decide +kernel
theorem dJ11_isValidCodePoint_9a6ad_11 : decode cJ11_isValidCodePoint_9a6ad 11 = .ok (.iconst 1, 1) := by decide +kernel
theorem dJ11_isValidCodePoint_9a6ad_12 : decode cJ11_isValidCodePoint_9a6ad 12 = .ok (.goto 4, 3) := by decide +kernel
theorem dJ11_isValidCodePoint_9a6ad_15 : decode cJ11_isValidCodePoint_9a6ad 15 = .ok (.iconst 0, 1) := by decide +kernel
theorem dJ11_isValidCodePoint_9a6ad_16 : decode cJ11_isValidCodePoint_9a6ad 16 = .ok (.ireturn, 1) := by decide +kernel
theorem dJ11_highSurrogate_5068e_0 : decode cJ11_highSurrogate_5068e 0 = .ok (.iload_n 0, 1) := by decide +kernel
theorem dJ11_highSurrogate_5068e_1 : decode cJ11_highSurrogate_5068e 1 = .ok (.bipush 10, 2) := by decide +kernel
theorem dJ11_highSurrogate_5068e_3 : decode cJ11_highSurrogate_5068e 3 = .ok (.iushr, 1) := by decide +kernel
theorem dJ11_highSurrogate_5068e_4 : decode cJ11_highSurrogate_5068e 4 = .ok (.ldc 110, 2) := by decide +kernel
theorem dJ11_highSurrogate_5068e_6 : decode cJ11_highSurrogate_5068e 6 = .ok (.iadd, 1) := by decide +kernel
theorem dJ11_highSurrogate_5068e_7 : decode cJ11_highSurrogate_5068e 7 = .ok (.i2c, 1) := by decide +kernel
theorem dJ11_highSurrogate_5068e_8 : decode cJ11_highSurrogate_5068e 8 = .ok (.ireturn, 1) := by decide +kernel
theorem dJ11_lowSurrogate_5068e_0 : decode cJ11_lowSurrogate_5068e 0 = .ok (.iload_n 0, 1) := by decide +kernel
theorem dJ11_lowSurrogate_5068e_1 : decode cJ11_lowSurrogate_5068e 1 = .ok (.sipush 1023, 3) := by decide +kernel
theorem dJ11_lowSurrogate_5068e_4 : decode cJ11_lowSurrogate_5068e 4 = .ok (.iand, 1) := by decide +kernel
theorem dJ11_lowSurrogate_5068e_5 : decode cJ11_lowSurrogate_5068e 5 = .ok (.ldc 76, 2) := by decide +kernel
theorem dJ11_lowSurrogate_5068e_7 : decode cJ11_lowSurrogate_5068e 7 = .ok (.iadd, 1) := by decide +kernel
theorem dJ11_lowSurrogate_5068e_8 : decode cJ11_lowSurrogate_5068e 8 = .ok (.i2c, 1) := by decide +kernel
theorem dJ11_lowSurrogate_5068e_9 : decode cJ11_lowSurrogate_5068e 9 = .ok (.ireturn, 1) := by decide +kernel
theorem dJ6_bitCount_0f7a4_0 : decode cJ6_bitCount_0f7a4 0 = .ok (.iload_n 0, 1) := by decide +kernel
theorem dJ6_bitCount_0f7a4_1 : decode cJ6_bitCount_0f7a4 1 = .ok (.iload_n 0, 1) := by decide +kernel
theorem dJ6_bitCount_0f7a4_2 : decode cJ6_bitCount_0f7a4 2 = .ok (.iconst 1, 1) := by decide +kernel
theorem dJ6_bitCount_0f7a4_3 : decode cJ6_bitCount_0f7a4 3 = .ok (.iushr, 1) := by decide +kernel
theorem dJ6_bitCount_0f7a4_4 : decode cJ6_bitCount_0f7a4 4 = .ok (.ldc_w 265, 3) := by decide +kernel
theorem dJ6_bitCount_0f7a4_7 : decode cJ6_bitCount_0f7a4 7 = .ok (.iand, 1) := by decide +kernel
theorem dJ6_bitCount_0f7a4_8 : decode cJ6_bitCount_0f7a4 8 = .ok (.isub, 1) := by decide +kernel
theorem dJ6_bitCount_0f7a4_9 : decode cJ6_bitCount_0f7a4 9 = .ok (.istore_n 0, 1) := by decide +kernel
theorem dJ6_bitCount_0f7a4_10 : decode cJ6_bitCount_0f7a4 10 = .ok (.iload_n 0, 1) := by decide +kernel
theorem dJ6_bitCount_0f7a4_11 : decode cJ6_bitCount_0f7a4 11 = .ok (.ldc_w 266, 3) := by decide +kernel
theorem dJ6_bitCount_0f7a4_14 : decode cJ6_bitCount_0f7a4 14 = .ok (.iand, 1) := by decide +kernel
theorem dJ6_bitCount_0f7a4_15 : decode cJ6_bitCount_0f7a4 15 = .ok (.iload_n 0, 1) := by decide +kernel
theorem dJ6_bitCount_0f7a4_16 : decode cJ6_bitCount_0f7a4 16 = .ok (.iconst 2, 1) := by decide +kernel
theorem dJ6_bitCount_0f7a4_17 : decode cJ6_bitCount_0f7a4 17 = .ok (.iushr, 1) := by decide +kernel
theorem dJ6_bitCount_0f7a4_18 : decode cJ6_bitCount_0f7a4 18 = .ok (.ldc_w 266, 3) := by decide +kernel
theorem dJ6_bitCount_0f7a4_21 : decode cJ6_bitCount_0f7a4 21 = .ok (.iand, 1) := by decide +kernel
theorem dJ6_bitCount_0f7a4_22 : decode cJ6_bitCount_0f7a4 22 = .ok (.iadd, 1) := by decide +kernel
theorem dJ6_bitCount_0f7a4_23 : decode cJ6_bitCount_0f7a4 23 = .ok (.istore_n 0, 1) := by decide +kernel
theorem dJ6_bitCount_0f7a4_24 : decode cJ6_bitCount_0f7a4 24 = .ok (.iload_n 0, 1) := by decide +kernel
theorem dJ6_bitCount_0f7a4_25 : decode cJ6_bitCount_0f7a4 25 = .ok (.iload_n 0, 1) := by decide +kernel
theorem dJ6_bitCount_0f7a4_26 : decode cJ6_bitCount_0f7a4 26 = .ok (.iconst 4, 1) := by decide +kernel
theorem dJ6_bitCount_0f7a4_27 : decode cJ6_bitCount_0f7a4 27 = .ok (.iushr, 1) := by decide +kernel
theorem dJ6_bitCount_0f7a4_28 : decode cJ6_bitCount_0f7a4 28 = .ok (.iadd, 1) := by decide +kernel
theorem dJ6_bitCount_0f7a4_29 : decode cJ6_bitCount_0f7a4 29 = .ok (.ldc_w 267, 3) := by decide +kernel
theorem dJ6_bitCount_0f7a4_32 : decode cJ6_bitCount_0f7a4 32 = .ok (.iand, 1) := by decide +kernel
theorem dJ6_bitCount_0f7a4_33 : decode cJ6_bitCount_0f7a4 33 = .ok (.istore_n 0, 1) := by decide +kernel
theorem dJ6_bitCount_0f7a4_34 : decode cJ6_bitCount_0f7a4 34 = .ok (.iload_n 0, 1) := by decide +kernel
theorem dJ6_bitCount_0f7a4_35 : decode cJ6_bitCount_0f7a4 35 = .ok (.iload_n 0, 1) := by decide +kernel
theorem dJ6_bitCount_0f7a4_36 : decode cJ6_bitCount_0f7a4 36 = .ok (.bipush 8, 2) := by decide +kernel
theorem dJ6_bitCount_0f7a4_38 : decode cJ6_bitCount_0f7a4 38 = .ok (.iushr, 1) := by decide +kernel
theorem dJ6_bitCount_0f7a4_39 : decode cJ6_bitCount_0f7a4 39 = .ok (.iadd, 1) := by decide +kernel
theorem dJ6_bitCount_0f7a4_40 : decode cJ6_bitCount_0f7a4 40 = .ok (.istore_n 0, 1) := by decide +kernel
theorem dJ6_bitCount_0f7a4_41 : decode cJ6_bitCount_0f7a4 41 = .ok (.iload_n 0, 1) := by decide +kernel
theorem dJ6_bitCount_0f7a4_42 : decode cJ6_bitCount_0f7a4 42 = .ok (.iload_n 0, 1) := by decide +kernel
theorem dJ6_bitCount_0f7a4_43 : decode cJ6_bitCount_0f7a4 43 = .ok (.bipush 16, 2) := by decide +kernel
theorem dJ6_bitCount_0f7a4_45 : decode cJ6_bitCount_0f7a4 45 = .ok (.iushr, 1) := by decide +kernel
theorem dJ6_bitCount_0f7a4_46 : decode cJ6_bitCount_0f7a4 46 = .ok (.iadd, 1) := by decide +kernel
theorem dJ6_bitCount_0f7a4_47 : decode cJ6_bitCount_0f7a4 47 = .ok (.istore_n 0, 1) := by decide +kernel
theorem dJ6_bitCount_0f7a4_48 : decode cJ6_bitCount_0f7a4 48 = .ok (.iload_n 0, 1) := by decide +kernel
theorem dJ6_bitCount_0f7a4_49 : decode cJ6_bitCount_0f7a4 49 = .ok (.bipush 63, 2) := by decide +kernel
theorem dJ6_bitCount_0f7a4_51 : decode cJ6_bitCount_0f7a4 51 = .ok (.iand, 1) := by decide +kernel
theorem dJ6_bitCount_0f7a4_52 : decode cJ6_bitCount_0f7a4 52 = .ok (.ireturn, 1) := by decide +kernel
theorem dJ9_max_7cf53_0 : decode cJ9_max_7cf53 0 = .ok (.iload_n 0, 1) := by decide +kernel
theorem dJ9_max_7cf53_1 : decode cJ9_max_7cf53 1 = .ok (.iload_n 1, 1) := by decide +kernel
theorem dJ9_max_7cf53_2 : decode cJ9_max_7cf53 2 = .ok (.if_icmp .lt 7, 3) := by decide +kernel
theorem dJ9_max_7cf53_5 : decode cJ9_max_7cf53 5 = .ok (.iload_n 0, 1) := by decide +kernel
theorem dJ9_max_7cf53_6 : decode cJ9_max_7cf53 6 = .ok (.goto 4, 3) := by decide +kernel
theorem dJ9_max_7cf53_9 : decode cJ9_max_7cf53 9 = .ok (.iload_n 1, 1) := by decide +kernel
theorem dJ9_max_7cf53_10 : decode cJ9_max_7cf53 10 = .ok (.ireturn, 1) := by decide +kernel
theorem dJ9_min_7cf53_0 : decode cJ9_min_7cf53 0 = .ok (.iload_n 0, 1) := by decide +kernel
theorem dJ9_min_7cf53_1 : decode cJ9_min_7cf53 1 = .ok (.iload_n 1, 1) := by decide +kernel
theorem dJ9_min_7cf53_2 : decode cJ9_min_7cf53 2 = .ok (.if_icmp .gt 7, 3) := by decide +kernel
theorem dJ9_min_7cf53_5 : decode cJ9_min_7cf53 5 = .ok (.iload_n 0, 1) := by decide +kernel
theorem dJ9_min_7cf53_6 : decode cJ9_min_7cf53 6 = .ok (.goto 4, 3) := by decide +kernel
theorem dJ9_min_7cf53_9 : decode cJ9_min_7cf53 9 = .ok (.iload_n 1, 1) := by decide +kernel
theorem dJ9_min_7cf53_10 : decode cJ9_min_7cf53 10 = .ok (.ireturn, 1) := by decide +kernel
theorem dJ0_length_8abf5_0 : decode cJ0_length_8abf5 0 = .ok (.aload_n 0, 1) := by decide +kernel
theorem dJ0_length_8abf5_1 : decode cJ0_length_8abf5 1 = .ok (.getfield 9, 3) := by decide +kernel
theorem dJ0_length_8abf5_4 : decode cJ0_length_8abf5 4 = .ok (.arraylength, 1) := by decide +kernel
theorem dJ0_length_8abf5_5 : decode cJ0_length_8abf5 5 = .ok (.aload_n 0, 1) := by decide +kernel
theorem dJ0_length_8abf5_6 : decode cJ0_length_8abf5 6 = .ok (.invokevirtual 335, 3) := by decide +kernel
theorem dJ0_length_8abf5_9 : decode cJ0_length_8abf5 9 = .ok (.ishr, 1) := by decide +kernel
theorem dJ0_length_8abf5_10 : decode cJ0_length_8abf5 10 = .ok (.ireturn, 1) := by decide +kernel
theorem dJ0_indexOf_0f7a4_0 : decode cJ0_indexOf_0f7a4 0 = .ok (.aload_n 0, 1) := by decide +kernel
theorem dJ0_indexOf_0f7a4_1 : decode cJ0_indexOf_0f7a4 1 = .ok (.iload_n 1, 1) := by decide +kernel
theorem dJ0_indexOf_0f7a4_2 : decode cJ0_indexOf_0f7a4 2 = .ok (.iconst 0, 1) := by decide +kernel
theorem dJ0_indexOf_0f7a4_3 : decode cJ0_indexOf_0f7a4 3 = .ok (.invokevirtual 633, 3) := by decide +kernel
theorem dJ0_indexOf_0f7a4_6 : decode cJ0_indexOf_0f7a4 6 = .ok (.ireturn, 1) := by decide +kernel
theorem dJ0_indexOf_7cf53_0 : decode cJ0_indexOf_7cf53 0 = .ok (.aload_n 0, 1) := by decide +kernel
theorem dJ0_indexOf_7cf53_1 : decode cJ0_indexOf_7cf53 1 = .ok (.invokevirtual 492, 3) := by decide +kernel
theorem dJ0_indexOf_7cf53_4 : decode cJ0_indexOf_7cf53 4 = .ok (.ifCond .eq 19, 3) := by decide +kernel
theorem dJ0_indexOf_7cf53_7 : decode cJ0_indexOf_7cf53 7 = .ok (.aload_n 0, 1) := by decide +kernel
theorem dJ0_indexOf_7cf53_8 : decode cJ0_indexOf_7cf53 8 = .ok (.getfield 9, 3) := by decide +kernel
theorem dJ0_indexOf_7cf53_11 : decode cJ0_indexOf_7cf53 11 = .ok (.iload_n 1, 1) := by decide +kernel
theorem dJ0_indexOf_7cf53_12 : decode cJ0_indexOf_7cf53 12 = .ok (.iload_n 2, 1) := by decide +kernel
theorem dJ0_indexOf_7cf53_13 : decode cJ0_indexOf_7cf53 13 = .ok (.aload_n 0, 1) := by decide +kernel
theorem dJ0_indexOf_7cf53_14 : decode cJ0_indexOf_7cf53 14 = .ok (.invokevirtual 505, 3) := by decide +kernel
theorem dJ0_indexOf_7cf53_17 : decode cJ0_indexOf_7cf53 17 = .ok (.invokestatic 637, 3) := by decide +kernel
theorem dJ0_indexOf_7cf53_20 : decode cJ0_indexOf_7cf53 20 = .ok (.goto 16, 3) := by decide +kernel
theorem dJ0_indexOf_7cf53_23 : decode cJ0_indexOf_7cf53 23 = .ok (.aload_n 0, 1) := by decide +kernel
theorem dJ0_indexOf_7cf53_24 : decode cJ0_indexOf_7cf53 24 = .ok (.getfield 9, 3) := by decide +kernel
theorem dJ0_indexOf_7cf53_27 : decode cJ0_indexOf_7cf53 27 = .ok (.iload_n 1, 1) := by decide +kernel
theorem dJ0_indexOf_7cf53_28 : decode cJ0_indexOf_7cf53 28 = .ok (.iload_n 2, 1) := by decide +kernel
theorem dJ0_indexOf_7cf53_29 : decode cJ0_indexOf_7cf53 29 = .ok (.aload_n 0, 1) := by decide +kernel
theorem dJ0_indexOf_7cf53_30 : decode cJ0_indexOf_7cf53 30 = .ok (.invokevirtual 505, 3) := by decide +kernel
theorem dJ0_indexOf_7cf53_33 : decode cJ0_indexOf_7cf53 33 = .ok (.invokestatic 640, 3) := by decide +kernel
theorem dJ0_indexOf_7cf53_36 : decode cJ0_indexOf_7cf53 36 = .ok (.ireturn, 1) := by decide +kernel
theorem dJ0_coder_7d493_0 : decode cJ0_coder_7d493 0 = .ok (.getstatic 38, 3) := by decide +kernel
theorem dJ0_coder_7d493_3 : decode cJ0_coder_7d493 3 = .ok (.ifCond .eq 10, 3) := by decide +kernel
theorem dJ0_coder_7d493_6 : decode cJ0_coder_7d493 6 = .ok (.aload_n 0, 1) := by decide +kernel
theorem dJ0_coder_7d493_7 : decode cJ0_coder_7d493 7 = .ok (.getfield 15, 3) := by decide +kernel
theorem dJ0_coder_7d493_10 : decode cJ0_coder_7d493 10 = .ok (.goto 4, 3) := by decide +kernel
theorem dJ0_coder_7d493_13 : decode cJ0_coder_7d493 13 = .ok (.iconst 1, 1) := by decide +kernel
theorem dJ0_coder_7d493_14 : decode cJ0_coder_7d493 14 = .ok (.ireturn, 1) := by decide +kernel
theorem dJ0_isLatin1_aae02_0 : decode cJ0_isLatin1_aae02 0 = .ok (.getstatic 38, 3) := by decide +kernel
theorem dJ0_isLatin1_aae02_3 : decode cJ0_isLatin1_aae02 3 = .ok (.ifCond .eq 14, 3) := by decide +kernel
theorem dJ0_isLatin1_aae02_6 : decode cJ0_isLatin1_aae02 6 = .ok (.aload_n 0, 1) := by decide +kernel
theorem dJ0_isLatin1_aae02_7 : decode cJ0_isLatin1_aae02 7 = .ok (.getfield 15, 3) := by decide +kernel
theorem dJ0_isLatin1_aae02_10 : decode cJ0_isLatin1_aae02 10 = .ok (.ifCond .ne 7, 3) := by decide +kernel
theorem dJ0_isLatin1_aae02_13 : decode cJ0_isLatin1_aae02 13 = .ok (.iconst 1, 1) := by decide +kernel
theorem dJ0_isLatin1_aae02_14 : decode cJ0_isLatin1_aae02 14 = .ok (.goto 4, 3) := by decide +kernel
theorem dJ0_isLatin1_aae02_17 : decode cJ0_isLatin1_aae02 17 = .ok (.iconst 0, 1) := by decide +kernel
theorem dJ0_isLatin1_aae02_18 : decode cJ0_isLatin1_aae02 18 = .ok (.ireturn, 1) := by decide +kernel
theorem dJ0_checkBoundsBeginEnd_23922_0 : decode cJ0_checkBoundsBeginEnd_23922 0 = .ok (.iload_n 0, 1) := by decide +kernel
theorem dJ0_checkBoundsBeginEnd_23922_1 : decode cJ0_checkBoundsBeginEnd_23922 1 = .ok (.iload_n 1, 1) := by decide +kernel
theorem dJ0_checkBoundsBeginEnd_23922_2 : decode cJ0_checkBoundsBeginEnd_23922 2 = .ok (.iload_n 2, 1) := by decide +kernel
theorem dJ0_checkBoundsBeginEnd_23922_3 : decode cJ0_checkBoundsBeginEnd_23922 3 = .ok (.getstatic 1053, 3) := by decide +kernel
theorem dJ0_checkBoundsBeginEnd_23922_6 : decode cJ0_checkBoundsBeginEnd_23922 6 = .ok (.invokestatic 1062, 3) := by decide +kernel
theorem dJ0_checkBoundsBeginEnd_23922_9 : decode cJ0_checkBoundsBeginEnd_23922 9 = .ok (.pop, 1) := by decide +kernel
theorem dJ0_checkBoundsBeginEnd_23922_10 : decode cJ0_checkBoundsBeginEnd_23922 10 = .ok (.return_, 1) := by decide +kernel
theorem dJ1_canEncode_9a6ad_0 : decode cJ1_canEncode_9a6ad 0 = .ok (.iload_n 0, 1) := by decide +kernel
theorem dJ1_canEncode_9a6ad_1 : decode cJ1_canEncode_9a6ad 1 = .ok (.ifCond .lt 14, 3) := by decide +kernel
theorem dJ1_canEncode_9a6ad_4 : decode cJ1_canEncode_9a6ad 4 = .ok (.iload_n 0, 1) := by decide +kernel
theorem dJ1_canEncode_9a6ad_5 : decode cJ1_canEncode_9a6ad 5 = .ok (.sipush 255, 3) := by decide +kernel
theorem dJ1_canEncode_9a6ad_8 : decode cJ1_canEncode_9a6ad 8 = .ok (.if_icmp .gt 7, 3) := by decide +kernel
theorem dJ1_canEncode_9a6ad_11 : decode cJ1_canEncode_9a6ad 11 = .ok (.iconst 1, 1) := by decide +kernel
theorem dJ1_canEncode_9a6ad_12 : decode cJ1_canEncode_9a6ad 12 = .ok (.goto 4, 3) := by decide +kernel
theorem dJ1_canEncode_9a6ad_15 : decode cJ1_canEncode_9a6ad 15 = .ok (.iconst 0, 1) := by decide +kernel
theorem dJ1_canEncode_9a6ad_16 : decode cJ1_canEncode_9a6ad 16 = .ok (.ireturn, 1) := by decide +kernel
theorem dJ1_indexOf_4cfef_0 : decode cJ1_indexOf_4cfef 0 = .ok (.iload_n 1, 1) := by decide +kernel
theorem dJ1_indexOf_4cfef_1 : decode cJ1_indexOf_4cfef 1 = .ok (.invokestatic 88, 3) := by decide +kernel
theorem dJ1_indexOf_4cfef_4 : decode cJ1_indexOf_4cfef 4 = .ok (.ifCond .ne 5, 3) := by decide +kernel
theorem dJ1_indexOf_4cfef_7 : decode cJ1_indexOf_4cfef 7 = .ok (.iconst (-1), 1) := by decide +kernel
theorem dJ1_indexOf_4cfef_8 : decode cJ1_indexOf_4cfef 8 = .ok (.ireturn, 1) := by decide +kernel
theorem dJ1_indexOf_4cfef_9 : decode cJ1_indexOf_4cfef 9 = .ok (.iload_n 2, 1) := by decide +kernel
theorem dJ1_indexOf_4cfef_10 : decode cJ1_indexOf_4cfef 10 = .ok (.iconst 0, 1) := by decide +kernel
theorem dJ1_indexOf_4cfef_11 : decode cJ1_indexOf_4cfef 11 = .ok (.invokestatic 92, 3) := by decide +kernel
theorem dJ1_indexOf_4cfef_14 : decode cJ1_indexOf_4cfef 14 = .ok (.istore_n 2, 1) := by decide +kernel
theorem dJ1_indexOf_4cfef_15 : decode cJ1_indexOf_4cfef 15 = .ok (.iload_n 3, 1) := by decide +kernel
theorem dJ1_indexOf_4cfef_16 : decode cJ1_indexOf_4cfef 16 = .ok (.aload_n 0, 1) := by decide +kernel
theorem dJ1_indexOf_4cfef_17 : decode cJ1_indexOf_4cfef 17 = .ok (.arraylength, 1) := by decide +kernel
theorem dJ1_indexOf_4cfef_18 : decode cJ1_indexOf_4cfef 18 = .ok (.invokestatic 38, 3) := by decide +kernel
theorem dJ1_indexOf_4cfef_21 : decode cJ1_indexOf_4cfef 21 = .ok (.istore_n 3, 1) := by decide +kernel
theorem dJ1_indexOf_4cfef_22 : decode cJ1_indexOf_4cfef 22 = .ok (.iload_n 2, 1) := by decide +kernel
theorem dJ1_indexOf_4cfef_23 : decode cJ1_indexOf_4cfef 23 = .ok (.iload_n 3, 1) := by decide +kernel
theorem dJ1_indexOf_4cfef_24 : decode cJ1_indexOf_4cfef 24 = .ok (.if_icmp .lt 5, 3) := by decide +kernel
theorem dJ1_indexOf_4cfef_27 : decode cJ1_indexOf_4cfef 27 = .ok (.iconst (-1), 1) := by decide +kernel
theorem dJ1_indexOf_4cfef_28 : decode cJ1_indexOf_4cfef 28 = .ok (.ireturn, 1) := by decide +kernel
theorem dJ1_indexOf_4cfef_29 : decode cJ1_indexOf_4cfef 29 = .ok (.aload_n 0, 1) := by decide +kernel
theorem dJ1_indexOf_4cfef_30 : decode cJ1_indexOf_4cfef 30 = .ok (.iload_n 1, 1) := by decide +kernel
theorem dJ1_indexOf_4cfef_31 : decode cJ1_indexOf_4cfef 31 = .ok (.iload_n 2, 1) := by decide +kernel
theorem dJ1_indexOf_4cfef_32 : decode cJ1_indexOf_4cfef 32 = .ok (.iload_n 3, 1) := by decide +kernel
theorem dJ1_indexOf_4cfef_33 : decode cJ1_indexOf_4cfef 33 = .ok (.invokestatic 95, 3) := by decide +kernel
theorem dJ1_indexOf_4cfef_36 : decode cJ1_indexOf_4cfef 36 = .ok (.ireturn, 1) := by decide +kernel
theorem dJ1_indexOfChar_4cfef_0 : decode cJ1_indexOfChar_4cfef 0 = .ok (.iload_n 1, 1) := by decide +kernel
theorem dJ1_indexOfChar_4cfef_1 : decode cJ1_indexOfChar_4cfef 1 = .ok (.i2b, 1) := by decide +kernel
theorem dJ1_indexOfChar_4cfef_2 : decode cJ1_indexOfChar_4cfef 2 = .ok (.istore 4, 2) := by decide +kernel
theorem dJ1_indexOfChar_4cfef_4 : decode cJ1_indexOfChar_4cfef 4 = .ok (.iload_n 2, 1) := by decide +kernel
theorem dJ1_indexOfChar_4cfef_5 : decode cJ1_indexOfChar_4cfef 5 = .ok (.istore 5, 2) := by decide +kernel
theorem dJ1_indexOfChar_4cfef_7 : decode cJ1_indexOfChar_4cfef 7 = .ok (.iload 5, 2) := by decide +kernel
theorem dJ1_indexOfChar_4cfef_9 : decode cJ1_indexOfChar_4cfef 9 = .ok (.iload_n 3, 1) := by decide +kernel
theorem dJ1_indexOfChar_4cfef_10 : decode cJ1_indexOfChar_4cfef 10 = .ok (.if_icmp .ge 21, 3) := by decide +kernel
theorem dJ1_indexOfChar_4cfef_13 : decode cJ1_indexOfChar_4cfef 13 = .ok (.aload_n 0, 1) := by decide +kernel
theorem dJ1_indexOfChar_4cfef_14 : decode cJ1_indexOfChar_4cfef 14 = .ok (.iload 5, 2) := by decide +kernel
theorem dJ1_indexOfChar_4cfef_16 : decode cJ1_indexOfChar_4cfef 16 = .ok (.baload, 1) := by decide +kernel
theorem dJ1_indexOfChar_4cfef_17 : decode cJ1_indexOfChar_4cfef 17 = .ok (.iload 4, 2) := by decide +kernel
theorem dJ1_indexOfChar_4cfef_19 : decode cJ1_indexOfChar_4cfef 19 = .ok (.if_icmp .ne 6, 3) := by decide +kernel
theorem dJ1_indexOfChar_4cfef_22 : decode cJ1_indexOfChar_4cfef 22 = .ok (.iload 5, 2) := by decide +kernel
theorem dJ1_indexOfChar_4cfef_24 : decode cJ1_indexOfChar_4cfef 24 = .ok (.ireturn, 1) := by decide +kernel
theorem dJ1_indexOfChar_4cfef_25 : decode cJ1_indexOfChar_4cfef 25 = .ok (.iinc 5 1, 3) := by decide +kernel
theorem dJ1_indexOfChar_4cfef_28 : decode cJ1_indexOfChar_4cfef 28 = .ok (.goto (-21), 3) := by decide +kernel
theorem dJ1_indexOfChar_4cfef_31 : decode cJ1_indexOfChar_4cfef 31 = .ok (.iconst (-1), 1) := by decide +kernel
theorem dJ1_indexOfChar_4cfef_32 : decode cJ1_indexOfChar_4cfef 32 = .ok (.ireturn, 1) := by decide +kernel
theorem dJ2_getChar_3b067_0 : decode cJ2_getChar_3b067 0 = .ok (.getstatic 44, 3) := by decide +kernel
theorem dJ2_getChar_3b067_3 : decode cJ2_getChar_3b067 3 = .ok (.ifCond .ne 25, 3) := by decide +kernel
theorem dJ2_getChar_3b067_6 : decode cJ2_getChar_3b067 6 = .ok (.iload_n 1, 1) := by decide +kernel
theorem dJ2_getChar_3b067_7 : decode cJ2_getChar_3b067 7 = .ok (.ifCond .lt 11, 3) := by decide +kernel
theorem dJ2_getChar_3b067_10 : decode cJ2_getChar_3b067 10 = .ok (.iload_n 1, 1) := by decide +kernel
theorem dJ2_getChar_3b067_11 : decode cJ2_getChar_3b067 11 = .ok (.aload_n 0, 1) := by decide +kernel
theorem dJ2_getChar_3b067_12 : decode cJ2_getChar_3b067 12 = .ok (.invokestatic 48, 3) := by decide +kernel
theorem dJ2_getChar_3b067_15 : decode cJ2_getChar_3b067 15 = .ok (.if_icmp .lt 13, 3) := by decide +kernel
theorem dJ2_getChar_3b067_18 : decode cJ2_getChar_3b067 18 = .ok (.new 52, 3) := by decide +kernel
theorem dJ2_getChar_3b067_21 : decode cJ2_getChar_3b067 21 = .ok (.dup, 1) := by decide +kernel
theorem dJ2_getChar_3b067_22 : decode cJ2_getChar_3b067 22 = .ok (.ldc 54, 2) := by decide +kernel
theorem dJ2_getChar_3b067_24 : decode cJ2_getChar_3b067 24 = .ok (.invokespecial 56, 3) := by decide +kernel
theorem dJ2_getChar_3b067_27 : decode cJ2_getChar_3b067 27 = .ok (.athrow, 1) := by decide +kernel
theorem dJ2_getChar_3b067_28 : decode cJ2_getChar_3b067 28 = .ok (.iload_n 1, 1) := by decide +kernel
theorem dJ2_getChar_3b067_29 : decode cJ2_getChar_3b067 29 = .ok (.iconst 1, 1) := by decide +kernel
theorem dJ2_getChar_3b067_30 : decode cJ2_getChar_3b067 30 = .ok (.ishl, 1) := by decide +kernel
theorem dJ2_getChar_3b067_31 : decode cJ2_getChar_3b067 31 = .ok (.istore_n 1, 1) := by decide +kernel
theorem dJ2_getChar_3b067_32 : decode cJ2_getChar_3b067 32 = .ok (.aload_n 0, 1) := by decide +kernel
theorem dJ2_getChar_3b067_33 : decode cJ2_getChar_3b067 33 = .ok (.iload_n 1, 1) := by decide +kernel
theorem dJ2_getChar_3b067_34 : decode cJ2_getChar_3b067 34 = .ok (.iinc 1 1, 3) := by decide +kernel
theorem dJ2_getChar_3b067_37 : decode cJ2_getChar_3b067 37 = .ok (.baload, 1) := by decide +kernel
theorem dJ2_getChar_3b067_38 : decode cJ2_getChar_3b067 38 = .ok (.sipush 255, 3) := by decide +kernel
theorem dJ2_getChar_3b067_41 : decode cJ2_getChar_3b067 41 = .ok (.iand, 1) := by decide +kernel
theorem dJ2_getChar_3b067_42 : decode cJ2_getChar_3b067 42 = .ok (.getstatic 59, 3) := by decide +kernel
theorem dJ2_getChar_3b067_45 : decode cJ2_getChar_3b067 45 = .ok (.ishl, 1) := by decide +kernel
theorem dJ2_getChar_3b067_46 : decode cJ2_getChar_3b067 46 = .ok (.aload_n 0, 1) := by decide +kernel
theorem dJ2_getChar_3b067_47 : decode cJ2_getChar_3b067 47 = .ok (.iload_n 1, 1) := by decide +kernel
theorem dJ2_getChar_3b067_48 : decode cJ2_getChar_3b067 48 = .ok (.baload, 1) := by decide +kernel
theorem dJ2_getChar_3b067_49 : decode cJ2_getChar_3b067 49 = .ok (.sipush 255, 3) := by decide +kernel
theorem dJ2_getChar_3b067_52 : decode cJ2_getChar_3b067 52 = .ok (.iand, 1) := by decide +kernel
theorem dJ2_getChar_3b067_53 : decode cJ2_getChar_3b067 53 = .ok (.getstatic 63, 3) := by decide +kernel
theorem dJ2_getChar_3b067_56 : decode cJ2_getChar_3b067 56 = .ok (.ishl, 1) := by decide +kernel
theorem dJ2_getChar_3b067_57 : decode cJ2_getChar_3b067 57 = .ok (.ior, 1) := by decide +kernel
theorem dJ2_getChar_3b067_58 : decode cJ2_getChar_3b067 58 = .ok (.i2c, 1) := by decide +kernel
theorem dJ2_getChar_3b067_59 : decode cJ2_getChar_3b067 59 = .ok (.ireturn, 1) := by decide +kernel
theorem dJ2_length_9d52b_0 : decode cJ2_length_9d52b 0 = .ok (.aload_n 0, 1) := by decide +kernel
theorem dJ2_length_9d52b_1 : decode cJ2_length_9d52b 1 = .ok (.arraylength, 1) := by decide +kernel
theorem dJ2_length_9d52b_2 : decode cJ2_length_9d52b 2 = .ok (.iconst 1, 1) := by decide +kernel
theorem dJ2_length_9d52b_3 : decode cJ2_length_9d52b 3 = .ok (.ishr, 1) := by decide +kernel
theorem dJ2_length_9d52b_4 : decode cJ2_length_9d52b 4 = .ok (.ireturn, 1) := by decide +kernel
theorem dJ2_indexOf_4cfef_0 : decode cJ2_indexOf_4cfef 0 = .ok (.iload_n 2, 1) := by decide +kernel
theorem dJ2_indexOf_4cfef_1 : decode cJ2_indexOf_4cfef 1 = .ok (.iconst 0, 1) := by decide +kernel
theorem dJ2_indexOf_4cfef_2 : decode cJ2_indexOf_4cfef 2 = .ok (.invokestatic 224, 3) := by decide +kernel
theorem dJ2_indexOf_4cfef_5 : decode cJ2_indexOf_4cfef 5 = .ok (.istore_n 2, 1) := by decide +kernel
theorem dJ2_indexOf_4cfef_6 : decode cJ2_indexOf_4cfef 6 = .ok (.iload_n 3, 1) := by decide +kernel
theorem dJ2_indexOf_4cfef_7 : decode cJ2_indexOf_4cfef 7 = .ok (.aload_n 0, 1) := by decide +kernel
theorem dJ2_indexOf_4cfef_8 : decode cJ2_indexOf_4cfef 8 = .ok (.arraylength, 1) := by decide +kernel
theorem dJ2_indexOf_4cfef_9 : decode cJ2_indexOf_4cfef 9 = .ok (.iconst 1, 1) := by decide +kernel
theorem dJ2_indexOf_4cfef_10 : decode cJ2_indexOf_4cfef 10 = .ok (.ishr, 1) := by decide +kernel
theorem dJ2_indexOf_4cfef_11 : decode cJ2_indexOf_4cfef 11 = .ok (.invokestatic 183, 3) := by decide +kernel
theorem dJ2_indexOf_4cfef_14 : decode cJ2_indexOf_4cfef 14 = .ok (.istore_n 3, 1) := by decide +kernel
theorem dJ2_indexOf_4cfef_15 : decode cJ2_indexOf_4cfef 15 = .ok (.iload_n 2, 1) := by decide +kernel
theorem dJ2_indexOf_4cfef_16 : decode cJ2_indexOf_4cfef 16 = .ok (.iload_n 3, 1) := by decide +kernel
theorem dJ2_indexOf_4cfef_17 : decode cJ2_indexOf_4cfef 17 = .ok (.if_icmp .lt 5, 3) := by decide +kernel
theorem dJ2_indexOf_4cfef_20 : decode cJ2_indexOf_4cfef 20 = .ok (.iconst (-1), 1) := by decide +kernel
theorem dJ2_indexOf_4cfef_21 : decode cJ2_indexOf_4cfef 21 = .ok (.ireturn, 1) := by decide +kernel
theorem dJ2_indexOf_4cfef_22 : decode cJ2_indexOf_4cfef 22 = .ok (.iload_n 1, 1) := by decide +kernel
theorem dJ2_indexOf_4cfef_23 : decode cJ2_indexOf_4cfef 23 = .ok (.ldc 227, 2) := by decide +kernel
theorem dJ2_indexOf_4cfef_25 : decode cJ2_indexOf_4cfef 25 = .ok (.if_icmp .ge 11, 3) := by decide +kernel
theorem dJ2_indexOf_4cfef_28 : decode cJ2_indexOf_4cfef 28 = .ok (.aload_n 0, 1) := by decide +kernel
theorem dJ2_indexOf_4cfef_29 : decode cJ2_indexOf_4cfef 29 = .ok (.iload_n 1, 1) := by decide +kernel
theorem dJ2_indexOf_4cfef_30 : decode cJ2_indexOf_4cfef 30 = .ok (.iload_n 2, 1) := by decide +kernel
theorem dJ2_indexOf_4cfef_31 : decode cJ2_indexOf_4cfef 31 = .ok (.iload_n 3, 1) := by decide +kernel
theorem dJ2_indexOf_4cfef_32 : decode cJ2_indexOf_4cfef 32 = .ok (.invokestatic 228, 3) := by decide +kernel
theorem dJ2_indexOf_4cfef_35 : decode cJ2_indexOf_4cfef 35 = .ok (.ireturn, 1) := by decide +kernel
theorem dJ2_indexOf_4cfef_36 : decode cJ2_indexOf_4cfef 36 = .ok (.aload_n 0, 1) := by decide +kernel
theorem dJ2_indexOf_4cfef_37 : decode cJ2_indexOf_4cfef 37 = .ok (.iload_n 1, 1) := by decide +kernel
theorem dJ2_indexOf_4cfef_38 : decode cJ2_indexOf_4cfef 38 = .ok (.iload_n 2, 1) := by decide +kernel
theorem dJ2_indexOf_4cfef_39 : decode cJ2_indexOf_4cfef 39 = .ok (.iload_n 3, 1) := by decide +kernel
theorem dJ2_indexOf_4cfef_40 : decode cJ2_indexOf_4cfef 40 = .ok (.invokestatic 232, 3) := by decide +kernel
theorem dJ2_indexOf_4cfef_43 : decode cJ2_indexOf_4cfef 43 = .ok (.ireturn, 1) := by decide +kernel
theorem dJ2_indexOfChar_4cfef_0 : decode cJ2_indexOfChar_4cfef 0 = .ok (.iload_n 2, 1) := by decide +kernel
theorem dJ2_indexOfChar_4cfef_1 : decode cJ2_indexOfChar_4cfef 1 = .ok (.iload_n 3, 1) := by decide +kernel
theorem dJ2_indexOfChar_4cfef_2 : decode cJ2_indexOfChar_4cfef 2 = .ok (.aload_n 0, 1) := by decide +kernel
theorem dJ2_indexOfChar_4cfef_3 : decode cJ2_indexOfChar_4cfef 3 = .ok (.invokestatic 96, 3) := by decide +kernel
theorem dJ2_indexOfChar_4cfef_6 : decode cJ2_indexOfChar_4cfef 6 = .ok (.aload_n 0, 1) := by decide +kernel
theorem dJ2_indexOfChar_4cfef_7 : decode cJ2_indexOfChar_4cfef 7 = .ok (.iload_n 1, 1) := by decide +kernel
theorem dJ2_indexOfChar_4cfef_8 : decode cJ2_indexOfChar_4cfef 8 = .ok (.iload_n 2, 1) := by decide +kernel
theorem dJ2_indexOfChar_4cfef_9 : decode cJ2_indexOfChar_4cfef 9 = .ok (.iload_n 3, 1) := by decide +kernel
theorem dJ2_indexOfChar_4cfef_10 : decode cJ2_indexOfChar_4cfef 10 = .ok (.invokestatic 244, 3) := by decide +kernel
theorem dJ2_indexOfChar_4cfef_13 : decode cJ2_indexOfChar_4cfef 13 = .ok (.ireturn, 1) := by decide +kernel
theorem dJ2_indexOfCharUnsafe_4cfef_0 : decode cJ2_indexOfCharUnsafe_4cfef 0 = .ok (.iload_n 2, 1) := by decide +kernel
theorem dJ2_indexOfCharUnsafe_4cfef_1 : decode cJ2_indexOfCharUnsafe_4cfef 1 = .ok (.istore 4, 2) := by decide +kernel
theorem dJ2_indexOfCharUnsafe_4cfef_3 : decode cJ2_indexOfCharUnsafe_4cfef 3 = .ok (.iload 4, 2) := by decide +kernel
theorem dJ2_indexOfCharUnsafe_4cfef_5 : decode cJ2_indexOfCharUnsafe_4cfef 5 = .ok (.iload_n 3, 1) := by decide +kernel
theorem dJ2_indexOfCharUnsafe_4cfef_6 : decode cJ2_indexOfCharUnsafe_4cfef 6 = .ok (.if_icmp .ge 22, 3) := by decide +kernel
theorem dJ2_indexOfCharUnsafe_4cfef_9 : decode cJ2_indexOfCharUnsafe_4cfef 9 = .ok (.aload_n 0, 1) := by decide +kernel
theorem dJ2_indexOfCharUnsafe_4cfef_10 : decode cJ2_indexOfCharUnsafe_4cfef 10 = .ok (.iload 4, 2) := by decide +kernel
theorem dJ2_indexOfCharUnsafe_4cfef_12 : decode cJ2_indexOfCharUnsafe_4cfef 12 = .ok (.invokestatic 71, 3) := by decide +kernel
theorem dJ2_indexOfCharUnsafe_4cfef_15 : decode cJ2_indexOfCharUnsafe_4cfef 15 = .ok (.iload_n 1, 1) := by decide +kernel
theorem dJ2_indexOfCharUnsafe_4cfef_16 : decode cJ2_indexOfCharUnsafe_4cfef 16 = .ok (.if_icmp .ne 6, 3) := by decide +kernel
theorem dJ2_indexOfCharUnsafe_4cfef_19 : decode cJ2_indexOfCharUnsafe_4cfef 19 = .ok (.iload 4, 2) := by decide +kernel
theorem dJ2_indexOfCharUnsafe_4cfef_21 : decode cJ2_indexOfCharUnsafe_4cfef 21 = .ok (.ireturn, 1) := by decide +kernel
theorem dJ2_indexOfCharUnsafe_4cfef_22 : decode cJ2_indexOfCharUnsafe_4cfef 22 = .ok (.iinc 4 1, 3) := by decide +kernel
theorem dJ2_indexOfCharUnsafe_4cfef_25 : decode cJ2_indexOfCharUnsafe_4cfef 25 = .ok (.goto (-22), 3) := by decide +kernel
theorem dJ2_indexOfCharUnsafe_4cfef_28 : decode cJ2_indexOfCharUnsafe_4cfef 28 = .ok (.iconst (-1), 1) := by decide +kernel
theorem dJ2_indexOfCharUnsafe_4cfef_29 : decode cJ2_indexOfCharUnsafe_4cfef 29 = .ok (.ireturn, 1) := by decide +kernel
theorem dJ2_indexOfSupplementary_4cfef_0 : decode cJ2_indexOfSupplementary_4cfef 0 = .ok (.iload_n 1, 1) := by decide +kernel
theorem dJ2_indexOfSupplementary_4cfef_1 : decode cJ2_indexOfSupplementary_4cfef 1 = .ok (.invokestatic 164, 3) := by decide +kernel
theorem dJ2_indexOfSupplementary_4cfef_4 : decode cJ2_indexOfSupplementary_4cfef 4 = .ok (.ifCond .eq 65, 3) := by decide +kernel
theorem dJ2_indexOfSupplementary_4cfef_7 : decode cJ2_indexOfSupplementary_4cfef 7 = .ok (.iload_n 1, 1) := by decide +kernel
theorem dJ2_indexOfSupplementary_4cfef_8 : decode cJ2_indexOfSupplementary_4cfef 8 = .ok (.invokestatic 157, 3) := by decide +kernel
theorem dJ2_indexOfSupplementary_4cfef_11 : decode cJ2_indexOfSupplementary_4cfef 11 = .ok (.istore 4, 2) := by decide +kernel
theorem dJ2_indexOfSupplementary_4cfef_13 : decode cJ2_indexOfSupplementary_4cfef 13 = .ok (.iload_n 1, 1) := by decide +kernel
theorem dJ2_indexOfSupplementary_4cfef_14 : decode cJ2_indexOfSupplementary_4cfef 14 = .ok (.invokestatic 161, 3) := by decide +kernel
theorem dJ2_indexOfSupplementary_4cfef_17 : decode cJ2_indexOfSupplementary_4cfef 17 = .ok (.istore 5, 2) := by decide +kernel
theorem dJ2_indexOfSupplementary_4cfef_19 : decode cJ2_indexOfSupplementary_4cfef 19 = .ok (.iload_n 2, 1) := by decide +kernel
theorem dJ2_indexOfSupplementary_4cfef_20 : decode cJ2_indexOfSupplementary_4cfef 20 = .ok (.iload_n 3, 1) := by decide +kernel
theorem dJ2_indexOfSupplementary_4cfef_21 : decode cJ2_indexOfSupplementary_4cfef 21 = .ok (.aload_n 0, 1) := by decide +kernel
theorem dJ2_indexOfSupplementary_4cfef_22 : decode cJ2_indexOfSupplementary_4cfef 22 = .ok (.invokestatic 96, 3) := by decide +kernel
theorem dJ2_indexOfSupplementary_4cfef_25 : decode cJ2_indexOfSupplementary_4cfef 25 = .ok (.iload_n 2, 1) := by decide +kernel
theorem dJ2_indexOfSupplementary_4cfef_26 : decode cJ2_indexOfSupplementary_4cfef 26 = .ok (.istore 6, 2) := by decide +kernel
theorem dJ2_indexOfSupplementary_4cfef_28 : decode cJ2_indexOfSupplementary_4cfef 28 = .ok (.iload 6, 2) := by decide +kernel
theorem dJ2_indexOfSupplementary_4cfef_30 : decode cJ2_indexOfSupplementary_4cfef 30 = .ok (.iload_n 3, 1) := by decide +kernel
theorem dJ2_indexOfSupplementary_4cfef_31 : decode cJ2_indexOfSupplementary_4cfef 31 = .ok (.iconst 1, 1) := by decide +kernel
theorem dJ2_indexOfSupplementary_4cfef_32 : decode cJ2_indexOfSupplementary_4cfef 32 = .ok (.isub, 1) := by decide +kernel
theorem dJ2_indexOfSupplementary_4cfef_33 : decode cJ2_indexOfSupplementary_4cfef 33 = .ok (.if_icmp .ge 36, 3) := by decide +kernel
theorem dJ2_indexOfSupplementary_4cfef_36 : decode cJ2_indexOfSupplementary_4cfef 36 = .ok (.aload_n 0, 1) := by decide +kernel
theorem dJ2_indexOfSupplementary_4cfef_37 : decode cJ2_indexOfSupplementary_4cfef 37 = .ok (.iload 6, 2) := by decide +kernel
theorem dJ2_indexOfSupplementary_4cfef_39 : decode cJ2_indexOfSupplementary_4cfef 39 = .ok (.invokestatic 71, 3) := by decide +kernel
theorem dJ2_indexOfSupplementary_4cfef_42 : decode cJ2_indexOfSupplementary_4cfef 42 = .ok (.iload 4, 2) := by decide +kernel
theorem dJ2_indexOfSupplementary_4cfef_44 : decode cJ2_indexOfSupplementary_4cfef 44 = .ok (.if_icmp .ne 19, 3) := by decide +kernel
theorem dJ2_indexOfSupplementary_4cfef_47 : decode cJ2_indexOfSupplementary_4cfef 47 = .ok (.aload_n 0, 1) := by decide +kernel
theorem dJ2_indexOfSupplementary_4cfef_48 : decode cJ2_indexOfSupplementary_4cfef 48 = .ok (.iload 6, 2) := by decide +kernel
theorem dJ2_indexOfSupplementary_4cfef_50 : decode cJ2_indexOfSupplementary_4cfef 50 = .ok (.iconst 1, 1) := by decide +kernel
theorem dJ2_indexOfSupplementary_4cfef_51 : decode cJ2_indexOfSupplementary_4cfef 51 = .ok (.iadd, 1) := by decide +kernel
theorem dJ2_indexOfSupplementary_4cfef_52 : decode cJ2_indexOfSupplementary_4cfef 52 = .ok (.invokestatic 71, 3) := by decide +kernel
theorem dJ2_indexOfSupplementary_4cfef_55 : decode cJ2_indexOfSupplementary_4cfef 55 = .ok (.iload 5, 2) := by decide +kernel
theorem dJ2_indexOfSupplementary_4cfef_57 : decode cJ2_indexOfSupplementary_4cfef 57 = .ok (.if_icmp .ne 6, 3) := by decide +kernel
theorem dJ2_indexOfSupplementary_4cfef_60 : decode cJ2_indexOfSupplementary_4cfef 60 = .ok (.iload 6, 2) := by decide +kernel
theorem dJ2_indexOfSupplementary_4cfef_62 : decode cJ2_indexOfSupplementary_4cfef 62 = .ok (.ireturn, 1) := by decide +kernel
theorem dJ2_indexOfSupplementary_4cfef_63 : decode cJ2_indexOfSupplementary_4cfef 63 = .ok (.iinc 6 1, 3) := by decide +kernel
theorem dJ2_indexOfSupplementary_4cfef_66 : decode cJ2_indexOfSupplementary_4cfef 66 = .ok (.goto (-38), 3) := by decide +kernel
theorem dJ2_indexOfSupplementary_4cfef_69 : decode cJ2_indexOfSupplementary_4cfef 69 = .ok (.iconst (-1), 1) := by decide +kernel
theorem dJ2_indexOfSupplementary_4cfef_70 : decode cJ2_indexOfSupplementary_4cfef 70 = .ok (.ireturn, 1) := by decide +kernel
theorem dJ2_checkBoundsBeginEnd_d044e_0 : decode cJ2_checkBoundsBeginEnd_d044e 0 = .ok (.iload_n 0, 1) := by decide +kernel
theorem dJ2_checkBoundsBeginEnd_d044e_1 : decode cJ2_checkBoundsBeginEnd_d044e 1 = .ok (.iload_n 1, 1) := by decide +kernel
theorem dJ2_checkBoundsBeginEnd_d044e_2 : decode cJ2_checkBoundsBeginEnd_d044e 2 = .ok (.aload_n 2, 1) := by decide +kernel
theorem dJ2_checkBoundsBeginEnd_d044e_3 : decode cJ2_checkBoundsBeginEnd_d044e 3 = .ok (.invokestatic 48, 3) := by decide +kernel
theorem dJ2_checkBoundsBeginEnd_d044e_6 : decode cJ2_checkBoundsBeginEnd_d044e 6 = .ok (.invokestatic 241, 3) := by decide +kernel
theorem dJ2_checkBoundsBeginEnd_d044e_9 : decode cJ2_checkBoundsBeginEnd_d044e 9 = .ok (.return_, 1) := by decide +kernel
theorem dJ7_fill_d0a16_0 : decode cJ7_fill_d0a16 0 = .ok (.iconst 0, 1) := by decide +kernel
theorem dJ7_fill_d0a16_1 : decode cJ7_fill_d0a16 1 = .ok (.istore_n 3, 1) := by decide +kernel
theorem dJ7_fill_d0a16_2 : decode cJ7_fill_d0a16 2 = .ok (.aload_n 0, 1) := by decide +kernel
theorem dJ7_fill_d0a16_3 : decode cJ7_fill_d0a16 3 = .ok (.arraylength, 1) := by decide +kernel
theorem dJ7_fill_d0a16_4 : decode cJ7_fill_d0a16 4 = .ok (.istore 4, 2) := by decide +kernel
theorem dJ7_fill_d0a16_6 : decode cJ7_fill_d0a16 6 = .ok (.iload_n 3, 1) := by decide +kernel
theorem dJ7_fill_d0a16_7 : decode cJ7_fill_d0a16 7 = .ok (.iload 4, 2) := by decide +kernel
theorem dJ7_fill_d0a16_9 : decode cJ7_fill_d0a16 9 = .ok (.if_icmp .ge 13, 3) := by decide +kernel
theorem dJ7_fill_d0a16_12 : decode cJ7_fill_d0a16 12 = .ok (.aload_n 0, 1) := by decide +kernel
theorem dJ7_fill_d0a16_13 : decode cJ7_fill_d0a16 13 = .ok (.iload_n 3, 1) := by decide +kernel
theorem dJ7_fill_d0a16_14 : decode cJ7_fill_d0a16 14 = .ok (.lload_n 1, 1) := by decide +kernel
theorem dJ7_fill_d0a16_15 : decode cJ7_fill_d0a16 15 = .ok (.lastore, 1) := by decide +kernel
theorem dJ7_fill_d0a16_16 : decode cJ7_fill_d0a16 16 = .ok (.iinc 3 1, 3) := by decide +kernel
theorem dJ7_fill_d0a16_19 : decode cJ7_fill_d0a16 19 = .ok (.goto (-13), 3) := by decide +kernel
theorem dJ7_fill_d0a16_22 : decode cJ7_fill_d0a16 22 = .ok (.return_, 1) := by decide +kernel
theorem dJ7_fill_53178_0 : decode cJ7_fill_53178 0 = .ok (.iconst 0, 1) := by decide +kernel
theorem dJ7_fill_53178_1 : decode cJ7_fill_53178 1 = .ok (.istore_n 2, 1) := by decide +kernel
theorem dJ7_fill_53178_2 : decode cJ7_fill_53178 2 = .ok (.aload_n 0, 1) := by decide +kernel
theorem dJ7_fill_53178_3 : decode cJ7_fill_53178 3 = .ok (.arraylength, 1) := by decide +kernel
theorem dJ7_fill_53178_4 : decode cJ7_fill_53178 4 = .ok (.istore_n 3, 1) := by decide +kernel
theorem dJ7_fill_53178_5 : decode cJ7_fill_53178 5 = .ok (.iload_n 2, 1) := by decide +kernel
theorem dJ7_fill_53178_6 : decode cJ7_fill_53178 6 = .ok (.iload_n 3, 1) := by decide +kernel
theorem dJ7_fill_53178_7 : decode cJ7_fill_53178 7 = .ok (.if_icmp .ge 13, 3) := by decide +kernel
theorem dJ7_fill_53178_10 : decode cJ7_fill_53178 10 = .ok (.aload_n 0, 1) := by decide +kernel
theorem dJ7_fill_53178_11 : decode cJ7_fill_53178 11 = .ok (.iload_n 2, 1) := by decide +kernel
theorem dJ7_fill_53178_12 : decode cJ7_fill_53178 12 = .ok (.iload_n 1, 1) := by decide +kernel
theorem dJ7_fill_53178_13 : decode cJ7_fill_53178 13 = .ok (.iastore, 1) := by decide +kernel
theorem dJ7_fill_53178_14 : decode cJ7_fill_53178 14 = .ok (.iinc 2 1, 3) := by decide +kernel
theorem dJ7_fill_53178_17 : decode cJ7_fill_53178 17 = .ok (.goto (-12), 3) := by decide +kernel
theorem dJ7_fill_53178_20 : decode cJ7_fill_53178 20 = .ok (.return_, 1) := by decide +kernel
theorem dJ3_checkFromToIndex_8c36e_0 : decode cJ3_checkFromToIndex_8c36e 0 = .ok (.iload_n 0, 1) := by decide +kernel
theorem dJ3_checkFromToIndex_8c36e_1 : decode cJ3_checkFromToIndex_8c36e 1 = .ok (.ifCond .lt 13, 3) := by decide +kernel
theorem dJ3_checkFromToIndex_8c36e_4 : decode cJ3_checkFromToIndex_8c36e 4 = .ok (.iload_n 0, 1) := by decide +kernel
theorem dJ3_checkFromToIndex_8c36e_5 : decode cJ3_checkFromToIndex_8c36e 5 = .ok (.iload_n 1, 1) := by decide +kernel
theorem dJ3_checkFromToIndex_8c36e_6 : decode cJ3_checkFromToIndex_8c36e 6 = .ok (.if_icmp .gt 8, 3) := by decide +kernel
theorem dJ3_checkFromToIndex_8c36e_9 : decode cJ3_checkFromToIndex_8c36e 9 = .ok (.iload_n 1, 1) := by decide +kernel
theorem dJ3_checkFromToIndex_8c36e_10 : decode cJ3_checkFromToIndex_8c36e 10 = .ok (.iload_n 2, 1) := by decide +kernel
theorem dJ3_checkFromToIndex_8c36e_11 : decode cJ3_checkFromToIndex_8c36e 11 = .ok (.if_icmp .le 11, 3) := by decide +kernel
theorem dJ3_checkFromToIndex_8c36e_14 : decode cJ3_checkFromToIndex_8c36e 14 = .ok (.aload_n 3, 1) := by decide +kernel
theorem dJ3_checkFromToIndex_8c36e_15 : decode cJ3_checkFromToIndex_8c36e 15 = .ok (.iload_n 0, 1) := by decide +kernel
theorem dJ3_checkFromToIndex_8c36e_16 : decode cJ3_checkFromToIndex_8c36e 16 = .ok (.iload_n 1, 1) := by decide +kernel
theorem dJ3_checkFromToIndex_8c36e_17 : decode cJ3_checkFromToIndex_8c36e 17 = .ok (.iload_n 2, 1) := by decide +kernel
theorem dJ3_checkFromToIndex_8c36e_18 : decode cJ3_checkFromToIndex_8c36e 18 = .ok (.invokestatic 99, 3) := by decide +kernel
theorem dJ3_checkFromToIndex_8c36e_21 : decode cJ3_checkFromToIndex_8c36e 21 = .ok (.athrow, 1) := by decide +kernel
theorem dJ3_checkFromToIndex_8c36e_22 : decode cJ3_checkFromToIndex_8c36e 22 = .ok (.iload_n 0, 1) := by decide +kernel
theorem dJ3_checkFromToIndex_8c36e_23 : decode cJ3_checkFromToIndex_8c36e 23 = .ok (.ireturn, 1) := by decide +kernel
end
section
theorem dX8_init_0 : decode cX8_init 0 = .ok (.aload_n 0, 1) := by decide +kernel
theorem dX8_init_1 : decode cX8_init 1 = .ok (.invokespecial 1, 3) := by decide +kernel
theorem dX8_init_4 : decode cX8_init 4 = .ok (.aload_n 0, 1) := by decide +kernel
theorem dX8_init_5 : decode cX8_init 5 = .ok (.bipush 12, 2) := by decide +kernel
theorem dX8_init_7 : decode cX8_init 7 = .ok (.newarray .int, 2) := by decide +kernel
theorem dX8_init_9 : decode cX8_init 9 = .ok (.putfield 7, 3) := by decide +kernel
theorem dX8_init_12 : decode cX8_init 12 = .ok (.aload_n 0, 1) := by decide +kernel
theorem dX8_init_13 : decode cX8_init 13 = .ok (.bipush 12, 2) := by decide +kernel
theorem dX8_init_15 : decode cX8_init 15 = .ok (.newarray .int, 2) := by decide +kernel
theorem dX8_init_17 : decode cX8_init 17 = .ok (.putfield 13, 3) := by decide +kernel
theorem dX8_init_20 : decode cX8_init 20 = .ok (.aload_n 0, 1) := by decide +kernel
theorem dX8_init_21 : decode cX8_init 21 = .ok (.bipush 12, 2) := by decide +kernel
theorem dX8_init_23 : decode cX8_init 23 = .ok (.newarray .int, 2) := by decide +kernel
theorem dX8_init_25 : decode cX8_init 25 = .ok (.dup, 1) := by decide +kernel
theorem dX8_init_26 : decode cX8_init 26 = .ok (.iconst 0, 1) := by decide +kernel
theorem dX8_init_27 : decode cX8_init 27 = .ok (.iconst (-1), 1) := by decide +kernel
theorem dX8_init_28 : decode cX8_init 28 = .ok (.iastore, 1) := by decide +kernel
theorem dX8_init_29 : decode cX8_init 29 = .ok (.dup, 1) := by decide +kernel
theorem dX8_init_30 : decode cX8_init 30 = .ok (.iconst 1, 1) := by decide +kernel
theorem dX8_init_31 : decode cX8_init 31 = .ok (.iconst (-1), 1) := by decide +kernel
theorem dX8_init_32 : decode cX8_init 32 = .ok (.iastore, 1) := by decide +kernel
theorem dX8_init_33 : decode cX8_init 33 = .ok (.dup, 1) := by decide +kernel
theorem dX8_init_34 : decode cX8_init 34 = .ok (.iconst 2, 1) := by decide +kernel
theorem dX8_init_35 : decode cX8_init 35 = .ok (.iconst (-1), 1) := by decide +kernel
theorem dX8_init_36 : decode cX8_init 36 = .ok (.iastore, 1) := by decide +kernel
theorem dX8_init_37 : decode cX8_init 37 = .ok (.dup, 1) := by decide +kernel
theorem dX8_init_38 : decode cX8_init 38 = .ok (.iconst 3, 1) := by decide +kernel
theorem dX8_init_39 : decode cX8_init 39 = .ok (.iconst (-1), 1) := by decide +kernel
theorem dX8_init_40 : decode cX8_init 40 = .ok (.iastore, 1) := by decide +kernel
theorem dX8_init_41 : decode cX8_init 41 = .ok (.dup, 1) := by decide +kernel
theorem dX8_init_42 : decode cX8_init 42 = .ok (.iconst 4, 1) := by decide +kernel
theorem dX8_init_43 : decode cX8_init 43 = .ok (.iconst (-1), 1) := by decide +kernel
theorem dX8_init_44 : decode cX8_init 44 = .ok (.iastore, 1) := by decide +kernel
theorem dX8_init_45 : decode cX8_init 45 = .ok (.dup, 1) := by decide +kernel
theorem dX8_init_46 : decode cX8_init 46 = .ok (.iconst 5, 1) := by decide +kernel
theorem dX8_init_47 : decode cX8_init 47 = .ok (.iconst (-1), 1) := by decide +kernel
theorem dX8_init_48 : decode cX8_init 48 = .ok (.iastore, 1) := by decide +kernel
theorem dX8_init_49 : decode cX8_init 49 = .ok (.dup, 1) := by decide +kernel
theorem dX8_init_50 : decode cX8_init 50 = .ok (.bipush 6, 2) := by decide +kernel
theorem dX8_init_52 : decode cX8_init 52 = .ok (.iconst (-1), 1) := by decide +kernel
theorem dX8_init_53 : decode cX8_init 53 = .ok (.iastore, 1) := by decide +kernel
theorem dX8_init_54 : decode cX8_init 54 = .ok (.dup, 1) := by decide +kernel
theorem dX8_init_55 : decode cX8_init 55 = .ok (.bipush 7, 2) := by decide +kernel
theorem dX8_init_57 : decode cX8_init 57 = .ok (.iconst (-1), 1) := by decide +kernel
theorem dX8_init_58 : decode cX8_init 58 = .ok (.iastore, 1) := by decide +kernel
theorem dX8_init_59 : decode cX8_init 59 = .ok (.dup, 1) := by decide +kernel
theorem dX8_init_60 : decode cX8_init 60 = .ok (.bipush 8, 2) := by decide +kernel
theorem dX8_init_62 : decode cX8_init 62 = .ok (.iconst (-1), 1) := by decide +kernel
theorem dX8_init_63 : decode cX8_init 63 = .ok (.iastore, 1) := by decide +kernel
theorem dX8_init_64 : decode cX8_init 64 = .ok (.dup, 1) := by decide +kernel
theorem dX8_init_65 : decode cX8_init 65 = .ok (.bipush 9, 2) := by decide +kernel
theorem dX8_init_67 : decode cX8_init 67 = .ok (.iconst (-1), 1) := by decide +kernel
theorem dX8_init_68 : decode cX8_init 68 = .ok (.iastore, 1) := by decide +kernel
theorem dX8_init_69 : decode cX8_init 69 = .ok (.dup, 1) := by decide +kernel
theorem dX8_init_70 : decode cX8_init 70 = .ok (.bipush 10, 2) := by decide +kernel
theorem dX8_init_72 : decode cX8_init 72 = .ok (.iconst (-1), 1) := by decide +kernel
theorem dX8_init_73 : decode cX8_init 73 = .ok (.iastore, 1) := by decide +kernel
theorem dX8_init_74 : decode cX8_init 74 = .ok (.dup, 1) := by decide +kernel
theorem dX8_init_75 : decode cX8_init 75 = .ok (.bipush 11, 2) := by decide +kernel
theorem dX8_init_77 : decode cX8_init 77 = .ok (.iconst (-1), 1) := by decide +kernel
theorem dX8_init_78 : decode cX8_init 78 = .ok (.iastore, 1) := by decide +kernel
theorem dX8_init_79 : decode cX8_init 79 = .ok (.putfield 16, 3) := by decide +kernel
theorem dX8_init_82 : decode cX8_init 82 = .ok (.aload_n 0, 1) := by decide +kernel
theorem dX8_init_83 : decode cX8_init 83 = .ok (.bipush 16, 2) := by decide +kernel
theorem dX8_init_85 : decode cX8_init 85 = .ok (.newarray .int, 2) := by decide +kernel
theorem dX8_init_87 : decode cX8_init 87 = .ok (.putfield 19, 3) := by decide +kernel
theorem dX8_init_90 : decode cX8_init 90 = .ok (.aload_n 0, 1) := by decide +kernel
theorem dX8_init_91 : decode cX8_init 91 = .ok (.bipush 16, 2) := by decide +kernel
theorem dX8_init_93 : decode cX8_init 93 = .ok (.newarray .int, 2) := by decide +kernel
theorem dX8_init_95 : decode cX8_init 95 = .ok (.putfield 22, 3) := by decide +kernel
theorem dX8_init_98 : decode cX8_init 98 = .ok (.aload_n 0, 1) := by decide +kernel
theorem dX8_init_99 : decode cX8_init 99 = .ok (.bipush 16, 2) := by decide +kernel
theorem dX8_init_101 : decode cX8_init 101 = .ok (.newarray .int, 2) := by decide +kernel
theorem dX8_init_103 : decode cX8_init 103 = .ok (.putfield 25, 3) := by decide +kernel
theorem dX8_init_106 : decode cX8_init 106 = .ok (.aload_n 0, 1) := by decide +kernel
theorem dX8_init_107 : decode cX8_init 107 = .ok (.bipush 12, 2) := by decide +kernel
theorem dX8_init_109 : decode cX8_init 109 = .ok (.newarray .int, 2) := by decide +kernel
theorem dX8_init_111 : decode cX8_init 111 = .ok (.dup, 1) := by decide +kernel
theorem dX8_init_112 : decode cX8_init 112 = .ok (.iconst 0, 1) := by decide +kernel
theorem dX8_init_113 : decode cX8_init 113 = .ok (.iconst 1, 1) := by decide +kernel
theorem dX8_init_114 : decode cX8_init 114 = .ok (.iastore, 1) := by decide +kernel
theorem dX8_init_115 : decode cX8_init 115 = .ok (.dup, 1) := by decide +kernel
theorem dX8_init_116 : decode cX8_init 116 = .ok (.iconst 1, 1) := by decide +kernel
theorem dX8_init_117 : decode cX8_init 117 = .ok (.iconst 1, 1) := by decide +kernel
theorem dX8_init_118 : decode cX8_init 118 = .ok (.iastore, 1) := by decide +kernel
theorem dX8_init_119 : decode cX8_init 119 = .ok (.dup, 1) := by decide +kernel
theorem dX8_init_120 : decode cX8_init 120 = .ok (.iconst 2, 1) := by decide +kernel
theorem dX8_init_121 : decode cX8_init 121 = .ok (.iconst 1, 1) := by decide +kernel
theorem dX8_init_122 : decode cX8_init 122 = .ok (.iastore, 1) := by decide +kernel
theorem dX8_init_123 : decode cX8_init 123 = .ok (.dup, 1) := by decide +kernel
theorem dX8_init_124 : decode cX8_init 124 = .ok (.iconst 3, 1) := by decide +kernel
theorem dX8_init_125 : decode cX8_init 125 = .ok (.iconst 1, 1) := by decide +kernel
theorem dX8_init_126 : decode cX8_init 126 = .ok (.iastore, 1) := by decide +kernel
theorem dX8_init_127 : decode cX8_init 127 = .ok (.dup, 1) := by decide +kernel
theorem dX8_init_128 : decode cX8_init 128 = .ok (.iconst 4, 1) := by decide +kernel
theorem dX8_init_129 : decode cX8_init 129 = .ok (.iconst 1, 1) := by decide +kernel
theorem dX8_init_130 : decode cX8_init 130 = .ok (.iastore, 1) := by decide +kernel
theorem dX8_init_131 : decode cX8_init 131 = .ok (.dup, 1) := by decide +kernel
theorem dX8_init_132 : decode cX8_init 132 = .ok (.iconst 5, 1) := by decide +kernel
theorem dX8_init_133 : decode cX8_init 133 = .ok (.iconst 1, 1) := by decide +kernel
theorem dX8_init_134 : decode cX8_init 134 = .ok (.iastore, 1) := by decide +kernel
theorem dX8_init_135 : decode cX8_init 135 = .ok (.dup, 1) := by decide +kernel
theorem dX8_init_136 : decode cX8_init 136 = .ok (.bipush 6, 2) := by decide +kernel
theorem dX8_init_138 : decode cX8_init 138 = .ok (.iconst 1, 1) := by decide +kernel
theorem dX8_init_139 : decode cX8_init 139 = .ok (.iastore, 1) := by decide +kernel
theorem dX8_init_140 : decode cX8_init 140 = .ok (.dup, 1) := by decide +kernel
theorem dX8_init_141 : decode cX8_init 141 = .ok (.bipush 7, 2) := by decide +kernel
theorem dX8_init_143 : decode cX8_init 143 = .ok (.iconst 1, 1) := by decide +kernel
theorem dX8_init_144 : decode cX8_init 144 = .ok (.iastore, 1) := by decide +kernel
theorem dX8_init_145 : decode cX8_init 145 = .ok (.dup, 1) := by decide +kernel
theorem dX8_init_146 : decode cX8_init 146 = .ok (.bipush 8, 2) := by decide +kernel
theorem dX8_init_148 : decode cX8_init 148 = .ok (.iconst 1, 1) := by decide +kernel
theorem dX8_init_149 : decode cX8_init 149 = .ok (.iastore, 1) := by decide +kernel
theorem dX8_init_150 : decode cX8_init 150 = .ok (.dup, 1) := by decide +kernel
theorem dX8_init_151 : decode cX8_init 151 = .ok (.bipush 9, 2) := by decide +kernel
theorem dX8_init_153 : decode cX8_init 153 = .ok (.iconst 1, 1) := by decide +kernel
theorem dX8_init_154 : decode cX8_init 154 = .ok (.iastore, 1) := by decide +kernel
theorem dX8_init_155 : decode cX8_init 155 = .ok (.dup, 1) := by decide +kernel
theorem dX8_init_156 : decode cX8_init 156 = .ok (.bipush 10, 2) := by decide +kernel
theorem dX8_init_158 : decode cX8_init 158 = .ok (.iconst 1, 1) := by decide +kernel
theorem dX8_init_159 : decode cX8_init 159 = .ok (.iastore, 1) := by decide +kernel
theorem dX8_init_160 : decode cX8_init 160 = .ok (.dup, 1) := by decide +kernel
theorem dX8_init_161 : decode cX8_init 161 = .ok (.bipush 11, 2) := by decide +kernel
theorem dX8_init_163 : decode cX8_init 163 = .ok (.iconst 1, 1) := by decide +kernel
theorem dX8_init_164 : decode cX8_init 164 = .ok (.iastore, 1) := by decide +kernel
theorem dX8_init_165 : decode cX8_init 165 = .ok (.putfield 28, 3) := by decide +kernel
theorem dX8_init_168 : decode cX8_init 168 = .ok (.aload_n 0, 1) := by decide +kernel
theorem dX8_init_169 : decode cX8_init 169 = .ok (.bipush 12, 2) := by decide +kernel
theorem dX8_init_171 : decode cX8_init 171 = .ok (.newarray .int, 2) := by decide +kernel
theorem dX8_init_173 : decode cX8_init 173 = .ok (.putfield 31, 3) := by decide +kernel
theorem dX8_init_176 : decode cX8_init 176 = .ok (.aload_n 0, 1) := by decide +kernel
theorem dX8_init_177 : decode cX8_init 177 = .ok (.bipush 40, 2) := by decide +kernel
theorem dX8_init_179 : decode cX8_init 179 = .ok (.newarray .int, 2) := by decide +kernel
theorem dX8_init_181 : decode cX8_init 181 = .ok (.putfield 34, 3) := by decide +kernel
theorem dX8_init_184 : decode cX8_init 184 = .ok (.aload_n 0, 1) := by decide +kernel
theorem dX8_init_185 : decode cX8_init 185 = .ok (.bipush 40, 2) := by decide +kernel
theorem dX8_init_187 : decode cX8_init 187 = .ok (.newarray .int, 2) := by decide +kernel
theorem dX8_init_189 : decode cX8_init 189 = .ok (.putfield 37, 3) := by decide +kernel
theorem dX8_init_192 : decode cX8_init 192 = .ok (.aload_n 0, 1) := by decide +kernel
theorem dX8_init_193 : decode cX8_init 193 = .ok (.bipush 40, 2) := by decide +kernel
theorem dX8_init_195 : decode cX8_init 195 = .ok (.newarray .int, 2) := by decide +kernel
theorem dX8_init_197 : decode cX8_init 197 = .ok (.putfield 40, 3) := by decide +kernel
theorem dX8_init_200 : decode cX8_init 200 = .ok (.aload_n 0, 1) := by decide +kernel
theorem dX8_init_201 : decode cX8_init 201 = .ok (.bipush 40, 2) := by decide +kernel
theorem dX8_init_203 : decode cX8_init 203 = .ok (.newarray .int, 2) := by decide +kernel
theorem dX8_init_205 : decode cX8_init 205 = .ok (.putfield 43, 3) := by decide +kernel
theorem dX8_init_208 : decode cX8_init 208 = .ok (.aload_n 0, 1) := by decide +kernel
theorem dX8_init_209 : decode cX8_init 209 = .ok (.bipush 120, 2) := by decide +kernel
theorem dX8_init_211 : decode cX8_init 211 = .ok (.newarray .byte, 2) := by decide +kernel
theorem dX8_init_213 : decode cX8_init 213 = .ok (.putfield 46, 3) := by decide +kernel
theorem dX8_init_216 : decode cX8_init 216 = .ok (.aload_n 0, 1) := by decide +kernel
theorem dX8_init_217 : decode cX8_init 217 = .ok (.sipush 260, 3) := by decide +kernel
theorem dX8_init_220 : decode cX8_init 220 = .ok (.newarray .byte, 2) := by decide +kernel
theorem dX8_init_222 : decode cX8_init 222 = .ok (.putfield 50, 3) := by decide +kernel
theorem dX8_init_225 : decode cX8_init 225 = .ok (.aload_n 0, 1) := by decide +kernel
theorem dX8_init_226 : decode cX8_init 226 = .ok (.sipush 260, 3) := by decide +kernel
theorem dX8_init_229 : decode cX8_init 229 = .ok (.newarray .int, 2) := by decide +kernel
theorem dX8_init_231 : decode cX8_init 231 = .ok (.putfield 53, 3) := by decide +kernel
theorem dX8_init_234 : decode cX8_init 234 = .ok (.aload_n 0, 1) := by decide +kernel
theorem dX8_init_235 : decode cX8_init 235 = .ok (.iconst 2, 1) := by decide +kernel
theorem dX8_init_236 : decode cX8_init 236 = .ok (.newarray .int, 2) := by decide +kernel
theorem dX8_init_238 : decode cX8_init 238 = .ok (.putfield 56, 3) := by decide +kernel
theorem dX8_init_241 : decode cX8_init 241 = .ok (.aload_n 0, 1) := by decide +kernel
theorem dX8_init_242 : decode cX8_init 242 = .ok (.bipush 122, 2) := by decide +kernel
theorem dX8_init_244 : decode cX8_init 244 = .ok (.newarray .short, 2) := by decide +kernel
theorem dX8_init_246 : decode cX8_init 246 = .ok (.putfield 59, 3) := by decide +kernel
theorem dX8_init_249 : decode cX8_init 249 = .ok (.aload_n 0, 1) := by decide +kernel
theorem dX8_init_250 : decode cX8_init 250 = .ok (.bipush 122, 2) := by decide +kernel
theorem dX8_init_252 : decode cX8_init 252 = .ok (.newarray .short, 2) := by decide +kernel
theorem dX8_init_254 : decode cX8_init 254 = .ok (.putfield 63, 3) := by decide +kernel
theorem dX8_init_257 : decode cX8_init 257 = .ok (.aload_n 0, 1) := by decide +kernel
theorem dX8_init_258 : decode cX8_init 258 = .ok (.bipush 6, 2) := by decide +kernel
theorem dX8_init_260 : decode cX8_init 260 = .ok (.newarray .int, 2) := by decide +kernel
theorem dX8_init_262 : decode cX8_init 262 = .ok (.putfield 66, 3) := by decide +kernel
theorem dX8_init_265 : decode cX8_init 265 = .ok (.aload_n 0, 1) := by decide +kernel
theorem dX8_init_266 : decode cX8_init 266 = .ok (.sipush 130, 3) := by decide +kernel
theorem dX8_init_269 : decode cX8_init 269 = .ok (.newarray .int, 2) := by decide +kernel
theorem dX8_init_271 : decode cX8_init 271 = .ok (.putfield 69, 3) := by decide +kernel
theorem dX8_init_274 : decode cX8_init 274 = .ok (.aload_n 0, 1) := by decide +kernel
theorem dX8_init_275 : decode cX8_init 275 = .ok (.bipush 12, 2) := by decide +kernel
theorem dX8_init_277 : decode cX8_init 277 = .ok (.newarray .int, 2) := by decide +kernel
theorem dX8_init_279 : decode cX8_init 279 = .ok (.putfield 72, 3) := by decide +kernel
theorem dX8_init_282 : decode cX8_init 282 = .ok (.aload_n 0, 1) := by decide +kernel
theorem dX8_init_283 : decode cX8_init 283 = .ok (.bipush 16, 2) := by decide +kernel
theorem dX8_init_285 : decode cX8_init 285 = .ok (.newarray .boolean, 2) := by decide +kernel
theorem dX8_init_287 : decode cX8_init 287 = .ok (.putfield 75, 3) := by decide +kernel
theorem dX8_init_290 : decode cX8_init 290 = .ok (.aload_n 0, 1) := by decide +kernel
theorem dX8_init_291 : decode cX8_init 291 = .ok (.bipush 12, 2) := by decide +kernel
theorem dX8_init_293 : decode cX8_init 293 = .ok (.newarray .int, 2) := by decide +kernel
theorem dX8_init_295 : decode cX8_init 295 = .ok (.putfield 79, 3) := by decide +kernel
theorem dX8_init_298 : decode cX8_init 298 = .ok (.aload_n 0, 1) := by decide +kernel
theorem dX8_init_299 : decode cX8_init 299 = .ok (.bipush 12, 2) := by decide +kernel
theorem dX8_init_301 : decode cX8_init 301 = .ok (.newarray .int, 2) := by decide +kernel
theorem dX8_init_303 : decode cX8_init 303 = .ok (.putfield 82, 3) := by decide +kernel
theorem dX8_init_306 : decode cX8_init 306 = .ok (.aload_n 0, 1) := by decide +kernel
theorem dX8_init_307 : decode cX8_init 307 = .ok (.bipush 12, 2) := by decide +kernel
theorem dX8_init_309 : decode cX8_init 309 = .ok (.newarray .int, 2) := by decide +kernel
theorem dX8_init_311 : decode cX8_init 311 = .ok (.putfield 85, 3) := by decide +kernel
theorem dX8_init_314 : decode cX8_init 314 = .ok (.aload_n 0, 1) := by decide +kernel
theorem dX8_init_315 : decode cX8_init 315 = .ok (.bipush 50, 2) := by decide +kernel
theorem dX8_init_317 : decode cX8_init 317 = .ok (.newarray .int, 2) := by decide +kernel
theorem dX8_init_319 : decode cX8_init 319 = .ok (.putfield 88, 3) := by decide +kernel
theorem dX8_init_322 : decode cX8_init 322 = .ok (.aload_n 0, 1) := by decide +kernel
theorem dX8_init_323 : decode cX8_init 323 = .ok (.bipush 24, 2) := by decide +kernel
theorem dX8_init_325 : decode cX8_init 325 = .ok (.newarray .int, 2) := by decide +kernel
theorem dX8_init_327 : decode cX8_init 327 = .ok (.putfield 91, 3) := by decide +kernel
theorem dX8_init_330 : decode cX8_init 330 = .ok (.aload_n 0, 1) := by decide +kernel
theorem dX8_init_331 : decode cX8_init 331 = .ok (.bipush 6, 2) := by decide +kernel
theorem dX8_init_333 : decode cX8_init 333 = .ok (.newarray .int, 2) := by decide +kernel
theorem dX8_init_335 : decode cX8_init 335 = .ok (.dup, 1) := by decide +kernel
theorem dX8_init_336 : decode cX8_init 336 = .ok (.iconst 0, 1) := by decide +kernel
theorem dX8_init_337 : decode cX8_init 337 = .ok (.iconst (-1), 1) := by decide +kernel
theorem dX8_init_338 : decode cX8_init 338 = .ok (.iastore, 1) := by decide +kernel
theorem dX8_init_339 : decode cX8_init 339 = .ok (.dup, 1) := by decide +kernel
theorem dX8_init_340 : decode cX8_init 340 = .ok (.iconst 1, 1) := by decide +kernel
theorem dX8_init_341 : decode cX8_init 341 = .ok (.iconst (-1), 1) := by decide +kernel
theorem dX8_init_342 : decode cX8_init 342 = .ok (.iastore, 1) := by decide +kernel
theorem dX8_init_343 : decode cX8_init 343 = .ok (.dup, 1) := by decide +kernel
theorem dX8_init_344 : decode cX8_init 344 = .ok (.iconst 2, 1) := by decide +kernel
theorem dX8_init_345 : decode cX8_init 345 = .ok (.iconst (-1), 1) := by decide +kernel
theorem dX8_init_346 : decode cX8_init 346 = .ok (.iastore, 1) := by decide +kernel
theorem dX8_init_347 : decode cX8_init 347 = .ok (.dup, 1) := by decide +kernel
theorem dX8_init_348 : decode cX8_init 348 = .ok (.iconst 3, 1) := by decide +kernel
theorem dX8_init_349 : decode cX8_init 349 = .ok (.iconst (-1), 1) := by decide +kernel
theorem dX8_init_350 : decode cX8_init 350 = .ok (.iastore, 1) := by decide +kernel
theorem dX8_init_351 : decode cX8_init 351 = .ok (.dup, 1) := by decide +kernel
theorem dX8_init_352 : decode cX8_init 352 = .ok (.iconst 4, 1) := by decide +kernel
theorem dX8_init_353 : decode cX8_init 353 = .ok (.iconst (-1), 1) := by decide +kernel
theorem dX8_init_354 : decode cX8_init 354 = .ok (.iastore, 1) := by decide +kernel
theorem dX8_init_355 : decode cX8_init 355 = .ok (.dup, 1) := by decide +kernel
theorem dX8_init_356 : decode cX8_init 356 = .ok (.iconst 5, 1) := by decide +kernel
theorem dX8_init_357 : decode cX8_init 357 = .ok (.iconst (-1), 1) := by decide +kernel
theorem dX8_init_358 : decode cX8_init 358 = .ok (.iastore, 1) := by decide +kernel
theorem dX8_init_359 : decode cX8_init 359 = .ok (.putfield 94, 3) := by decide +kernel
theorem dX8_init_362 : decode cX8_init 362 = .ok (.aload_n 0, 1) := by decide +kernel
theorem dX8_init_363 : decode cX8_init 363 = .ok (.bipush 6, 2) := by decide +kernel
theorem dX8_init_365 : decode cX8_init 365 = .ok (.newarray .int, 2) := by decide +kernel
theorem dX8_init_367 : decode cX8_init 367 = .ok (.putfield 97, 3) := by decide +kernel
theorem dX8_init_370 : decode cX8_init 370 = .ok (.aload_n 0, 1) := by decide +kernel
theorem dX8_init_371 : decode cX8_init 371 = .ok (.sipush 360, 3) := by decide +kernel
theorem dX8_init_374 : decode cX8_init 374 = .ok (.newarray .long, 2) := by decide +kernel
theorem dX8_init_376 : decode cX8_init 376 = .ok (.putfield 100, 3) := by decide +kernel
theorem dX8_init_379 : decode cX8_init 379 = .ok (.aload_n 0, 1) := by decide +kernel
theorem dX8_init_380 : decode cX8_init 380 = .ok (.bipush 60, 2) := by decide +kernel
theorem dX8_init_382 : decode cX8_init 382 = .ok (.newarray .long, 2) := by decide +kernel
theorem dX8_init_384 : decode cX8_init 384 = .ok (.putfield 104, 3) := by decide +kernel
theorem dX8_init_387 : decode cX8_init 387 = .ok (.return_, 1) := by decide +kernel
theorem dX8_in_0 : decode cX8_in 0 = .ok (.iload_n 0, 1) := by decide +kernel
theorem dX8_in_1 : decode cX8_in 1 = .ok (.iload_n 1, 1) := by decide +kernel
theorem dX8_in_2 : decode cX8_in 2 = .ok (.if_icmp .lt 12, 3) := by decide +kernel
theorem dX8_in_5 : decode cX8_in 5 = .ok (.iload_n 0, 1) := by decide +kernel
theorem dX8_in_6 : decode cX8_in 6 = .ok (.iload_n 2, 1) := by decide +kernel
theorem dX8_in_7 : decode cX8_in 7 = .ok (.if_icmp .gt 7, 3) := by decide +kernel
theorem dX8_in_10 : decode cX8_in 10 = .ok (.iconst 1, 1) := by decide +kernel
theorem dX8_in_11 : decode cX8_in 11 = .ok (.goto 4, 3) := by decide +kernel
theorem dX8_in_14 : decode cX8_in 14 = .ok (.iconst 0, 1) := by decide +kernel
theorem dX8_in_15 : decode cX8_in 15 = .ok (.ireturn, 1) := by decide +kernel
theorem dX8_bitsOf_0 : decode cX8_bitsOf 0 = .ok (.iconst 0, 1) := by decide +kernel
theorem dX8_bitsOf_1 : decode cX8_bitsOf 1 = .ok (.istore_n 1, 1) := by decide +kernel
theorem dX8_bitsOf_2 : decode cX8_bitsOf 2 = .ok (.iload_n 0, 1) := by decide +kernel
theorem dX8_bitsOf_3 : decode cX8_bitsOf 3 = .ok (.istore_n 2, 1) := by decide +kernel
theorem dX8_bitsOf_4 : decode cX8_bitsOf 4 = .ok (.iload_n 2, 1) := by decide +kernel
theorem dX8_bitsOf_5 : decode cX8_bitsOf 5 = .ok (.ifCond .eq 15, 3) := by decide +kernel
theorem dX8_bitsOf_8 : decode cX8_bitsOf 8 = .ok (.iinc 1 1, 3) := by decide +kernel
theorem dX8_bitsOf_11 : decode cX8_bitsOf 11 = .ok (.iload_n 2, 1) := by decide +kernel
theorem dX8_bitsOf_12 : decode cX8_bitsOf 12 = .ok (.iload_n 2, 1) := by decide +kernel
theorem dX8_bitsOf_13 : decode cX8_bitsOf 13 = .ok (.iconst 1, 1) := by decide +kernel
theorem dX8_bitsOf_14 : decode cX8_bitsOf 14 = .ok (.isub, 1) := by decide +kernel
theorem dX8_bitsOf_15 : decode cX8_bitsOf 15 = .ok (.iand, 1) := by decide +kernel
theorem dX8_bitsOf_16 : decode cX8_bitsOf 16 = .ok (.istore_n 2, 1) := by decide +kernel
theorem dX8_bitsOf_17 : decode cX8_bitsOf 17 = .ok (.goto (-13), 3) := by decide +kernel
theorem dX8_bitsOf_20 : decode cX8_bitsOf 20 = .ok (.iload_n 1, 1) := by decide +kernel
theorem dX8_bitsOf_21 : decode cX8_bitsOf 21 = .ok (.ireturn, 1) := by decide +kernel
theorem dX8_isPerson_0 : decode cX8_isPerson 0 = .ok (.iload_n 1, 1) := by decide +kernel
theorem dX8_isPerson_1 : decode cX8_isPerson 1 = .ok (.iconst 0, 1) := by decide +kernel
theorem dX8_isPerson_2 : decode cX8_isPerson 2 = .ok (.aload_n 0, 1) := by decide +kernel
theorem dX8_isPerson_3 : decode cX8_isPerson 3 = .ok (.getfield 111, 3) := by decide +kernel
theorem dX8_isPerson_6 : decode cX8_isPerson 6 = .ok (.iconst 1, 1) := by decide +kernel
theorem dX8_isPerson_7 : decode cX8_isPerson 7 = .ok (.isub, 1) := by decide +kernel
theorem dX8_isPerson_8 : decode cX8_isPerson 8 = .ok (.invokestatic 114, 3) := by decide +kernel
theorem dX8_isPerson_11 : decode cX8_isPerson 11 = .ok (.ireturn, 1) := by decide +kernel
theorem dX8_isName_0 : decode cX8_isName 0 = .ok (.iload_n 0, 1) := by decide +kernel
theorem dX8_isName_1 : decode cX8_isName 1 = .ok (.iconst 0, 1) := by decide +kernel
theorem dX8_isName_2 : decode cX8_isName 2 = .ok (.bipush 11, 2) := by decide +kernel
theorem dX8_isName_4 : decode cX8_isName 4 = .ok (.invokestatic 114, 3) := by decide +kernel
theorem dX8_isName_7 : decode cX8_isName 7 = .ok (.ireturn, 1) := by decide +kernel
theorem dX8_isYear_0 : decode cX8_isYear 0 = .ok (.iload_n 0, 1) := by decide +kernel
theorem dX8_isYear_1 : decode cX8_isYear 1 = .ok (.iconst 0, 1) := by decide +kernel
theorem dX8_isYear_2 : decode cX8_isYear 2 = .ok (.bipush 99, 2) := by decide +kernel
theorem dX8_isYear_4 : decode cX8_isYear 4 = .ok (.invokestatic 114, 3) := by decide +kernel
theorem dX8_isYear_7 : decode cX8_isYear 7 = .ok (.ireturn, 1) := by decide +kernel
theorem dX8_lives_0 : decode cX8_lives 0 = .ok (.aload_n 0, 1) := by decide +kernel
theorem dX8_lives_1 : decode cX8_lives 1 = .ok (.getfield 7, 3) := by decide +kernel
theorem dX8_lives_4 : decode cX8_lives 4 = .ok (.iload_n 1, 1) := by decide +kernel
theorem dX8_lives_5 : decode cX8_lives 5 = .ok (.iaload, 1) := by decide +kernel
theorem dX8_lives_6 : decode cX8_lives 6 = .ok (.iload_n 2, 1) := by decide +kernel
theorem dX8_lives_7 : decode cX8_lives 7 = .ok (.if_icmp .gt 17, 3) := by decide +kernel
theorem dX8_lives_10 : decode cX8_lives 10 = .ok (.iload_n 2, 1) := by decide +kernel
theorem dX8_lives_11 : decode cX8_lives 11 = .ok (.aload_n 0, 1) := by decide +kernel
theorem dX8_lives_12 : decode cX8_lives 12 = .ok (.getfield 13, 3) := by decide +kernel
theorem dX8_lives_15 : decode cX8_lives 15 = .ok (.iload_n 1, 1) := by decide +kernel
theorem dX8_lives_16 : decode cX8_lives 16 = .ok (.iaload, 1) := by decide +kernel
theorem dX8_lives_17 : decode cX8_lives 17 = .ok (.if_icmp .ge 7, 3) := by decide +kernel
theorem dX8_lives_20 : decode cX8_lives 20 = .ok (.iconst 1, 1) := by decide +kernel
theorem dX8_lives_21 : decode cX8_lives 21 = .ok (.goto 4, 3) := by decide +kernel
theorem dX8_lives_24 : decode cX8_lives 24 = .ok (.iconst 0, 1) := by decide +kernel
theorem dX8_lives_25 : decode cX8_lives 25 = .ok (.ireturn, 1) := by decide +kernel
theorem dX8_isLife_0 : decode cX8_isLife 0 = .ok (.iload_n 0, 1) := by decide +kernel
theorem dX8_isLife_1 : decode cX8_isLife 1 = .ok (.invokestatic 118, 3) := by decide +kernel
theorem dX8_isLife_4 : decode cX8_isLife 4 = .ok (.ifCond .eq 19, 3) := by decide +kernel
theorem dX8_isLife_7 : decode cX8_isLife 7 = .ok (.iload_n 1, 1) := by decide +kernel
theorem dX8_isLife_8 : decode cX8_isLife 8 = .ok (.iload_n 0, 1) := by decide +kernel
theorem dX8_isLife_9 : decode cX8_isLife 9 = .ok (.iconst 1, 1) := by decide +kernel
theorem dX8_isLife_10 : decode cX8_isLife 10 = .ok (.iadd, 1) := by decide +kernel
theorem dX8_isLife_11 : decode cX8_isLife 11 = .ok (.bipush 100, 2) := by decide +kernel
theorem dX8_isLife_13 : decode cX8_isLife 13 = .ok (.invokestatic 114, 3) := by decide +kernel
theorem dX8_isLife_16 : decode cX8_isLife 16 = .ok (.ifCond .eq 7, 3) := by decide +kernel
theorem dX8_isLife_19 : decode cX8_isLife 19 = .ok (.iconst 1, 1) := by decide +kernel
theorem dX8_isLife_20 : decode cX8_isLife 20 = .ok (.goto 4, 3) := by decide +kernel
theorem dX8_isLife_23 : decode cX8_isLife 23 = .ok (.iconst 0, 1) := by decide +kernel
theorem dX8_isLife_24 : decode cX8_isLife 24 = .ok (.ireturn, 1) := by decide +kernel
theorem dX8_addPerson_0 : decode cX8_addPerson 0 = .ok (.aload_n 0, 1) := by decide +kernel
theorem dX8_addPerson_1 : decode cX8_addPerson 1 = .ok (.getfield 7, 3) := by decide +kernel
theorem dX8_addPerson_4 : decode cX8_addPerson 4 = .ok (.aload_n 0, 1) := by decide +kernel
theorem dX8_addPerson_5 : decode cX8_addPerson 5 = .ok (.getfield 111, 3) := by decide +kernel
theorem dX8_addPerson_8 : decode cX8_addPerson 8 = .ok (.iload_n 1, 1) := by decide +kernel
theorem dX8_addPerson_9 : decode cX8_addPerson 9 = .ok (.iastore, 1) := by decide +kernel
theorem dX8_addPerson_10 : decode cX8_addPerson 10 = .ok (.aload_n 0, 1) := by decide +kernel
theorem dX8_addPerson_11 : decode cX8_addPerson 11 = .ok (.getfield 13, 3) := by decide +kernel
theorem dX8_addPerson_14 : decode cX8_addPerson 14 = .ok (.aload_n 0, 1) := by decide +kernel
theorem dX8_addPerson_15 : decode cX8_addPerson 15 = .ok (.getfield 111, 3) := by decide +kernel
theorem dX8_addPerson_18 : decode cX8_addPerson 18 = .ok (.iload_n 2, 1) := by decide +kernel
theorem dX8_addPerson_19 : decode cX8_addPerson 19 = .ok (.iastore, 1) := by decide +kernel
theorem dX8_addPerson_20 : decode cX8_addPerson 20 = .ok (.aload_n 0, 1) := by decide +kernel
theorem dX8_addPerson_21 : decode cX8_addPerson 21 = .ok (.getfield 16, 3) := by decide +kernel
theorem dX8_addPerson_24 : decode cX8_addPerson 24 = .ok (.aload_n 0, 1) := by decide +kernel
theorem dX8_addPerson_25 : decode cX8_addPerson 25 = .ok (.getfield 111, 3) := by decide +kernel
theorem dX8_addPerson_28 : decode cX8_addPerson 28 = .ok (.iload_n 3, 1) := by decide +kernel
theorem dX8_addPerson_29 : decode cX8_addPerson 29 = .ok (.iastore, 1) := by decide +kernel
theorem dX8_addPerson_30 : decode cX8_addPerson 30 = .ok (.aload_n 0, 1) := by decide +kernel
theorem dX8_addPerson_31 : decode cX8_addPerson 31 = .ok (.dup, 1) := by decide +kernel
theorem dX8_addPerson_32 : decode cX8_addPerson 32 = .ok (.getfield 111, 3) := by decide +kernel
theorem dX8_addPerson_35 : decode cX8_addPerson 35 = .ok (.iconst 1, 1) := by decide +kernel
theorem dX8_addPerson_36 : decode cX8_addPerson 36 = .ok (.iadd, 1) := by decide +kernel
theorem dX8_addPerson_37 : decode cX8_addPerson 37 = .ok (.putfield 111, 3) := by decide +kernel
theorem dX8_addPerson_40 : decode cX8_addPerson 40 = .ok (.aload_n 0, 1) := by decide +kernel
theorem dX8_addPerson_41 : decode cX8_addPerson 41 = .ok (.getfield 111, 3) := by decide +kernel
theorem dX8_addPerson_44 : decode cX8_addPerson 44 = .ok (.iconst 1, 1) := by decide +kernel
theorem dX8_addPerson_45 : decode cX8_addPerson 45 = .ok (.isub, 1) := by decide +kernel
theorem dX8_addPerson_46 : decode cX8_addPerson 46 = .ok (.ireturn, 1) := by decide +kernel
theorem dX8_person_0 : decode cX8_person 0 = .ok (.iload_n 1, 1) := by decide +kernel
theorem dX8_person_1 : decode cX8_person 1 = .ok (.iload_n 2, 1) := by decide +kernel
theorem dX8_person_2 : decode cX8_person 2 = .ok (.invokestatic 122, 3) := by decide +kernel
theorem dX8_person_5 : decode cX8_person 5 = .ok (.ifCond .ne 5, 3) := by decide +kernel
theorem dX8_person_8 : decode cX8_person 8 = .ok (.iconst (-1), 1) := by decide +kernel
theorem dX8_person_9 : decode cX8_person 9 = .ok (.ireturn, 1) := by decide +kernel
theorem dX8_person_10 : decode cX8_person 10 = .ok (.aload_n 0, 1) := by decide +kernel
theorem dX8_person_11 : decode cX8_person 11 = .ok (.getfield 111, 3) := by decide +kernel
theorem dX8_person_14 : decode cX8_person 14 = .ok (.bipush 12, 2) := by decide +kernel
theorem dX8_person_16 : decode cX8_person 16 = .ok (.if_icmp .ne 8, 3) := by decide +kernel
theorem dX8_person_19 : decode cX8_person 19 = .ok (.bipush (-3), 2) := by decide +kernel
theorem dX8_person_21 : decode cX8_person 21 = .ok (.goto 10, 3) := by decide +kernel
theorem dX8_person_24 : decode cX8_person 24 = .ok (.aload_n 0, 1) := by decide +kernel
theorem dX8_person_25 : decode cX8_person 25 = .ok (.iload_n 1, 1) := by decide +kernel
theorem dX8_person_26 : decode cX8_person 26 = .ok (.iload_n 2, 1) := by decide +kernel
theorem dX8_person_27 : decode cX8_person 27 = .ok (.iconst (-1), 1) := by decide +kernel
theorem dX8_person_28 : decode cX8_person 28 = .ok (.invokevirtual 126, 3) := by decide +kernel
theorem dX8_person_31 : decode cX8_person 31 = .ok (.ireturn, 1) := by decide +kernel
theorem dX8_people_0 : decode cX8_people 0 = .ok (.iload_n 1, 1) := by decide +kernel
theorem dX8_people_1 : decode cX8_people 1 = .ok (.invokestatic 130, 3) := by decide +kernel
theorem dX8_people_4 : decode cX8_people 4 = .ok (.ifCond .eq 13, 3) := by decide +kernel
theorem dX8_people_7 : decode cX8_people 7 = .ok (.iload_n 3, 1) := by decide +kernel
theorem dX8_people_8 : decode cX8_people 8 = .ok (.iconst 1, 1) := by decide +kernel
theorem dX8_people_9 : decode cX8_people 9 = .ok (.bipush 12, 2) := by decide +kernel
theorem dX8_people_11 : decode cX8_people 11 = .ok (.invokestatic 114, 3) := by decide +kernel
theorem dX8_people_14 : decode cX8_people 14 = .ok (.ifCond .ne 5, 3) := by decide +kernel
theorem dX8_people_17 : decode cX8_people 17 = .ok (.iconst (-1), 1) := by decide +kernel
theorem dX8_people_18 : decode cX8_people 18 = .ok (.ireturn, 1) := by decide +kernel
theorem dX8_people_19 : decode cX8_people 19 = .ok (.aload_n 0, 1) := by decide +kernel
theorem dX8_people_20 : decode cX8_people 20 = .ok (.getfield 94, 3) := by decide +kernel
theorem dX8_people_23 : decode cX8_people 23 = .ok (.iload_n 1, 1) := by decide +kernel
theorem dX8_people_24 : decode cX8_people 24 = .ok (.iaload, 1) := by decide +kernel
theorem dX8_people_25 : decode cX8_people 25 = .ok (.iconst (-1), 1) := by decide +kernel
theorem dX8_people_26 : decode cX8_people 26 = .ok (.if_icmp .eq 17, 3) := by decide +kernel
theorem dX8_people_29 : decode cX8_people 29 = .ok (.aload_n 0, 1) := by decide +kernel
theorem dX8_people_30 : decode cX8_people 30 = .ok (.getfield 94, 3) := by decide +kernel
theorem dX8_people_33 : decode cX8_people 33 = .ok (.iload_n 1, 1) := by decide +kernel
theorem dX8_people_34 : decode cX8_people 34 = .ok (.iaload, 1) := by decide +kernel
theorem dX8_people_35 : decode cX8_people 35 = .ok (.bipush (-2), 2) := by decide +kernel
theorem dX8_people_37 : decode cX8_people 37 = .ok (.if_icmp .eq 6, 3) := by decide +kernel
theorem dX8_people_40 : decode cX8_people 40 = .ok (.bipush (-12), 2) := by decide +kernel
theorem dX8_people_42 : decode cX8_people 42 = .ok (.ireturn, 1) := by decide +kernel
theorem dX8_people_43 : decode cX8_people 43 = .ok (.aload_n 0, 1) := by decide +kernel
theorem dX8_people_44 : decode cX8_people 44 = .ok (.getfield 94, 3) := by decide +kernel
theorem dX8_people_47 : decode cX8_people 47 = .ok (.iload_n 1, 1) := by decide +kernel
theorem dX8_people_48 : decode cX8_people 48 = .ok (.iaload, 1) := by decide +kernel
theorem dX8_people_49 : decode cX8_people 49 = .ok (.iconst (-1), 1) := by decide +kernel
theorem dX8_people_50 : decode cX8_people 50 = .ok (.if_icmp .ne 5, 3) := by decide +kernel
theorem dX8_people_53 : decode cX8_people 53 = .ok (.iconst 0, 1) := by decide +kernel
theorem dX8_people_54 : decode cX8_people 54 = .ok (.ireturn, 1) := by decide +kernel
theorem dX8_people_55 : decode cX8_people 55 = .ok (.iconst 0, 1) := by decide +kernel
theorem dX8_people_56 : decode cX8_people 56 = .ok (.istore 4, 2) := by decide +kernel
theorem dX8_people_58 : decode cX8_people 58 = .ok (.iload 4, 2) := by decide +kernel
theorem dX8_people_60 : decode cX8_people 60 = .ok (.iload_n 3, 1) := by decide +kernel
theorem dX8_people_61 : decode cX8_people 61 = .ok (.if_icmp .ge 144, 3) := by decide +kernel
theorem dX8_people_64 : decode cX8_people 64 = .ok (.iload_n 2, 1) := by decide +kernel
theorem dX8_people_65 : decode cX8_people 65 = .ok (.i2l, 1) := by decide +kernel
theorem dX8_people_66 : decode cX8_people 66 = .ok (.iconst 3, 1) := by decide +kernel
theorem dX8_people_67 : decode cX8_people 67 = .ok (.iload 4, 2) := by decide +kernel
theorem dX8_people_69 : decode cX8_people 69 = .ok (.imul, 1) := by decide +kernel
theorem dX8_people_70 : decode cX8_people 70 = .ok (.i2l, 1) := by decide +kernel
theorem dX8_people_71 : decode cX8_people 71 = .ok (.ladd, 1) := by decide +kernel
theorem dX8_people_72 : decode cX8_people 72 = .ok (.lstore 5, 2) := by decide +kernel
theorem dX8_people_74 : decode cX8_people 74 = .ok (.lload 5, 2) := by decide +kernel
theorem dX8_people_76 : decode cX8_people 76 = .ok (.lconst 0, 1) := by decide +kernel
theorem dX8_people_77 : decode cX8_people 77 = .ok (.lcmp, 1) := by decide +kernel
theorem dX8_people_78 : decode cX8_people 78 = .ok (.ifCond .lt 29, 3) := by decide +kernel
theorem dX8_people_81 : decode cX8_people 81 = .ok (.lload 5, 2) := by decide +kernel
theorem dX8_people_83 : decode cX8_people 83 = .ok (.ldc2_w 133, 3) := by decide +kernel
theorem dX8_people_86 : decode cX8_people 86 = .ok (.ladd, 1) := by decide +kernel
theorem dX8_people_87 : decode cX8_people 87 = .ok (.aload_n 0, 1) := by decide +kernel
theorem dX8_people_88 : decode cX8_people 88 = .ok (.getfield 97, 3) := by decide +kernel
theorem dX8_people_91 : decode cX8_people 91 = .ok (.iload_n 1, 1) := by decide +kernel
theorem dX8_people_92 : decode cX8_people 92 = .ok (.iaload, 1) := by decide +kernel
theorem dX8_people_93 : decode cX8_people 93 = .ok (.i2l, 1) := by decide +kernel
theorem dX8_people_94 : decode cX8_people 94 = .ok (.lcmp, 1) := by decide +kernel
theorem dX8_people_95 : decode cX8_people 95 = .ok (.ifCond .ge 12, 3) := by decide +kernel
theorem dX8_people_98 : decode cX8_people 98 = .ok (.aload_n 0, 1) := by decide +kernel
theorem dX8_people_99 : decode cX8_people 99 = .ok (.getfield 111, 3) := by decide +kernel
theorem dX8_people_102 : decode cX8_people 102 = .ok (.bipush 12, 2) := by decide +kernel
theorem dX8_people_104 : decode cX8_people 104 = .ok (.if_icmp .ne 6, 3) := by decide +kernel
theorem dX8_people_107 : decode cX8_people 107 = .ok (.iload 4, 2) := by decide +kernel
theorem dX8_people_109 : decode cX8_people 109 = .ok (.ireturn, 1) := by decide +kernel
theorem dX8_people_110 : decode cX8_people 110 = .ok (.bipush 60, 2) := by decide +kernel
theorem dX8_people_112 : decode cX8_people 112 = .ok (.iload_n 1, 1) := by decide +kernel
theorem dX8_people_113 : decode cX8_people 113 = .ok (.imul, 1) := by decide +kernel
theorem dX8_people_114 : decode cX8_people 114 = .ok (.lload 5, 2) := by decide +kernel
theorem dX8_people_116 : decode cX8_people 116 = .ok (.l2i, 1) := by decide +kernel
theorem dX8_people_117 : decode cX8_people 117 = .ok (.iadd, 1) := by decide +kernel
theorem dX8_people_118 : decode cX8_people 118 = .ok (.istore 7, 2) := by decide +kernel
theorem dX8_people_120 : decode cX8_people 120 = .ok (.aload_n 0, 1) := by decide +kernel
theorem dX8_people_121 : decode cX8_people 121 = .ok (.getfield 100, 3) := by decide +kernel
theorem dX8_people_124 : decode cX8_people 124 = .ok (.iload 7, 2) := by decide +kernel
theorem dX8_people_126 : decode cX8_people 126 = .ok (.laload, 1) := by decide +kernel
theorem dX8_people_127 : decode cX8_people 127 = .ok (.l2i, 1) := by decide +kernel
theorem dX8_people_128 : decode cX8_people 128 = .ok (.aload_n 0, 1) := by decide +kernel
theorem dX8_people_129 : decode cX8_people 129 = .ok (.getfield 100, 3) := by decide +kernel
theorem dX8_people_132 : decode cX8_people 132 = .ok (.iload 7, 2) := by decide +kernel
theorem dX8_people_134 : decode cX8_people 134 = .ok (.iconst 1, 1) := by decide +kernel
theorem dX8_people_135 : decode cX8_people 135 = .ok (.iadd, 1) := by decide +kernel
theorem dX8_people_136 : decode cX8_people 136 = .ok (.laload, 1) := by decide +kernel
theorem dX8_people_137 : decode cX8_people 137 = .ok (.l2i, 1) := by decide +kernel
theorem dX8_people_138 : decode cX8_people 138 = .ok (.invokestatic 122, 3) := by decide +kernel
theorem dX8_people_141 : decode cX8_people 141 = .ok (.ifCond .eq 22, 3) := by decide +kernel
theorem dX8_people_144 : decode cX8_people 144 = .ok (.aload_n 0, 1) := by decide +kernel
theorem dX8_people_145 : decode cX8_people 145 = .ok (.getfield 100, 3) := by decide +kernel
theorem dX8_people_148 : decode cX8_people 148 = .ok (.iload 7, 2) := by decide +kernel
theorem dX8_people_150 : decode cX8_people 150 = .ok (.iconst 2, 1) := by decide +kernel
theorem dX8_people_151 : decode cX8_people 151 = .ok (.iadd, 1) := by decide +kernel
theorem dX8_people_152 : decode cX8_people 152 = .ok (.laload, 1) := by decide +kernel
theorem dX8_people_153 : decode cX8_people 153 = .ok (.l2i, 1) := by decide +kernel
theorem dX8_people_154 : decode cX8_people 154 = .ok (.iconst (-1), 1) := by decide +kernel
theorem dX8_people_155 : decode cX8_people 155 = .ok (.bipush 11, 2) := by decide +kernel
theorem dX8_people_157 : decode cX8_people 157 = .ok (.invokestatic 114, 3) := by decide +kernel
theorem dX8_people_160 : decode cX8_people 160 = .ok (.ifCond .ne 6, 3) := by decide +kernel
theorem dX8_people_163 : decode cX8_people 163 = .ok (.iload 4, 2) := by decide +kernel
theorem dX8_people_165 : decode cX8_people 165 = .ok (.ireturn, 1) := by decide +kernel
theorem dX8_people_166 : decode cX8_people 166 = .ok (.aload_n 0, 1) := by decide +kernel
theorem dX8_people_167 : decode cX8_people 167 = .ok (.aload_n 0, 1) := by decide +kernel
theorem dX8_people_168 : decode cX8_people 168 = .ok (.getfield 100, 3) := by decide +kernel
theorem dX8_people_171 : decode cX8_people 171 = .ok (.iload 7, 2) := by decide +kernel
theorem dX8_people_173 : decode cX8_people 173 = .ok (.laload, 1) := by decide +kernel
theorem dX8_people_174 : decode cX8_people 174 = .ok (.l2i, 1) := by decide +kernel
theorem dX8_people_175 : decode cX8_people 175 = .ok (.aload_n 0, 1) := by decide +kernel
theorem dX8_people_176 : decode cX8_people 176 = .ok (.getfield 100, 3) := by decide +kernel
theorem dX8_people_179 : decode cX8_people 179 = .ok (.iload 7, 2) := by decide +kernel
theorem dX8_people_181 : decode cX8_people 181 = .ok (.iconst 1, 1) := by decide +kernel
theorem dX8_people_182 : decode cX8_people 182 = .ok (.iadd, 1) := by decide +kernel
theorem dX8_people_183 : decode cX8_people 183 = .ok (.laload, 1) := by decide +kernel
theorem dX8_people_184 : decode cX8_people 184 = .ok (.l2i, 1) := by decide +kernel
theorem dX8_people_185 : decode cX8_people 185 = .ok (.aload_n 0, 1) := by decide +kernel
theorem dX8_people_186 : decode cX8_people 186 = .ok (.getfield 100, 3) := by decide +kernel
theorem dX8_people_189 : decode cX8_people 189 = .ok (.iload 7, 2) := by decide +kernel
theorem dX8_people_191 : decode cX8_people 191 = .ok (.iconst 2, 1) := by decide +kernel
theorem dX8_people_192 : decode cX8_people 192 = .ok (.iadd, 1) := by decide +kernel
theorem dX8_people_193 : decode cX8_people 193 = .ok (.laload, 1) := by decide +kernel
theorem dX8_people_194 : decode cX8_people 194 = .ok (.l2i, 1) := by decide +kernel
theorem dX8_people_195 : decode cX8_people 195 = .ok (.invokevirtual 126, 3) := by decide +kernel
theorem dX8_people_198 : decode cX8_people 198 = .ok (.pop, 1) := by decide +kernel
theorem dX8_people_199 : decode cX8_people 199 = .ok (.iinc 4 1, 3) := by decide +kernel
theorem dX8_people_202 : decode cX8_people 202 = .ok (.goto (-144), 3) := by decide +kernel
theorem dX8_people_205 : decode cX8_people 205 = .ok (.iload_n 3, 1) := by decide +kernel
theorem dX8_people_206 : decode cX8_people 206 = .ok (.ireturn, 1) := by decide +kernel
theorem dX8_meet_0 : decode cX8_meet 0 = .ok (.iload_n 1, 1) := by decide +kernel
theorem dX8_meet_1 : decode cX8_meet 1 = .ok (.ifCond .lt 67, 3) := by decide +kernel
theorem dX8_meet_4 : decode cX8_meet 4 = .ok (.aload_n 0, 1) := by decide +kernel
theorem dX8_meet_5 : decode cX8_meet 5 = .ok (.iload_n 1, 1) := by decide +kernel
theorem dX8_meet_6 : decode cX8_meet 6 = .ok (.bipush 100, 2) := by decide +kernel
theorem dX8_meet_8 : decode cX8_meet 8 = .ok (.idiv, 1) := by decide +kernel
theorem dX8_meet_9 : decode cX8_meet 9 = .ok (.invokevirtual 135, 3) := by decide +kernel
theorem dX8_meet_12 : decode cX8_meet 12 = .ok (.ifCond .eq 56, 3) := by decide +kernel
theorem dX8_meet_15 : decode cX8_meet 15 = .ok (.aload_n 0, 1) := by decide +kernel
theorem dX8_meet_16 : decode cX8_meet 16 = .ok (.iload_n 1, 1) := by decide +kernel
theorem dX8_meet_17 : decode cX8_meet 17 = .ok (.bipush 100, 2) := by decide +kernel
theorem dX8_meet_19 : decode cX8_meet 19 = .ok (.irem, 1) := by decide +kernel
theorem dX8_meet_20 : decode cX8_meet 20 = .ok (.invokevirtual 135, 3) := by decide +kernel
theorem dX8_meet_23 : decode cX8_meet 23 = .ok (.ifCond .eq 45, 3) := by decide +kernel
theorem dX8_meet_26 : decode cX8_meet 26 = .ok (.iload_n 1, 1) := by decide +kernel
theorem dX8_meet_27 : decode cX8_meet 27 = .ok (.bipush 100, 2) := by decide +kernel
theorem dX8_meet_29 : decode cX8_meet 29 = .ok (.idiv, 1) := by decide +kernel
theorem dX8_meet_30 : decode cX8_meet 30 = .ok (.iload_n 1, 1) := by decide +kernel
theorem dX8_meet_31 : decode cX8_meet 31 = .ok (.bipush 100, 2) := by decide +kernel
theorem dX8_meet_33 : decode cX8_meet 33 = .ok (.irem, 1) := by decide +kernel
theorem dX8_meet_34 : decode cX8_meet 34 = .ok (.if_icmp .eq 34, 3) := by decide +kernel
theorem dX8_meet_37 : decode cX8_meet 37 = .ok (.iload_n 2, 1) := by decide +kernel
theorem dX8_meet_38 : decode cX8_meet 38 = .ok (.invokestatic 118, 3) := by decide +kernel
theorem dX8_meet_41 : decode cX8_meet 41 = .ok (.ifCond .eq 27, 3) := by decide +kernel
theorem dX8_meet_44 : decode cX8_meet 44 = .ok (.aload_n 0, 1) := by decide +kernel
theorem dX8_meet_45 : decode cX8_meet 45 = .ok (.iload_n 1, 1) := by decide +kernel
theorem dX8_meet_46 : decode cX8_meet 46 = .ok (.bipush 100, 2) := by decide +kernel
theorem dX8_meet_48 : decode cX8_meet 48 = .ok (.idiv, 1) := by decide +kernel
theorem dX8_meet_49 : decode cX8_meet 49 = .ok (.iload_n 2, 1) := by decide +kernel
theorem dX8_meet_50 : decode cX8_meet 50 = .ok (.invokevirtual 138, 3) := by decide +kernel
theorem dX8_meet_53 : decode cX8_meet 53 = .ok (.ifCond .eq 15, 3) := by decide +kernel
theorem dX8_meet_56 : decode cX8_meet 56 = .ok (.aload_n 0, 1) := by decide +kernel
theorem dX8_meet_57 : decode cX8_meet 57 = .ok (.iload_n 1, 1) := by decide +kernel
theorem dX8_meet_58 : decode cX8_meet 58 = .ok (.bipush 100, 2) := by decide +kernel
theorem dX8_meet_60 : decode cX8_meet 60 = .ok (.irem, 1) := by decide +kernel
theorem dX8_meet_61 : decode cX8_meet 61 = .ok (.iload_n 2, 1) := by decide +kernel
theorem dX8_meet_62 : decode cX8_meet 62 = .ok (.invokevirtual 138, 3) := by decide +kernel
theorem dX8_meet_65 : decode cX8_meet 65 = .ok (.ifCond .ne 5, 3) := by decide +kernel
theorem dX8_meet_68 : decode cX8_meet 68 = .ok (.iconst (-1), 1) := by decide +kernel
theorem dX8_meet_69 : decode cX8_meet 69 = .ok (.ireturn, 1) := by decide +kernel
theorem dX8_meet_70 : decode cX8_meet 70 = .ok (.aload_n 0, 1) := by decide +kernel
theorem dX8_meet_71 : decode cX8_meet 71 = .ok (.getfield 141, 3) := by decide +kernel
theorem dX8_meet_74 : decode cX8_meet 74 = .ok (.bipush 16, 2) := by decide +kernel
theorem dX8_meet_76 : decode cX8_meet 76 = .ok (.if_icmp .ne 6, 3) := by decide +kernel
theorem dX8_meet_79 : decode cX8_meet 79 = .ok (.bipush (-3), 2) := by decide +kernel
theorem dX8_meet_81 : decode cX8_meet 81 = .ok (.ireturn, 1) := by decide +kernel
theorem dX8_meet_82 : decode cX8_meet 82 = .ok (.aload_n 0, 1) := by decide +kernel
theorem dX8_meet_83 : decode cX8_meet 83 = .ok (.getfield 19, 3) := by decide +kernel
theorem dX8_meet_86 : decode cX8_meet 86 = .ok (.aload_n 0, 1) := by decide +kernel
theorem dX8_meet_87 : decode cX8_meet 87 = .ok (.getfield 141, 3) := by decide +kernel
theorem dX8_meet_90 : decode cX8_meet 90 = .ok (.iload_n 1, 1) := by decide +kernel
theorem dX8_meet_91 : decode cX8_meet 91 = .ok (.bipush 100, 2) := by decide +kernel
theorem dX8_meet_93 : decode cX8_meet 93 = .ok (.idiv, 1) := by decide +kernel
theorem dX8_meet_94 : decode cX8_meet 94 = .ok (.iastore, 1) := by decide +kernel
theorem dX8_meet_95 : decode cX8_meet 95 = .ok (.aload_n 0, 1) := by decide +kernel
theorem dX8_meet_96 : decode cX8_meet 96 = .ok (.getfield 22, 3) := by decide +kernel
theorem dX8_meet_99 : decode cX8_meet 99 = .ok (.aload_n 0, 1) := by decide +kernel
theorem dX8_meet_100 : decode cX8_meet 100 = .ok (.getfield 141, 3) := by decide +kernel
theorem dX8_meet_103 : decode cX8_meet 103 = .ok (.iload_n 1, 1) := by decide +kernel
theorem dX8_meet_104 : decode cX8_meet 104 = .ok (.bipush 100, 2) := by decide +kernel
theorem dX8_meet_106 : decode cX8_meet 106 = .ok (.irem, 1) := by decide +kernel
theorem dX8_meet_107 : decode cX8_meet 107 = .ok (.iastore, 1) := by decide +kernel
theorem dX8_meet_108 : decode cX8_meet 108 = .ok (.aload_n 0, 1) := by decide +kernel
theorem dX8_meet_109 : decode cX8_meet 109 = .ok (.getfield 25, 3) := by decide +kernel
theorem dX8_meet_112 : decode cX8_meet 112 = .ok (.aload_n 0, 1) := by decide +kernel
theorem dX8_meet_113 : decode cX8_meet 113 = .ok (.getfield 141, 3) := by decide +kernel
theorem dX8_meet_116 : decode cX8_meet 116 = .ok (.iload_n 2, 1) := by decide +kernel
theorem dX8_meet_117 : decode cX8_meet 117 = .ok (.iastore, 1) := by decide +kernel
theorem dX8_meet_118 : decode cX8_meet 118 = .ok (.aload_n 0, 1) := by decide +kernel
theorem dX8_meet_119 : decode cX8_meet 119 = .ok (.dup, 1) := by decide +kernel
theorem dX8_meet_120 : decode cX8_meet 120 = .ok (.getfield 141, 3) := by decide +kernel
theorem dX8_meet_123 : decode cX8_meet 123 = .ok (.iconst 1, 1) := by decide +kernel
theorem dX8_meet_124 : decode cX8_meet 124 = .ok (.iadd, 1) := by decide +kernel
theorem dX8_meet_125 : decode cX8_meet 125 = .ok (.putfield 141, 3) := by decide +kernel
theorem dX8_meet_128 : decode cX8_meet 128 = .ok (.aload_n 0, 1) := by decide +kernel
theorem dX8_meet_129 : decode cX8_meet 129 = .ok (.getfield 141, 3) := by decide +kernel
theorem dX8_meet_132 : decode cX8_meet 132 = .ok (.iconst 1, 1) := by decide +kernel
theorem dX8_meet_133 : decode cX8_meet 133 = .ok (.isub, 1) := by decide +kernel
theorem dX8_meet_134 : decode cX8_meet 134 = .ok (.ireturn, 1) := by decide +kernel
theorem dX8_hearing_0 : decode cX8_hearing 0 = .ok (.iload_n 1, 1) := by decide +kernel
theorem dX8_hearing_1 : decode cX8_hearing 1 = .ok (.iconst 0, 1) := by decide +kernel
theorem dX8_hearing_2 : decode cX8_hearing 2 = .ok (.iconst 1, 1) := by decide +kernel
theorem dX8_hearing_3 : decode cX8_hearing 3 = .ok (.invokestatic 114, 3) := by decide +kernel
theorem dX8_hearing_6 : decode cX8_hearing 6 = .ok (.ifCond .ne 5, 3) := by decide +kernel
theorem dX8_hearing_9 : decode cX8_hearing 9 = .ok (.iconst (-1), 1) := by decide +kernel
theorem dX8_hearing_10 : decode cX8_hearing 10 = .ok (.ireturn, 1) := by decide +kernel
theorem dX8_hearing_11 : decode cX8_hearing 11 = .ok (.aload_n 0, 1) := by decide +kernel
theorem dX8_hearing_12 : decode cX8_hearing 12 = .ok (.getfield 144, 3) := by decide +kernel
theorem dX8_hearing_15 : decode cX8_hearing 15 = .ok (.istore_n 2, 1) := by decide +kernel
theorem dX8_hearing_16 : decode cX8_hearing 16 = .ok (.aload_n 0, 1) := by decide +kernel
theorem dX8_hearing_17 : decode cX8_hearing 17 = .ok (.iload_n 1, 1) := by decide +kernel
theorem dX8_hearing_18 : decode cX8_hearing 18 = .ok (.putfield 144, 3) := by decide +kernel
theorem dX8_hearing_21 : decode cX8_hearing 21 = .ok (.iload_n 2, 1) := by decide +kernel
theorem dX8_hearing_22 : decode cX8_hearing 22 = .ok (.ireturn, 1) := by decide +kernel
theorem dX8_name_0 : decode cX8_name 0 = .ok (.aload_n 0, 1) := by decide +kernel
theorem dX8_name_1 : decode cX8_name 1 = .ok (.iload_n 1, 1) := by decide +kernel
theorem dX8_name_2 : decode cX8_name 2 = .ok (.invokevirtual 135, 3) := by decide +kernel
theorem dX8_name_5 : decode cX8_name 5 = .ok (.ifCond .eq 13, 3) := by decide +kernel
theorem dX8_name_8 : decode cX8_name 8 = .ok (.iload_n 2, 1) := by decide +kernel
theorem dX8_name_9 : decode cX8_name 9 = .ok (.iconst (-1), 1) := by decide +kernel
theorem dX8_name_10 : decode cX8_name 10 = .ok (.bipush 11, 2) := by decide +kernel
theorem dX8_name_12 : decode cX8_name 12 = .ok (.invokestatic 114, 3) := by decide +kernel
theorem dX8_name_15 : decode cX8_name 15 = .ok (.ifCond .ne 6, 3) := by decide +kernel
theorem dX8_name_18 : decode cX8_name 18 = .ok (.ldc 147, 2) := by decide +kernel
theorem dX8_name_20 : decode cX8_name 20 = .ok (.ireturn, 1) := by decide +kernel
theorem dX8_name_21 : decode cX8_name 21 = .ok (.aload_n 0, 1) := by decide +kernel
theorem dX8_name_22 : decode cX8_name 22 = .ok (.getfield 16, 3) := by decide +kernel
theorem dX8_name_25 : decode cX8_name 25 = .ok (.iload_n 1, 1) := by decide +kernel
theorem dX8_name_26 : decode cX8_name 26 = .ok (.iaload, 1) := by decide +kernel
theorem dX8_name_27 : decode cX8_name 27 = .ok (.istore_n 3, 1) := by decide +kernel
theorem dX8_name_28 : decode cX8_name 28 = .ok (.aload_n 0, 1) := by decide +kernel
theorem dX8_name_29 : decode cX8_name 29 = .ok (.getfield 16, 3) := by decide +kernel
theorem dX8_name_32 : decode cX8_name 32 = .ok (.iload_n 1, 1) := by decide +kernel
theorem dX8_name_33 : decode cX8_name 33 = .ok (.iload_n 2, 1) := by decide +kernel
theorem dX8_name_34 : decode cX8_name 34 = .ok (.iastore, 1) := by decide +kernel
theorem dX8_name_35 : decode cX8_name 35 = .ok (.iload_n 3, 1) := by decide +kernel
theorem dX8_name_36 : decode cX8_name 36 = .ok (.ireturn, 1) := by decide +kernel
theorem dX8_fame_0 : decode cX8_fame 0 = .ok (.iload_n 1, 1) := by decide +kernel
theorem dX8_fame_1 : decode cX8_fame 1 = .ok (.invokestatic 148, 3) := by decide +kernel
theorem dX8_fame_4 : decode cX8_fame 4 = .ok (.ifCond .eq 12, 3) := by decide +kernel
theorem dX8_fame_7 : decode cX8_fame 7 = .ok (.iload_n 2, 1) := by decide +kernel
theorem dX8_fame_8 : decode cX8_fame 8 = .ok (.iconst 0, 1) := by decide +kernel
theorem dX8_fame_9 : decode cX8_fame 9 = .ok (.iconst 1, 1) := by decide +kernel
theorem dX8_fame_10 : decode cX8_fame 10 = .ok (.invokestatic 114, 3) := by decide +kernel
theorem dX8_fame_13 : decode cX8_fame 13 = .ok (.ifCond .ne 5, 3) := by decide +kernel
theorem dX8_fame_16 : decode cX8_fame 16 = .ok (.iconst (-1), 1) := by decide +kernel
theorem dX8_fame_17 : decode cX8_fame 17 = .ok (.ireturn, 1) := by decide +kernel
theorem dX8_fame_18 : decode cX8_fame 18 = .ok (.aload_n 0, 1) := by decide +kernel
theorem dX8_fame_19 : decode cX8_fame 19 = .ok (.getfield 31, 3) := by decide +kernel
theorem dX8_fame_22 : decode cX8_fame 22 = .ok (.iload_n 1, 1) := by decide +kernel
theorem dX8_fame_23 : decode cX8_fame 23 = .ok (.iaload, 1) := by decide +kernel
theorem dX8_fame_24 : decode cX8_fame 24 = .ok (.istore_n 3, 1) := by decide +kernel
theorem dX8_fame_25 : decode cX8_fame 25 = .ok (.aload_n 0, 1) := by decide +kernel
theorem dX8_fame_26 : decode cX8_fame 26 = .ok (.getfield 31, 3) := by decide +kernel
theorem dX8_fame_29 : decode cX8_fame 29 = .ok (.iload_n 1, 1) := by decide +kernel
theorem dX8_fame_30 : decode cX8_fame 30 = .ok (.iload_n 2, 1) := by decide +kernel
theorem dX8_fame_31 : decode cX8_fame 31 = .ok (.iastore, 1) := by decide +kernel
theorem dX8_fame_32 : decode cX8_fame 32 = .ok (.iload_n 3, 1) := by decide +kernel
theorem dX8_fame_33 : decode cX8_fame 33 = .ok (.ireturn, 1) := by decide +kernel
theorem dX8_valueAt_0 : decode cX8_valueAt 0 = .ok (.iload_n 1, 1) := by decide +kernel
theorem dX8_valueAt_1 : decode cX8_valueAt 1 = .ok (.ifCond .ne 12, 3) := by decide +kernel
theorem dX8_valueAt_4 : decode cX8_valueAt 4 = .ok (.aload_n 0, 1) := by decide +kernel
theorem dX8_valueAt_5 : decode cX8_valueAt 5 = .ok (.getfield 13, 3) := by decide +kernel
theorem dX8_valueAt_8 : decode cX8_valueAt 8 = .ok (.iload_n 2, 1) := by decide +kernel
theorem dX8_valueAt_9 : decode cX8_valueAt 9 = .ok (.iaload, 1) := by decide +kernel
theorem dX8_valueAt_10 : decode cX8_valueAt 10 = .ok (.goto 9, 3) := by decide +kernel
theorem dX8_valueAt_13 : decode cX8_valueAt 13 = .ok (.aload_n 0, 1) := by decide +kernel
theorem dX8_valueAt_14 : decode cX8_valueAt 14 = .ok (.getfield 28, 3) := by decide +kernel
theorem dX8_valueAt_17 : decode cX8_valueAt 17 = .ok (.iload_n 2, 1) := by decide +kernel
theorem dX8_valueAt_18 : decode cX8_valueAt 18 = .ok (.iaload, 1) := by decide +kernel
theorem dX8_valueAt_19 : decode cX8_valueAt 19 = .ok (.ireturn, 1) := by decide +kernel
theorem dX8_lays_0 : decode cX8_lays 0 = .ok (.iload_n 1, 1) := by decide +kernel
theorem dX8_lays_1 : decode cX8_lays 1 = .ok (.ifCond .ne 13, 3) := by decide +kernel
theorem dX8_lays_4 : decode cX8_lays 4 = .ok (.aload_n 0, 1) := by decide +kernel
theorem dX8_lays_5 : decode cX8_lays 5 = .ok (.getfield 13, 3) := by decide +kernel
theorem dX8_lays_8 : decode cX8_lays 8 = .ok (.iload_n 2, 1) := by decide +kernel
theorem dX8_lays_9 : decode cX8_lays 9 = .ok (.iload_n 3, 1) := by decide +kernel
theorem dX8_lays_10 : decode cX8_lays 10 = .ok (.iastore, 1) := by decide +kernel
theorem dX8_lays_11 : decode cX8_lays 11 = .ok (.goto 10, 3) := by decide +kernel
theorem dX8_lays_14 : decode cX8_lays 14 = .ok (.aload_n 0, 1) := by decide +kernel
theorem dX8_lays_15 : decode cX8_lays 15 = .ok (.getfield 28, 3) := by decide +kernel
theorem dX8_lays_18 : decode cX8_lays 18 = .ok (.iload_n 2, 1) := by decide +kernel
theorem dX8_lays_19 : decode cX8_lays 19 = .ok (.iload_n 3, 1) := by decide +kernel
theorem dX8_lays_20 : decode cX8_lays 20 = .ok (.iastore, 1) := by decide +kernel
theorem dX8_lays_21 : decode cX8_lays 21 = .ok (.return_, 1) := by decide +kernel
theorem dX8_changes_0 : decode cX8_changes 0 = .ok (.aload_n 0, 1) := by decide +kernel
theorem dX8_changes_1 : decode cX8_changes 1 = .ok (.iload_n 1, 1) := by decide +kernel
theorem dX8_changes_2 : decode cX8_changes 2 = .ok (.iload_n 2, 1) := by decide +kernel
theorem dX8_changes_3 : decode cX8_changes 3 = .ok (.invokevirtual 151, 3) := by decide +kernel
theorem dX8_changes_6 : decode cX8_changes 6 = .ok (.istore 4, 2) := by decide +kernel
theorem dX8_changes_8 : decode cX8_changes 8 = .ok (.iload 4, 2) := by decide +kernel
theorem dX8_changes_10 : decode cX8_changes 10 = .ok (.iload_n 3, 1) := by decide +kernel
theorem dX8_changes_11 : decode cX8_changes 11 = .ok (.if_icmp .ne 6, 3) := by decide +kernel
theorem dX8_changes_14 : decode cX8_changes 14 = .ok (.iload 4, 2) := by decide +kernel
theorem dX8_changes_16 : decode cX8_changes 16 = .ok (.ireturn, 1) := by decide +kernel
theorem dX8_changes_17 : decode cX8_changes 17 = .ok (.aload_n 0, 1) := by decide +kernel
theorem dX8_changes_18 : decode cX8_changes 18 = .ok (.iconst 0, 1) := by decide +kernel
theorem dX8_changes_19 : decode cX8_changes 19 = .ok (.putfield 155, 3) := by decide +kernel
theorem dX8_changes_22 : decode cX8_changes 22 = .ok (.aload_n 0, 1) := by decide +kernel
theorem dX8_changes_23 : decode cX8_changes 23 = .ok (.getfield 158, 3) := by decide +kernel
theorem dX8_changes_26 : decode cX8_changes 26 = .ok (.bipush 40, 2) := by decide +kernel
theorem dX8_changes_28 : decode cX8_changes 28 = .ok (.if_icmp .ne 93, 3) := by decide +kernel
theorem dX8_changes_31 : decode cX8_changes 31 = .ok (.iconst 1, 1) := by decide +kernel
theorem dX8_changes_32 : decode cX8_changes 32 = .ok (.istore 5, 2) := by decide +kernel
theorem dX8_changes_34 : decode cX8_changes 34 = .ok (.iload 5, 2) := by decide +kernel
theorem dX8_changes_36 : decode cX8_changes 36 = .ok (.bipush 40, 2) := by decide +kernel
theorem dX8_changes_38 : decode cX8_changes 38 = .ok (.if_icmp .ge 73, 3) := by decide +kernel
theorem dX8_changes_41 : decode cX8_changes 41 = .ok (.aload_n 0, 1) := by decide +kernel
theorem dX8_changes_42 : decode cX8_changes 42 = .ok (.getfield 34, 3) := by decide +kernel
theorem dX8_changes_45 : decode cX8_changes 45 = .ok (.iload 5, 2) := by decide +kernel
theorem dX8_changes_47 : decode cX8_changes 47 = .ok (.iconst 1, 1) := by decide +kernel
theorem dX8_changes_48 : decode cX8_changes 48 = .ok (.isub, 1) := by decide +kernel
theorem dX8_changes_49 : decode cX8_changes 49 = .ok (.aload_n 0, 1) := by decide +kernel
theorem dX8_changes_50 : decode cX8_changes 50 = .ok (.getfield 34, 3) := by decide +kernel
theorem dX8_changes_53 : decode cX8_changes 53 = .ok (.iload 5, 2) := by decide +kernel
theorem dX8_changes_55 : decode cX8_changes 55 = .ok (.iaload, 1) := by decide +kernel
theorem dX8_changes_56 : decode cX8_changes 56 = .ok (.iastore, 1) := by decide +kernel
theorem dX8_changes_57 : decode cX8_changes 57 = .ok (.aload_n 0, 1) := by decide +kernel
theorem dX8_changes_58 : decode cX8_changes 58 = .ok (.getfield 37, 3) := by decide +kernel
theorem dX8_changes_61 : decode cX8_changes 61 = .ok (.iload 5, 2) := by decide +kernel
theorem dX8_changes_63 : decode cX8_changes 63 = .ok (.iconst 1, 1) := by decide +kernel
theorem dX8_changes_64 : decode cX8_changes 64 = .ok (.isub, 1) := by decide +kernel
theorem dX8_changes_65 : decode cX8_changes 65 = .ok (.aload_n 0, 1) := by decide +kernel
theorem dX8_changes_66 : decode cX8_changes 66 = .ok (.getfield 37, 3) := by decide +kernel
theorem dX8_changes_69 : decode cX8_changes 69 = .ok (.iload 5, 2) := by decide +kernel
theorem dX8_changes_71 : decode cX8_changes 71 = .ok (.iaload, 1) := by decide +kernel
theorem dX8_changes_72 : decode cX8_changes 72 = .ok (.iastore, 1) := by decide +kernel
theorem dX8_changes_73 : decode cX8_changes 73 = .ok (.aload_n 0, 1) := by decide +kernel
theorem dX8_changes_74 : decode cX8_changes 74 = .ok (.getfield 40, 3) := by decide +kernel
theorem dX8_changes_77 : decode cX8_changes 77 = .ok (.iload 5, 2) := by decide +kernel
theorem dX8_changes_79 : decode cX8_changes 79 = .ok (.iconst 1, 1) := by decide +kernel
theorem dX8_changes_80 : decode cX8_changes 80 = .ok (.isub, 1) := by decide +kernel
theorem dX8_changes_81 : decode cX8_changes 81 = .ok (.aload_n 0, 1) := by decide +kernel
theorem dX8_changes_82 : decode cX8_changes 82 = .ok (.getfield 40, 3) := by decide +kernel
theorem dX8_changes_85 : decode cX8_changes 85 = .ok (.iload 5, 2) := by decide +kernel
theorem dX8_changes_87 : decode cX8_changes 87 = .ok (.iaload, 1) := by decide +kernel
theorem dX8_changes_88 : decode cX8_changes 88 = .ok (.iastore, 1) := by decide +kernel
theorem dX8_changes_89 : decode cX8_changes 89 = .ok (.aload_n 0, 1) := by decide +kernel
theorem dX8_changes_90 : decode cX8_changes 90 = .ok (.getfield 43, 3) := by decide +kernel
theorem dX8_changes_93 : decode cX8_changes 93 = .ok (.iload 5, 2) := by decide +kernel
theorem dX8_changes_95 : decode cX8_changes 95 = .ok (.iconst 1, 1) := by decide +kernel
theorem dX8_changes_96 : decode cX8_changes 96 = .ok (.isub, 1) := by decide +kernel
theorem dX8_changes_97 : decode cX8_changes 97 = .ok (.aload_n 0, 1) := by decide +kernel
theorem dX8_changes_98 : decode cX8_changes 98 = .ok (.getfield 43, 3) := by decide +kernel
theorem dX8_changes_101 : decode cX8_changes 101 = .ok (.iload 5, 2) := by decide +kernel
theorem dX8_changes_103 : decode cX8_changes 103 = .ok (.iaload, 1) := by decide +kernel
theorem dX8_changes_104 : decode cX8_changes 104 = .ok (.iastore, 1) := by decide +kernel
theorem dX8_changes_105 : decode cX8_changes 105 = .ok (.iinc 5 1, 3) := by decide +kernel
theorem dX8_changes_108 : decode cX8_changes 108 = .ok (.goto (-74), 3) := by decide +kernel
theorem dX8_changes_111 : decode cX8_changes 111 = .ok (.aload_n 0, 1) := by decide +kernel
theorem dX8_changes_112 : decode cX8_changes 112 = .ok (.dup, 1) := by decide +kernel
theorem dX8_changes_113 : decode cX8_changes 113 = .ok (.getfield 158, 3) := by decide +kernel
theorem dX8_changes_116 : decode cX8_changes 116 = .ok (.iconst 1, 1) := by decide +kernel
theorem dX8_changes_117 : decode cX8_changes 117 = .ok (.isub, 1) := by decide +kernel
theorem dX8_changes_118 : decode cX8_changes 118 = .ok (.putfield 158, 3) := by decide +kernel
theorem dX8_changes_121 : decode cX8_changes 121 = .ok (.aload_n 0, 1) := by decide +kernel
theorem dX8_changes_122 : decode cX8_changes 122 = .ok (.getfield 34, 3) := by decide +kernel
theorem dX8_changes_125 : decode cX8_changes 125 = .ok (.aload_n 0, 1) := by decide +kernel
theorem dX8_changes_126 : decode cX8_changes 126 = .ok (.getfield 158, 3) := by decide +kernel
theorem dX8_changes_129 : decode cX8_changes 129 = .ok (.iload_n 1, 1) := by decide +kernel
theorem dX8_changes_130 : decode cX8_changes 130 = .ok (.iastore, 1) := by decide +kernel
theorem dX8_changes_131 : decode cX8_changes 131 = .ok (.aload_n 0, 1) := by decide +kernel
theorem dX8_changes_132 : decode cX8_changes 132 = .ok (.getfield 37, 3) := by decide +kernel
theorem dX8_changes_135 : decode cX8_changes 135 = .ok (.aload_n 0, 1) := by decide +kernel
theorem dX8_changes_136 : decode cX8_changes 136 = .ok (.getfield 158, 3) := by decide +kernel
theorem dX8_changes_139 : decode cX8_changes 139 = .ok (.iload_n 2, 1) := by decide +kernel
theorem dX8_changes_140 : decode cX8_changes 140 = .ok (.iastore, 1) := by decide +kernel
theorem dX8_changes_141 : decode cX8_changes 141 = .ok (.aload_n 0, 1) := by decide +kernel
theorem dX8_changes_142 : decode cX8_changes 142 = .ok (.getfield 40, 3) := by decide +kernel
theorem dX8_changes_145 : decode cX8_changes 145 = .ok (.aload_n 0, 1) := by decide +kernel
theorem dX8_changes_146 : decode cX8_changes 146 = .ok (.getfield 158, 3) := by decide +kernel
theorem dX8_changes_149 : decode cX8_changes 149 = .ok (.iload 4, 2) := by decide +kernel
theorem dX8_changes_151 : decode cX8_changes 151 = .ok (.iastore, 1) := by decide +kernel
theorem dX8_changes_152 : decode cX8_changes 152 = .ok (.aload_n 0, 1) := by decide +kernel
theorem dX8_changes_153 : decode cX8_changes 153 = .ok (.getfield 43, 3) := by decide +kernel
theorem dX8_changes_156 : decode cX8_changes 156 = .ok (.aload_n 0, 1) := by decide +kernel
theorem dX8_changes_157 : decode cX8_changes 157 = .ok (.getfield 158, 3) := by decide +kernel
theorem dX8_changes_160 : decode cX8_changes 160 = .ok (.iload_n 3, 1) := by decide +kernel
theorem dX8_changes_161 : decode cX8_changes 161 = .ok (.iastore, 1) := by decide +kernel
theorem dX8_changes_162 : decode cX8_changes 162 = .ok (.aload_n 0, 1) := by decide +kernel
theorem dX8_changes_163 : decode cX8_changes 163 = .ok (.dup, 1) := by decide +kernel
theorem dX8_changes_164 : decode cX8_changes 164 = .ok (.getfield 158, 3) := by decide +kernel
theorem dX8_changes_167 : decode cX8_changes 167 = .ok (.iconst 1, 1) := by decide +kernel
theorem dX8_changes_168 : decode cX8_changes 168 = .ok (.iadd, 1) := by decide +kernel
theorem dX8_changes_169 : decode cX8_changes 169 = .ok (.putfield 158, 3) := by decide +kernel
theorem dX8_changes_172 : decode cX8_changes 172 = .ok (.aload_n 0, 1) := by decide +kernel
theorem dX8_changes_173 : decode cX8_changes 173 = .ok (.iload_n 1, 1) := by decide +kernel
theorem dX8_changes_174 : decode cX8_changes 174 = .ok (.iload_n 2, 1) := by decide +kernel
theorem dX8_changes_175 : decode cX8_changes 175 = .ok (.iload_n 3, 1) := by decide +kernel
theorem dX8_changes_176 : decode cX8_changes 176 = .ok (.invokevirtual 161, 3) := by decide +kernel
theorem dX8_changes_179 : decode cX8_changes 179 = .ok (.iload 4, 2) := by decide +kernel
theorem dX8_changes_181 : decode cX8_changes 181 = .ok (.ireturn, 1) := by decide +kernel
theorem dX8_undo_0 : decode cX8_undo 0 = .ok (.aload_n 0, 1) := by decide +kernel
theorem dX8_undo_1 : decode cX8_undo 1 = .ok (.getfield 158, 3) := by decide +kernel
theorem dX8_undo_4 : decode cX8_undo 4 = .ok (.ifCond .ne 6, 3) := by decide +kernel
theorem dX8_undo_7 : decode cX8_undo 7 = .ok (.bipush (-5), 2) := by decide +kernel
theorem dX8_undo_9 : decode cX8_undo 9 = .ok (.ireturn, 1) := by decide +kernel
theorem dX8_undo_10 : decode cX8_undo 10 = .ok (.aload_n 0, 1) := by decide +kernel
theorem dX8_undo_11 : decode cX8_undo 11 = .ok (.dup, 1) := by decide +kernel
theorem dX8_undo_12 : decode cX8_undo 12 = .ok (.getfield 158, 3) := by decide +kernel
theorem dX8_undo_15 : decode cX8_undo 15 = .ok (.iconst 1, 1) := by decide +kernel
theorem dX8_undo_16 : decode cX8_undo 16 = .ok (.isub, 1) := by decide +kernel
theorem dX8_undo_17 : decode cX8_undo 17 = .ok (.putfield 158, 3) := by decide +kernel
theorem dX8_undo_20 : decode cX8_undo 20 = .ok (.aload_n 0, 1) := by decide +kernel
theorem dX8_undo_21 : decode cX8_undo 21 = .ok (.dup, 1) := by decide +kernel
theorem dX8_undo_22 : decode cX8_undo 22 = .ok (.getfield 155, 3) := by decide +kernel
theorem dX8_undo_25 : decode cX8_undo 25 = .ok (.iconst 1, 1) := by decide +kernel
theorem dX8_undo_26 : decode cX8_undo 26 = .ok (.iadd, 1) := by decide +kernel
theorem dX8_undo_27 : decode cX8_undo 27 = .ok (.putfield 155, 3) := by decide +kernel
theorem dX8_undo_30 : decode cX8_undo 30 = .ok (.aload_n 0, 1) := by decide +kernel
theorem dX8_undo_31 : decode cX8_undo 31 = .ok (.aload_n 0, 1) := by decide +kernel
theorem dX8_undo_32 : decode cX8_undo 32 = .ok (.getfield 34, 3) := by decide +kernel
theorem dX8_undo_35 : decode cX8_undo 35 = .ok (.aload_n 0, 1) := by decide +kernel
theorem dX8_undo_36 : decode cX8_undo 36 = .ok (.getfield 158, 3) := by decide +kernel
theorem dX8_undo_39 : decode cX8_undo 39 = .ok (.iaload, 1) := by decide +kernel
theorem dX8_undo_40 : decode cX8_undo 40 = .ok (.aload_n 0, 1) := by decide +kernel
theorem dX8_undo_41 : decode cX8_undo 41 = .ok (.getfield 37, 3) := by decide +kernel
theorem dX8_undo_44 : decode cX8_undo 44 = .ok (.aload_n 0, 1) := by decide +kernel
theorem dX8_undo_45 : decode cX8_undo 45 = .ok (.getfield 158, 3) := by decide +kernel
theorem dX8_undo_48 : decode cX8_undo 48 = .ok (.iaload, 1) := by decide +kernel
theorem dX8_undo_49 : decode cX8_undo 49 = .ok (.aload_n 0, 1) := by decide +kernel
theorem dX8_undo_50 : decode cX8_undo 50 = .ok (.getfield 40, 3) := by decide +kernel
theorem dX8_undo_53 : decode cX8_undo 53 = .ok (.aload_n 0, 1) := by decide +kernel
theorem dX8_undo_54 : decode cX8_undo 54 = .ok (.getfield 158, 3) := by decide +kernel
theorem dX8_undo_57 : decode cX8_undo 57 = .ok (.iaload, 1) := by decide +kernel
theorem dX8_undo_58 : decode cX8_undo 58 = .ok (.invokevirtual 161, 3) := by decide +kernel
theorem dX8_undo_61 : decode cX8_undo 61 = .ok (.aload_n 0, 1) := by decide +kernel
theorem dX8_undo_62 : decode cX8_undo 62 = .ok (.getfield 158, 3) := by decide +kernel
theorem dX8_undo_65 : decode cX8_undo 65 = .ok (.ireturn, 1) := by decide +kernel
theorem dX8_redo_0 : decode cX8_redo 0 = .ok (.aload_n 0, 1) := by decide +kernel
theorem dX8_redo_1 : decode cX8_redo 1 = .ok (.getfield 155, 3) := by decide +kernel
theorem dX8_redo_4 : decode cX8_redo 4 = .ok (.ifCond .ne 6, 3) := by decide +kernel
theorem dX8_redo_7 : decode cX8_redo 7 = .ok (.bipush (-5), 2) := by decide +kernel
theorem dX8_redo_9 : decode cX8_redo 9 = .ok (.ireturn, 1) := by decide +kernel
theorem dX8_redo_10 : decode cX8_redo 10 = .ok (.aload_n 0, 1) := by decide +kernel
theorem dX8_redo_11 : decode cX8_redo 11 = .ok (.aload_n 0, 1) := by decide +kernel
theorem dX8_redo_12 : decode cX8_redo 12 = .ok (.getfield 34, 3) := by decide +kernel
theorem dX8_redo_15 : decode cX8_redo 15 = .ok (.aload_n 0, 1) := by decide +kernel
theorem dX8_redo_16 : decode cX8_redo 16 = .ok (.getfield 158, 3) := by decide +kernel
theorem dX8_redo_19 : decode cX8_redo 19 = .ok (.iaload, 1) := by decide +kernel
theorem dX8_redo_20 : decode cX8_redo 20 = .ok (.aload_n 0, 1) := by decide +kernel
theorem dX8_redo_21 : decode cX8_redo 21 = .ok (.getfield 37, 3) := by decide +kernel
theorem dX8_redo_24 : decode cX8_redo 24 = .ok (.aload_n 0, 1) := by decide +kernel
theorem dX8_redo_25 : decode cX8_redo 25 = .ok (.getfield 158, 3) := by decide +kernel
theorem dX8_redo_28 : decode cX8_redo 28 = .ok (.iaload, 1) := by decide +kernel
theorem dX8_redo_29 : decode cX8_redo 29 = .ok (.aload_n 0, 1) := by decide +kernel
theorem dX8_redo_30 : decode cX8_redo 30 = .ok (.getfield 43, 3) := by decide +kernel
theorem dX8_redo_33 : decode cX8_redo 33 = .ok (.aload_n 0, 1) := by decide +kernel
theorem dX8_redo_34 : decode cX8_redo 34 = .ok (.getfield 158, 3) := by decide +kernel
theorem dX8_redo_37 : decode cX8_redo 37 = .ok (.iaload, 1) := by decide +kernel
theorem dX8_redo_38 : decode cX8_redo 38 = .ok (.invokevirtual 161, 3) := by decide +kernel
theorem dX8_redo_41 : decode cX8_redo 41 = .ok (.aload_n 0, 1) := by decide +kernel
theorem dX8_redo_42 : decode cX8_redo 42 = .ok (.dup, 1) := by decide +kernel
theorem dX8_redo_43 : decode cX8_redo 43 = .ok (.getfield 158, 3) := by decide +kernel
theorem dX8_redo_46 : decode cX8_redo 46 = .ok (.iconst 1, 1) := by decide +kernel
theorem dX8_redo_47 : decode cX8_redo 47 = .ok (.iadd, 1) := by decide +kernel
theorem dX8_redo_48 : decode cX8_redo 48 = .ok (.putfield 158, 3) := by decide +kernel
theorem dX8_redo_51 : decode cX8_redo 51 = .ok (.aload_n 0, 1) := by decide +kernel
theorem dX8_redo_52 : decode cX8_redo 52 = .ok (.dup, 1) := by decide +kernel
theorem dX8_redo_53 : decode cX8_redo 53 = .ok (.getfield 155, 3) := by decide +kernel
theorem dX8_redo_56 : decode cX8_redo 56 = .ok (.iconst 1, 1) := by decide +kernel
theorem dX8_redo_57 : decode cX8_redo 57 = .ok (.isub, 1) := by decide +kernel
theorem dX8_redo_58 : decode cX8_redo 58 = .ok (.putfield 155, 3) := by decide +kernel
theorem dX8_redo_61 : decode cX8_redo 61 = .ok (.aload_n 0, 1) := by decide +kernel
theorem dX8_redo_62 : decode cX8_redo 62 = .ok (.getfield 155, 3) := by decide +kernel
theorem dX8_redo_65 : decode cX8_redo 65 = .ok (.ireturn, 1) := by decide +kernel
theorem dX8_mend_0 : decode cX8_mend 0 = .ok (.iload_n 2, 1) := by decide +kernel
theorem dX8_mend_1 : decode cX8_mend 1 = .ok (.ifCond .ne 40, 3) := by decide +kernel
theorem dX8_mend_4 : decode cX8_mend 4 = .ok (.aload_n 0, 1) := by decide +kernel
theorem dX8_mend_5 : decode cX8_mend 5 = .ok (.iload_n 1, 1) := by decide +kernel
theorem dX8_mend_6 : decode cX8_mend 6 = .ok (.invokevirtual 135, 3) := by decide +kernel
theorem dX8_mend_9 : decode cX8_mend 9 = .ok (.ifCond .eq 30, 3) := by decide +kernel
theorem dX8_mend_12 : decode cX8_mend 12 = .ok (.iload_n 3, 1) := by decide +kernel
theorem dX8_mend_13 : decode cX8_mend 13 = .ok (.aload_n 0, 1) := by decide +kernel
theorem dX8_mend_14 : decode cX8_mend 14 = .ok (.getfield 7, 3) := by decide +kernel
theorem dX8_mend_17 : decode cX8_mend 17 = .ok (.iload_n 1, 1) := by decide +kernel
theorem dX8_mend_18 : decode cX8_mend 18 = .ok (.iaload, 1) := by decide +kernel
theorem dX8_mend_19 : decode cX8_mend 19 = .ok (.iconst 1, 1) := by decide +kernel
theorem dX8_mend_20 : decode cX8_mend 20 = .ok (.iadd, 1) := by decide +kernel
theorem dX8_mend_21 : decode cX8_mend 21 = .ok (.bipush 100, 2) := by decide +kernel
theorem dX8_mend_23 : decode cX8_mend 23 = .ok (.invokestatic 114, 3) := by decide +kernel
theorem dX8_mend_26 : decode cX8_mend 26 = .ok (.ifCond .eq 13, 3) := by decide +kernel
theorem dX8_mend_29 : decode cX8_mend 29 = .ok (.aload_n 0, 1) := by decide +kernel
theorem dX8_mend_30 : decode cX8_mend 30 = .ok (.iconst 0, 1) := by decide +kernel
theorem dX8_mend_31 : decode cX8_mend 31 = .ok (.iload_n 1, 1) := by decide +kernel
theorem dX8_mend_32 : decode cX8_mend 32 = .ok (.iload_n 3, 1) := by decide +kernel
theorem dX8_mend_33 : decode cX8_mend 33 = .ok (.invokevirtual 165, 3) := by decide +kernel
theorem dX8_mend_36 : decode cX8_mend 36 = .ok (.goto 4, 3) := by decide +kernel
theorem dX8_mend_39 : decode cX8_mend 39 = .ok (.iconst (-1), 1) := by decide +kernel
theorem dX8_mend_40 : decode cX8_mend 40 = .ok (.ireturn, 1) := by decide +kernel
theorem dX8_mend_41 : decode cX8_mend 41 = .ok (.iload_n 2, 1) := by decide +kernel
theorem dX8_mend_42 : decode cX8_mend 42 = .ok (.iconst 1, 1) := by decide +kernel
theorem dX8_mend_43 : decode cX8_mend 43 = .ok (.if_icmp .ne 30, 3) := by decide +kernel
theorem dX8_mend_46 : decode cX8_mend 46 = .ok (.iload_n 1, 1) := by decide +kernel
theorem dX8_mend_47 : decode cX8_mend 47 = .ok (.invokestatic 148, 3) := by decide +kernel
theorem dX8_mend_50 : decode cX8_mend 50 = .ok (.ifCond .eq 23, 3) := by decide +kernel
theorem dX8_mend_53 : decode cX8_mend 53 = .ok (.iload_n 3, 1) := by decide +kernel
theorem dX8_mend_54 : decode cX8_mend 54 = .ok (.iconst 0, 1) := by decide +kernel
theorem dX8_mend_55 : decode cX8_mend 55 = .ok (.bipush 9, 2) := by decide +kernel
theorem dX8_mend_57 : decode cX8_mend 57 = .ok (.invokestatic 114, 3) := by decide +kernel
theorem dX8_mend_60 : decode cX8_mend 60 = .ok (.ifCond .eq 13, 3) := by decide +kernel
theorem dX8_mend_63 : decode cX8_mend 63 = .ok (.aload_n 0, 1) := by decide +kernel
theorem dX8_mend_64 : decode cX8_mend 64 = .ok (.iconst 1, 1) := by decide +kernel
theorem dX8_mend_65 : decode cX8_mend 65 = .ok (.iload_n 1, 1) := by decide +kernel
theorem dX8_mend_66 : decode cX8_mend 66 = .ok (.iload_n 3, 1) := by decide +kernel
theorem dX8_mend_67 : decode cX8_mend 67 = .ok (.invokevirtual 165, 3) := by decide +kernel
theorem dX8_mend_70 : decode cX8_mend 70 = .ok (.goto 4, 3) := by decide +kernel
theorem dX8_mend_73 : decode cX8_mend 73 = .ok (.iconst (-1), 1) := by decide +kernel
theorem dX8_mend_74 : decode cX8_mend 74 = .ok (.ireturn, 1) := by decide +kernel
theorem dX8_isAhead_0 : decode cX8_isAhead 0 = .ok (.aload_n 0, 1) := by decide +kernel
theorem dX8_isAhead_1 : decode cX8_isAhead 1 = .ok (.getfield 7, 3) := by decide +kernel
theorem dX8_isAhead_4 : decode cX8_isAhead 4 = .ok (.iload_n 1, 1) := by decide +kernel
theorem dX8_isAhead_5 : decode cX8_isAhead 5 = .ok (.iaload, 1) := by decide +kernel
theorem dX8_isAhead_6 : decode cX8_isAhead 6 = .ok (.aload_n 0, 1) := by decide +kernel
theorem dX8_isAhead_7 : decode cX8_isAhead 7 = .ok (.getfield 7, 3) := by decide +kernel
theorem dX8_isAhead_10 : decode cX8_isAhead 10 = .ok (.iload_n 2, 1) := by decide +kernel
theorem dX8_isAhead_11 : decode cX8_isAhead 11 = .ok (.iaload, 1) := by decide +kernel
theorem dX8_isAhead_12 : decode cX8_isAhead 12 = .ok (.if_icmp .lt 23, 3) := by decide +kernel
theorem dX8_isAhead_15 : decode cX8_isAhead 15 = .ok (.aload_n 0, 1) := by decide +kernel
theorem dX8_isAhead_16 : decode cX8_isAhead 16 = .ok (.getfield 7, 3) := by decide +kernel
theorem dX8_isAhead_19 : decode cX8_isAhead 19 = .ok (.iload_n 1, 1) := by decide +kernel
theorem dX8_isAhead_20 : decode cX8_isAhead 20 = .ok (.iaload, 1) := by decide +kernel
theorem dX8_isAhead_21 : decode cX8_isAhead 21 = .ok (.aload_n 0, 1) := by decide +kernel
theorem dX8_isAhead_22 : decode cX8_isAhead 22 = .ok (.getfield 7, 3) := by decide +kernel
theorem dX8_isAhead_25 : decode cX8_isAhead 25 = .ok (.iload_n 2, 1) := by decide +kernel
theorem dX8_isAhead_26 : decode cX8_isAhead 26 = .ok (.iaload, 1) := by decide +kernel
theorem dX8_isAhead_27 : decode cX8_isAhead 27 = .ok (.if_icmp .ne 12, 3) := by decide +kernel
theorem dX8_isAhead_30 : decode cX8_isAhead 30 = .ok (.iload_n 1, 1) := by decide +kernel
theorem dX8_isAhead_31 : decode cX8_isAhead 31 = .ok (.iload_n 2, 1) := by decide +kernel
theorem dX8_isAhead_32 : decode cX8_isAhead 32 = .ok (.if_icmp .ge 7, 3) := by decide +kernel
theorem dX8_isAhead_35 : decode cX8_isAhead 35 = .ok (.iconst 1, 1) := by decide +kernel
theorem dX8_isAhead_36 : decode cX8_isAhead 36 = .ok (.goto 4, 3) := by decide +kernel
theorem dX8_isAhead_39 : decode cX8_isAhead 39 = .ok (.iconst 0, 1) := by decide +kernel
theorem dX8_isAhead_40 : decode cX8_isAhead 40 = .ok (.ireturn, 1) := by decide +kernel
theorem dX8_placeOf_0 : decode cX8_placeOf 0 = .ok (.iconst 0, 1) := by decide +kernel
theorem dX8_placeOf_1 : decode cX8_placeOf 1 = .ok (.istore_n 2, 1) := by decide +kernel
theorem dX8_placeOf_2 : decode cX8_placeOf 2 = .ok (.iconst 0, 1) := by decide +kernel
theorem dX8_placeOf_3 : decode cX8_placeOf 3 = .ok (.istore_n 3, 1) := by decide +kernel
theorem dX8_placeOf_4 : decode cX8_placeOf 4 = .ok (.iload_n 3, 1) := by decide +kernel
theorem dX8_placeOf_5 : decode cX8_placeOf 5 = .ok (.aload_n 0, 1) := by decide +kernel
theorem dX8_placeOf_6 : decode cX8_placeOf 6 = .ok (.getfield 111, 3) := by decide +kernel
theorem dX8_placeOf_9 : decode cX8_placeOf 9 = .ok (.if_icmp .ge 21, 3) := by decide +kernel
theorem dX8_placeOf_12 : decode cX8_placeOf 12 = .ok (.aload_n 0, 1) := by decide +kernel
theorem dX8_placeOf_13 : decode cX8_placeOf 13 = .ok (.iload_n 3, 1) := by decide +kernel
theorem dX8_placeOf_14 : decode cX8_placeOf 14 = .ok (.iload_n 1, 1) := by decide +kernel
theorem dX8_placeOf_15 : decode cX8_placeOf 15 = .ok (.invokevirtual 168, 3) := by decide +kernel
theorem dX8_placeOf_18 : decode cX8_placeOf 18 = .ok (.ifCond .eq 6, 3) := by decide +kernel
theorem dX8_placeOf_21 : decode cX8_placeOf 21 = .ok (.iinc 2 1, 3) := by decide +kernel
theorem dX8_placeOf_24 : decode cX8_placeOf 24 = .ok (.iinc 3 1, 3) := by decide +kernel
theorem dX8_placeOf_27 : decode cX8_placeOf 27 = .ok (.goto (-23), 3) := by decide +kernel
theorem dX8_placeOf_30 : decode cX8_placeOf 30 = .ok (.iload_n 2, 1) := by decide +kernel
theorem dX8_placeOf_31 : decode cX8_placeOf 31 = .ok (.ireturn, 1) := by decide +kernel
theorem dX8_personAt_0 : decode cX8_personAt 0 = .ok (.iconst 0, 1) := by decide +kernel
theorem dX8_personAt_1 : decode cX8_personAt 1 = .ok (.istore_n 2, 1) := by decide +kernel
theorem dX8_personAt_2 : decode cX8_personAt 2 = .ok (.iload_n 2, 1) := by decide +kernel
theorem dX8_personAt_3 : decode cX8_personAt 3 = .ok (.aload_n 0, 1) := by decide +kernel
theorem dX8_personAt_4 : decode cX8_personAt 4 = .ok (.getfield 111, 3) := by decide +kernel
theorem dX8_personAt_7 : decode cX8_personAt 7 = .ok (.if_icmp .ge 20, 3) := by decide +kernel
theorem dX8_personAt_10 : decode cX8_personAt 10 = .ok (.aload_n 0, 1) := by decide +kernel
theorem dX8_personAt_11 : decode cX8_personAt 11 = .ok (.iload_n 2, 1) := by decide +kernel
theorem dX8_personAt_12 : decode cX8_personAt 12 = .ok (.invokevirtual 171, 3) := by decide +kernel
theorem dX8_personAt_15 : decode cX8_personAt 15 = .ok (.iload_n 1, 1) := by decide +kernel
theorem dX8_personAt_16 : decode cX8_personAt 16 = .ok (.if_icmp .ne 5, 3) := by decide +kernel
theorem dX8_personAt_19 : decode cX8_personAt 19 = .ok (.iload_n 2, 1) := by decide +kernel
theorem dX8_personAt_20 : decode cX8_personAt 20 = .ok (.ireturn, 1) := by decide +kernel
theorem dX8_personAt_21 : decode cX8_personAt 21 = .ok (.iinc 2 1, 3) := by decide +kernel
theorem dX8_personAt_24 : decode cX8_personAt 24 = .ok (.goto (-22), 3) := by decide +kernel
theorem dX8_personAt_27 : decode cX8_personAt 27 = .ok (.iconst (-1), 1) := by decide +kernel
theorem dX8_personAt_28 : decode cX8_personAt 28 = .ok (.ireturn, 1) := by decide +kernel
theorem dX8_counts_0 : decode cX8_counts 0 = .ok (.aload_n 0, 1) := by decide +kernel
theorem dX8_counts_1 : decode cX8_counts 1 = .ok (.aload_n 0, 1) := by decide +kernel
theorem dX8_counts_2 : decode cX8_counts 2 = .ok (.getfield 19, 3) := by decide +kernel
theorem dX8_counts_5 : decode cX8_counts 5 = .ok (.iload_n 1, 1) := by decide +kernel
theorem dX8_counts_6 : decode cX8_counts 6 = .ok (.iaload, 1) := by decide +kernel
theorem dX8_counts_7 : decode cX8_counts 7 = .ok (.aload_n 0, 1) := by decide +kernel
theorem dX8_counts_8 : decode cX8_counts 8 = .ok (.getfield 25, 3) := by decide +kernel
theorem dX8_counts_11 : decode cX8_counts 11 = .ok (.iload_n 1, 1) := by decide +kernel
theorem dX8_counts_12 : decode cX8_counts 12 = .ok (.iaload, 1) := by decide +kernel
theorem dX8_counts_13 : decode cX8_counts 13 = .ok (.invokevirtual 138, 3) := by decide +kernel
theorem dX8_counts_16 : decode cX8_counts 16 = .ok (.ifCond .eq 26, 3) := by decide +kernel
theorem dX8_counts_19 : decode cX8_counts 19 = .ok (.aload_n 0, 1) := by decide +kernel
theorem dX8_counts_20 : decode cX8_counts 20 = .ok (.aload_n 0, 1) := by decide +kernel
theorem dX8_counts_21 : decode cX8_counts 21 = .ok (.getfield 22, 3) := by decide +kernel
theorem dX8_counts_24 : decode cX8_counts 24 = .ok (.iload_n 1, 1) := by decide +kernel
theorem dX8_counts_25 : decode cX8_counts 25 = .ok (.iaload, 1) := by decide +kernel
theorem dX8_counts_26 : decode cX8_counts 26 = .ok (.aload_n 0, 1) := by decide +kernel
theorem dX8_counts_27 : decode cX8_counts 27 = .ok (.getfield 25, 3) := by decide +kernel
theorem dX8_counts_30 : decode cX8_counts 30 = .ok (.iload_n 1, 1) := by decide +kernel
theorem dX8_counts_31 : decode cX8_counts 31 = .ok (.iaload, 1) := by decide +kernel
theorem dX8_counts_32 : decode cX8_counts 32 = .ok (.invokevirtual 138, 3) := by decide +kernel
theorem dX8_counts_35 : decode cX8_counts 35 = .ok (.ifCond .eq 7, 3) := by decide +kernel
theorem dX8_counts_38 : decode cX8_counts 38 = .ok (.iconst 1, 1) := by decide +kernel
theorem dX8_counts_39 : decode cX8_counts 39 = .ok (.goto 4, 3) := by decide +kernel
theorem dX8_counts_42 : decode cX8_counts 42 = .ok (.iconst 0, 1) := by decide +kernel
theorem dX8_counts_43 : decode cX8_counts 43 = .ok (.ireturn, 1) := by decide +kernel
theorem dX8_bearersOf_0 : decode cX8_bearersOf 0 = .ok (.iconst 0, 1) := by decide +kernel
theorem dX8_bearersOf_1 : decode cX8_bearersOf 1 = .ok (.istore_n 2, 1) := by decide +kernel
theorem dX8_bearersOf_2 : decode cX8_bearersOf 2 = .ok (.iconst 0, 1) := by decide +kernel
theorem dX8_bearersOf_3 : decode cX8_bearersOf 3 = .ok (.istore_n 3, 1) := by decide +kernel
theorem dX8_bearersOf_4 : decode cX8_bearersOf 4 = .ok (.iload_n 3, 1) := by decide +kernel
theorem dX8_bearersOf_5 : decode cX8_bearersOf 5 = .ok (.aload_n 0, 1) := by decide +kernel
theorem dX8_bearersOf_6 : decode cX8_bearersOf 6 = .ok (.getfield 111, 3) := by decide +kernel
theorem dX8_bearersOf_9 : decode cX8_bearersOf 9 = .ok (.if_icmp .ge 25, 3) := by decide +kernel
theorem dX8_bearersOf_12 : decode cX8_bearersOf 12 = .ok (.aload_n 0, 1) := by decide +kernel
theorem dX8_bearersOf_13 : decode cX8_bearersOf 13 = .ok (.getfield 16, 3) := by decide +kernel
theorem dX8_bearersOf_16 : decode cX8_bearersOf 16 = .ok (.iload_n 3, 1) := by decide +kernel
theorem dX8_bearersOf_17 : decode cX8_bearersOf 17 = .ok (.iaload, 1) := by decide +kernel
theorem dX8_bearersOf_18 : decode cX8_bearersOf 18 = .ok (.iload_n 1, 1) := by decide +kernel
theorem dX8_bearersOf_19 : decode cX8_bearersOf 19 = .ok (.if_icmp .ne 9, 3) := by decide +kernel
theorem dX8_bearersOf_22 : decode cX8_bearersOf 22 = .ok (.iload_n 2, 1) := by decide +kernel
theorem dX8_bearersOf_23 : decode cX8_bearersOf 23 = .ok (.iconst 1, 1) := by decide +kernel
theorem dX8_bearersOf_24 : decode cX8_bearersOf 24 = .ok (.iload_n 3, 1) := by decide +kernel
theorem dX8_bearersOf_25 : decode cX8_bearersOf 25 = .ok (.ishl, 1) := by decide +kernel
theorem dX8_bearersOf_26 : decode cX8_bearersOf 26 = .ok (.ior, 1) := by decide +kernel
theorem dX8_bearersOf_27 : decode cX8_bearersOf 27 = .ok (.istore_n 2, 1) := by decide +kernel
theorem dX8_bearersOf_28 : decode cX8_bearersOf 28 = .ok (.iinc 3 1, 3) := by decide +kernel
theorem dX8_bearersOf_31 : decode cX8_bearersOf 31 = .ok (.goto (-27), 3) := by decide +kernel
theorem dX8_bearersOf_34 : decode cX8_bearersOf 34 = .ok (.iload_n 2, 1) := by decide +kernel
theorem dX8_bearersOf_35 : decode cX8_bearersOf 35 = .ok (.ireturn, 1) := by decide +kernel
theorem dX8_of_0 : decode cX8_of 0 = .ok (.iload_n 2, 1) := by decide +kernel
theorem dX8_of_1 : decode cX8_of 1 = .ok (.iconst 0, 1) := by decide +kernel
theorem dX8_of_2 : decode cX8_of 2 = .ok (.iconst 3, 1) := by decide +kernel
theorem dX8_of_3 : decode cX8_of 3 = .ok (.invokestatic 114, 3) := by decide +kernel
theorem dX8_of_6 : decode cX8_of 6 = .ok (.ifCond .eq 61, 3) := by decide +kernel
theorem dX8_of_9 : decode cX8_of 9 = .ok (.aload_n 0, 1) := by decide +kernel
theorem dX8_of_10 : decode cX8_of 10 = .ok (.iload_n 1, 1) := by decide +kernel
theorem dX8_of_11 : decode cX8_of 11 = .ok (.invokevirtual 135, 3) := by decide +kernel
theorem dX8_of_14 : decode cX8_of 14 = .ok (.ifCond .ne 6, 3) := by decide +kernel
theorem dX8_of_17 : decode cX8_of 17 = .ok (.ldc 147, 2) := by decide +kernel
theorem dX8_of_19 : decode cX8_of 19 = .ok (.ireturn, 1) := by decide +kernel
theorem dX8_of_20 : decode cX8_of 20 = .ok (.iload_n 2, 1) := by decide +kernel
theorem dX8_of_21 : decode cX8_of 21 = .ok (.ifCond .ne 12, 3) := by decide +kernel
theorem dX8_of_24 : decode cX8_of 24 = .ok (.aload_n 0, 1) := by decide +kernel
theorem dX8_of_25 : decode cX8_of 25 = .ok (.getfield 7, 3) := by decide +kernel
theorem dX8_of_28 : decode cX8_of 28 = .ok (.iload_n 1, 1) := by decide +kernel
theorem dX8_of_29 : decode cX8_of 29 = .ok (.iaload, 1) := by decide +kernel
theorem dX8_of_30 : decode cX8_of 30 = .ok (.goto 36, 3) := by decide +kernel
theorem dX8_of_33 : decode cX8_of 33 = .ok (.iload_n 2, 1) := by decide +kernel
theorem dX8_of_34 : decode cX8_of 34 = .ok (.iconst 1, 1) := by decide +kernel
theorem dX8_of_35 : decode cX8_of 35 = .ok (.if_icmp .ne 12, 3) := by decide +kernel
theorem dX8_of_38 : decode cX8_of 38 = .ok (.aload_n 0, 1) := by decide +kernel
theorem dX8_of_39 : decode cX8_of 39 = .ok (.getfield 13, 3) := by decide +kernel
theorem dX8_of_42 : decode cX8_of 42 = .ok (.iload_n 1, 1) := by decide +kernel
theorem dX8_of_43 : decode cX8_of 43 = .ok (.iaload, 1) := by decide +kernel
theorem dX8_of_44 : decode cX8_of 44 = .ok (.goto 22, 3) := by decide +kernel
theorem dX8_of_47 : decode cX8_of 47 = .ok (.iload_n 2, 1) := by decide +kernel
theorem dX8_of_48 : decode cX8_of 48 = .ok (.iconst 2, 1) := by decide +kernel
theorem dX8_of_49 : decode cX8_of 49 = .ok (.if_icmp .ne 12, 3) := by decide +kernel
theorem dX8_of_52 : decode cX8_of 52 = .ok (.aload_n 0, 1) := by decide +kernel
theorem dX8_of_53 : decode cX8_of 53 = .ok (.getfield 16, 3) := by decide +kernel
theorem dX8_of_56 : decode cX8_of 56 = .ok (.iload_n 1, 1) := by decide +kernel
theorem dX8_of_57 : decode cX8_of 57 = .ok (.iaload, 1) := by decide +kernel
theorem dX8_of_58 : decode cX8_of 58 = .ok (.goto 8, 3) := by decide +kernel
theorem dX8_of_61 : decode cX8_of 61 = .ok (.aload_n 0, 1) := by decide +kernel
theorem dX8_of_62 : decode cX8_of 62 = .ok (.iload_n 1, 1) := by decide +kernel
theorem dX8_of_63 : decode cX8_of 63 = .ok (.invokevirtual 171, 3) := by decide +kernel
theorem dX8_of_66 : decode cX8_of 66 = .ok (.ireturn, 1) := by decide +kernel
theorem dX8_of_67 : decode cX8_of 67 = .ok (.iload_n 2, 1) := by decide +kernel
theorem dX8_of_68 : decode cX8_of 68 = .ok (.bipush 10, 2) := by decide +kernel
theorem dX8_of_70 : decode cX8_of 70 = .ok (.bipush 12, 2) := by decide +kernel
theorem dX8_of_72 : decode cX8_of 72 = .ok (.invokestatic 114, 3) := by decide +kernel
theorem dX8_of_75 : decode cX8_of 75 = .ok (.ifCond .eq 51, 3) := by decide +kernel
theorem dX8_of_78 : decode cX8_of 78 = .ok (.iload_n 1, 1) := by decide +kernel
theorem dX8_of_79 : decode cX8_of 79 = .ok (.invokestatic 148, 3) := by decide +kernel
theorem dX8_of_82 : decode cX8_of 82 = .ok (.ifCond .ne 8, 3) := by decide +kernel
theorem dX8_of_85 : decode cX8_of 85 = .ok (.ldc 147, 2) := by decide +kernel
theorem dX8_of_87 : decode cX8_of 87 = .ok (.goto 38, 3) := by decide +kernel
theorem dX8_of_90 : decode cX8_of 90 = .ok (.iload_n 2, 1) := by decide +kernel
theorem dX8_of_91 : decode cX8_of 91 = .ok (.bipush 10, 2) := by decide +kernel
theorem dX8_of_93 : decode cX8_of 93 = .ok (.if_icmp .ne 12, 3) := by decide +kernel
theorem dX8_of_96 : decode cX8_of 96 = .ok (.aload_n 0, 1) := by decide +kernel
theorem dX8_of_97 : decode cX8_of 97 = .ok (.getfield 28, 3) := by decide +kernel
theorem dX8_of_100 : decode cX8_of 100 = .ok (.iload_n 1, 1) := by decide +kernel
theorem dX8_of_101 : decode cX8_of 101 = .ok (.iaload, 1) := by decide +kernel
theorem dX8_of_102 : decode cX8_of 102 = .ok (.goto 23, 3) := by decide +kernel
theorem dX8_of_105 : decode cX8_of 105 = .ok (.iload_n 2, 1) := by decide +kernel
theorem dX8_of_106 : decode cX8_of 106 = .ok (.bipush 11, 2) := by decide +kernel
theorem dX8_of_108 : decode cX8_of 108 = .ok (.if_icmp .ne 12, 3) := by decide +kernel
theorem dX8_of_111 : decode cX8_of 111 = .ok (.aload_n 0, 1) := by decide +kernel
theorem dX8_of_112 : decode cX8_of 112 = .ok (.getfield 31, 3) := by decide +kernel
theorem dX8_of_115 : decode cX8_of 115 = .ok (.iload_n 1, 1) := by decide +kernel
theorem dX8_of_116 : decode cX8_of 116 = .ok (.iaload, 1) := by decide +kernel
theorem dX8_of_117 : decode cX8_of 117 = .ok (.goto 8, 3) := by decide +kernel
theorem dX8_of_120 : decode cX8_of 120 = .ok (.aload_n 0, 1) := by decide +kernel
theorem dX8_of_121 : decode cX8_of 121 = .ok (.iload_n 1, 1) := by decide +kernel
theorem dX8_of_122 : decode cX8_of 122 = .ok (.invokevirtual 175, 3) := by decide +kernel
theorem dX8_of_125 : decode cX8_of 125 = .ok (.ireturn, 1) := by decide +kernel
theorem dX8_of_126 : decode cX8_of 126 = .ok (.iload_n 2, 1) := by decide +kernel
theorem dX8_of_127 : decode cX8_of 127 = .ok (.bipush 20, 2) := by decide +kernel
theorem dX8_of_129 : decode cX8_of 129 = .ok (.bipush 22, 2) := by decide +kernel
theorem dX8_of_131 : decode cX8_of 131 = .ok (.invokestatic 114, 3) := by decide +kernel
theorem dX8_of_134 : decode cX8_of 134 = .ok (.ifCond .eq 17, 3) := by decide +kernel
theorem dX8_of_137 : decode cX8_of 137 = .ok (.iload_n 1, 1) := by decide +kernel
theorem dX8_of_138 : decode cX8_of 138 = .ok (.iconst 0, 1) := by decide +kernel
theorem dX8_of_139 : decode cX8_of 139 = .ok (.aload_n 0, 1) := by decide +kernel
theorem dX8_of_140 : decode cX8_of 140 = .ok (.getfield 141, 3) := by decide +kernel
theorem dX8_of_143 : decode cX8_of 143 = .ok (.iconst 1, 1) := by decide +kernel
theorem dX8_of_144 : decode cX8_of 144 = .ok (.isub, 1) := by decide +kernel
theorem dX8_of_145 : decode cX8_of 145 = .ok (.invokestatic 114, 3) := by decide +kernel
theorem dX8_of_148 : decode cX8_of 148 = .ok (.ifCond .ne 6, 3) := by decide +kernel
theorem dX8_of_151 : decode cX8_of 151 = .ok (.ldc 147, 2) := by decide +kernel
theorem dX8_of_153 : decode cX8_of 153 = .ok (.ireturn, 1) := by decide +kernel
theorem dX8_of_154 : decode cX8_of 154 = .ok (.iload_n 2, 1) := by decide +kernel
theorem dX8_of_155 : decode cX8_of 155 = .ok (.bipush 20, 2) := by decide +kernel
theorem dX8_of_157 : decode cX8_of 157 = .ok (.if_icmp .ne 22, 3) := by decide +kernel
theorem dX8_of_160 : decode cX8_of 160 = .ok (.bipush 100, 2) := by decide +kernel
theorem dX8_of_162 : decode cX8_of 162 = .ok (.aload_n 0, 1) := by decide +kernel
theorem dX8_of_163 : decode cX8_of 163 = .ok (.getfield 19, 3) := by decide +kernel
theorem dX8_of_166 : decode cX8_of 166 = .ok (.iload_n 1, 1) := by decide +kernel
theorem dX8_of_167 : decode cX8_of 167 = .ok (.iaload, 1) := by decide +kernel
theorem dX8_of_168 : decode cX8_of 168 = .ok (.imul, 1) := by decide +kernel
theorem dX8_of_169 : decode cX8_of 169 = .ok (.aload_n 0, 1) := by decide +kernel
theorem dX8_of_170 : decode cX8_of 170 = .ok (.getfield 22, 3) := by decide +kernel
theorem dX8_of_173 : decode cX8_of 173 = .ok (.iload_n 1, 1) := by decide +kernel
theorem dX8_of_174 : decode cX8_of 174 = .ok (.iaload, 1) := by decide +kernel
theorem dX8_of_175 : decode cX8_of 175 = .ok (.iadd, 1) := by decide +kernel
theorem dX8_of_176 : decode cX8_of 176 = .ok (.goto 31, 3) := by decide +kernel
theorem dX8_of_179 : decode cX8_of 179 = .ok (.iload_n 2, 1) := by decide +kernel
theorem dX8_of_180 : decode cX8_of 180 = .ok (.bipush 21, 2) := by decide +kernel
theorem dX8_of_182 : decode cX8_of 182 = .ok (.if_icmp .ne 12, 3) := by decide +kernel
theorem dX8_of_185 : decode cX8_of 185 = .ok (.aload_n 0, 1) := by decide +kernel
theorem dX8_of_186 : decode cX8_of 186 = .ok (.getfield 25, 3) := by decide +kernel
theorem dX8_of_189 : decode cX8_of 189 = .ok (.iload_n 1, 1) := by decide +kernel
theorem dX8_of_190 : decode cX8_of 190 = .ok (.iaload, 1) := by decide +kernel
theorem dX8_of_191 : decode cX8_of 191 = .ok (.goto 16, 3) := by decide +kernel
theorem dX8_of_194 : decode cX8_of 194 = .ok (.aload_n 0, 1) := by decide +kernel
theorem dX8_of_195 : decode cX8_of 195 = .ok (.iload_n 1, 1) := by decide +kernel
theorem dX8_of_196 : decode cX8_of 196 = .ok (.invokevirtual 178, 3) := by decide +kernel
theorem dX8_of_199 : decode cX8_of 199 = .ok (.ifCond .eq 7, 3) := by decide +kernel
theorem dX8_of_202 : decode cX8_of 202 = .ok (.iconst 1, 1) := by decide +kernel
theorem dX8_of_203 : decode cX8_of 203 = .ok (.goto 4, 3) := by decide +kernel
theorem dX8_of_206 : decode cX8_of 206 = .ok (.iconst 0, 1) := by decide +kernel
theorem dX8_of_207 : decode cX8_of 207 = .ok (.ireturn, 1) := by decide +kernel
theorem dX8_feed_0 : decode cX8_feed 0 = .ok (.iload_n 1, 1) := by decide +kernel
theorem dX8_feed_1 : decode cX8_feed 1 = .ok (.iconst 0, 1) := by decide +kernel
theorem dX8_feed_2 : decode cX8_feed 2 = .ok (.sipush 255, 3) := by decide +kernel
theorem dX8_feed_5 : decode cX8_feed 5 = .ok (.invokestatic 114, 3) := by decide +kernel
theorem dX8_feed_8 : decode cX8_feed 8 = .ok (.ifCond .ne 5, 3) := by decide +kernel
theorem dX8_feed_11 : decode cX8_feed 11 = .ok (.iconst (-1), 1) := by decide +kernel
theorem dX8_feed_12 : decode cX8_feed 12 = .ok (.ireturn, 1) := by decide +kernel
theorem dX8_feed_13 : decode cX8_feed 13 = .ok (.aload_n 0, 1) := by decide +kernel
theorem dX8_feed_14 : decode cX8_feed 14 = .ok (.getfield 181, 3) := by decide +kernel
theorem dX8_feed_17 : decode cX8_feed 17 = .ok (.bipush 120, 2) := by decide +kernel
theorem dX8_feed_19 : decode cX8_feed 19 = .ok (.if_icmp .ne 6, 3) := by decide +kernel
theorem dX8_feed_22 : decode cX8_feed 22 = .ok (.bipush (-3), 2) := by decide +kernel
theorem dX8_feed_24 : decode cX8_feed 24 = .ok (.ireturn, 1) := by decide +kernel
theorem dX8_feed_25 : decode cX8_feed 25 = .ok (.aload_n 0, 1) := by decide +kernel
theorem dX8_feed_26 : decode cX8_feed 26 = .ok (.getfield 46, 3) := by decide +kernel
theorem dX8_feed_29 : decode cX8_feed 29 = .ok (.aload_n 0, 1) := by decide +kernel
theorem dX8_feed_30 : decode cX8_feed 30 = .ok (.getfield 181, 3) := by decide +kernel
theorem dX8_feed_33 : decode cX8_feed 33 = .ok (.iload_n 1, 1) := by decide +kernel
theorem dX8_feed_34 : decode cX8_feed 34 = .ok (.i2b, 1) := by decide +kernel
theorem dX8_feed_35 : decode cX8_feed 35 = .ok (.bastore, 1) := by decide +kernel
theorem dX8_feed_36 : decode cX8_feed 36 = .ok (.aload_n 0, 1) := by decide +kernel
theorem dX8_feed_37 : decode cX8_feed 37 = .ok (.dup, 1) := by decide +kernel
theorem dX8_feed_38 : decode cX8_feed 38 = .ok (.getfield 181, 3) := by decide +kernel
theorem dX8_feed_41 : decode cX8_feed 41 = .ok (.iconst 1, 1) := by decide +kernel
theorem dX8_feed_42 : decode cX8_feed 42 = .ok (.iadd, 1) := by decide +kernel
theorem dX8_feed_43 : decode cX8_feed 43 = .ok (.putfield 181, 3) := by decide +kernel
theorem dX8_feed_46 : decode cX8_feed 46 = .ok (.aload_n 0, 1) := by decide +kernel
theorem dX8_feed_47 : decode cX8_feed 47 = .ok (.getfield 181, 3) := by decide +kernel
theorem dX8_feed_50 : decode cX8_feed 50 = .ok (.ireturn, 1) := by decide +kernel
theorem dX8_look_0 : decode cX8_look 0 = .ok (.aload_n 0, 1) := by decide +kernel
theorem dX8_look_1 : decode cX8_look 1 = .ok (.getfield 184, 3) := by decide +kernel
theorem dX8_look_4 : decode cX8_look 4 = .ok (.aload_n 0, 1) := by decide +kernel
theorem dX8_look_5 : decode cX8_look 5 = .ok (.getfield 181, 3) := by decide +kernel
theorem dX8_look_8 : decode cX8_look 8 = .ok (.if_icmp .ge 15, 3) := by decide +kernel
theorem dX8_look_11 : decode cX8_look 11 = .ok (.aload_n 0, 1) := by decide +kernel
theorem dX8_look_12 : decode cX8_look 12 = .ok (.getfield 46, 3) := by decide +kernel
theorem dX8_look_15 : decode cX8_look 15 = .ok (.aload_n 0, 1) := by decide +kernel
theorem dX8_look_16 : decode cX8_look 16 = .ok (.getfield 184, 3) := by decide +kernel
theorem dX8_look_19 : decode cX8_look 19 = .ok (.baload, 1) := by decide +kernel
theorem dX8_look_20 : decode cX8_look 20 = .ok (.goto 4, 3) := by decide +kernel
theorem dX8_look_23 : decode cX8_look 23 = .ok (.iconst (-1), 1) := by decide +kernel
theorem dX8_look_24 : decode cX8_look 24 = .ok (.ireturn, 1) := by decide +kernel
theorem dX8_faulty_0 : decode cX8_faulty 0 = .ok (.aload_n 0, 1) := by decide +kernel
theorem dX8_faulty_1 : decode cX8_faulty 1 = .ok (.getfield 187, 3) := by decide +kernel
theorem dX8_faulty_4 : decode cX8_faulty 4 = .ok (.ifCond .ge 11, 3) := by decide +kernel
theorem dX8_faulty_7 : decode cX8_faulty 7 = .ok (.aload_n 0, 1) := by decide +kernel
theorem dX8_faulty_8 : decode cX8_faulty 8 = .ok (.aload_n 0, 1) := by decide +kernel
theorem dX8_faulty_9 : decode cX8_faulty 9 = .ok (.getfield 184, 3) := by decide +kernel
theorem dX8_faulty_12 : decode cX8_faulty 12 = .ok (.putfield 187, 3) := by decide +kernel
theorem dX8_faulty_15 : decode cX8_faulty 15 = .ok (.return_, 1) := by decide +kernel
theorem dX8_addStep_0 : decode cX8_addStep 0 = .ok (.aload_n 0, 1) := by decide +kernel
theorem dX8_addStep_1 : decode cX8_addStep 1 = .ok (.getfield 50, 3) := by decide +kernel
theorem dX8_addStep_4 : decode cX8_addStep 4 = .ok (.sipush 130, 3) := by decide +kernel
theorem dX8_addStep_7 : decode cX8_addStep 7 = .ok (.aload_n 0, 1) := by decide +kernel
theorem dX8_addStep_8 : decode cX8_addStep 8 = .ok (.getfield 190, 3) := by decide +kernel
theorem dX8_addStep_11 : decode cX8_addStep 11 = .ok (.iadd, 1) := by decide +kernel
theorem dX8_addStep_12 : decode cX8_addStep 12 = .ok (.iload_n 1, 1) := by decide +kernel
theorem dX8_addStep_13 : decode cX8_addStep 13 = .ok (.i2b, 1) := by decide +kernel
theorem dX8_addStep_14 : decode cX8_addStep 14 = .ok (.bastore, 1) := by decide +kernel
theorem dX8_addStep_15 : decode cX8_addStep 15 = .ok (.aload_n 0, 1) := by decide +kernel
theorem dX8_addStep_16 : decode cX8_addStep 16 = .ok (.getfield 53, 3) := by decide +kernel
theorem dX8_addStep_19 : decode cX8_addStep 19 = .ok (.sipush 130, 3) := by decide +kernel
theorem dX8_addStep_22 : decode cX8_addStep 22 = .ok (.aload_n 0, 1) := by decide +kernel
theorem dX8_addStep_23 : decode cX8_addStep 23 = .ok (.getfield 190, 3) := by decide +kernel
theorem dX8_addStep_26 : decode cX8_addStep 26 = .ok (.iadd, 1) := by decide +kernel
theorem dX8_addStep_27 : decode cX8_addStep 27 = .ok (.iload_n 2, 1) := by decide +kernel
theorem dX8_addStep_28 : decode cX8_addStep 28 = .ok (.iastore, 1) := by decide +kernel
theorem dX8_addStep_29 : decode cX8_addStep 29 = .ok (.aload_n 0, 1) := by decide +kernel
theorem dX8_addStep_30 : decode cX8_addStep 30 = .ok (.dup, 1) := by decide +kernel
theorem dX8_addStep_31 : decode cX8_addStep 31 = .ok (.getfield 190, 3) := by decide +kernel
theorem dX8_addStep_34 : decode cX8_addStep 34 = .ok (.iconst 1, 1) := by decide +kernel
theorem dX8_addStep_35 : decode cX8_addStep 35 = .ok (.iadd, 1) := by decide +kernel
theorem dX8_addStep_36 : decode cX8_addStep 36 = .ok (.putfield 190, 3) := by decide +kernel
theorem dX8_addStep_39 : decode cX8_addStep 39 = .ok (.return_, 1) := by decide +kernel
theorem dX8_nameOf_0 : decode cX8_nameOf 0 = .ok (.iload_n 0, 1) := by decide +kernel
theorem dX8_nameOf_1 : decode cX8_nameOf 1 = .ok (.lookupswitch 71 #[(97, 59), (100, 61), (102, 63), (105, 67), (110, 69), (119, 65)], 59) := by decide +kernel
theorem dX8_nameOf_60 : decode cX8_nameOf 60 = .ok (.iconst 0, 1) := by decide +kernel
theorem dX8_nameOf_61 : decode cX8_nameOf 61 = .ok (.ireturn, 1) := by decide +kernel
theorem dX8_nameOf_62 : decode cX8_nameOf 62 = .ok (.iconst 1, 1) := by decide +kernel
theorem dX8_nameOf_63 : decode cX8_nameOf 63 = .ok (.ireturn, 1) := by decide +kernel
theorem dX8_nameOf_64 : decode cX8_nameOf 64 = .ok (.iconst 2, 1) := by decide +kernel
theorem dX8_nameOf_65 : decode cX8_nameOf 65 = .ok (.ireturn, 1) := by decide +kernel
theorem dX8_nameOf_66 : decode cX8_nameOf 66 = .ok (.iconst 3, 1) := by decide +kernel
theorem dX8_nameOf_67 : decode cX8_nameOf 67 = .ok (.ireturn, 1) := by decide +kernel
theorem dX8_nameOf_68 : decode cX8_nameOf 68 = .ok (.iconst 4, 1) := by decide +kernel
theorem dX8_nameOf_69 : decode cX8_nameOf 69 = .ok (.ireturn, 1) := by decide +kernel
theorem dX8_nameOf_70 : decode cX8_nameOf 70 = .ok (.iconst 5, 1) := by decide +kernel
theorem dX8_nameOf_71 : decode cX8_nameOf 71 = .ok (.ireturn, 1) := by decide +kernel
theorem dX8_nameOf_72 : decode cX8_nameOf 72 = .ok (.iconst (-1), 1) := by decide +kernel
theorem dX8_nameOf_73 : decode cX8_nameOf 73 = .ok (.ireturn, 1) := by decide +kernel
theorem dX8_opens_0 : decode cX8_opens 0 = .ok (.aload_n 0, 1) := by decide +kernel
theorem dX8_opens_1 : decode cX8_opens 1 = .ok (.getfield 193, 3) := by decide +kernel
theorem dX8_opens_4 : decode cX8_opens 4 = .ok (.bipush 6, 2) := by decide +kernel
theorem dX8_opens_6 : decode cX8_opens 6 = .ok (.if_icmp .ne 9, 3) := by decide +kernel
theorem dX8_opens_9 : decode cX8_opens 9 = .ok (.aload_n 0, 1) := by decide +kernel
theorem dX8_opens_10 : decode cX8_opens 10 = .ok (.invokevirtual 196, 3) := by decide +kernel
theorem dX8_opens_13 : decode cX8_opens 13 = .ok (.iconst 0, 1) := by decide +kernel
theorem dX8_opens_14 : decode cX8_opens 14 = .ok (.ireturn, 1) := by decide +kernel
theorem dX8_opens_15 : decode cX8_opens 15 = .ok (.aload_n 0, 1) := by decide +kernel
theorem dX8_opens_16 : decode cX8_opens 16 = .ok (.dup, 1) := by decide +kernel
theorem dX8_opens_17 : decode cX8_opens 17 = .ok (.getfield 193, 3) := by decide +kernel
theorem dX8_opens_20 : decode cX8_opens 20 = .ok (.iconst 1, 1) := by decide +kernel
theorem dX8_opens_21 : decode cX8_opens 21 = .ok (.iadd, 1) := by decide +kernel
theorem dX8_opens_22 : decode cX8_opens 22 = .ok (.putfield 193, 3) := by decide +kernel
theorem dX8_opens_25 : decode cX8_opens 25 = .ok (.aload_n 0, 1) := by decide +kernel
theorem dX8_opens_26 : decode cX8_opens 26 = .ok (.dup, 1) := by decide +kernel
theorem dX8_opens_27 : decode cX8_opens 27 = .ok (.getfield 184, 3) := by decide +kernel
theorem dX8_opens_30 : decode cX8_opens 30 = .ok (.iconst 1, 1) := by decide +kernel
theorem dX8_opens_31 : decode cX8_opens 31 = .ok (.iadd, 1) := by decide +kernel
theorem dX8_opens_32 : decode cX8_opens 32 = .ok (.putfield 184, 3) := by decide +kernel
theorem dX8_opens_35 : decode cX8_opens 35 = .ok (.iconst 1, 1) := by decide +kernel
theorem dX8_opens_36 : decode cX8_opens 36 = .ok (.ireturn, 1) := by decide +kernel
theorem dX8_figure_0 : decode cX8_figure 0 = .ok (.iconst 0, 1) := by decide +kernel
theorem dX8_figure_1 : decode cX8_figure 1 = .ok (.istore_n 1, 1) := by decide +kernel
theorem dX8_figure_2 : decode cX8_figure 2 = .ok (.iconst 0, 1) := by decide +kernel
theorem dX8_figure_3 : decode cX8_figure 3 = .ok (.istore_n 2, 1) := by decide +kernel
theorem dX8_figure_4 : decode cX8_figure 4 = .ok (.iload_n 2, 1) := by decide +kernel
theorem dX8_figure_5 : decode cX8_figure 5 = .ok (.iconst 4, 1) := by decide +kernel
theorem dX8_figure_6 : decode cX8_figure 6 = .ok (.if_icmp .ge 46, 3) := by decide +kernel
theorem dX8_figure_9 : decode cX8_figure 9 = .ok (.aload_n 0, 1) := by decide +kernel
theorem dX8_figure_10 : decode cX8_figure 10 = .ok (.invokevirtual 199, 3) := by decide +kernel
theorem dX8_figure_13 : decode cX8_figure 13 = .ok (.bipush 48, 2) := by decide +kernel
theorem dX8_figure_15 : decode cX8_figure 15 = .ok (.bipush 57, 2) := by decide +kernel
theorem dX8_figure_17 : decode cX8_figure 17 = .ok (.invokestatic 114, 3) := by decide +kernel
theorem dX8_figure_20 : decode cX8_figure 20 = .ok (.ifCond .eq 32, 3) := by decide +kernel
theorem dX8_figure_23 : decode cX8_figure 23 = .ok (.bipush 10, 2) := by decide +kernel
theorem dX8_figure_25 : decode cX8_figure 25 = .ok (.iload_n 1, 1) := by decide +kernel
theorem dX8_figure_26 : decode cX8_figure 26 = .ok (.imul, 1) := by decide +kernel
theorem dX8_figure_27 : decode cX8_figure 27 = .ok (.aload_n 0, 1) := by decide +kernel
theorem dX8_figure_28 : decode cX8_figure 28 = .ok (.invokevirtual 199, 3) := by decide +kernel
theorem dX8_figure_31 : decode cX8_figure 31 = .ok (.iadd, 1) := by decide +kernel
theorem dX8_figure_32 : decode cX8_figure 32 = .ok (.bipush 48, 2) := by decide +kernel
theorem dX8_figure_34 : decode cX8_figure 34 = .ok (.isub, 1) := by decide +kernel
theorem dX8_figure_35 : decode cX8_figure 35 = .ok (.istore_n 1, 1) := by decide +kernel
theorem dX8_figure_36 : decode cX8_figure 36 = .ok (.iinc 2 1, 3) := by decide +kernel
theorem dX8_figure_39 : decode cX8_figure 39 = .ok (.aload_n 0, 1) := by decide +kernel
theorem dX8_figure_40 : decode cX8_figure 40 = .ok (.dup, 1) := by decide +kernel
theorem dX8_figure_41 : decode cX8_figure 41 = .ok (.getfield 184, 3) := by decide +kernel
theorem dX8_figure_44 : decode cX8_figure 44 = .ok (.iconst 1, 1) := by decide +kernel
theorem dX8_figure_45 : decode cX8_figure 45 = .ok (.iadd, 1) := by decide +kernel
theorem dX8_figure_46 : decode cX8_figure 46 = .ok (.putfield 184, 3) := by decide +kernel
theorem dX8_figure_49 : decode cX8_figure 49 = .ok (.goto (-45), 3) := by decide +kernel
theorem dX8_figure_52 : decode cX8_figure 52 = .ok (.iload_n 2, 1) := by decide +kernel
theorem dX8_figure_53 : decode cX8_figure 53 = .ok (.ifCond .eq 17, 3) := by decide +kernel
theorem dX8_figure_56 : decode cX8_figure 56 = .ok (.aload_n 0, 1) := by decide +kernel
theorem dX8_figure_57 : decode cX8_figure 57 = .ok (.invokevirtual 199, 3) := by decide +kernel
theorem dX8_figure_60 : decode cX8_figure 60 = .ok (.bipush 48, 2) := by decide +kernel
theorem dX8_figure_62 : decode cX8_figure 62 = .ok (.bipush 57, 2) := by decide +kernel
theorem dX8_figure_64 : decode cX8_figure 64 = .ok (.invokestatic 114, 3) := by decide +kernel
theorem dX8_figure_67 : decode cX8_figure 67 = .ok (.ifCond .eq 7, 3) := by decide +kernel
theorem dX8_figure_70 : decode cX8_figure 70 = .ok (.aload_n 0, 1) := by decide +kernel
theorem dX8_figure_71 : decode cX8_figure 71 = .ok (.invokevirtual 196, 3) := by decide +kernel
theorem dX8_figure_74 : decode cX8_figure 74 = .ok (.aload_n 0, 1) := by decide +kernel
theorem dX8_figure_75 : decode cX8_figure 75 = .ok (.iconst 1, 1) := by decide +kernel
theorem dX8_figure_76 : decode cX8_figure 76 = .ok (.iload_n 1, 1) := by decide +kernel
theorem dX8_figure_77 : decode cX8_figure 77 = .ok (.invokevirtual 203, 3) := by decide +kernel
theorem dX8_figure_80 : decode cX8_figure 80 = .ok (.return_, 1) := by decide +kernel
theorem dX8_operand_0 : decode cX8_operand 0 = .ok (.aload_n 0, 1) := by decide +kernel
theorem dX8_operand_1 : decode cX8_operand 1 = .ok (.invokevirtual 199, 3) := by decide +kernel
theorem dX8_operand_4 : decode cX8_operand 4 = .ok (.istore_n 1, 1) := by decide +kernel
theorem dX8_operand_5 : decode cX8_operand 5 = .ok (.iload_n 1, 1) := by decide +kernel
theorem dX8_operand_6 : decode cX8_operand 6 = .ok (.invokestatic 207, 3) := by decide +kernel
theorem dX8_operand_9 : decode cX8_operand 9 = .ok (.ifCond .lt 25, 3) := by decide +kernel
theorem dX8_operand_12 : decode cX8_operand 12 = .ok (.aload_n 0, 1) := by decide +kernel
theorem dX8_operand_13 : decode cX8_operand 13 = .ok (.iconst 2, 1) := by decide +kernel
theorem dX8_operand_14 : decode cX8_operand 14 = .ok (.iload_n 1, 1) := by decide +kernel
theorem dX8_operand_15 : decode cX8_operand 15 = .ok (.invokestatic 207, 3) := by decide +kernel
theorem dX8_operand_18 : decode cX8_operand 18 = .ok (.invokevirtual 203, 3) := by decide +kernel
theorem dX8_operand_21 : decode cX8_operand 21 = .ok (.aload_n 0, 1) := by decide +kernel
theorem dX8_operand_22 : decode cX8_operand 22 = .ok (.dup, 1) := by decide +kernel
theorem dX8_operand_23 : decode cX8_operand 23 = .ok (.getfield 184, 3) := by decide +kernel
theorem dX8_operand_26 : decode cX8_operand 26 = .ok (.iconst 1, 1) := by decide +kernel
theorem dX8_operand_27 : decode cX8_operand 27 = .ok (.iadd, 1) := by decide +kernel
theorem dX8_operand_28 : decode cX8_operand 28 = .ok (.putfield 184, 3) := by decide +kernel
theorem dX8_operand_31 : decode cX8_operand 31 = .ok (.goto 123, 3) := by decide +kernel
theorem dX8_operand_34 : decode cX8_operand 34 = .ok (.iload_n 1, 1) := by decide +kernel
theorem dX8_operand_35 : decode cX8_operand 35 = .ok (.bipush 33, 2) := by decide +kernel
theorem dX8_operand_37 : decode cX8_operand 37 = .ok (.if_icmp .eq 9, 3) := by decide +kernel
theorem dX8_operand_40 : decode cX8_operand 40 = .ok (.iload_n 1, 1) := by decide +kernel
theorem dX8_operand_41 : decode cX8_operand 41 = .ok (.bipush 45, 2) := by decide +kernel
theorem dX8_operand_43 : decode cX8_operand 43 = .ok (.if_icmp .ne 44, 3) := by decide +kernel
theorem dX8_operand_46 : decode cX8_operand 46 = .ok (.aload_n 0, 1) := by decide +kernel
theorem dX8_operand_47 : decode cX8_operand 47 = .ok (.invokevirtual 210, 3) := by decide +kernel
theorem dX8_operand_50 : decode cX8_operand 50 = .ok (.ifCond .ne 4, 3) := by decide +kernel
theorem dX8_operand_53 : decode cX8_operand 53 = .ok (.return_, 1) := by decide +kernel
theorem dX8_operand_54 : decode cX8_operand 54 = .ok (.aload_n 0, 1) := by decide +kernel
theorem dX8_operand_55 : decode cX8_operand 55 = .ok (.invokevirtual 214, 3) := by decide +kernel
theorem dX8_operand_58 : decode cX8_operand 58 = .ok (.aload_n 0, 1) := by decide +kernel
theorem dX8_operand_59 : decode cX8_operand 59 = .ok (.dup, 1) := by decide +kernel
theorem dX8_operand_60 : decode cX8_operand 60 = .ok (.getfield 193, 3) := by decide +kernel
theorem dX8_operand_63 : decode cX8_operand 63 = .ok (.iconst 1, 1) := by decide +kernel
theorem dX8_operand_64 : decode cX8_operand 64 = .ok (.isub, 1) := by decide +kernel
theorem dX8_operand_65 : decode cX8_operand 65 = .ok (.putfield 193, 3) := by decide +kernel
theorem dX8_operand_68 : decode cX8_operand 68 = .ok (.aload_n 0, 1) := by decide +kernel
theorem dX8_operand_69 : decode cX8_operand 69 = .ok (.iload_n 1, 1) := by decide +kernel
theorem dX8_operand_70 : decode cX8_operand 70 = .ok (.bipush 33, 2) := by decide +kernel
theorem dX8_operand_72 : decode cX8_operand 72 = .ok (.if_icmp .ne 7, 3) := by decide +kernel
theorem dX8_operand_75 : decode cX8_operand 75 = .ok (.iconst 3, 1) := by decide +kernel
theorem dX8_operand_76 : decode cX8_operand 76 = .ok (.goto 4, 3) := by decide +kernel
theorem dX8_operand_79 : decode cX8_operand 79 = .ok (.iconst 4, 1) := by decide +kernel
theorem dX8_operand_80 : decode cX8_operand 80 = .ok (.iconst 0, 1) := by decide +kernel
theorem dX8_operand_81 : decode cX8_operand 81 = .ok (.invokevirtual 203, 3) := by decide +kernel
theorem dX8_operand_84 : decode cX8_operand 84 = .ok (.goto 70, 3) := by decide +kernel
theorem dX8_operand_87 : decode cX8_operand 87 = .ok (.iload_n 1, 1) := by decide +kernel
theorem dX8_operand_88 : decode cX8_operand 88 = .ok (.bipush 40, 2) := by decide +kernel
theorem dX8_operand_90 : decode cX8_operand 90 = .ok (.if_icmp .ne 60, 3) := by decide +kernel
theorem dX8_operand_93 : decode cX8_operand 93 = .ok (.aload_n 0, 1) := by decide +kernel
theorem dX8_operand_94 : decode cX8_operand 94 = .ok (.invokevirtual 210, 3) := by decide +kernel
theorem dX8_operand_97 : decode cX8_operand 97 = .ok (.ifCond .ne 4, 3) := by decide +kernel
theorem dX8_operand_100 : decode cX8_operand 100 = .ok (.return_, 1) := by decide +kernel
theorem dX8_operand_101 : decode cX8_operand 101 = .ok (.aload_n 0, 1) := by decide +kernel
theorem dX8_operand_102 : decode cX8_operand 102 = .ok (.invokevirtual 217, 3) := by decide +kernel
theorem dX8_operand_105 : decode cX8_operand 105 = .ok (.aload_n 0, 1) := by decide +kernel
theorem dX8_operand_106 : decode cX8_operand 106 = .ok (.getfield 187, 3) := by decide +kernel
theorem dX8_operand_109 : decode cX8_operand 109 = .ok (.ifCond .lt 4, 3) := by decide +kernel
theorem dX8_operand_112 : decode cX8_operand 112 = .ok (.return_, 1) := by decide +kernel
theorem dX8_operand_113 : decode cX8_operand 113 = .ok (.aload_n 0, 1) := by decide +kernel
theorem dX8_operand_114 : decode cX8_operand 114 = .ok (.invokevirtual 199, 3) := by decide +kernel
theorem dX8_operand_117 : decode cX8_operand 117 = .ok (.bipush 41, 2) := by decide +kernel
theorem dX8_operand_119 : decode cX8_operand 119 = .ok (.if_icmp .eq 8, 3) := by decide +kernel
theorem dX8_operand_122 : decode cX8_operand 122 = .ok (.aload_n 0, 1) := by decide +kernel
theorem dX8_operand_123 : decode cX8_operand 123 = .ok (.invokevirtual 196, 3) := by decide +kernel
theorem dX8_operand_126 : decode cX8_operand 126 = .ok (.return_, 1) := by decide +kernel
theorem dX8_operand_127 : decode cX8_operand 127 = .ok (.aload_n 0, 1) := by decide +kernel
theorem dX8_operand_128 : decode cX8_operand 128 = .ok (.dup, 1) := by decide +kernel
theorem dX8_operand_129 : decode cX8_operand 129 = .ok (.getfield 184, 3) := by decide +kernel
theorem dX8_operand_132 : decode cX8_operand 132 = .ok (.iconst 1, 1) := by decide +kernel
theorem dX8_operand_133 : decode cX8_operand 133 = .ok (.iadd, 1) := by decide +kernel
theorem dX8_operand_134 : decode cX8_operand 134 = .ok (.putfield 184, 3) := by decide +kernel
theorem dX8_operand_137 : decode cX8_operand 137 = .ok (.aload_n 0, 1) := by decide +kernel
theorem dX8_operand_138 : decode cX8_operand 138 = .ok (.dup, 1) := by decide +kernel
theorem dX8_operand_139 : decode cX8_operand 139 = .ok (.getfield 193, 3) := by decide +kernel
theorem dX8_operand_142 : decode cX8_operand 142 = .ok (.iconst 1, 1) := by decide +kernel
theorem dX8_operand_143 : decode cX8_operand 143 = .ok (.isub, 1) := by decide +kernel
theorem dX8_operand_144 : decode cX8_operand 144 = .ok (.putfield 193, 3) := by decide +kernel
theorem dX8_operand_147 : decode cX8_operand 147 = .ok (.goto 7, 3) := by decide +kernel
theorem dX8_operand_150 : decode cX8_operand 150 = .ok (.aload_n 0, 1) := by decide +kernel
theorem dX8_operand_151 : decode cX8_operand 151 = .ok (.invokevirtual 220, 3) := by decide +kernel
theorem dX8_operand_154 : decode cX8_operand 154 = .ok (.return_, 1) := by decide +kernel
theorem dX8_product_0 : decode cX8_product 0 = .ok (.aload_n 0, 1) := by decide +kernel
theorem dX8_product_1 : decode cX8_product 1 = .ok (.invokevirtual 214, 3) := by decide +kernel
theorem dX8_product_4 : decode cX8_product 4 = .ok (.aload_n 0, 1) := by decide +kernel
theorem dX8_product_5 : decode cX8_product 5 = .ok (.getfield 187, 3) := by decide +kernel
theorem dX8_product_8 : decode cX8_product 8 = .ok (.ifCond .ge 58, 3) := by decide +kernel
theorem dX8_product_11 : decode cX8_product 11 = .ok (.aload_n 0, 1) := by decide +kernel
theorem dX8_product_12 : decode cX8_product 12 = .ok (.invokevirtual 199, 3) := by decide +kernel
theorem dX8_product_15 : decode cX8_product 15 = .ok (.bipush 42, 2) := by decide +kernel
theorem dX8_product_17 : decode cX8_product 17 = .ok (.if_icmp .eq 21, 3) := by decide +kernel
theorem dX8_product_20 : decode cX8_product 20 = .ok (.aload_n 0, 1) := by decide +kernel
theorem dX8_product_21 : decode cX8_product 21 = .ok (.invokevirtual 199, 3) := by decide +kernel
theorem dX8_product_24 : decode cX8_product 24 = .ok (.bipush 47, 2) := by decide +kernel
theorem dX8_product_26 : decode cX8_product 26 = .ok (.if_icmp .eq 12, 3) := by decide +kernel
theorem dX8_product_29 : decode cX8_product 29 = .ok (.aload_n 0, 1) := by decide +kernel
theorem dX8_product_30 : decode cX8_product 30 = .ok (.invokevirtual 199, 3) := by decide +kernel
theorem dX8_product_33 : decode cX8_product 33 = .ok (.bipush 37, 2) := by decide +kernel
theorem dX8_product_35 : decode cX8_product 35 = .ok (.if_icmp .ne 31, 3) := by decide +kernel
theorem dX8_product_38 : decode cX8_product 38 = .ok (.aload_n 0, 1) := by decide +kernel
theorem dX8_product_39 : decode cX8_product 39 = .ok (.invokevirtual 199, 3) := by decide +kernel
theorem dX8_product_42 : decode cX8_product 42 = .ok (.istore_n 1, 1) := by decide +kernel
theorem dX8_product_43 : decode cX8_product 43 = .ok (.aload_n 0, 1) := by decide +kernel
theorem dX8_product_44 : decode cX8_product 44 = .ok (.dup, 1) := by decide +kernel
theorem dX8_product_45 : decode cX8_product 45 = .ok (.getfield 184, 3) := by decide +kernel
theorem dX8_product_48 : decode cX8_product 48 = .ok (.iconst 1, 1) := by decide +kernel
theorem dX8_product_49 : decode cX8_product 49 = .ok (.iadd, 1) := by decide +kernel
theorem dX8_product_50 : decode cX8_product 50 = .ok (.putfield 184, 3) := by decide +kernel
theorem dX8_product_53 : decode cX8_product 53 = .ok (.aload_n 0, 1) := by decide +kernel
theorem dX8_product_54 : decode cX8_product 54 = .ok (.invokevirtual 214, 3) := by decide +kernel
theorem dX8_product_57 : decode cX8_product 57 = .ok (.aload_n 0, 1) := by decide +kernel
theorem dX8_product_58 : decode cX8_product 58 = .ok (.iload_n 1, 1) := by decide +kernel
theorem dX8_product_59 : decode cX8_product 59 = .ok (.iconst 0, 1) := by decide +kernel
theorem dX8_product_60 : decode cX8_product 60 = .ok (.invokevirtual 203, 3) := by decide +kernel
theorem dX8_product_63 : decode cX8_product 63 = .ok (.goto (-59), 3) := by decide +kernel
theorem dX8_product_66 : decode cX8_product 66 = .ok (.return_, 1) := by decide +kernel
theorem dX8_sum_0 : decode cX8_sum 0 = .ok (.aload_n 0, 1) := by decide +kernel
theorem dX8_sum_1 : decode cX8_sum 1 = .ok (.invokevirtual 223, 3) := by decide +kernel
theorem dX8_sum_4 : decode cX8_sum 4 = .ok (.aload_n 0, 1) := by decide +kernel
theorem dX8_sum_5 : decode cX8_sum 5 = .ok (.getfield 187, 3) := by decide +kernel
theorem dX8_sum_8 : decode cX8_sum 8 = .ok (.ifCond .ge 49, 3) := by decide +kernel
theorem dX8_sum_11 : decode cX8_sum 11 = .ok (.aload_n 0, 1) := by decide +kernel
theorem dX8_sum_12 : decode cX8_sum 12 = .ok (.invokevirtual 199, 3) := by decide +kernel
theorem dX8_sum_15 : decode cX8_sum 15 = .ok (.bipush 43, 2) := by decide +kernel
theorem dX8_sum_17 : decode cX8_sum 17 = .ok (.if_icmp .eq 12, 3) := by decide +kernel
theorem dX8_sum_20 : decode cX8_sum 20 = .ok (.aload_n 0, 1) := by decide +kernel
theorem dX8_sum_21 : decode cX8_sum 21 = .ok (.invokevirtual 199, 3) := by decide +kernel
theorem dX8_sum_24 : decode cX8_sum 24 = .ok (.bipush 45, 2) := by decide +kernel
theorem dX8_sum_26 : decode cX8_sum 26 = .ok (.if_icmp .ne 31, 3) := by decide +kernel
theorem dX8_sum_29 : decode cX8_sum 29 = .ok (.aload_n 0, 1) := by decide +kernel
theorem dX8_sum_30 : decode cX8_sum 30 = .ok (.invokevirtual 199, 3) := by decide +kernel
theorem dX8_sum_33 : decode cX8_sum 33 = .ok (.istore_n 1, 1) := by decide +kernel
theorem dX8_sum_34 : decode cX8_sum 34 = .ok (.aload_n 0, 1) := by decide +kernel
theorem dX8_sum_35 : decode cX8_sum 35 = .ok (.dup, 1) := by decide +kernel
theorem dX8_sum_36 : decode cX8_sum 36 = .ok (.getfield 184, 3) := by decide +kernel
theorem dX8_sum_39 : decode cX8_sum 39 = .ok (.iconst 1, 1) := by decide +kernel
theorem dX8_sum_40 : decode cX8_sum 40 = .ok (.iadd, 1) := by decide +kernel
theorem dX8_sum_41 : decode cX8_sum 41 = .ok (.putfield 184, 3) := by decide +kernel
theorem dX8_sum_44 : decode cX8_sum 44 = .ok (.aload_n 0, 1) := by decide +kernel
theorem dX8_sum_45 : decode cX8_sum 45 = .ok (.invokevirtual 223, 3) := by decide +kernel
theorem dX8_sum_48 : decode cX8_sum 48 = .ok (.aload_n 0, 1) := by decide +kernel
theorem dX8_sum_49 : decode cX8_sum 49 = .ok (.iload_n 1, 1) := by decide +kernel
theorem dX8_sum_50 : decode cX8_sum 50 = .ok (.iconst 0, 1) := by decide +kernel
theorem dX8_sum_51 : decode cX8_sum 51 = .ok (.invokevirtual 203, 3) := by decide +kernel
theorem dX8_sum_54 : decode cX8_sum 54 = .ok (.goto (-50), 3) := by decide +kernel
theorem dX8_sum_57 : decode cX8_sum 57 = .ok (.return_, 1) := by decide +kernel
theorem dX8_compared_0 : decode cX8_compared 0 = .ok (.aload_n 0, 1) := by decide +kernel
theorem dX8_compared_1 : decode cX8_compared 1 = .ok (.invokevirtual 226, 3) := by decide +kernel
theorem dX8_compared_4 : decode cX8_compared 4 = .ok (.aload_n 0, 1) := by decide +kernel
theorem dX8_compared_5 : decode cX8_compared 5 = .ok (.invokevirtual 199, 3) := by decide +kernel
theorem dX8_compared_8 : decode cX8_compared 8 = .ok (.istore_n 1, 1) := by decide +kernel
theorem dX8_compared_9 : decode cX8_compared 9 = .ok (.aload_n 0, 1) := by decide +kernel
theorem dX8_compared_10 : decode cX8_compared 10 = .ok (.getfield 187, 3) := by decide +kernel
theorem dX8_compared_13 : decode cX8_compared 13 = .ok (.ifCond .ge 21, 3) := by decide +kernel
theorem dX8_compared_16 : decode cX8_compared 16 = .ok (.iload_n 1, 1) := by decide +kernel
theorem dX8_compared_17 : decode cX8_compared 17 = .ok (.bipush 60, 2) := by decide +kernel
theorem dX8_compared_19 : decode cX8_compared 19 = .ok (.if_icmp .eq 16, 3) := by decide +kernel
theorem dX8_compared_22 : decode cX8_compared 22 = .ok (.iload_n 1, 1) := by decide +kernel
theorem dX8_compared_23 : decode cX8_compared 23 = .ok (.bipush 61, 2) := by decide +kernel
theorem dX8_compared_25 : decode cX8_compared 25 = .ok (.if_icmp .eq 10, 3) := by decide +kernel
theorem dX8_compared_28 : decode cX8_compared 28 = .ok (.iload_n 1, 1) := by decide +kernel
theorem dX8_compared_29 : decode cX8_compared 29 = .ok (.bipush 62, 2) := by decide +kernel
theorem dX8_compared_31 : decode cX8_compared 31 = .ok (.if_icmp .eq 4, 3) := by decide +kernel
theorem dX8_compared_34 : decode cX8_compared 34 = .ok (.return_, 1) := by decide +kernel
theorem dX8_compared_35 : decode cX8_compared 35 = .ok (.aload_n 0, 1) := by decide +kernel
theorem dX8_compared_36 : decode cX8_compared 36 = .ok (.dup, 1) := by decide +kernel
theorem dX8_compared_37 : decode cX8_compared 37 = .ok (.getfield 184, 3) := by decide +kernel
theorem dX8_compared_40 : decode cX8_compared 40 = .ok (.iconst 1, 1) := by decide +kernel
theorem dX8_compared_41 : decode cX8_compared 41 = .ok (.iadd, 1) := by decide +kernel
theorem dX8_compared_42 : decode cX8_compared 42 = .ok (.putfield 184, 3) := by decide +kernel
theorem dX8_compared_45 : decode cX8_compared 45 = .ok (.aload_n 0, 1) := by decide +kernel
theorem dX8_compared_46 : decode cX8_compared 46 = .ok (.invokevirtual 226, 3) := by decide +kernel
theorem dX8_compared_49 : decode cX8_compared 49 = .ok (.aload_n 0, 1) := by decide +kernel
theorem dX8_compared_50 : decode cX8_compared 50 = .ok (.iload_n 1, 1) := by decide +kernel
theorem dX8_compared_51 : decode cX8_compared 51 = .ok (.iconst 0, 1) := by decide +kernel
theorem dX8_compared_52 : decode cX8_compared 52 = .ok (.invokevirtual 203, 3) := by decide +kernel
theorem dX8_compared_55 : decode cX8_compared 55 = .ok (.return_, 1) := by decide +kernel
theorem dX8_both_0 : decode cX8_both 0 = .ok (.aload_n 0, 1) := by decide +kernel
theorem dX8_both_1 : decode cX8_both 1 = .ok (.invokevirtual 229, 3) := by decide +kernel
theorem dX8_both_4 : decode cX8_both 4 = .ok (.aload_n 0, 1) := by decide +kernel
theorem dX8_both_5 : decode cX8_both 5 = .ok (.getfield 187, 3) := by decide +kernel
theorem dX8_both_8 : decode cX8_both 8 = .ok (.ifCond .ge 36, 3) := by decide +kernel
theorem dX8_both_11 : decode cX8_both 11 = .ok (.aload_n 0, 1) := by decide +kernel
theorem dX8_both_12 : decode cX8_both 12 = .ok (.invokevirtual 199, 3) := by decide +kernel
theorem dX8_both_15 : decode cX8_both 15 = .ok (.bipush 38, 2) := by decide +kernel
theorem dX8_both_17 : decode cX8_both 17 = .ok (.if_icmp .ne 27, 3) := by decide +kernel
theorem dX8_both_20 : decode cX8_both 20 = .ok (.aload_n 0, 1) := by decide +kernel
theorem dX8_both_21 : decode cX8_both 21 = .ok (.dup, 1) := by decide +kernel
theorem dX8_both_22 : decode cX8_both 22 = .ok (.getfield 184, 3) := by decide +kernel
theorem dX8_both_25 : decode cX8_both 25 = .ok (.iconst 1, 1) := by decide +kernel
theorem dX8_both_26 : decode cX8_both 26 = .ok (.iadd, 1) := by decide +kernel
theorem dX8_both_27 : decode cX8_both 27 = .ok (.putfield 184, 3) := by decide +kernel
theorem dX8_both_30 : decode cX8_both 30 = .ok (.aload_n 0, 1) := by decide +kernel
theorem dX8_both_31 : decode cX8_both 31 = .ok (.invokevirtual 229, 3) := by decide +kernel
theorem dX8_both_34 : decode cX8_both 34 = .ok (.aload_n 0, 1) := by decide +kernel
theorem dX8_both_35 : decode cX8_both 35 = .ok (.bipush 38, 2) := by decide +kernel
theorem dX8_both_37 : decode cX8_both 37 = .ok (.iconst 0, 1) := by decide +kernel
theorem dX8_both_38 : decode cX8_both 38 = .ok (.invokevirtual 203, 3) := by decide +kernel
theorem dX8_both_41 : decode cX8_both 41 = .ok (.goto (-37), 3) := by decide +kernel
theorem dX8_both_44 : decode cX8_both 44 = .ok (.return_, 1) := by decide +kernel
theorem dX8_either_0 : decode cX8_either 0 = .ok (.aload_n 0, 1) := by decide +kernel
theorem dX8_either_1 : decode cX8_either 1 = .ok (.invokevirtual 232, 3) := by decide +kernel
theorem dX8_either_4 : decode cX8_either 4 = .ok (.aload_n 0, 1) := by decide +kernel
theorem dX8_either_5 : decode cX8_either 5 = .ok (.getfield 187, 3) := by decide +kernel
theorem dX8_either_8 : decode cX8_either 8 = .ok (.ifCond .ge 36, 3) := by decide +kernel
theorem dX8_either_11 : decode cX8_either 11 = .ok (.aload_n 0, 1) := by decide +kernel
theorem dX8_either_12 : decode cX8_either 12 = .ok (.invokevirtual 199, 3) := by decide +kernel
theorem dX8_either_15 : decode cX8_either 15 = .ok (.bipush 124, 2) := by decide +kernel
theorem dX8_either_17 : decode cX8_either 17 = .ok (.if_icmp .ne 27, 3) := by decide +kernel
theorem dX8_either_20 : decode cX8_either 20 = .ok (.aload_n 0, 1) := by decide +kernel
theorem dX8_either_21 : decode cX8_either 21 = .ok (.dup, 1) := by decide +kernel
theorem dX8_either_22 : decode cX8_either 22 = .ok (.getfield 184, 3) := by decide +kernel
theorem dX8_either_25 : decode cX8_either 25 = .ok (.iconst 1, 1) := by decide +kernel
theorem dX8_either_26 : decode cX8_either 26 = .ok (.iadd, 1) := by decide +kernel
theorem dX8_either_27 : decode cX8_either 27 = .ok (.putfield 184, 3) := by decide +kernel
theorem dX8_either_30 : decode cX8_either 30 = .ok (.aload_n 0, 1) := by decide +kernel
theorem dX8_either_31 : decode cX8_either 31 = .ok (.invokevirtual 232, 3) := by decide +kernel
theorem dX8_either_34 : decode cX8_either 34 = .ok (.aload_n 0, 1) := by decide +kernel
theorem dX8_either_35 : decode cX8_either 35 = .ok (.bipush 124, 2) := by decide +kernel
theorem dX8_either_37 : decode cX8_either 37 = .ok (.iconst 0, 1) := by decide +kernel
theorem dX8_either_38 : decode cX8_either 38 = .ok (.invokevirtual 203, 3) := by decide +kernel
theorem dX8_either_41 : decode cX8_either 41 = .ok (.goto (-37), 3) := by decide +kernel
theorem dX8_either_44 : decode cX8_either 44 = .ok (.return_, 1) := by decide +kernel
theorem dX8_line_0 : decode cX8_line 0 = .ok (.bipush 61, 2) := by decide +kernel
theorem dX8_line_2 : decode cX8_line 2 = .ok (.aload_n 0, 1) := by decide +kernel
theorem dX8_line_3 : decode cX8_line 3 = .ok (.getfield 56, 3) := by decide +kernel
theorem dX8_line_6 : decode cX8_line 6 = .ok (.iconst 1, 1) := by decide +kernel
theorem dX8_line_7 : decode cX8_line 7 = .ok (.iaload, 1) := by decide +kernel
theorem dX8_line_8 : decode cX8_line 8 = .ok (.iadd, 1) := by decide +kernel
theorem dX8_line_9 : decode cX8_line 9 = .ok (.istore_n 1, 1) := by decide +kernel
theorem dX8_line_10 : decode cX8_line 10 = .ok (.aload_n 0, 1) := by decide +kernel
theorem dX8_line_11 : decode cX8_line 11 = .ok (.getfield 59, 3) := by decide +kernel
theorem dX8_line_14 : decode cX8_line 14 = .ok (.iload_n 1, 1) := by decide +kernel
theorem dX8_line_15 : decode cX8_line 15 = .ok (.aload_n 0, 1) := by decide +kernel
theorem dX8_line_16 : decode cX8_line 16 = .ok (.getfield 190, 3) := by decide +kernel
theorem dX8_line_19 : decode cX8_line 19 = .ok (.i2s, 1) := by decide +kernel
theorem dX8_line_20 : decode cX8_line 20 = .ok (.sastore, 1) := by decide +kernel
theorem dX8_line_21 : decode cX8_line 21 = .ok (.aload_n 0, 1) := by decide +kernel
theorem dX8_line_22 : decode cX8_line 22 = .ok (.invokevirtual 217, 3) := by decide +kernel
theorem dX8_line_25 : decode cX8_line 25 = .ok (.aload_n 0, 1) := by decide +kernel
theorem dX8_line_26 : decode cX8_line 26 = .ok (.getfield 187, 3) := by decide +kernel
theorem dX8_line_29 : decode cX8_line 29 = .ok (.ifCond .ge 37, 3) := by decide +kernel
theorem dX8_line_32 : decode cX8_line 32 = .ok (.aload_n 0, 1) := by decide +kernel
theorem dX8_line_33 : decode cX8_line 33 = .ok (.invokevirtual 199, 3) := by decide +kernel
theorem dX8_line_36 : decode cX8_line 36 = .ok (.bipush 63, 2) := by decide +kernel
theorem dX8_line_38 : decode cX8_line 38 = .ok (.if_icmp .ne 28, 3) := by decide +kernel
theorem dX8_line_41 : decode cX8_line 41 = .ok (.aload_n 0, 1) := by decide +kernel
theorem dX8_line_42 : decode cX8_line 42 = .ok (.dup, 1) := by decide +kernel
theorem dX8_line_43 : decode cX8_line 43 = .ok (.getfield 184, 3) := by decide +kernel
theorem dX8_line_46 : decode cX8_line 46 = .ok (.iconst 1, 1) := by decide +kernel
theorem dX8_line_47 : decode cX8_line 47 = .ok (.iadd, 1) := by decide +kernel
theorem dX8_line_48 : decode cX8_line 48 = .ok (.putfield 184, 3) := by decide +kernel
theorem dX8_line_51 : decode cX8_line 51 = .ok (.aload_n 0, 1) := by decide +kernel
theorem dX8_line_52 : decode cX8_line 52 = .ok (.getfield 59, 3) := by decide +kernel
theorem dX8_line_55 : decode cX8_line 55 = .ok (.iload_n 1, 1) := by decide +kernel
theorem dX8_line_56 : decode cX8_line 56 = .ok (.aload_n 0, 1) := by decide +kernel
theorem dX8_line_57 : decode cX8_line 57 = .ok (.getfield 190, 3) := by decide +kernel
theorem dX8_line_60 : decode cX8_line 60 = .ok (.i2s, 1) := by decide +kernel
theorem dX8_line_61 : decode cX8_line 61 = .ok (.sastore, 1) := by decide +kernel
theorem dX8_line_62 : decode cX8_line 62 = .ok (.aload_n 0, 1) := by decide +kernel
theorem dX8_line_63 : decode cX8_line 63 = .ok (.invokevirtual 217, 3) := by decide +kernel
theorem dX8_line_66 : decode cX8_line 66 = .ok (.aload_n 0, 1) := by decide +kernel
theorem dX8_line_67 : decode cX8_line 67 = .ok (.getfield 63, 3) := by decide +kernel
theorem dX8_line_70 : decode cX8_line 70 = .ok (.iload_n 1, 1) := by decide +kernel
theorem dX8_line_71 : decode cX8_line 71 = .ok (.aload_n 0, 1) := by decide +kernel
theorem dX8_line_72 : decode cX8_line 72 = .ok (.getfield 190, 3) := by decide +kernel
theorem dX8_line_75 : decode cX8_line 75 = .ok (.i2s, 1) := by decide +kernel
theorem dX8_line_76 : decode cX8_line 76 = .ok (.sastore, 1) := by decide +kernel
theorem dX8_line_77 : decode cX8_line 77 = .ok (.aload_n 0, 1) := by decide +kernel
theorem dX8_line_78 : decode cX8_line 78 = .ok (.getfield 56, 3) := by decide +kernel
theorem dX8_line_81 : decode cX8_line 81 = .ok (.iconst 1, 1) := by decide +kernel
theorem dX8_line_82 : decode cX8_line 82 = .ok (.dup2, 1) := by decide +kernel
theorem dX8_line_83 : decode cX8_line 83 = .ok (.iaload, 1) := by decide +kernel
theorem dX8_line_84 : decode cX8_line 84 = .ok (.iconst 1, 1) := by decide +kernel
theorem dX8_line_85 : decode cX8_line 85 = .ok (.iadd, 1) := by decide +kernel
theorem dX8_line_86 : decode cX8_line 86 = .ok (.iastore, 1) := by decide +kernel
theorem dX8_line_87 : decode cX8_line 87 = .ok (.return_, 1) := by decide +kernel
theorem dX8_readText_0 : decode cX8_readText 0 = .ok (.aload_n 0, 1) := by decide +kernel
theorem dX8_readText_1 : decode cX8_readText 1 = .ok (.iconst 0, 1) := by decide +kernel
theorem dX8_readText_2 : decode cX8_readText 2 = .ok (.putfield 184, 3) := by decide +kernel
theorem dX8_readText_5 : decode cX8_readText 5 = .ok (.aload_n 0, 1) := by decide +kernel
theorem dX8_readText_6 : decode cX8_readText 6 = .ok (.iconst (-1), 1) := by decide +kernel
theorem dX8_readText_7 : decode cX8_readText 7 = .ok (.putfield 187, 3) := by decide +kernel
theorem dX8_readText_10 : decode cX8_readText 10 = .ok (.aload_n 0, 1) := by decide +kernel
theorem dX8_readText_11 : decode cX8_readText 11 = .ok (.iconst 0, 1) := by decide +kernel
theorem dX8_readText_12 : decode cX8_readText 12 = .ok (.putfield 193, 3) := by decide +kernel
theorem dX8_readText_15 : decode cX8_readText 15 = .ok (.aload_n 0, 1) := by decide +kernel
theorem dX8_readText_16 : decode cX8_readText 16 = .ok (.iconst 0, 1) := by decide +kernel
theorem dX8_readText_17 : decode cX8_readText 17 = .ok (.putfield 190, 3) := by decide +kernel
theorem dX8_readText_20 : decode cX8_readText 20 = .ok (.aload_n 0, 1) := by decide +kernel
theorem dX8_readText_21 : decode cX8_readText 21 = .ok (.getfield 56, 3) := by decide +kernel
theorem dX8_readText_24 : decode cX8_readText 24 = .ok (.iconst 1, 1) := by decide +kernel
theorem dX8_readText_25 : decode cX8_readText 25 = .ok (.iconst 0, 1) := by decide +kernel
theorem dX8_readText_26 : decode cX8_readText 26 = .ok (.iastore, 1) := by decide +kernel
theorem dX8_readText_27 : decode cX8_readText 27 = .ok (.aload_n 0, 1) := by decide +kernel
theorem dX8_readText_28 : decode cX8_readText 28 = .ok (.invokevirtual 235, 3) := by decide +kernel
theorem dX8_readText_31 : decode cX8_readText 31 = .ok (.aload_n 0, 1) := by decide +kernel
theorem dX8_readText_32 : decode cX8_readText 32 = .ok (.getfield 187, 3) := by decide +kernel
theorem dX8_readText_35 : decode cX8_readText 35 = .ok (.ifCond .ge 29, 3) := by decide +kernel
theorem dX8_readText_38 : decode cX8_readText 38 = .ok (.aload_n 0, 1) := by decide +kernel
theorem dX8_readText_39 : decode cX8_readText 39 = .ok (.invokevirtual 199, 3) := by decide +kernel
theorem dX8_readText_42 : decode cX8_readText 42 = .ok (.bipush 59, 2) := by decide +kernel
theorem dX8_readText_44 : decode cX8_readText 44 = .ok (.if_icmp .ne 20, 3) := by decide +kernel
theorem dX8_readText_47 : decode cX8_readText 47 = .ok (.aload_n 0, 1) := by decide +kernel
theorem dX8_readText_48 : decode cX8_readText 48 = .ok (.dup, 1) := by decide +kernel
theorem dX8_readText_49 : decode cX8_readText 49 = .ok (.getfield 184, 3) := by decide +kernel
theorem dX8_readText_52 : decode cX8_readText 52 = .ok (.iconst 1, 1) := by decide +kernel
theorem dX8_readText_53 : decode cX8_readText 53 = .ok (.iadd, 1) := by decide +kernel
theorem dX8_readText_54 : decode cX8_readText 54 = .ok (.putfield 184, 3) := by decide +kernel
theorem dX8_readText_57 : decode cX8_readText 57 = .ok (.aload_n 0, 1) := by decide +kernel
theorem dX8_readText_58 : decode cX8_readText 58 = .ok (.invokevirtual 235, 3) := by decide +kernel
theorem dX8_readText_61 : decode cX8_readText 61 = .ok (.goto (-30), 3) := by decide +kernel
theorem dX8_readText_64 : decode cX8_readText 64 = .ok (.aload_n 0, 1) := by decide +kernel
theorem dX8_readText_65 : decode cX8_readText 65 = .ok (.getfield 187, 3) := by decide +kernel
theorem dX8_readText_68 : decode cX8_readText 68 = .ok (.ifCond .ge 18, 3) := by decide +kernel
theorem dX8_readText_71 : decode cX8_readText 71 = .ok (.aload_n 0, 1) := by decide +kernel
theorem dX8_readText_72 : decode cX8_readText 72 = .ok (.getfield 184, 3) := by decide +kernel
theorem dX8_readText_75 : decode cX8_readText 75 = .ok (.aload_n 0, 1) := by decide +kernel
theorem dX8_readText_76 : decode cX8_readText 76 = .ok (.getfield 181, 3) := by decide +kernel
theorem dX8_readText_79 : decode cX8_readText 79 = .ok (.if_icmp .ge 7, 3) := by decide +kernel
theorem dX8_readText_82 : decode cX8_readText 82 = .ok (.aload_n 0, 1) := by decide +kernel
theorem dX8_readText_83 : decode cX8_readText 83 = .ok (.invokevirtual 196, 3) := by decide +kernel
theorem dX8_readText_86 : decode cX8_readText 86 = .ok (.aload_n 0, 1) := by decide +kernel
theorem dX8_readText_87 : decode cX8_readText 87 = .ok (.iconst 0, 1) := by decide +kernel
theorem dX8_readText_88 : decode cX8_readText 88 = .ok (.putfield 181, 3) := by decide +kernel
theorem dX8_readText_91 : decode cX8_readText 91 = .ok (.aload_n 0, 1) := by decide +kernel
theorem dX8_readText_92 : decode cX8_readText 92 = .ok (.getfield 187, 3) := by decide +kernel
theorem dX8_readText_95 : decode cX8_readText 95 = .ok (.ifCond .lt 8, 3) := by decide +kernel
theorem dX8_readText_98 : decode cX8_readText 98 = .ok (.aload_n 0, 1) := by decide +kernel
theorem dX8_readText_99 : decode cX8_readText 99 = .ok (.getfield 187, 3) := by decide +kernel
theorem dX8_readText_102 : decode cX8_readText 102 = .ok (.ireturn, 1) := by decide +kernel
theorem dX8_readText_103 : decode cX8_readText 103 = .ok (.iconst 0, 1) := by decide +kernel
theorem dX8_readText_104 : decode cX8_readText 104 = .ok (.istore_n 2, 1) := by decide +kernel
theorem dX8_readText_105 : decode cX8_readText 105 = .ok (.iload_n 2, 1) := by decide +kernel
theorem dX8_readText_106 : decode cX8_readText 106 = .ok (.aload_n 0, 1) := by decide +kernel
theorem dX8_readText_107 : decode cX8_readText 107 = .ok (.getfield 190, 3) := by decide +kernel
theorem dX8_readText_110 : decode cX8_readText 110 = .ok (.if_icmp .ge 53, 3) := by decide +kernel
theorem dX8_readText_113 : decode cX8_readText 113 = .ok (.aload_n 0, 1) := by decide +kernel
theorem dX8_readText_114 : decode cX8_readText 114 = .ok (.getfield 50, 3) := by decide +kernel
theorem dX8_readText_117 : decode cX8_readText 117 = .ok (.sipush 130, 3) := by decide +kernel
theorem dX8_readText_120 : decode cX8_readText 120 = .ok (.iload_n 1, 1) := by decide +kernel
theorem dX8_readText_121 : decode cX8_readText 121 = .ok (.imul, 1) := by decide +kernel
theorem dX8_readText_122 : decode cX8_readText 122 = .ok (.iload_n 2, 1) := by decide +kernel
theorem dX8_readText_123 : decode cX8_readText 123 = .ok (.iadd, 1) := by decide +kernel
theorem dX8_readText_124 : decode cX8_readText 124 = .ok (.aload_n 0, 1) := by decide +kernel
theorem dX8_readText_125 : decode cX8_readText 125 = .ok (.getfield 50, 3) := by decide +kernel
theorem dX8_readText_128 : decode cX8_readText 128 = .ok (.sipush 130, 3) := by decide +kernel
theorem dX8_readText_131 : decode cX8_readText 131 = .ok (.iload_n 2, 1) := by decide +kernel
theorem dX8_readText_132 : decode cX8_readText 132 = .ok (.iadd, 1) := by decide +kernel
theorem dX8_readText_133 : decode cX8_readText 133 = .ok (.baload, 1) := by decide +kernel
theorem dX8_readText_134 : decode cX8_readText 134 = .ok (.bastore, 1) := by decide +kernel
theorem dX8_readText_135 : decode cX8_readText 135 = .ok (.aload_n 0, 1) := by decide +kernel
theorem dX8_readText_136 : decode cX8_readText 136 = .ok (.getfield 53, 3) := by decide +kernel
theorem dX8_readText_139 : decode cX8_readText 139 = .ok (.sipush 130, 3) := by decide +kernel
theorem dX8_readText_142 : decode cX8_readText 142 = .ok (.iload_n 1, 1) := by decide +kernel
theorem dX8_readText_143 : decode cX8_readText 143 = .ok (.imul, 1) := by decide +kernel
theorem dX8_readText_144 : decode cX8_readText 144 = .ok (.iload_n 2, 1) := by decide +kernel
theorem dX8_readText_145 : decode cX8_readText 145 = .ok (.iadd, 1) := by decide +kernel
theorem dX8_readText_146 : decode cX8_readText 146 = .ok (.aload_n 0, 1) := by decide +kernel
theorem dX8_readText_147 : decode cX8_readText 147 = .ok (.getfield 53, 3) := by decide +kernel
theorem dX8_readText_150 : decode cX8_readText 150 = .ok (.sipush 130, 3) := by decide +kernel
theorem dX8_readText_153 : decode cX8_readText 153 = .ok (.iload_n 2, 1) := by decide +kernel
theorem dX8_readText_154 : decode cX8_readText 154 = .ok (.iadd, 1) := by decide +kernel
theorem dX8_readText_155 : decode cX8_readText 155 = .ok (.iaload, 1) := by decide +kernel
theorem dX8_readText_156 : decode cX8_readText 156 = .ok (.iastore, 1) := by decide +kernel
theorem dX8_readText_157 : decode cX8_readText 157 = .ok (.iinc 2 1, 3) := by decide +kernel
theorem dX8_readText_160 : decode cX8_readText 160 = .ok (.goto (-55), 3) := by decide +kernel
theorem dX8_readText_163 : decode cX8_readText 163 = .ok (.aload_n 0, 1) := by decide +kernel
theorem dX8_readText_164 : decode cX8_readText 164 = .ok (.getfield 56, 3) := by decide +kernel
theorem dX8_readText_167 : decode cX8_readText 167 = .ok (.iload_n 1, 1) := by decide +kernel
theorem dX8_readText_168 : decode cX8_readText 168 = .ok (.aload_n 0, 1) := by decide +kernel
theorem dX8_readText_169 : decode cX8_readText 169 = .ok (.getfield 56, 3) := by decide +kernel
theorem dX8_readText_172 : decode cX8_readText 172 = .ok (.iconst 1, 1) := by decide +kernel
theorem dX8_readText_173 : decode cX8_readText 173 = .ok (.iaload, 1) := by decide +kernel
theorem dX8_readText_174 : decode cX8_readText 174 = .ok (.iastore, 1) := by decide +kernel
theorem dX8_readText_175 : decode cX8_readText 175 = .ok (.iconst 0, 1) := by decide +kernel
theorem dX8_readText_176 : decode cX8_readText 176 = .ok (.istore_n 2, 1) := by decide +kernel
theorem dX8_readText_177 : decode cX8_readText 177 = .ok (.iload_n 2, 1) := by decide +kernel
theorem dX8_readText_178 : decode cX8_readText 178 = .ok (.aload_n 0, 1) := by decide +kernel
theorem dX8_readText_179 : decode cX8_readText 179 = .ok (.getfield 56, 3) := by decide +kernel
theorem dX8_readText_182 : decode cX8_readText 182 = .ok (.iload_n 1, 1) := by decide +kernel
theorem dX8_readText_183 : decode cX8_readText 183 = .ok (.iaload, 1) := by decide +kernel
theorem dX8_readText_184 : decode cX8_readText 184 = .ok (.if_icmp .ge 49, 3) := by decide +kernel
theorem dX8_readText_187 : decode cX8_readText 187 = .ok (.aload_n 0, 1) := by decide +kernel
theorem dX8_readText_188 : decode cX8_readText 188 = .ok (.getfield 59, 3) := by decide +kernel
theorem dX8_readText_191 : decode cX8_readText 191 = .ok (.bipush 61, 2) := by decide +kernel
theorem dX8_readText_193 : decode cX8_readText 193 = .ok (.iload_n 1, 1) := by decide +kernel
theorem dX8_readText_194 : decode cX8_readText 194 = .ok (.imul, 1) := by decide +kernel
theorem dX8_readText_195 : decode cX8_readText 195 = .ok (.iload_n 2, 1) := by decide +kernel
theorem dX8_readText_196 : decode cX8_readText 196 = .ok (.iadd, 1) := by decide +kernel
theorem dX8_readText_197 : decode cX8_readText 197 = .ok (.aload_n 0, 1) := by decide +kernel
theorem dX8_readText_198 : decode cX8_readText 198 = .ok (.getfield 59, 3) := by decide +kernel
theorem dX8_readText_201 : decode cX8_readText 201 = .ok (.bipush 61, 2) := by decide +kernel
theorem dX8_readText_203 : decode cX8_readText 203 = .ok (.iload_n 2, 1) := by decide +kernel
theorem dX8_readText_204 : decode cX8_readText 204 = .ok (.iadd, 1) := by decide +kernel
theorem dX8_readText_205 : decode cX8_readText 205 = .ok (.saload, 1) := by decide +kernel
theorem dX8_readText_206 : decode cX8_readText 206 = .ok (.sastore, 1) := by decide +kernel
theorem dX8_readText_207 : decode cX8_readText 207 = .ok (.aload_n 0, 1) := by decide +kernel
theorem dX8_readText_208 : decode cX8_readText 208 = .ok (.getfield 63, 3) := by decide +kernel
theorem dX8_readText_211 : decode cX8_readText 211 = .ok (.bipush 61, 2) := by decide +kernel
theorem dX8_readText_213 : decode cX8_readText 213 = .ok (.iload_n 1, 1) := by decide +kernel
theorem dX8_readText_214 : decode cX8_readText 214 = .ok (.imul, 1) := by decide +kernel
theorem dX8_readText_215 : decode cX8_readText 215 = .ok (.iload_n 2, 1) := by decide +kernel
theorem dX8_readText_216 : decode cX8_readText 216 = .ok (.iadd, 1) := by decide +kernel
theorem dX8_readText_217 : decode cX8_readText 217 = .ok (.aload_n 0, 1) := by decide +kernel
theorem dX8_readText_218 : decode cX8_readText 218 = .ok (.getfield 63, 3) := by decide +kernel
theorem dX8_readText_221 : decode cX8_readText 221 = .ok (.bipush 61, 2) := by decide +kernel
theorem dX8_readText_223 : decode cX8_readText 223 = .ok (.iload_n 2, 1) := by decide +kernel
theorem dX8_readText_224 : decode cX8_readText 224 = .ok (.iadd, 1) := by decide +kernel
theorem dX8_readText_225 : decode cX8_readText 225 = .ok (.saload, 1) := by decide +kernel
theorem dX8_readText_226 : decode cX8_readText 226 = .ok (.sastore, 1) := by decide +kernel
theorem dX8_readText_227 : decode cX8_readText 227 = .ok (.iinc 2 1, 3) := by decide +kernel
theorem dX8_readText_230 : decode cX8_readText 230 = .ok (.goto (-53), 3) := by decide +kernel
theorem dX8_readText_233 : decode cX8_readText 233 = .ok (.iconst (-1), 1) := by decide +kernel
theorem dX8_readText_234 : decode cX8_readText 234 = .ok (.ireturn, 1) := by decide +kernel
theorem dX8_twoOf_0 : decode cX8_twoOf 0 = .ok (.iload_n 0, 1) := by decide +kernel
theorem dX8_twoOf_1 : decode cX8_twoOf 1 = .ok (.tableswitch 217 37 62 #[153, 203, 217, 217, 217, 127, 119, 217, 123, 217, 131, 217, 217, 217, 217, 217, 217, 217, 217, 217, 217, 217, 217, 170, 181, 192], 119) := by decide +kernel
theorem dX8_twoOf_120 : decode cX8_twoOf 120 = .ok (.iload_n 1, 1) := by decide +kernel
theorem dX8_twoOf_121 : decode cX8_twoOf 121 = .ok (.iload_n 2, 1) := by decide +kernel
theorem dX8_twoOf_122 : decode cX8_twoOf 122 = .ok (.iadd, 1) := by decide +kernel
theorem dX8_twoOf_123 : decode cX8_twoOf 123 = .ok (.ireturn, 1) := by decide +kernel
theorem dX8_twoOf_124 : decode cX8_twoOf 124 = .ok (.iload_n 1, 1) := by decide +kernel
theorem dX8_twoOf_125 : decode cX8_twoOf 125 = .ok (.iload_n 2, 1) := by decide +kernel
theorem dX8_twoOf_126 : decode cX8_twoOf 126 = .ok (.isub, 1) := by decide +kernel
theorem dX8_twoOf_127 : decode cX8_twoOf 127 = .ok (.ireturn, 1) := by decide +kernel
theorem dX8_twoOf_128 : decode cX8_twoOf 128 = .ok (.iload_n 1, 1) := by decide +kernel
theorem dX8_twoOf_129 : decode cX8_twoOf 129 = .ok (.iload_n 2, 1) := by decide +kernel
theorem dX8_twoOf_130 : decode cX8_twoOf 130 = .ok (.imul, 1) := by decide +kernel
theorem dX8_twoOf_131 : decode cX8_twoOf 131 = .ok (.ireturn, 1) := by decide +kernel
theorem dX8_twoOf_132 : decode cX8_twoOf 132 = .ok (.iload_n 2, 1) := by decide +kernel
theorem dX8_twoOf_133 : decode cX8_twoOf 133 = .ok (.ifCond .ne 7, 3) := by decide +kernel
theorem dX8_twoOf_136 : decode cX8_twoOf 136 = .ok (.iconst 0, 1) := by decide +kernel
theorem dX8_twoOf_137 : decode cX8_twoOf 137 = .ok (.goto 16, 3) := by decide +kernel
theorem dX8_twoOf_140 : decode cX8_twoOf 140 = .ok (.iload_n 2, 1) := by decide +kernel
theorem dX8_twoOf_141 : decode cX8_twoOf 141 = .ok (.iconst (-1), 1) := by decide +kernel
theorem dX8_twoOf_142 : decode cX8_twoOf 142 = .ok (.if_icmp .ne 8, 3) := by decide +kernel
theorem dX8_twoOf_145 : decode cX8_twoOf 145 = .ok (.iload_n 1, 1) := by decide +kernel
theorem dX8_twoOf_146 : decode cX8_twoOf 146 = .ok (.ineg, 1) := by decide +kernel
theorem dX8_twoOf_147 : decode cX8_twoOf 147 = .ok (.goto 6, 3) := by decide +kernel
theorem dX8_twoOf_150 : decode cX8_twoOf 150 = .ok (.iload_n 1, 1) := by decide +kernel
theorem dX8_twoOf_151 : decode cX8_twoOf 151 = .ok (.iload_n 2, 1) := by decide +kernel
theorem dX8_twoOf_152 : decode cX8_twoOf 152 = .ok (.idiv, 1) := by decide +kernel
theorem dX8_twoOf_153 : decode cX8_twoOf 153 = .ok (.ireturn, 1) := by decide +kernel
theorem dX8_twoOf_154 : decode cX8_twoOf 154 = .ok (.iload_n 2, 1) := by decide +kernel
theorem dX8_twoOf_155 : decode cX8_twoOf 155 = .ok (.ifCond .eq 8, 3) := by decide +kernel
theorem dX8_twoOf_158 : decode cX8_twoOf 158 = .ok (.iload_n 2, 1) := by decide +kernel
theorem dX8_twoOf_159 : decode cX8_twoOf 159 = .ok (.iconst (-1), 1) := by decide +kernel
theorem dX8_twoOf_160 : decode cX8_twoOf 160 = .ok (.if_icmp .ne 7, 3) := by decide +kernel
theorem dX8_twoOf_163 : decode cX8_twoOf 163 = .ok (.iconst 0, 1) := by decide +kernel
theorem dX8_twoOf_164 : decode cX8_twoOf 164 = .ok (.goto 6, 3) := by decide +kernel
theorem dX8_twoOf_167 : decode cX8_twoOf 167 = .ok (.iload_n 1, 1) := by decide +kernel
theorem dX8_twoOf_168 : decode cX8_twoOf 168 = .ok (.iload_n 2, 1) := by decide +kernel
theorem dX8_twoOf_169 : decode cX8_twoOf 169 = .ok (.irem, 1) := by decide +kernel
theorem dX8_twoOf_170 : decode cX8_twoOf 170 = .ok (.ireturn, 1) := by decide +kernel
theorem dX8_twoOf_171 : decode cX8_twoOf 171 = .ok (.iload_n 1, 1) := by decide +kernel
theorem dX8_twoOf_172 : decode cX8_twoOf 172 = .ok (.iload_n 2, 1) := by decide +kernel
theorem dX8_twoOf_173 : decode cX8_twoOf 173 = .ok (.if_icmp .ge 7, 3) := by decide +kernel
theorem dX8_twoOf_176 : decode cX8_twoOf 176 = .ok (.iconst 1, 1) := by decide +kernel
theorem dX8_twoOf_177 : decode cX8_twoOf 177 = .ok (.goto 4, 3) := by decide +kernel
theorem dX8_twoOf_180 : decode cX8_twoOf 180 = .ok (.iconst 0, 1) := by decide +kernel
theorem dX8_twoOf_181 : decode cX8_twoOf 181 = .ok (.ireturn, 1) := by decide +kernel
theorem dX8_twoOf_182 : decode cX8_twoOf 182 = .ok (.iload_n 1, 1) := by decide +kernel
theorem dX8_twoOf_183 : decode cX8_twoOf 183 = .ok (.iload_n 2, 1) := by decide +kernel
theorem dX8_twoOf_184 : decode cX8_twoOf 184 = .ok (.if_icmp .ne 7, 3) := by decide +kernel
theorem dX8_twoOf_187 : decode cX8_twoOf 187 = .ok (.iconst 1, 1) := by decide +kernel
theorem dX8_twoOf_188 : decode cX8_twoOf 188 = .ok (.goto 4, 3) := by decide +kernel
theorem dX8_twoOf_191 : decode cX8_twoOf 191 = .ok (.iconst 0, 1) := by decide +kernel
theorem dX8_twoOf_192 : decode cX8_twoOf 192 = .ok (.ireturn, 1) := by decide +kernel
theorem dX8_twoOf_193 : decode cX8_twoOf 193 = .ok (.iload_n 1, 1) := by decide +kernel
theorem dX8_twoOf_194 : decode cX8_twoOf 194 = .ok (.iload_n 2, 1) := by decide +kernel
theorem dX8_twoOf_195 : decode cX8_twoOf 195 = .ok (.if_icmp .le 7, 3) := by decide +kernel
theorem dX8_twoOf_198 : decode cX8_twoOf 198 = .ok (.iconst 1, 1) := by decide +kernel
theorem dX8_twoOf_199 : decode cX8_twoOf 199 = .ok (.goto 4, 3) := by decide +kernel
theorem dX8_twoOf_202 : decode cX8_twoOf 202 = .ok (.iconst 0, 1) := by decide +kernel
theorem dX8_twoOf_203 : decode cX8_twoOf 203 = .ok (.ireturn, 1) := by decide +kernel
theorem dX8_twoOf_204 : decode cX8_twoOf 204 = .ok (.iload_n 1, 1) := by decide +kernel
theorem dX8_twoOf_205 : decode cX8_twoOf 205 = .ok (.ifCond .eq 11, 3) := by decide +kernel
theorem dX8_twoOf_208 : decode cX8_twoOf 208 = .ok (.iload_n 2, 1) := by decide +kernel
theorem dX8_twoOf_209 : decode cX8_twoOf 209 = .ok (.ifCond .eq 7, 3) := by decide +kernel
theorem dX8_twoOf_212 : decode cX8_twoOf 212 = .ok (.iconst 1, 1) := by decide +kernel
theorem dX8_twoOf_213 : decode cX8_twoOf 213 = .ok (.goto 4, 3) := by decide +kernel
theorem dX8_twoOf_216 : decode cX8_twoOf 216 = .ok (.iconst 0, 1) := by decide +kernel
theorem dX8_twoOf_217 : decode cX8_twoOf 217 = .ok (.ireturn, 1) := by decide +kernel
theorem dX8_twoOf_218 : decode cX8_twoOf 218 = .ok (.iload_n 1, 1) := by decide +kernel
theorem dX8_twoOf_219 : decode cX8_twoOf 219 = .ok (.ifCond .ne 7, 3) := by decide +kernel
theorem dX8_twoOf_222 : decode cX8_twoOf 222 = .ok (.iload_n 2, 1) := by decide +kernel
theorem dX8_twoOf_223 : decode cX8_twoOf 223 = .ok (.ifCond .eq 7, 3) := by decide +kernel
theorem dX8_twoOf_226 : decode cX8_twoOf 226 = .ok (.iconst 1, 1) := by decide +kernel
theorem dX8_twoOf_227 : decode cX8_twoOf 227 = .ok (.goto 4, 3) := by decide +kernel
theorem dX8_twoOf_230 : decode cX8_twoOf 230 = .ok (.iconst 0, 1) := by decide +kernel
theorem dX8_twoOf_231 : decode cX8_twoOf 231 = .ok (.ireturn, 1) := by decide +kernel
theorem dX8_worked_0 : decode cX8_worked 0 = .ok (.iconst 0, 1) := by decide +kernel
theorem dX8_worked_1 : decode cX8_worked 1 = .ok (.istore 4, 2) := by decide +kernel
theorem dX8_worked_3 : decode cX8_worked 3 = .ok (.sipush 130, 3) := by decide +kernel
theorem dX8_worked_6 : decode cX8_worked 6 = .ok (.iload_n 1, 1) := by decide +kernel
theorem dX8_worked_7 : decode cX8_worked 7 = .ok (.imul, 1) := by decide +kernel
theorem dX8_worked_8 : decode cX8_worked 8 = .ok (.iload_n 2, 1) := by decide +kernel
theorem dX8_worked_9 : decode cX8_worked 9 = .ok (.iadd, 1) := by decide +kernel
theorem dX8_worked_10 : decode cX8_worked 10 = .ok (.istore 5, 2) := by decide +kernel
theorem dX8_worked_12 : decode cX8_worked 12 = .ok (.iload 5, 2) := by decide +kernel
theorem dX8_worked_14 : decode cX8_worked 14 = .ok (.sipush 130, 3) := by decide +kernel
theorem dX8_worked_17 : decode cX8_worked 17 = .ok (.iload_n 1, 1) := by decide +kernel
theorem dX8_worked_18 : decode cX8_worked 18 = .ok (.imul, 1) := by decide +kernel
theorem dX8_worked_19 : decode cX8_worked 19 = .ok (.iload_n 3, 1) := by decide +kernel
theorem dX8_worked_20 : decode cX8_worked 20 = .ok (.iadd, 1) := by decide +kernel
theorem dX8_worked_21 : decode cX8_worked 21 = .ok (.if_icmp .ge 167, 3) := by decide +kernel
theorem dX8_worked_24 : decode cX8_worked 24 = .ok (.aload_n 0, 1) := by decide +kernel
theorem dX8_worked_25 : decode cX8_worked 25 = .ok (.getfield 50, 3) := by decide +kernel
theorem dX8_worked_28 : decode cX8_worked 28 = .ok (.iload 5, 2) := by decide +kernel
theorem dX8_worked_30 : decode cX8_worked 30 = .ok (.baload, 1) := by decide +kernel
theorem dX8_worked_31 : decode cX8_worked 31 = .ok (.istore 6, 2) := by decide +kernel
theorem dX8_worked_33 : decode cX8_worked 33 = .ok (.iload 6, 2) := by decide +kernel
theorem dX8_worked_35 : decode cX8_worked 35 = .ok (.iconst 1, 1) := by decide +kernel
theorem dX8_worked_36 : decode cX8_worked 36 = .ok (.if_icmp .eq 9, 3) := by decide +kernel
theorem dX8_worked_39 : decode cX8_worked 39 = .ok (.iload 6, 2) := by decide +kernel
theorem dX8_worked_41 : decode cX8_worked 41 = .ok (.iconst 2, 1) := by decide +kernel
theorem dX8_worked_42 : decode cX8_worked 42 = .ok (.if_icmp .ne 44, 3) := by decide +kernel
theorem dX8_worked_45 : decode cX8_worked 45 = .ok (.aload_n 0, 1) := by decide +kernel
theorem dX8_worked_46 : decode cX8_worked 46 = .ok (.getfield 69, 3) := by decide +kernel
theorem dX8_worked_49 : decode cX8_worked 49 = .ok (.iload 4, 2) := by decide +kernel
theorem dX8_worked_51 : decode cX8_worked 51 = .ok (.iload 6, 2) := by decide +kernel
theorem dX8_worked_53 : decode cX8_worked 53 = .ok (.iconst 1, 1) := by decide +kernel
theorem dX8_worked_54 : decode cX8_worked 54 = .ok (.if_icmp .ne 13, 3) := by decide +kernel
theorem dX8_worked_57 : decode cX8_worked 57 = .ok (.aload_n 0, 1) := by decide +kernel
theorem dX8_worked_58 : decode cX8_worked 58 = .ok (.getfield 53, 3) := by decide +kernel
theorem dX8_worked_61 : decode cX8_worked 61 = .ok (.iload 5, 2) := by decide +kernel
theorem dX8_worked_63 : decode cX8_worked 63 = .ok (.iaload, 1) := by decide +kernel
theorem dX8_worked_64 : decode cX8_worked 64 = .ok (.goto 15, 3) := by decide +kernel
theorem dX8_worked_67 : decode cX8_worked 67 = .ok (.aload_n 0, 1) := by decide +kernel
theorem dX8_worked_68 : decode cX8_worked 68 = .ok (.getfield 66, 3) := by decide +kernel
theorem dX8_worked_71 : decode cX8_worked 71 = .ok (.aload_n 0, 1) := by decide +kernel
theorem dX8_worked_72 : decode cX8_worked 72 = .ok (.getfield 53, 3) := by decide +kernel
theorem dX8_worked_75 : decode cX8_worked 75 = .ok (.iload 5, 2) := by decide +kernel
theorem dX8_worked_77 : decode cX8_worked 77 = .ok (.iaload, 1) := by decide +kernel
theorem dX8_worked_78 : decode cX8_worked 78 = .ok (.iaload, 1) := by decide +kernel
theorem dX8_worked_79 : decode cX8_worked 79 = .ok (.iastore, 1) := by decide +kernel
theorem dX8_worked_80 : decode cX8_worked 80 = .ok (.iinc 4 1, 3) := by decide +kernel
theorem dX8_worked_83 : decode cX8_worked 83 = .ok (.goto 99, 3) := by decide +kernel
theorem dX8_worked_86 : decode cX8_worked 86 = .ok (.iload 6, 2) := by decide +kernel
theorem dX8_worked_88 : decode cX8_worked 88 = .ok (.iconst 3, 1) := by decide +kernel
theorem dX8_worked_89 : decode cX8_worked 89 = .ok (.if_icmp .ne 32, 3) := by decide +kernel
theorem dX8_worked_92 : decode cX8_worked 92 = .ok (.aload_n 0, 1) := by decide +kernel
theorem dX8_worked_93 : decode cX8_worked 93 = .ok (.getfield 69, 3) := by decide +kernel
theorem dX8_worked_96 : decode cX8_worked 96 = .ok (.iload 4, 2) := by decide +kernel
theorem dX8_worked_98 : decode cX8_worked 98 = .ok (.iconst 1, 1) := by decide +kernel
theorem dX8_worked_99 : decode cX8_worked 99 = .ok (.isub, 1) := by decide +kernel
theorem dX8_worked_100 : decode cX8_worked 100 = .ok (.aload_n 0, 1) := by decide +kernel
theorem dX8_worked_101 : decode cX8_worked 101 = .ok (.getfield 69, 3) := by decide +kernel
theorem dX8_worked_104 : decode cX8_worked 104 = .ok (.iload 4, 2) := by decide +kernel
theorem dX8_worked_106 : decode cX8_worked 106 = .ok (.iconst 1, 1) := by decide +kernel
theorem dX8_worked_107 : decode cX8_worked 107 = .ok (.isub, 1) := by decide +kernel
theorem dX8_worked_108 : decode cX8_worked 108 = .ok (.iaload, 1) := by decide +kernel
theorem dX8_worked_109 : decode cX8_worked 109 = .ok (.ifCond .ne 7, 3) := by decide +kernel
theorem dX8_worked_112 : decode cX8_worked 112 = .ok (.iconst 1, 1) := by decide +kernel
theorem dX8_worked_113 : decode cX8_worked 113 = .ok (.goto 4, 3) := by decide +kernel
theorem dX8_worked_116 : decode cX8_worked 116 = .ok (.iconst 0, 1) := by decide +kernel
theorem dX8_worked_117 : decode cX8_worked 117 = .ok (.iastore, 1) := by decide +kernel
theorem dX8_worked_118 : decode cX8_worked 118 = .ok (.goto 64, 3) := by decide +kernel
theorem dX8_worked_121 : decode cX8_worked 121 = .ok (.iload 6, 2) := by decide +kernel
theorem dX8_worked_123 : decode cX8_worked 123 = .ok (.iconst 4, 1) := by decide +kernel
theorem dX8_worked_124 : decode cX8_worked 124 = .ok (.if_icmp .ne 25, 3) := by decide +kernel
theorem dX8_worked_127 : decode cX8_worked 127 = .ok (.aload_n 0, 1) := by decide +kernel
theorem dX8_worked_128 : decode cX8_worked 128 = .ok (.getfield 69, 3) := by decide +kernel
theorem dX8_worked_131 : decode cX8_worked 131 = .ok (.iload 4, 2) := by decide +kernel
theorem dX8_worked_133 : decode cX8_worked 133 = .ok (.iconst 1, 1) := by decide +kernel
theorem dX8_worked_134 : decode cX8_worked 134 = .ok (.isub, 1) := by decide +kernel
theorem dX8_worked_135 : decode cX8_worked 135 = .ok (.aload_n 0, 1) := by decide +kernel
theorem dX8_worked_136 : decode cX8_worked 136 = .ok (.getfield 69, 3) := by decide +kernel
theorem dX8_worked_139 : decode cX8_worked 139 = .ok (.iload 4, 2) := by decide +kernel
theorem dX8_worked_141 : decode cX8_worked 141 = .ok (.iconst 1, 1) := by decide +kernel
theorem dX8_worked_142 : decode cX8_worked 142 = .ok (.isub, 1) := by decide +kernel
theorem dX8_worked_143 : decode cX8_worked 143 = .ok (.iaload, 1) := by decide +kernel
theorem dX8_worked_144 : decode cX8_worked 144 = .ok (.ineg, 1) := by decide +kernel
theorem dX8_worked_145 : decode cX8_worked 145 = .ok (.iastore, 1) := by decide +kernel
theorem dX8_worked_146 : decode cX8_worked 146 = .ok (.goto 36, 3) := by decide +kernel
theorem dX8_worked_149 : decode cX8_worked 149 = .ok (.iinc 4 (-1), 3) := by decide +kernel
theorem dX8_worked_152 : decode cX8_worked 152 = .ok (.aload_n 0, 1) := by decide +kernel
theorem dX8_worked_153 : decode cX8_worked 153 = .ok (.getfield 69, 3) := by decide +kernel
theorem dX8_worked_156 : decode cX8_worked 156 = .ok (.iload 4, 2) := by decide +kernel
theorem dX8_worked_158 : decode cX8_worked 158 = .ok (.iconst 1, 1) := by decide +kernel
theorem dX8_worked_159 : decode cX8_worked 159 = .ok (.isub, 1) := by decide +kernel
theorem dX8_worked_160 : decode cX8_worked 160 = .ok (.iload 6, 2) := by decide +kernel
theorem dX8_worked_162 : decode cX8_worked 162 = .ok (.aload_n 0, 1) := by decide +kernel
theorem dX8_worked_163 : decode cX8_worked 163 = .ok (.getfield 69, 3) := by decide +kernel
theorem dX8_worked_166 : decode cX8_worked 166 = .ok (.iload 4, 2) := by decide +kernel
theorem dX8_worked_168 : decode cX8_worked 168 = .ok (.iconst 1, 1) := by decide +kernel
theorem dX8_worked_169 : decode cX8_worked 169 = .ok (.isub, 1) := by decide +kernel
theorem dX8_worked_170 : decode cX8_worked 170 = .ok (.iaload, 1) := by decide +kernel
theorem dX8_worked_171 : decode cX8_worked 171 = .ok (.aload_n 0, 1) := by decide +kernel
theorem dX8_worked_172 : decode cX8_worked 172 = .ok (.getfield 69, 3) := by decide +kernel
theorem dX8_worked_175 : decode cX8_worked 175 = .ok (.iload 4, 2) := by decide +kernel
theorem dX8_worked_177 : decode cX8_worked 177 = .ok (.iaload, 1) := by decide +kernel
theorem dX8_worked_178 : decode cX8_worked 178 = .ok (.invokestatic 238, 3) := by decide +kernel
theorem dX8_worked_181 : decode cX8_worked 181 = .ok (.iastore, 1) := by decide +kernel
theorem dX8_worked_182 : decode cX8_worked 182 = .ok (.iinc 5 1, 3) := by decide +kernel
theorem dX8_worked_185 : decode cX8_worked 185 = .ok (.goto (-173), 3) := by decide +kernel
theorem dX8_worked_188 : decode cX8_worked 188 = .ok (.aload_n 0, 1) := by decide +kernel
theorem dX8_worked_189 : decode cX8_worked 189 = .ok (.getfield 69, 3) := by decide +kernel
theorem dX8_worked_192 : decode cX8_worked 192 = .ok (.iconst 0, 1) := by decide +kernel
theorem dX8_worked_193 : decode cX8_worked 193 = .ok (.iaload, 1) := by decide +kernel
theorem dX8_worked_194 : decode cX8_worked 194 = .ok (.ireturn, 1) := by decide +kernel
theorem dX8_gives_0 : decode cX8_gives 0 = .ok (.iconst 0, 1) := by decide +kernel
theorem dX8_gives_1 : decode cX8_gives 1 = .ok (.istore_n 2, 1) := by decide +kernel
theorem dX8_gives_2 : decode cX8_gives 2 = .ok (.bipush 61, 2) := by decide +kernel
theorem dX8_gives_4 : decode cX8_gives 4 = .ok (.iload_n 1, 1) := by decide +kernel
theorem dX8_gives_5 : decode cX8_gives 5 = .ok (.imul, 1) := by decide +kernel
theorem dX8_gives_6 : decode cX8_gives 6 = .ok (.istore_n 3, 1) := by decide +kernel
theorem dX8_gives_7 : decode cX8_gives 7 = .ok (.iload_n 3, 1) := by decide +kernel
theorem dX8_gives_8 : decode cX8_gives 8 = .ok (.bipush 61, 2) := by decide +kernel
theorem dX8_gives_10 : decode cX8_gives 10 = .ok (.iload_n 1, 1) := by decide +kernel
theorem dX8_gives_11 : decode cX8_gives 11 = .ok (.imul, 1) := by decide +kernel
theorem dX8_gives_12 : decode cX8_gives 12 = .ok (.aload_n 0, 1) := by decide +kernel
theorem dX8_gives_13 : decode cX8_gives 13 = .ok (.getfield 56, 3) := by decide +kernel
theorem dX8_gives_16 : decode cX8_gives 16 = .ok (.iload_n 1, 1) := by decide +kernel
theorem dX8_gives_17 : decode cX8_gives 17 = .ok (.iaload, 1) := by decide +kernel
theorem dX8_gives_18 : decode cX8_gives 18 = .ok (.iadd, 1) := by decide +kernel
theorem dX8_gives_19 : decode cX8_gives 19 = .ok (.if_icmp .ge 59, 3) := by decide +kernel
theorem dX8_gives_22 : decode cX8_gives 22 = .ok (.aload_n 0, 1) := by decide +kernel
theorem dX8_gives_23 : decode cX8_gives 23 = .ok (.getfield 59, 3) := by decide +kernel
theorem dX8_gives_26 : decode cX8_gives 26 = .ok (.iload_n 3, 1) := by decide +kernel
theorem dX8_gives_27 : decode cX8_gives 27 = .ok (.saload, 1) := by decide +kernel
theorem dX8_gives_28 : decode cX8_gives 28 = .ok (.iload_n 2, 1) := by decide +kernel
theorem dX8_gives_29 : decode cX8_gives 29 = .ok (.if_icmp .eq 18, 3) := by decide +kernel
theorem dX8_gives_32 : decode cX8_gives 32 = .ok (.aload_n 0, 1) := by decide +kernel
theorem dX8_gives_33 : decode cX8_gives 33 = .ok (.iload_n 1, 1) := by decide +kernel
theorem dX8_gives_34 : decode cX8_gives 34 = .ok (.iload_n 2, 1) := by decide +kernel
theorem dX8_gives_35 : decode cX8_gives 35 = .ok (.aload_n 0, 1) := by decide +kernel
theorem dX8_gives_36 : decode cX8_gives 36 = .ok (.getfield 59, 3) := by decide +kernel
theorem dX8_gives_39 : decode cX8_gives 39 = .ok (.iload_n 3, 1) := by decide +kernel
theorem dX8_gives_40 : decode cX8_gives 40 = .ok (.saload, 1) := by decide +kernel
theorem dX8_gives_41 : decode cX8_gives 41 = .ok (.invokevirtual 241, 3) := by decide +kernel
theorem dX8_gives_44 : decode cX8_gives 44 = .ok (.ifCond .eq 21, 3) := by decide +kernel
theorem dX8_gives_47 : decode cX8_gives 47 = .ok (.aload_n 0, 1) := by decide +kernel
theorem dX8_gives_48 : decode cX8_gives 48 = .ok (.iload_n 1, 1) := by decide +kernel
theorem dX8_gives_49 : decode cX8_gives 49 = .ok (.aload_n 0, 1) := by decide +kernel
theorem dX8_gives_50 : decode cX8_gives 50 = .ok (.getfield 59, 3) := by decide +kernel
theorem dX8_gives_53 : decode cX8_gives 53 = .ok (.iload_n 3, 1) := by decide +kernel
theorem dX8_gives_54 : decode cX8_gives 54 = .ok (.saload, 1) := by decide +kernel
theorem dX8_gives_55 : decode cX8_gives 55 = .ok (.aload_n 0, 1) := by decide +kernel
theorem dX8_gives_56 : decode cX8_gives 56 = .ok (.getfield 63, 3) := by decide +kernel
theorem dX8_gives_59 : decode cX8_gives 59 = .ok (.iload_n 3, 1) := by decide +kernel
theorem dX8_gives_60 : decode cX8_gives 60 = .ok (.saload, 1) := by decide +kernel
theorem dX8_gives_61 : decode cX8_gives 61 = .ok (.invokevirtual 241, 3) := by decide +kernel
theorem dX8_gives_64 : decode cX8_gives 64 = .ok (.ireturn, 1) := by decide +kernel
theorem dX8_gives_65 : decode cX8_gives 65 = .ok (.aload_n 0, 1) := by decide +kernel
theorem dX8_gives_66 : decode cX8_gives 66 = .ok (.getfield 63, 3) := by decide +kernel
theorem dX8_gives_69 : decode cX8_gives 69 = .ok (.iload_n 3, 1) := by decide +kernel
theorem dX8_gives_70 : decode cX8_gives 70 = .ok (.saload, 1) := by decide +kernel
theorem dX8_gives_71 : decode cX8_gives 71 = .ok (.istore_n 2, 1) := by decide +kernel
theorem dX8_gives_72 : decode cX8_gives 72 = .ok (.iinc 3 1, 3) := by decide +kernel
theorem dX8_gives_75 : decode cX8_gives 75 = .ok (.goto (-68), 3) := by decide +kernel
theorem dX8_gives_78 : decode cX8_gives 78 = .ok (.iconst 0, 1) := by decide +kernel
theorem dX8_gives_79 : decode cX8_gives 79 = .ok (.ireturn, 1) := by decide +kernel
theorem dX8_law_0 : decode cX8_law 0 = .ok (.aload_n 0, 1) := by decide +kernel
theorem dX8_law_1 : decode cX8_law 1 = .ok (.iconst 0, 1) := by decide +kernel
theorem dX8_law_2 : decode cX8_law 2 = .ok (.invokevirtual 244, 3) := by decide +kernel
theorem dX8_law_5 : decode cX8_law 5 = .ok (.istore_n 1, 1) := by decide +kernel
theorem dX8_law_6 : decode cX8_law 6 = .ok (.iload_n 1, 1) := by decide +kernel
theorem dX8_law_7 : decode cX8_law 7 = .ok (.ifCond .lt 8, 3) := by decide +kernel
theorem dX8_law_10 : decode cX8_law 10 = .ok (.bipush (-100), 2) := by decide +kernel
theorem dX8_law_12 : decode cX8_law 12 = .ok (.iload_n 1, 1) := by decide +kernel
theorem dX8_law_13 : decode cX8_law 13 = .ok (.isub, 1) := by decide +kernel
theorem dX8_law_14 : decode cX8_law 14 = .ok (.ireturn, 1) := by decide +kernel
theorem dX8_law_15 : decode cX8_law 15 = .ok (.aload_n 0, 1) := by decide +kernel
theorem dX8_law_16 : decode cX8_law 16 = .ok (.iconst 1, 1) := by decide +kernel
theorem dX8_law_17 : decode cX8_law 17 = .ok (.putfield 247, 3) := by decide +kernel
theorem dX8_law_20 : decode cX8_law 20 = .ok (.iconst 1, 1) := by decide +kernel
theorem dX8_law_21 : decode cX8_law 21 = .ok (.ireturn, 1) := by decide +kernel
theorem dX8_holdsFor_0 : decode cX8_holdsFor 0 = .ok (.iload 4, 2) := by decide +kernel
theorem dX8_holdsFor_2 : decode cX8_holdsFor 2 = .ok (.aload_n 0, 1) := by decide +kernel
theorem dX8_holdsFor_3 : decode cX8_holdsFor 3 = .ok (.getfield 7, 3) := by decide +kernel
theorem dX8_holdsFor_6 : decode cX8_holdsFor 6 = .ok (.iload_n 1, 1) := by decide +kernel
theorem dX8_holdsFor_7 : decode cX8_holdsFor 7 = .ok (.iaload, 1) := by decide +kernel
theorem dX8_holdsFor_8 : decode cX8_holdsFor 8 = .ok (.isub, 1) := by decide +kernel
theorem dX8_holdsFor_9 : decode cX8_holdsFor 9 = .ok (.istore 5, 2) := by decide +kernel
theorem dX8_holdsFor_11 : decode cX8_holdsFor 11 = .ok (.iload_n 1, 1) := by decide +kernel
theorem dX8_holdsFor_12 : decode cX8_holdsFor 12 = .ok (.iload_n 2, 1) := by decide +kernel
theorem dX8_holdsFor_13 : decode cX8_holdsFor 13 = .ok (.if_icmp .ne 7, 3) := by decide +kernel
theorem dX8_holdsFor_16 : decode cX8_holdsFor 16 = .ok (.iconst 1, 1) := by decide +kernel
theorem dX8_holdsFor_17 : decode cX8_holdsFor 17 = .ok (.goto 4, 3) := by decide +kernel
theorem dX8_holdsFor_20 : decode cX8_holdsFor 20 = .ok (.iconst 0, 1) := by decide +kernel
theorem dX8_holdsFor_21 : decode cX8_holdsFor 21 = .ok (.istore 6, 2) := by decide +kernel
theorem dX8_holdsFor_23 : decode cX8_holdsFor 23 = .ok (.aload_n 0, 1) := by decide +kernel
theorem dX8_holdsFor_24 : decode cX8_holdsFor 24 = .ok (.getfield 247, 3) := by decide +kernel
theorem dX8_holdsFor_27 : decode cX8_holdsFor 27 = .ok (.ifCond .ne 22, 3) := by decide +kernel
theorem dX8_holdsFor_30 : decode cX8_holdsFor 30 = .ok (.iload 5, 2) := by decide +kernel
theorem dX8_holdsFor_32 : decode cX8_holdsFor 32 = .ok (.bipush 80, 2) := by decide +kernel
theorem dX8_holdsFor_34 : decode cX8_holdsFor 34 = .ok (.if_icmp .lt 9, 3) := by decide +kernel
theorem dX8_holdsFor_37 : decode cX8_holdsFor 37 = .ok (.iload 6, 2) := by decide +kernel
theorem dX8_holdsFor_39 : decode cX8_holdsFor 39 = .ok (.iconst 1, 1) := by decide +kernel
theorem dX8_holdsFor_40 : decode cX8_holdsFor 40 = .ok (.if_icmp .ne 7, 3) := by decide +kernel
theorem dX8_holdsFor_43 : decode cX8_holdsFor 43 = .ok (.iconst 1, 1) := by decide +kernel
theorem dX8_holdsFor_44 : decode cX8_holdsFor 44 = .ok (.goto 4, 3) := by decide +kernel
theorem dX8_holdsFor_47 : decode cX8_holdsFor 47 = .ok (.iconst 0, 1) := by decide +kernel
theorem dX8_holdsFor_48 : decode cX8_holdsFor 48 = .ok (.ireturn, 1) := by decide +kernel
theorem dX8_holdsFor_49 : decode cX8_holdsFor 49 = .ok (.aload_n 0, 1) := by decide +kernel
theorem dX8_holdsFor_50 : decode cX8_holdsFor 50 = .ok (.getfield 66, 3) := by decide +kernel
theorem dX8_holdsFor_53 : decode cX8_holdsFor 53 = .ok (.iconst 0, 1) := by decide +kernel
theorem dX8_holdsFor_54 : decode cX8_holdsFor 54 = .ok (.iload 5, 2) := by decide +kernel
theorem dX8_holdsFor_56 : decode cX8_holdsFor 56 = .ok (.iastore, 1) := by decide +kernel
theorem dX8_holdsFor_57 : decode cX8_holdsFor 57 = .ok (.aload_n 0, 1) := by decide +kernel
theorem dX8_holdsFor_58 : decode cX8_holdsFor 58 = .ok (.getfield 66, 3) := by decide +kernel
theorem dX8_holdsFor_61 : decode cX8_holdsFor 61 = .ok (.iconst 1, 1) := by decide +kernel
theorem dX8_holdsFor_62 : decode cX8_holdsFor 62 = .ok (.iload 4, 2) := by decide +kernel
theorem dX8_holdsFor_64 : decode cX8_holdsFor 64 = .ok (.aload_n 0, 1) := by decide +kernel
theorem dX8_holdsFor_65 : decode cX8_holdsFor 65 = .ok (.getfield 13, 3) := by decide +kernel
theorem dX8_holdsFor_68 : decode cX8_holdsFor 68 = .ok (.iload_n 2, 1) := by decide +kernel
theorem dX8_holdsFor_69 : decode cX8_holdsFor 69 = .ok (.iaload, 1) := by decide +kernel
theorem dX8_holdsFor_70 : decode cX8_holdsFor 70 = .ok (.if_icmp .le 15, 3) := by decide +kernel
theorem dX8_holdsFor_73 : decode cX8_holdsFor 73 = .ok (.iload 4, 2) := by decide +kernel
theorem dX8_holdsFor_75 : decode cX8_holdsFor 75 = .ok (.aload_n 0, 1) := by decide +kernel
theorem dX8_holdsFor_76 : decode cX8_holdsFor 76 = .ok (.getfield 13, 3) := by decide +kernel
theorem dX8_holdsFor_79 : decode cX8_holdsFor 79 = .ok (.iload_n 2, 1) := by decide +kernel
theorem dX8_holdsFor_80 : decode cX8_holdsFor 80 = .ok (.iaload, 1) := by decide +kernel
theorem dX8_holdsFor_81 : decode cX8_holdsFor 81 = .ok (.isub, 1) := by decide +kernel
theorem dX8_holdsFor_82 : decode cX8_holdsFor 82 = .ok (.goto 4, 3) := by decide +kernel
theorem dX8_holdsFor_85 : decode cX8_holdsFor 85 = .ok (.iconst 0, 1) := by decide +kernel
theorem dX8_holdsFor_86 : decode cX8_holdsFor 86 = .ok (.iastore, 1) := by decide +kernel
theorem dX8_holdsFor_87 : decode cX8_holdsFor 87 = .ok (.aload_n 0, 1) := by decide +kernel
theorem dX8_holdsFor_88 : decode cX8_holdsFor 88 = .ok (.getfield 66, 3) := by decide +kernel
theorem dX8_holdsFor_91 : decode cX8_holdsFor 91 = .ok (.iconst 2, 1) := by decide +kernel
theorem dX8_holdsFor_92 : decode cX8_holdsFor 92 = .ok (.aload_n 0, 1) := by decide +kernel
theorem dX8_holdsFor_93 : decode cX8_holdsFor 93 = .ok (.getfield 31, 3) := by decide +kernel
theorem dX8_holdsFor_96 : decode cX8_holdsFor 96 = .ok (.iload_n 3, 1) := by decide +kernel
theorem dX8_holdsFor_97 : decode cX8_holdsFor 97 = .ok (.iaload, 1) := by decide +kernel
theorem dX8_holdsFor_98 : decode cX8_holdsFor 98 = .ok (.iastore, 1) := by decide +kernel
theorem dX8_holdsFor_99 : decode cX8_holdsFor 99 = .ok (.aload_n 0, 1) := by decide +kernel
theorem dX8_holdsFor_100 : decode cX8_holdsFor 100 = .ok (.getfield 66, 3) := by decide +kernel
theorem dX8_holdsFor_103 : decode cX8_holdsFor 103 = .ok (.iconst 3, 1) := by decide +kernel
theorem dX8_holdsFor_104 : decode cX8_holdsFor 104 = .ok (.aload_n 0, 1) := by decide +kernel
theorem dX8_holdsFor_105 : decode cX8_holdsFor 105 = .ok (.getfield 28, 3) := by decide +kernel
theorem dX8_holdsFor_108 : decode cX8_holdsFor 108 = .ok (.iload_n 3, 1) := by decide +kernel
theorem dX8_holdsFor_109 : decode cX8_holdsFor 109 = .ok (.iaload, 1) := by decide +kernel
theorem dX8_holdsFor_110 : decode cX8_holdsFor 110 = .ok (.iastore, 1) := by decide +kernel
theorem dX8_holdsFor_111 : decode cX8_holdsFor 111 = .ok (.aload_n 0, 1) := by decide +kernel
theorem dX8_holdsFor_112 : decode cX8_holdsFor 112 = .ok (.getfield 66, 3) := by decide +kernel
theorem dX8_holdsFor_115 : decode cX8_holdsFor 115 = .ok (.iconst 4, 1) := by decide +kernel
theorem dX8_holdsFor_116 : decode cX8_holdsFor 116 = .ok (.iload 6, 2) := by decide +kernel
theorem dX8_holdsFor_118 : decode cX8_holdsFor 118 = .ok (.iastore, 1) := by decide +kernel
theorem dX8_holdsFor_119 : decode cX8_holdsFor 119 = .ok (.aload_n 0, 1) := by decide +kernel
theorem dX8_holdsFor_120 : decode cX8_holdsFor 120 = .ok (.getfield 66, 3) := by decide +kernel
theorem dX8_holdsFor_123 : decode cX8_holdsFor 123 = .ok (.iconst 5, 1) := by decide +kernel
theorem dX8_holdsFor_124 : decode cX8_holdsFor 124 = .ok (.iload_n 3, 1) := by decide +kernel
theorem dX8_holdsFor_125 : decode cX8_holdsFor 125 = .ok (.iastore, 1) := by decide +kernel
theorem dX8_holdsFor_126 : decode cX8_holdsFor 126 = .ok (.aload_n 0, 1) := by decide +kernel
theorem dX8_holdsFor_127 : decode cX8_holdsFor 127 = .ok (.iconst 0, 1) := by decide +kernel
theorem dX8_holdsFor_128 : decode cX8_holdsFor 128 = .ok (.invokevirtual 251, 3) := by decide +kernel
theorem dX8_holdsFor_131 : decode cX8_holdsFor 131 = .ok (.ifCond .eq 7, 3) := by decide +kernel
theorem dX8_holdsFor_134 : decode cX8_holdsFor 134 = .ok (.iconst 1, 1) := by decide +kernel
theorem dX8_holdsFor_135 : decode cX8_holdsFor 135 = .ok (.goto 4, 3) := by decide +kernel
theorem dX8_holdsFor_138 : decode cX8_holdsFor 138 = .ok (.iconst 0, 1) := by decide +kernel
theorem dX8_holdsFor_139 : decode cX8_holdsFor 139 = .ok (.ireturn, 1) := by decide +kernel
theorem dX8_findKnown_0 : decode cX8_findKnown 0 = .ok (.iconst 0, 1) := by decide +kernel
theorem dX8_findKnown_1 : decode cX8_findKnown 1 = .ok (.istore_n 3, 1) := by decide +kernel
theorem dX8_findKnown_2 : decode cX8_findKnown 2 = .ok (.iload_n 3, 1) := by decide +kernel
theorem dX8_findKnown_3 : decode cX8_findKnown 3 = .ok (.aload_n 0, 1) := by decide +kernel
theorem dX8_findKnown_4 : decode cX8_findKnown 4 = .ok (.getfield 111, 3) := by decide +kernel
theorem dX8_findKnown_7 : decode cX8_findKnown 7 = .ok (.if_icmp .ge 18, 3) := by decide +kernel
theorem dX8_findKnown_10 : decode cX8_findKnown 10 = .ok (.aload_n 0, 1) := by decide +kernel
theorem dX8_findKnown_11 : decode cX8_findKnown 11 = .ok (.getfield 72, 3) := by decide +kernel
theorem dX8_findKnown_14 : decode cX8_findKnown 14 = .ok (.iload_n 3, 1) := by decide +kernel
theorem dX8_findKnown_15 : decode cX8_findKnown 15 = .ok (.iconst 1, 1) := by decide +kernel
theorem dX8_findKnown_16 : decode cX8_findKnown 16 = .ok (.iload_n 3, 1) := by decide +kernel
theorem dX8_findKnown_17 : decode cX8_findKnown 17 = .ok (.ishl, 1) := by decide +kernel
theorem dX8_findKnown_18 : decode cX8_findKnown 18 = .ok (.iastore, 1) := by decide +kernel
theorem dX8_findKnown_19 : decode cX8_findKnown 19 = .ok (.iinc 3 1, 3) := by decide +kernel
theorem dX8_findKnown_22 : decode cX8_findKnown 22 = .ok (.goto (-20), 3) := by decide +kernel
theorem dX8_findKnown_25 : decode cX8_findKnown 25 = .ok (.iconst 0, 1) := by decide +kernel
theorem dX8_findKnown_26 : decode cX8_findKnown 26 = .ok (.istore_n 3, 1) := by decide +kernel
theorem dX8_findKnown_27 : decode cX8_findKnown 27 = .ok (.iload_n 3, 1) := by decide +kernel
theorem dX8_findKnown_28 : decode cX8_findKnown 28 = .ok (.aload_n 0, 1) := by decide +kernel
theorem dX8_findKnown_29 : decode cX8_findKnown 29 = .ok (.getfield 141, 3) := by decide +kernel
theorem dX8_findKnown_32 : decode cX8_findKnown 32 = .ok (.if_icmp .ge 47, 3) := by decide +kernel
theorem dX8_findKnown_35 : decode cX8_findKnown 35 = .ok (.aload_n 0, 1) := by decide +kernel
theorem dX8_findKnown_36 : decode cX8_findKnown 36 = .ok (.getfield 75, 3) := by decide +kernel
theorem dX8_findKnown_39 : decode cX8_findKnown 39 = .ok (.iload_n 3, 1) := by decide +kernel
theorem dX8_findKnown_40 : decode cX8_findKnown 40 = .ok (.aload_n 0, 1) := by decide +kernel
theorem dX8_findKnown_41 : decode cX8_findKnown 41 = .ok (.getfield 25, 3) := by decide +kernel
theorem dX8_findKnown_44 : decode cX8_findKnown 44 = .ok (.iload_n 3, 1) := by decide +kernel
theorem dX8_findKnown_45 : decode cX8_findKnown 45 = .ok (.iaload, 1) := by decide +kernel
theorem dX8_findKnown_46 : decode cX8_findKnown 46 = .ok (.iload_n 1, 1) := by decide +kernel
theorem dX8_findKnown_47 : decode cX8_findKnown 47 = .ok (.if_icmp .gt 20, 3) := by decide +kernel
theorem dX8_findKnown_50 : decode cX8_findKnown 50 = .ok (.iload_n 2, 1) := by decide +kernel
theorem dX8_findKnown_51 : decode cX8_findKnown 51 = .ok (.iload_n 3, 1) := by decide +kernel
theorem dX8_findKnown_52 : decode cX8_findKnown 52 = .ok (.ishr, 1) := by decide +kernel
theorem dX8_findKnown_53 : decode cX8_findKnown 53 = .ok (.iconst 1, 1) := by decide +kernel
theorem dX8_findKnown_54 : decode cX8_findKnown 54 = .ok (.iand, 1) := by decide +kernel
theorem dX8_findKnown_55 : decode cX8_findKnown 55 = .ok (.iconst 1, 1) := by decide +kernel
theorem dX8_findKnown_56 : decode cX8_findKnown 56 = .ok (.if_icmp .eq 11, 3) := by decide +kernel
theorem dX8_findKnown_59 : decode cX8_findKnown 59 = .ok (.aload_n 0, 1) := by decide +kernel
theorem dX8_findKnown_60 : decode cX8_findKnown 60 = .ok (.iload_n 3, 1) := by decide +kernel
theorem dX8_findKnown_61 : decode cX8_findKnown 61 = .ok (.invokevirtual 178, 3) := by decide +kernel
theorem dX8_findKnown_64 : decode cX8_findKnown 64 = .ok (.ifCond .ne 7, 3) := by decide +kernel
theorem dX8_findKnown_67 : decode cX8_findKnown 67 = .ok (.iconst 1, 1) := by decide +kernel
theorem dX8_findKnown_68 : decode cX8_findKnown 68 = .ok (.goto 4, 3) := by decide +kernel
theorem dX8_findKnown_71 : decode cX8_findKnown 71 = .ok (.iconst 0, 1) := by decide +kernel
theorem dX8_findKnown_72 : decode cX8_findKnown 72 = .ok (.bastore, 1) := by decide +kernel
theorem dX8_findKnown_73 : decode cX8_findKnown 73 = .ok (.iinc 3 1, 3) := by decide +kernel
theorem dX8_findKnown_76 : decode cX8_findKnown 76 = .ok (.goto (-49), 3) := by decide +kernel
theorem dX8_findKnown_79 : decode cX8_findKnown 79 = .ok (.iconst 1, 1) := by decide +kernel
theorem dX8_findKnown_80 : decode cX8_findKnown 80 = .ok (.istore_n 3, 1) := by decide +kernel
theorem dX8_findKnown_81 : decode cX8_findKnown 81 = .ok (.iload_n 3, 1) := by decide +kernel
theorem dX8_findKnown_82 : decode cX8_findKnown 82 = .ok (.ifCond .eq 178, 3) := by decide +kernel
theorem dX8_findKnown_85 : decode cX8_findKnown 85 = .ok (.iconst (-1), 1) := by decide +kernel
theorem dX8_findKnown_86 : decode cX8_findKnown 86 = .ok (.istore 4, 2) := by decide +kernel
theorem dX8_findKnown_88 : decode cX8_findKnown 88 = .ok (.iconst 0, 1) := by decide +kernel
theorem dX8_findKnown_89 : decode cX8_findKnown 89 = .ok (.istore 5, 2) := by decide +kernel
theorem dX8_findKnown_91 : decode cX8_findKnown 91 = .ok (.iload 5, 2) := by decide +kernel
theorem dX8_findKnown_93 : decode cX8_findKnown 93 = .ok (.aload_n 0, 1) := by decide +kernel
theorem dX8_findKnown_94 : decode cX8_findKnown 94 = .ok (.getfield 141, 3) := by decide +kernel
theorem dX8_findKnown_97 : decode cX8_findKnown 97 = .ok (.if_icmp .ge 45, 3) := by decide +kernel
theorem dX8_findKnown_100 : decode cX8_findKnown 100 = .ok (.aload_n 0, 1) := by decide +kernel
theorem dX8_findKnown_101 : decode cX8_findKnown 101 = .ok (.getfield 75, 3) := by decide +kernel
theorem dX8_findKnown_104 : decode cX8_findKnown 104 = .ok (.iload 5, 2) := by decide +kernel
theorem dX8_findKnown_106 : decode cX8_findKnown 106 = .ok (.baload, 1) := by decide +kernel
theorem dX8_findKnown_107 : decode cX8_findKnown 107 = .ok (.ifCond .ne 29, 3) := by decide +kernel
theorem dX8_findKnown_110 : decode cX8_findKnown 110 = .ok (.iload 4, 2) := by decide +kernel
theorem dX8_findKnown_112 : decode cX8_findKnown 112 = .ok (.ifCond .lt 20, 3) := by decide +kernel
theorem dX8_findKnown_115 : decode cX8_findKnown 115 = .ok (.aload_n 0, 1) := by decide +kernel
theorem dX8_findKnown_116 : decode cX8_findKnown 116 = .ok (.getfield 25, 3) := by decide +kernel
theorem dX8_findKnown_119 : decode cX8_findKnown 119 = .ok (.iload 5, 2) := by decide +kernel
theorem dX8_findKnown_121 : decode cX8_findKnown 121 = .ok (.iaload, 1) := by decide +kernel
theorem dX8_findKnown_122 : decode cX8_findKnown 122 = .ok (.aload_n 0, 1) := by decide +kernel
theorem dX8_findKnown_123 : decode cX8_findKnown 123 = .ok (.getfield 25, 3) := by decide +kernel
theorem dX8_findKnown_126 : decode cX8_findKnown 126 = .ok (.iload 4, 2) := by decide +kernel
theorem dX8_findKnown_128 : decode cX8_findKnown 128 = .ok (.iaload, 1) := by decide +kernel
theorem dX8_findKnown_129 : decode cX8_findKnown 129 = .ok (.if_icmp .ge 7, 3) := by decide +kernel
theorem dX8_findKnown_132 : decode cX8_findKnown 132 = .ok (.iload 5, 2) := by decide +kernel
theorem dX8_findKnown_134 : decode cX8_findKnown 134 = .ok (.istore 4, 2) := by decide +kernel
theorem dX8_findKnown_136 : decode cX8_findKnown 136 = .ok (.iinc 5 1, 3) := by decide +kernel
theorem dX8_findKnown_139 : decode cX8_findKnown 139 = .ok (.goto (-48), 3) := by decide +kernel
theorem dX8_findKnown_142 : decode cX8_findKnown 142 = .ok (.iload 4, 2) := by decide +kernel
theorem dX8_findKnown_144 : decode cX8_findKnown 144 = .ok (.ifCond .lt 7, 3) := by decide +kernel
theorem dX8_findKnown_147 : decode cX8_findKnown 147 = .ok (.iconst 1, 1) := by decide +kernel
theorem dX8_findKnown_148 : decode cX8_findKnown 148 = .ok (.goto 4, 3) := by decide +kernel
theorem dX8_findKnown_151 : decode cX8_findKnown 151 = .ok (.iconst 0, 1) := by decide +kernel
theorem dX8_findKnown_152 : decode cX8_findKnown 152 = .ok (.istore_n 3, 1) := by decide +kernel
theorem dX8_findKnown_153 : decode cX8_findKnown 153 = .ok (.iload_n 3, 1) := by decide +kernel
theorem dX8_findKnown_154 : decode cX8_findKnown 154 = .ok (.ifCond .ne 6, 3) := by decide +kernel
theorem dX8_findKnown_157 : decode cX8_findKnown 157 = .ok (.goto (-76), 3) := by decide +kernel
theorem dX8_findKnown_160 : decode cX8_findKnown 160 = .ok (.aload_n 0, 1) := by decide +kernel
theorem dX8_findKnown_161 : decode cX8_findKnown 161 = .ok (.getfield 75, 3) := by decide +kernel
theorem dX8_findKnown_164 : decode cX8_findKnown 164 = .ok (.iload 4, 2) := by decide +kernel
theorem dX8_findKnown_166 : decode cX8_findKnown 166 = .ok (.iconst 1, 1) := by decide +kernel
theorem dX8_findKnown_167 : decode cX8_findKnown 167 = .ok (.bastore, 1) := by decide +kernel
theorem dX8_findKnown_168 : decode cX8_findKnown 168 = .ok (.aload_n 0, 1) := by decide +kernel
theorem dX8_findKnown_169 : decode cX8_findKnown 169 = .ok (.getfield 19, 3) := by decide +kernel
theorem dX8_findKnown_172 : decode cX8_findKnown 172 = .ok (.iload 4, 2) := by decide +kernel
theorem dX8_findKnown_174 : decode cX8_findKnown 174 = .ok (.iaload, 1) := by decide +kernel
theorem dX8_findKnown_175 : decode cX8_findKnown 175 = .ok (.istore 5, 2) := by decide +kernel
theorem dX8_findKnown_177 : decode cX8_findKnown 177 = .ok (.aload_n 0, 1) := by decide +kernel
theorem dX8_findKnown_178 : decode cX8_findKnown 178 = .ok (.getfield 22, 3) := by decide +kernel
theorem dX8_findKnown_181 : decode cX8_findKnown 181 = .ok (.iload 4, 2) := by decide +kernel
theorem dX8_findKnown_183 : decode cX8_findKnown 183 = .ok (.iaload, 1) := by decide +kernel
theorem dX8_findKnown_184 : decode cX8_findKnown 184 = .ok (.istore 6, 2) := by decide +kernel
theorem dX8_findKnown_186 : decode cX8_findKnown 186 = .ok (.aload_n 0, 1) := by decide +kernel
theorem dX8_findKnown_187 : decode cX8_findKnown 187 = .ok (.getfield 72, 3) := by decide +kernel
theorem dX8_findKnown_190 : decode cX8_findKnown 190 = .ok (.iload 5, 2) := by decide +kernel
theorem dX8_findKnown_192 : decode cX8_findKnown 192 = .ok (.iaload, 1) := by decide +kernel
theorem dX8_findKnown_193 : decode cX8_findKnown 193 = .ok (.aload_n 0, 1) := by decide +kernel
theorem dX8_findKnown_194 : decode cX8_findKnown 194 = .ok (.getfield 72, 3) := by decide +kernel
theorem dX8_findKnown_197 : decode cX8_findKnown 197 = .ok (.iload 6, 2) := by decide +kernel
theorem dX8_findKnown_199 : decode cX8_findKnown 199 = .ok (.iaload, 1) := by decide +kernel
theorem dX8_findKnown_200 : decode cX8_findKnown 200 = .ok (.ior, 1) := by decide +kernel
theorem dX8_findKnown_201 : decode cX8_findKnown 201 = .ok (.istore 7, 2) := by decide +kernel
theorem dX8_findKnown_203 : decode cX8_findKnown 203 = .ok (.aload_n 0, 1) := by decide +kernel
theorem dX8_findKnown_204 : decode cX8_findKnown 204 = .ok (.getfield 72, 3) := by decide +kernel
theorem dX8_findKnown_207 : decode cX8_findKnown 207 = .ok (.iload 5, 2) := by decide +kernel
theorem dX8_findKnown_209 : decode cX8_findKnown 209 = .ok (.dup2, 1) := by decide +kernel
theorem dX8_findKnown_210 : decode cX8_findKnown 210 = .ok (.iaload, 1) := by decide +kernel
theorem dX8_findKnown_211 : decode cX8_findKnown 211 = .ok (.aload_n 0, 1) := by decide +kernel
theorem dX8_findKnown_212 : decode cX8_findKnown 212 = .ok (.getfield 144, 3) := by decide +kernel
theorem dX8_findKnown_215 : decode cX8_findKnown 215 = .ok (.iconst 1, 1) := by decide +kernel
theorem dX8_findKnown_216 : decode cX8_findKnown 216 = .ok (.if_icmp .ne 8, 3) := by decide +kernel
theorem dX8_findKnown_219 : decode cX8_findKnown 219 = .ok (.iload 7, 2) := by decide +kernel
theorem dX8_findKnown_221 : decode cX8_findKnown 221 = .ok (.goto 7, 3) := by decide +kernel
theorem dX8_findKnown_224 : decode cX8_findKnown 224 = .ok (.iconst 1, 1) := by decide +kernel
theorem dX8_findKnown_225 : decode cX8_findKnown 225 = .ok (.iload 6, 2) := by decide +kernel
theorem dX8_findKnown_227 : decode cX8_findKnown 227 = .ok (.ishl, 1) := by decide +kernel
theorem dX8_findKnown_228 : decode cX8_findKnown 228 = .ok (.ior, 1) := by decide +kernel
theorem dX8_findKnown_229 : decode cX8_findKnown 229 = .ok (.iastore, 1) := by decide +kernel
theorem dX8_findKnown_230 : decode cX8_findKnown 230 = .ok (.aload_n 0, 1) := by decide +kernel
theorem dX8_findKnown_231 : decode cX8_findKnown 231 = .ok (.getfield 72, 3) := by decide +kernel
theorem dX8_findKnown_234 : decode cX8_findKnown 234 = .ok (.iload 6, 2) := by decide +kernel
theorem dX8_findKnown_236 : decode cX8_findKnown 236 = .ok (.dup2, 1) := by decide +kernel
theorem dX8_findKnown_237 : decode cX8_findKnown 237 = .ok (.iaload, 1) := by decide +kernel
theorem dX8_findKnown_238 : decode cX8_findKnown 238 = .ok (.aload_n 0, 1) := by decide +kernel
theorem dX8_findKnown_239 : decode cX8_findKnown 239 = .ok (.getfield 144, 3) := by decide +kernel
theorem dX8_findKnown_242 : decode cX8_findKnown 242 = .ok (.iconst 1, 1) := by decide +kernel
theorem dX8_findKnown_243 : decode cX8_findKnown 243 = .ok (.if_icmp .ne 8, 3) := by decide +kernel
theorem dX8_findKnown_246 : decode cX8_findKnown 246 = .ok (.iload 7, 2) := by decide +kernel
theorem dX8_findKnown_248 : decode cX8_findKnown 248 = .ok (.goto 7, 3) := by decide +kernel
theorem dX8_findKnown_251 : decode cX8_findKnown 251 = .ok (.iconst 1, 1) := by decide +kernel
theorem dX8_findKnown_252 : decode cX8_findKnown 252 = .ok (.iload 5, 2) := by decide +kernel
theorem dX8_findKnown_254 : decode cX8_findKnown 254 = .ok (.ishl, 1) := by decide +kernel
theorem dX8_findKnown_255 : decode cX8_findKnown 255 = .ok (.ior, 1) := by decide +kernel
theorem dX8_findKnown_256 : decode cX8_findKnown 256 = .ok (.iastore, 1) := by decide +kernel
theorem dX8_findKnown_257 : decode cX8_findKnown 257 = .ok (.goto (-176), 3) := by decide +kernel
theorem dX8_findKnown_260 : decode cX8_findKnown 260 = .ok (.return_, 1) := by decide +kernel
theorem dX8_knows_0 : decode cX8_knows 0 = .ok (.aload_n 0, 1) := by decide +kernel
theorem dX8_knows_1 : decode cX8_knows 1 = .ok (.iload_n 1, 1) := by decide +kernel
theorem dX8_knows_2 : decode cX8_knows 2 = .ok (.invokevirtual 135, 3) := by decide +kernel
theorem dX8_knows_5 : decode cX8_knows 5 = .ok (.ifCond .eq 10, 3) := by decide +kernel
theorem dX8_knows_8 : decode cX8_knows 8 = .ok (.iload_n 2, 1) := by decide +kernel
theorem dX8_knows_9 : decode cX8_knows 9 = .ok (.invokestatic 118, 3) := by decide +kernel
theorem dX8_knows_12 : decode cX8_knows 12 = .ok (.ifCond .ne 5, 3) := by decide +kernel
theorem dX8_knows_15 : decode cX8_knows 15 = .ok (.iconst (-1), 1) := by decide +kernel
theorem dX8_knows_16 : decode cX8_knows 16 = .ok (.ireturn, 1) := by decide +kernel
theorem dX8_knows_17 : decode cX8_knows 17 = .ok (.aload_n 0, 1) := by decide +kernel
theorem dX8_knows_18 : decode cX8_knows 18 = .ok (.iload_n 2, 1) := by decide +kernel
theorem dX8_knows_19 : decode cX8_knows 19 = .ok (.iconst 0, 1) := by decide +kernel
theorem dX8_knows_20 : decode cX8_knows 20 = .ok (.invokevirtual 254, 3) := by decide +kernel
theorem dX8_knows_23 : decode cX8_knows 23 = .ok (.aload_n 0, 1) := by decide +kernel
theorem dX8_knows_24 : decode cX8_knows 24 = .ok (.getfield 72, 3) := by decide +kernel
theorem dX8_knows_27 : decode cX8_knows 27 = .ok (.iload_n 1, 1) := by decide +kernel
theorem dX8_knows_28 : decode cX8_knows 28 = .ok (.iaload, 1) := by decide +kernel
theorem dX8_knows_29 : decode cX8_knows 29 = .ok (.ireturn, 1) := by decide +kernel
theorem dX8_asNamed_0 : decode cX8_asNamed 0 = .ok (.iconst 0, 1) := by decide +kernel
theorem dX8_asNamed_1 : decode cX8_asNamed 1 = .ok (.istore_n 1, 1) := by decide +kernel
theorem dX8_asNamed_2 : decode cX8_asNamed 2 = .ok (.iload_n 1, 1) := by decide +kernel
theorem dX8_asNamed_3 : decode cX8_asNamed 3 = .ok (.bipush 12, 2) := by decide +kernel
theorem dX8_asNamed_5 : decode cX8_asNamed 5 = .ok (.if_icmp .ge 33, 3) := by decide +kernel
theorem dX8_asNamed_8 : decode cX8_asNamed 8 = .ok (.aload_n 0, 1) := by decide +kernel
theorem dX8_asNamed_9 : decode cX8_asNamed 9 = .ok (.getfield 79, 3) := by decide +kernel
theorem dX8_asNamed_12 : decode cX8_asNamed 12 = .ok (.iload_n 1, 1) := by decide +kernel
theorem dX8_asNamed_13 : decode cX8_asNamed 13 = .ok (.iload_n 1, 1) := by decide +kernel
theorem dX8_asNamed_14 : decode cX8_asNamed 14 = .ok (.aload_n 0, 1) := by decide +kernel
theorem dX8_asNamed_15 : decode cX8_asNamed 15 = .ok (.getfield 111, 3) := by decide +kernel
theorem dX8_asNamed_18 : decode cX8_asNamed 18 = .ok (.if_icmp .ge 12, 3) := by decide +kernel
theorem dX8_asNamed_21 : decode cX8_asNamed 21 = .ok (.aload_n 0, 1) := by decide +kernel
theorem dX8_asNamed_22 : decode cX8_asNamed 22 = .ok (.getfield 16, 3) := by decide +kernel
theorem dX8_asNamed_25 : decode cX8_asNamed 25 = .ok (.iload_n 1, 1) := by decide +kernel
theorem dX8_asNamed_26 : decode cX8_asNamed 26 = .ok (.iaload, 1) := by decide +kernel
theorem dX8_asNamed_27 : decode cX8_asNamed 27 = .ok (.goto 4, 3) := by decide +kernel
theorem dX8_asNamed_30 : decode cX8_asNamed 30 = .ok (.iconst (-1), 1) := by decide +kernel
theorem dX8_asNamed_31 : decode cX8_asNamed 31 = .ok (.iastore, 1) := by decide +kernel
theorem dX8_asNamed_32 : decode cX8_asNamed 32 = .ok (.iinc 1 1, 3) := by decide +kernel
theorem dX8_asNamed_35 : decode cX8_asNamed 35 = .ok (.goto (-33), 3) := by decide +kernel
theorem dX8_asNamed_38 : decode cX8_asNamed 38 = .ok (.return_, 1) := by decide +kernel
theorem dX8_everybody_0 : decode cX8_everybody 0 = .ok (.iconst 1, 1) := by decide +kernel
theorem dX8_everybody_1 : decode cX8_everybody 1 = .ok (.aload_n 0, 1) := by decide +kernel
theorem dX8_everybody_2 : decode cX8_everybody 2 = .ok (.getfield 111, 3) := by decide +kernel
theorem dX8_everybody_5 : decode cX8_everybody 5 = .ok (.ishl, 1) := by decide +kernel
theorem dX8_everybody_6 : decode cX8_everybody 6 = .ok (.iconst 1, 1) := by decide +kernel
theorem dX8_everybody_7 : decode cX8_everybody 7 = .ok (.isub, 1) := by decide +kernel
theorem dX8_everybody_8 : decode cX8_everybody 8 = .ok (.ireturn, 1) := by decide +kernel
theorem dX8_bears_0 : decode cX8_bears 0 = .ok (.iload 4, 2) := by decide +kernel
theorem dX8_bears_2 : decode cX8_bears 2 = .ok (.iload_n 1, 1) := by decide +kernel
theorem dX8_bears_3 : decode cX8_bears 3 = .ok (.ishr, 1) := by decide +kernel
theorem dX8_bears_4 : decode cX8_bears 4 = .ok (.iconst 1, 1) := by decide +kernel
theorem dX8_bears_5 : decode cX8_bears 5 = .ok (.iand, 1) := by decide +kernel
theorem dX8_bears_6 : decode cX8_bears 6 = .ok (.iconst 1, 1) := by decide +kernel
theorem dX8_bears_7 : decode cX8_bears 7 = .ok (.if_icmp .ne 27, 3) := by decide +kernel
theorem dX8_bears_10 : decode cX8_bears 10 = .ok (.aload_n 0, 1) := by decide +kernel
theorem dX8_bears_11 : decode cX8_bears 11 = .ok (.getfield 79, 3) := by decide +kernel
theorem dX8_bears_14 : decode cX8_bears 14 = .ok (.iload_n 1, 1) := by decide +kernel
theorem dX8_bears_15 : decode cX8_bears 15 = .ok (.iaload, 1) := by decide +kernel
theorem dX8_bears_16 : decode cX8_bears 16 = .ok (.iload_n 2, 1) := by decide +kernel
theorem dX8_bears_17 : decode cX8_bears 17 = .ok (.if_icmp .ne 17, 3) := by decide +kernel
theorem dX8_bears_20 : decode cX8_bears 20 = .ok (.aload_n 0, 1) := by decide +kernel
theorem dX8_bears_21 : decode cX8_bears 21 = .ok (.getfield 7, 3) := by decide +kernel
theorem dX8_bears_24 : decode cX8_bears 24 = .ok (.iload_n 1, 1) := by decide +kernel
theorem dX8_bears_25 : decode cX8_bears 25 = .ok (.iaload, 1) := by decide +kernel
theorem dX8_bears_26 : decode cX8_bears 26 = .ok (.iload_n 3, 1) := by decide +kernel
theorem dX8_bears_27 : decode cX8_bears 27 = .ok (.if_icmp .gt 7, 3) := by decide +kernel
theorem dX8_bears_30 : decode cX8_bears 30 = .ok (.iconst 1, 1) := by decide +kernel
theorem dX8_bears_31 : decode cX8_bears 31 = .ok (.goto 4, 3) := by decide +kernel
theorem dX8_bears_34 : decode cX8_bears 34 = .ok (.iconst 0, 1) := by decide +kernel
theorem dX8_bears_35 : decode cX8_bears 35 = .ok (.ireturn, 1) := by decide +kernel
theorem dX8_doesHold_0 : decode cX8_doesHold 0 = .ok (.aload_n 0, 1) := by decide +kernel
theorem dX8_doesHold_1 : decode cX8_doesHold 1 = .ok (.iload_n 1, 1) := by decide +kernel
theorem dX8_doesHold_2 : decode cX8_doesHold 2 = .ok (.iload_n 3, 1) := by decide +kernel
theorem dX8_doesHold_3 : decode cX8_doesHold 3 = .ok (.invokevirtual 138, 3) := by decide +kernel
theorem dX8_doesHold_6 : decode cX8_doesHold 6 = .ok (.ifCond .ne 5, 3) := by decide +kernel
theorem dX8_doesHold_9 : decode cX8_doesHold 9 = .ok (.iconst 0, 1) := by decide +kernel
theorem dX8_doesHold_10 : decode cX8_doesHold 10 = .ok (.ireturn, 1) := by decide +kernel
theorem dX8_doesHold_11 : decode cX8_doesHold 11 = .ok (.iconst 0, 1) := by decide +kernel
theorem dX8_doesHold_12 : decode cX8_doesHold 12 = .ok (.istore 5, 2) := by decide +kernel
theorem dX8_doesHold_14 : decode cX8_doesHold 14 = .ok (.iload 5, 2) := by decide +kernel
theorem dX8_doesHold_16 : decode cX8_doesHold 16 = .ok (.aload_n 0, 1) := by decide +kernel
theorem dX8_doesHold_17 : decode cX8_doesHold 17 = .ok (.getfield 111, 3) := by decide +kernel
theorem dX8_doesHold_20 : decode cX8_doesHold 20 = .ok (.if_icmp .ge 51, 3) := by decide +kernel
theorem dX8_doesHold_23 : decode cX8_doesHold 23 = .ok (.aload_n 0, 1) := by decide +kernel
theorem dX8_doesHold_24 : decode cX8_doesHold 24 = .ok (.iload 5, 2) := by decide +kernel
theorem dX8_doesHold_26 : decode cX8_doesHold 26 = .ok (.iload_n 2, 1) := by decide +kernel
theorem dX8_doesHold_27 : decode cX8_doesHold 27 = .ok (.iload_n 3, 1) := by decide +kernel
theorem dX8_doesHold_28 : decode cX8_doesHold 28 = .ok (.iload 4, 2) := by decide +kernel
theorem dX8_doesHold_30 : decode cX8_doesHold 30 = .ok (.invokevirtual 257, 3) := by decide +kernel
theorem dX8_doesHold_33 : decode cX8_doesHold 33 = .ok (.ifCond .eq 32, 3) := by decide +kernel
theorem dX8_doesHold_36 : decode cX8_doesHold 36 = .ok (.aload_n 0, 1) := by decide +kernel
theorem dX8_doesHold_37 : decode cX8_doesHold 37 = .ok (.getfield 72, 3) := by decide +kernel
theorem dX8_doesHold_40 : decode cX8_doesHold 40 = .ok (.iload_n 1, 1) := by decide +kernel
theorem dX8_doesHold_41 : decode cX8_doesHold 41 = .ok (.iaload, 1) := by decide +kernel
theorem dX8_doesHold_42 : decode cX8_doesHold 42 = .ok (.iload 5, 2) := by decide +kernel
theorem dX8_doesHold_44 : decode cX8_doesHold 44 = .ok (.ishr, 1) := by decide +kernel
theorem dX8_doesHold_45 : decode cX8_doesHold 45 = .ok (.iconst 1, 1) := by decide +kernel
theorem dX8_doesHold_46 : decode cX8_doesHold 46 = .ok (.iand, 1) := by decide +kernel
theorem dX8_doesHold_47 : decode cX8_doesHold 47 = .ok (.iconst 1, 1) := by decide +kernel
theorem dX8_doesHold_48 : decode cX8_doesHold 48 = .ok (.if_icmp .ne 17, 3) := by decide +kernel
theorem dX8_doesHold_51 : decode cX8_doesHold 51 = .ok (.aload_n 0, 1) := by decide +kernel
theorem dX8_doesHold_52 : decode cX8_doesHold 52 = .ok (.iload_n 1, 1) := by decide +kernel
theorem dX8_doesHold_53 : decode cX8_doesHold 53 = .ok (.iload 5, 2) := by decide +kernel
theorem dX8_doesHold_55 : decode cX8_doesHold 55 = .ok (.iload_n 2, 1) := by decide +kernel
theorem dX8_doesHold_56 : decode cX8_doesHold 56 = .ok (.iload_n 3, 1) := by decide +kernel
theorem dX8_doesHold_57 : decode cX8_doesHold 57 = .ok (.invokevirtual 261, 3) := by decide +kernel
theorem dX8_doesHold_60 : decode cX8_doesHold 60 = .ok (.ifCond .eq 5, 3) := by decide +kernel
theorem dX8_doesHold_63 : decode cX8_doesHold 63 = .ok (.iconst 1, 1) := by decide +kernel
theorem dX8_doesHold_64 : decode cX8_doesHold 64 = .ok (.ireturn, 1) := by decide +kernel
theorem dX8_doesHold_65 : decode cX8_doesHold 65 = .ok (.iinc 5 1, 3) := by decide +kernel
theorem dX8_doesHold_68 : decode cX8_doesHold 68 = .ok (.goto (-54), 3) := by decide +kernel
theorem dX8_doesHold_71 : decode cX8_doesHold 71 = .ok (.iconst 0, 1) := by decide +kernel
theorem dX8_doesHold_72 : decode cX8_doesHold 72 = .ok (.ireturn, 1) := by decide +kernel
theorem dX8_holders_0 : decode cX8_holders 0 = .ok (.iconst 0, 1) := by decide +kernel
theorem dX8_holders_1 : decode cX8_holders 1 = .ok (.istore 4, 2) := by decide +kernel
theorem dX8_holders_3 : decode cX8_holders 3 = .ok (.iconst 0, 1) := by decide +kernel
theorem dX8_holders_4 : decode cX8_holders 4 = .ok (.istore 5, 2) := by decide +kernel
theorem dX8_holders_6 : decode cX8_holders 6 = .ok (.iload 5, 2) := by decide +kernel
theorem dX8_holders_8 : decode cX8_holders 8 = .ok (.aload_n 0, 1) := by decide +kernel
theorem dX8_holders_9 : decode cX8_holders 9 = .ok (.getfield 111, 3) := by decide +kernel
theorem dX8_holders_12 : decode cX8_holders 12 = .ok (.if_icmp .ge 30, 3) := by decide +kernel
theorem dX8_holders_15 : decode cX8_holders 15 = .ok (.aload_n 0, 1) := by decide +kernel
theorem dX8_holders_16 : decode cX8_holders 16 = .ok (.iload 5, 2) := by decide +kernel
theorem dX8_holders_18 : decode cX8_holders 18 = .ok (.iload_n 1, 1) := by decide +kernel
theorem dX8_holders_19 : decode cX8_holders 19 = .ok (.iload_n 2, 1) := by decide +kernel
theorem dX8_holders_20 : decode cX8_holders 20 = .ok (.iload_n 3, 1) := by decide +kernel
theorem dX8_holders_21 : decode cX8_holders 21 = .ok (.invokevirtual 264, 3) := by decide +kernel
theorem dX8_holders_24 : decode cX8_holders 24 = .ok (.ifCond .eq 12, 3) := by decide +kernel
theorem dX8_holders_27 : decode cX8_holders 27 = .ok (.iload 4, 2) := by decide +kernel
theorem dX8_holders_29 : decode cX8_holders 29 = .ok (.iconst 1, 1) := by decide +kernel
theorem dX8_holders_30 : decode cX8_holders 30 = .ok (.iload 5, 2) := by decide +kernel
theorem dX8_holders_32 : decode cX8_holders 32 = .ok (.ishl, 1) := by decide +kernel
theorem dX8_holders_33 : decode cX8_holders 33 = .ok (.ior, 1) := by decide +kernel
theorem dX8_holders_34 : decode cX8_holders 34 = .ok (.istore 4, 2) := by decide +kernel
theorem dX8_holders_36 : decode cX8_holders 36 = .ok (.iinc 5 1, 3) := by decide +kernel
theorem dX8_holders_39 : decode cX8_holders 39 = .ok (.goto (-33), 3) := by decide +kernel
theorem dX8_holders_42 : decode cX8_holders 42 = .ok (.iload 4, 2) := by decide +kernel
theorem dX8_holders_44 : decode cX8_holders 44 = .ok (.ireturn, 1) := by decide +kernel
theorem dX8_isFamous_0 : decode cX8_isFamous 0 = .ok (.iconst 0, 1) := by decide +kernel
theorem dX8_isFamous_1 : decode cX8_isFamous 1 = .ok (.istore 4, 2) := by decide +kernel
theorem dX8_isFamous_3 : decode cX8_isFamous 3 = .ok (.iload 4, 2) := by decide +kernel
theorem dX8_isFamous_5 : decode cX8_isFamous 5 = .ok (.aload_n 0, 1) := by decide +kernel
theorem dX8_isFamous_6 : decode cX8_isFamous 6 = .ok (.getfield 111, 3) := by decide +kernel
theorem dX8_isFamous_9 : decode cX8_isFamous 9 = .ok (.if_icmp .ge 33, 3) := by decide +kernel
theorem dX8_isFamous_12 : decode cX8_isFamous 12 = .ok (.aload_n 0, 1) := by decide +kernel
theorem dX8_isFamous_13 : decode cX8_isFamous 13 = .ok (.getfield 31, 3) := by decide +kernel
theorem dX8_isFamous_16 : decode cX8_isFamous 16 = .ok (.iload_n 1, 1) := by decide +kernel
theorem dX8_isFamous_17 : decode cX8_isFamous 17 = .ok (.iaload, 1) := by decide +kernel
theorem dX8_isFamous_18 : decode cX8_isFamous 18 = .ok (.iconst 1, 1) := by decide +kernel
theorem dX8_isFamous_19 : decode cX8_isFamous 19 = .ok (.if_icmp .ne 17, 3) := by decide +kernel
theorem dX8_isFamous_22 : decode cX8_isFamous 22 = .ok (.aload_n 0, 1) := by decide +kernel
theorem dX8_isFamous_23 : decode cX8_isFamous 23 = .ok (.iload 4, 2) := by decide +kernel
theorem dX8_isFamous_25 : decode cX8_isFamous 25 = .ok (.iload_n 1, 1) := by decide +kernel
theorem dX8_isFamous_26 : decode cX8_isFamous 26 = .ok (.iload_n 2, 1) := by decide +kernel
theorem dX8_isFamous_27 : decode cX8_isFamous 27 = .ok (.iload_n 3, 1) := by decide +kernel
theorem dX8_isFamous_28 : decode cX8_isFamous 28 = .ok (.invokevirtual 257, 3) := by decide +kernel
theorem dX8_isFamous_31 : decode cX8_isFamous 31 = .ok (.ifCond .eq 5, 3) := by decide +kernel
theorem dX8_isFamous_34 : decode cX8_isFamous 34 = .ok (.iconst 1, 1) := by decide +kernel
theorem dX8_isFamous_35 : decode cX8_isFamous 35 = .ok (.ireturn, 1) := by decide +kernel
theorem dX8_isFamous_36 : decode cX8_isFamous 36 = .ok (.iinc 4 1, 3) := by decide +kernel
theorem dX8_isFamous_39 : decode cX8_isFamous 39 = .ok (.goto (-36), 3) := by decide +kernel
theorem dX8_isFamous_42 : decode cX8_isFamous 42 = .ok (.iconst 0, 1) := by decide +kernel
theorem dX8_isFamous_43 : decode cX8_isFamous 43 = .ok (.ireturn, 1) := by decide +kernel
theorem dX8_isHeld_0 : decode cX8_isHeld 0 = .ok (.aload_n 0, 1) := by decide +kernel
theorem dX8_isHeld_1 : decode cX8_isHeld 1 = .ok (.iload_n 1, 1) := by decide +kernel
theorem dX8_isHeld_2 : decode cX8_isHeld 2 = .ok (.iload_n 2, 1) := by decide +kernel
theorem dX8_isHeld_3 : decode cX8_isHeld 3 = .ok (.iload_n 3, 1) := by decide +kernel
theorem dX8_isHeld_4 : decode cX8_isHeld 4 = .ok (.invokevirtual 267, 3) := by decide +kernel
theorem dX8_isHeld_7 : decode cX8_isHeld 7 = .ok (.ifCond .ne 13, 3) := by decide +kernel
theorem dX8_isHeld_10 : decode cX8_isHeld 10 = .ok (.aload_n 0, 1) := by decide +kernel
theorem dX8_isHeld_11 : decode cX8_isHeld 11 = .ok (.iload_n 1, 1) := by decide +kernel
theorem dX8_isHeld_12 : decode cX8_isHeld 12 = .ok (.iload_n 2, 1) := by decide +kernel
theorem dX8_isHeld_13 : decode cX8_isHeld 13 = .ok (.iload_n 3, 1) := by decide +kernel
theorem dX8_isHeld_14 : decode cX8_isHeld 14 = .ok (.invokevirtual 270, 3) := by decide +kernel
theorem dX8_isHeld_17 : decode cX8_isHeld 17 = .ok (.ifCond .eq 7, 3) := by decide +kernel
theorem dX8_isHeld_20 : decode cX8_isHeld 20 = .ok (.iconst 1, 1) := by decide +kernel
theorem dX8_isHeld_21 : decode cX8_isHeld 21 = .ok (.goto 4, 3) := by decide +kernel
theorem dX8_isHeld_24 : decode cX8_isHeld 24 = .ok (.iconst 0, 1) := by decide +kernel
theorem dX8_isHeld_25 : decode cX8_isHeld 25 = .ok (.ireturn, 1) := by decide +kernel
theorem dX8_held_0 : decode cX8_held 0 = .ok (.iload_n 1, 1) := by decide +kernel
theorem dX8_held_1 : decode cX8_held 1 = .ok (.invokestatic 148, 3) := by decide +kernel
theorem dX8_held_4 : decode cX8_held 4 = .ok (.ifCond .eq 19, 3) := by decide +kernel
theorem dX8_held_7 : decode cX8_held 7 = .ok (.iload_n 2, 1) := by decide +kernel
theorem dX8_held_8 : decode cX8_held 8 = .ok (.invokestatic 118, 3) := by decide +kernel
theorem dX8_held_11 : decode cX8_held 11 = .ok (.ifCond .eq 12, 3) := by decide +kernel
theorem dX8_held_14 : decode cX8_held 14 = .ok (.iload_n 3, 1) := by decide +kernel
theorem dX8_held_15 : decode cX8_held 15 = .ok (.iconst 0, 1) := by decide +kernel
theorem dX8_held_16 : decode cX8_held 16 = .ok (.iconst 2, 1) := by decide +kernel
theorem dX8_held_17 : decode cX8_held 17 = .ok (.invokestatic 114, 3) := by decide +kernel
theorem dX8_held_20 : decode cX8_held 20 = .ok (.ifCond .ne 5, 3) := by decide +kernel
theorem dX8_held_23 : decode cX8_held 23 = .ok (.iconst (-1), 1) := by decide +kernel
theorem dX8_held_24 : decode cX8_held 24 = .ok (.ireturn, 1) := by decide +kernel
theorem dX8_held_25 : decode cX8_held 25 = .ok (.aload_n 0, 1) := by decide +kernel
theorem dX8_held_26 : decode cX8_held 26 = .ok (.invokevirtual 273, 3) := by decide +kernel
theorem dX8_held_29 : decode cX8_held 29 = .ok (.iload_n 3, 1) := by decide +kernel
theorem dX8_held_30 : decode cX8_held 30 = .ok (.iconst 2, 1) := by decide +kernel
theorem dX8_held_31 : decode cX8_held 31 = .ok (.if_icmp .ne 46, 3) := by decide +kernel
theorem dX8_held_34 : decode cX8_held 34 = .ok (.iload_n 2, 1) := by decide +kernel
theorem dX8_held_35 : decode cX8_held 35 = .ok (.istore 4, 2) := by decide +kernel
theorem dX8_held_37 : decode cX8_held 37 = .ok (.iload 4, 2) := by decide +kernel
theorem dX8_held_39 : decode cX8_held 39 = .ok (.bipush 99, 2) := by decide +kernel
theorem dX8_held_41 : decode cX8_held 41 = .ok (.if_icmp .gt 33, 3) := by decide +kernel
theorem dX8_held_44 : decode cX8_held 44 = .ok (.aload_n 0, 1) := by decide +kernel
theorem dX8_held_45 : decode cX8_held 45 = .ok (.iload 4, 2) := by decide +kernel
theorem dX8_held_47 : decode cX8_held 47 = .ok (.iconst 0, 1) := by decide +kernel
theorem dX8_held_48 : decode cX8_held 48 = .ok (.invokevirtual 254, 3) := by decide +kernel
theorem dX8_held_51 : decode cX8_held 51 = .ok (.aload_n 0, 1) := by decide +kernel
theorem dX8_held_52 : decode cX8_held 52 = .ok (.iload_n 1, 1) := by decide +kernel
theorem dX8_held_53 : decode cX8_held 53 = .ok (.iload 4, 2) := by decide +kernel
theorem dX8_held_55 : decode cX8_held 55 = .ok (.aload_n 0, 1) := by decide +kernel
theorem dX8_held_56 : decode cX8_held 56 = .ok (.invokevirtual 276, 3) := by decide +kernel
theorem dX8_held_59 : decode cX8_held 59 = .ok (.invokevirtual 279, 3) := by decide +kernel
theorem dX8_held_62 : decode cX8_held 62 = .ok (.ifCond .ne 6, 3) := by decide +kernel
theorem dX8_held_65 : decode cX8_held 65 = .ok (.iload 4, 2) := by decide +kernel
theorem dX8_held_67 : decode cX8_held 67 = .ok (.ireturn, 1) := by decide +kernel
theorem dX8_held_68 : decode cX8_held 68 = .ok (.iinc 4 1, 3) := by decide +kernel
theorem dX8_held_71 : decode cX8_held 71 = .ok (.goto (-34), 3) := by decide +kernel
theorem dX8_held_74 : decode cX8_held 74 = .ok (.bipush (-2), 2) := by decide +kernel
theorem dX8_held_76 : decode cX8_held 76 = .ok (.ireturn, 1) := by decide +kernel
theorem dX8_held_77 : decode cX8_held 77 = .ok (.aload_n 0, 1) := by decide +kernel
theorem dX8_held_78 : decode cX8_held 78 = .ok (.iload_n 2, 1) := by decide +kernel
theorem dX8_held_79 : decode cX8_held 79 = .ok (.iconst 0, 1) := by decide +kernel
theorem dX8_held_80 : decode cX8_held 80 = .ok (.invokevirtual 254, 3) := by decide +kernel
theorem dX8_held_83 : decode cX8_held 83 = .ok (.iload_n 3, 1) := by decide +kernel
theorem dX8_held_84 : decode cX8_held 84 = .ok (.iconst 1, 1) := by decide +kernel
theorem dX8_held_85 : decode cX8_held 85 = .ok (.if_icmp .ne 16, 3) := by decide +kernel
theorem dX8_held_88 : decode cX8_held 88 = .ok (.aload_n 0, 1) := by decide +kernel
theorem dX8_held_89 : decode cX8_held 89 = .ok (.iload_n 1, 1) := by decide +kernel
theorem dX8_held_90 : decode cX8_held 90 = .ok (.iload_n 2, 1) := by decide +kernel
theorem dX8_held_91 : decode cX8_held 91 = .ok (.aload_n 0, 1) := by decide +kernel
theorem dX8_held_92 : decode cX8_held 92 = .ok (.invokevirtual 276, 3) := by decide +kernel
theorem dX8_held_95 : decode cX8_held 95 = .ok (.invokevirtual 270, 3) := by decide +kernel
theorem dX8_held_98 : decode cX8_held 98 = .ok (.goto 21, 3) := by decide +kernel
theorem dX8_held_101 : decode cX8_held 101 = .ok (.aload_n 0, 1) := by decide +kernel
theorem dX8_held_102 : decode cX8_held 102 = .ok (.iload_n 1, 1) := by decide +kernel
theorem dX8_held_103 : decode cX8_held 103 = .ok (.iload_n 2, 1) := by decide +kernel
theorem dX8_held_104 : decode cX8_held 104 = .ok (.aload_n 0, 1) := by decide +kernel
theorem dX8_held_105 : decode cX8_held 105 = .ok (.invokevirtual 276, 3) := by decide +kernel
theorem dX8_held_108 : decode cX8_held 108 = .ok (.invokevirtual 279, 3) := by decide +kernel
theorem dX8_held_111 : decode cX8_held 111 = .ok (.ifCond .eq 7, 3) := by decide +kernel
theorem dX8_held_114 : decode cX8_held 114 = .ok (.iconst 1, 1) := by decide +kernel
theorem dX8_held_115 : decode cX8_held 115 = .ok (.goto 4, 3) := by decide +kernel
theorem dX8_held_118 : decode cX8_held 118 = .ok (.iconst 0, 1) := by decide +kernel
theorem dX8_held_119 : decode cX8_held 119 = .ok (.ireturn, 1) := by decide +kernel
theorem dX8_heldIn_0 : decode cX8_heldIn 0 = .ok (.aload_n 0, 1) := by decide +kernel
theorem dX8_heldIn_1 : decode cX8_heldIn 1 = .ok (.iload_n 1, 1) := by decide +kernel
theorem dX8_heldIn_2 : decode cX8_heldIn 2 = .ok (.iconst 0, 1) := by decide +kernel
theorem dX8_heldIn_3 : decode cX8_heldIn 3 = .ok (.invokevirtual 254, 3) := by decide +kernel
theorem dX8_heldIn_6 : decode cX8_heldIn 6 = .ok (.iconst 0, 1) := by decide +kernel
theorem dX8_heldIn_7 : decode cX8_heldIn 7 = .ok (.istore_n 2, 1) := by decide +kernel
theorem dX8_heldIn_8 : decode cX8_heldIn 8 = .ok (.iconst 0, 1) := by decide +kernel
theorem dX8_heldIn_9 : decode cX8_heldIn 9 = .ok (.istore_n 3, 1) := by decide +kernel
theorem dX8_heldIn_10 : decode cX8_heldIn 10 = .ok (.iload_n 3, 1) := by decide +kernel
theorem dX8_heldIn_11 : decode cX8_heldIn 11 = .ok (.bipush 12, 2) := by decide +kernel
theorem dX8_heldIn_13 : decode cX8_heldIn 13 = .ok (.if_icmp .ge 28, 3) := by decide +kernel
theorem dX8_heldIn_16 : decode cX8_heldIn 16 = .ok (.aload_n 0, 1) := by decide +kernel
theorem dX8_heldIn_17 : decode cX8_heldIn 17 = .ok (.iload_n 3, 1) := by decide +kernel
theorem dX8_heldIn_18 : decode cX8_heldIn 18 = .ok (.iload_n 1, 1) := by decide +kernel
theorem dX8_heldIn_19 : decode cX8_heldIn 19 = .ok (.aload_n 0, 1) := by decide +kernel
theorem dX8_heldIn_20 : decode cX8_heldIn 20 = .ok (.invokevirtual 276, 3) := by decide +kernel
theorem dX8_heldIn_23 : decode cX8_heldIn 23 = .ok (.invokevirtual 279, 3) := by decide +kernel
theorem dX8_heldIn_26 : decode cX8_heldIn 26 = .ok (.ifCond .eq 9, 3) := by decide +kernel
theorem dX8_heldIn_29 : decode cX8_heldIn 29 = .ok (.iload_n 2, 1) := by decide +kernel
theorem dX8_heldIn_30 : decode cX8_heldIn 30 = .ok (.iconst 1, 1) := by decide +kernel
theorem dX8_heldIn_31 : decode cX8_heldIn 31 = .ok (.iload_n 3, 1) := by decide +kernel
theorem dX8_heldIn_32 : decode cX8_heldIn 32 = .ok (.ishl, 1) := by decide +kernel
theorem dX8_heldIn_33 : decode cX8_heldIn 33 = .ok (.ior, 1) := by decide +kernel
theorem dX8_heldIn_34 : decode cX8_heldIn 34 = .ok (.istore_n 2, 1) := by decide +kernel
theorem dX8_heldIn_35 : decode cX8_heldIn 35 = .ok (.iinc 3 1, 3) := by decide +kernel
theorem dX8_heldIn_38 : decode cX8_heldIn 38 = .ok (.goto (-28), 3) := by decide +kernel
theorem dX8_heldIn_41 : decode cX8_heldIn 41 = .ok (.iload_n 2, 1) := by decide +kernel
theorem dX8_heldIn_42 : decode cX8_heldIn 42 = .ok (.ireturn, 1) := by decide +kernel
theorem dX8_free_0 : decode cX8_free 0 = .ok (.iload_n 1, 1) := by decide +kernel
theorem dX8_free_1 : decode cX8_free 1 = .ok (.invokestatic 118, 3) := by decide +kernel
theorem dX8_free_4 : decode cX8_free 4 = .ok (.ifCond .ne 5, 3) := by decide +kernel
theorem dX8_free_7 : decode cX8_free 7 = .ok (.iconst (-1), 1) := by decide +kernel
theorem dX8_free_8 : decode cX8_free 8 = .ok (.ireturn, 1) := by decide +kernel
theorem dX8_free_9 : decode cX8_free 9 = .ok (.aload_n 0, 1) := by decide +kernel
theorem dX8_free_10 : decode cX8_free 10 = .ok (.invokevirtual 273, 3) := by decide +kernel
theorem dX8_free_13 : decode cX8_free 13 = .ok (.sipush 4095, 3) := by decide +kernel
theorem dX8_free_16 : decode cX8_free 16 = .ok (.aload_n 0, 1) := by decide +kernel
theorem dX8_free_17 : decode cX8_free 17 = .ok (.iload_n 1, 1) := by decide +kernel
theorem dX8_free_18 : decode cX8_free 18 = .ok (.invokevirtual 282, 3) := by decide +kernel
theorem dX8_free_21 : decode cX8_free 21 = .ok (.iconst (-1), 1) := by decide +kernel
theorem dX8_free_22 : decode cX8_free 22 = .ok (.ixor, 1) := by decide +kernel
theorem dX8_free_23 : decode cX8_free 23 = .ok (.iand, 1) := by decide +kernel
theorem dX8_free_24 : decode cX8_free 24 = .ok (.ireturn, 1) := by decide +kernel
theorem dX8_most_0 : decode cX8_most 0 = .ok (.iload_n 1, 1) := by decide +kernel
theorem dX8_most_1 : decode cX8_most 1 = .ok (.iconst 0, 1) := by decide +kernel
theorem dX8_most_2 : decode cX8_most 2 = .ok (.iconst 1, 1) := by decide +kernel
theorem dX8_most_3 : decode cX8_most 3 = .ok (.invokestatic 114, 3) := by decide +kernel
theorem dX8_most_6 : decode cX8_most 6 = .ok (.ifCond .ne 5, 3) := by decide +kernel
theorem dX8_most_9 : decode cX8_most 9 = .ok (.iconst (-1), 1) := by decide +kernel
theorem dX8_most_10 : decode cX8_most 10 = .ok (.ireturn, 1) := by decide +kernel
theorem dX8_most_11 : decode cX8_most 11 = .ok (.aload_n 0, 1) := by decide +kernel
theorem dX8_most_12 : decode cX8_most 12 = .ok (.invokevirtual 273, 3) := by decide +kernel
theorem dX8_most_15 : decode cX8_most 15 = .ok (.iconst 0, 1) := by decide +kernel
theorem dX8_most_16 : decode cX8_most 16 = .ok (.istore_n 2, 1) := by decide +kernel
theorem dX8_most_17 : decode cX8_most 17 = .ok (.iconst (-1), 1) := by decide +kernel
theorem dX8_most_18 : decode cX8_most 18 = .ok (.istore_n 3, 1) := by decide +kernel
theorem dX8_most_19 : decode cX8_most 19 = .ok (.iconst 0, 1) := by decide +kernel
theorem dX8_most_20 : decode cX8_most 20 = .ok (.istore 4, 2) := by decide +kernel
theorem dX8_most_22 : decode cX8_most 22 = .ok (.iload 4, 2) := by decide +kernel
theorem dX8_most_24 : decode cX8_most 24 = .ok (.bipush 99, 2) := by decide +kernel
theorem dX8_most_26 : decode cX8_most 26 = .ok (.if_icmp .gt 35, 3) := by decide +kernel
theorem dX8_most_29 : decode cX8_most 29 = .ok (.aload_n 0, 1) := by decide +kernel
theorem dX8_most_30 : decode cX8_most 30 = .ok (.iload 4, 2) := by decide +kernel
theorem dX8_most_32 : decode cX8_most 32 = .ok (.invokevirtual 282, 3) := by decide +kernel
theorem dX8_most_35 : decode cX8_most 35 = .ok (.invokestatic 285, 3) := by decide +kernel
theorem dX8_most_38 : decode cX8_most 38 = .ok (.istore 5, 2) := by decide +kernel
theorem dX8_most_40 : decode cX8_most 40 = .ok (.iload 5, 2) := by decide +kernel
theorem dX8_most_42 : decode cX8_most 42 = .ok (.iload_n 3, 1) := by decide +kernel
theorem dX8_most_43 : decode cX8_most 43 = .ok (.if_icmp .gt 6, 3) := by decide +kernel
theorem dX8_most_46 : decode cX8_most 46 = .ok (.goto 9, 3) := by decide +kernel
theorem dX8_most_49 : decode cX8_most 49 = .ok (.iload 5, 2) := by decide +kernel
theorem dX8_most_51 : decode cX8_most 51 = .ok (.istore_n 3, 1) := by decide +kernel
theorem dX8_most_52 : decode cX8_most 52 = .ok (.iload 4, 2) := by decide +kernel
theorem dX8_most_54 : decode cX8_most 54 = .ok (.istore_n 2, 1) := by decide +kernel
theorem dX8_most_55 : decode cX8_most 55 = .ok (.iinc 4 1, 3) := by decide +kernel
theorem dX8_most_58 : decode cX8_most 58 = .ok (.goto (-36), 3) := by decide +kernel
theorem dX8_most_61 : decode cX8_most 61 = .ok (.iload_n 1, 1) := by decide +kernel
theorem dX8_most_62 : decode cX8_most 62 = .ok (.ifCond .ne 7, 3) := by decide +kernel
theorem dX8_most_65 : decode cX8_most 65 = .ok (.iload_n 3, 1) := by decide +kernel
theorem dX8_most_66 : decode cX8_most 66 = .ok (.goto 4, 3) := by decide +kernel
theorem dX8_most_69 : decode cX8_most 69 = .ok (.iload_n 2, 1) := by decide +kernel
theorem dX8_most_70 : decode cX8_most 70 = .ok (.ireturn, 1) := by decide +kernel
theorem dX8_aheadOf_0 : decode cX8_aheadOf 0 = .ok (.iconst 0, 1) := by decide +kernel
theorem dX8_aheadOf_1 : decode cX8_aheadOf 1 = .ok (.istore_n 2, 1) := by decide +kernel
theorem dX8_aheadOf_2 : decode cX8_aheadOf 2 = .ok (.iconst 0, 1) := by decide +kernel
theorem dX8_aheadOf_3 : decode cX8_aheadOf 3 = .ok (.istore_n 3, 1) := by decide +kernel
theorem dX8_aheadOf_4 : decode cX8_aheadOf 4 = .ok (.iload_n 3, 1) := by decide +kernel
theorem dX8_aheadOf_5 : decode cX8_aheadOf 5 = .ok (.aload_n 0, 1) := by decide +kernel
theorem dX8_aheadOf_6 : decode cX8_aheadOf 6 = .ok (.getfield 111, 3) := by decide +kernel
theorem dX8_aheadOf_9 : decode cX8_aheadOf 9 = .ok (.if_icmp .ge 24, 3) := by decide +kernel
theorem dX8_aheadOf_12 : decode cX8_aheadOf 12 = .ok (.aload_n 0, 1) := by decide +kernel
theorem dX8_aheadOf_13 : decode cX8_aheadOf 13 = .ok (.iload_n 3, 1) := by decide +kernel
theorem dX8_aheadOf_14 : decode cX8_aheadOf 14 = .ok (.iload_n 1, 1) := by decide +kernel
theorem dX8_aheadOf_15 : decode cX8_aheadOf 15 = .ok (.invokevirtual 168, 3) := by decide +kernel
theorem dX8_aheadOf_18 : decode cX8_aheadOf 18 = .ok (.ifCond .eq 9, 3) := by decide +kernel
theorem dX8_aheadOf_21 : decode cX8_aheadOf 21 = .ok (.iload_n 2, 1) := by decide +kernel
theorem dX8_aheadOf_22 : decode cX8_aheadOf 22 = .ok (.iconst 1, 1) := by decide +kernel
theorem dX8_aheadOf_23 : decode cX8_aheadOf 23 = .ok (.iload_n 3, 1) := by decide +kernel
theorem dX8_aheadOf_24 : decode cX8_aheadOf 24 = .ok (.ishl, 1) := by decide +kernel
theorem dX8_aheadOf_25 : decode cX8_aheadOf 25 = .ok (.ior, 1) := by decide +kernel
theorem dX8_aheadOf_26 : decode cX8_aheadOf 26 = .ok (.istore_n 2, 1) := by decide +kernel
theorem dX8_aheadOf_27 : decode cX8_aheadOf 27 = .ok (.iinc 3 1, 3) := by decide +kernel
theorem dX8_aheadOf_30 : decode cX8_aheadOf 30 = .ok (.goto (-26), 3) := by decide +kernel
theorem dX8_aheadOf_33 : decode cX8_aheadOf 33 = .ok (.iload_n 2, 1) := by decide +kernel
theorem dX8_aheadOf_34 : decode cX8_aheadOf 34 = .ok (.ireturn, 1) := by decide +kernel
theorem dX8_judge_0 : decode cX8_judge 0 = .ok (.aload_n 0, 1) := by decide +kernel
theorem dX8_judge_1 : decode cX8_judge 1 = .ok (.invokevirtual 273, 3) := by decide +kernel
theorem dX8_judge_4 : decode cX8_judge 4 = .ok (.iconst 0, 1) := by decide +kernel
theorem dX8_judge_5 : decode cX8_judge 5 = .ok (.istore_n 1, 1) := by decide +kernel
theorem dX8_judge_6 : decode cX8_judge 6 = .ok (.iload_n 1, 1) := by decide +kernel
theorem dX8_judge_7 : decode cX8_judge 7 = .ok (.aload_n 0, 1) := by decide +kernel
theorem dX8_judge_8 : decode cX8_judge 8 = .ok (.getfield 111, 3) := by decide +kernel
theorem dX8_judge_11 : decode cX8_judge 11 = .ok (.if_icmp .ge 64, 3) := by decide +kernel
theorem dX8_judge_14 : decode cX8_judge 14 = .ok (.aload_n 0, 1) := by decide +kernel
theorem dX8_judge_15 : decode cX8_judge 15 = .ok (.iload_n 1, 1) := by decide +kernel
theorem dX8_judge_16 : decode cX8_judge 16 = .ok (.invokevirtual 288, 3) := by decide +kernel
theorem dX8_judge_19 : decode cX8_judge 19 = .ok (.istore_n 2, 1) := by decide +kernel
theorem dX8_judge_20 : decode cX8_judge 20 = .ok (.aload_n 0, 1) := by decide +kernel
theorem dX8_judge_21 : decode cX8_judge 21 = .ok (.getfield 16, 3) := by decide +kernel
theorem dX8_judge_24 : decode cX8_judge 24 = .ok (.iload_n 2, 1) := by decide +kernel
theorem dX8_judge_25 : decode cX8_judge 25 = .ok (.iaload, 1) := by decide +kernel
theorem dX8_judge_26 : decode cX8_judge 26 = .ok (.ifCond .ge 6, 3) := by decide +kernel
theorem dX8_judge_29 : decode cX8_judge 29 = .ok (.goto 40, 3) := by decide +kernel
theorem dX8_judge_32 : decode cX8_judge 32 = .ok (.aload_n 0, 1) := by decide +kernel
theorem dX8_judge_33 : decode cX8_judge 33 = .ok (.aload_n 0, 1) := by decide +kernel
theorem dX8_judge_34 : decode cX8_judge 34 = .ok (.getfield 7, 3) := by decide +kernel
theorem dX8_judge_37 : decode cX8_judge 37 = .ok (.iload_n 2, 1) := by decide +kernel
theorem dX8_judge_38 : decode cX8_judge 38 = .ok (.iaload, 1) := by decide +kernel
theorem dX8_judge_39 : decode cX8_judge 39 = .ok (.iconst 0, 1) := by decide +kernel
theorem dX8_judge_40 : decode cX8_judge 40 = .ok (.invokevirtual 254, 3) := by decide +kernel
theorem dX8_judge_43 : decode cX8_judge 43 = .ok (.aload_n 0, 1) := by decide +kernel
theorem dX8_judge_44 : decode cX8_judge 44 = .ok (.aload_n 0, 1) := by decide +kernel
theorem dX8_judge_45 : decode cX8_judge 45 = .ok (.getfield 16, 3) := by decide +kernel
theorem dX8_judge_48 : decode cX8_judge 48 = .ok (.iload_n 2, 1) := by decide +kernel
theorem dX8_judge_49 : decode cX8_judge 49 = .ok (.iaload, 1) := by decide +kernel
theorem dX8_judge_50 : decode cX8_judge 50 = .ok (.aload_n 0, 1) := by decide +kernel
theorem dX8_judge_51 : decode cX8_judge 51 = .ok (.getfield 7, 3) := by decide +kernel
theorem dX8_judge_54 : decode cX8_judge 54 = .ok (.iload_n 2, 1) := by decide +kernel
theorem dX8_judge_55 : decode cX8_judge 55 = .ok (.iaload, 1) := by decide +kernel
theorem dX8_judge_56 : decode cX8_judge 56 = .ok (.aload_n 0, 1) := by decide +kernel
theorem dX8_judge_57 : decode cX8_judge 57 = .ok (.iload_n 2, 1) := by decide +kernel
theorem dX8_judge_58 : decode cX8_judge 58 = .ok (.invokevirtual 291, 3) := by decide +kernel
theorem dX8_judge_61 : decode cX8_judge 61 = .ok (.invokevirtual 279, 3) := by decide +kernel
theorem dX8_judge_64 : decode cX8_judge 64 = .ok (.ifCond .eq 5, 3) := by decide +kernel
theorem dX8_judge_67 : decode cX8_judge 67 = .ok (.iload_n 2, 1) := by decide +kernel
theorem dX8_judge_68 : decode cX8_judge 68 = .ok (.ireturn, 1) := by decide +kernel
theorem dX8_judge_69 : decode cX8_judge 69 = .ok (.iinc 1 1, 3) := by decide +kernel
theorem dX8_judge_72 : decode cX8_judge 72 = .ok (.goto (-66), 3) := by decide +kernel
theorem dX8_judge_75 : decode cX8_judge 75 = .ok (.bipush (-2), 2) := by decide +kernel
theorem dX8_judge_77 : decode cX8_judge 77 = .ok (.ireturn, 1) := by decide +kernel
theorem dX8_latestHeld_0 : decode cX8_latestHeld 0 = .ok (.iload_n 2, 1) := by decide +kernel
theorem dX8_latestHeld_1 : decode cX8_latestHeld 1 = .ok (.iconst 1, 1) := by decide +kernel
theorem dX8_latestHeld_2 : decode cX8_latestHeld 2 = .ok (.isub, 1) := by decide +kernel
theorem dX8_latestHeld_3 : decode cX8_latestHeld 3 = .ok (.istore 4, 2) := by decide +kernel
theorem dX8_latestHeld_5 : decode cX8_latestHeld 5 = .ok (.iload 4, 2) := by decide +kernel
theorem dX8_latestHeld_7 : decode cX8_latestHeld 7 = .ok (.ifCond .lt 30, 3) := by decide +kernel
theorem dX8_latestHeld_10 : decode cX8_latestHeld 10 = .ok (.aload_n 0, 1) := by decide +kernel
theorem dX8_latestHeld_11 : decode cX8_latestHeld 11 = .ok (.iload 4, 2) := by decide +kernel
theorem dX8_latestHeld_13 : decode cX8_latestHeld 13 = .ok (.iconst 0, 1) := by decide +kernel
theorem dX8_latestHeld_14 : decode cX8_latestHeld 14 = .ok (.invokevirtual 254, 3) := by decide +kernel
theorem dX8_latestHeld_17 : decode cX8_latestHeld 17 = .ok (.aload_n 0, 1) := by decide +kernel
theorem dX8_latestHeld_18 : decode cX8_latestHeld 18 = .ok (.iload_n 1, 1) := by decide +kernel
theorem dX8_latestHeld_19 : decode cX8_latestHeld 19 = .ok (.iload 4, 2) := by decide +kernel
theorem dX8_latestHeld_21 : decode cX8_latestHeld 21 = .ok (.iload_n 3, 1) := by decide +kernel
theorem dX8_latestHeld_22 : decode cX8_latestHeld 22 = .ok (.invokevirtual 279, 3) := by decide +kernel
theorem dX8_latestHeld_25 : decode cX8_latestHeld 25 = .ok (.ifCond .eq 6, 3) := by decide +kernel
theorem dX8_latestHeld_28 : decode cX8_latestHeld 28 = .ok (.iload 4, 2) := by decide +kernel
theorem dX8_latestHeld_30 : decode cX8_latestHeld 30 = .ok (.ireturn, 1) := by decide +kernel
theorem dX8_latestHeld_31 : decode cX8_latestHeld 31 = .ok (.iinc 4 (-1), 3) := by decide +kernel
theorem dX8_latestHeld_34 : decode cX8_latestHeld 34 = .ok (.goto (-29), 3) := by decide +kernel
theorem dX8_latestHeld_37 : decode cX8_latestHeld 37 = .ok (.iconst (-1), 1) := by decide +kernel
theorem dX8_latestHeld_38 : decode cX8_latestHeld 38 = .ok (.ireturn, 1) := by decide +kernel
theorem dX8_given_0 : decode cX8_given 0 = .ok (.aload_n 0, 1) := by decide +kernel
theorem dX8_given_1 : decode cX8_given 1 = .ok (.iload_n 1, 1) := by decide +kernel
theorem dX8_given_2 : decode cX8_given 2 = .ok (.invokevirtual 291, 3) := by decide +kernel
theorem dX8_given_5 : decode cX8_given 5 = .ok (.istore_n 3, 1) := by decide +kernel
theorem dX8_given_6 : decode cX8_given 6 = .ok (.aload_n 0, 1) := by decide +kernel
theorem dX8_given_7 : decode cX8_given 7 = .ok (.aload_n 0, 1) := by decide +kernel
theorem dX8_given_8 : decode cX8_given 8 = .ok (.getfield 7, 3) := by decide +kernel
theorem dX8_given_11 : decode cX8_given 11 = .ok (.iload_n 1, 1) := by decide +kernel
theorem dX8_given_12 : decode cX8_given 12 = .ok (.iaload, 1) := by decide +kernel
theorem dX8_given_13 : decode cX8_given 13 = .ok (.iconst 0, 1) := by decide +kernel
theorem dX8_given_14 : decode cX8_given 14 = .ok (.invokevirtual 254, 3) := by decide +kernel
theorem dX8_given_17 : decode cX8_given 17 = .ok (.iconst 0, 1) := by decide +kernel
theorem dX8_given_18 : decode cX8_given 18 = .ok (.istore 4, 2) := by decide +kernel
theorem dX8_given_20 : decode cX8_given 20 = .ok (.iconst 0, 1) := by decide +kernel
theorem dX8_given_21 : decode cX8_given 21 = .ok (.istore 5, 2) := by decide +kernel
theorem dX8_given_23 : decode cX8_given 23 = .ok (.iload 5, 2) := by decide +kernel
theorem dX8_given_25 : decode cX8_given 25 = .ok (.bipush 12, 2) := by decide +kernel
theorem dX8_given_27 : decode cX8_given 27 = .ok (.if_icmp .ge 34, 3) := by decide +kernel
theorem dX8_given_30 : decode cX8_given 30 = .ok (.aload_n 0, 1) := by decide +kernel
theorem dX8_given_31 : decode cX8_given 31 = .ok (.iload 5, 2) := by decide +kernel
theorem dX8_given_33 : decode cX8_given 33 = .ok (.aload_n 0, 1) := by decide +kernel
theorem dX8_given_34 : decode cX8_given 34 = .ok (.getfield 7, 3) := by decide +kernel
theorem dX8_given_37 : decode cX8_given 37 = .ok (.iload_n 1, 1) := by decide +kernel
theorem dX8_given_38 : decode cX8_given 38 = .ok (.iaload, 1) := by decide +kernel
theorem dX8_given_39 : decode cX8_given 39 = .ok (.iload_n 3, 1) := by decide +kernel
theorem dX8_given_40 : decode cX8_given 40 = .ok (.invokevirtual 279, 3) := by decide +kernel
theorem dX8_given_43 : decode cX8_given 43 = .ok (.ifCond .ne 12, 3) := by decide +kernel
theorem dX8_given_46 : decode cX8_given 46 = .ok (.iload 4, 2) := by decide +kernel
theorem dX8_given_48 : decode cX8_given 48 = .ok (.iconst 1, 1) := by decide +kernel
theorem dX8_given_49 : decode cX8_given 49 = .ok (.iload 5, 2) := by decide +kernel
theorem dX8_given_51 : decode cX8_given 51 = .ok (.ishl, 1) := by decide +kernel
theorem dX8_given_52 : decode cX8_given 52 = .ok (.ior, 1) := by decide +kernel
theorem dX8_given_53 : decode cX8_given 53 = .ok (.istore 4, 2) := by decide +kernel
theorem dX8_given_55 : decode cX8_given 55 = .ok (.iinc 5 1, 3) := by decide +kernel
theorem dX8_given_58 : decode cX8_given 58 = .ok (.goto (-35), 3) := by decide +kernel
theorem dX8_given_61 : decode cX8_given 61 = .ok (.bipush (-2), 2) := by decide +kernel
theorem dX8_given_63 : decode cX8_given 63 = .ok (.istore 5, 2) := by decide +kernel
theorem dX8_given_65 : decode cX8_given 65 = .ok (.iconst 0, 1) := by decide +kernel
theorem dX8_given_66 : decode cX8_given 66 = .ok (.istore 6, 2) := by decide +kernel
theorem dX8_given_68 : decode cX8_given 68 = .ok (.iconst 0, 1) := by decide +kernel
theorem dX8_given_69 : decode cX8_given 69 = .ok (.istore 7, 2) := by decide +kernel
theorem dX8_given_71 : decode cX8_given 71 = .ok (.iload 7, 2) := by decide +kernel
theorem dX8_given_73 : decode cX8_given 73 = .ok (.bipush 12, 2) := by decide +kernel
theorem dX8_given_75 : decode cX8_given 75 = .ok (.if_icmp .ge 83, 3) := by decide +kernel
theorem dX8_given_78 : decode cX8_given 78 = .ok (.iload 4, 2) := by decide +kernel
theorem dX8_given_80 : decode cX8_given 80 = .ok (.iload 7, 2) := by decide +kernel
theorem dX8_given_82 : decode cX8_given 82 = .ok (.ishr, 1) := by decide +kernel
theorem dX8_given_83 : decode cX8_given 83 = .ok (.iconst 1, 1) := by decide +kernel
theorem dX8_given_84 : decode cX8_given 84 = .ok (.iand, 1) := by decide +kernel
theorem dX8_given_85 : decode cX8_given 85 = .ok (.ifCond .ne 6, 3) := by decide +kernel
theorem dX8_given_88 : decode cX8_given 88 = .ok (.goto 64, 3) := by decide +kernel
theorem dX8_given_91 : decode cX8_given 91 = .ok (.iload_n 2, 1) := by decide +kernel
theorem dX8_given_92 : decode cX8_given 92 = .ok (.ifCond .ne 7, 3) := by decide +kernel
theorem dX8_given_95 : decode cX8_given 95 = .ok (.iconst 0, 1) := by decide +kernel
theorem dX8_given_96 : decode cX8_given 96 = .ok (.goto 31, 3) := by decide +kernel
theorem dX8_given_99 : decode cX8_given 99 = .ok (.iload_n 2, 1) := by decide +kernel
theorem dX8_given_100 : decode cX8_given 100 = .ok (.iconst 1, 1) := by decide +kernel
theorem dX8_given_101 : decode cX8_given 101 = .ok (.if_icmp .ne 19, 3) := by decide +kernel
theorem dX8_given_104 : decode cX8_given 104 = .ok (.aload_n 0, 1) := by decide +kernel
theorem dX8_given_105 : decode cX8_given 105 = .ok (.iload 7, 2) := by decide +kernel
theorem dX8_given_107 : decode cX8_given 107 = .ok (.aload_n 0, 1) := by decide +kernel
theorem dX8_given_108 : decode cX8_given 108 = .ok (.getfield 7, 3) := by decide +kernel
theorem dX8_given_111 : decode cX8_given 111 = .ok (.iload_n 1, 1) := by decide +kernel
theorem dX8_given_112 : decode cX8_given 112 = .ok (.iaload, 1) := by decide +kernel
theorem dX8_given_113 : decode cX8_given 113 = .ok (.iload_n 3, 1) := by decide +kernel
theorem dX8_given_114 : decode cX8_given 114 = .ok (.invokevirtual 294, 3) := by decide +kernel
theorem dX8_given_117 : decode cX8_given 117 = .ok (.goto 10, 3) := by decide +kernel
theorem dX8_given_120 : decode cX8_given 120 = .ok (.aload_n 0, 1) := by decide +kernel
theorem dX8_given_121 : decode cX8_given 121 = .ok (.getfield 28, 3) := by decide +kernel
theorem dX8_given_124 : decode cX8_given 124 = .ok (.iload 7, 2) := by decide +kernel
theorem dX8_given_126 : decode cX8_given 126 = .ok (.iaload, 1) := by decide +kernel
theorem dX8_given_127 : decode cX8_given 127 = .ok (.istore 8, 2) := by decide +kernel
theorem dX8_given_129 : decode cX8_given 129 = .ok (.iload 5, 2) := by decide +kernel
theorem dX8_given_131 : decode cX8_given 131 = .ok (.ifCond .lt 13, 3) := by decide +kernel
theorem dX8_given_134 : decode cX8_given 134 = .ok (.iload 8, 2) := by decide +kernel
theorem dX8_given_136 : decode cX8_given 136 = .ok (.iload 6, 2) := by decide +kernel
theorem dX8_given_138 : decode cX8_given 138 = .ok (.if_icmp .gt 6, 3) := by decide +kernel
theorem dX8_given_141 : decode cX8_given 141 = .ok (.goto 11, 3) := by decide +kernel
theorem dX8_given_144 : decode cX8_given 144 = .ok (.iload 7, 2) := by decide +kernel
theorem dX8_given_146 : decode cX8_given 146 = .ok (.istore 5, 2) := by decide +kernel
theorem dX8_given_148 : decode cX8_given 148 = .ok (.iload 8, 2) := by decide +kernel
theorem dX8_given_150 : decode cX8_given 150 = .ok (.istore 6, 2) := by decide +kernel
theorem dX8_given_152 : decode cX8_given 152 = .ok (.iinc 7 1, 3) := by decide +kernel
theorem dX8_given_155 : decode cX8_given 155 = .ok (.goto (-84), 3) := by decide +kernel
theorem dX8_given_158 : decode cX8_given 158 = .ok (.iload 5, 2) := by decide +kernel
theorem dX8_given_160 : decode cX8_given 160 = .ok (.ireturn, 1) := by decide +kernel
theorem dX8_give_0 : decode cX8_give 0 = .ok (.aload_n 0, 1) := by decide +kernel
theorem dX8_give_1 : decode cX8_give 1 = .ok (.iload_n 1, 1) := by decide +kernel
theorem dX8_give_2 : decode cX8_give 2 = .ok (.invokevirtual 135, 3) := by decide +kernel
theorem dX8_give_5 : decode cX8_give 5 = .ok (.ifCond .eq 12, 3) := by decide +kernel
theorem dX8_give_8 : decode cX8_give 8 = .ok (.iload_n 2, 1) := by decide +kernel
theorem dX8_give_9 : decode cX8_give 9 = .ok (.iconst 0, 1) := by decide +kernel
theorem dX8_give_10 : decode cX8_give 10 = .ok (.iconst 2, 1) := by decide +kernel
theorem dX8_give_11 : decode cX8_give 11 = .ok (.invokestatic 114, 3) := by decide +kernel
theorem dX8_give_14 : decode cX8_give 14 = .ok (.ifCond .ne 5, 3) := by decide +kernel
theorem dX8_give_17 : decode cX8_give 17 = .ok (.iconst (-1), 1) := by decide +kernel
theorem dX8_give_18 : decode cX8_give 18 = .ok (.ireturn, 1) := by decide +kernel
theorem dX8_give_19 : decode cX8_give 19 = .ok (.aload_n 0, 1) := by decide +kernel
theorem dX8_give_20 : decode cX8_give 20 = .ok (.getfield 16, 3) := by decide +kernel
theorem dX8_give_23 : decode cX8_give 23 = .ok (.iload_n 1, 1) := by decide +kernel
theorem dX8_give_24 : decode cX8_give 24 = .ok (.iaload, 1) := by decide +kernel
theorem dX8_give_25 : decode cX8_give 25 = .ok (.ifCond .lt 6, 3) := by decide +kernel
theorem dX8_give_28 : decode cX8_give 28 = .ok (.bipush (-5), 2) := by decide +kernel
theorem dX8_give_30 : decode cX8_give 30 = .ok (.ireturn, 1) := by decide +kernel
theorem dX8_give_31 : decode cX8_give 31 = .ok (.aload_n 0, 1) := by decide +kernel
theorem dX8_give_32 : decode cX8_give 32 = .ok (.invokevirtual 273, 3) := by decide +kernel
theorem dX8_give_35 : decode cX8_give 35 = .ok (.aload_n 0, 1) := by decide +kernel
theorem dX8_give_36 : decode cX8_give 36 = .ok (.iload_n 1, 1) := by decide +kernel
theorem dX8_give_37 : decode cX8_give 37 = .ok (.iload_n 2, 1) := by decide +kernel
theorem dX8_give_38 : decode cX8_give 38 = .ok (.invokevirtual 297, 3) := by decide +kernel
theorem dX8_give_41 : decode cX8_give 41 = .ok (.istore_n 3, 1) := by decide +kernel
theorem dX8_give_42 : decode cX8_give 42 = .ok (.iload_n 3, 1) := by decide +kernel
theorem dX8_give_43 : decode cX8_give 43 = .ok (.ifCond .lt 10, 3) := by decide +kernel
theorem dX8_give_46 : decode cX8_give 46 = .ok (.aload_n 0, 1) := by decide +kernel
theorem dX8_give_47 : decode cX8_give 47 = .ok (.getfield 16, 3) := by decide +kernel
theorem dX8_give_50 : decode cX8_give 50 = .ok (.iload_n 1, 1) := by decide +kernel
theorem dX8_give_51 : decode cX8_give 51 = .ok (.iload_n 3, 1) := by decide +kernel
theorem dX8_give_52 : decode cX8_give 52 = .ok (.iastore, 1) := by decide +kernel
theorem dX8_give_53 : decode cX8_give 53 = .ok (.iload_n 3, 1) := by decide +kernel
theorem dX8_give_54 : decode cX8_give 54 = .ok (.ireturn, 1) := by decide +kernel
theorem dX8_runBy_0 : decode cX8_runBy 0 = .ok (.iconst 0, 1) := by decide +kernel
theorem dX8_runBy_1 : decode cX8_runBy 1 = .ok (.istore_n 2, 1) := by decide +kernel
theorem dX8_runBy_2 : decode cX8_runBy 2 = .ok (.iload_n 2, 1) := by decide +kernel
theorem dX8_runBy_3 : decode cX8_runBy 3 = .ok (.bipush 12, 2) := by decide +kernel
theorem dX8_runBy_5 : decode cX8_runBy 5 = .ok (.if_icmp .ge 16, 3) := by decide +kernel
theorem dX8_runBy_8 : decode cX8_runBy 8 = .ok (.aload_n 0, 1) := by decide +kernel
theorem dX8_runBy_9 : decode cX8_runBy 9 = .ok (.getfield 79, 3) := by decide +kernel
theorem dX8_runBy_12 : decode cX8_runBy 12 = .ok (.iload_n 2, 1) := by decide +kernel
theorem dX8_runBy_13 : decode cX8_runBy 13 = .ok (.iconst (-1), 1) := by decide +kernel
theorem dX8_runBy_14 : decode cX8_runBy 14 = .ok (.iastore, 1) := by decide +kernel
theorem dX8_runBy_15 : decode cX8_runBy 15 = .ok (.iinc 2 1, 3) := by decide +kernel
theorem dX8_runBy_18 : decode cX8_runBy 18 = .ok (.goto (-16), 3) := by decide +kernel
theorem dX8_runBy_21 : decode cX8_runBy 21 = .ok (.iconst 0, 1) := by decide +kernel
theorem dX8_runBy_22 : decode cX8_runBy 22 = .ok (.istore_n 2, 1) := by decide +kernel
theorem dX8_runBy_23 : decode cX8_runBy 23 = .ok (.iload_n 2, 1) := by decide +kernel
theorem dX8_runBy_24 : decode cX8_runBy 24 = .ok (.aload_n 0, 1) := by decide +kernel
theorem dX8_runBy_25 : decode cX8_runBy 25 = .ok (.getfield 111, 3) := by decide +kernel
theorem dX8_runBy_28 : decode cX8_runBy 28 = .ok (.if_icmp .ge 40, 3) := by decide +kernel
theorem dX8_runBy_31 : decode cX8_runBy 31 = .ok (.aload_n 0, 1) := by decide +kernel
theorem dX8_runBy_32 : decode cX8_runBy 32 = .ok (.iload_n 2, 1) := by decide +kernel
theorem dX8_runBy_33 : decode cX8_runBy 33 = .ok (.invokevirtual 288, 3) := by decide +kernel
theorem dX8_runBy_36 : decode cX8_runBy 36 = .ok (.istore_n 3, 1) := by decide +kernel
theorem dX8_runBy_37 : decode cX8_runBy 37 = .ok (.aload_n 0, 1) := by decide +kernel
theorem dX8_runBy_38 : decode cX8_runBy 38 = .ok (.iload_n 3, 1) := by decide +kernel
theorem dX8_runBy_39 : decode cX8_runBy 39 = .ok (.iload_n 1, 1) := by decide +kernel
theorem dX8_runBy_40 : decode cX8_runBy 40 = .ok (.invokevirtual 297, 3) := by decide +kernel
theorem dX8_runBy_43 : decode cX8_runBy 43 = .ok (.istore 4, 2) := by decide +kernel
theorem dX8_runBy_45 : decode cX8_runBy 45 = .ok (.aload_n 0, 1) := by decide +kernel
theorem dX8_runBy_46 : decode cX8_runBy 46 = .ok (.getfield 79, 3) := by decide +kernel
theorem dX8_runBy_49 : decode cX8_runBy 49 = .ok (.iload_n 3, 1) := by decide +kernel
theorem dX8_runBy_50 : decode cX8_runBy 50 = .ok (.iload 4, 2) := by decide +kernel
theorem dX8_runBy_52 : decode cX8_runBy 52 = .ok (.ifCond .ge 7, 3) := by decide +kernel
theorem dX8_runBy_55 : decode cX8_runBy 55 = .ok (.iconst (-1), 1) := by decide +kernel
theorem dX8_runBy_56 : decode cX8_runBy 56 = .ok (.goto 5, 3) := by decide +kernel
theorem dX8_runBy_59 : decode cX8_runBy 59 = .ok (.iload 4, 2) := by decide +kernel
theorem dX8_runBy_61 : decode cX8_runBy 61 = .ok (.iastore, 1) := by decide +kernel
theorem dX8_runBy_62 : decode cX8_runBy 62 = .ok (.iinc 2 1, 3) := by decide +kernel
theorem dX8_runBy_65 : decode cX8_runBy 65 = .ok (.goto (-42), 3) := by decide +kernel
theorem dX8_runBy_68 : decode cX8_runBy 68 = .ok (.return_, 1) := by decide +kernel
theorem dX8_run_0 : decode cX8_run 0 = .ok (.iload_n 1, 1) := by decide +kernel
theorem dX8_run_1 : decode cX8_run 1 = .ok (.iconst 0, 1) := by decide +kernel
theorem dX8_run_2 : decode cX8_run 2 = .ok (.iconst 2, 1) := by decide +kernel
theorem dX8_run_3 : decode cX8_run 3 = .ok (.invokestatic 114, 3) := by decide +kernel
theorem dX8_run_6 : decode cX8_run 6 = .ok (.ifCond .eq 11, 3) := by decide +kernel
theorem dX8_run_9 : decode cX8_run 9 = .ok (.aload_n 0, 1) := by decide +kernel
theorem dX8_run_10 : decode cX8_run 10 = .ok (.iload_n 2, 1) := by decide +kernel
theorem dX8_run_11 : decode cX8_run 11 = .ok (.invokevirtual 135, 3) := by decide +kernel
theorem dX8_run_14 : decode cX8_run 14 = .ok (.ifCond .ne 5, 3) := by decide +kernel
theorem dX8_run_17 : decode cX8_run 17 = .ok (.iconst (-1), 1) := by decide +kernel
theorem dX8_run_18 : decode cX8_run 18 = .ok (.ireturn, 1) := by decide +kernel
theorem dX8_run_19 : decode cX8_run 19 = .ok (.aload_n 0, 1) := by decide +kernel
theorem dX8_run_20 : decode cX8_run 20 = .ok (.iload_n 1, 1) := by decide +kernel
theorem dX8_run_21 : decode cX8_run 21 = .ok (.invokevirtual 300, 3) := by decide +kernel
theorem dX8_run_24 : decode cX8_run 24 = .ok (.aload_n 0, 1) := by decide +kernel
theorem dX8_run_25 : decode cX8_run 25 = .ok (.getfield 79, 3) := by decide +kernel
theorem dX8_run_28 : decode cX8_run 28 = .ok (.iload_n 2, 1) := by decide +kernel
theorem dX8_run_29 : decode cX8_run 29 = .ok (.iaload, 1) := by decide +kernel
theorem dX8_run_30 : decode cX8_run 30 = .ok (.ifCond .ge 8, 3) := by decide +kernel
theorem dX8_run_33 : decode cX8_run 33 = .ok (.bipush (-2), 2) := by decide +kernel
theorem dX8_run_35 : decode cX8_run 35 = .ok (.goto 9, 3) := by decide +kernel
theorem dX8_run_38 : decode cX8_run 38 = .ok (.aload_n 0, 1) := by decide +kernel
theorem dX8_run_39 : decode cX8_run 39 = .ok (.getfield 79, 3) := by decide +kernel
theorem dX8_run_42 : decode cX8_run 42 = .ok (.iload_n 2, 1) := by decide +kernel
theorem dX8_run_43 : decode cX8_run 43 = .ok (.iaload, 1) := by decide +kernel
theorem dX8_run_44 : decode cX8_run 44 = .ok (.ireturn, 1) := by decide +kernel
theorem dX8_unlikeNames_0 : decode cX8_unlikeNames 0 = .ok (.iconst 0, 1) := by decide +kernel
theorem dX8_unlikeNames_1 : decode cX8_unlikeNames 1 = .ok (.istore_n 1, 1) := by decide +kernel
theorem dX8_unlikeNames_2 : decode cX8_unlikeNames 2 = .ok (.iconst 0, 1) := by decide +kernel
theorem dX8_unlikeNames_3 : decode cX8_unlikeNames 3 = .ok (.istore_n 2, 1) := by decide +kernel
theorem dX8_unlikeNames_4 : decode cX8_unlikeNames 4 = .ok (.iload_n 2, 1) := by decide +kernel
theorem dX8_unlikeNames_5 : decode cX8_unlikeNames 5 = .ok (.aload_n 0, 1) := by decide +kernel
theorem dX8_unlikeNames_6 : decode cX8_unlikeNames 6 = .ok (.getfield 111, 3) := by decide +kernel
theorem dX8_unlikeNames_9 : decode cX8_unlikeNames 9 = .ok (.if_icmp .ge 29, 3) := by decide +kernel
theorem dX8_unlikeNames_12 : decode cX8_unlikeNames 12 = .ok (.aload_n 0, 1) := by decide +kernel
theorem dX8_unlikeNames_13 : decode cX8_unlikeNames 13 = .ok (.getfield 79, 3) := by decide +kernel
theorem dX8_unlikeNames_16 : decode cX8_unlikeNames 16 = .ok (.iload_n 2, 1) := by decide +kernel
theorem dX8_unlikeNames_17 : decode cX8_unlikeNames 17 = .ok (.iaload, 1) := by decide +kernel
theorem dX8_unlikeNames_18 : decode cX8_unlikeNames 18 = .ok (.ifCond .lt 14, 3) := by decide +kernel
theorem dX8_unlikeNames_21 : decode cX8_unlikeNames 21 = .ok (.iload_n 1, 1) := by decide +kernel
theorem dX8_unlikeNames_22 : decode cX8_unlikeNames 22 = .ok (.iconst 1, 1) := by decide +kernel
theorem dX8_unlikeNames_23 : decode cX8_unlikeNames 23 = .ok (.aload_n 0, 1) := by decide +kernel
theorem dX8_unlikeNames_24 : decode cX8_unlikeNames 24 = .ok (.getfield 79, 3) := by decide +kernel
theorem dX8_unlikeNames_27 : decode cX8_unlikeNames 27 = .ok (.iload_n 2, 1) := by decide +kernel
theorem dX8_unlikeNames_28 : decode cX8_unlikeNames 28 = .ok (.iaload, 1) := by decide +kernel
theorem dX8_unlikeNames_29 : decode cX8_unlikeNames 29 = .ok (.ishl, 1) := by decide +kernel
theorem dX8_unlikeNames_30 : decode cX8_unlikeNames 30 = .ok (.ior, 1) := by decide +kernel
theorem dX8_unlikeNames_31 : decode cX8_unlikeNames 31 = .ok (.istore_n 1, 1) := by decide +kernel
theorem dX8_unlikeNames_32 : decode cX8_unlikeNames 32 = .ok (.iinc 2 1, 3) := by decide +kernel
theorem dX8_unlikeNames_35 : decode cX8_unlikeNames 35 = .ok (.goto (-31), 3) := by decide +kernel
theorem dX8_unlikeNames_38 : decode cX8_unlikeNames 38 = .ok (.iload_n 1, 1) := by decide +kernel
theorem dX8_unlikeNames_39 : decode cX8_unlikeNames 39 = .ok (.invokestatic 285, 3) := by decide +kernel
theorem dX8_unlikeNames_42 : decode cX8_unlikeNames 42 = .ok (.ireturn, 1) := by decide +kernel
theorem dX8_used_0 : decode cX8_used 0 = .ok (.iload_n 1, 1) := by decide +kernel
theorem dX8_used_1 : decode cX8_used 1 = .ok (.iconst 0, 1) := by decide +kernel
theorem dX8_used_2 : decode cX8_used 2 = .ok (.iconst 2, 1) := by decide +kernel
theorem dX8_used_3 : decode cX8_used 3 = .ok (.invokestatic 114, 3) := by decide +kernel
theorem dX8_used_6 : decode cX8_used 6 = .ok (.ifCond .eq 12, 3) := by decide +kernel
theorem dX8_used_9 : decode cX8_used 9 = .ok (.iload_n 2, 1) := by decide +kernel
theorem dX8_used_10 : decode cX8_used 10 = .ok (.iconst 0, 1) := by decide +kernel
theorem dX8_used_11 : decode cX8_used 11 = .ok (.iconst 2, 1) := by decide +kernel
theorem dX8_used_12 : decode cX8_used 12 = .ok (.invokestatic 114, 3) := by decide +kernel
theorem dX8_used_15 : decode cX8_used 15 = .ok (.ifCond .ne 5, 3) := by decide +kernel
theorem dX8_used_18 : decode cX8_used 18 = .ok (.iconst (-1), 1) := by decide +kernel
theorem dX8_used_19 : decode cX8_used 19 = .ok (.ireturn, 1) := by decide +kernel
theorem dX8_used_20 : decode cX8_used 20 = .ok (.aload_n 0, 1) := by decide +kernel
theorem dX8_used_21 : decode cX8_used 21 = .ok (.iload_n 1, 1) := by decide +kernel
theorem dX8_used_22 : decode cX8_used 22 = .ok (.invokevirtual 300, 3) := by decide +kernel
theorem dX8_used_25 : decode cX8_used 25 = .ok (.iload_n 2, 1) := by decide +kernel
theorem dX8_used_26 : decode cX8_used 26 = .ok (.ifCond .ne 8, 3) := by decide +kernel
theorem dX8_used_29 : decode cX8_used 29 = .ok (.aload_n 0, 1) := by decide +kernel
theorem dX8_used_30 : decode cX8_used 30 = .ok (.invokevirtual 304, 3) := by decide +kernel
theorem dX8_used_33 : decode cX8_used 33 = .ok (.ireturn, 1) := by decide +kernel
theorem dX8_used_34 : decode cX8_used 34 = .ok (.iconst 0, 1) := by decide +kernel
theorem dX8_used_35 : decode cX8_used 35 = .ok (.istore_n 3, 1) := by decide +kernel
theorem dX8_used_36 : decode cX8_used 36 = .ok (.iconst 0, 1) := by decide +kernel
theorem dX8_used_37 : decode cX8_used 37 = .ok (.istore 4, 2) := by decide +kernel
theorem dX8_used_39 : decode cX8_used 39 = .ok (.iload 4, 2) := by decide +kernel
theorem dX8_used_41 : decode cX8_used 41 = .ok (.aload_n 0, 1) := by decide +kernel
theorem dX8_used_42 : decode cX8_used 42 = .ok (.getfield 111, 3) := by decide +kernel
theorem dX8_used_45 : decode cX8_used 45 = .ok (.if_icmp .ge 57, 3) := by decide +kernel
theorem dX8_used_48 : decode cX8_used 48 = .ok (.iload_n 2, 1) := by decide +kernel
theorem dX8_used_49 : decode cX8_used 49 = .ok (.iconst 1, 1) := by decide +kernel
theorem dX8_used_50 : decode cX8_used 50 = .ok (.if_icmp .ne 28, 3) := by decide +kernel
theorem dX8_used_53 : decode cX8_used 53 = .ok (.aload_n 0, 1) := by decide +kernel
theorem dX8_used_54 : decode cX8_used 54 = .ok (.getfield 79, 3) := by decide +kernel
theorem dX8_used_57 : decode cX8_used 57 = .ok (.iload 4, 2) := by decide +kernel
theorem dX8_used_59 : decode cX8_used 59 = .ok (.iaload, 1) := by decide +kernel
theorem dX8_used_60 : decode cX8_used 60 = .ok (.ifCond .lt 18, 3) := by decide +kernel
theorem dX8_used_63 : decode cX8_used 63 = .ok (.iload_n 3, 1) := by decide +kernel
theorem dX8_used_64 : decode cX8_used 64 = .ok (.aload_n 0, 1) := by decide +kernel
theorem dX8_used_65 : decode cX8_used 65 = .ok (.getfield 28, 3) := by decide +kernel
theorem dX8_used_68 : decode cX8_used 68 = .ok (.aload_n 0, 1) := by decide +kernel
theorem dX8_used_69 : decode cX8_used 69 = .ok (.getfield 79, 3) := by decide +kernel
theorem dX8_used_72 : decode cX8_used 72 = .ok (.iload 4, 2) := by decide +kernel
theorem dX8_used_74 : decode cX8_used 74 = .ok (.iaload, 1) := by decide +kernel
theorem dX8_used_75 : decode cX8_used 75 = .ok (.iaload, 1) := by decide +kernel
theorem dX8_used_76 : decode cX8_used 76 = .ok (.iadd, 1) := by decide +kernel
theorem dX8_used_77 : decode cX8_used 77 = .ok (.istore_n 3, 1) := by decide +kernel
theorem dX8_used_78 : decode cX8_used 78 = .ok (.iload_n 2, 1) := by decide +kernel
theorem dX8_used_79 : decode cX8_used 79 = .ok (.iconst 2, 1) := by decide +kernel
theorem dX8_used_80 : decode cX8_used 80 = .ok (.if_icmp .ne 16, 3) := by decide +kernel
theorem dX8_used_83 : decode cX8_used 83 = .ok (.aload_n 0, 1) := by decide +kernel
theorem dX8_used_84 : decode cX8_used 84 = .ok (.getfield 79, 3) := by decide +kernel
theorem dX8_used_87 : decode cX8_used 87 = .ok (.iload 4, 2) := by decide +kernel
theorem dX8_used_89 : decode cX8_used 89 = .ok (.iaload, 1) := by decide +kernel
theorem dX8_used_90 : decode cX8_used 90 = .ok (.ifCond .ge 6, 3) := by decide +kernel
theorem dX8_used_93 : decode cX8_used 93 = .ok (.iinc 3 1, 3) := by decide +kernel
theorem dX8_used_96 : decode cX8_used 96 = .ok (.iinc 4 1, 3) := by decide +kernel
theorem dX8_used_99 : decode cX8_used 99 = .ok (.goto (-60), 3) := by decide +kernel
theorem dX8_used_102 : decode cX8_used 102 = .ok (.iload_n 3, 1) := by decide +kernel
theorem dX8_used_103 : decode cX8_used 103 = .ok (.ireturn, 1) := by decide +kernel
theorem dX8_isFreeWithout_0 : decode cX8_isFreeWithout 0 = .ok (.aload_n 0, 1) := by decide +kernel
theorem dX8_isFreeWithout_1 : decode cX8_isFreeWithout 1 = .ok (.iload_n 2, 1) := by decide +kernel
theorem dX8_isFreeWithout_2 : decode cX8_isFreeWithout 2 = .ok (.iload_n 3, 1) := by decide +kernel
theorem dX8_isFreeWithout_3 : decode cX8_isFreeWithout 3 = .ok (.invokevirtual 254, 3) := by decide +kernel
theorem dX8_isFreeWithout_6 : decode cX8_isFreeWithout 6 = .ok (.aload_n 0, 1) := by decide +kernel
theorem dX8_isFreeWithout_7 : decode cX8_isFreeWithout 7 = .ok (.iload_n 1, 1) := by decide +kernel
theorem dX8_isFreeWithout_8 : decode cX8_isFreeWithout 8 = .ok (.iload_n 2, 1) := by decide +kernel
theorem dX8_isFreeWithout_9 : decode cX8_isFreeWithout 9 = .ok (.aload_n 0, 1) := by decide +kernel
theorem dX8_isFreeWithout_10 : decode cX8_isFreeWithout 10 = .ok (.invokevirtual 276, 3) := by decide +kernel
theorem dX8_isFreeWithout_13 : decode cX8_isFreeWithout 13 = .ok (.invokevirtual 279, 3) := by decide +kernel
theorem dX8_isFreeWithout_16 : decode cX8_isFreeWithout 16 = .ok (.ifCond .ne 7, 3) := by decide +kernel
theorem dX8_isFreeWithout_19 : decode cX8_isFreeWithout 19 = .ok (.iconst 1, 1) := by decide +kernel
theorem dX8_isFreeWithout_20 : decode cX8_isFreeWithout 20 = .ok (.goto 4, 3) := by decide +kernel
theorem dX8_isFreeWithout_23 : decode cX8_isFreeWithout 23 = .ok (.iconst 0, 1) := by decide +kernel
theorem dX8_isFreeWithout_24 : decode cX8_isFreeWithout 24 = .ok (.ireturn, 1) := by decide +kernel
theorem dX8_apart_0 : decode cX8_apart 0 = .ok (.iload_n 1, 1) := by decide +kernel
theorem dX8_apart_1 : decode cX8_apart 1 = .ok (.invokestatic 148, 3) := by decide +kernel
theorem dX8_apart_4 : decode cX8_apart 4 = .ok (.ifCond .eq 10, 3) := by decide +kernel
theorem dX8_apart_7 : decode cX8_apart 7 = .ok (.iload_n 2, 1) := by decide +kernel
theorem dX8_apart_8 : decode cX8_apart 8 = .ok (.invokestatic 118, 3) := by decide +kernel
theorem dX8_apart_11 : decode cX8_apart 11 = .ok (.ifCond .ne 5, 3) := by decide +kernel
theorem dX8_apart_14 : decode cX8_apart 14 = .ok (.iconst (-1), 1) := by decide +kernel
theorem dX8_apart_15 : decode cX8_apart 15 = .ok (.ireturn, 1) := by decide +kernel
theorem dX8_apart_16 : decode cX8_apart 16 = .ok (.aload_n 0, 1) := by decide +kernel
theorem dX8_apart_17 : decode cX8_apart 17 = .ok (.invokevirtual 273, 3) := by decide +kernel
theorem dX8_apart_20 : decode cX8_apart 20 = .ok (.iconst 0, 1) := by decide +kernel
theorem dX8_apart_21 : decode cX8_apart 21 = .ok (.istore_n 3, 1) := by decide +kernel
theorem dX8_apart_22 : decode cX8_apart 22 = .ok (.iconst 0, 1) := by decide +kernel
theorem dX8_apart_23 : decode cX8_apart 23 = .ok (.istore 4, 2) := by decide +kernel
theorem dX8_apart_25 : decode cX8_apart 25 = .ok (.iload 4, 2) := by decide +kernel
theorem dX8_apart_27 : decode cX8_apart 27 = .ok (.aload_n 0, 1) := by decide +kernel
theorem dX8_apart_28 : decode cX8_apart 28 = .ok (.getfield 141, 3) := by decide +kernel
theorem dX8_apart_31 : decode cX8_apart 31 = .ok (.if_icmp .ge 36, 3) := by decide +kernel
theorem dX8_apart_34 : decode cX8_apart 34 = .ok (.aload_n 0, 1) := by decide +kernel
theorem dX8_apart_35 : decode cX8_apart 35 = .ok (.iload 4, 2) := by decide +kernel
theorem dX8_apart_37 : decode cX8_apart 37 = .ok (.invokevirtual 178, 3) := by decide +kernel
theorem dX8_apart_40 : decode cX8_apart 40 = .ok (.ifCond .eq 21, 3) := by decide +kernel
theorem dX8_apart_43 : decode cX8_apart 43 = .ok (.aload_n 0, 1) := by decide +kernel
theorem dX8_apart_44 : decode cX8_apart 44 = .ok (.getfield 25, 3) := by decide +kernel
theorem dX8_apart_47 : decode cX8_apart 47 = .ok (.iload 4, 2) := by decide +kernel
theorem dX8_apart_49 : decode cX8_apart 49 = .ok (.iaload, 1) := by decide +kernel
theorem dX8_apart_50 : decode cX8_apart 50 = .ok (.iload_n 2, 1) := by decide +kernel
theorem dX8_apart_51 : decode cX8_apart 51 = .ok (.if_icmp .gt 10, 3) := by decide +kernel
theorem dX8_apart_54 : decode cX8_apart 54 = .ok (.iload_n 3, 1) := by decide +kernel
theorem dX8_apart_55 : decode cX8_apart 55 = .ok (.iconst 1, 1) := by decide +kernel
theorem dX8_apart_56 : decode cX8_apart 56 = .ok (.iload 4, 2) := by decide +kernel
theorem dX8_apart_58 : decode cX8_apart 58 = .ok (.ishl, 1) := by decide +kernel
theorem dX8_apart_59 : decode cX8_apart 59 = .ok (.ior, 1) := by decide +kernel
theorem dX8_apart_60 : decode cX8_apart 60 = .ok (.istore_n 3, 1) := by decide +kernel
theorem dX8_apart_61 : decode cX8_apart 61 = .ok (.iinc 4 1, 3) := by decide +kernel
theorem dX8_apart_64 : decode cX8_apart 64 = .ok (.goto (-39), 3) := by decide +kernel
theorem dX8_apart_67 : decode cX8_apart 67 = .ok (.aload_n 0, 1) := by decide +kernel
theorem dX8_apart_68 : decode cX8_apart 68 = .ok (.iload_n 1, 1) := by decide +kernel
theorem dX8_apart_69 : decode cX8_apart 69 = .ok (.iload_n 2, 1) := by decide +kernel
theorem dX8_apart_70 : decode cX8_apart 70 = .ok (.iload_n 3, 1) := by decide +kernel
theorem dX8_apart_71 : decode cX8_apart 71 = .ok (.invokevirtual 307, 3) := by decide +kernel
theorem dX8_apart_74 : decode cX8_apart 74 = .ok (.ifCond .ne 6, 3) := by decide +kernel
theorem dX8_apart_77 : decode cX8_apart 77 = .ok (.bipush (-2), 2) := by decide +kernel
theorem dX8_apart_79 : decode cX8_apart 79 = .ok (.ireturn, 1) := by decide +kernel
theorem dX8_apart_80 : decode cX8_apart 80 = .ok (.iconst 0, 1) := by decide +kernel
theorem dX8_apart_81 : decode cX8_apart 81 = .ok (.istore 4, 2) := by decide +kernel
theorem dX8_apart_83 : decode cX8_apart 83 = .ok (.iload 4, 2) := by decide +kernel
theorem dX8_apart_85 : decode cX8_apart 85 = .ok (.aload_n 0, 1) := by decide +kernel
theorem dX8_apart_86 : decode cX8_apart 86 = .ok (.getfield 141, 3) := by decide +kernel
theorem dX8_apart_89 : decode cX8_apart 89 = .ok (.if_icmp .gt 57, 3) := by decide +kernel
theorem dX8_apart_92 : decode cX8_apart 92 = .ok (.iconst 0, 1) := by decide +kernel
theorem dX8_apart_93 : decode cX8_apart 93 = .ok (.istore 5, 2) := by decide +kernel
theorem dX8_apart_95 : decode cX8_apart 95 = .ok (.iload 5, 2) := by decide +kernel
theorem dX8_apart_97 : decode cX8_apart 97 = .ok (.iload_n 3, 1) := by decide +kernel
theorem dX8_apart_98 : decode cX8_apart 98 = .ok (.if_icmp .gt 42, 3) := by decide +kernel
theorem dX8_apart_101 : decode cX8_apart 101 = .ok (.iload 5, 2) := by decide +kernel
theorem dX8_apart_103 : decode cX8_apart 103 = .ok (.iload_n 3, 1) := by decide +kernel
theorem dX8_apart_104 : decode cX8_apart 104 = .ok (.iconst (-1), 1) := by decide +kernel
theorem dX8_apart_105 : decode cX8_apart 105 = .ok (.ixor, 1) := by decide +kernel
theorem dX8_apart_106 : decode cX8_apart 106 = .ok (.iand, 1) := by decide +kernel
theorem dX8_apart_107 : decode cX8_apart 107 = .ok (.ifCond .ne 27, 3) := by decide +kernel
theorem dX8_apart_110 : decode cX8_apart 110 = .ok (.iload 5, 2) := by decide +kernel
theorem dX8_apart_112 : decode cX8_apart 112 = .ok (.invokestatic 285, 3) := by decide +kernel
theorem dX8_apart_115 : decode cX8_apart 115 = .ok (.iload 4, 2) := by decide +kernel
theorem dX8_apart_117 : decode cX8_apart 117 = .ok (.if_icmp .ne 17, 3) := by decide +kernel
theorem dX8_apart_120 : decode cX8_apart 120 = .ok (.aload_n 0, 1) := by decide +kernel
theorem dX8_apart_121 : decode cX8_apart 121 = .ok (.iload_n 1, 1) := by decide +kernel
theorem dX8_apart_122 : decode cX8_apart 122 = .ok (.iload_n 2, 1) := by decide +kernel
theorem dX8_apart_123 : decode cX8_apart 123 = .ok (.iload 5, 2) := by decide +kernel
theorem dX8_apart_125 : decode cX8_apart 125 = .ok (.invokevirtual 307, 3) := by decide +kernel
theorem dX8_apart_128 : decode cX8_apart 128 = .ok (.ifCond .eq 6, 3) := by decide +kernel
theorem dX8_apart_131 : decode cX8_apart 131 = .ok (.iload 5, 2) := by decide +kernel
theorem dX8_apart_133 : decode cX8_apart 133 = .ok (.ireturn, 1) := by decide +kernel
theorem dX8_apart_134 : decode cX8_apart 134 = .ok (.iinc 5 1, 3) := by decide +kernel
theorem dX8_apart_137 : decode cX8_apart 137 = .ok (.goto (-42), 3) := by decide +kernel
theorem dX8_apart_140 : decode cX8_apart 140 = .ok (.iinc 4 1, 3) := by decide +kernel
theorem dX8_apart_143 : decode cX8_apart 143 = .ok (.goto (-60), 3) := by decide +kernel
theorem dX8_apart_146 : decode cX8_apart 146 = .ok (.bipush (-2), 2) := by decide +kernel
theorem dX8_apart_148 : decode cX8_apart 148 = .ok (.ireturn, 1) := by decide +kernel
theorem dX8_freed_0 : decode cX8_freed 0 = .ok (.aload_n 0, 1) := by decide +kernel
theorem dX8_freed_1 : decode cX8_freed 1 = .ok (.iload_n 1, 1) := by decide +kernel
theorem dX8_freed_2 : decode cX8_freed 2 = .ok (.invokevirtual 135, 3) := by decide +kernel
theorem dX8_freed_5 : decode cX8_freed 5 = .ok (.ifCond .eq 10, 3) := by decide +kernel
theorem dX8_freed_8 : decode cX8_freed 8 = .ok (.iload_n 2, 1) := by decide +kernel
theorem dX8_freed_9 : decode cX8_freed 9 = .ok (.invokestatic 118, 3) := by decide +kernel
theorem dX8_freed_12 : decode cX8_freed 12 = .ok (.ifCond .ne 5, 3) := by decide +kernel
theorem dX8_freed_15 : decode cX8_freed 15 = .ok (.iconst (-1), 1) := by decide +kernel
theorem dX8_freed_16 : decode cX8_freed 16 = .ok (.ireturn, 1) := by decide +kernel
theorem dX8_freed_17 : decode cX8_freed 17 = .ok (.aload_n 0, 1) := by decide +kernel
theorem dX8_freed_18 : decode cX8_freed 18 = .ok (.invokevirtual 273, 3) := by decide +kernel
theorem dX8_freed_21 : decode cX8_freed 21 = .ok (.aload_n 0, 1) := by decide +kernel
theorem dX8_freed_22 : decode cX8_freed 22 = .ok (.iload_n 2, 1) := by decide +kernel
theorem dX8_freed_23 : decode cX8_freed 23 = .ok (.iconst 0, 1) := by decide +kernel
theorem dX8_freed_24 : decode cX8_freed 24 = .ok (.invokevirtual 254, 3) := by decide +kernel
theorem dX8_freed_27 : decode cX8_freed 27 = .ok (.iconst 0, 1) := by decide +kernel
theorem dX8_freed_28 : decode cX8_freed 28 = .ok (.istore_n 3, 1) := by decide +kernel
theorem dX8_freed_29 : decode cX8_freed 29 = .ok (.iconst 0, 1) := by decide +kernel
theorem dX8_freed_30 : decode cX8_freed 30 = .ok (.istore 4, 2) := by decide +kernel
theorem dX8_freed_32 : decode cX8_freed 32 = .ok (.iload 4, 2) := by decide +kernel
theorem dX8_freed_34 : decode cX8_freed 34 = .ok (.bipush 12, 2) := by decide +kernel
theorem dX8_freed_36 : decode cX8_freed 36 = .ok (.if_icmp .ge 47, 3) := by decide +kernel
theorem dX8_freed_39 : decode cX8_freed 39 = .ok (.aload_n 0, 1) := by decide +kernel
theorem dX8_freed_40 : decode cX8_freed 40 = .ok (.iload 4, 2) := by decide +kernel
theorem dX8_freed_42 : decode cX8_freed 42 = .ok (.iload_n 2, 1) := by decide +kernel
theorem dX8_freed_43 : decode cX8_freed 43 = .ok (.aload_n 0, 1) := by decide +kernel
theorem dX8_freed_44 : decode cX8_freed 44 = .ok (.invokevirtual 276, 3) := by decide +kernel
theorem dX8_freed_47 : decode cX8_freed 47 = .ok (.invokevirtual 267, 3) := by decide +kernel
theorem dX8_freed_50 : decode cX8_freed 50 = .ok (.ifCond .ne 27, 3) := by decide +kernel
theorem dX8_freed_53 : decode cX8_freed 53 = .ok (.aload_n 0, 1) := by decide +kernel
theorem dX8_freed_54 : decode cX8_freed 54 = .ok (.iload 4, 2) := by decide +kernel
theorem dX8_freed_56 : decode cX8_freed 56 = .ok (.iload_n 2, 1) := by decide +kernel
theorem dX8_freed_57 : decode cX8_freed 57 = .ok (.aload_n 0, 1) := by decide +kernel
theorem dX8_freed_58 : decode cX8_freed 58 = .ok (.invokevirtual 276, 3) := by decide +kernel
theorem dX8_freed_61 : decode cX8_freed 61 = .ok (.invokevirtual 270, 3) := by decide +kernel
theorem dX8_freed_64 : decode cX8_freed 64 = .ok (.iconst 1, 1) := by decide +kernel
theorem dX8_freed_65 : decode cX8_freed 65 = .ok (.iload_n 1, 1) := by decide +kernel
theorem dX8_freed_66 : decode cX8_freed 66 = .ok (.ishl, 1) := by decide +kernel
theorem dX8_freed_67 : decode cX8_freed 67 = .ok (.if_icmp .ne 10, 3) := by decide +kernel
theorem dX8_freed_70 : decode cX8_freed 70 = .ok (.iload_n 3, 1) := by decide +kernel
theorem dX8_freed_71 : decode cX8_freed 71 = .ok (.iconst 1, 1) := by decide +kernel
theorem dX8_freed_72 : decode cX8_freed 72 = .ok (.iload 4, 2) := by decide +kernel
theorem dX8_freed_74 : decode cX8_freed 74 = .ok (.ishl, 1) := by decide +kernel
theorem dX8_freed_75 : decode cX8_freed 75 = .ok (.ior, 1) := by decide +kernel
theorem dX8_freed_76 : decode cX8_freed 76 = .ok (.istore_n 3, 1) := by decide +kernel
theorem dX8_freed_77 : decode cX8_freed 77 = .ok (.iinc 4 1, 3) := by decide +kernel
theorem dX8_freed_80 : decode cX8_freed 80 = .ok (.goto (-48), 3) := by decide +kernel
theorem dX8_freed_83 : decode cX8_freed 83 = .ok (.iload_n 3, 1) := by decide +kernel
theorem dX8_freed_84 : decode cX8_freed 84 = .ok (.ireturn, 1) := by decide +kernel
theorem dX8_never_0 : decode cX8_never 0 = .ok (.aload_n 0, 1) := by decide +kernel
theorem dX8_never_1 : decode cX8_never 1 = .ok (.iload_n 1, 1) := by decide +kernel
theorem dX8_never_2 : decode cX8_never 2 = .ok (.invokevirtual 135, 3) := by decide +kernel
theorem dX8_never_5 : decode cX8_never 5 = .ok (.ifCond .ne 5, 3) := by decide +kernel
theorem dX8_never_8 : decode cX8_never 8 = .ok (.iconst (-1), 1) := by decide +kernel
theorem dX8_never_9 : decode cX8_never 9 = .ok (.ireturn, 1) := by decide +kernel
theorem dX8_never_10 : decode cX8_never 10 = .ok (.iconst 0, 1) := by decide +kernel
theorem dX8_never_11 : decode cX8_never 11 = .ok (.istore_n 2, 1) := by decide +kernel
theorem dX8_never_12 : decode cX8_never 12 = .ok (.iconst 0, 1) := by decide +kernel
theorem dX8_never_13 : decode cX8_never 13 = .ok (.istore_n 3, 1) := by decide +kernel
theorem dX8_never_14 : decode cX8_never 14 = .ok (.iload_n 3, 1) := by decide +kernel
theorem dX8_never_15 : decode cX8_never 15 = .ok (.aload_n 0, 1) := by decide +kernel
theorem dX8_never_16 : decode cX8_never 16 = .ok (.getfield 111, 3) := by decide +kernel
theorem dX8_never_19 : decode cX8_never 19 = .ok (.if_icmp .ge 102, 3) := by decide +kernel
theorem dX8_never_22 : decode cX8_never 22 = .ok (.aload_n 0, 1) := by decide +kernel
theorem dX8_never_23 : decode cX8_never 23 = .ok (.getfield 16, 3) := by decide +kernel
theorem dX8_never_26 : decode cX8_never 26 = .ok (.iload_n 1, 1) := by decide +kernel
theorem dX8_never_27 : decode cX8_never 27 = .ok (.iaload, 1) := by decide +kernel
theorem dX8_never_28 : decode cX8_never 28 = .ok (.ifCond .lt 87, 3) := by decide +kernel
theorem dX8_never_31 : decode cX8_never 31 = .ok (.iload_n 3, 1) := by decide +kernel
theorem dX8_never_32 : decode cX8_never 32 = .ok (.iload_n 1, 1) := by decide +kernel
theorem dX8_never_33 : decode cX8_never 33 = .ok (.if_icmp .eq 82, 3) := by decide +kernel
theorem dX8_never_36 : decode cX8_never 36 = .ok (.aload_n 0, 1) := by decide +kernel
theorem dX8_never_37 : decode cX8_never 37 = .ok (.getfield 16, 3) := by decide +kernel
theorem dX8_never_40 : decode cX8_never 40 = .ok (.iload_n 3, 1) := by decide +kernel
theorem dX8_never_41 : decode cX8_never 41 = .ok (.iaload, 1) := by decide +kernel
theorem dX8_never_42 : decode cX8_never 42 = .ok (.aload_n 0, 1) := by decide +kernel
theorem dX8_never_43 : decode cX8_never 43 = .ok (.getfield 16, 3) := by decide +kernel
theorem dX8_never_46 : decode cX8_never 46 = .ok (.iload_n 1, 1) := by decide +kernel
theorem dX8_never_47 : decode cX8_never 47 = .ok (.iaload, 1) := by decide +kernel
theorem dX8_never_48 : decode cX8_never 48 = .ok (.if_icmp .ne 67, 3) := by decide +kernel
theorem dX8_never_51 : decode cX8_never 51 = .ok (.aload_n 0, 1) := by decide +kernel
theorem dX8_never_52 : decode cX8_never 52 = .ok (.iload_n 1, 1) := by decide +kernel
theorem dX8_never_53 : decode cX8_never 53 = .ok (.iload_n 3, 1) := by decide +kernel
theorem dX8_never_54 : decode cX8_never 54 = .ok (.invokevirtual 168, 3) := by decide +kernel
theorem dX8_never_57 : decode cX8_never 57 = .ok (.ifCond .ne 6, 3) := by decide +kernel
theorem dX8_never_60 : decode cX8_never 60 = .ok (.goto 55, 3) := by decide +kernel
theorem dX8_never_63 : decode cX8_never 63 = .ok (.iconst 0, 1) := by decide +kernel
theorem dX8_never_64 : decode cX8_never 64 = .ok (.istore 4, 2) := by decide +kernel
theorem dX8_never_66 : decode cX8_never 66 = .ok (.iload 4, 2) := by decide +kernel
theorem dX8_never_68 : decode cX8_never 68 = .ok (.aload_n 0, 1) := by decide +kernel
theorem dX8_never_69 : decode cX8_never 69 = .ok (.getfield 111, 3) := by decide +kernel
theorem dX8_never_72 : decode cX8_never 72 = .ok (.if_icmp .ge 43, 3) := by decide +kernel
theorem dX8_never_75 : decode cX8_never 75 = .ok (.iload 4, 2) := by decide +kernel
theorem dX8_never_77 : decode cX8_never 77 = .ok (.iload_n 1, 1) := by decide +kernel
theorem dX8_never_78 : decode cX8_never 78 = .ok (.if_icmp .eq 31, 3) := by decide +kernel
theorem dX8_never_81 : decode cX8_never 81 = .ok (.iload 4, 2) := by decide +kernel
theorem dX8_never_83 : decode cX8_never 83 = .ok (.iload_n 3, 1) := by decide +kernel
theorem dX8_never_84 : decode cX8_never 84 = .ok (.if_icmp .eq 25, 3) := by decide +kernel
theorem dX8_never_87 : decode cX8_never 87 = .ok (.aload_n 0, 1) := by decide +kernel
theorem dX8_never_88 : decode cX8_never 88 = .ok (.iload 4, 2) := by decide +kernel
theorem dX8_never_90 : decode cX8_never 90 = .ok (.aload_n 0, 1) := by decide +kernel
theorem dX8_never_91 : decode cX8_never 91 = .ok (.getfield 7, 3) := by decide +kernel
theorem dX8_never_94 : decode cX8_never 94 = .ok (.iload_n 3, 1) := by decide +kernel
theorem dX8_never_95 : decode cX8_never 95 = .ok (.iaload, 1) := by decide +kernel
theorem dX8_never_96 : decode cX8_never 96 = .ok (.invokevirtual 138, 3) := by decide +kernel
theorem dX8_never_99 : decode cX8_never 99 = .ok (.ifCond .eq 10, 3) := by decide +kernel
theorem dX8_never_102 : decode cX8_never 102 = .ok (.iload_n 2, 1) := by decide +kernel
theorem dX8_never_103 : decode cX8_never 103 = .ok (.iconst 1, 1) := by decide +kernel
theorem dX8_never_104 : decode cX8_never 104 = .ok (.iload 4, 2) := by decide +kernel
theorem dX8_never_106 : decode cX8_never 106 = .ok (.ishl, 1) := by decide +kernel
theorem dX8_never_107 : decode cX8_never 107 = .ok (.ior, 1) := by decide +kernel
theorem dX8_never_108 : decode cX8_never 108 = .ok (.istore_n 2, 1) := by decide +kernel
theorem dX8_never_109 : decode cX8_never 109 = .ok (.iinc 4 1, 3) := by decide +kernel
theorem dX8_never_112 : decode cX8_never 112 = .ok (.goto (-46), 3) := by decide +kernel
theorem dX8_never_115 : decode cX8_never 115 = .ok (.iinc 3 1, 3) := by decide +kernel
theorem dX8_never_118 : decode cX8_never 118 = .ok (.goto (-104), 3) := by decide +kernel
theorem dX8_never_121 : decode cX8_never 121 = .ok (.iload_n 2, 1) := by decide +kernel
theorem dX8_never_122 : decode cX8_never 122 = .ok (.ireturn, 1) := by decide +kernel
theorem dX8_needs_0 : decode cX8_needs 0 = .ok (.iload_n 2, 1) := by decide +kernel
theorem dX8_needs_1 : decode cX8_needs 1 = .ok (.iconst 1, 1) := by decide +kernel
theorem dX8_needs_2 : decode cX8_needs 2 = .ok (.bipush 20, 2) := by decide +kernel
theorem dX8_needs_4 : decode cX8_needs 4 = .ok (.invokestatic 114, 3) := by decide +kernel
theorem dX8_needs_7 : decode cX8_needs 7 = .ok (.ifCond .eq 12, 3) := by decide +kernel
theorem dX8_needs_10 : decode cX8_needs 10 = .ok (.iload_n 3, 1) := by decide +kernel
theorem dX8_needs_11 : decode cX8_needs 11 = .ok (.iconst 0, 1) := by decide +kernel
theorem dX8_needs_12 : decode cX8_needs 12 = .ok (.iconst 1, 1) := by decide +kernel
theorem dX8_needs_13 : decode cX8_needs 13 = .ok (.invokestatic 114, 3) := by decide +kernel
theorem dX8_needs_16 : decode cX8_needs 16 = .ok (.ifCond .ne 5, 3) := by decide +kernel
theorem dX8_needs_19 : decode cX8_needs 19 = .ok (.iconst (-1), 1) := by decide +kernel
theorem dX8_needs_20 : decode cX8_needs 20 = .ok (.ireturn, 1) := by decide +kernel
theorem dX8_needs_21 : decode cX8_needs 21 = .ok (.iconst 0, 1) := by decide +kernel
theorem dX8_needs_22 : decode cX8_needs 22 = .ok (.istore 4, 2) := by decide +kernel
theorem dX8_needs_24 : decode cX8_needs 24 = .ok (.iload 4, 2) := by decide +kernel
theorem dX8_needs_26 : decode cX8_needs 26 = .ok (.aload_n 0, 1) := by decide +kernel
theorem dX8_needs_27 : decode cX8_needs 27 = .ok (.getfield 111, 3) := by decide +kernel
theorem dX8_needs_30 : decode cX8_needs 30 = .ok (.if_icmp .ge 23, 3) := by decide +kernel
theorem dX8_needs_33 : decode cX8_needs 33 = .ok (.aload_n 0, 1) := by decide +kernel
theorem dX8_needs_34 : decode cX8_needs 34 = .ok (.getfield 82, 3) := by decide +kernel
theorem dX8_needs_37 : decode cX8_needs 37 = .ok (.iload 4, 2) := by decide +kernel
theorem dX8_needs_39 : decode cX8_needs 39 = .ok (.aload_n 0, 1) := by decide +kernel
theorem dX8_needs_40 : decode cX8_needs 40 = .ok (.getfield 13, 3) := by decide +kernel
theorem dX8_needs_43 : decode cX8_needs 43 = .ok (.iload 4, 2) := by decide +kernel
theorem dX8_needs_45 : decode cX8_needs 45 = .ok (.iaload, 1) := by decide +kernel
theorem dX8_needs_46 : decode cX8_needs 46 = .ok (.iastore, 1) := by decide +kernel
theorem dX8_needs_47 : decode cX8_needs 47 = .ok (.iinc 4 1, 3) := by decide +kernel
theorem dX8_needs_50 : decode cX8_needs 50 = .ok (.goto (-26), 3) := by decide +kernel
theorem dX8_needs_53 : decode cX8_needs 53 = .ok (.iload_n 1, 1) := by decide +kernel
theorem dX8_needs_54 : decode cX8_needs 54 = .ok (.istore 4, 2) := by decide +kernel
theorem dX8_needs_56 : decode cX8_needs 56 = .ok (.iconst 0, 1) := by decide +kernel
theorem dX8_needs_57 : decode cX8_needs 57 = .ok (.istore 5, 2) := by decide +kernel
theorem dX8_needs_59 : decode cX8_needs 59 = .ok (.iconst 0, 1) := by decide +kernel
theorem dX8_needs_60 : decode cX8_needs 60 = .ok (.istore 6, 2) := by decide +kernel
theorem dX8_needs_62 : decode cX8_needs 62 = .ok (.iconst 0, 1) := by decide +kernel
theorem dX8_needs_63 : decode cX8_needs 63 = .ok (.istore 7, 2) := by decide +kernel
theorem dX8_needs_65 : decode cX8_needs 65 = .ok (.iload 7, 2) := by decide +kernel
theorem dX8_needs_67 : decode cX8_needs 67 = .ok (.iload_n 2, 1) := by decide +kernel
theorem dX8_needs_68 : decode cX8_needs 68 = .ok (.if_icmp .ge 101, 3) := by decide +kernel
theorem dX8_needs_71 : decode cX8_needs 71 = .ok (.iconst 0, 1) := by decide +kernel
theorem dX8_needs_72 : decode cX8_needs 72 = .ok (.istore 8, 2) := by decide +kernel
theorem dX8_needs_74 : decode cX8_needs 74 = .ok (.iload 8, 2) := by decide +kernel
theorem dX8_needs_76 : decode cX8_needs 76 = .ok (.aload_n 0, 1) := by decide +kernel
theorem dX8_needs_77 : decode cX8_needs 77 = .ok (.getfield 111, 3) := by decide +kernel
theorem dX8_needs_80 : decode cX8_needs 80 = .ok (.if_icmp .ge 54, 3) := by decide +kernel
theorem dX8_needs_83 : decode cX8_needs 83 = .ok (.iload 4, 2) := by decide +kernel
theorem dX8_needs_85 : decode cX8_needs 85 = .ok (.ldc_w 310, 3) := by decide +kernel
theorem dX8_needs_88 : decode cX8_needs 88 = .ok (.imul, 1) := by decide +kernel
theorem dX8_needs_89 : decode cX8_needs 89 = .ok (.sipush 12345, 3) := by decide +kernel
theorem dX8_needs_92 : decode cX8_needs 92 = .ok (.iadd, 1) := by decide +kernel
theorem dX8_needs_93 : decode cX8_needs 93 = .ok (.istore 4, 2) := by decide +kernel
theorem dX8_needs_95 : decode cX8_needs 95 = .ok (.aload_n 0, 1) := by decide +kernel
theorem dX8_needs_96 : decode cX8_needs 96 = .ok (.getfield 13, 3) := by decide +kernel
theorem dX8_needs_99 : decode cX8_needs 99 = .ok (.iload 8, 2) := by decide +kernel
theorem dX8_needs_101 : decode cX8_needs 101 = .ok (.aload_n 0, 1) := by decide +kernel
theorem dX8_needs_102 : decode cX8_needs 102 = .ok (.getfield 7, 3) := by decide +kernel
theorem dX8_needs_105 : decode cX8_needs 105 = .ok (.iload 8, 2) := by decide +kernel
theorem dX8_needs_107 : decode cX8_needs 107 = .ok (.iaload, 1) := by decide +kernel
theorem dX8_needs_108 : decode cX8_needs 108 = .ok (.iconst 1, 1) := by decide +kernel
theorem dX8_needs_109 : decode cX8_needs 109 = .ok (.iadd, 1) := by decide +kernel
theorem dX8_needs_110 : decode cX8_needs 110 = .ok (.iload 4, 2) := by decide +kernel
theorem dX8_needs_112 : decode cX8_needs 112 = .ok (.bipush 8, 2) := by decide +kernel
theorem dX8_needs_114 : decode cX8_needs 114 = .ok (.iushr, 1) := by decide +kernel
theorem dX8_needs_115 : decode cX8_needs 115 = .ok (.bipush 100, 2) := by decide +kernel
theorem dX8_needs_117 : decode cX8_needs 117 = .ok (.aload_n 0, 1) := by decide +kernel
theorem dX8_needs_118 : decode cX8_needs 118 = .ok (.getfield 7, 3) := by decide +kernel
theorem dX8_needs_121 : decode cX8_needs 121 = .ok (.iload 8, 2) := by decide +kernel
theorem dX8_needs_123 : decode cX8_needs 123 = .ok (.iaload, 1) := by decide +kernel
theorem dX8_needs_124 : decode cX8_needs 124 = .ok (.isub, 1) := by decide +kernel
theorem dX8_needs_125 : decode cX8_needs 125 = .ok (.irem, 1) := by decide +kernel
theorem dX8_needs_126 : decode cX8_needs 126 = .ok (.iadd, 1) := by decide +kernel
theorem dX8_needs_127 : decode cX8_needs 127 = .ok (.iastore, 1) := by decide +kernel
theorem dX8_needs_128 : decode cX8_needs 128 = .ok (.iinc 8 1, 3) := by decide +kernel
theorem dX8_needs_131 : decode cX8_needs 131 = .ok (.goto (-57), 3) := by decide +kernel
theorem dX8_needs_134 : decode cX8_needs 134 = .ok (.aload_n 0, 1) := by decide +kernel
theorem dX8_needs_135 : decode cX8_needs 135 = .ok (.iconst 0, 1) := by decide +kernel
theorem dX8_needs_136 : decode cX8_needs 136 = .ok (.invokevirtual 300, 3) := by decide +kernel
theorem dX8_needs_139 : decode cX8_needs 139 = .ok (.aload_n 0, 1) := by decide +kernel
theorem dX8_needs_140 : decode cX8_needs 140 = .ok (.invokevirtual 304, 3) := by decide +kernel
theorem dX8_needs_143 : decode cX8_needs 143 = .ok (.istore 8, 2) := by decide +kernel
theorem dX8_needs_145 : decode cX8_needs 145 = .ok (.iload 5, 2) := by decide +kernel
theorem dX8_needs_147 : decode cX8_needs 147 = .ok (.iload 8, 2) := by decide +kernel
theorem dX8_needs_149 : decode cX8_needs 149 = .ok (.iadd, 1) := by decide +kernel
theorem dX8_needs_150 : decode cX8_needs 150 = .ok (.istore 5, 2) := by decide +kernel
theorem dX8_needs_152 : decode cX8_needs 152 = .ok (.iload 8, 2) := by decide +kernel
theorem dX8_needs_154 : decode cX8_needs 154 = .ok (.iload 6, 2) := by decide +kernel
theorem dX8_needs_156 : decode cX8_needs 156 = .ok (.if_icmp .le 7, 3) := by decide +kernel
theorem dX8_needs_159 : decode cX8_needs 159 = .ok (.iload 8, 2) := by decide +kernel
theorem dX8_needs_161 : decode cX8_needs 161 = .ok (.istore 6, 2) := by decide +kernel
theorem dX8_needs_163 : decode cX8_needs 163 = .ok (.iinc 7 1, 3) := by decide +kernel
theorem dX8_needs_166 : decode cX8_needs 166 = .ok (.goto (-101), 3) := by decide +kernel
theorem dX8_needs_169 : decode cX8_needs 169 = .ok (.iconst 0, 1) := by decide +kernel
theorem dX8_needs_170 : decode cX8_needs 170 = .ok (.istore 7, 2) := by decide +kernel
theorem dX8_needs_172 : decode cX8_needs 172 = .ok (.iload 7, 2) := by decide +kernel
theorem dX8_needs_174 : decode cX8_needs 174 = .ok (.aload_n 0, 1) := by decide +kernel
theorem dX8_needs_175 : decode cX8_needs 175 = .ok (.getfield 111, 3) := by decide +kernel
theorem dX8_needs_178 : decode cX8_needs 178 = .ok (.if_icmp .ge 23, 3) := by decide +kernel
theorem dX8_needs_181 : decode cX8_needs 181 = .ok (.aload_n 0, 1) := by decide +kernel
theorem dX8_needs_182 : decode cX8_needs 182 = .ok (.getfield 13, 3) := by decide +kernel
theorem dX8_needs_185 : decode cX8_needs 185 = .ok (.iload 7, 2) := by decide +kernel
theorem dX8_needs_187 : decode cX8_needs 187 = .ok (.aload_n 0, 1) := by decide +kernel
theorem dX8_needs_188 : decode cX8_needs 188 = .ok (.getfield 82, 3) := by decide +kernel
theorem dX8_needs_191 : decode cX8_needs 191 = .ok (.iload 7, 2) := by decide +kernel
theorem dX8_needs_193 : decode cX8_needs 193 = .ok (.iaload, 1) := by decide +kernel
theorem dX8_needs_194 : decode cX8_needs 194 = .ok (.iastore, 1) := by decide +kernel
theorem dX8_needs_195 : decode cX8_needs 195 = .ok (.iinc 7 1, 3) := by decide +kernel
theorem dX8_needs_198 : decode cX8_needs 198 = .ok (.goto (-26), 3) := by decide +kernel
theorem dX8_needs_201 : decode cX8_needs 201 = .ok (.iload_n 3, 1) := by decide +kernel
theorem dX8_needs_202 : decode cX8_needs 202 = .ok (.ifCond .ne 10, 3) := by decide +kernel
theorem dX8_needs_205 : decode cX8_needs 205 = .ok (.iload 5, 2) := by decide +kernel
theorem dX8_needs_207 : decode cX8_needs 207 = .ok (.iload_n 2, 1) := by decide +kernel
theorem dX8_needs_208 : decode cX8_needs 208 = .ok (.idiv, 1) := by decide +kernel
theorem dX8_needs_209 : decode cX8_needs 209 = .ok (.goto 5, 3) := by decide +kernel
theorem dX8_needs_212 : decode cX8_needs 212 = .ok (.iload 6, 2) := by decide +kernel
theorem dX8_needs_214 : decode cX8_needs 214 = .ok (.ireturn, 1) := by decide +kernel
theorem dX8_image_0 : decode cX8_image 0 = .ok (.aload_n 0, 1) := by decide +kernel
theorem dX8_image_1 : decode cX8_image 1 = .ok (.iconst 1, 1) := by decide +kernel
theorem dX8_image_2 : decode cX8_image 2 = .ok (.putfield 311, 3) := by decide +kernel
theorem dX8_image_5 : decode cX8_image 5 = .ok (.aload_n 0, 1) := by decide +kernel
theorem dX8_image_6 : decode cX8_image 6 = .ok (.aload_n 0, 1) := by decide +kernel
theorem dX8_image_7 : decode cX8_image 7 = .ok (.getfield 111, 3) := by decide +kernel
theorem dX8_image_10 : decode cX8_image 10 = .ok (.putfield 314, 3) := by decide +kernel
theorem dX8_image_13 : decode cX8_image 13 = .ok (.iconst 0, 1) := by decide +kernel
theorem dX8_image_14 : decode cX8_image 14 = .ok (.istore_n 1, 1) := by decide +kernel
theorem dX8_image_15 : decode cX8_image 15 = .ok (.iload_n 1, 1) := by decide +kernel
theorem dX8_image_16 : decode cX8_image 16 = .ok (.aload_n 0, 1) := by decide +kernel
theorem dX8_image_17 : decode cX8_image 17 = .ok (.getfield 111, 3) := by decide +kernel
theorem dX8_image_20 : decode cX8_image 20 = .ok (.if_icmp .ge 21, 3) := by decide +kernel
theorem dX8_image_23 : decode cX8_image 23 = .ok (.aload_n 0, 1) := by decide +kernel
theorem dX8_image_24 : decode cX8_image 24 = .ok (.getfield 85, 3) := by decide +kernel
theorem dX8_image_27 : decode cX8_image 27 = .ok (.iload_n 1, 1) := by decide +kernel
theorem dX8_image_28 : decode cX8_image 28 = .ok (.aload_n 0, 1) := by decide +kernel
theorem dX8_image_29 : decode cX8_image 29 = .ok (.getfield 16, 3) := by decide +kernel
theorem dX8_image_32 : decode cX8_image 32 = .ok (.iload_n 1, 1) := by decide +kernel
theorem dX8_image_33 : decode cX8_image 33 = .ok (.iaload, 1) := by decide +kernel
theorem dX8_image_34 : decode cX8_image 34 = .ok (.iastore, 1) := by decide +kernel
theorem dX8_image_35 : decode cX8_image 35 = .ok (.iinc 1 1, 3) := by decide +kernel
theorem dX8_image_38 : decode cX8_image 38 = .ok (.goto (-23), 3) := by decide +kernel
theorem dX8_image_41 : decode cX8_image 41 = .ok (.aload_n 0, 1) := by decide +kernel
theorem dX8_image_42 : decode cX8_image 42 = .ok (.getfield 111, 3) := by decide +kernel
theorem dX8_image_45 : decode cX8_image 45 = .ok (.ireturn, 1) := by decide +kernel
theorem dX8_back_0 : decode cX8_back 0 = .ok (.aload_n 0, 1) := by decide +kernel
theorem dX8_back_1 : decode cX8_back 1 = .ok (.getfield 311, 3) := by decide +kernel
theorem dX8_back_4 : decode cX8_back 4 = .ok (.ifCond .ne 6, 3) := by decide +kernel
theorem dX8_back_7 : decode cX8_back 7 = .ok (.bipush (-5), 2) := by decide +kernel
theorem dX8_back_9 : decode cX8_back 9 = .ok (.ireturn, 1) := by decide +kernel
theorem dX8_back_10 : decode cX8_back 10 = .ok (.iconst 0, 1) := by decide +kernel
theorem dX8_back_11 : decode cX8_back 11 = .ok (.istore_n 1, 1) := by decide +kernel
theorem dX8_back_12 : decode cX8_back 12 = .ok (.iload_n 1, 1) := by decide +kernel
theorem dX8_back_13 : decode cX8_back 13 = .ok (.aload_n 0, 1) := by decide +kernel
theorem dX8_back_14 : decode cX8_back 14 = .ok (.getfield 314, 3) := by decide +kernel
theorem dX8_back_17 : decode cX8_back 17 = .ok (.if_icmp .ge 21, 3) := by decide +kernel
theorem dX8_back_20 : decode cX8_back 20 = .ok (.aload_n 0, 1) := by decide +kernel
theorem dX8_back_21 : decode cX8_back 21 = .ok (.getfield 16, 3) := by decide +kernel
theorem dX8_back_24 : decode cX8_back 24 = .ok (.iload_n 1, 1) := by decide +kernel
theorem dX8_back_25 : decode cX8_back 25 = .ok (.aload_n 0, 1) := by decide +kernel
theorem dX8_back_26 : decode cX8_back 26 = .ok (.getfield 85, 3) := by decide +kernel
theorem dX8_back_29 : decode cX8_back 29 = .ok (.iload_n 1, 1) := by decide +kernel
theorem dX8_back_30 : decode cX8_back 30 = .ok (.iaload, 1) := by decide +kernel
theorem dX8_back_31 : decode cX8_back 31 = .ok (.iastore, 1) := by decide +kernel
theorem dX8_back_32 : decode cX8_back 32 = .ok (.iinc 1 1, 3) := by decide +kernel
theorem dX8_back_35 : decode cX8_back 35 = .ok (.goto (-23), 3) := by decide +kernel
theorem dX8_back_38 : decode cX8_back 38 = .ok (.aload_n 0, 1) := by decide +kernel
theorem dX8_back_39 : decode cX8_back 39 = .ok (.getfield 314, 3) := by decide +kernel
theorem dX8_back_42 : decode cX8_back 42 = .ok (.ireturn, 1) := by decide +kernel
theorem dX8_isBody_0 : decode cX8_isBody 0 = .ok (.iload_n 1, 1) := by decide +kernel
theorem dX8_isBody_1 : decode cX8_isBody 1 = .ok (.iconst 0, 1) := by decide +kernel
theorem dX8_isBody_2 : decode cX8_isBody 2 = .ok (.aload_n 0, 1) := by decide +kernel
theorem dX8_isBody_3 : decode cX8_isBody 3 = .ok (.getfield 317, 3) := by decide +kernel
theorem dX8_isBody_6 : decode cX8_isBody 6 = .ok (.iconst 1, 1) := by decide +kernel
theorem dX8_isBody_7 : decode cX8_isBody 7 = .ok (.isub, 1) := by decide +kernel
theorem dX8_isBody_8 : decode cX8_isBody 8 = .ok (.invokestatic 114, 3) := by decide +kernel
theorem dX8_isBody_11 : decode cX8_isBody 11 = .ok (.ireturn, 1) := by decide +kernel
theorem dX8_ran_0 : decode cX8_ran 0 = .ok (.aload_n 0, 1) := by decide +kernel
theorem dX8_ran_1 : decode cX8_ran 1 = .ok (.getfield 320, 3) := by decide +kernel
theorem dX8_ran_4 : decode cX8_ran 4 = .ok (.bipush 24, 2) := by decide +kernel
theorem dX8_ran_6 : decode cX8_ran 6 = .ok (.if_icmp .ge 13, 3) := by decide +kernel
theorem dX8_ran_9 : decode cX8_ran 9 = .ok (.aload_n 0, 1) := by decide +kernel
theorem dX8_ran_10 : decode cX8_ran 10 = .ok (.getfield 91, 3) := by decide +kernel
theorem dX8_ran_13 : decode cX8_ran 13 = .ok (.aload_n 0, 1) := by decide +kernel
theorem dX8_ran_14 : decode cX8_ran 14 = .ok (.getfield 320, 3) := by decide +kernel
theorem dX8_ran_17 : decode cX8_ran 17 = .ok (.iload_n 1, 1) := by decide +kernel
theorem dX8_ran_18 : decode cX8_ran 18 = .ok (.iastore, 1) := by decide +kernel
theorem dX8_ran_19 : decode cX8_ran 19 = .ok (.aload_n 0, 1) := by decide +kernel
theorem dX8_ran_20 : decode cX8_ran 20 = .ok (.dup, 1) := by decide +kernel
theorem dX8_ran_21 : decode cX8_ran 21 = .ok (.getfield 320, 3) := by decide +kernel
theorem dX8_ran_24 : decode cX8_ran 24 = .ok (.iconst 1, 1) := by decide +kernel
theorem dX8_ran_25 : decode cX8_ran 25 = .ok (.iadd, 1) := by decide +kernel
theorem dX8_ran_26 : decode cX8_ran 26 = .ok (.putfield 320, 3) := by decide +kernel
theorem dX8_ran_29 : decode cX8_ran 29 = .ok (.return_, 1) := by decide +kernel
theorem dX8_trace_0 : decode cX8_trace 0 = .ok (.iload_n 1, 1) := by decide +kernel
theorem dX8_trace_1 : decode cX8_trace 1 = .ok (.ifCond .lt 26, 3) := by decide +kernel
theorem dX8_trace_4 : decode cX8_trace 4 = .ok (.iload_n 1, 1) := by decide +kernel
theorem dX8_trace_5 : decode cX8_trace 5 = .ok (.aload_n 0, 1) := by decide +kernel
theorem dX8_trace_6 : decode cX8_trace 6 = .ok (.getfield 320, 3) := by decide +kernel
theorem dX8_trace_9 : decode cX8_trace 9 = .ok (.if_icmp .ge 18, 3) := by decide +kernel
theorem dX8_trace_12 : decode cX8_trace 12 = .ok (.iload_n 1, 1) := by decide +kernel
theorem dX8_trace_13 : decode cX8_trace 13 = .ok (.bipush 24, 2) := by decide +kernel
theorem dX8_trace_15 : decode cX8_trace 15 = .ok (.if_icmp .ge 12, 3) := by decide +kernel
theorem dX8_trace_18 : decode cX8_trace 18 = .ok (.aload_n 0, 1) := by decide +kernel
theorem dX8_trace_19 : decode cX8_trace 19 = .ok (.getfield 91, 3) := by decide +kernel
theorem dX8_trace_22 : decode cX8_trace 22 = .ok (.iload_n 1, 1) := by decide +kernel
theorem dX8_trace_23 : decode cX8_trace 23 = .ok (.iaload, 1) := by decide +kernel
theorem dX8_trace_24 : decode cX8_trace 24 = .ok (.goto 4, 3) := by decide +kernel
theorem dX8_trace_27 : decode cX8_trace 27 = .ok (.iconst (-1), 1) := by decide +kernel
theorem dX8_trace_28 : decode cX8_trace 28 = .ok (.ireturn, 1) := by decide +kernel
theorem dX8_body_0 : decode cX8_body 0 = .ok (.iload_n 1, 1) := by decide +kernel
theorem dX8_body_1 : decode cX8_body 1 = .ok (.iconst 0, 1) := by decide +kernel
theorem dX8_body_2 : decode cX8_body 2 = .ok (.bipush 7, 2) := by decide +kernel
theorem dX8_body_4 : decode cX8_body 4 = .ok (.invokestatic 114, 3) := by decide +kernel
theorem dX8_body_7 : decode cX8_body 7 = .ok (.ifCond .ne 5, 3) := by decide +kernel
theorem dX8_body_10 : decode cX8_body 10 = .ok (.iconst (-1), 1) := by decide +kernel
theorem dX8_body_11 : decode cX8_body 11 = .ok (.ireturn, 1) := by decide +kernel
theorem dX8_body_12 : decode cX8_body 12 = .ok (.aload_n 0, 1) := by decide +kernel
theorem dX8_body_13 : decode cX8_body 13 = .ok (.getfield 317, 3) := by decide +kernel
theorem dX8_body_16 : decode cX8_body 16 = .ok (.bipush 50, 2) := by decide +kernel
theorem dX8_body_18 : decode cX8_body 18 = .ok (.if_icmp .ne 6, 3) := by decide +kernel
theorem dX8_body_21 : decode cX8_body 21 = .ok (.bipush (-3), 2) := by decide +kernel
theorem dX8_body_23 : decode cX8_body 23 = .ok (.ireturn, 1) := by decide +kernel
theorem dX8_body_24 : decode cX8_body 24 = .ok (.aload_n 0, 1) := by decide +kernel
theorem dX8_body_25 : decode cX8_body 25 = .ok (.getfield 88, 3) := by decide +kernel
theorem dX8_body_28 : decode cX8_body 28 = .ok (.aload_n 0, 1) := by decide +kernel
theorem dX8_body_29 : decode cX8_body 29 = .ok (.getfield 317, 3) := by decide +kernel
theorem dX8_body_32 : decode cX8_body 32 = .ok (.iload_n 1, 1) := by decide +kernel
theorem dX8_body_33 : decode cX8_body 33 = .ok (.iastore, 1) := by decide +kernel
theorem dX8_body_34 : decode cX8_body 34 = .ok (.aload_n 0, 1) := by decide +kernel
theorem dX8_body_35 : decode cX8_body 35 = .ok (.dup, 1) := by decide +kernel
theorem dX8_body_36 : decode cX8_body 36 = .ok (.getfield 317, 3) := by decide +kernel
theorem dX8_body_39 : decode cX8_body 39 = .ok (.iconst 1, 1) := by decide +kernel
theorem dX8_body_40 : decode cX8_body 40 = .ok (.iadd, 1) := by decide +kernel
theorem dX8_body_41 : decode cX8_body 41 = .ok (.putfield 317, 3) := by decide +kernel
theorem dX8_body_44 : decode cX8_body 44 = .ok (.aload_n 0, 1) := by decide +kernel
theorem dX8_body_45 : decode cX8_body 45 = .ok (.getfield 317, 3) := by decide +kernel
theorem dX8_body_48 : decode cX8_body 48 = .ok (.iconst 1, 1) := by decide +kernel
theorem dX8_body_49 : decode cX8_body 49 = .ok (.isub, 1) := by decide +kernel
theorem dX8_body_50 : decode cX8_body 50 = .ok (.ireturn, 1) := by decide +kernel
theorem dX8_isUnder_0 : decode cX8_isUnder 0 = .ok (.iload_n 1, 1) := by decide +kernel
theorem dX8_isUnder_1 : decode cX8_isUnder 1 = .ok (.ifCond .eq 55, 3) := by decide +kernel
theorem dX8_isUnder_4 : decode cX8_isUnder 4 = .ok (.iload_n 0, 1) := by decide +kernel
theorem dX8_isUnder_5 : decode cX8_isUnder 5 = .ok (.iload_n 1, 1) := by decide +kernel
theorem dX8_isUnder_6 : decode cX8_isUnder 6 = .ok (.if_icmp .eq 50, 3) := by decide +kernel
theorem dX8_isUnder_9 : decode cX8_isUnder 9 = .ok (.iload_n 1, 1) := by decide +kernel
theorem dX8_isUnder_10 : decode cX8_isUnder 10 = .ok (.iconst 1, 1) := by decide +kernel
theorem dX8_isUnder_11 : decode cX8_isUnder 11 = .ok (.if_icmp .ne 8, 3) := by decide +kernel
theorem dX8_isUnder_14 : decode cX8_isUnder 14 = .ok (.iload_n 0, 1) := by decide +kernel
theorem dX8_isUnder_15 : decode cX8_isUnder 15 = .ok (.iconst 4, 1) := by decide +kernel
theorem dX8_isUnder_16 : decode cX8_isUnder 16 = .ok (.if_icmp .eq 40, 3) := by decide +kernel
theorem dX8_isUnder_19 : decode cX8_isUnder 19 = .ok (.iload_n 1, 1) := by decide +kernel
theorem dX8_isUnder_20 : decode cX8_isUnder 20 = .ok (.iconst 2, 1) := by decide +kernel
theorem dX8_isUnder_21 : decode cX8_isUnder 21 = .ok (.if_icmp .ne 13, 3) := by decide +kernel
theorem dX8_isUnder_24 : decode cX8_isUnder 24 = .ok (.iload_n 0, 1) := by decide +kernel
theorem dX8_isUnder_25 : decode cX8_isUnder 25 = .ok (.iconst 3, 1) := by decide +kernel
theorem dX8_isUnder_26 : decode cX8_isUnder 26 = .ok (.if_icmp .eq 30, 3) := by decide +kernel
theorem dX8_isUnder_29 : decode cX8_isUnder 29 = .ok (.iload_n 0, 1) := by decide +kernel
theorem dX8_isUnder_30 : decode cX8_isUnder 30 = .ok (.iconst 5, 1) := by decide +kernel
theorem dX8_isUnder_31 : decode cX8_isUnder 31 = .ok (.if_icmp .eq 25, 3) := by decide +kernel
theorem dX8_isUnder_34 : decode cX8_isUnder 34 = .ok (.iload_n 1, 1) := by decide +kernel
theorem dX8_isUnder_35 : decode cX8_isUnder 35 = .ok (.iconst 3, 1) := by decide +kernel
theorem dX8_isUnder_36 : decode cX8_isUnder 36 = .ok (.if_icmp .ne 8, 3) := by decide +kernel
theorem dX8_isUnder_39 : decode cX8_isUnder 39 = .ok (.iload_n 0, 1) := by decide +kernel
theorem dX8_isUnder_40 : decode cX8_isUnder 40 = .ok (.iconst 5, 1) := by decide +kernel
theorem dX8_isUnder_41 : decode cX8_isUnder 41 = .ok (.if_icmp .eq 15, 3) := by decide +kernel
theorem dX8_isUnder_44 : decode cX8_isUnder 44 = .ok (.iload_n 1, 1) := by decide +kernel
theorem dX8_isUnder_45 : decode cX8_isUnder 45 = .ok (.bipush 6, 2) := by decide +kernel
theorem dX8_isUnder_47 : decode cX8_isUnder 47 = .ok (.if_icmp .ne 13, 3) := by decide +kernel
theorem dX8_isUnder_50 : decode cX8_isUnder 50 = .ok (.iload_n 0, 1) := by decide +kernel
theorem dX8_isUnder_51 : decode cX8_isUnder 51 = .ok (.bipush 7, 2) := by decide +kernel
theorem dX8_isUnder_53 : decode cX8_isUnder 53 = .ok (.if_icmp .ne 7, 3) := by decide +kernel
theorem dX8_isUnder_56 : decode cX8_isUnder 56 = .ok (.iconst 1, 1) := by decide +kernel
theorem dX8_isUnder_57 : decode cX8_isUnder 57 = .ok (.goto 4, 3) := by decide +kernel
theorem dX8_isUnder_60 : decode cX8_isUnder 60 = .ok (.iconst 0, 1) := by decide +kernel
theorem dX8_isUnder_61 : decode cX8_isUnder 61 = .ok (.ireturn, 1) := by decide +kernel
theorem dX8_plainGives_0 : decode cX8_plainGives 0 = .ok (.aload_n 0, 1) := by decide +kernel
theorem dX8_plainGives_1 : decode cX8_plainGives 1 = .ok (.iconst 1, 1) := by decide +kernel
theorem dX8_plainGives_2 : decode cX8_plainGives 2 = .ok (.invokevirtual 323, 3) := by decide +kernel
theorem dX8_plainGives_5 : decode cX8_plainGives 5 = .ok (.iload_n 2, 1) := by decide +kernel
theorem dX8_plainGives_6 : decode cX8_plainGives 6 = .ok (.iload_n 1, 1) := by decide +kernel
theorem dX8_plainGives_7 : decode cX8_plainGives 7 = .ok (.iadd, 1) := by decide +kernel
theorem dX8_plainGives_8 : decode cX8_plainGives 8 = .ok (.ireturn, 1) := by decide +kernel
theorem dX8_toldGives_0 : decode cX8_toldGives 0 = .ok (.aload_n 0, 1) := by decide +kernel
theorem dX8_toldGives_1 : decode cX8_toldGives 1 = .ok (.bipush 70, 2) := by decide +kernel
theorem dX8_toldGives_3 : decode cX8_toldGives 3 = .ok (.invokevirtual 323, 3) := by decide +kernel
theorem dX8_toldGives_6 : decode cX8_toldGives 6 = .ok (.aload_n 0, 1) := by decide +kernel
theorem dX8_toldGives_7 : decode cX8_toldGives 7 = .ok (.iload_n 1, 1) := by decide +kernel
theorem dX8_toldGives_8 : decode cX8_toldGives 8 = .ok (.iload_n 2, 1) := by decide +kernel
theorem dX8_toldGives_9 : decode cX8_toldGives 9 = .ok (.invokevirtual 326, 3) := by decide +kernel
theorem dX8_toldGives_12 : decode cX8_toldGives 12 = .ok (.iconst 2, 1) := by decide +kernel
theorem dX8_toldGives_13 : decode cX8_toldGives 13 = .ok (.imul, 1) := by decide +kernel
theorem dX8_toldGives_14 : decode cX8_toldGives 14 = .ok (.ireturn, 1) := by decide +kernel
theorem dX8_giving_0 : decode cX8_giving 0 = .ok (.aload_n 0, 1) := by decide +kernel
theorem dX8_giving_1 : decode cX8_giving 1 = .ok (.getfield 88, 3) := by decide +kernel
theorem dX8_giving_4 : decode cX8_giving 4 = .ok (.iload_n 1, 1) := by decide +kernel
theorem dX8_giving_5 : decode cX8_giving 5 = .ok (.iaload, 1) := by decide +kernel
theorem dX8_giving_6 : decode cX8_giving 6 = .ok (.iconst 1, 1) := by decide +kernel
theorem dX8_giving_7 : decode cX8_giving 7 = .ok (.invokestatic 329, 3) := by decide +kernel
theorem dX8_giving_10 : decode cX8_giving 10 = .ok (.ifCond .eq 18, 3) := by decide +kernel
theorem dX8_giving_13 : decode cX8_giving 13 = .ok (.aload_n 0, 1) := by decide +kernel
theorem dX8_giving_14 : decode cX8_giving 14 = .ok (.bipush 20, 2) := by decide +kernel
theorem dX8_giving_16 : decode cX8_giving 16 = .ok (.invokevirtual 323, 3) := by decide +kernel
theorem dX8_giving_19 : decode cX8_giving 19 = .ok (.aload_n 0, 1) := by decide +kernel
theorem dX8_giving_20 : decode cX8_giving 20 = .ok (.iload_n 1, 1) := by decide +kernel
theorem dX8_giving_21 : decode cX8_giving 21 = .ok (.iload_n 2, 1) := by decide +kernel
theorem dX8_giving_22 : decode cX8_giving 22 = .ok (.invokevirtual 326, 3) := by decide +kernel
theorem dX8_giving_25 : decode cX8_giving 25 = .ok (.iconst 3, 1) := by decide +kernel
theorem dX8_giving_26 : decode cX8_giving 26 = .ok (.iadd, 1) := by decide +kernel
theorem dX8_giving_27 : decode cX8_giving 27 = .ok (.ireturn, 1) := by decide +kernel
theorem dX8_giving_28 : decode cX8_giving 28 = .ok (.aload_n 0, 1) := by decide +kernel
theorem dX8_giving_29 : decode cX8_giving 29 = .ok (.getfield 88, 3) := by decide +kernel
theorem dX8_giving_32 : decode cX8_giving 32 = .ok (.iload_n 1, 1) := by decide +kernel
theorem dX8_giving_33 : decode cX8_giving 33 = .ok (.iaload, 1) := by decide +kernel
theorem dX8_giving_34 : decode cX8_giving 34 = .ok (.bipush 7, 2) := by decide +kernel
theorem dX8_giving_36 : decode cX8_giving 36 = .ok (.if_icmp .ne 18, 3) := by decide +kernel
theorem dX8_giving_39 : decode cX8_giving 39 = .ok (.aload_n 0, 1) := by decide +kernel
theorem dX8_giving_40 : decode cX8_giving 40 = .ok (.bipush 81, 2) := by decide +kernel
theorem dX8_giving_42 : decode cX8_giving 42 = .ok (.invokevirtual 323, 3) := by decide +kernel
theorem dX8_giving_45 : decode cX8_giving 45 = .ok (.aload_n 0, 1) := by decide +kernel
theorem dX8_giving_46 : decode cX8_giving 46 = .ok (.iload_n 1, 1) := by decide +kernel
theorem dX8_giving_47 : decode cX8_giving 47 = .ok (.iload_n 2, 1) := by decide +kernel
theorem dX8_giving_48 : decode cX8_giving 48 = .ok (.invokevirtual 332, 3) := by decide +kernel
theorem dX8_giving_51 : decode cX8_giving 51 = .ok (.iconst 1, 1) := by decide +kernel
theorem dX8_giving_52 : decode cX8_giving 52 = .ok (.isub, 1) := by decide +kernel
theorem dX8_giving_53 : decode cX8_giving 53 = .ok (.ireturn, 1) := by decide +kernel
theorem dX8_giving_54 : decode cX8_giving 54 = .ok (.aload_n 0, 1) := by decide +kernel
theorem dX8_giving_55 : decode cX8_giving 55 = .ok (.getfield 88, 3) := by decide +kernel
theorem dX8_giving_58 : decode cX8_giving 58 = .ok (.iload_n 1, 1) := by decide +kernel
theorem dX8_giving_59 : decode cX8_giving 59 = .ok (.iaload, 1) := by decide +kernel
theorem dX8_giving_60 : decode cX8_giving 60 = .ok (.bipush 6, 2) := by decide +kernel
theorem dX8_giving_62 : decode cX8_giving 62 = .ok (.if_icmp .ne 12, 3) := by decide +kernel
theorem dX8_giving_65 : decode cX8_giving 65 = .ok (.aload_n 0, 1) := by decide +kernel
theorem dX8_giving_66 : decode cX8_giving 66 = .ok (.iload_n 1, 1) := by decide +kernel
theorem dX8_giving_67 : decode cX8_giving 67 = .ok (.iload_n 2, 1) := by decide +kernel
theorem dX8_giving_68 : decode cX8_giving 68 = .ok (.invokevirtual 332, 3) := by decide +kernel
theorem dX8_giving_71 : decode cX8_giving 71 = .ok (.goto 9, 3) := by decide +kernel
theorem dX8_giving_74 : decode cX8_giving 74 = .ok (.aload_n 0, 1) := by decide +kernel
theorem dX8_giving_75 : decode cX8_giving 75 = .ok (.iload_n 1, 1) := by decide +kernel
theorem dX8_giving_76 : decode cX8_giving 76 = .ok (.iload_n 2, 1) := by decide +kernel
theorem dX8_giving_77 : decode cX8_giving 77 = .ok (.invokevirtual 326, 3) := by decide +kernel
theorem dX8_giving_80 : decode cX8_giving 80 = .ok (.ireturn, 1) := by decide +kernel
theorem dX8_plainHolds_0 : decode cX8_plainHolds 0 = .ok (.aload_n 0, 1) := by decide +kernel
theorem dX8_plainHolds_1 : decode cX8_plainHolds 1 = .ok (.bipush 10, 2) := by decide +kernel
theorem dX8_plainHolds_3 : decode cX8_plainHolds 3 = .ok (.invokevirtual 323, 3) := by decide +kernel
theorem dX8_plainHolds_6 : decode cX8_plainHolds 6 = .ok (.aload_n 0, 1) := by decide +kernel
theorem dX8_plainHolds_7 : decode cX8_plainHolds 7 = .ok (.iload_n 1, 1) := by decide +kernel
theorem dX8_plainHolds_8 : decode cX8_plainHolds 8 = .ok (.iload_n 2, 1) := by decide +kernel
theorem dX8_plainHolds_9 : decode cX8_plainHolds 9 = .ok (.invokevirtual 335, 3) := by decide +kernel
theorem dX8_plainHolds_12 : decode cX8_plainHolds 12 = .ok (.iconst 2, 1) := by decide +kernel
theorem dX8_plainHolds_13 : decode cX8_plainHolds 13 = .ok (.imul, 1) := by decide +kernel
theorem dX8_plainHolds_14 : decode cX8_plainHolds 14 = .ok (.ireturn, 1) := by decide +kernel
theorem dX8_soonHolds_0 : decode cX8_soonHolds 0 = .ok (.aload_n 0, 1) := by decide +kernel
theorem dX8_soonHolds_1 : decode cX8_soonHolds 1 = .ok (.bipush 30, 2) := by decide +kernel
theorem dX8_soonHolds_3 : decode cX8_soonHolds 3 = .ok (.invokevirtual 323, 3) := by decide +kernel
theorem dX8_soonHolds_6 : decode cX8_soonHolds 6 = .ok (.aload_n 0, 1) := by decide +kernel
theorem dX8_soonHolds_7 : decode cX8_soonHolds 7 = .ok (.iload_n 1, 1) := by decide +kernel
theorem dX8_soonHolds_8 : decode cX8_soonHolds 8 = .ok (.iload_n 2, 1) := by decide +kernel
theorem dX8_soonHolds_9 : decode cX8_soonHolds 9 = .ok (.invokevirtual 338, 3) := by decide +kernel
theorem dX8_soonHolds_12 : decode cX8_soonHolds 12 = .ok (.ineg, 1) := by decide +kernel
theorem dX8_soonHolds_13 : decode cX8_soonHolds 13 = .ok (.ireturn, 1) := by decide +kernel
theorem dX8_holding_0 : decode cX8_holding 0 = .ok (.aload_n 0, 1) := by decide +kernel
theorem dX8_holding_1 : decode cX8_holding 1 = .ok (.getfield 88, 3) := by decide +kernel
theorem dX8_holding_4 : decode cX8_holding 4 = .ok (.iload_n 1, 1) := by decide +kernel
theorem dX8_holding_5 : decode cX8_holding 5 = .ok (.iaload, 1) := by decide +kernel
theorem dX8_holding_6 : decode cX8_holding 6 = .ok (.iconst 3, 1) := by decide +kernel
theorem dX8_holding_7 : decode cX8_holding 7 = .ok (.invokestatic 329, 3) := by decide +kernel
theorem dX8_holding_10 : decode cX8_holding 10 = .ok (.ifCond .eq 18, 3) := by decide +kernel
theorem dX8_holding_13 : decode cX8_holding 13 = .ok (.aload_n 0, 1) := by decide +kernel
theorem dX8_holding_14 : decode cX8_holding 14 = .ok (.bipush 41, 2) := by decide +kernel
theorem dX8_holding_16 : decode cX8_holding 16 = .ok (.invokevirtual 323, 3) := by decide +kernel
theorem dX8_holding_19 : decode cX8_holding 19 = .ok (.aload_n 0, 1) := by decide +kernel
theorem dX8_holding_20 : decode cX8_holding 20 = .ok (.iload_n 1, 1) := by decide +kernel
theorem dX8_holding_21 : decode cX8_holding 21 = .ok (.iload_n 2, 1) := by decide +kernel
theorem dX8_holding_22 : decode cX8_holding 22 = .ok (.iconst 1, 1) := by decide +kernel
theorem dX8_holding_23 : decode cX8_holding 23 = .ok (.iadd, 1) := by decide +kernel
theorem dX8_holding_24 : decode cX8_holding 24 = .ok (.invokevirtual 341, 3) := by decide +kernel
theorem dX8_holding_27 : decode cX8_holding 27 = .ok (.ireturn, 1) := by decide +kernel
theorem dX8_holding_28 : decode cX8_holding 28 = .ok (.aload_n 0, 1) := by decide +kernel
theorem dX8_holding_29 : decode cX8_holding 29 = .ok (.getfield 88, 3) := by decide +kernel
theorem dX8_holding_32 : decode cX8_holding 32 = .ok (.iload_n 1, 1) := by decide +kernel
theorem dX8_holding_33 : decode cX8_holding 33 = .ok (.iaload, 1) := by decide +kernel
theorem dX8_holding_34 : decode cX8_holding 34 = .ok (.bipush 7, 2) := by decide +kernel
theorem dX8_holding_36 : decode cX8_holding 36 = .ok (.if_icmp .ne 25, 3) := by decide +kernel
theorem dX8_holding_39 : decode cX8_holding 39 = .ok (.aload_n 0, 1) := by decide +kernel
theorem dX8_holding_40 : decode cX8_holding 40 = .ok (.bipush 80, 2) := by decide +kernel
theorem dX8_holding_42 : decode cX8_holding 42 = .ok (.invokevirtual 323, 3) := by decide +kernel
theorem dX8_holding_45 : decode cX8_holding 45 = .ok (.aload_n 0, 1) := by decide +kernel
theorem dX8_holding_46 : decode cX8_holding 46 = .ok (.iload_n 1, 1) := by decide +kernel
theorem dX8_holding_47 : decode cX8_holding 47 = .ok (.iload_n 2, 1) := by decide +kernel
theorem dX8_holding_48 : decode cX8_holding 48 = .ok (.invokevirtual 338, 3) := by decide +kernel
theorem dX8_holding_51 : decode cX8_holding 51 = .ok (.istore_n 3, 1) := by decide +kernel
theorem dX8_holding_52 : decode cX8_holding 52 = .ok (.iload_n 3, 1) := by decide +kernel
theorem dX8_holding_53 : decode cX8_holding 53 = .ok (.aload_n 0, 1) := by decide +kernel
theorem dX8_holding_54 : decode cX8_holding 54 = .ok (.iload_n 1, 1) := by decide +kernel
theorem dX8_holding_55 : decode cX8_holding 55 = .ok (.iconst 2, 1) := by decide +kernel
theorem dX8_holding_56 : decode cX8_holding 56 = .ok (.invokevirtual 344, 3) := by decide +kernel
theorem dX8_holding_59 : decode cX8_holding 59 = .ok (.iadd, 1) := by decide +kernel
theorem dX8_holding_60 : decode cX8_holding 60 = .ok (.ireturn, 1) := by decide +kernel
theorem dX8_holding_61 : decode cX8_holding 61 = .ok (.aload_n 0, 1) := by decide +kernel
theorem dX8_holding_62 : decode cX8_holding 62 = .ok (.getfield 88, 3) := by decide +kernel
theorem dX8_holding_65 : decode cX8_holding 65 = .ok (.iload_n 1, 1) := by decide +kernel
theorem dX8_holding_66 : decode cX8_holding 66 = .ok (.iaload, 1) := by decide +kernel
theorem dX8_holding_67 : decode cX8_holding 67 = .ok (.iconst 2, 1) := by decide +kernel
theorem dX8_holding_68 : decode cX8_holding 68 = .ok (.if_icmp .ne 12, 3) := by decide +kernel
theorem dX8_holding_71 : decode cX8_holding 71 = .ok (.aload_n 0, 1) := by decide +kernel
theorem dX8_holding_72 : decode cX8_holding 72 = .ok (.iload_n 1, 1) := by decide +kernel
theorem dX8_holding_73 : decode cX8_holding 73 = .ok (.iload_n 2, 1) := by decide +kernel
theorem dX8_holding_74 : decode cX8_holding 74 = .ok (.invokevirtual 341, 3) := by decide +kernel
theorem dX8_holding_77 : decode cX8_holding 77 = .ok (.goto 9, 3) := by decide +kernel
theorem dX8_holding_80 : decode cX8_holding 80 = .ok (.aload_n 0, 1) := by decide +kernel
theorem dX8_holding_81 : decode cX8_holding 81 = .ok (.iload_n 1, 1) := by decide +kernel
theorem dX8_holding_82 : decode cX8_holding 82 = .ok (.iload_n 2, 1) := by decide +kernel
theorem dX8_holding_83 : decode cX8_holding 83 = .ok (.invokevirtual 338, 3) := by decide +kernel
theorem dX8_holding_86 : decode cX8_holding 86 = .ok (.ireturn, 1) := by decide +kernel
theorem dX8_plainKnows_0 : decode cX8_plainKnows 0 = .ok (.aload_n 0, 1) := by decide +kernel
theorem dX8_plainKnows_1 : decode cX8_plainKnows 1 = .ok (.bipush 11, 2) := by decide +kernel
theorem dX8_plainKnows_3 : decode cX8_plainKnows 3 = .ok (.invokevirtual 323, 3) := by decide +kernel
theorem dX8_plainKnows_6 : decode cX8_plainKnows 6 = .ok (.iload_n 2, 1) := by decide +kernel
theorem dX8_plainKnows_7 : decode cX8_plainKnows 7 = .ok (.iload_n 1, 1) := by decide +kernel
theorem dX8_plainKnows_8 : decode cX8_plainKnows 8 = .ok (.ixor, 1) := by decide +kernel
theorem dX8_plainKnows_9 : decode cX8_plainKnows 9 = .ok (.ireturn, 1) := by decide +kernel
theorem dX8_wishKnows_0 : decode cX8_wishKnows 0 = .ok (.aload_n 0, 1) := by decide +kernel
theorem dX8_wishKnows_1 : decode cX8_wishKnows 1 = .ok (.bipush 40, 2) := by decide +kernel
theorem dX8_wishKnows_3 : decode cX8_wishKnows 3 = .ok (.invokevirtual 323, 3) := by decide +kernel
theorem dX8_wishKnows_6 : decode cX8_wishKnows 6 = .ok (.aload_n 0, 1) := by decide +kernel
theorem dX8_wishKnows_7 : decode cX8_wishKnows 7 = .ok (.iload_n 1, 1) := by decide +kernel
theorem dX8_wishKnows_8 : decode cX8_wishKnows 8 = .ok (.iload_n 2, 1) := by decide +kernel
theorem dX8_wishKnows_9 : decode cX8_wishKnows 9 = .ok (.invokevirtual 347, 3) := by decide +kernel
theorem dX8_wishKnows_12 : decode cX8_wishKnows 12 = .ok (.iconst 3, 1) := by decide +kernel
theorem dX8_wishKnows_13 : decode cX8_wishKnows 13 = .ok (.imul, 1) := by decide +kernel
theorem dX8_wishKnows_14 : decode cX8_wishKnows 14 = .ok (.ireturn, 1) := by decide +kernel
theorem dX8_knowing_0 : decode cX8_knowing 0 = .ok (.aload_n 0, 1) := by decide +kernel
theorem dX8_knowing_1 : decode cX8_knowing 1 = .ok (.getfield 88, 3) := by decide +kernel
theorem dX8_knowing_4 : decode cX8_knowing 4 = .ok (.iload_n 1, 1) := by decide +kernel
theorem dX8_knowing_5 : decode cX8_knowing 5 = .ok (.iaload, 1) := by decide +kernel
theorem dX8_knowing_6 : decode cX8_knowing 6 = .ok (.iconst 5, 1) := by decide +kernel
theorem dX8_knowing_7 : decode cX8_knowing 7 = .ok (.if_icmp .ne 25, 3) := by decide +kernel
theorem dX8_knowing_10 : decode cX8_knowing 10 = .ok (.aload_n 0, 1) := by decide +kernel
theorem dX8_knowing_11 : decode cX8_knowing 11 = .ok (.bipush 60, 2) := by decide +kernel
theorem dX8_knowing_13 : decode cX8_knowing 13 = .ok (.invokevirtual 323, 3) := by decide +kernel
theorem dX8_knowing_16 : decode cX8_knowing 16 = .ok (.aload_n 0, 1) := by decide +kernel
theorem dX8_knowing_17 : decode cX8_knowing 17 = .ok (.iload_n 1, 1) := by decide +kernel
theorem dX8_knowing_18 : decode cX8_knowing 18 = .ok (.iload_n 2, 1) := by decide +kernel
theorem dX8_knowing_19 : decode cX8_knowing 19 = .ok (.invokevirtual 350, 3) := by decide +kernel
theorem dX8_knowing_22 : decode cX8_knowing 22 = .ok (.istore_n 3, 1) := by decide +kernel
theorem dX8_knowing_23 : decode cX8_knowing 23 = .ok (.iload_n 3, 1) := by decide +kernel
theorem dX8_knowing_24 : decode cX8_knowing 24 = .ok (.aload_n 0, 1) := by decide +kernel
theorem dX8_knowing_25 : decode cX8_knowing 25 = .ok (.iload_n 1, 1) := by decide +kernel
theorem dX8_knowing_26 : decode cX8_knowing 26 = .ok (.iconst 2, 1) := by decide +kernel
theorem dX8_knowing_27 : decode cX8_knowing 27 = .ok (.invokevirtual 335, 3) := by decide +kernel
theorem dX8_knowing_30 : decode cX8_knowing 30 = .ok (.isub, 1) := by decide +kernel
theorem dX8_knowing_31 : decode cX8_knowing 31 = .ok (.ireturn, 1) := by decide +kernel
theorem dX8_knowing_32 : decode cX8_knowing 32 = .ok (.aload_n 0, 1) := by decide +kernel
theorem dX8_knowing_33 : decode cX8_knowing 33 = .ok (.getfield 88, 3) := by decide +kernel
theorem dX8_knowing_36 : decode cX8_knowing 36 = .ok (.iload_n 1, 1) := by decide +kernel
theorem dX8_knowing_37 : decode cX8_knowing 37 = .ok (.iaload, 1) := by decide +kernel
theorem dX8_knowing_38 : decode cX8_knowing 38 = .ok (.iconst 3, 1) := by decide +kernel
theorem dX8_knowing_39 : decode cX8_knowing 39 = .ok (.if_icmp .ne 12, 3) := by decide +kernel
theorem dX8_knowing_42 : decode cX8_knowing 42 = .ok (.aload_n 0, 1) := by decide +kernel
theorem dX8_knowing_43 : decode cX8_knowing 43 = .ok (.iload_n 1, 1) := by decide +kernel
theorem dX8_knowing_44 : decode cX8_knowing 44 = .ok (.iload_n 2, 1) := by decide +kernel
theorem dX8_knowing_45 : decode cX8_knowing 45 = .ok (.invokevirtual 350, 3) := by decide +kernel
theorem dX8_knowing_48 : decode cX8_knowing 48 = .ok (.goto 9, 3) := by decide +kernel
theorem dX8_knowing_51 : decode cX8_knowing 51 = .ok (.aload_n 0, 1) := by decide +kernel
theorem dX8_knowing_52 : decode cX8_knowing 52 = .ok (.iload_n 1, 1) := by decide +kernel
theorem dX8_knowing_53 : decode cX8_knowing 53 = .ok (.iload_n 2, 1) := by decide +kernel
theorem dX8_knowing_54 : decode cX8_knowing 54 = .ok (.invokevirtual 347, 3) := by decide +kernel
theorem dX8_knowing_57 : decode cX8_knowing 57 = .ok (.ireturn, 1) := by decide +kernel
theorem dX8_plainTells_0 : decode cX8_plainTells 0 = .ok (.aload_n 0, 1) := by decide +kernel
theorem dX8_plainTells_1 : decode cX8_plainTells 1 = .ok (.iconst 2, 1) := by decide +kernel
theorem dX8_plainTells_2 : decode cX8_plainTells 2 = .ok (.invokevirtual 323, 3) := by decide +kernel
theorem dX8_plainTells_5 : decode cX8_plainTells 5 = .ok (.aload_n 0, 1) := by decide +kernel
theorem dX8_plainTells_6 : decode cX8_plainTells 6 = .ok (.iload_n 1, 1) := by decide +kernel
theorem dX8_plainTells_7 : decode cX8_plainTells 7 = .ok (.iload_n 2, 1) := by decide +kernel
theorem dX8_plainTells_8 : decode cX8_plainTells 8 = .ok (.invokevirtual 353, 3) := by decide +kernel
theorem dX8_plainTells_11 : decode cX8_plainTells 11 = .ok (.istore_n 3, 1) := by decide +kernel
theorem dX8_plainTells_12 : decode cX8_plainTells 12 = .ok (.iload_n 3, 1) := by decide +kernel
theorem dX8_plainTells_13 : decode cX8_plainTells 13 = .ok (.aload_n 0, 1) := by decide +kernel
theorem dX8_plainTells_14 : decode cX8_plainTells 14 = .ok (.iload_n 1, 1) := by decide +kernel
theorem dX8_plainTells_15 : decode cX8_plainTells 15 = .ok (.iconst 1, 1) := by decide +kernel
theorem dX8_plainTells_16 : decode cX8_plainTells 16 = .ok (.invokevirtual 344, 3) := by decide +kernel
theorem dX8_plainTells_19 : decode cX8_plainTells 19 = .ok (.isub, 1) := by decide +kernel
theorem dX8_plainTells_20 : decode cX8_plainTells 20 = .ok (.ireturn, 1) := by decide +kernel
theorem dX8_telling_0 : decode cX8_telling 0 = .ok (.aload_n 0, 1) := by decide +kernel
theorem dX8_telling_1 : decode cX8_telling 1 = .ok (.getfield 88, 3) := by decide +kernel
theorem dX8_telling_4 : decode cX8_telling 4 = .ok (.iload_n 1, 1) := by decide +kernel
theorem dX8_telling_5 : decode cX8_telling 5 = .ok (.iaload, 1) := by decide +kernel
theorem dX8_telling_6 : decode cX8_telling 6 = .ok (.iconst 4, 1) := by decide +kernel
theorem dX8_telling_7 : decode cX8_telling 7 = .ok (.if_icmp .ne 18, 3) := by decide +kernel
theorem dX8_telling_10 : decode cX8_telling 10 = .ok (.aload_n 0, 1) := by decide +kernel
theorem dX8_telling_11 : decode cX8_telling 11 = .ok (.bipush 50, 2) := by decide +kernel
theorem dX8_telling_13 : decode cX8_telling 13 = .ok (.invokevirtual 323, 3) := by decide +kernel
theorem dX8_telling_16 : decode cX8_telling 16 = .ok (.aload_n 0, 1) := by decide +kernel
theorem dX8_telling_17 : decode cX8_telling 17 = .ok (.iload_n 1, 1) := by decide +kernel
theorem dX8_telling_18 : decode cX8_telling 18 = .ok (.iload_n 2, 1) := by decide +kernel
theorem dX8_telling_19 : decode cX8_telling 19 = .ok (.invokevirtual 356, 3) := by decide +kernel
theorem dX8_telling_22 : decode cX8_telling 22 = .ok (.iconst 5, 1) := by decide +kernel
theorem dX8_telling_23 : decode cX8_telling 23 = .ok (.ixor, 1) := by decide +kernel
theorem dX8_telling_24 : decode cX8_telling 24 = .ok (.ireturn, 1) := by decide +kernel
theorem dX8_telling_25 : decode cX8_telling 25 = .ok (.aload_n 0, 1) := by decide +kernel
theorem dX8_telling_26 : decode cX8_telling 26 = .ok (.getfield 88, 3) := by decide +kernel
theorem dX8_telling_29 : decode cX8_telling 29 = .ok (.iload_n 1, 1) := by decide +kernel
theorem dX8_telling_30 : decode cX8_telling 30 = .ok (.iaload, 1) := by decide +kernel
theorem dX8_telling_31 : decode cX8_telling 31 = .ok (.iconst 5, 1) := by decide +kernel
theorem dX8_telling_32 : decode cX8_telling 32 = .ok (.if_icmp .ne 18, 3) := by decide +kernel
theorem dX8_telling_35 : decode cX8_telling 35 = .ok (.aload_n 0, 1) := by decide +kernel
theorem dX8_telling_36 : decode cX8_telling 36 = .ok (.bipush 61, 2) := by decide +kernel
theorem dX8_telling_38 : decode cX8_telling 38 = .ok (.invokevirtual 323, 3) := by decide +kernel
theorem dX8_telling_41 : decode cX8_telling 41 = .ok (.aload_n 0, 1) := by decide +kernel
theorem dX8_telling_42 : decode cX8_telling 42 = .ok (.iload_n 1, 1) := by decide +kernel
theorem dX8_telling_43 : decode cX8_telling 43 = .ok (.iload_n 2, 1) := by decide +kernel
theorem dX8_telling_44 : decode cX8_telling 44 = .ok (.invokevirtual 356, 3) := by decide +kernel
theorem dX8_telling_47 : decode cX8_telling 47 = .ok (.iconst 1, 1) := by decide +kernel
theorem dX8_telling_48 : decode cX8_telling 48 = .ok (.iadd, 1) := by decide +kernel
theorem dX8_telling_49 : decode cX8_telling 49 = .ok (.ireturn, 1) := by decide +kernel
theorem dX8_telling_50 : decode cX8_telling 50 = .ok (.aload_n 0, 1) := by decide +kernel
theorem dX8_telling_51 : decode cX8_telling 51 = .ok (.iload_n 1, 1) := by decide +kernel
theorem dX8_telling_52 : decode cX8_telling 52 = .ok (.iload_n 2, 1) := by decide +kernel
theorem dX8_telling_53 : decode cX8_telling 53 = .ok (.invokevirtual 356, 3) := by decide +kernel
theorem dX8_telling_56 : decode cX8_telling 56 = .ok (.ireturn, 1) := by decide +kernel
theorem dX8_act_0 : decode cX8_act 0 = .ok (.aload_n 0, 1) := by decide +kernel
theorem dX8_act_1 : decode cX8_act 1 = .ok (.iconst 0, 1) := by decide +kernel
theorem dX8_act_2 : decode cX8_act 2 = .ok (.putfield 320, 3) := by decide +kernel
theorem dX8_act_5 : decode cX8_act 5 = .ok (.aload_n 0, 1) := by decide +kernel
theorem dX8_act_6 : decode cX8_act 6 = .ok (.iload_n 1, 1) := by decide +kernel
theorem dX8_act_7 : decode cX8_act 7 = .ok (.invokevirtual 359, 3) := by decide +kernel
theorem dX8_act_10 : decode cX8_act 10 = .ok (.ifCond .eq 12, 3) := by decide +kernel
theorem dX8_act_13 : decode cX8_act 13 = .ok (.iload_n 2, 1) := by decide +kernel
theorem dX8_act_14 : decode cX8_act 14 = .ok (.iconst 0, 1) := by decide +kernel
theorem dX8_act_15 : decode cX8_act 15 = .ok (.iconst 3, 1) := by decide +kernel
theorem dX8_act_16 : decode cX8_act 16 = .ok (.invokestatic 114, 3) := by decide +kernel
theorem dX8_act_19 : decode cX8_act 19 = .ok (.ifCond .ne 5, 3) := by decide +kernel
theorem dX8_act_22 : decode cX8_act 22 = .ok (.iconst 0, 1) := by decide +kernel
theorem dX8_act_23 : decode cX8_act 23 = .ok (.ireturn, 1) := by decide +kernel
theorem dX8_act_24 : decode cX8_act 24 = .ok (.iload_n 2, 1) := by decide +kernel
theorem dX8_act_25 : decode cX8_act 25 = .ok (.ifCond .ne 12, 3) := by decide +kernel
theorem dX8_act_28 : decode cX8_act 28 = .ok (.aload_n 0, 1) := by decide +kernel
theorem dX8_act_29 : decode cX8_act 29 = .ok (.iload_n 1, 1) := by decide +kernel
theorem dX8_act_30 : decode cX8_act 30 = .ok (.iload_n 3, 1) := by decide +kernel
theorem dX8_act_31 : decode cX8_act 31 = .ok (.invokevirtual 335, 3) := by decide +kernel
theorem dX8_act_34 : decode cX8_act 34 = .ok (.goto 37, 3) := by decide +kernel
theorem dX8_act_37 : decode cX8_act 37 = .ok (.iload_n 2, 1) := by decide +kernel
theorem dX8_act_38 : decode cX8_act 38 = .ok (.iconst 1, 1) := by decide +kernel
theorem dX8_act_39 : decode cX8_act 39 = .ok (.if_icmp .ne 12, 3) := by decide +kernel
theorem dX8_act_42 : decode cX8_act 42 = .ok (.aload_n 0, 1) := by decide +kernel
theorem dX8_act_43 : decode cX8_act 43 = .ok (.iload_n 1, 1) := by decide +kernel
theorem dX8_act_44 : decode cX8_act 44 = .ok (.iload_n 3, 1) := by decide +kernel
theorem dX8_act_45 : decode cX8_act 45 = .ok (.invokevirtual 353, 3) := by decide +kernel
theorem dX8_act_48 : decode cX8_act 48 = .ok (.goto 23, 3) := by decide +kernel
theorem dX8_act_51 : decode cX8_act 51 = .ok (.iload_n 2, 1) := by decide +kernel
theorem dX8_act_52 : decode cX8_act 52 = .ok (.iconst 2, 1) := by decide +kernel
theorem dX8_act_53 : decode cX8_act 53 = .ok (.if_icmp .ne 12, 3) := by decide +kernel
theorem dX8_act_56 : decode cX8_act 56 = .ok (.aload_n 0, 1) := by decide +kernel
theorem dX8_act_57 : decode cX8_act 57 = .ok (.iload_n 1, 1) := by decide +kernel
theorem dX8_act_58 : decode cX8_act 58 = .ok (.iload_n 3, 1) := by decide +kernel
theorem dX8_act_59 : decode cX8_act 59 = .ok (.invokevirtual 344, 3) := by decide +kernel
theorem dX8_act_62 : decode cX8_act 62 = .ok (.goto 9, 3) := by decide +kernel
theorem dX8_act_65 : decode cX8_act 65 = .ok (.aload_n 0, 1) := by decide +kernel
theorem dX8_act_66 : decode cX8_act 66 = .ok (.iload_n 1, 1) := by decide +kernel
theorem dX8_act_67 : decode cX8_act 67 = .ok (.iload_n 3, 1) := by decide +kernel
theorem dX8_act_68 : decode cX8_act 68 = .ok (.invokevirtual 362, 3) := by decide +kernel
theorem dX8_act_71 : decode cX8_act 71 = .ok (.ireturn, 1) := by decide +kernel
theorem dX8_namedMany_0 : decode cX8_namedMany 0 = .ok (.iconst 0, 1) := by decide +kernel
theorem dX8_namedMany_1 : decode cX8_namedMany 1 = .ok (.istore_n 1, 1) := by decide +kernel
theorem dX8_namedMany_2 : decode cX8_namedMany 2 = .ok (.iconst 0, 1) := by decide +kernel
theorem dX8_namedMany_3 : decode cX8_namedMany 3 = .ok (.istore_n 2, 1) := by decide +kernel
theorem dX8_namedMany_4 : decode cX8_namedMany 4 = .ok (.iload_n 2, 1) := by decide +kernel
theorem dX8_namedMany_5 : decode cX8_namedMany 5 = .ok (.aload_n 0, 1) := by decide +kernel
theorem dX8_namedMany_6 : decode cX8_namedMany 6 = .ok (.getfield 111, 3) := by decide +kernel
theorem dX8_namedMany_9 : decode cX8_namedMany 9 = .ok (.if_icmp .ge 21, 3) := by decide +kernel
theorem dX8_namedMany_12 : decode cX8_namedMany 12 = .ok (.aload_n 0, 1) := by decide +kernel
theorem dX8_namedMany_13 : decode cX8_namedMany 13 = .ok (.getfield 16, 3) := by decide +kernel
theorem dX8_namedMany_16 : decode cX8_namedMany 16 = .ok (.iload_n 2, 1) := by decide +kernel
theorem dX8_namedMany_17 : decode cX8_namedMany 17 = .ok (.iaload, 1) := by decide +kernel
theorem dX8_namedMany_18 : decode cX8_namedMany 18 = .ok (.ifCond .lt 6, 3) := by decide +kernel
theorem dX8_namedMany_21 : decode cX8_namedMany 21 = .ok (.iinc 1 1, 3) := by decide +kernel
theorem dX8_namedMany_24 : decode cX8_namedMany 24 = .ok (.iinc 2 1, 3) := by decide +kernel
theorem dX8_namedMany_27 : decode cX8_namedMany 27 = .ok (.goto (-23), 3) := by decide +kernel
theorem dX8_namedMany_30 : decode cX8_namedMany 30 = .ok (.iload_n 1, 1) := by decide +kernel
theorem dX8_namedMany_31 : decode cX8_namedMany 31 = .ok (.ireturn, 1) := by decide +kernel
theorem dX8_count_0 : decode cX8_count 0 = .ok (.iload_n 1, 1) := by decide +kernel
theorem dX8_count_1 : decode cX8_count 1 = .ok (.tableswitch 78 0 6 #[43, 48, 53, 58, 63, 68, 73], 43) := by decide +kernel
theorem dX8_count_44 : decode cX8_count 44 = .ok (.aload_n 0, 1) := by decide +kernel
theorem dX8_count_45 : decode cX8_count 45 = .ok (.getfield 111, 3) := by decide +kernel
theorem dX8_count_48 : decode cX8_count 48 = .ok (.ireturn, 1) := by decide +kernel
theorem dX8_count_49 : decode cX8_count 49 = .ok (.aload_n 0, 1) := by decide +kernel
theorem dX8_count_50 : decode cX8_count 50 = .ok (.getfield 141, 3) := by decide +kernel
theorem dX8_count_53 : decode cX8_count 53 = .ok (.ireturn, 1) := by decide +kernel
theorem dX8_count_54 : decode cX8_count 54 = .ok (.aload_n 0, 1) := by decide +kernel
theorem dX8_count_55 : decode cX8_count 55 = .ok (.invokevirtual 365, 3) := by decide +kernel
theorem dX8_count_58 : decode cX8_count 58 = .ok (.ireturn, 1) := by decide +kernel
theorem dX8_count_59 : decode cX8_count 59 = .ok (.aload_n 0, 1) := by decide +kernel
theorem dX8_count_60 : decode cX8_count 60 = .ok (.getfield 181, 3) := by decide +kernel
theorem dX8_count_63 : decode cX8_count 63 = .ok (.ireturn, 1) := by decide +kernel
theorem dX8_count_64 : decode cX8_count 64 = .ok (.aload_n 0, 1) := by decide +kernel
theorem dX8_count_65 : decode cX8_count 65 = .ok (.getfield 158, 3) := by decide +kernel
theorem dX8_count_68 : decode cX8_count 68 = .ok (.ireturn, 1) := by decide +kernel
theorem dX8_count_69 : decode cX8_count 69 = .ok (.aload_n 0, 1) := by decide +kernel
theorem dX8_count_70 : decode cX8_count 70 = .ok (.getfield 317, 3) := by decide +kernel
theorem dX8_count_73 : decode cX8_count 73 = .ok (.ireturn, 1) := by decide +kernel
theorem dX8_count_74 : decode cX8_count 74 = .ok (.aload_n 0, 1) := by decide +kernel
theorem dX8_count_75 : decode cX8_count 75 = .ok (.getfield 320, 3) := by decide +kernel
theorem dX8_count_78 : decode cX8_count 78 = .ok (.ireturn, 1) := by decide +kernel
theorem dX8_count_79 : decode cX8_count 79 = .ok (.iconst (-1), 1) := by decide +kernel
theorem dX8_count_80 : decode cX8_count 80 = .ok (.ireturn, 1) := by decide +kernel
theorem dX8_isShelf_0 : decode cX8_isShelf 0 = .ok (.iload_n 0, 1) := by decide +kernel
theorem dX8_isShelf_1 : decode cX8_isShelf 1 = .ok (.iconst 0, 1) := by decide +kernel
theorem dX8_isShelf_2 : decode cX8_isShelf 2 = .ok (.iconst 5, 1) := by decide +kernel
theorem dX8_isShelf_3 : decode cX8_isShelf 3 = .ok (.invokestatic 114, 3) := by decide +kernel
theorem dX8_isShelf_6 : decode cX8_isShelf 6 = .ok (.ireturn, 1) := by decide +kernel
theorem dX8_keep_0 : decode cX8_keep 0 = .ok (.iload_n 1, 1) := by decide +kernel
theorem dX8_keep_1 : decode cX8_keep 1 = .ok (.invokestatic 130, 3) := by decide +kernel
theorem dX8_keep_4 : decode cX8_keep 4 = .ok (.ifCond .eq 16, 3) := by decide +kernel
theorem dX8_keep_7 : decode cX8_keep 7 = .ok (.iload_n 2, 1) := by decide +kernel
theorem dX8_keep_8 : decode cX8_keep 8 = .ok (.iconst (-1), 1) := by decide +kernel
theorem dX8_keep_9 : decode cX8_keep 9 = .ok (.if_icmp .eq 13, 3) := by decide +kernel
theorem dX8_keep_12 : decode cX8_keep 12 = .ok (.aload_n 0, 1) := by decide +kernel
theorem dX8_keep_13 : decode cX8_keep 13 = .ok (.iload_n 2, 1) := by decide +kernel
theorem dX8_keep_14 : decode cX8_keep 14 = .ok (.invokevirtual 359, 3) := by decide +kernel
theorem dX8_keep_17 : decode cX8_keep 17 = .ok (.ifCond .ne 5, 3) := by decide +kernel
theorem dX8_keep_20 : decode cX8_keep 20 = .ok (.iconst (-1), 1) := by decide +kernel
theorem dX8_keep_21 : decode cX8_keep 21 = .ok (.ireturn, 1) := by decide +kernel
theorem dX8_keep_22 : decode cX8_keep 22 = .ok (.aload_n 0, 1) := by decide +kernel
theorem dX8_keep_23 : decode cX8_keep 23 = .ok (.getfield 94, 3) := by decide +kernel
theorem dX8_keep_26 : decode cX8_keep 26 = .ok (.iload_n 1, 1) := by decide +kernel
theorem dX8_keep_27 : decode cX8_keep 27 = .ok (.iload_n 2, 1) := by decide +kernel
theorem dX8_keep_28 : decode cX8_keep 28 = .ok (.iastore, 1) := by decide +kernel
theorem dX8_keep_29 : decode cX8_keep 29 = .ok (.iconst 1, 1) := by decide +kernel
theorem dX8_keep_30 : decode cX8_keep 30 = .ok (.ireturn, 1) := by decide +kernel
theorem dX8_row_0 : decode cX8_row 0 = .ok (.iload_n 1, 1) := by decide +kernel
theorem dX8_row_1 : decode cX8_row 1 = .ok (.invokestatic 130, 3) := by decide +kernel
theorem dX8_row_4 : decode cX8_row 4 = .ok (.ifCond .eq 18, 3) := by decide +kernel
theorem dX8_row_7 : decode cX8_row 7 = .ok (.iload_n 2, 1) := by decide +kernel
theorem dX8_row_8 : decode cX8_row 8 = .ok (.iconst 0, 1) := by decide +kernel
theorem dX8_row_9 : decode cX8_row 9 = .ok (.iconst 4, 1) := by decide +kernel
theorem dX8_row_10 : decode cX8_row 10 = .ok (.invokestatic 114, 3) := by decide +kernel
theorem dX8_row_13 : decode cX8_row 13 = .ok (.ifCond .eq 9, 3) := by decide +kernel
theorem dX8_row_16 : decode cX8_row 16 = .ok (.iload_n 3, 1) := by decide +kernel
theorem dX8_row_17 : decode cX8_row 17 = .ok (.bipush 60, 2) := by decide +kernel
theorem dX8_row_19 : decode cX8_row 19 = .ok (.if_icmp .le 5, 3) := by decide +kernel
theorem dX8_row_22 : decode cX8_row 22 = .ok (.iconst (-1), 1) := by decide +kernel
theorem dX8_row_23 : decode cX8_row 23 = .ok (.ireturn, 1) := by decide +kernel
theorem dX8_row_24 : decode cX8_row 24 = .ok (.iload_n 3, 1) := by decide +kernel
theorem dX8_row_25 : decode cX8_row 25 = .ok (.ifCond .ge 6, 3) := by decide +kernel
theorem dX8_row_28 : decode cX8_row 28 = .ok (.bipush (-14), 2) := by decide +kernel
theorem dX8_row_30 : decode cX8_row 30 = .ok (.ireturn, 1) := by decide +kernel
theorem dX8_row_31 : decode cX8_row 31 = .ok (.aload_n 0, 1) := by decide +kernel
theorem dX8_row_32 : decode cX8_row 32 = .ok (.getfield 94, 3) := by decide +kernel
theorem dX8_row_35 : decode cX8_row 35 = .ok (.iload_n 1, 1) := by decide +kernel
theorem dX8_row_36 : decode cX8_row 36 = .ok (.bipush (-2), 2) := by decide +kernel
theorem dX8_row_38 : decode cX8_row 38 = .ok (.iload_n 2, 1) := by decide +kernel
theorem dX8_row_39 : decode cX8_row 39 = .ok (.isub, 1) := by decide +kernel
theorem dX8_row_40 : decode cX8_row 40 = .ok (.iastore, 1) := by decide +kernel
theorem dX8_row_41 : decode cX8_row 41 = .ok (.aload_n 0, 1) := by decide +kernel
theorem dX8_row_42 : decode cX8_row 42 = .ok (.getfield 97, 3) := by decide +kernel
theorem dX8_row_45 : decode cX8_row 45 = .ok (.iload_n 1, 1) := by decide +kernel
theorem dX8_row_46 : decode cX8_row 46 = .ok (.iload_n 3, 1) := by decide +kernel
theorem dX8_row_47 : decode cX8_row 47 = .ok (.iastore, 1) := by decide +kernel
theorem dX8_row_48 : decode cX8_row 48 = .ok (.bipush 60, 2) := by decide +kernel
theorem dX8_row_50 : decode cX8_row 50 = .ok (.iload_n 1, 1) := by decide +kernel
theorem dX8_row_51 : decode cX8_row 51 = .ok (.imul, 1) := by decide +kernel
theorem dX8_row_52 : decode cX8_row 52 = .ok (.istore 4, 2) := by decide +kernel
theorem dX8_row_54 : decode cX8_row 54 = .ok (.iload 4, 2) := by decide +kernel
theorem dX8_row_56 : decode cX8_row 56 = .ok (.bipush 60, 2) := by decide +kernel
theorem dX8_row_58 : decode cX8_row 58 = .ok (.iload_n 1, 1) := by decide +kernel
theorem dX8_row_59 : decode cX8_row 59 = .ok (.imul, 1) := by decide +kernel
theorem dX8_row_60 : decode cX8_row 60 = .ok (.bipush 60, 2) := by decide +kernel
theorem dX8_row_62 : decode cX8_row 62 = .ok (.iadd, 1) := by decide +kernel
theorem dX8_row_63 : decode cX8_row 63 = .ok (.if_icmp .ge 17, 3) := by decide +kernel
theorem dX8_row_66 : decode cX8_row 66 = .ok (.aload_n 0, 1) := by decide +kernel
theorem dX8_row_67 : decode cX8_row 67 = .ok (.getfield 100, 3) := by decide +kernel
theorem dX8_row_70 : decode cX8_row 70 = .ok (.iload 4, 2) := by decide +kernel
theorem dX8_row_72 : decode cX8_row 72 = .ok (.lconst 0, 1) := by decide +kernel
theorem dX8_row_73 : decode cX8_row 73 = .ok (.lastore, 1) := by decide +kernel
theorem dX8_row_74 : decode cX8_row 74 = .ok (.iinc 4 1, 3) := by decide +kernel
theorem dX8_row_77 : decode cX8_row 77 = .ok (.goto (-23), 3) := by decide +kernel
theorem dX8_row_80 : decode cX8_row 80 = .ok (.iconst 1, 1) := by decide +kernel
theorem dX8_row_81 : decode cX8_row 81 = .ok (.ireturn, 1) := by decide +kernel
theorem dX8_whyNoPlace_0 : decode cX8_whyNoPlace 0 = .ok (.iload_n 1, 1) := by decide +kernel
theorem dX8_whyNoPlace_1 : decode cX8_whyNoPlace 1 = .ok (.invokestatic 130, 3) := by decide +kernel
theorem dX8_whyNoPlace_4 : decode cX8_whyNoPlace 4 = .ok (.ifCond .ne 5, 3) := by decide +kernel
theorem dX8_whyNoPlace_7 : decode cX8_whyNoPlace 7 = .ok (.iconst (-1), 1) := by decide +kernel
theorem dX8_whyNoPlace_8 : decode cX8_whyNoPlace 8 = .ok (.ireturn, 1) := by decide +kernel
theorem dX8_whyNoPlace_9 : decode cX8_whyNoPlace 9 = .ok (.aload_n 0, 1) := by decide +kernel
theorem dX8_whyNoPlace_10 : decode cX8_whyNoPlace 10 = .ok (.getfield 94, 3) := by decide +kernel
theorem dX8_whyNoPlace_13 : decode cX8_whyNoPlace 13 = .ok (.iload_n 1, 1) := by decide +kernel
theorem dX8_whyNoPlace_14 : decode cX8_whyNoPlace 14 = .ok (.iaload, 1) := by decide +kernel
theorem dX8_whyNoPlace_15 : decode cX8_whyNoPlace 15 = .ok (.iconst (-1), 1) := by decide +kernel
theorem dX8_whyNoPlace_16 : decode cX8_whyNoPlace 16 = .ok (.if_icmp .ne 6, 3) := by decide +kernel
theorem dX8_whyNoPlace_19 : decode cX8_whyNoPlace 19 = .ok (.bipush (-11), 2) := by decide +kernel
theorem dX8_whyNoPlace_21 : decode cX8_whyNoPlace 21 = .ok (.ireturn, 1) := by decide +kernel
theorem dX8_whyNoPlace_22 : decode cX8_whyNoPlace 22 = .ok (.aload_n 0, 1) := by decide +kernel
theorem dX8_whyNoPlace_23 : decode cX8_whyNoPlace 23 = .ok (.getfield 94, 3) := by decide +kernel
theorem dX8_whyNoPlace_26 : decode cX8_whyNoPlace 26 = .ok (.iload_n 1, 1) := by decide +kernel
theorem dX8_whyNoPlace_27 : decode cX8_whyNoPlace 27 = .ok (.iaload, 1) := by decide +kernel
theorem dX8_whyNoPlace_28 : decode cX8_whyNoPlace 28 = .ok (.ifCond .lt 6, 3) := by decide +kernel
theorem dX8_whyNoPlace_31 : decode cX8_whyNoPlace 31 = .ok (.bipush (-12), 2) := by decide +kernel
theorem dX8_whyNoPlace_33 : decode cX8_whyNoPlace 33 = .ok (.ireturn, 1) := by decide +kernel
theorem dX8_whyNoPlace_34 : decode cX8_whyNoPlace 34 = .ok (.iload_n 2, 1) := by decide +kernel
theorem dX8_whyNoPlace_35 : decode cX8_whyNoPlace 35 = .ok (.iconst 0, 1) := by decide +kernel
theorem dX8_whyNoPlace_36 : decode cX8_whyNoPlace 36 = .ok (.aload_n 0, 1) := by decide +kernel
theorem dX8_whyNoPlace_37 : decode cX8_whyNoPlace 37 = .ok (.getfield 97, 3) := by decide +kernel
theorem dX8_whyNoPlace_40 : decode cX8_whyNoPlace 40 = .ok (.iload_n 1, 1) := by decide +kernel
theorem dX8_whyNoPlace_41 : decode cX8_whyNoPlace 41 = .ok (.iaload, 1) := by decide +kernel
theorem dX8_whyNoPlace_42 : decode cX8_whyNoPlace 42 = .ok (.iconst 1, 1) := by decide +kernel
theorem dX8_whyNoPlace_43 : decode cX8_whyNoPlace 43 = .ok (.isub, 1) := by decide +kernel
theorem dX8_whyNoPlace_44 : decode cX8_whyNoPlace 44 = .ok (.invokestatic 114, 3) := by decide +kernel
theorem dX8_whyNoPlace_47 : decode cX8_whyNoPlace 47 = .ok (.ifCond .eq 7, 3) := by decide +kernel
theorem dX8_whyNoPlace_50 : decode cX8_whyNoPlace 50 = .ok (.iconst 0, 1) := by decide +kernel
theorem dX8_whyNoPlace_51 : decode cX8_whyNoPlace 51 = .ok (.goto 5, 3) := by decide +kernel
theorem dX8_whyNoPlace_54 : decode cX8_whyNoPlace 54 = .ok (.bipush (-13), 2) := by decide +kernel
theorem dX8_whyNoPlace_56 : decode cX8_whyNoPlace 56 = .ok (.ireturn, 1) := by decide +kernel
theorem dX8_put_0 : decode cX8_put 0 = .ok (.aload_n 0, 1) := by decide +kernel
theorem dX8_put_1 : decode cX8_put 1 = .ok (.iload_n 1, 1) := by decide +kernel
theorem dX8_put_2 : decode cX8_put 2 = .ok (.iload_n 2, 1) := by decide +kernel
theorem dX8_put_3 : decode cX8_put 3 = .ok (.invokevirtual 368, 3) := by decide +kernel
theorem dX8_put_6 : decode cX8_put 6 = .ok (.istore 5, 2) := by decide +kernel
theorem dX8_put_8 : decode cX8_put 8 = .ok (.iload 5, 2) := by decide +kernel
theorem dX8_put_10 : decode cX8_put 10 = .ok (.ifCond .ge 6, 3) := by decide +kernel
theorem dX8_put_13 : decode cX8_put 13 = .ok (.iload 5, 2) := by decide +kernel
theorem dX8_put_15 : decode cX8_put 15 = .ok (.ireturn, 1) := by decide +kernel
theorem dX8_put_16 : decode cX8_put 16 = .ok (.bipush (-2), 2) := by decide +kernel
theorem dX8_put_18 : decode cX8_put 18 = .ok (.aload_n 0, 1) := by decide +kernel
theorem dX8_put_19 : decode cX8_put 19 = .ok (.getfield 94, 3) := by decide +kernel
theorem dX8_put_22 : decode cX8_put 22 = .ok (.iload_n 1, 1) := by decide +kernel
theorem dX8_put_23 : decode cX8_put 23 = .ok (.iaload, 1) := by decide +kernel
theorem dX8_put_24 : decode cX8_put 24 = .ok (.isub, 1) := by decide +kernel
theorem dX8_put_25 : decode cX8_put 25 = .ok (.istore 6, 2) := by decide +kernel
theorem dX8_put_27 : decode cX8_put 27 = .ok (.aload_n 0, 1) := by decide +kernel
theorem dX8_put_28 : decode cX8_put 28 = .ok (.getfield 100, 3) := by decide +kernel
theorem dX8_put_31 : decode cX8_put 31 = .ok (.bipush 60, 2) := by decide +kernel
theorem dX8_put_33 : decode cX8_put 33 = .ok (.iload_n 1, 1) := by decide +kernel
theorem dX8_put_34 : decode cX8_put 34 = .ok (.imul, 1) := by decide +kernel
theorem dX8_put_35 : decode cX8_put 35 = .ok (.iload_n 2, 1) := by decide +kernel
theorem dX8_put_36 : decode cX8_put 36 = .ok (.iadd, 1) := by decide +kernel
theorem dX8_put_37 : decode cX8_put 37 = .ok (.iload 6, 2) := by decide +kernel
theorem dX8_put_39 : decode cX8_put 39 = .ok (.ifCond .ne 10, 3) := by decide +kernel
theorem dX8_put_42 : decode cX8_put 42 = .ok (.lload_n 3, 1) := by decide +kernel
theorem dX8_put_43 : decode cX8_put 43 = .ok (.l2i, 1) := by decide +kernel
theorem dX8_put_44 : decode cX8_put 44 = .ok (.i2b, 1) := by decide +kernel
theorem dX8_put_45 : decode cX8_put 45 = .ok (.i2l, 1) := by decide +kernel
theorem dX8_put_46 : decode cX8_put 46 = .ok (.goto 49, 3) := by decide +kernel
theorem dX8_put_49 : decode cX8_put 49 = .ok (.iload 6, 2) := by decide +kernel
theorem dX8_put_51 : decode cX8_put 51 = .ok (.iconst 1, 1) := by decide +kernel
theorem dX8_put_52 : decode cX8_put 52 = .ok (.if_icmp .ne 10, 3) := by decide +kernel
theorem dX8_put_55 : decode cX8_put 55 = .ok (.lload_n 3, 1) := by decide +kernel
theorem dX8_put_56 : decode cX8_put 56 = .ok (.l2i, 1) := by decide +kernel
theorem dX8_put_57 : decode cX8_put 57 = .ok (.i2s, 1) := by decide +kernel
theorem dX8_put_58 : decode cX8_put 58 = .ok (.i2l, 1) := by decide +kernel
theorem dX8_put_59 : decode cX8_put 59 = .ok (.goto 36, 3) := by decide +kernel
theorem dX8_put_62 : decode cX8_put 62 = .ok (.iload 6, 2) := by decide +kernel
theorem dX8_put_64 : decode cX8_put 64 = .ok (.iconst 2, 1) := by decide +kernel
theorem dX8_put_65 : decode cX8_put 65 = .ok (.if_icmp .ne 9, 3) := by decide +kernel
theorem dX8_put_68 : decode cX8_put 68 = .ok (.lload_n 3, 1) := by decide +kernel
theorem dX8_put_69 : decode cX8_put 69 = .ok (.l2i, 1) := by decide +kernel
theorem dX8_put_70 : decode cX8_put 70 = .ok (.i2l, 1) := by decide +kernel
theorem dX8_put_71 : decode cX8_put 71 = .ok (.goto 24, 3) := by decide +kernel
theorem dX8_put_74 : decode cX8_put 74 = .ok (.iload 6, 2) := by decide +kernel
theorem dX8_put_76 : decode cX8_put 76 = .ok (.iconst 3, 1) := by decide +kernel
theorem dX8_put_77 : decode cX8_put 77 = .ok (.if_icmp .ne 7, 3) := by decide +kernel
theorem dX8_put_80 : decode cX8_put 80 = .ok (.lload_n 3, 1) := by decide +kernel
theorem dX8_put_81 : decode cX8_put 81 = .ok (.goto 14, 3) := by decide +kernel
theorem dX8_put_84 : decode cX8_put 84 = .ok (.lload_n 3, 1) := by decide +kernel
theorem dX8_put_85 : decode cX8_put 85 = .ok (.lconst 0, 1) := by decide +kernel
theorem dX8_put_86 : decode cX8_put 86 = .ok (.lcmp, 1) := by decide +kernel
theorem dX8_put_87 : decode cX8_put 87 = .ok (.ifCond .eq 7, 3) := by decide +kernel
theorem dX8_put_90 : decode cX8_put 90 = .ok (.lconst 1, 1) := by decide +kernel
theorem dX8_put_91 : decode cX8_put 91 = .ok (.goto 4, 3) := by decide +kernel
theorem dX8_put_94 : decode cX8_put 94 = .ok (.lconst 0, 1) := by decide +kernel
theorem dX8_put_95 : decode cX8_put 95 = .ok (.lastore, 1) := by decide +kernel
theorem dX8_put_96 : decode cX8_put 96 = .ok (.iconst 1, 1) := by decide +kernel
theorem dX8_put_97 : decode cX8_put 97 = .ok (.ireturn, 1) := by decide +kernel
theorem dX8_element_0 : decode cX8_element 0 = .ok (.aload_n 0, 1) := by decide +kernel
theorem dX8_element_1 : decode cX8_element 1 = .ok (.iload_n 1, 1) := by decide +kernel
theorem dX8_element_2 : decode cX8_element 2 = .ok (.iload_n 2, 1) := by decide +kernel
theorem dX8_element_3 : decode cX8_element 3 = .ok (.invokevirtual 368, 3) := by decide +kernel
theorem dX8_element_6 : decode cX8_element 6 = .ok (.ifCond .ge 9, 3) := by decide +kernel
theorem dX8_element_9 : decode cX8_element 9 = .ok (.ldc2_w 373, 3) := by decide +kernel
theorem dX8_element_12 : decode cX8_element 12 = .ok (.goto 14, 3) := by decide +kernel
theorem dX8_element_15 : decode cX8_element 15 = .ok (.aload_n 0, 1) := by decide +kernel
theorem dX8_element_16 : decode cX8_element 16 = .ok (.getfield 100, 3) := by decide +kernel
theorem dX8_element_19 : decode cX8_element 19 = .ok (.bipush 60, 2) := by decide +kernel
theorem dX8_element_21 : decode cX8_element 21 = .ok (.iload_n 1, 1) := by decide +kernel
theorem dX8_element_22 : decode cX8_element 22 = .ok (.imul, 1) := by decide +kernel
theorem dX8_element_23 : decode cX8_element 23 = .ok (.iload_n 2, 1) := by decide +kernel
theorem dX8_element_24 : decode cX8_element 24 = .ok (.iadd, 1) := by decide +kernel
theorem dX8_element_25 : decode cX8_element 25 = .ok (.laload, 1) := by decide +kernel
theorem dX8_element_26 : decode cX8_element 26 = .ok (.lreturn, 1) := by decide +kernel
theorem dX8_shift_0 : decode cX8_shift 0 = .ok (.iload_n 1, 1) := by decide +kernel
theorem dX8_shift_1 : decode cX8_shift 1 = .ok (.invokestatic 130, 3) := by decide +kernel
theorem dX8_shift_4 : decode cX8_shift 4 = .ok (.ifCond .eq 10, 3) := by decide +kernel
theorem dX8_shift_7 : decode cX8_shift 7 = .ok (.iload_n 3, 1) := by decide +kernel
theorem dX8_shift_8 : decode cX8_shift 8 = .ok (.invokestatic 130, 3) := by decide +kernel
theorem dX8_shift_11 : decode cX8_shift 11 = .ok (.ifCond .ne 5, 3) := by decide +kernel
theorem dX8_shift_14 : decode cX8_shift 14 = .ok (.iconst (-1), 1) := by decide +kernel
theorem dX8_shift_15 : decode cX8_shift 15 = .ok (.ireturn, 1) := by decide +kernel
theorem dX8_shift_16 : decode cX8_shift 16 = .ok (.aload_n 0, 1) := by decide +kernel
theorem dX8_shift_17 : decode cX8_shift 17 = .ok (.getfield 94, 3) := by decide +kernel
theorem dX8_shift_20 : decode cX8_shift 20 = .ok (.iload_n 1, 1) := by decide +kernel
theorem dX8_shift_21 : decode cX8_shift 21 = .ok (.iaload, 1) := by decide +kernel
theorem dX8_shift_22 : decode cX8_shift 22 = .ok (.iconst (-1), 1) := by decide +kernel
theorem dX8_shift_23 : decode cX8_shift 23 = .ok (.if_icmp .eq 13, 3) := by decide +kernel
theorem dX8_shift_26 : decode cX8_shift 26 = .ok (.aload_n 0, 1) := by decide +kernel
theorem dX8_shift_27 : decode cX8_shift 27 = .ok (.getfield 94, 3) := by decide +kernel
theorem dX8_shift_30 : decode cX8_shift 30 = .ok (.iload_n 3, 1) := by decide +kernel
theorem dX8_shift_31 : decode cX8_shift 31 = .ok (.iaload, 1) := by decide +kernel
theorem dX8_shift_32 : decode cX8_shift 32 = .ok (.iconst (-1), 1) := by decide +kernel
theorem dX8_shift_33 : decode cX8_shift 33 = .ok (.if_icmp .ne 6, 3) := by decide +kernel
theorem dX8_shift_36 : decode cX8_shift 36 = .ok (.bipush (-11), 2) := by decide +kernel
theorem dX8_shift_38 : decode cX8_shift 38 = .ok (.ireturn, 1) := by decide +kernel
theorem dX8_shift_39 : decode cX8_shift 39 = .ok (.aload_n 0, 1) := by decide +kernel
theorem dX8_shift_40 : decode cX8_shift 40 = .ok (.getfield 94, 3) := by decide +kernel
theorem dX8_shift_43 : decode cX8_shift 43 = .ok (.iload_n 1, 1) := by decide +kernel
theorem dX8_shift_44 : decode cX8_shift 44 = .ok (.iaload, 1) := by decide +kernel
theorem dX8_shift_45 : decode cX8_shift 45 = .ok (.ifCond .ge 18, 3) := by decide +kernel
theorem dX8_shift_48 : decode cX8_shift 48 = .ok (.aload_n 0, 1) := by decide +kernel
theorem dX8_shift_49 : decode cX8_shift 49 = .ok (.getfield 94, 3) := by decide +kernel
theorem dX8_shift_52 : decode cX8_shift 52 = .ok (.iload_n 1, 1) := by decide +kernel
theorem dX8_shift_53 : decode cX8_shift 53 = .ok (.iaload, 1) := by decide +kernel
theorem dX8_shift_54 : decode cX8_shift 54 = .ok (.aload_n 0, 1) := by decide +kernel
theorem dX8_shift_55 : decode cX8_shift 55 = .ok (.getfield 94, 3) := by decide +kernel
theorem dX8_shift_58 : decode cX8_shift 58 = .ok (.iload_n 3, 1) := by decide +kernel
theorem dX8_shift_59 : decode cX8_shift 59 = .ok (.iaload, 1) := by decide +kernel
theorem dX8_shift_60 : decode cX8_shift 60 = .ok (.if_icmp .eq 6, 3) := by decide +kernel
theorem dX8_shift_63 : decode cX8_shift 63 = .ok (.bipush (-12), 2) := by decide +kernel
theorem dX8_shift_65 : decode cX8_shift 65 = .ok (.ireturn, 1) := by decide +kernel
theorem dX8_shift_66 : decode cX8_shift 66 = .ok (.iload 5, 2) := by decide +kernel
theorem dX8_shift_68 : decode cX8_shift 68 = .ok (.ifCond .lt 39, 3) := by decide +kernel
theorem dX8_shift_71 : decode cX8_shift 71 = .ok (.iload_n 2, 1) := by decide +kernel
theorem dX8_shift_72 : decode cX8_shift 72 = .ok (.ifCond .lt 35, 3) := by decide +kernel
theorem dX8_shift_75 : decode cX8_shift 75 = .ok (.iload 4, 2) := by decide +kernel
theorem dX8_shift_77 : decode cX8_shift 77 = .ok (.ifCond .lt 30, 3) := by decide +kernel
theorem dX8_shift_80 : decode cX8_shift 80 = .ok (.iload_n 2, 1) := by decide +kernel
theorem dX8_shift_81 : decode cX8_shift 81 = .ok (.aload_n 0, 1) := by decide +kernel
theorem dX8_shift_82 : decode cX8_shift 82 = .ok (.getfield 97, 3) := by decide +kernel
theorem dX8_shift_85 : decode cX8_shift 85 = .ok (.iload_n 1, 1) := by decide +kernel
theorem dX8_shift_86 : decode cX8_shift 86 = .ok (.iaload, 1) := by decide +kernel
theorem dX8_shift_87 : decode cX8_shift 87 = .ok (.iload 5, 2) := by decide +kernel
theorem dX8_shift_89 : decode cX8_shift 89 = .ok (.isub, 1) := by decide +kernel
theorem dX8_shift_90 : decode cX8_shift 90 = .ok (.if_icmp .gt 17, 3) := by decide +kernel
theorem dX8_shift_93 : decode cX8_shift 93 = .ok (.iload 4, 2) := by decide +kernel
theorem dX8_shift_95 : decode cX8_shift 95 = .ok (.aload_n 0, 1) := by decide +kernel
theorem dX8_shift_96 : decode cX8_shift 96 = .ok (.getfield 97, 3) := by decide +kernel
theorem dX8_shift_99 : decode cX8_shift 99 = .ok (.iload_n 3, 1) := by decide +kernel
theorem dX8_shift_100 : decode cX8_shift 100 = .ok (.iaload, 1) := by decide +kernel
theorem dX8_shift_101 : decode cX8_shift 101 = .ok (.iload 5, 2) := by decide +kernel
theorem dX8_shift_103 : decode cX8_shift 103 = .ok (.isub, 1) := by decide +kernel
theorem dX8_shift_104 : decode cX8_shift 104 = .ok (.if_icmp .le 6, 3) := by decide +kernel
theorem dX8_shift_107 : decode cX8_shift 107 = .ok (.bipush (-13), 2) := by decide +kernel
theorem dX8_shift_109 : decode cX8_shift 109 = .ok (.ireturn, 1) := by decide +kernel
theorem dX8_shift_110 : decode cX8_shift 110 = .ok (.iconst 0, 1) := by decide +kernel
theorem dX8_shift_111 : decode cX8_shift 111 = .ok (.istore 6, 2) := by decide +kernel
theorem dX8_shift_113 : decode cX8_shift 113 = .ok (.iload 6, 2) := by decide +kernel
theorem dX8_shift_115 : decode cX8_shift 115 = .ok (.iload 5, 2) := by decide +kernel
theorem dX8_shift_117 : decode cX8_shift 117 = .ok (.if_icmp .ge 30, 3) := by decide +kernel
theorem dX8_shift_120 : decode cX8_shift 120 = .ok (.aload_n 0, 1) := by decide +kernel
theorem dX8_shift_121 : decode cX8_shift 121 = .ok (.getfield 104, 3) := by decide +kernel
theorem dX8_shift_124 : decode cX8_shift 124 = .ok (.iload 6, 2) := by decide +kernel
theorem dX8_shift_126 : decode cX8_shift 126 = .ok (.aload_n 0, 1) := by decide +kernel
theorem dX8_shift_127 : decode cX8_shift 127 = .ok (.getfield 100, 3) := by decide +kernel
theorem dX8_shift_130 : decode cX8_shift 130 = .ok (.bipush 60, 2) := by decide +kernel
theorem dX8_shift_132 : decode cX8_shift 132 = .ok (.iload_n 1, 1) := by decide +kernel
theorem dX8_shift_133 : decode cX8_shift 133 = .ok (.imul, 1) := by decide +kernel
theorem dX8_shift_134 : decode cX8_shift 134 = .ok (.iload_n 2, 1) := by decide +kernel
theorem dX8_shift_135 : decode cX8_shift 135 = .ok (.iadd, 1) := by decide +kernel
theorem dX8_shift_136 : decode cX8_shift 136 = .ok (.iload 6, 2) := by decide +kernel
theorem dX8_shift_138 : decode cX8_shift 138 = .ok (.iadd, 1) := by decide +kernel
theorem dX8_shift_139 : decode cX8_shift 139 = .ok (.laload, 1) := by decide +kernel
theorem dX8_shift_140 : decode cX8_shift 140 = .ok (.lastore, 1) := by decide +kernel
theorem dX8_shift_141 : decode cX8_shift 141 = .ok (.iinc 6 1, 3) := by decide +kernel
theorem dX8_shift_144 : decode cX8_shift 144 = .ok (.goto (-31), 3) := by decide +kernel
theorem dX8_shift_147 : decode cX8_shift 147 = .ok (.iconst 0, 1) := by decide +kernel
theorem dX8_shift_148 : decode cX8_shift 148 = .ok (.istore 6, 2) := by decide +kernel
theorem dX8_shift_150 : decode cX8_shift 150 = .ok (.iload 6, 2) := by decide +kernel
theorem dX8_shift_152 : decode cX8_shift 152 = .ok (.iload 5, 2) := by decide +kernel
theorem dX8_shift_154 : decode cX8_shift 154 = .ok (.if_icmp .ge 31, 3) := by decide +kernel
theorem dX8_shift_157 : decode cX8_shift 157 = .ok (.aload_n 0, 1) := by decide +kernel
theorem dX8_shift_158 : decode cX8_shift 158 = .ok (.getfield 100, 3) := by decide +kernel
theorem dX8_shift_161 : decode cX8_shift 161 = .ok (.bipush 60, 2) := by decide +kernel
theorem dX8_shift_163 : decode cX8_shift 163 = .ok (.iload_n 3, 1) := by decide +kernel
theorem dX8_shift_164 : decode cX8_shift 164 = .ok (.imul, 1) := by decide +kernel
theorem dX8_shift_165 : decode cX8_shift 165 = .ok (.iload 4, 2) := by decide +kernel
theorem dX8_shift_167 : decode cX8_shift 167 = .ok (.iadd, 1) := by decide +kernel
theorem dX8_shift_168 : decode cX8_shift 168 = .ok (.iload 6, 2) := by decide +kernel
theorem dX8_shift_170 : decode cX8_shift 170 = .ok (.iadd, 1) := by decide +kernel
theorem dX8_shift_171 : decode cX8_shift 171 = .ok (.aload_n 0, 1) := by decide +kernel
theorem dX8_shift_172 : decode cX8_shift 172 = .ok (.getfield 104, 3) := by decide +kernel
theorem dX8_shift_175 : decode cX8_shift 175 = .ok (.iload 6, 2) := by decide +kernel
theorem dX8_shift_177 : decode cX8_shift 177 = .ok (.laload, 1) := by decide +kernel
theorem dX8_shift_178 : decode cX8_shift 178 = .ok (.lastore, 1) := by decide +kernel
theorem dX8_shift_179 : decode cX8_shift 179 = .ok (.iinc 6 1, 3) := by decide +kernel
theorem dX8_shift_182 : decode cX8_shift 182 = .ok (.goto (-32), 3) := by decide +kernel
theorem dX8_shift_185 : decode cX8_shift 185 = .ok (.iload 5, 2) := by decide +kernel
theorem dX8_shift_187 : decode cX8_shift 187 = .ok (.ireturn, 1) := by decide +kernel
theorem dX8_taken_0 : decode cX8_taken 0 = .ok (.iload_n 1, 1) := by decide +kernel
theorem dX8_taken_1 : decode cX8_taken 1 = .ok (.invokestatic 130, 3) := by decide +kernel
theorem dX8_taken_4 : decode cX8_taken 4 = .ok (.ifCond .eq 13, 3) := by decide +kernel
theorem dX8_taken_7 : decode cX8_taken 7 = .ok (.iload_n 2, 1) := by decide +kernel
theorem dX8_taken_8 : decode cX8_taken 8 = .ok (.iconst 0, 1) := by decide +kernel
theorem dX8_taken_9 : decode cX8_taken 9 = .ok (.bipush 7, 2) := by decide +kernel
theorem dX8_taken_11 : decode cX8_taken 11 = .ok (.invokestatic 114, 3) := by decide +kernel
theorem dX8_taken_14 : decode cX8_taken 14 = .ok (.ifCond .ne 5, 3) := by decide +kernel
theorem dX8_taken_17 : decode cX8_taken 17 = .ok (.iconst (-1), 1) := by decide +kernel
theorem dX8_taken_18 : decode cX8_taken 18 = .ok (.ireturn, 1) := by decide +kernel
theorem dX8_taken_19 : decode cX8_taken 19 = .ok (.aload_n 0, 1) := by decide +kernel
theorem dX8_taken_20 : decode cX8_taken 20 = .ok (.getfield 94, 3) := by decide +kernel
theorem dX8_taken_23 : decode cX8_taken 23 = .ok (.iload_n 1, 1) := by decide +kernel
theorem dX8_taken_24 : decode cX8_taken 24 = .ok (.iaload, 1) := by decide +kernel
theorem dX8_taken_25 : decode cX8_taken 25 = .ok (.iconst (-1), 1) := by decide +kernel
theorem dX8_taken_26 : decode cX8_taken 26 = .ok (.if_icmp .ne 6, 3) := by decide +kernel
theorem dX8_taken_29 : decode cX8_taken 29 = .ok (.bipush (-11), 2) := by decide +kernel
theorem dX8_taken_31 : decode cX8_taken 31 = .ok (.ireturn, 1) := by decide +kernel
theorem dX8_taken_32 : decode cX8_taken 32 = .ok (.aload_n 0, 1) := by decide +kernel
theorem dX8_taken_33 : decode cX8_taken 33 = .ok (.getfield 94, 3) := by decide +kernel
theorem dX8_taken_36 : decode cX8_taken 36 = .ok (.iload_n 1, 1) := by decide +kernel
theorem dX8_taken_37 : decode cX8_taken 37 = .ok (.iaload, 1) := by decide +kernel
theorem dX8_taken_38 : decode cX8_taken 38 = .ok (.ifCond .lt 35, 3) := by decide +kernel
theorem dX8_taken_41 : decode cX8_taken 41 = .ok (.aload_n 0, 1) := by decide +kernel
theorem dX8_taken_42 : decode cX8_taken 42 = .ok (.getfield 88, 3) := by decide +kernel
theorem dX8_taken_45 : decode cX8_taken 45 = .ok (.aload_n 0, 1) := by decide +kernel
theorem dX8_taken_46 : decode cX8_taken 46 = .ok (.getfield 94, 3) := by decide +kernel
theorem dX8_taken_49 : decode cX8_taken 49 = .ok (.iload_n 1, 1) := by decide +kernel
theorem dX8_taken_50 : decode cX8_taken 50 = .ok (.iaload, 1) := by decide +kernel
theorem dX8_taken_51 : decode cX8_taken 51 = .ok (.iaload, 1) := by decide +kernel
theorem dX8_taken_52 : decode cX8_taken 52 = .ok (.iload_n 2, 1) := by decide +kernel
theorem dX8_taken_53 : decode cX8_taken 53 = .ok (.invokestatic 329, 3) := by decide +kernel
theorem dX8_taken_56 : decode cX8_taken 56 = .ok (.ifCond .eq 17, 3) := by decide +kernel
theorem dX8_taken_59 : decode cX8_taken 59 = .ok (.aload_n 0, 1) := by decide +kernel
theorem dX8_taken_60 : decode cX8_taken 60 = .ok (.getfield 88, 3) := by decide +kernel
theorem dX8_taken_63 : decode cX8_taken 63 = .ok (.aload_n 0, 1) := by decide +kernel
theorem dX8_taken_64 : decode cX8_taken 64 = .ok (.getfield 94, 3) := by decide +kernel
theorem dX8_taken_67 : decode cX8_taken 67 = .ok (.iload_n 1, 1) := by decide +kernel
theorem dX8_taken_68 : decode cX8_taken 68 = .ok (.iaload, 1) := by decide +kernel
theorem dX8_taken_69 : decode cX8_taken 69 = .ok (.iaload, 1) := by decide +kernel
theorem dX8_taken_70 : decode cX8_taken 70 = .ok (.goto 5, 3) := by decide +kernel
theorem dX8_taken_73 : decode cX8_taken 73 = .ok (.bipush (-12), 2) := by decide +kernel
theorem dX8_taken_75 : decode cX8_taken 75 = .ok (.ireturn, 1) := by decide +kernel
end
section
theorem dL_law_0 : decode cL_law 0 = .ok (.new 7, 3) := by decide +kernel
theorem dL_law_3 : decode cL_law 3 = .ok (.dup, 1) := by decide +kernel
theorem dL_law_4 : decode cL_law 4 = .ok (.invokespecial 9, 3) := by decide +kernel
theorem dL_law_7 : decode cL_law 7 = .ok (.astore_n 1, 1) := by decide +kernel
theorem dL_law_8 : decode cL_law 8 = .ok (.new 10, 3) := by decide +kernel
theorem dL_law_11 : decode cL_law 11 = .ok (.dup, 1) := by decide +kernel
theorem dL_law_12 : decode cL_law 12 = .ok (.invokespecial 12, 3) := by decide +kernel
theorem dL_law_15 : decode cL_law 15 = .ok (.astore_n 2, 1) := by decide +kernel
theorem dL_law_16 : decode cL_law 16 = .ok (.iconst 0, 1) := by decide +kernel
theorem dL_law_17 : decode cL_law 17 = .ok (.istore_n 3, 1) := by decide +kernel
theorem dL_law_18 : decode cL_law 18 = .ok (.iload_n 3, 1) := by decide +kernel
theorem dL_law_19 : decode cL_law 19 = .ok (.aload_n 0, 1) := by decide +kernel
theorem dL_law_20 : decode cL_law 20 = .ok (.arraylength, 1) := by decide +kernel
theorem dL_law_21 : decode cL_law 21 = .ok (.bipush 6, 2) := by decide +kernel
theorem dL_law_23 : decode cL_law 23 = .ok (.isub, 1) := by decide +kernel
theorem dL_law_24 : decode cL_law 24 = .ok (.if_icmp .gt 1293, 3) := by decide +kernel
theorem dL_law_27 : decode cL_law 27 = .ok (.aload_n 0, 1) := by decide +kernel
theorem dL_law_28 : decode cL_law 28 = .ok (.iload_n 3, 1) := by decide +kernel
theorem dL_law_29 : decode cL_law 29 = .ok (.iaload, 1) := by decide +kernel
theorem dL_law_30 : decode cL_law 30 = .ok (.bipush 63, 2) := by decide +kernel
theorem dL_law_32 : decode cL_law 32 = .ok (.iand, 1) := by decide +kernel
theorem dL_law_33 : decode cL_law 33 = .ok (.tableswitch 1278 0 35 #[159, 192, 235, 268, 291, 324, 357, 400, 433, 456, 469, 502, 545, 568, 591, 604, 637, 670, 703, 736, 769, 792, 835, 848, 861, 874, 887, 910, 953, 976, 1009, 1052, 1125, 1159, 1222, 1255], 159) := by decide +kernel
theorem dL_law_192 : decode cL_law 192 = .ok (.aload_n 1, 1) := by decide +kernel
theorem dL_law_193 : decode cL_law 193 = .ok (.aload_n 0, 1) := by decide +kernel
theorem dL_law_194 : decode cL_law 194 = .ok (.iload_n 3, 1) := by decide +kernel
theorem dL_law_195 : decode cL_law 195 = .ok (.iconst 1, 1) := by decide +kernel
theorem dL_law_196 : decode cL_law 196 = .ok (.iadd, 1) := by decide +kernel
theorem dL_law_197 : decode cL_law 197 = .ok (.iaload, 1) := by decide +kernel
theorem dL_law_198 : decode cL_law 198 = .ok (.aload_n 0, 1) := by decide +kernel
theorem dL_law_199 : decode cL_law 199 = .ok (.iload_n 3, 1) := by decide +kernel
theorem dL_law_200 : decode cL_law 200 = .ok (.iconst 2, 1) := by decide +kernel
theorem dL_law_201 : decode cL_law 201 = .ok (.iadd, 1) := by decide +kernel
theorem dL_law_202 : decode cL_law 202 = .ok (.iaload, 1) := by decide +kernel
theorem dL_law_203 : decode cL_law 203 = .ok (.invokevirtual 13, 3) := by decide +kernel
theorem dL_law_206 : decode cL_law 206 = .ok (.aload_n 2, 1) := by decide +kernel
theorem dL_law_207 : decode cL_law 207 = .ok (.aload_n 0, 1) := by decide +kernel
theorem dL_law_208 : decode cL_law 208 = .ok (.iload_n 3, 1) := by decide +kernel
theorem dL_law_209 : decode cL_law 209 = .ok (.iconst 1, 1) := by decide +kernel
theorem dL_law_210 : decode cL_law 210 = .ok (.iadd, 1) := by decide +kernel
theorem dL_law_211 : decode cL_law 211 = .ok (.iaload, 1) := by decide +kernel
theorem dL_law_212 : decode cL_law 212 = .ok (.aload_n 0, 1) := by decide +kernel
theorem dL_law_213 : decode cL_law 213 = .ok (.iload_n 3, 1) := by decide +kernel
theorem dL_law_214 : decode cL_law 214 = .ok (.iconst 2, 1) := by decide +kernel
theorem dL_law_215 : decode cL_law 215 = .ok (.iadd, 1) := by decide +kernel
theorem dL_law_216 : decode cL_law 216 = .ok (.iaload, 1) := by decide +kernel
theorem dL_law_217 : decode cL_law 217 = .ok (.invokevirtual 17, 3) := by decide +kernel
theorem dL_law_220 : decode cL_law 220 = .ok (.if_icmp .eq 1091, 3) := by decide +kernel
theorem dL_law_223 : decode cL_law 223 = .ok (.iconst 0, 1) := by decide +kernel
theorem dL_law_224 : decode cL_law 224 = .ok (.ireturn, 1) := by decide +kernel
theorem dL_law_225 : decode cL_law 225 = .ok (.aload_n 1, 1) := by decide +kernel
theorem dL_law_226 : decode cL_law 226 = .ok (.aload_n 0, 1) := by decide +kernel
theorem dL_law_227 : decode cL_law 227 = .ok (.iload_n 3, 1) := by decide +kernel
theorem dL_law_228 : decode cL_law 228 = .ok (.iconst 1, 1) := by decide +kernel
theorem dL_law_229 : decode cL_law 229 = .ok (.iadd, 1) := by decide +kernel
theorem dL_law_230 : decode cL_law 230 = .ok (.iaload, 1) := by decide +kernel
theorem dL_law_231 : decode cL_law 231 = .ok (.aload_n 0, 1) := by decide +kernel
theorem dL_law_232 : decode cL_law 232 = .ok (.iload_n 3, 1) := by decide +kernel
theorem dL_law_233 : decode cL_law 233 = .ok (.iconst 2, 1) := by decide +kernel
theorem dL_law_234 : decode cL_law 234 = .ok (.iadd, 1) := by decide +kernel
theorem dL_law_235 : decode cL_law 235 = .ok (.iaload, 1) := by decide +kernel
theorem dL_law_236 : decode cL_law 236 = .ok (.aload_n 0, 1) := by decide +kernel
theorem dL_law_237 : decode cL_law 237 = .ok (.iload_n 3, 1) := by decide +kernel
theorem dL_law_238 : decode cL_law 238 = .ok (.iconst 3, 1) := by decide +kernel
theorem dL_law_239 : decode cL_law 239 = .ok (.iadd, 1) := by decide +kernel
theorem dL_law_240 : decode cL_law 240 = .ok (.iaload, 1) := by decide +kernel
theorem dL_law_241 : decode cL_law 241 = .ok (.invokevirtual 18, 3) := by decide +kernel
theorem dL_law_244 : decode cL_law 244 = .ok (.aload_n 2, 1) := by decide +kernel
theorem dL_law_245 : decode cL_law 245 = .ok (.aload_n 0, 1) := by decide +kernel
theorem dL_law_246 : decode cL_law 246 = .ok (.iload_n 3, 1) := by decide +kernel
theorem dL_law_247 : decode cL_law 247 = .ok (.iconst 1, 1) := by decide +kernel
theorem dL_law_248 : decode cL_law 248 = .ok (.iadd, 1) := by decide +kernel
theorem dL_law_249 : decode cL_law 249 = .ok (.iaload, 1) := by decide +kernel
theorem dL_law_250 : decode cL_law 250 = .ok (.aload_n 0, 1) := by decide +kernel
theorem dL_law_251 : decode cL_law 251 = .ok (.iload_n 3, 1) := by decide +kernel
theorem dL_law_252 : decode cL_law 252 = .ok (.iconst 2, 1) := by decide +kernel
theorem dL_law_253 : decode cL_law 253 = .ok (.iadd, 1) := by decide +kernel
theorem dL_law_254 : decode cL_law 254 = .ok (.iaload, 1) := by decide +kernel
theorem dL_law_255 : decode cL_law 255 = .ok (.aload_n 0, 1) := by decide +kernel
theorem dL_law_256 : decode cL_law 256 = .ok (.iload_n 3, 1) := by decide +kernel
theorem dL_law_257 : decode cL_law 257 = .ok (.iconst 3, 1) := by decide +kernel
theorem dL_law_258 : decode cL_law 258 = .ok (.iadd, 1) := by decide +kernel
theorem dL_law_259 : decode cL_law 259 = .ok (.iaload, 1) := by decide +kernel
theorem dL_law_260 : decode cL_law 260 = .ok (.invokevirtual 22, 3) := by decide +kernel
theorem dL_law_263 : decode cL_law 263 = .ok (.if_icmp .eq 1048, 3) := by decide +kernel
theorem dL_law_266 : decode cL_law 266 = .ok (.iconst 0, 1) := by decide +kernel
theorem dL_law_267 : decode cL_law 267 = .ok (.ireturn, 1) := by decide +kernel
theorem dL_law_268 : decode cL_law 268 = .ok (.aload_n 1, 1) := by decide +kernel
theorem dL_law_269 : decode cL_law 269 = .ok (.aload_n 0, 1) := by decide +kernel
theorem dL_law_270 : decode cL_law 270 = .ok (.iload_n 3, 1) := by decide +kernel
theorem dL_law_271 : decode cL_law 271 = .ok (.iconst 1, 1) := by decide +kernel
theorem dL_law_272 : decode cL_law 272 = .ok (.iadd, 1) := by decide +kernel
theorem dL_law_273 : decode cL_law 273 = .ok (.iaload, 1) := by decide +kernel
theorem dL_law_274 : decode cL_law 274 = .ok (.aload_n 0, 1) := by decide +kernel
theorem dL_law_275 : decode cL_law 275 = .ok (.iload_n 3, 1) := by decide +kernel
theorem dL_law_276 : decode cL_law 276 = .ok (.iconst 2, 1) := by decide +kernel
theorem dL_law_277 : decode cL_law 277 = .ok (.iadd, 1) := by decide +kernel
theorem dL_law_278 : decode cL_law 278 = .ok (.iaload, 1) := by decide +kernel
theorem dL_law_279 : decode cL_law 279 = .ok (.invokevirtual 23, 3) := by decide +kernel
theorem dL_law_282 : decode cL_law 282 = .ok (.aload_n 2, 1) := by decide +kernel
theorem dL_law_283 : decode cL_law 283 = .ok (.aload_n 0, 1) := by decide +kernel
theorem dL_law_284 : decode cL_law 284 = .ok (.iload_n 3, 1) := by decide +kernel
theorem dL_law_285 : decode cL_law 285 = .ok (.iconst 1, 1) := by decide +kernel
theorem dL_law_286 : decode cL_law 286 = .ok (.iadd, 1) := by decide +kernel
theorem dL_law_287 : decode cL_law 287 = .ok (.iaload, 1) := by decide +kernel
theorem dL_law_288 : decode cL_law 288 = .ok (.aload_n 0, 1) := by decide +kernel
theorem dL_law_289 : decode cL_law 289 = .ok (.iload_n 3, 1) := by decide +kernel
theorem dL_law_290 : decode cL_law 290 = .ok (.iconst 2, 1) := by decide +kernel
theorem dL_law_291 : decode cL_law 291 = .ok (.iadd, 1) := by decide +kernel
theorem dL_law_292 : decode cL_law 292 = .ok (.iaload, 1) := by decide +kernel
theorem dL_law_293 : decode cL_law 293 = .ok (.invokevirtual 26, 3) := by decide +kernel
theorem dL_law_296 : decode cL_law 296 = .ok (.if_icmp .eq 1015, 3) := by decide +kernel
theorem dL_law_299 : decode cL_law 299 = .ok (.iconst 0, 1) := by decide +kernel
theorem dL_law_300 : decode cL_law 300 = .ok (.ireturn, 1) := by decide +kernel
theorem dL_law_301 : decode cL_law 301 = .ok (.aload_n 1, 1) := by decide +kernel
theorem dL_law_302 : decode cL_law 302 = .ok (.aload_n 0, 1) := by decide +kernel
theorem dL_law_303 : decode cL_law 303 = .ok (.iload_n 3, 1) := by decide +kernel
theorem dL_law_304 : decode cL_law 304 = .ok (.iconst 1, 1) := by decide +kernel
theorem dL_law_305 : decode cL_law 305 = .ok (.iadd, 1) := by decide +kernel
theorem dL_law_306 : decode cL_law 306 = .ok (.iaload, 1) := by decide +kernel
theorem dL_law_307 : decode cL_law 307 = .ok (.invokevirtual 27, 3) := by decide +kernel
theorem dL_law_310 : decode cL_law 310 = .ok (.aload_n 2, 1) := by decide +kernel
theorem dL_law_311 : decode cL_law 311 = .ok (.aload_n 0, 1) := by decide +kernel
theorem dL_law_312 : decode cL_law 312 = .ok (.iload_n 3, 1) := by decide +kernel
theorem dL_law_313 : decode cL_law 313 = .ok (.iconst 1, 1) := by decide +kernel
theorem dL_law_314 : decode cL_law 314 = .ok (.iadd, 1) := by decide +kernel
theorem dL_law_315 : decode cL_law 315 = .ok (.iaload, 1) := by decide +kernel
theorem dL_law_316 : decode cL_law 316 = .ok (.invokevirtual 31, 3) := by decide +kernel
theorem dL_law_319 : decode cL_law 319 = .ok (.if_icmp .eq 992, 3) := by decide +kernel
theorem dL_law_322 : decode cL_law 322 = .ok (.iconst 0, 1) := by decide +kernel
theorem dL_law_323 : decode cL_law 323 = .ok (.ireturn, 1) := by decide +kernel
theorem dL_law_324 : decode cL_law 324 = .ok (.aload_n 1, 1) := by decide +kernel
theorem dL_law_325 : decode cL_law 325 = .ok (.aload_n 0, 1) := by decide +kernel
theorem dL_law_326 : decode cL_law 326 = .ok (.iload_n 3, 1) := by decide +kernel
theorem dL_law_327 : decode cL_law 327 = .ok (.iconst 1, 1) := by decide +kernel
theorem dL_law_328 : decode cL_law 328 = .ok (.iadd, 1) := by decide +kernel
theorem dL_law_329 : decode cL_law 329 = .ok (.iaload, 1) := by decide +kernel
theorem dL_law_330 : decode cL_law 330 = .ok (.aload_n 0, 1) := by decide +kernel
theorem dL_law_331 : decode cL_law 331 = .ok (.iload_n 3, 1) := by decide +kernel
theorem dL_law_332 : decode cL_law 332 = .ok (.iconst 2, 1) := by decide +kernel
theorem dL_law_333 : decode cL_law 333 = .ok (.iadd, 1) := by decide +kernel
theorem dL_law_334 : decode cL_law 334 = .ok (.iaload, 1) := by decide +kernel
theorem dL_law_335 : decode cL_law 335 = .ok (.invokevirtual 32, 3) := by decide +kernel
theorem dL_law_338 : decode cL_law 338 = .ok (.aload_n 2, 1) := by decide +kernel
theorem dL_law_339 : decode cL_law 339 = .ok (.aload_n 0, 1) := by decide +kernel
theorem dL_law_340 : decode cL_law 340 = .ok (.iload_n 3, 1) := by decide +kernel
theorem dL_law_341 : decode cL_law 341 = .ok (.iconst 1, 1) := by decide +kernel
theorem dL_law_342 : decode cL_law 342 = .ok (.iadd, 1) := by decide +kernel
theorem dL_law_343 : decode cL_law 343 = .ok (.iaload, 1) := by decide +kernel
theorem dL_law_344 : decode cL_law 344 = .ok (.aload_n 0, 1) := by decide +kernel
theorem dL_law_345 : decode cL_law 345 = .ok (.iload_n 3, 1) := by decide +kernel
theorem dL_law_346 : decode cL_law 346 = .ok (.iconst 2, 1) := by decide +kernel
theorem dL_law_347 : decode cL_law 347 = .ok (.iadd, 1) := by decide +kernel
theorem dL_law_348 : decode cL_law 348 = .ok (.iaload, 1) := by decide +kernel
theorem dL_law_349 : decode cL_law 349 = .ok (.invokevirtual 35, 3) := by decide +kernel
theorem dL_law_352 : decode cL_law 352 = .ok (.if_icmp .eq 959, 3) := by decide +kernel
theorem dL_law_355 : decode cL_law 355 = .ok (.iconst 0, 1) := by decide +kernel
theorem dL_law_356 : decode cL_law 356 = .ok (.ireturn, 1) := by decide +kernel
theorem dL_law_357 : decode cL_law 357 = .ok (.aload_n 1, 1) := by decide +kernel
theorem dL_law_358 : decode cL_law 358 = .ok (.aload_n 0, 1) := by decide +kernel
theorem dL_law_359 : decode cL_law 359 = .ok (.iload_n 3, 1) := by decide +kernel
theorem dL_law_360 : decode cL_law 360 = .ok (.iconst 1, 1) := by decide +kernel
theorem dL_law_361 : decode cL_law 361 = .ok (.iadd, 1) := by decide +kernel
theorem dL_law_362 : decode cL_law 362 = .ok (.iaload, 1) := by decide +kernel
theorem dL_law_363 : decode cL_law 363 = .ok (.aload_n 0, 1) := by decide +kernel
theorem dL_law_364 : decode cL_law 364 = .ok (.iload_n 3, 1) := by decide +kernel
theorem dL_law_365 : decode cL_law 365 = .ok (.iconst 2, 1) := by decide +kernel
theorem dL_law_366 : decode cL_law 366 = .ok (.iadd, 1) := by decide +kernel
theorem dL_law_367 : decode cL_law 367 = .ok (.iaload, 1) := by decide +kernel
theorem dL_law_368 : decode cL_law 368 = .ok (.invokevirtual 36, 3) := by decide +kernel
theorem dL_law_371 : decode cL_law 371 = .ok (.aload_n 2, 1) := by decide +kernel
theorem dL_law_372 : decode cL_law 372 = .ok (.aload_n 0, 1) := by decide +kernel
theorem dL_law_373 : decode cL_law 373 = .ok (.iload_n 3, 1) := by decide +kernel
theorem dL_law_374 : decode cL_law 374 = .ok (.iconst 1, 1) := by decide +kernel
theorem dL_law_375 : decode cL_law 375 = .ok (.iadd, 1) := by decide +kernel
theorem dL_law_376 : decode cL_law 376 = .ok (.iaload, 1) := by decide +kernel
theorem dL_law_377 : decode cL_law 377 = .ok (.aload_n 0, 1) := by decide +kernel
theorem dL_law_378 : decode cL_law 378 = .ok (.iload_n 3, 1) := by decide +kernel
theorem dL_law_379 : decode cL_law 379 = .ok (.iconst 2, 1) := by decide +kernel
theorem dL_law_380 : decode cL_law 380 = .ok (.iadd, 1) := by decide +kernel
theorem dL_law_381 : decode cL_law 381 = .ok (.iaload, 1) := by decide +kernel
theorem dL_law_382 : decode cL_law 382 = .ok (.invokevirtual 39, 3) := by decide +kernel
theorem dL_law_385 : decode cL_law 385 = .ok (.if_icmp .eq 926, 3) := by decide +kernel
theorem dL_law_388 : decode cL_law 388 = .ok (.iconst 0, 1) := by decide +kernel
theorem dL_law_389 : decode cL_law 389 = .ok (.ireturn, 1) := by decide +kernel
theorem dL_law_390 : decode cL_law 390 = .ok (.aload_n 1, 1) := by decide +kernel
theorem dL_law_391 : decode cL_law 391 = .ok (.aload_n 0, 1) := by decide +kernel
theorem dL_law_392 : decode cL_law 392 = .ok (.iload_n 3, 1) := by decide +kernel
theorem dL_law_393 : decode cL_law 393 = .ok (.iconst 1, 1) := by decide +kernel
theorem dL_law_394 : decode cL_law 394 = .ok (.iadd, 1) := by decide +kernel
theorem dL_law_395 : decode cL_law 395 = .ok (.iaload, 1) := by decide +kernel
theorem dL_law_396 : decode cL_law 396 = .ok (.aload_n 0, 1) := by decide +kernel
theorem dL_law_397 : decode cL_law 397 = .ok (.iload_n 3, 1) := by decide +kernel
theorem dL_law_398 : decode cL_law 398 = .ok (.iconst 2, 1) := by decide +kernel
theorem dL_law_399 : decode cL_law 399 = .ok (.iadd, 1) := by decide +kernel
theorem dL_law_400 : decode cL_law 400 = .ok (.iaload, 1) := by decide +kernel
theorem dL_law_401 : decode cL_law 401 = .ok (.aload_n 0, 1) := by decide +kernel
theorem dL_law_402 : decode cL_law 402 = .ok (.iload_n 3, 1) := by decide +kernel
theorem dL_law_403 : decode cL_law 403 = .ok (.iconst 3, 1) := by decide +kernel
theorem dL_law_404 : decode cL_law 404 = .ok (.iadd, 1) := by decide +kernel
theorem dL_law_405 : decode cL_law 405 = .ok (.iaload, 1) := by decide +kernel
theorem dL_law_406 : decode cL_law 406 = .ok (.invokevirtual 40, 3) := by decide +kernel
theorem dL_law_409 : decode cL_law 409 = .ok (.aload_n 2, 1) := by decide +kernel
theorem dL_law_410 : decode cL_law 410 = .ok (.aload_n 0, 1) := by decide +kernel
theorem dL_law_411 : decode cL_law 411 = .ok (.iload_n 3, 1) := by decide +kernel
theorem dL_law_412 : decode cL_law 412 = .ok (.iconst 1, 1) := by decide +kernel
theorem dL_law_413 : decode cL_law 413 = .ok (.iadd, 1) := by decide +kernel
theorem dL_law_414 : decode cL_law 414 = .ok (.iaload, 1) := by decide +kernel
theorem dL_law_415 : decode cL_law 415 = .ok (.aload_n 0, 1) := by decide +kernel
theorem dL_law_416 : decode cL_law 416 = .ok (.iload_n 3, 1) := by decide +kernel
theorem dL_law_417 : decode cL_law 417 = .ok (.iconst 2, 1) := by decide +kernel
theorem dL_law_418 : decode cL_law 418 = .ok (.iadd, 1) := by decide +kernel
theorem dL_law_419 : decode cL_law 419 = .ok (.iaload, 1) := by decide +kernel
theorem dL_law_420 : decode cL_law 420 = .ok (.aload_n 0, 1) := by decide +kernel
theorem dL_law_421 : decode cL_law 421 = .ok (.iload_n 3, 1) := by decide +kernel
theorem dL_law_422 : decode cL_law 422 = .ok (.iconst 3, 1) := by decide +kernel
theorem dL_law_423 : decode cL_law 423 = .ok (.iadd, 1) := by decide +kernel
theorem dL_law_424 : decode cL_law 424 = .ok (.iaload, 1) := by decide +kernel
theorem dL_law_425 : decode cL_law 425 = .ok (.invokevirtual 43, 3) := by decide +kernel
theorem dL_law_428 : decode cL_law 428 = .ok (.if_icmp .eq 883, 3) := by decide +kernel
theorem dL_law_431 : decode cL_law 431 = .ok (.iconst 0, 1) := by decide +kernel
theorem dL_law_432 : decode cL_law 432 = .ok (.ireturn, 1) := by decide +kernel
theorem dL_law_433 : decode cL_law 433 = .ok (.aload_n 1, 1) := by decide +kernel
theorem dL_law_434 : decode cL_law 434 = .ok (.aload_n 0, 1) := by decide +kernel
theorem dL_law_435 : decode cL_law 435 = .ok (.iload_n 3, 1) := by decide +kernel
theorem dL_law_436 : decode cL_law 436 = .ok (.iconst 1, 1) := by decide +kernel
theorem dL_law_437 : decode cL_law 437 = .ok (.iadd, 1) := by decide +kernel
theorem dL_law_438 : decode cL_law 438 = .ok (.iaload, 1) := by decide +kernel
theorem dL_law_439 : decode cL_law 439 = .ok (.aload_n 0, 1) := by decide +kernel
theorem dL_law_440 : decode cL_law 440 = .ok (.iload_n 3, 1) := by decide +kernel
theorem dL_law_441 : decode cL_law 441 = .ok (.iconst 2, 1) := by decide +kernel
theorem dL_law_442 : decode cL_law 442 = .ok (.iadd, 1) := by decide +kernel
theorem dL_law_443 : decode cL_law 443 = .ok (.iaload, 1) := by decide +kernel
theorem dL_law_444 : decode cL_law 444 = .ok (.invokevirtual 44, 3) := by decide +kernel
theorem dL_law_447 : decode cL_law 447 = .ok (.aload_n 2, 1) := by decide +kernel
theorem dL_law_448 : decode cL_law 448 = .ok (.aload_n 0, 1) := by decide +kernel
theorem dL_law_449 : decode cL_law 449 = .ok (.iload_n 3, 1) := by decide +kernel
theorem dL_law_450 : decode cL_law 450 = .ok (.iconst 1, 1) := by decide +kernel
theorem dL_law_451 : decode cL_law 451 = .ok (.iadd, 1) := by decide +kernel
theorem dL_law_452 : decode cL_law 452 = .ok (.iaload, 1) := by decide +kernel
theorem dL_law_453 : decode cL_law 453 = .ok (.aload_n 0, 1) := by decide +kernel
theorem dL_law_454 : decode cL_law 454 = .ok (.iload_n 3, 1) := by decide +kernel
theorem dL_law_455 : decode cL_law 455 = .ok (.iconst 2, 1) := by decide +kernel
theorem dL_law_456 : decode cL_law 456 = .ok (.iadd, 1) := by decide +kernel
theorem dL_law_457 : decode cL_law 457 = .ok (.iaload, 1) := by decide +kernel
theorem dL_law_458 : decode cL_law 458 = .ok (.invokevirtual 47, 3) := by decide +kernel
theorem dL_law_461 : decode cL_law 461 = .ok (.if_icmp .eq 850, 3) := by decide +kernel
theorem dL_law_464 : decode cL_law 464 = .ok (.iconst 0, 1) := by decide +kernel
theorem dL_law_465 : decode cL_law 465 = .ok (.ireturn, 1) := by decide +kernel
theorem dL_law_466 : decode cL_law 466 = .ok (.aload_n 1, 1) := by decide +kernel
theorem dL_law_467 : decode cL_law 467 = .ok (.aload_n 0, 1) := by decide +kernel
theorem dL_law_468 : decode cL_law 468 = .ok (.iload_n 3, 1) := by decide +kernel
theorem dL_law_469 : decode cL_law 469 = .ok (.iconst 1, 1) := by decide +kernel
theorem dL_law_470 : decode cL_law 470 = .ok (.iadd, 1) := by decide +kernel
theorem dL_law_471 : decode cL_law 471 = .ok (.iaload, 1) := by decide +kernel
theorem dL_law_472 : decode cL_law 472 = .ok (.invokevirtual 48, 3) := by decide +kernel
theorem dL_law_475 : decode cL_law 475 = .ok (.aload_n 2, 1) := by decide +kernel
theorem dL_law_476 : decode cL_law 476 = .ok (.aload_n 0, 1) := by decide +kernel
theorem dL_law_477 : decode cL_law 477 = .ok (.iload_n 3, 1) := by decide +kernel
theorem dL_law_478 : decode cL_law 478 = .ok (.iconst 1, 1) := by decide +kernel
theorem dL_law_479 : decode cL_law 479 = .ok (.iadd, 1) := by decide +kernel
theorem dL_law_480 : decode cL_law 480 = .ok (.iaload, 1) := by decide +kernel
theorem dL_law_481 : decode cL_law 481 = .ok (.invokevirtual 51, 3) := by decide +kernel
theorem dL_law_484 : decode cL_law 484 = .ok (.if_icmp .eq 827, 3) := by decide +kernel
theorem dL_law_487 : decode cL_law 487 = .ok (.iconst 0, 1) := by decide +kernel
theorem dL_law_488 : decode cL_law 488 = .ok (.ireturn, 1) := by decide +kernel
theorem dL_law_489 : decode cL_law 489 = .ok (.aload_n 1, 1) := by decide +kernel
theorem dL_law_490 : decode cL_law 490 = .ok (.invokevirtual 52, 3) := by decide +kernel
theorem dL_law_493 : decode cL_law 493 = .ok (.aload_n 2, 1) := by decide +kernel
theorem dL_law_494 : decode cL_law 494 = .ok (.invokevirtual 56, 3) := by decide +kernel
theorem dL_law_497 : decode cL_law 497 = .ok (.if_icmp .eq 814, 3) := by decide +kernel
theorem dL_law_500 : decode cL_law 500 = .ok (.iconst 0, 1) := by decide +kernel
theorem dL_law_501 : decode cL_law 501 = .ok (.ireturn, 1) := by decide +kernel
theorem dL_law_502 : decode cL_law 502 = .ok (.aload_n 1, 1) := by decide +kernel
theorem dL_law_503 : decode cL_law 503 = .ok (.aload_n 0, 1) := by decide +kernel
theorem dL_law_504 : decode cL_law 504 = .ok (.iload_n 3, 1) := by decide +kernel
theorem dL_law_505 : decode cL_law 505 = .ok (.iconst 1, 1) := by decide +kernel
theorem dL_law_506 : decode cL_law 506 = .ok (.iadd, 1) := by decide +kernel
theorem dL_law_507 : decode cL_law 507 = .ok (.iaload, 1) := by decide +kernel
theorem dL_law_508 : decode cL_law 508 = .ok (.aload_n 0, 1) := by decide +kernel
theorem dL_law_509 : decode cL_law 509 = .ok (.iload_n 3, 1) := by decide +kernel
theorem dL_law_510 : decode cL_law 510 = .ok (.iconst 2, 1) := by decide +kernel
theorem dL_law_511 : decode cL_law 511 = .ok (.iadd, 1) := by decide +kernel
theorem dL_law_512 : decode cL_law 512 = .ok (.iaload, 1) := by decide +kernel
theorem dL_law_513 : decode cL_law 513 = .ok (.invokevirtual 57, 3) := by decide +kernel
theorem dL_law_516 : decode cL_law 516 = .ok (.aload_n 2, 1) := by decide +kernel
theorem dL_law_517 : decode cL_law 517 = .ok (.aload_n 0, 1) := by decide +kernel
theorem dL_law_518 : decode cL_law 518 = .ok (.iload_n 3, 1) := by decide +kernel
theorem dL_law_519 : decode cL_law 519 = .ok (.iconst 1, 1) := by decide +kernel
theorem dL_law_520 : decode cL_law 520 = .ok (.iadd, 1) := by decide +kernel
theorem dL_law_521 : decode cL_law 521 = .ok (.iaload, 1) := by decide +kernel
theorem dL_law_522 : decode cL_law 522 = .ok (.aload_n 0, 1) := by decide +kernel
theorem dL_law_523 : decode cL_law 523 = .ok (.iload_n 3, 1) := by decide +kernel
theorem dL_law_524 : decode cL_law 524 = .ok (.iconst 2, 1) := by decide +kernel
theorem dL_law_525 : decode cL_law 525 = .ok (.iadd, 1) := by decide +kernel
theorem dL_law_526 : decode cL_law 526 = .ok (.iaload, 1) := by decide +kernel
theorem dL_law_527 : decode cL_law 527 = .ok (.invokevirtual 60, 3) := by decide +kernel
theorem dL_law_530 : decode cL_law 530 = .ok (.if_icmp .eq 781, 3) := by decide +kernel
theorem dL_law_533 : decode cL_law 533 = .ok (.iconst 0, 1) := by decide +kernel
theorem dL_law_534 : decode cL_law 534 = .ok (.ireturn, 1) := by decide +kernel
theorem dL_law_535 : decode cL_law 535 = .ok (.aload_n 1, 1) := by decide +kernel
theorem dL_law_536 : decode cL_law 536 = .ok (.aload_n 0, 1) := by decide +kernel
theorem dL_law_537 : decode cL_law 537 = .ok (.iload_n 3, 1) := by decide +kernel
theorem dL_law_538 : decode cL_law 538 = .ok (.iconst 1, 1) := by decide +kernel
theorem dL_law_539 : decode cL_law 539 = .ok (.iadd, 1) := by decide +kernel
theorem dL_law_540 : decode cL_law 540 = .ok (.iaload, 1) := by decide +kernel
theorem dL_law_541 : decode cL_law 541 = .ok (.aload_n 0, 1) := by decide +kernel
theorem dL_law_542 : decode cL_law 542 = .ok (.iload_n 3, 1) := by decide +kernel
theorem dL_law_543 : decode cL_law 543 = .ok (.iconst 2, 1) := by decide +kernel
theorem dL_law_544 : decode cL_law 544 = .ok (.iadd, 1) := by decide +kernel
theorem dL_law_545 : decode cL_law 545 = .ok (.iaload, 1) := by decide +kernel
theorem dL_law_546 : decode cL_law 546 = .ok (.aload_n 0, 1) := by decide +kernel
theorem dL_law_547 : decode cL_law 547 = .ok (.iload_n 3, 1) := by decide +kernel
theorem dL_law_548 : decode cL_law 548 = .ok (.iconst 3, 1) := by decide +kernel
theorem dL_law_549 : decode cL_law 549 = .ok (.iadd, 1) := by decide +kernel
theorem dL_law_550 : decode cL_law 550 = .ok (.iaload, 1) := by decide +kernel
theorem dL_law_551 : decode cL_law 551 = .ok (.invokevirtual 61, 3) := by decide +kernel
theorem dL_law_554 : decode cL_law 554 = .ok (.aload_n 2, 1) := by decide +kernel
theorem dL_law_555 : decode cL_law 555 = .ok (.aload_n 0, 1) := by decide +kernel
theorem dL_law_556 : decode cL_law 556 = .ok (.iload_n 3, 1) := by decide +kernel
theorem dL_law_557 : decode cL_law 557 = .ok (.iconst 1, 1) := by decide +kernel
theorem dL_law_558 : decode cL_law 558 = .ok (.iadd, 1) := by decide +kernel
theorem dL_law_559 : decode cL_law 559 = .ok (.iaload, 1) := by decide +kernel
theorem dL_law_560 : decode cL_law 560 = .ok (.aload_n 0, 1) := by decide +kernel
theorem dL_law_561 : decode cL_law 561 = .ok (.iload_n 3, 1) := by decide +kernel
theorem dL_law_562 : decode cL_law 562 = .ok (.iconst 2, 1) := by decide +kernel
theorem dL_law_563 : decode cL_law 563 = .ok (.iadd, 1) := by decide +kernel
theorem dL_law_564 : decode cL_law 564 = .ok (.iaload, 1) := by decide +kernel
theorem dL_law_565 : decode cL_law 565 = .ok (.aload_n 0, 1) := by decide +kernel
theorem dL_law_566 : decode cL_law 566 = .ok (.iload_n 3, 1) := by decide +kernel
theorem dL_law_567 : decode cL_law 567 = .ok (.iconst 3, 1) := by decide +kernel
theorem dL_law_568 : decode cL_law 568 = .ok (.iadd, 1) := by decide +kernel
theorem dL_law_569 : decode cL_law 569 = .ok (.iaload, 1) := by decide +kernel
theorem dL_law_570 : decode cL_law 570 = .ok (.invokevirtual 64, 3) := by decide +kernel
theorem dL_law_573 : decode cL_law 573 = .ok (.if_icmp .eq 738, 3) := by decide +kernel
theorem dL_law_576 : decode cL_law 576 = .ok (.iconst 0, 1) := by decide +kernel
theorem dL_law_577 : decode cL_law 577 = .ok (.ireturn, 1) := by decide +kernel
theorem dL_law_578 : decode cL_law 578 = .ok (.aload_n 1, 1) := by decide +kernel
theorem dL_law_579 : decode cL_law 579 = .ok (.aload_n 0, 1) := by decide +kernel
theorem dL_law_580 : decode cL_law 580 = .ok (.iload_n 3, 1) := by decide +kernel
theorem dL_law_581 : decode cL_law 581 = .ok (.iconst 1, 1) := by decide +kernel
theorem dL_law_582 : decode cL_law 582 = .ok (.iadd, 1) := by decide +kernel
theorem dL_law_583 : decode cL_law 583 = .ok (.iaload, 1) := by decide +kernel
theorem dL_law_584 : decode cL_law 584 = .ok (.invokevirtual 65, 3) := by decide +kernel
theorem dL_law_587 : decode cL_law 587 = .ok (.aload_n 2, 1) := by decide +kernel
theorem dL_law_588 : decode cL_law 588 = .ok (.aload_n 0, 1) := by decide +kernel
theorem dL_law_589 : decode cL_law 589 = .ok (.iload_n 3, 1) := by decide +kernel
theorem dL_law_590 : decode cL_law 590 = .ok (.iconst 1, 1) := by decide +kernel
theorem dL_law_591 : decode cL_law 591 = .ok (.iadd, 1) := by decide +kernel
theorem dL_law_592 : decode cL_law 592 = .ok (.iaload, 1) := by decide +kernel
theorem dL_law_593 : decode cL_law 593 = .ok (.invokevirtual 68, 3) := by decide +kernel
theorem dL_law_596 : decode cL_law 596 = .ok (.if_icmp .eq 715, 3) := by decide +kernel
theorem dL_law_599 : decode cL_law 599 = .ok (.iconst 0, 1) := by decide +kernel
theorem dL_law_600 : decode cL_law 600 = .ok (.ireturn, 1) := by decide +kernel
theorem dL_law_601 : decode cL_law 601 = .ok (.aload_n 1, 1) := by decide +kernel
theorem dL_law_602 : decode cL_law 602 = .ok (.aload_n 0, 1) := by decide +kernel
theorem dL_law_603 : decode cL_law 603 = .ok (.iload_n 3, 1) := by decide +kernel
theorem dL_law_604 : decode cL_law 604 = .ok (.iconst 1, 1) := by decide +kernel
theorem dL_law_605 : decode cL_law 605 = .ok (.iadd, 1) := by decide +kernel
theorem dL_law_606 : decode cL_law 606 = .ok (.iaload, 1) := by decide +kernel
theorem dL_law_607 : decode cL_law 607 = .ok (.invokevirtual 69, 3) := by decide +kernel
theorem dL_law_610 : decode cL_law 610 = .ok (.aload_n 2, 1) := by decide +kernel
theorem dL_law_611 : decode cL_law 611 = .ok (.aload_n 0, 1) := by decide +kernel
theorem dL_law_612 : decode cL_law 612 = .ok (.iload_n 3, 1) := by decide +kernel
theorem dL_law_613 : decode cL_law 613 = .ok (.iconst 1, 1) := by decide +kernel
theorem dL_law_614 : decode cL_law 614 = .ok (.iadd, 1) := by decide +kernel
theorem dL_law_615 : decode cL_law 615 = .ok (.iaload, 1) := by decide +kernel
theorem dL_law_616 : decode cL_law 616 = .ok (.invokevirtual 72, 3) := by decide +kernel
theorem dL_law_619 : decode cL_law 619 = .ok (.if_icmp .eq 692, 3) := by decide +kernel
theorem dL_law_622 : decode cL_law 622 = .ok (.iconst 0, 1) := by decide +kernel
theorem dL_law_623 : decode cL_law 623 = .ok (.ireturn, 1) := by decide +kernel
theorem dL_law_624 : decode cL_law 624 = .ok (.aload_n 1, 1) := by decide +kernel
theorem dL_law_625 : decode cL_law 625 = .ok (.invokevirtual 73, 3) := by decide +kernel
theorem dL_law_628 : decode cL_law 628 = .ok (.aload_n 2, 1) := by decide +kernel
theorem dL_law_629 : decode cL_law 629 = .ok (.invokevirtual 76, 3) := by decide +kernel
theorem dL_law_632 : decode cL_law 632 = .ok (.if_icmp .eq 679, 3) := by decide +kernel
theorem dL_law_635 : decode cL_law 635 = .ok (.iconst 0, 1) := by decide +kernel
theorem dL_law_636 : decode cL_law 636 = .ok (.ireturn, 1) := by decide +kernel
theorem dL_law_637 : decode cL_law 637 = .ok (.aload_n 1, 1) := by decide +kernel
theorem dL_law_638 : decode cL_law 638 = .ok (.aload_n 0, 1) := by decide +kernel
theorem dL_law_639 : decode cL_law 639 = .ok (.iload_n 3, 1) := by decide +kernel
theorem dL_law_640 : decode cL_law 640 = .ok (.iconst 1, 1) := by decide +kernel
theorem dL_law_641 : decode cL_law 641 = .ok (.iadd, 1) := by decide +kernel
theorem dL_law_642 : decode cL_law 642 = .ok (.iaload, 1) := by decide +kernel
theorem dL_law_643 : decode cL_law 643 = .ok (.aload_n 0, 1) := by decide +kernel
theorem dL_law_644 : decode cL_law 644 = .ok (.iload_n 3, 1) := by decide +kernel
theorem dL_law_645 : decode cL_law 645 = .ok (.iconst 2, 1) := by decide +kernel
theorem dL_law_646 : decode cL_law 646 = .ok (.iadd, 1) := by decide +kernel
theorem dL_law_647 : decode cL_law 647 = .ok (.iaload, 1) := by decide +kernel
theorem dL_law_648 : decode cL_law 648 = .ok (.invokevirtual 77, 3) := by decide +kernel
theorem dL_law_651 : decode cL_law 651 = .ok (.aload_n 2, 1) := by decide +kernel
theorem dL_law_652 : decode cL_law 652 = .ok (.aload_n 0, 1) := by decide +kernel
theorem dL_law_653 : decode cL_law 653 = .ok (.iload_n 3, 1) := by decide +kernel
theorem dL_law_654 : decode cL_law 654 = .ok (.iconst 1, 1) := by decide +kernel
theorem dL_law_655 : decode cL_law 655 = .ok (.iadd, 1) := by decide +kernel
theorem dL_law_656 : decode cL_law 656 = .ok (.iaload, 1) := by decide +kernel
theorem dL_law_657 : decode cL_law 657 = .ok (.aload_n 0, 1) := by decide +kernel
theorem dL_law_658 : decode cL_law 658 = .ok (.iload_n 3, 1) := by decide +kernel
theorem dL_law_659 : decode cL_law 659 = .ok (.iconst 2, 1) := by decide +kernel
theorem dL_law_660 : decode cL_law 660 = .ok (.iadd, 1) := by decide +kernel
theorem dL_law_661 : decode cL_law 661 = .ok (.iaload, 1) := by decide +kernel
theorem dL_law_662 : decode cL_law 662 = .ok (.invokevirtual 80, 3) := by decide +kernel
theorem dL_law_665 : decode cL_law 665 = .ok (.if_icmp .eq 646, 3) := by decide +kernel
theorem dL_law_668 : decode cL_law 668 = .ok (.iconst 0, 1) := by decide +kernel
theorem dL_law_669 : decode cL_law 669 = .ok (.ireturn, 1) := by decide +kernel
theorem dL_law_670 : decode cL_law 670 = .ok (.aload_n 1, 1) := by decide +kernel
theorem dL_law_671 : decode cL_law 671 = .ok (.aload_n 0, 1) := by decide +kernel
theorem dL_law_672 : decode cL_law 672 = .ok (.iload_n 3, 1) := by decide +kernel
theorem dL_law_673 : decode cL_law 673 = .ok (.iconst 1, 1) := by decide +kernel
theorem dL_law_674 : decode cL_law 674 = .ok (.iadd, 1) := by decide +kernel
theorem dL_law_675 : decode cL_law 675 = .ok (.iaload, 1) := by decide +kernel
theorem dL_law_676 : decode cL_law 676 = .ok (.aload_n 0, 1) := by decide +kernel
theorem dL_law_677 : decode cL_law 677 = .ok (.iload_n 3, 1) := by decide +kernel
theorem dL_law_678 : decode cL_law 678 = .ok (.iconst 2, 1) := by decide +kernel
theorem dL_law_679 : decode cL_law 679 = .ok (.iadd, 1) := by decide +kernel
theorem dL_law_680 : decode cL_law 680 = .ok (.iaload, 1) := by decide +kernel
theorem dL_law_681 : decode cL_law 681 = .ok (.invokevirtual 81, 3) := by decide +kernel
theorem dL_law_684 : decode cL_law 684 = .ok (.aload_n 2, 1) := by decide +kernel
theorem dL_law_685 : decode cL_law 685 = .ok (.aload_n 0, 1) := by decide +kernel
theorem dL_law_686 : decode cL_law 686 = .ok (.iload_n 3, 1) := by decide +kernel
theorem dL_law_687 : decode cL_law 687 = .ok (.iconst 1, 1) := by decide +kernel
theorem dL_law_688 : decode cL_law 688 = .ok (.iadd, 1) := by decide +kernel
theorem dL_law_689 : decode cL_law 689 = .ok (.iaload, 1) := by decide +kernel
theorem dL_law_690 : decode cL_law 690 = .ok (.aload_n 0, 1) := by decide +kernel
theorem dL_law_691 : decode cL_law 691 = .ok (.iload_n 3, 1) := by decide +kernel
theorem dL_law_692 : decode cL_law 692 = .ok (.iconst 2, 1) := by decide +kernel
theorem dL_law_693 : decode cL_law 693 = .ok (.iadd, 1) := by decide +kernel
theorem dL_law_694 : decode cL_law 694 = .ok (.iaload, 1) := by decide +kernel
theorem dL_law_695 : decode cL_law 695 = .ok (.invokevirtual 84, 3) := by decide +kernel
theorem dL_law_698 : decode cL_law 698 = .ok (.if_icmp .eq 613, 3) := by decide +kernel
theorem dL_law_701 : decode cL_law 701 = .ok (.iconst 0, 1) := by decide +kernel
theorem dL_law_702 : decode cL_law 702 = .ok (.ireturn, 1) := by decide +kernel
theorem dL_law_703 : decode cL_law 703 = .ok (.aload_n 1, 1) := by decide +kernel
theorem dL_law_704 : decode cL_law 704 = .ok (.aload_n 0, 1) := by decide +kernel
theorem dL_law_705 : decode cL_law 705 = .ok (.iload_n 3, 1) := by decide +kernel
theorem dL_law_706 : decode cL_law 706 = .ok (.iconst 1, 1) := by decide +kernel
theorem dL_law_707 : decode cL_law 707 = .ok (.iadd, 1) := by decide +kernel
theorem dL_law_708 : decode cL_law 708 = .ok (.iaload, 1) := by decide +kernel
theorem dL_law_709 : decode cL_law 709 = .ok (.aload_n 0, 1) := by decide +kernel
theorem dL_law_710 : decode cL_law 710 = .ok (.iload_n 3, 1) := by decide +kernel
theorem dL_law_711 : decode cL_law 711 = .ok (.iconst 2, 1) := by decide +kernel
theorem dL_law_712 : decode cL_law 712 = .ok (.iadd, 1) := by decide +kernel
theorem dL_law_713 : decode cL_law 713 = .ok (.iaload, 1) := by decide +kernel
theorem dL_law_714 : decode cL_law 714 = .ok (.invokevirtual 85, 3) := by decide +kernel
theorem dL_law_717 : decode cL_law 717 = .ok (.aload_n 2, 1) := by decide +kernel
theorem dL_law_718 : decode cL_law 718 = .ok (.aload_n 0, 1) := by decide +kernel
theorem dL_law_719 : decode cL_law 719 = .ok (.iload_n 3, 1) := by decide +kernel
theorem dL_law_720 : decode cL_law 720 = .ok (.iconst 1, 1) := by decide +kernel
theorem dL_law_721 : decode cL_law 721 = .ok (.iadd, 1) := by decide +kernel
theorem dL_law_722 : decode cL_law 722 = .ok (.iaload, 1) := by decide +kernel
theorem dL_law_723 : decode cL_law 723 = .ok (.aload_n 0, 1) := by decide +kernel
theorem dL_law_724 : decode cL_law 724 = .ok (.iload_n 3, 1) := by decide +kernel
theorem dL_law_725 : decode cL_law 725 = .ok (.iconst 2, 1) := by decide +kernel
theorem dL_law_726 : decode cL_law 726 = .ok (.iadd, 1) := by decide +kernel
theorem dL_law_727 : decode cL_law 727 = .ok (.iaload, 1) := by decide +kernel
theorem dL_law_728 : decode cL_law 728 = .ok (.invokevirtual 88, 3) := by decide +kernel
theorem dL_law_731 : decode cL_law 731 = .ok (.if_icmp .eq 580, 3) := by decide +kernel
theorem dL_law_734 : decode cL_law 734 = .ok (.iconst 0, 1) := by decide +kernel
theorem dL_law_735 : decode cL_law 735 = .ok (.ireturn, 1) := by decide +kernel
theorem dL_law_736 : decode cL_law 736 = .ok (.aload_n 1, 1) := by decide +kernel
theorem dL_law_737 : decode cL_law 737 = .ok (.aload_n 0, 1) := by decide +kernel
theorem dL_law_738 : decode cL_law 738 = .ok (.iload_n 3, 1) := by decide +kernel
theorem dL_law_739 : decode cL_law 739 = .ok (.iconst 1, 1) := by decide +kernel
theorem dL_law_740 : decode cL_law 740 = .ok (.iadd, 1) := by decide +kernel
theorem dL_law_741 : decode cL_law 741 = .ok (.iaload, 1) := by decide +kernel
theorem dL_law_742 : decode cL_law 742 = .ok (.aload_n 0, 1) := by decide +kernel
theorem dL_law_743 : decode cL_law 743 = .ok (.iload_n 3, 1) := by decide +kernel
theorem dL_law_744 : decode cL_law 744 = .ok (.iconst 2, 1) := by decide +kernel
theorem dL_law_745 : decode cL_law 745 = .ok (.iadd, 1) := by decide +kernel
theorem dL_law_746 : decode cL_law 746 = .ok (.iaload, 1) := by decide +kernel
theorem dL_law_747 : decode cL_law 747 = .ok (.invokevirtual 89, 3) := by decide +kernel
theorem dL_law_750 : decode cL_law 750 = .ok (.aload_n 2, 1) := by decide +kernel
theorem dL_law_751 : decode cL_law 751 = .ok (.aload_n 0, 1) := by decide +kernel
theorem dL_law_752 : decode cL_law 752 = .ok (.iload_n 3, 1) := by decide +kernel
theorem dL_law_753 : decode cL_law 753 = .ok (.iconst 1, 1) := by decide +kernel
theorem dL_law_754 : decode cL_law 754 = .ok (.iadd, 1) := by decide +kernel
theorem dL_law_755 : decode cL_law 755 = .ok (.iaload, 1) := by decide +kernel
theorem dL_law_756 : decode cL_law 756 = .ok (.aload_n 0, 1) := by decide +kernel
theorem dL_law_757 : decode cL_law 757 = .ok (.iload_n 3, 1) := by decide +kernel
theorem dL_law_758 : decode cL_law 758 = .ok (.iconst 2, 1) := by decide +kernel
theorem dL_law_759 : decode cL_law 759 = .ok (.iadd, 1) := by decide +kernel
theorem dL_law_760 : decode cL_law 760 = .ok (.iaload, 1) := by decide +kernel
theorem dL_law_761 : decode cL_law 761 = .ok (.invokevirtual 92, 3) := by decide +kernel
theorem dL_law_764 : decode cL_law 764 = .ok (.if_icmp .eq 547, 3) := by decide +kernel
theorem dL_law_767 : decode cL_law 767 = .ok (.iconst 0, 1) := by decide +kernel
theorem dL_law_768 : decode cL_law 768 = .ok (.ireturn, 1) := by decide +kernel
theorem dL_law_769 : decode cL_law 769 = .ok (.aload_n 1, 1) := by decide +kernel
theorem dL_law_770 : decode cL_law 770 = .ok (.aload_n 0, 1) := by decide +kernel
theorem dL_law_771 : decode cL_law 771 = .ok (.iload_n 3, 1) := by decide +kernel
theorem dL_law_772 : decode cL_law 772 = .ok (.iconst 1, 1) := by decide +kernel
theorem dL_law_773 : decode cL_law 773 = .ok (.iadd, 1) := by decide +kernel
theorem dL_law_774 : decode cL_law 774 = .ok (.iaload, 1) := by decide +kernel
theorem dL_law_775 : decode cL_law 775 = .ok (.aload_n 0, 1) := by decide +kernel
theorem dL_law_776 : decode cL_law 776 = .ok (.iload_n 3, 1) := by decide +kernel
theorem dL_law_777 : decode cL_law 777 = .ok (.iconst 2, 1) := by decide +kernel
theorem dL_law_778 : decode cL_law 778 = .ok (.iadd, 1) := by decide +kernel
theorem dL_law_779 : decode cL_law 779 = .ok (.iaload, 1) := by decide +kernel
theorem dL_law_780 : decode cL_law 780 = .ok (.invokevirtual 93, 3) := by decide +kernel
theorem dL_law_783 : decode cL_law 783 = .ok (.aload_n 2, 1) := by decide +kernel
theorem dL_law_784 : decode cL_law 784 = .ok (.aload_n 0, 1) := by decide +kernel
theorem dL_law_785 : decode cL_law 785 = .ok (.iload_n 3, 1) := by decide +kernel
theorem dL_law_786 : decode cL_law 786 = .ok (.iconst 1, 1) := by decide +kernel
theorem dL_law_787 : decode cL_law 787 = .ok (.iadd, 1) := by decide +kernel
theorem dL_law_788 : decode cL_law 788 = .ok (.iaload, 1) := by decide +kernel
theorem dL_law_789 : decode cL_law 789 = .ok (.aload_n 0, 1) := by decide +kernel
theorem dL_law_790 : decode cL_law 790 = .ok (.iload_n 3, 1) := by decide +kernel
theorem dL_law_791 : decode cL_law 791 = .ok (.iconst 2, 1) := by decide +kernel
theorem dL_law_792 : decode cL_law 792 = .ok (.iadd, 1) := by decide +kernel
theorem dL_law_793 : decode cL_law 793 = .ok (.iaload, 1) := by decide +kernel
theorem dL_law_794 : decode cL_law 794 = .ok (.invokevirtual 96, 3) := by decide +kernel
theorem dL_law_797 : decode cL_law 797 = .ok (.if_icmp .eq 514, 3) := by decide +kernel
theorem dL_law_800 : decode cL_law 800 = .ok (.iconst 0, 1) := by decide +kernel
theorem dL_law_801 : decode cL_law 801 = .ok (.ireturn, 1) := by decide +kernel
theorem dL_law_802 : decode cL_law 802 = .ok (.aload_n 1, 1) := by decide +kernel
theorem dL_law_803 : decode cL_law 803 = .ok (.aload_n 0, 1) := by decide +kernel
theorem dL_law_804 : decode cL_law 804 = .ok (.iload_n 3, 1) := by decide +kernel
theorem dL_law_805 : decode cL_law 805 = .ok (.iconst 1, 1) := by decide +kernel
theorem dL_law_806 : decode cL_law 806 = .ok (.iadd, 1) := by decide +kernel
theorem dL_law_807 : decode cL_law 807 = .ok (.iaload, 1) := by decide +kernel
theorem dL_law_808 : decode cL_law 808 = .ok (.invokevirtual 97, 3) := by decide +kernel
theorem dL_law_811 : decode cL_law 811 = .ok (.aload_n 2, 1) := by decide +kernel
theorem dL_law_812 : decode cL_law 812 = .ok (.aload_n 0, 1) := by decide +kernel
theorem dL_law_813 : decode cL_law 813 = .ok (.iload_n 3, 1) := by decide +kernel
theorem dL_law_814 : decode cL_law 814 = .ok (.iconst 1, 1) := by decide +kernel
theorem dL_law_815 : decode cL_law 815 = .ok (.iadd, 1) := by decide +kernel
theorem dL_law_816 : decode cL_law 816 = .ok (.iaload, 1) := by decide +kernel
theorem dL_law_817 : decode cL_law 817 = .ok (.invokevirtual 100, 3) := by decide +kernel
theorem dL_law_820 : decode cL_law 820 = .ok (.if_icmp .eq 491, 3) := by decide +kernel
theorem dL_law_823 : decode cL_law 823 = .ok (.iconst 0, 1) := by decide +kernel
theorem dL_law_824 : decode cL_law 824 = .ok (.ireturn, 1) := by decide +kernel
theorem dL_law_825 : decode cL_law 825 = .ok (.aload_n 1, 1) := by decide +kernel
theorem dL_law_826 : decode cL_law 826 = .ok (.aload_n 0, 1) := by decide +kernel
theorem dL_law_827 : decode cL_law 827 = .ok (.iload_n 3, 1) := by decide +kernel
theorem dL_law_828 : decode cL_law 828 = .ok (.iconst 1, 1) := by decide +kernel
theorem dL_law_829 : decode cL_law 829 = .ok (.iadd, 1) := by decide +kernel
theorem dL_law_830 : decode cL_law 830 = .ok (.iaload, 1) := by decide +kernel
theorem dL_law_831 : decode cL_law 831 = .ok (.aload_n 0, 1) := by decide +kernel
theorem dL_law_832 : decode cL_law 832 = .ok (.iload_n 3, 1) := by decide +kernel
theorem dL_law_833 : decode cL_law 833 = .ok (.iconst 2, 1) := by decide +kernel
theorem dL_law_834 : decode cL_law 834 = .ok (.iadd, 1) := by decide +kernel
theorem dL_law_835 : decode cL_law 835 = .ok (.iaload, 1) := by decide +kernel
theorem dL_law_836 : decode cL_law 836 = .ok (.aload_n 0, 1) := by decide +kernel
theorem dL_law_837 : decode cL_law 837 = .ok (.iload_n 3, 1) := by decide +kernel
theorem dL_law_838 : decode cL_law 838 = .ok (.iconst 3, 1) := by decide +kernel
theorem dL_law_839 : decode cL_law 839 = .ok (.iadd, 1) := by decide +kernel
theorem dL_law_840 : decode cL_law 840 = .ok (.iaload, 1) := by decide +kernel
theorem dL_law_841 : decode cL_law 841 = .ok (.invokevirtual 101, 3) := by decide +kernel
theorem dL_law_844 : decode cL_law 844 = .ok (.aload_n 2, 1) := by decide +kernel
theorem dL_law_845 : decode cL_law 845 = .ok (.aload_n 0, 1) := by decide +kernel
theorem dL_law_846 : decode cL_law 846 = .ok (.iload_n 3, 1) := by decide +kernel
theorem dL_law_847 : decode cL_law 847 = .ok (.iconst 1, 1) := by decide +kernel
theorem dL_law_848 : decode cL_law 848 = .ok (.iadd, 1) := by decide +kernel
theorem dL_law_849 : decode cL_law 849 = .ok (.iaload, 1) := by decide +kernel
theorem dL_law_850 : decode cL_law 850 = .ok (.aload_n 0, 1) := by decide +kernel
theorem dL_law_851 : decode cL_law 851 = .ok (.iload_n 3, 1) := by decide +kernel
theorem dL_law_852 : decode cL_law 852 = .ok (.iconst 2, 1) := by decide +kernel
theorem dL_law_853 : decode cL_law 853 = .ok (.iadd, 1) := by decide +kernel
theorem dL_law_854 : decode cL_law 854 = .ok (.iaload, 1) := by decide +kernel
theorem dL_law_855 : decode cL_law 855 = .ok (.aload_n 0, 1) := by decide +kernel
theorem dL_law_856 : decode cL_law 856 = .ok (.iload_n 3, 1) := by decide +kernel
theorem dL_law_857 : decode cL_law 857 = .ok (.iconst 3, 1) := by decide +kernel
theorem dL_law_858 : decode cL_law 858 = .ok (.iadd, 1) := by decide +kernel
theorem dL_law_859 : decode cL_law 859 = .ok (.iaload, 1) := by decide +kernel
theorem dL_law_860 : decode cL_law 860 = .ok (.invokevirtual 104, 3) := by decide +kernel
theorem dL_law_863 : decode cL_law 863 = .ok (.if_icmp .eq 448, 3) := by decide +kernel
theorem dL_law_866 : decode cL_law 866 = .ok (.iconst 0, 1) := by decide +kernel
theorem dL_law_867 : decode cL_law 867 = .ok (.ireturn, 1) := by decide +kernel
theorem dL_law_868 : decode cL_law 868 = .ok (.aload_n 1, 1) := by decide +kernel
theorem dL_law_869 : decode cL_law 869 = .ok (.invokevirtual 105, 3) := by decide +kernel
theorem dL_law_872 : decode cL_law 872 = .ok (.aload_n 2, 1) := by decide +kernel
theorem dL_law_873 : decode cL_law 873 = .ok (.invokevirtual 108, 3) := by decide +kernel
theorem dL_law_876 : decode cL_law 876 = .ok (.if_icmp .eq 435, 3) := by decide +kernel
theorem dL_law_879 : decode cL_law 879 = .ok (.iconst 0, 1) := by decide +kernel
theorem dL_law_880 : decode cL_law 880 = .ok (.ireturn, 1) := by decide +kernel
theorem dL_law_881 : decode cL_law 881 = .ok (.aload_n 1, 1) := by decide +kernel
theorem dL_law_882 : decode cL_law 882 = .ok (.invokevirtual 109, 3) := by decide +kernel
theorem dL_law_885 : decode cL_law 885 = .ok (.aload_n 2, 1) := by decide +kernel
theorem dL_law_886 : decode cL_law 886 = .ok (.invokevirtual 112, 3) := by decide +kernel
theorem dL_law_889 : decode cL_law 889 = .ok (.if_icmp .eq 422, 3) := by decide +kernel
theorem dL_law_892 : decode cL_law 892 = .ok (.iconst 0, 1) := by decide +kernel
theorem dL_law_893 : decode cL_law 893 = .ok (.ireturn, 1) := by decide +kernel
theorem dL_law_894 : decode cL_law 894 = .ok (.aload_n 1, 1) := by decide +kernel
theorem dL_law_895 : decode cL_law 895 = .ok (.invokevirtual 113, 3) := by decide +kernel
theorem dL_law_898 : decode cL_law 898 = .ok (.aload_n 2, 1) := by decide +kernel
theorem dL_law_899 : decode cL_law 899 = .ok (.invokevirtual 116, 3) := by decide +kernel
theorem dL_law_902 : decode cL_law 902 = .ok (.if_icmp .eq 409, 3) := by decide +kernel
theorem dL_law_905 : decode cL_law 905 = .ok (.iconst 0, 1) := by decide +kernel
theorem dL_law_906 : decode cL_law 906 = .ok (.ireturn, 1) := by decide +kernel
theorem dL_law_907 : decode cL_law 907 = .ok (.aload_n 1, 1) := by decide +kernel
theorem dL_law_908 : decode cL_law 908 = .ok (.invokevirtual 117, 3) := by decide +kernel
theorem dL_law_911 : decode cL_law 911 = .ok (.aload_n 2, 1) := by decide +kernel
theorem dL_law_912 : decode cL_law 912 = .ok (.invokevirtual 120, 3) := by decide +kernel
theorem dL_law_915 : decode cL_law 915 = .ok (.if_icmp .eq 396, 3) := by decide +kernel
theorem dL_law_918 : decode cL_law 918 = .ok (.iconst 0, 1) := by decide +kernel
theorem dL_law_919 : decode cL_law 919 = .ok (.ireturn, 1) := by decide +kernel
theorem dL_law_920 : decode cL_law 920 = .ok (.aload_n 1, 1) := by decide +kernel
theorem dL_law_921 : decode cL_law 921 = .ok (.aload_n 0, 1) := by decide +kernel
theorem dL_law_922 : decode cL_law 922 = .ok (.iload_n 3, 1) := by decide +kernel
theorem dL_law_923 : decode cL_law 923 = .ok (.iconst 1, 1) := by decide +kernel
theorem dL_law_924 : decode cL_law 924 = .ok (.iadd, 1) := by decide +kernel
theorem dL_law_925 : decode cL_law 925 = .ok (.iaload, 1) := by decide +kernel
theorem dL_law_926 : decode cL_law 926 = .ok (.invokevirtual 121, 3) := by decide +kernel
theorem dL_law_929 : decode cL_law 929 = .ok (.aload_n 2, 1) := by decide +kernel
theorem dL_law_930 : decode cL_law 930 = .ok (.aload_n 0, 1) := by decide +kernel
theorem dL_law_931 : decode cL_law 931 = .ok (.iload_n 3, 1) := by decide +kernel
theorem dL_law_932 : decode cL_law 932 = .ok (.iconst 1, 1) := by decide +kernel
theorem dL_law_933 : decode cL_law 933 = .ok (.iadd, 1) := by decide +kernel
theorem dL_law_934 : decode cL_law 934 = .ok (.iaload, 1) := by decide +kernel
theorem dL_law_935 : decode cL_law 935 = .ok (.invokevirtual 124, 3) := by decide +kernel
theorem dL_law_938 : decode cL_law 938 = .ok (.if_icmp .eq 373, 3) := by decide +kernel
theorem dL_law_941 : decode cL_law 941 = .ok (.iconst 0, 1) := by decide +kernel
theorem dL_law_942 : decode cL_law 942 = .ok (.ireturn, 1) := by decide +kernel
theorem dL_law_943 : decode cL_law 943 = .ok (.aload_n 1, 1) := by decide +kernel
theorem dL_law_944 : decode cL_law 944 = .ok (.aload_n 0, 1) := by decide +kernel
theorem dL_law_945 : decode cL_law 945 = .ok (.iload_n 3, 1) := by decide +kernel
theorem dL_law_946 : decode cL_law 946 = .ok (.iconst 1, 1) := by decide +kernel
theorem dL_law_947 : decode cL_law 947 = .ok (.iadd, 1) := by decide +kernel
theorem dL_law_948 : decode cL_law 948 = .ok (.iaload, 1) := by decide +kernel
theorem dL_law_949 : decode cL_law 949 = .ok (.aload_n 0, 1) := by decide +kernel
theorem dL_law_950 : decode cL_law 950 = .ok (.iload_n 3, 1) := by decide +kernel
theorem dL_law_951 : decode cL_law 951 = .ok (.iconst 2, 1) := by decide +kernel
theorem dL_law_952 : decode cL_law 952 = .ok (.iadd, 1) := by decide +kernel
theorem dL_law_953 : decode cL_law 953 = .ok (.iaload, 1) := by decide +kernel
theorem dL_law_954 : decode cL_law 954 = .ok (.aload_n 0, 1) := by decide +kernel
theorem dL_law_955 : decode cL_law 955 = .ok (.iload_n 3, 1) := by decide +kernel
theorem dL_law_956 : decode cL_law 956 = .ok (.iconst 3, 1) := by decide +kernel
theorem dL_law_957 : decode cL_law 957 = .ok (.iadd, 1) := by decide +kernel
theorem dL_law_958 : decode cL_law 958 = .ok (.iaload, 1) := by decide +kernel
theorem dL_law_959 : decode cL_law 959 = .ok (.invokevirtual 125, 3) := by decide +kernel
theorem dL_law_962 : decode cL_law 962 = .ok (.aload_n 2, 1) := by decide +kernel
theorem dL_law_963 : decode cL_law 963 = .ok (.aload_n 0, 1) := by decide +kernel
theorem dL_law_964 : decode cL_law 964 = .ok (.iload_n 3, 1) := by decide +kernel
theorem dL_law_965 : decode cL_law 965 = .ok (.iconst 1, 1) := by decide +kernel
theorem dL_law_966 : decode cL_law 966 = .ok (.iadd, 1) := by decide +kernel
theorem dL_law_967 : decode cL_law 967 = .ok (.iaload, 1) := by decide +kernel
theorem dL_law_968 : decode cL_law 968 = .ok (.aload_n 0, 1) := by decide +kernel
theorem dL_law_969 : decode cL_law 969 = .ok (.iload_n 3, 1) := by decide +kernel
theorem dL_law_970 : decode cL_law 970 = .ok (.iconst 2, 1) := by decide +kernel
theorem dL_law_971 : decode cL_law 971 = .ok (.iadd, 1) := by decide +kernel
theorem dL_law_972 : decode cL_law 972 = .ok (.iaload, 1) := by decide +kernel
theorem dL_law_973 : decode cL_law 973 = .ok (.aload_n 0, 1) := by decide +kernel
theorem dL_law_974 : decode cL_law 974 = .ok (.iload_n 3, 1) := by decide +kernel
theorem dL_law_975 : decode cL_law 975 = .ok (.iconst 3, 1) := by decide +kernel
theorem dL_law_976 : decode cL_law 976 = .ok (.iadd, 1) := by decide +kernel
theorem dL_law_977 : decode cL_law 977 = .ok (.iaload, 1) := by decide +kernel
theorem dL_law_978 : decode cL_law 978 = .ok (.invokevirtual 128, 3) := by decide +kernel
theorem dL_law_981 : decode cL_law 981 = .ok (.if_icmp .eq 330, 3) := by decide +kernel
theorem dL_law_984 : decode cL_law 984 = .ok (.iconst 0, 1) := by decide +kernel
theorem dL_law_985 : decode cL_law 985 = .ok (.ireturn, 1) := by decide +kernel
theorem dL_law_986 : decode cL_law 986 = .ok (.aload_n 1, 1) := by decide +kernel
theorem dL_law_987 : decode cL_law 987 = .ok (.aload_n 0, 1) := by decide +kernel
theorem dL_law_988 : decode cL_law 988 = .ok (.iload_n 3, 1) := by decide +kernel
theorem dL_law_989 : decode cL_law 989 = .ok (.iconst 1, 1) := by decide +kernel
theorem dL_law_990 : decode cL_law 990 = .ok (.iadd, 1) := by decide +kernel
theorem dL_law_991 : decode cL_law 991 = .ok (.iaload, 1) := by decide +kernel
theorem dL_law_992 : decode cL_law 992 = .ok (.invokevirtual 129, 3) := by decide +kernel
theorem dL_law_995 : decode cL_law 995 = .ok (.aload_n 2, 1) := by decide +kernel
theorem dL_law_996 : decode cL_law 996 = .ok (.aload_n 0, 1) := by decide +kernel
theorem dL_law_997 : decode cL_law 997 = .ok (.iload_n 3, 1) := by decide +kernel
theorem dL_law_998 : decode cL_law 998 = .ok (.iconst 1, 1) := by decide +kernel
theorem dL_law_999 : decode cL_law 999 = .ok (.iadd, 1) := by decide +kernel
theorem dL_law_1000 : decode cL_law 1000 = .ok (.iaload, 1) := by decide +kernel
theorem dL_law_1001 : decode cL_law 1001 = .ok (.invokevirtual 132, 3) := by decide +kernel
theorem dL_law_1004 : decode cL_law 1004 = .ok (.if_icmp .eq 307, 3) := by decide +kernel
theorem dL_law_1007 : decode cL_law 1007 = .ok (.iconst 0, 1) := by decide +kernel
theorem dL_law_1008 : decode cL_law 1008 = .ok (.ireturn, 1) := by decide +kernel
theorem dL_law_1009 : decode cL_law 1009 = .ok (.aload_n 1, 1) := by decide +kernel
theorem dL_law_1010 : decode cL_law 1010 = .ok (.aload_n 0, 1) := by decide +kernel
theorem dL_law_1011 : decode cL_law 1011 = .ok (.iload_n 3, 1) := by decide +kernel
theorem dL_law_1012 : decode cL_law 1012 = .ok (.iconst 1, 1) := by decide +kernel
theorem dL_law_1013 : decode cL_law 1013 = .ok (.iadd, 1) := by decide +kernel
theorem dL_law_1014 : decode cL_law 1014 = .ok (.iaload, 1) := by decide +kernel
theorem dL_law_1015 : decode cL_law 1015 = .ok (.aload_n 0, 1) := by decide +kernel
theorem dL_law_1016 : decode cL_law 1016 = .ok (.iload_n 3, 1) := by decide +kernel
theorem dL_law_1017 : decode cL_law 1017 = .ok (.iconst 2, 1) := by decide +kernel
theorem dL_law_1018 : decode cL_law 1018 = .ok (.iadd, 1) := by decide +kernel
theorem dL_law_1019 : decode cL_law 1019 = .ok (.iaload, 1) := by decide +kernel
theorem dL_law_1020 : decode cL_law 1020 = .ok (.invokevirtual 133, 3) := by decide +kernel
theorem dL_law_1023 : decode cL_law 1023 = .ok (.aload_n 2, 1) := by decide +kernel
theorem dL_law_1024 : decode cL_law 1024 = .ok (.aload_n 0, 1) := by decide +kernel
theorem dL_law_1025 : decode cL_law 1025 = .ok (.iload_n 3, 1) := by decide +kernel
theorem dL_law_1026 : decode cL_law 1026 = .ok (.iconst 1, 1) := by decide +kernel
theorem dL_law_1027 : decode cL_law 1027 = .ok (.iadd, 1) := by decide +kernel
theorem dL_law_1028 : decode cL_law 1028 = .ok (.iaload, 1) := by decide +kernel
theorem dL_law_1029 : decode cL_law 1029 = .ok (.aload_n 0, 1) := by decide +kernel
theorem dL_law_1030 : decode cL_law 1030 = .ok (.iload_n 3, 1) := by decide +kernel
theorem dL_law_1031 : decode cL_law 1031 = .ok (.iconst 2, 1) := by decide +kernel
theorem dL_law_1032 : decode cL_law 1032 = .ok (.iadd, 1) := by decide +kernel
theorem dL_law_1033 : decode cL_law 1033 = .ok (.iaload, 1) := by decide +kernel
theorem dL_law_1034 : decode cL_law 1034 = .ok (.invokevirtual 136, 3) := by decide +kernel
theorem dL_law_1037 : decode cL_law 1037 = .ok (.if_icmp .eq 274, 3) := by decide +kernel
theorem dL_law_1040 : decode cL_law 1040 = .ok (.iconst 0, 1) := by decide +kernel
theorem dL_law_1041 : decode cL_law 1041 = .ok (.ireturn, 1) := by decide +kernel
theorem dL_law_1042 : decode cL_law 1042 = .ok (.aload_n 1, 1) := by decide +kernel
theorem dL_law_1043 : decode cL_law 1043 = .ok (.aload_n 0, 1) := by decide +kernel
theorem dL_law_1044 : decode cL_law 1044 = .ok (.iload_n 3, 1) := by decide +kernel
theorem dL_law_1045 : decode cL_law 1045 = .ok (.iconst 1, 1) := by decide +kernel
theorem dL_law_1046 : decode cL_law 1046 = .ok (.iadd, 1) := by decide +kernel
theorem dL_law_1047 : decode cL_law 1047 = .ok (.iaload, 1) := by decide +kernel
theorem dL_law_1048 : decode cL_law 1048 = .ok (.aload_n 0, 1) := by decide +kernel
theorem dL_law_1049 : decode cL_law 1049 = .ok (.iload_n 3, 1) := by decide +kernel
theorem dL_law_1050 : decode cL_law 1050 = .ok (.iconst 2, 1) := by decide +kernel
theorem dL_law_1051 : decode cL_law 1051 = .ok (.iadd, 1) := by decide +kernel
theorem dL_law_1052 : decode cL_law 1052 = .ok (.iaload, 1) := by decide +kernel
theorem dL_law_1053 : decode cL_law 1053 = .ok (.aload_n 0, 1) := by decide +kernel
theorem dL_law_1054 : decode cL_law 1054 = .ok (.iload_n 3, 1) := by decide +kernel
theorem dL_law_1055 : decode cL_law 1055 = .ok (.iconst 3, 1) := by decide +kernel
theorem dL_law_1056 : decode cL_law 1056 = .ok (.iadd, 1) := by decide +kernel
theorem dL_law_1057 : decode cL_law 1057 = .ok (.iaload, 1) := by decide +kernel
theorem dL_law_1058 : decode cL_law 1058 = .ok (.invokevirtual 137, 3) := by decide +kernel
theorem dL_law_1061 : decode cL_law 1061 = .ok (.aload_n 2, 1) := by decide +kernel
theorem dL_law_1062 : decode cL_law 1062 = .ok (.aload_n 0, 1) := by decide +kernel
theorem dL_law_1063 : decode cL_law 1063 = .ok (.iload_n 3, 1) := by decide +kernel
theorem dL_law_1064 : decode cL_law 1064 = .ok (.iconst 1, 1) := by decide +kernel
theorem dL_law_1065 : decode cL_law 1065 = .ok (.iadd, 1) := by decide +kernel
theorem dL_law_1066 : decode cL_law 1066 = .ok (.iaload, 1) := by decide +kernel
theorem dL_law_1067 : decode cL_law 1067 = .ok (.aload_n 0, 1) := by decide +kernel
theorem dL_law_1068 : decode cL_law 1068 = .ok (.iload_n 3, 1) := by decide +kernel
theorem dL_law_1069 : decode cL_law 1069 = .ok (.iconst 2, 1) := by decide +kernel
theorem dL_law_1070 : decode cL_law 1070 = .ok (.iadd, 1) := by decide +kernel
theorem dL_law_1071 : decode cL_law 1071 = .ok (.iaload, 1) := by decide +kernel
theorem dL_law_1072 : decode cL_law 1072 = .ok (.aload_n 0, 1) := by decide +kernel
theorem dL_law_1073 : decode cL_law 1073 = .ok (.iload_n 3, 1) := by decide +kernel
theorem dL_law_1074 : decode cL_law 1074 = .ok (.iconst 3, 1) := by decide +kernel
theorem dL_law_1075 : decode cL_law 1075 = .ok (.iadd, 1) := by decide +kernel
theorem dL_law_1076 : decode cL_law 1076 = .ok (.iaload, 1) := by decide +kernel
theorem dL_law_1077 : decode cL_law 1077 = .ok (.invokevirtual 140, 3) := by decide +kernel
theorem dL_law_1080 : decode cL_law 1080 = .ok (.if_icmp .eq 231, 3) := by decide +kernel
theorem dL_law_1083 : decode cL_law 1083 = .ok (.iconst 0, 1) := by decide +kernel
theorem dL_law_1084 : decode cL_law 1084 = .ok (.ireturn, 1) := by decide +kernel
theorem dL_law_1085 : decode cL_law 1085 = .ok (.aload_n 1, 1) := by decide +kernel
theorem dL_law_1086 : decode cL_law 1086 = .ok (.aload_n 0, 1) := by decide +kernel
theorem dL_law_1087 : decode cL_law 1087 = .ok (.iload_n 3, 1) := by decide +kernel
theorem dL_law_1088 : decode cL_law 1088 = .ok (.iconst 1, 1) := by decide +kernel
theorem dL_law_1089 : decode cL_law 1089 = .ok (.iadd, 1) := by decide +kernel
theorem dL_law_1090 : decode cL_law 1090 = .ok (.iaload, 1) := by decide +kernel
theorem dL_law_1091 : decode cL_law 1091 = .ok (.aload_n 0, 1) := by decide +kernel
theorem dL_law_1092 : decode cL_law 1092 = .ok (.iload_n 3, 1) := by decide +kernel
theorem dL_law_1093 : decode cL_law 1093 = .ok (.iconst 2, 1) := by decide +kernel
theorem dL_law_1094 : decode cL_law 1094 = .ok (.iadd, 1) := by decide +kernel
theorem dL_law_1095 : decode cL_law 1095 = .ok (.iaload, 1) := by decide +kernel
theorem dL_law_1096 : decode cL_law 1096 = .ok (.aload_n 0, 1) := by decide +kernel
theorem dL_law_1097 : decode cL_law 1097 = .ok (.iload_n 3, 1) := by decide +kernel
theorem dL_law_1098 : decode cL_law 1098 = .ok (.iconst 3, 1) := by decide +kernel
theorem dL_law_1099 : decode cL_law 1099 = .ok (.iadd, 1) := by decide +kernel
theorem dL_law_1100 : decode cL_law 1100 = .ok (.iaload, 1) := by decide +kernel
theorem dL_law_1101 : decode cL_law 1101 = .ok (.i2l, 1) := by decide +kernel
theorem dL_law_1102 : decode cL_law 1102 = .ok (.bipush 32, 2) := by decide +kernel
theorem dL_law_1104 : decode cL_law 1104 = .ok (.lshl, 1) := by decide +kernel
theorem dL_law_1105 : decode cL_law 1105 = .ok (.aload_n 0, 1) := by decide +kernel
theorem dL_law_1106 : decode cL_law 1106 = .ok (.iload_n 3, 1) := by decide +kernel
theorem dL_law_1107 : decode cL_law 1107 = .ok (.iconst 4, 1) := by decide +kernel
theorem dL_law_1108 : decode cL_law 1108 = .ok (.iadd, 1) := by decide +kernel
theorem dL_law_1109 : decode cL_law 1109 = .ok (.iaload, 1) := by decide +kernel
theorem dL_law_1110 : decode cL_law 1110 = .ok (.i2l, 1) := by decide +kernel
theorem dL_law_1111 : decode cL_law 1111 = .ok (.ldc2_w 141, 3) := by decide +kernel
theorem dL_law_1114 : decode cL_law 1114 = .ok (.land, 1) := by decide +kernel
theorem dL_law_1115 : decode cL_law 1115 = .ok (.lor, 1) := by decide +kernel
theorem dL_law_1116 : decode cL_law 1116 = .ok (.invokevirtual 143, 3) := by decide +kernel
theorem dL_law_1119 : decode cL_law 1119 = .ok (.aload_n 2, 1) := by decide +kernel
theorem dL_law_1120 : decode cL_law 1120 = .ok (.aload_n 0, 1) := by decide +kernel
theorem dL_law_1121 : decode cL_law 1121 = .ok (.iload_n 3, 1) := by decide +kernel
theorem dL_law_1122 : decode cL_law 1122 = .ok (.iconst 1, 1) := by decide +kernel
theorem dL_law_1123 : decode cL_law 1123 = .ok (.iadd, 1) := by decide +kernel
theorem dL_law_1124 : decode cL_law 1124 = .ok (.iaload, 1) := by decide +kernel
theorem dL_law_1125 : decode cL_law 1125 = .ok (.aload_n 0, 1) := by decide +kernel
theorem dL_law_1126 : decode cL_law 1126 = .ok (.iload_n 3, 1) := by decide +kernel
theorem dL_law_1127 : decode cL_law 1127 = .ok (.iconst 2, 1) := by decide +kernel
theorem dL_law_1128 : decode cL_law 1128 = .ok (.iadd, 1) := by decide +kernel
theorem dL_law_1129 : decode cL_law 1129 = .ok (.iaload, 1) := by decide +kernel
theorem dL_law_1130 : decode cL_law 1130 = .ok (.aload_n 0, 1) := by decide +kernel
theorem dL_law_1131 : decode cL_law 1131 = .ok (.iload_n 3, 1) := by decide +kernel
theorem dL_law_1132 : decode cL_law 1132 = .ok (.iconst 3, 1) := by decide +kernel
theorem dL_law_1133 : decode cL_law 1133 = .ok (.iadd, 1) := by decide +kernel
theorem dL_law_1134 : decode cL_law 1134 = .ok (.iaload, 1) := by decide +kernel
theorem dL_law_1135 : decode cL_law 1135 = .ok (.i2l, 1) := by decide +kernel
theorem dL_law_1136 : decode cL_law 1136 = .ok (.bipush 32, 2) := by decide +kernel
theorem dL_law_1138 : decode cL_law 1138 = .ok (.lshl, 1) := by decide +kernel
theorem dL_law_1139 : decode cL_law 1139 = .ok (.aload_n 0, 1) := by decide +kernel
theorem dL_law_1140 : decode cL_law 1140 = .ok (.iload_n 3, 1) := by decide +kernel
theorem dL_law_1141 : decode cL_law 1141 = .ok (.iconst 4, 1) := by decide +kernel
theorem dL_law_1142 : decode cL_law 1142 = .ok (.iadd, 1) := by decide +kernel
theorem dL_law_1143 : decode cL_law 1143 = .ok (.iaload, 1) := by decide +kernel
theorem dL_law_1144 : decode cL_law 1144 = .ok (.i2l, 1) := by decide +kernel
theorem dL_law_1145 : decode cL_law 1145 = .ok (.ldc2_w 141, 3) := by decide +kernel
theorem dL_law_1148 : decode cL_law 1148 = .ok (.land, 1) := by decide +kernel
theorem dL_law_1149 : decode cL_law 1149 = .ok (.lor, 1) := by decide +kernel
theorem dL_law_1150 : decode cL_law 1150 = .ok (.invokevirtual 147, 3) := by decide +kernel
theorem dL_law_1153 : decode cL_law 1153 = .ok (.if_icmp .eq 158, 3) := by decide +kernel
theorem dL_law_1156 : decode cL_law 1156 = .ok (.iconst 0, 1) := by decide +kernel
theorem dL_law_1157 : decode cL_law 1157 = .ok (.ireturn, 1) := by decide +kernel
theorem dL_law_1158 : decode cL_law 1158 = .ok (.aload_n 1, 1) := by decide +kernel
theorem dL_law_1159 : decode cL_law 1159 = .ok (.aload_n 0, 1) := by decide +kernel
theorem dL_law_1160 : decode cL_law 1160 = .ok (.iload_n 3, 1) := by decide +kernel
theorem dL_law_1161 : decode cL_law 1161 = .ok (.iconst 1, 1) := by decide +kernel
theorem dL_law_1162 : decode cL_law 1162 = .ok (.iadd, 1) := by decide +kernel
theorem dL_law_1163 : decode cL_law 1163 = .ok (.iaload, 1) := by decide +kernel
theorem dL_law_1164 : decode cL_law 1164 = .ok (.aload_n 0, 1) := by decide +kernel
theorem dL_law_1165 : decode cL_law 1165 = .ok (.iload_n 3, 1) := by decide +kernel
theorem dL_law_1166 : decode cL_law 1166 = .ok (.iconst 2, 1) := by decide +kernel
theorem dL_law_1167 : decode cL_law 1167 = .ok (.iadd, 1) := by decide +kernel
theorem dL_law_1168 : decode cL_law 1168 = .ok (.iaload, 1) := by decide +kernel
theorem dL_law_1169 : decode cL_law 1169 = .ok (.invokevirtual 148, 3) := by decide +kernel
theorem dL_law_1172 : decode cL_law 1172 = .ok (.aload_n 2, 1) := by decide +kernel
theorem dL_law_1173 : decode cL_law 1173 = .ok (.aload_n 0, 1) := by decide +kernel
theorem dL_law_1174 : decode cL_law 1174 = .ok (.iload_n 3, 1) := by decide +kernel
theorem dL_law_1175 : decode cL_law 1175 = .ok (.iconst 1, 1) := by decide +kernel
theorem dL_law_1176 : decode cL_law 1176 = .ok (.iadd, 1) := by decide +kernel
theorem dL_law_1177 : decode cL_law 1177 = .ok (.iaload, 1) := by decide +kernel
theorem dL_law_1178 : decode cL_law 1178 = .ok (.aload_n 0, 1) := by decide +kernel
theorem dL_law_1179 : decode cL_law 1179 = .ok (.iload_n 3, 1) := by decide +kernel
theorem dL_law_1180 : decode cL_law 1180 = .ok (.iconst 2, 1) := by decide +kernel
theorem dL_law_1181 : decode cL_law 1181 = .ok (.iadd, 1) := by decide +kernel
theorem dL_law_1182 : decode cL_law 1182 = .ok (.iaload, 1) := by decide +kernel
theorem dL_law_1183 : decode cL_law 1183 = .ok (.invokevirtual 152, 3) := by decide +kernel
theorem dL_law_1186 : decode cL_law 1186 = .ok (.lcmp, 1) := by decide +kernel
theorem dL_law_1187 : decode cL_law 1187 = .ok (.ifCond .eq 124, 3) := by decide +kernel
theorem dL_law_1190 : decode cL_law 1190 = .ok (.iconst 0, 1) := by decide +kernel
theorem dL_law_1191 : decode cL_law 1191 = .ok (.ireturn, 1) := by decide +kernel
theorem dL_law_1192 : decode cL_law 1192 = .ok (.aload_n 1, 1) := by decide +kernel
theorem dL_law_1193 : decode cL_law 1193 = .ok (.aload_n 0, 1) := by decide +kernel
theorem dL_law_1194 : decode cL_law 1194 = .ok (.iload_n 3, 1) := by decide +kernel
theorem dL_law_1195 : decode cL_law 1195 = .ok (.iconst 1, 1) := by decide +kernel
theorem dL_law_1196 : decode cL_law 1196 = .ok (.iadd, 1) := by decide +kernel
theorem dL_law_1197 : decode cL_law 1197 = .ok (.iaload, 1) := by decide +kernel
theorem dL_law_1198 : decode cL_law 1198 = .ok (.aload_n 0, 1) := by decide +kernel
theorem dL_law_1199 : decode cL_law 1199 = .ok (.iload_n 3, 1) := by decide +kernel
theorem dL_law_1200 : decode cL_law 1200 = .ok (.iconst 2, 1) := by decide +kernel
theorem dL_law_1201 : decode cL_law 1201 = .ok (.iadd, 1) := by decide +kernel
theorem dL_law_1202 : decode cL_law 1202 = .ok (.iaload, 1) := by decide +kernel
theorem dL_law_1203 : decode cL_law 1203 = .ok (.aload_n 0, 1) := by decide +kernel
theorem dL_law_1204 : decode cL_law 1204 = .ok (.iload_n 3, 1) := by decide +kernel
theorem dL_law_1205 : decode cL_law 1205 = .ok (.iconst 3, 1) := by decide +kernel
theorem dL_law_1206 : decode cL_law 1206 = .ok (.iadd, 1) := by decide +kernel
theorem dL_law_1207 : decode cL_law 1207 = .ok (.iaload, 1) := by decide +kernel
theorem dL_law_1208 : decode cL_law 1208 = .ok (.aload_n 0, 1) := by decide +kernel
theorem dL_law_1209 : decode cL_law 1209 = .ok (.iload_n 3, 1) := by decide +kernel
theorem dL_law_1210 : decode cL_law 1210 = .ok (.iconst 4, 1) := by decide +kernel
theorem dL_law_1211 : decode cL_law 1211 = .ok (.iadd, 1) := by decide +kernel
theorem dL_law_1212 : decode cL_law 1212 = .ok (.iaload, 1) := by decide +kernel
theorem dL_law_1213 : decode cL_law 1213 = .ok (.aload_n 0, 1) := by decide +kernel
theorem dL_law_1214 : decode cL_law 1214 = .ok (.iload_n 3, 1) := by decide +kernel
theorem dL_law_1215 : decode cL_law 1215 = .ok (.iconst 5, 1) := by decide +kernel
theorem dL_law_1216 : decode cL_law 1216 = .ok (.iadd, 1) := by decide +kernel
theorem dL_law_1217 : decode cL_law 1217 = .ok (.iaload, 1) := by decide +kernel
theorem dL_law_1218 : decode cL_law 1218 = .ok (.invokevirtual 153, 3) := by decide +kernel
theorem dL_law_1221 : decode cL_law 1221 = .ok (.aload_n 2, 1) := by decide +kernel
theorem dL_law_1222 : decode cL_law 1222 = .ok (.aload_n 0, 1) := by decide +kernel
theorem dL_law_1223 : decode cL_law 1223 = .ok (.iload_n 3, 1) := by decide +kernel
theorem dL_law_1224 : decode cL_law 1224 = .ok (.iconst 1, 1) := by decide +kernel
theorem dL_law_1225 : decode cL_law 1225 = .ok (.iadd, 1) := by decide +kernel
theorem dL_law_1226 : decode cL_law 1226 = .ok (.iaload, 1) := by decide +kernel
theorem dL_law_1227 : decode cL_law 1227 = .ok (.aload_n 0, 1) := by decide +kernel
theorem dL_law_1228 : decode cL_law 1228 = .ok (.iload_n 3, 1) := by decide +kernel
theorem dL_law_1229 : decode cL_law 1229 = .ok (.iconst 2, 1) := by decide +kernel
theorem dL_law_1230 : decode cL_law 1230 = .ok (.iadd, 1) := by decide +kernel
theorem dL_law_1231 : decode cL_law 1231 = .ok (.iaload, 1) := by decide +kernel
theorem dL_law_1232 : decode cL_law 1232 = .ok (.aload_n 0, 1) := by decide +kernel
theorem dL_law_1233 : decode cL_law 1233 = .ok (.iload_n 3, 1) := by decide +kernel
theorem dL_law_1234 : decode cL_law 1234 = .ok (.iconst 3, 1) := by decide +kernel
theorem dL_law_1235 : decode cL_law 1235 = .ok (.iadd, 1) := by decide +kernel
theorem dL_law_1236 : decode cL_law 1236 = .ok (.iaload, 1) := by decide +kernel
theorem dL_law_1237 : decode cL_law 1237 = .ok (.aload_n 0, 1) := by decide +kernel
theorem dL_law_1238 : decode cL_law 1238 = .ok (.iload_n 3, 1) := by decide +kernel
theorem dL_law_1239 : decode cL_law 1239 = .ok (.iconst 4, 1) := by decide +kernel
theorem dL_law_1240 : decode cL_law 1240 = .ok (.iadd, 1) := by decide +kernel
theorem dL_law_1241 : decode cL_law 1241 = .ok (.iaload, 1) := by decide +kernel
theorem dL_law_1242 : decode cL_law 1242 = .ok (.aload_n 0, 1) := by decide +kernel
theorem dL_law_1243 : decode cL_law 1243 = .ok (.iload_n 3, 1) := by decide +kernel
theorem dL_law_1244 : decode cL_law 1244 = .ok (.iconst 5, 1) := by decide +kernel
theorem dL_law_1245 : decode cL_law 1245 = .ok (.iadd, 1) := by decide +kernel
theorem dL_law_1246 : decode cL_law 1246 = .ok (.iaload, 1) := by decide +kernel
theorem dL_law_1247 : decode cL_law 1247 = .ok (.invokevirtual 157, 3) := by decide +kernel
theorem dL_law_1250 : decode cL_law 1250 = .ok (.if_icmp .eq 61, 3) := by decide +kernel
theorem dL_law_1253 : decode cL_law 1253 = .ok (.iconst 0, 1) := by decide +kernel
theorem dL_law_1254 : decode cL_law 1254 = .ok (.ireturn, 1) := by decide +kernel
theorem dL_law_1255 : decode cL_law 1255 = .ok (.aload_n 1, 1) := by decide +kernel
theorem dL_law_1256 : decode cL_law 1256 = .ok (.aload_n 0, 1) := by decide +kernel
theorem dL_law_1257 : decode cL_law 1257 = .ok (.iload_n 3, 1) := by decide +kernel
theorem dL_law_1258 : decode cL_law 1258 = .ok (.iconst 1, 1) := by decide +kernel
theorem dL_law_1259 : decode cL_law 1259 = .ok (.iadd, 1) := by decide +kernel
theorem dL_law_1260 : decode cL_law 1260 = .ok (.iaload, 1) := by decide +kernel
theorem dL_law_1261 : decode cL_law 1261 = .ok (.aload_n 0, 1) := by decide +kernel
theorem dL_law_1262 : decode cL_law 1262 = .ok (.iload_n 3, 1) := by decide +kernel
theorem dL_law_1263 : decode cL_law 1263 = .ok (.iconst 2, 1) := by decide +kernel
theorem dL_law_1264 : decode cL_law 1264 = .ok (.iadd, 1) := by decide +kernel
theorem dL_law_1265 : decode cL_law 1265 = .ok (.iaload, 1) := by decide +kernel
theorem dL_law_1266 : decode cL_law 1266 = .ok (.invokevirtual 158, 3) := by decide +kernel
theorem dL_law_1269 : decode cL_law 1269 = .ok (.aload_n 2, 1) := by decide +kernel
theorem dL_law_1270 : decode cL_law 1270 = .ok (.aload_n 0, 1) := by decide +kernel
theorem dL_law_1271 : decode cL_law 1271 = .ok (.iload_n 3, 1) := by decide +kernel
theorem dL_law_1272 : decode cL_law 1272 = .ok (.iconst 1, 1) := by decide +kernel
theorem dL_law_1273 : decode cL_law 1273 = .ok (.iadd, 1) := by decide +kernel
theorem dL_law_1274 : decode cL_law 1274 = .ok (.iaload, 1) := by decide +kernel
theorem dL_law_1275 : decode cL_law 1275 = .ok (.aload_n 0, 1) := by decide +kernel
theorem dL_law_1276 : decode cL_law 1276 = .ok (.iload_n 3, 1) := by decide +kernel
theorem dL_law_1277 : decode cL_law 1277 = .ok (.iconst 2, 1) := by decide +kernel
theorem dL_law_1278 : decode cL_law 1278 = .ok (.iadd, 1) := by decide +kernel
theorem dL_law_1279 : decode cL_law 1279 = .ok (.iaload, 1) := by decide +kernel
theorem dL_law_1280 : decode cL_law 1280 = .ok (.invokevirtual 161, 3) := by decide +kernel
theorem dL_law_1283 : decode cL_law 1283 = .ok (.if_icmp .eq 28, 3) := by decide +kernel
theorem dL_law_1286 : decode cL_law 1286 = .ok (.iconst 0, 1) := by decide +kernel
theorem dL_law_1287 : decode cL_law 1287 = .ok (.ireturn, 1) := by decide +kernel
theorem dL_law_1288 : decode cL_law 1288 = .ok (.aload_n 1, 1) := by decide +kernel
theorem dL_law_1289 : decode cL_law 1289 = .ok (.aload_n 0, 1) := by decide +kernel
theorem dL_law_1290 : decode cL_law 1290 = .ok (.iload_n 3, 1) := by decide +kernel
theorem dL_law_1291 : decode cL_law 1291 = .ok (.iconst 1, 1) := by decide +kernel
theorem dL_law_1292 : decode cL_law 1292 = .ok (.iadd, 1) := by decide +kernel
theorem dL_law_1293 : decode cL_law 1293 = .ok (.iaload, 1) := by decide +kernel
theorem dL_law_1294 : decode cL_law 1294 = .ok (.invokevirtual 162, 3) := by decide +kernel
theorem dL_law_1297 : decode cL_law 1297 = .ok (.aload_n 2, 1) := by decide +kernel
theorem dL_law_1298 : decode cL_law 1298 = .ok (.aload_n 0, 1) := by decide +kernel
theorem dL_law_1299 : decode cL_law 1299 = .ok (.iload_n 3, 1) := by decide +kernel
theorem dL_law_1300 : decode cL_law 1300 = .ok (.iconst 1, 1) := by decide +kernel
theorem dL_law_1301 : decode cL_law 1301 = .ok (.iadd, 1) := by decide +kernel
theorem dL_law_1302 : decode cL_law 1302 = .ok (.iaload, 1) := by decide +kernel
theorem dL_law_1303 : decode cL_law 1303 = .ok (.invokevirtual 165, 3) := by decide +kernel
theorem dL_law_1306 : decode cL_law 1306 = .ok (.if_icmp .eq 5, 3) := by decide +kernel
theorem dL_law_1309 : decode cL_law 1309 = .ok (.iconst 0, 1) := by decide +kernel
theorem dL_law_1310 : decode cL_law 1310 = .ok (.ireturn, 1) := by decide +kernel
theorem dL_law_1311 : decode cL_law 1311 = .ok (.iinc 3 6, 3) := by decide +kernel
theorem dL_law_1314 : decode cL_law 1314 = .ok (.goto (-1296), 3) := by decide +kernel
theorem dL_law_1317 : decode cL_law 1317 = .ok (.iconst 1, 1) := by decide +kernel
theorem dL_law_1318 : decode cL_law 1318 = .ok (.ireturn, 1) := by decide +kernel
end
section
theorem zz_x : True := trivial
end
