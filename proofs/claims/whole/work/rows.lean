section
-- ===== PART A: goes FIRST, ahead of the names: the tables' words, and 'selects' of the private methods out of them =====
/-- a private method of a class that the tables say can be made, by its rows of tables_1 -/
def lw_okq (q : MethodName × Nat) : Prop := (q.1.cls ≠ "java/lang/invoke/MethodHandle" ∧ q.1.cls ≠ "java/lang/invoke/VarHandle") ∧ Cond.instantiable q.1.cls q.2 ∈ tables_1 ∧ Cond.privateMethod q.1 ∈ tables_1 ∧ Cond.instanceMethod q.1 ∈ tables_1
theorem lw_p0 : lw_okq (⟨"GreenLine", "feedNumber", "(I)V"⟩, 12) := ⟨⟨by decide +kernel, by decide +kernel⟩, List.mem_of_getElem? (i := 20) (by decide +kernel), List.mem_of_getElem? (i := 500) (by decide +kernel), List.mem_of_getElem? (i := 501) (by decide +kernel)⟩
theorem lw_p1 : lw_okq (⟨"GreenLine", "takeSamples", "(II)I"⟩, 12) := ⟨⟨by decide +kernel, by decide +kernel⟩, List.mem_of_getElem? (i := 20) (by decide +kernel), List.mem_of_getElem? (i := 823) (by decide +kernel), List.mem_of_getElem? (i := 824) (by decide +kernel)⟩
theorem lw_p2 : lw_okq (⟨"GreenLine", "guessFits", "(I)Z"⟩, 12) := ⟨⟨by decide +kernel, by decide +kernel⟩, List.mem_of_getElem? (i := 20) (by decide +kernel), List.mem_of_getElem? (i := 829) (by decide +kernel), List.mem_of_getElem? (i := 830) (by decide +kernel)⟩
theorem lw_p3 : lw_okq (⟨"GreenLine", "copyBits", "(I[I)V"⟩, 12) := ⟨⟨by decide +kernel, by decide +kernel⟩, List.mem_of_getElem? (i := 20) (by decide +kernel), List.mem_of_getElem? (i := 859) (by decide +kernel), List.mem_of_getElem? (i := 860) (by decide +kernel)⟩
theorem lw_p4 : lw_okq (⟨"GreenLine", "unlike", "([II)I"⟩, 12) := ⟨⟨by decide +kernel, by decide +kernel⟩, List.mem_of_getElem? (i := 20) (by decide +kernel), List.mem_of_getElem? (i := 869) (by decide +kernel), List.mem_of_getElem? (i := 870) (by decide +kernel)⟩
theorem lw_p5 : lw_okq (⟨"GreenLine", "lowest", "(III)I"⟩, 12) := ⟨⟨by decide +kernel, by decide +kernel⟩, List.mem_of_getElem? (i := 20) (by decide +kernel), List.mem_of_getElem? (i := 878) (by decide +kernel), List.mem_of_getElem? (i := 879) (by decide +kernel)⟩
theorem lw_p6 : lw_okq (⟨"GreenLine", "highest", "(III)I"⟩, 12) := ⟨⟨by decide +kernel, by decide +kernel⟩, List.mem_of_getElem? (i := 20) (by decide +kernel), List.mem_of_getElem? (i := 883) (by decide +kernel), List.mem_of_getElem? (i := 884) (by decide +kernel)⟩
theorem lw_p7 : lw_okq (⟨"GreenLine", "rise", "(IIIIII)I"⟩, 12) := ⟨⟨by decide +kernel, by decide +kernel⟩, List.mem_of_getElem? (i := 20) (by decide +kernel), List.mem_of_getElem? (i := 887) (by decide +kernel), List.mem_of_getElem? (i := 888) (by decide +kernel)⟩
theorem lw_p8 : lw_okq (⟨"GreenLine", "wide", "(IIII)I"⟩, 12) := ⟨⟨by decide +kernel, by decide +kernel⟩, List.mem_of_getElem? (i := 20) (by decide +kernel), List.mem_of_getElem? (i := 891) (by decide +kernel), List.mem_of_getElem? (i := 892) (by decide +kernel)⟩
theorem lw_p9 : lw_okq (⟨"GreenLine", "leastRise", "(I)I"⟩, 12) := ⟨⟨by decide +kernel, by decide +kernel⟩, List.mem_of_getElem? (i := 20) (by decide +kernel), List.mem_of_getElem? (i := 895) (by decide +kernel), List.mem_of_getElem? (i := 896) (by decide +kernel)⟩
theorem lw_p10 : lw_okq (⟨"GreenLine", "greatestRise", "(I)I"⟩, 12) := ⟨⟨by decide +kernel, by decide +kernel⟩, List.mem_of_getElem? (i := 20) (by decide +kernel), List.mem_of_getElem? (i := 899) (by decide +kernel), List.mem_of_getElem? (i := 900) (by decide +kernel)⟩
theorem lw_p11 : lw_okq (⟨"GreenLine", "aboutInputs", "(I)I"⟩, 12) := ⟨⟨by decide +kernel, by decide +kernel⟩, List.mem_of_getElem? (i := 20) (by decide +kernel), List.mem_of_getElem? (i := 934) (by decide +kernel), List.mem_of_getElem? (i := 935) (by decide +kernel)⟩
theorem lw_p12 : lw_okq (⟨"GreenLineModel", "copies", "(Z)V"⟩, 42) := ⟨⟨by decide +kernel, by decide +kernel⟩, List.mem_of_getElem? (i := 938) (by decide +kernel), List.mem_of_getElem? (i := 944) (by decide +kernel), List.mem_of_getElem? (i := 945) (by decide +kernel)⟩
theorem lw_p13 : lw_okq (⟨"GreenLineModel", "rawAt", "(II)I"⟩, 42) := ⟨⟨by decide +kernel, by decide +kernel⟩, List.mem_of_getElem? (i := 938) (by decide +kernel), List.mem_of_getElem? (i := 1095) (by decide +kernel), List.mem_of_getElem? (i := 1096) (by decide +kernel)⟩
theorem lw_p14 : lw_okq (⟨"GreenLineModel", "partAt", "(II)I"⟩, 42) := ⟨⟨by decide +kernel, by decide +kernel⟩, List.mem_of_getElem? (i := 938) (by decide +kernel), List.mem_of_getElem? (i := 1099) (by decide +kernel), List.mem_of_getElem? (i := 1100) (by decide +kernel)⟩
theorem lw_p15 : lw_okq (⟨"GreenLineModel", "phase", "(II)I"⟩, 42) := ⟨⟨by decide +kernel, by decide +kernel⟩, List.mem_of_getElem? (i := 938) (by decide +kernel), List.mem_of_getElem? (i := 1103) (by decide +kernel), List.mem_of_getElem? (i := 1104) (by decide +kernel)⟩
def lw_privs_1 : List (MethodName × Nat) := [(⟨"GreenLine", "feedNumber", "(I)V"⟩, 12), (⟨"GreenLine", "takeSamples", "(II)I"⟩, 12), (⟨"GreenLine", "guessFits", "(I)Z"⟩, 12), (⟨"GreenLine", "copyBits", "(I[I)V"⟩, 12), (⟨"GreenLine", "unlike", "([II)I"⟩, 12), (⟨"GreenLine", "lowest", "(III)I"⟩, 12), (⟨"GreenLine", "highest", "(III)I"⟩, 12), (⟨"GreenLine", "rise", "(IIIIII)I"⟩, 12), (⟨"GreenLine", "wide", "(IIII)I"⟩, 12), (⟨"GreenLine", "leastRise", "(I)I"⟩, 12), (⟨"GreenLine", "greatestRise", "(I)I"⟩, 12), (⟨"GreenLine", "aboutInputs", "(I)I"⟩, 12), (⟨"GreenLineModel", "copies", "(Z)V"⟩, 42), (⟨"GreenLineModel", "rawAt", "(II)I"⟩, 42), (⟨"GreenLineModel", "partAt", "(II)I"⟩, 42), (⟨"GreenLineModel", "phase", "(II)I"⟩, 42)]
theorem lw_r1 : ∀ q ∈ lw_privs_1, lw_okq q := List.forall_mem_cons.mpr ⟨lw_p0, List.forall_mem_cons.mpr ⟨lw_p1, List.forall_mem_cons.mpr ⟨lw_p2, List.forall_mem_cons.mpr ⟨lw_p3, List.forall_mem_cons.mpr ⟨lw_p4, List.forall_mem_cons.mpr ⟨lw_p5, List.forall_mem_cons.mpr ⟨lw_p6, List.forall_mem_cons.mpr ⟨lw_p7, List.forall_mem_cons.mpr ⟨lw_p8, List.forall_mem_cons.mpr ⟨lw_p9, List.forall_mem_cons.mpr ⟨lw_p10, List.forall_mem_cons.mpr ⟨lw_p11, List.forall_mem_cons.mpr ⟨lw_p12, List.forall_mem_cons.mpr ⟨lw_p13, List.forall_mem_cons.mpr ⟨lw_p14, List.forall_mem_cons.mpr ⟨lw_p15, fun _ h => absurd h List.not_mem_nil⟩⟩⟩⟩⟩⟩⟩⟩⟩⟩⟩⟩⟩⟩⟩⟩
theorem lw_p16 : lw_okq (⟨"GreenLineModel", "laysOut", "(I)V"⟩, 42) := ⟨⟨by decide +kernel, by decide +kernel⟩, List.mem_of_getElem? (i := 938) (by decide +kernel), List.mem_of_getElem? (i := 1126) (by decide +kernel), List.mem_of_getElem? (i := 1127) (by decide +kernel)⟩
theorem lw_p17 : lw_okq (⟨"GreenLineModel", "put", "(I)V"⟩, 42) := ⟨⟨by decide +kernel, by decide +kernel⟩, List.mem_of_getElem? (i := 938) (by decide +kernel), List.mem_of_getElem? (i := 1142) (by decide +kernel), List.mem_of_getElem? (i := 1143) (by decide +kernel)⟩
theorem lw_p18 : lw_okq (⟨"GreenLineModel", "next", "()V"⟩, 42) := ⟨⟨by decide +kernel, by decide +kernel⟩, List.mem_of_getElem? (i := 938) (by decide +kernel), List.mem_of_getElem? (i := 1154) (by decide +kernel), List.mem_of_getElem? (i := 1155) (by decide +kernel)⟩
theorem lw_p19 : lw_okq (⟨"GreenLineModel", "asks", "()V"⟩, 42) := ⟨⟨by decide +kernel, by decide +kernel⟩, List.mem_of_getElem? (i := 938) (by decide +kernel), List.mem_of_getElem? (i := 1178) (by decide +kernel), List.mem_of_getElem? (i := 1179) (by decide +kernel)⟩
theorem lw_p20 : lw_okq (⟨"GreenLineModel", "isWord", "(I)Z"⟩, 42) := ⟨⟨by decide +kernel, by decide +kernel⟩, List.mem_of_getElem? (i := 938) (by decide +kernel), List.mem_of_getElem? (i := 1182) (by decide +kernel), List.mem_of_getElem? (i := 1183) (by decide +kernel)⟩
theorem lw_p21 : lw_okq (⟨"GreenLineModel", "opensSign", "(I)Z"⟩, 42) := ⟨⟨by decide +kernel, by decide +kernel⟩, List.mem_of_getElem? (i := 938) (by decide +kernel), List.mem_of_getElem? (i := 1186) (by decide +kernel), List.mem_of_getElem? (i := 1187) (by decide +kernel)⟩
theorem lw_p22 : lw_okq (⟨"GreenLineModel", "errs", "(I)V"⟩, 42) := ⟨⟨by decide +kernel, by decide +kernel⟩, List.mem_of_getElem? (i := 938) (by decide +kernel), List.mem_of_getElem? (i := 1190) (by decide +kernel), List.mem_of_getElem? (i := 1191) (by decide +kernel)⟩
theorem lw_p23 : lw_okq (⟨"GreenLineModel", "opensFrame", "(I)V"⟩, 42) := ⟨⟨by decide +kernel, by decide +kernel⟩, List.mem_of_getElem? (i := 938) (by decide +kernel), List.mem_of_getElem? (i := 1194) (by decide +kernel), List.mem_of_getElem? (i := 1195) (by decide +kernel)⟩
theorem lw_p24 : lw_okq (⟨"GreenLineModel", "begins", "()V"⟩, 42) := ⟨⟨by decide +kernel, by decide +kernel⟩, List.mem_of_getElem? (i := 938) (by decide +kernel), List.mem_of_getElem? (i := 1198) (by decide +kernel), List.mem_of_getElem? (i := 1199) (by decide +kernel)⟩
theorem lw_p25 : lw_okq (⟨"GreenLineModel", "emits", "(II)V"⟩, 42) := ⟨⟨by decide +kernel, by decide +kernel⟩, List.mem_of_getElem? (i := 938) (by decide +kernel), List.mem_of_getElem? (i := 1202) (by decide +kernel), List.mem_of_getElem? (i := 1203) (by decide +kernel)⟩
theorem lw_p26 : lw_okq (⟨"GreenLineModel", "oneIsOver", "()V"⟩, 42) := ⟨⟨by decide +kernel, by decide +kernel⟩, List.mem_of_getElem? (i := 938) (by decide +kernel), List.mem_of_getElem? (i := 1206) (by decide +kernel), List.mem_of_getElem? (i := 1207) (by decide +kernel)⟩
theorem lw_p27 : lw_okq (⟨"GreenLineModel", "top", "()I"⟩, 42) := ⟨⟨by decide +kernel, by decide +kernel⟩, List.mem_of_getElem? (i := 938) (by decide +kernel), List.mem_of_getElem? (i := 1210) (by decide +kernel), List.mem_of_getElem? (i := 1211) (by decide +kernel)⟩
theorem lw_p28 : lw_okq (⟨"GreenLineModel", "isSign", "(I)Z"⟩, 42) := ⟨⟨by decide +kernel, by decide +kernel⟩, List.mem_of_getElem? (i := 938) (by decide +kernel), List.mem_of_getElem? (i := 1214) (by decide +kernel), List.mem_of_getElem? (i := 1215) (by decide +kernel)⟩
theorem lw_p29 : lw_okq (⟨"GreenLineModel", "goesOn", "()V"⟩, 42) := ⟨⟨by decide +kernel, by decide +kernel⟩, List.mem_of_getElem? (i := 938) (by decide +kernel), List.mem_of_getElem? (i := 1218) (by decide +kernel), List.mem_of_getElem? (i := 1219) (by decide +kernel)⟩
theorem lw_p30 : lw_okq (⟨"GreenLineModel", "waitsFor", "(I)V"⟩, 42) := ⟨⟨by decide +kernel, by decide +kernel⟩, List.mem_of_getElem? (i := 938) (by decide +kernel), List.mem_of_getElem? (i := 1222) (by decide +kernel), List.mem_of_getElem? (i := 1223) (by decide +kernel)⟩
theorem lw_p31 : lw_okq (⟨"GreenLineModel", "works", "(I)V"⟩, 42) := ⟨⟨by decide +kernel, by decide +kernel⟩, List.mem_of_getElem? (i := 938) (by decide +kernel), List.mem_of_getElem? (i := 1229) (by decide +kernel), List.mem_of_getElem? (i := 1230) (by decide +kernel)⟩
def lw_privs_2 : List (MethodName × Nat) := [(⟨"GreenLineModel", "laysOut", "(I)V"⟩, 42), (⟨"GreenLineModel", "put", "(I)V"⟩, 42), (⟨"GreenLineModel", "next", "()V"⟩, 42), (⟨"GreenLineModel", "asks", "()V"⟩, 42), (⟨"GreenLineModel", "isWord", "(I)Z"⟩, 42), (⟨"GreenLineModel", "opensSign", "(I)Z"⟩, 42), (⟨"GreenLineModel", "errs", "(I)V"⟩, 42), (⟨"GreenLineModel", "opensFrame", "(I)V"⟩, 42), (⟨"GreenLineModel", "begins", "()V"⟩, 42), (⟨"GreenLineModel", "emits", "(II)V"⟩, 42), (⟨"GreenLineModel", "oneIsOver", "()V"⟩, 42), (⟨"GreenLineModel", "top", "()I"⟩, 42), (⟨"GreenLineModel", "isSign", "(I)Z"⟩, 42), (⟨"GreenLineModel", "goesOn", "()V"⟩, 42), (⟨"GreenLineModel", "waitsFor", "(I)V"⟩, 42), (⟨"GreenLineModel", "works", "(I)V"⟩, 42)]
theorem lw_r2 : ∀ q ∈ lw_privs_2, lw_okq q := List.forall_mem_cons.mpr ⟨lw_p16, List.forall_mem_cons.mpr ⟨lw_p17, List.forall_mem_cons.mpr ⟨lw_p18, List.forall_mem_cons.mpr ⟨lw_p19, List.forall_mem_cons.mpr ⟨lw_p20, List.forall_mem_cons.mpr ⟨lw_p21, List.forall_mem_cons.mpr ⟨lw_p22, List.forall_mem_cons.mpr ⟨lw_p23, List.forall_mem_cons.mpr ⟨lw_p24, List.forall_mem_cons.mpr ⟨lw_p25, List.forall_mem_cons.mpr ⟨lw_p26, List.forall_mem_cons.mpr ⟨lw_p27, List.forall_mem_cons.mpr ⟨lw_p28, List.forall_mem_cons.mpr ⟨lw_p29, List.forall_mem_cons.mpr ⟨lw_p30, List.forall_mem_cons.mpr ⟨lw_p31, fun _ h => absurd h List.not_mem_nil⟩⟩⟩⟩⟩⟩⟩⟩⟩⟩⟩⟩⟩⟩⟩⟩
theorem lw_p32 : lw_okq (⟨"GreenLineModel", "askIsOver", "()V"⟩, 42) := ⟨⟨by decide +kernel, by decide +kernel⟩, List.mem_of_getElem? (i := 938) (by decide +kernel), List.mem_of_getElem? (i := 1236) (by decide +kernel), List.mem_of_getElem? (i := 1237) (by decide +kernel)⟩
theorem lw_p33 : lw_okq (⟨"GreenLineModel", "clauseIsOver", "()V"⟩, 42) := ⟨⟨by decide +kernel, by decide +kernel⟩, List.mem_of_getElem? (i := 938) (by decide +kernel), List.mem_of_getElem? (i := 1240) (by decide +kernel), List.mem_of_getElem? (i := 1241) (by decide +kernel)⟩
theorem lw_p34 : lw_okq (⟨"GreenLineModel", "asksOn", "()V"⟩, 42) := ⟨⟨by decide +kernel, by decide +kernel⟩, List.mem_of_getElem? (i := 938) (by decide +kernel), List.mem_of_getElem? (i := 1244) (by decide +kernel), List.mem_of_getElem? (i := 1245) (by decide +kernel)⟩
theorem lw_p35 : lw_okq (⟨"GreenLineModel", "clause", "()V"⟩, 42) := ⟨⟨by decide +kernel, by decide +kernel⟩, List.mem_of_getElem? (i := 938) (by decide +kernel), List.mem_of_getElem? (i := 1248) (by decide +kernel), List.mem_of_getElem? (i := 1249) (by decide +kernel)⟩
theorem lw_p36 : lw_okq (⟨"GreenLineModel", "wasHold", "()Z"⟩, 42) := ⟨⟨by decide +kernel, by decide +kernel⟩, List.mem_of_getElem? (i := 938) (by decide +kernel), List.mem_of_getElem? (i := 1252) (by decide +kernel), List.mem_of_getElem? (i := 1253) (by decide +kernel)⟩
theorem lw_p37 : lw_okq (⟨"GreenLineModel", "keepsText", "(I)V"⟩, 42) := ⟨⟨by decide +kernel, by decide +kernel⟩, List.mem_of_getElem? (i := 938) (by decide +kernel), List.mem_of_getElem? (i := 1256) (by decide +kernel), List.mem_of_getElem? (i := 1257) (by decide +kernel)⟩
theorem lw_p38 : lw_okq (⟨"GreenLineModel", "laysBoth", "()V"⟩, 42) := ⟨⟨by decide +kernel, by decide +kernel⟩, List.mem_of_getElem? (i := 938) (by decide +kernel), List.mem_of_getElem? (i := 1275) (by decide +kernel), List.mem_of_getElem? (i := 1276) (by decide +kernel)⟩
theorem lw_p39 : lw_okq (⟨"GreenLineModel", "sweeps", "(I)V"⟩, 42) := ⟨⟨by decide +kernel, by decide +kernel⟩, List.mem_of_getElem? (i := 938) (by decide +kernel), List.mem_of_getElem? (i := 1279) (by decide +kernel), List.mem_of_getElem? (i := 1280) (by decide +kernel)⟩
theorem lw_p40 : lw_okq (⟨"GreenLineModel", "words", "(II)V"⟩, 42) := ⟨⟨by decide +kernel, by decide +kernel⟩, List.mem_of_getElem? (i := 938) (by decide +kernel), List.mem_of_getElem? (i := 1283) (by decide +kernel), List.mem_of_getElem? (i := 1284) (by decide +kernel)⟩
theorem lw_p41 : lw_okq (⟨"GreenLineModel", "triggers", "()Z"⟩, 42) := ⟨⟨by decide +kernel, by decide +kernel⟩, List.mem_of_getElem? (i := 938) (by decide +kernel), List.mem_of_getElem? (i := 1287) (by decide +kernel), List.mem_of_getElem? (i := 1288) (by decide +kernel)⟩
theorem lw_p42 : lw_okq (⟨"GreenLineModel", "tells", "(I)J"⟩, 42) := ⟨⟨by decide +kernel, by decide +kernel⟩, List.mem_of_getElem? (i := 938) (by decide +kernel), List.mem_of_getElem? (i := 1291) (by decide +kernel), List.mem_of_getElem? (i := 1292) (by decide +kernel)⟩
theorem lw_p43 : lw_okq (⟨"GreenLineModel", "hold", "()I"⟩, 42) := ⟨⟨by decide +kernel, by decide +kernel⟩, List.mem_of_getElem? (i := 938) (by decide +kernel), List.mem_of_getElem? (i := 1303) (by decide +kernel), List.mem_of_getElem? (i := 1304) (by decide +kernel)⟩
theorem lw_p44 : lw_okq (⟨"GreenLineModel", "shows", "(I)V"⟩, 42) := ⟨⟨by decide +kernel, by decide +kernel⟩, List.mem_of_getElem? (i := 938) (by decide +kernel), List.mem_of_getElem? (i := 1312) (by decide +kernel), List.mem_of_getElem? (i := 1313) (by decide +kernel)⟩
theorem lw_p45 : lw_okq (⟨"GreenLineModel", "draws", "(I)V"⟩, 42) := ⟨⟨by decide +kernel, by decide +kernel⟩, List.mem_of_getElem? (i := 938) (by decide +kernel), List.mem_of_getElem? (i := 1316) (by decide +kernel), List.mem_of_getElem? (i := 1317) (by decide +kernel)⟩
theorem lw_p46 : lw_okq (⟨"GreenLineModel", "dotOf", "(III)I"⟩, 42) := ⟨⟨by decide +kernel, by decide +kernel⟩, List.mem_of_getElem? (i := 938) (by decide +kernel), List.mem_of_getElem? (i := 1320) (by decide +kernel), List.mem_of_getElem? (i := 1321) (by decide +kernel)⟩
theorem lw_p47 : lw_okq (⟨"GreenLineModel", "rowOf", "(II)I"⟩, 42) := ⟨⟨by decide +kernel, by decide +kernel⟩, List.mem_of_getElem? (i := 938) (by decide +kernel), List.mem_of_getElem? (i := 1327) (by decide +kernel), List.mem_of_getElem? (i := 1328) (by decide +kernel)⟩
def lw_privs_3 : List (MethodName × Nat) := [(⟨"GreenLineModel", "askIsOver", "()V"⟩, 42), (⟨"GreenLineModel", "clauseIsOver", "()V"⟩, 42), (⟨"GreenLineModel", "asksOn", "()V"⟩, 42), (⟨"GreenLineModel", "clause", "()V"⟩, 42), (⟨"GreenLineModel", "wasHold", "()Z"⟩, 42), (⟨"GreenLineModel", "keepsText", "(I)V"⟩, 42), (⟨"GreenLineModel", "laysBoth", "()V"⟩, 42), (⟨"GreenLineModel", "sweeps", "(I)V"⟩, 42), (⟨"GreenLineModel", "words", "(II)V"⟩, 42), (⟨"GreenLineModel", "triggers", "()Z"⟩, 42), (⟨"GreenLineModel", "tells", "(I)J"⟩, 42), (⟨"GreenLineModel", "hold", "()I"⟩, 42), (⟨"GreenLineModel", "shows", "(I)V"⟩, 42), (⟨"GreenLineModel", "draws", "(I)V"⟩, 42), (⟨"GreenLineModel", "dotOf", "(III)I"⟩, 42), (⟨"GreenLineModel", "rowOf", "(II)I"⟩, 42)]
theorem lw_r3 : ∀ q ∈ lw_privs_3, lw_okq q := List.forall_mem_cons.mpr ⟨lw_p32, List.forall_mem_cons.mpr ⟨lw_p33, List.forall_mem_cons.mpr ⟨lw_p34, List.forall_mem_cons.mpr ⟨lw_p35, List.forall_mem_cons.mpr ⟨lw_p36, List.forall_mem_cons.mpr ⟨lw_p37, List.forall_mem_cons.mpr ⟨lw_p38, List.forall_mem_cons.mpr ⟨lw_p39, List.forall_mem_cons.mpr ⟨lw_p40, List.forall_mem_cons.mpr ⟨lw_p41, List.forall_mem_cons.mpr ⟨lw_p42, List.forall_mem_cons.mpr ⟨lw_p43, List.forall_mem_cons.mpr ⟨lw_p44, List.forall_mem_cons.mpr ⟨lw_p45, List.forall_mem_cons.mpr ⟨lw_p46, List.forall_mem_cons.mpr ⟨lw_p47, fun _ h => absurd h List.not_mem_nil⟩⟩⟩⟩⟩⟩⟩⟩⟩⟩⟩⟩⟩⟩⟩⟩
theorem lw_p48 : lw_okq (⟨"GreenLineModel", "turnOf", "(II)I"⟩, 42) := ⟨⟨by decide +kernel, by decide +kernel⟩, List.mem_of_getElem? (i := 938) (by decide +kernel), List.mem_of_getElem? (i := 1331) (by decide +kernel), List.mem_of_getElem? (i := 1332) (by decide +kernel)⟩
theorem lw_p49 : lw_okq (⟨"GreenLineModel", "dots", "(I)I"⟩, 42) := ⟨⟨by decide +kernel, by decide +kernel⟩, List.mem_of_getElem? (i := 938) (by decide +kernel), List.mem_of_getElem? (i := 1342) (by decide +kernel), List.mem_of_getElem? (i := 1343) (by decide +kernel)⟩
theorem lw_p50 : lw_okq (⟨"GreenLineModel", "rowsOf", "(II)I"⟩, 42) := ⟨⟨by decide +kernel, by decide +kernel⟩, List.mem_of_getElem? (i := 938) (by decide +kernel), List.mem_of_getElem? (i := 1346) (by decide +kernel), List.mem_of_getElem? (i := 1347) (by decide +kernel)⟩
theorem lw_p51 : lw_okq (⟨"GreenLineModel", "isAs", "(IIIII)Z"⟩, 42) := ⟨⟨by decide +kernel, by decide +kernel⟩, List.mem_of_getElem? (i := 938) (by decide +kernel), List.mem_of_getElem? (i := 1354) (by decide +kernel), List.mem_of_getElem? (i := 1355) (by decide +kernel)⟩
theorem lw_p52 : lw_okq (⟨"GreenLineModel", "catches", "(III)Z"⟩, 42) := ⟨⟨by decide +kernel, by decide +kernel⟩, List.mem_of_getElem? (i := 938) (by decide +kernel), List.mem_of_getElem? (i := 1362) (by decide +kernel), List.mem_of_getElem? (i := 1363) (by decide +kernel)⟩
theorem lw_p53 : lw_okq (⟨"GreenLineModel", "isPhoto", "(I)Z"⟩, 42) := ⟨⟨by decide +kernel, by decide +kernel⟩, List.mem_of_getElem? (i := 938) (by decide +kernel), List.mem_of_getElem? (i := 1382) (by decide +kernel), List.mem_of_getElem? (i := 1383) (by decide +kernel)⟩
theorem lw_p54 : lw_okq (⟨"GreenLineModel", "risen", "(IIIII)I"⟩, 42) := ⟨⟨by decide +kernel, by decide +kernel⟩, List.mem_of_getElem? (i := 938) (by decide +kernel), List.mem_of_getElem? (i := 1390) (by decide +kernel), List.mem_of_getElem? (i := 1391) (by decide +kernel)⟩
def lw_privs_4 : List (MethodName × Nat) := [(⟨"GreenLineModel", "turnOf", "(II)I"⟩, 42), (⟨"GreenLineModel", "dots", "(I)I"⟩, 42), (⟨"GreenLineModel", "rowsOf", "(II)I"⟩, 42), (⟨"GreenLineModel", "isAs", "(IIIII)Z"⟩, 42), (⟨"GreenLineModel", "catches", "(III)Z"⟩, 42), (⟨"GreenLineModel", "isPhoto", "(I)Z"⟩, 42), (⟨"GreenLineModel", "risen", "(IIIII)I"⟩, 42)]
theorem lw_r4 : ∀ q ∈ lw_privs_4, lw_okq q := List.forall_mem_cons.mpr ⟨lw_p48, List.forall_mem_cons.mpr ⟨lw_p49, List.forall_mem_cons.mpr ⟨lw_p50, List.forall_mem_cons.mpr ⟨lw_p51, List.forall_mem_cons.mpr ⟨lw_p52, List.forall_mem_cons.mpr ⟨lw_p53, List.forall_mem_cons.mpr ⟨lw_p54, fun _ h => absurd h List.not_mem_nil⟩⟩⟩⟩⟩⟩⟩
def lw_privs : List (MethodName × Nat) := lw_privs_1 ++ (lw_privs_2 ++ (lw_privs_3 ++ (lw_privs_4)))
def lw_tbl : List Cond := k2_sels lw_privs ++ tables_1
theorem lw_privs_ok : ∀ q ∈ lw_privs, lw_okq q := by
  show ∀ q ∈ lw_privs_1 ++ (lw_privs_2 ++ (lw_privs_3 ++ (lw_privs_4))), lw_okq q
  exact List.forall_mem_append.mpr ⟨lw_r1, List.forall_mem_append.mpr ⟨lw_r2, List.forall_mem_append.mpr ⟨lw_r3, lw_r4⟩⟩⟩
/-! ===== BEGIN printed: names, fields, word lists, decode rows ===== -/
def RX0 : String := "GreenLine$Asker"
def TX0 : u_T := fun k => match k with
  | 0 => ("GreenLine$Asker", "values", "[I", true)
  | 1 => ("GreenLine$Asker", "now", "I", false)
  | 2 => ("GreenLine$Asker", "ahead", "I", false)
  | 3 => ("GreenLine$Asker", "other", "I", false)
  | 4 => ("GreenLine$Asker", "tick", "I", false)
  | 5 => ("GreenLine$Asker", "sweeps", "I", false)
  | _ => ("GreenLine$Asker", "since", "I", false)
def tyX0 : Nat → FieldType := fun k => match k with
  | 0 => .array .int
  | 1 => .int
  | 2 => .int
  | 3 => .int
  | 4 => .int
  | 5 => .int
  | _ => .int
abbrev wsX00 : List Cond := u_ws RX0 TX0 7
theorem nmX0 : ∀ a, a < 7 → ∀ b, b < 7 → a ≠ b → (TX0 a).2.1 ≠ (TX0 b).2.1 := by decide +kernel
theorem tyX0_ok : ∀ k, k < 7 → parseFieldDescriptor (TX0 k).2.2.1 = some (tyX0 k) := by decide +kernel
abbrev cX0_init : ByteArray := prog_2_method_1_code
def yX0_init : MethodName := ⟨RX0, "<init>", "()V"⟩
abbrev cX0_answer : ByteArray := prog_2_method_2_code
def yX0_answer : MethodName := ⟨RX0, "answer", "([II)I"⟩
abbrev cX0_word : ByteArray := prog_2_method_3_code
def yX0_word : MethodName := ⟨RX0, "word", "(I)I"⟩
abbrev cX0_joined : ByteArray := prog_2_method_4_code
def yX0_joined : MethodName := ⟨RX0, "joined", "(IJJ)I"⟩
abbrev cX0_isSo : ByteArray := prog_2_method_5_code
def yX0_isSo : MethodName := ⟨RX0, "isSo", "(IJJ)Z"⟩
abbrev cX0_bounded : ByteArray := prog_2_method_6_code
def yX0_bounded : MethodName := ⟨RX0, "bounded", "(J)I"⟩
def RX1 : String := "GreenLine$Beam"
def TX1 : u_T := fun k => match k with
  | 0 => ("GreenLine$Beam", "setup", "LGreenLine$Setup;", true)
  | 1 => ("GreenLine$Beam", "programs", "[LGreenLine$Program;", true)
  | 2 => ("GreenLine$Beam", "untold", "LGreenLine$Program;", true)
  | 3 => ("GreenLine$Beam", "asker", "LGreenLine$Asker;", true)
  | 4 => ("GreenLine$Beam", "outs", "[[I", true)
  | 5 => ("GreenLine$Beam", "traced", "I", false)
  | 6 => ("GreenLine$Beam", "ready", "I", false)
  | 7 => ("GreenLine$Beam", "sweeps", "I", false)
  | _ => ("GreenLine$Beam", "begin", "I", false)
def tyX1 : Nat → FieldType := fun k => match k with
  | 0 => .object "GreenLine$Setup"
  | 1 => .array (.object "GreenLine$Program")
  | 2 => .object "GreenLine$Program"
  | 3 => .object "GreenLine$Asker"
  | 4 => .array (.array .int)
  | 5 => .int
  | 6 => .int
  | 7 => .int
  | _ => .int
abbrev wsX10 : List Cond := u_ws RX1 TX1 9
theorem nmX1 : ∀ a, a < 9 → ∀ b, b < 9 → a ≠ b → (TX1 a).2.1 ≠ (TX1 b).2.1 := by decide +kernel
theorem tyX1_ok : ∀ k, k < 9 → parseFieldDescriptor (TX1 k).2.2.1 = some (tyX1 k) := by decide +kernel
abbrev cX1_init : ByteArray := prog_3_method_1_code
def yX1_init : MethodName := ⟨RX1, "<init>", "()V"⟩
abbrev cX1_forget : ByteArray := prog_3_method_2_code
def yX1_forget : MethodName := ⟨RX1, "forget", "()V"⟩
abbrev cX1_traceTo : ByteArray := prog_3_method_3_code
def yX1_traceTo : MethodName := ⟨RX1, "traceTo", "(I)V"⟩
abbrev cX1_outAt : ByteArray := prog_3_method_4_code
def yX1_outAt : MethodName := ⟨RX1, "outAt", "(II)I"⟩
abbrev cX1_restart : ByteArray := prog_3_method_5_code
def yX1_restart : MethodName := ⟨RX1, "restart", "()V"⟩
abbrev cX1_told : ByteArray := prog_3_method_6_code
def yX1_told : MethodName := ⟨RX1, "told", "()LGreenLine$Program;"⟩
abbrev cX1_next : ByteArray := prog_3_method_7_code
def yX1_next : MethodName := ⟨RX1, "next", "(I)Z"⟩
abbrev cX1_look : ByteArray := prog_3_method_8_code
def yX1_look : MethodName := ⟨RX1, "look", "(I)V"⟩
abbrev cX1_heldBy : ByteArray := prog_3_method_9_code
def yX1_heldBy : MethodName := ⟨RX1, "heldBy", "(LGreenLine$Program;)I"⟩
abbrev cX1_draw : ByteArray := prog_3_method_10_code
def yX1_draw : MethodName := ⟨RX1, "draw", "(LGreenLine$Screen;I)V"⟩
abbrev cX1_drawSweep : ByteArray := prog_3_method_11_code
def yX1_drawSweep : MethodName := ⟨RX1, "drawSweep", "(LGreenLine$Screen;I)V"⟩
abbrev cX1_drawDot : ByteArray := prog_3_method_12_code
def yX1_drawDot : MethodName := ⟨RX1, "drawDot", "(LGreenLine$Screen;II)V"⟩
abbrev cX1_turnAt : ByteArray := prog_3_method_13_code
def yX1_turnAt : MethodName := ⟨RX1, "turnAt", "(I)I"⟩
abbrev cX1_catches : ByteArray := prog_3_method_14_code
def yX1_catches : MethodName := ⟨RX1, "catches", "(ILGreenLine$Part;I)Z"⟩
abbrev cX1_isShown : ByteArray := prog_3_method_15_code
def yX1_isShown : MethodName := ⟨RX1, "isShown", "(II)Z"⟩
def RX2 : String := "GreenLine$Channel"
def TX2 : u_T := fun k => match k with
  | 0 => ("GreenLine$Channel", "signal", "I", false)
  | 1 => ("GreenLine$Channel", "up", "I", false)
  | 2 => ("GreenLine$Channel", "down", "I", false)
  | 3 => ("GreenLine$Channel", "slow", "I", false)
  | 4 => ("GreenLine$Channel", "gain", "I", false)
  | _ => ("GreenLine$Channel", "position", "I", false)
def tyX2 : Nat → FieldType := fun k => match k with
  | 0 => .int
  | 1 => .int
  | 2 => .int
  | 3 => .int
  | 4 => .int
  | _ => .int
abbrev wsX20 : List Cond := u_ws RX2 TX2 6
theorem nmX2 : ∀ a, a < 6 → ∀ b, b < 6 → a ≠ b → (TX2 a).2.1 ≠ (TX2 b).2.1 := by decide +kernel
theorem tyX2_ok : ∀ k, k < 6 → parseFieldDescriptor (TX2 k).2.2.1 = some (tyX2 k) := by decide +kernel
abbrev cX2_init : ByteArray := prog_4_method_1_code
def yX2_init : MethodName := ⟨RX2, "<init>", "(I)V"⟩
abbrev cX2_setProbe : ByteArray := prog_4_method_2_code
def yX2_setProbe : MethodName := ⟨RX2, "setProbe", "(III)V"⟩
abbrev cX2_setView : ByteArray := prog_4_method_3_code
def yX2_setView : MethodName := ⟨RX2, "setView", "(III)V"⟩
abbrev cX2_copyFrom : ByteArray := prog_4_method_4_code
def yX2_copyFrom : MethodName := ⟨RX2, "copyFrom", "(LGreenLine$Channel;)V"⟩
abbrev cX2_outBehind : ByteArray := prog_4_method_5_code
def yX2_outBehind : MethodName := ⟨RX2, "outBehind", "(II)I"⟩
abbrev cX2_dotsFrom : ByteArray := prog_4_method_6_code
def yX2_dotsFrom : MethodName := ⟨RX2, "dotsFrom", "(II)I"⟩
def RX3 : String := "GreenLine$Part"
def TX3 : u_T := fun k => match k with
  | 0 => ("GreenLine$Part", "kind", "I", false)
  | 1 => ("GreenLine$Part", "height", "I", false)
  | 2 => ("GreenLine$Part", "period", "I", false)
  | 3 => ("GreenLine$Part", "width", "I", false)
  | _ => ("GreenLine$Part", "from", "I", false)
def tyX3 : Nat → FieldType := fun k => match k with
  | 0 => .int
  | 1 => .int
  | 2 => .int
  | 3 => .int
  | _ => .int
abbrev wsX30 : List Cond := u_ws RX3 TX3 5
theorem nmX3 : ∀ a, a < 5 → ∀ b, b < 5 → a ≠ b → (TX3 a).2.1 ≠ (TX3 b).2.1 := by decide +kernel
theorem tyX3_ok : ∀ k, k < 5 → parseFieldDescriptor (TX3 k).2.2.1 = some (tyX3 k) := by decide +kernel
abbrev cX3_init : ByteArray := prog_5_method_1_code
def yX3_init : MethodName := ⟨RX3, "<init>", "()V"⟩
abbrev cX3_set : ByteArray := prog_5_method_2_code
def yX3_set : MethodName := ⟨RX3, "set", "(IIIII)V"⟩
abbrev cX3_phase : ByteArray := prog_5_method_3_code
def yX3_phase : MethodName := ⟨RX3, "phase", "(I)I"⟩
abbrev cX3_isOn : ByteArray := prog_5_method_4_code
def yX3_isOn : MethodName := ⟨RX3, "isOn", "(I)Z"⟩
abbrev cX3_heightAt : ByteArray := prog_5_method_5_code
def yX3_heightAt : MethodName := ⟨RX3, "heightAt", "(I)I"⟩
def RX4 : String := "GreenLine$Program"
def TX4 : u_T := fun k => match k with
  | 0 => ("GreenLine$Program", "begins", "[I", true)
  | 1 => ("GreenLine$Program", "holds", "[I", true)
  | 2 => ("GreenLine$Program", "beginLength", "I", false)
  | _ => ("GreenLine$Program", "holdLength", "I", false)
def tyX4 : Nat → FieldType := fun k => match k with
  | 0 => .array .int
  | 1 => .array .int
  | 2 => .int
  | _ => .int
abbrev wsX40 : List Cond := u_ws RX4 TX4 4
theorem nmX4 : ∀ a, a < 4 → ∀ b, b < 4 → a ≠ b → (TX4 a).2.1 ≠ (TX4 b).2.1 := by decide +kernel
theorem tyX4_ok : ∀ k, k < 4 → parseFieldDescriptor (TX4 k).2.2.1 = some (tyX4 k) := by decide +kernel
abbrev cX4_init : ByteArray := prog_6_method_1_code
def yX4_init : MethodName := ⟨RX4, "<init>", "()V"⟩
abbrev cX4_empty : ByteArray := prog_6_method_2_code
def yX4_empty : MethodName := ⟨RX4, "empty", "()V"⟩
abbrev cX4_isEmpty : ByteArray := prog_6_method_3_code
def yX4_isEmpty : MethodName := ⟨RX4, "isEmpty", "()Z"⟩
def RX5 : String := "GreenLine$Reader"
def TX5 : u_T := fun k => match k with
  | 0 => ("GreenLine$Reader", "scanner", "LGreenLine$Scanner;", true)
  | 1 => ("GreenLine$Reader", "waiting", "[I", true)
  | 2 => ("GreenLine$Reader", "waits", "I", false)
  | 3 => ("GreenLine$Reader", "opened", "I", false)
  | 4 => ("GreenLine$Reader", "brackets", "I", false)
  | 5 => ("GreenLine$Reader", "clauses", "I", false)
  | 6 => ("GreenLine$Reader", "held", "Z", false)
  | 7 => ("GreenLine$Reader", "inClause", "Z", false)
  | 8 => ("GreenLine$Reader", "inBegin", "Z", false)
  | 9 => ("GreenLine$Reader", "wantsOne", "Z", false)
  | 10 => ("GreenLine$Reader", "mayNot", "Z", false)
  | 11 => ("GreenLine$Reader", "compared", "Z", false)
  | 12 => ("GreenLine$Reader", "begun", "Z", false)
  | 13 => ("GreenLine$Reader", "ended", "Z", false)
  | 14 => ("GreenLine$Reader", "fault", "I", false)
  | 15 => ("GreenLine$Reader", "place", "I", false)
  | _ => ("GreenLine$Reader", "program", "LGreenLine$Program;", false)
def tyX5 : Nat → FieldType := fun k => match k with
  | 0 => .object "GreenLine$Scanner"
  | 1 => .array .int
  | 2 => .int
  | 3 => .int
  | 4 => .int
  | 5 => .int
  | 6 => .boolean
  | 7 => .boolean
  | 8 => .boolean
  | 9 => .boolean
  | 10 => .boolean
  | 11 => .boolean
  | 12 => .boolean
  | 13 => .boolean
  | 14 => .int
  | 15 => .int
  | _ => .object "GreenLine$Program"
abbrev wsX50 : List Cond := u_ws RX5 TX5 17
theorem nmX5 : ∀ a, a < 17 → ∀ b, b < 17 → a ≠ b → (TX5 a).2.1 ≠ (TX5 b).2.1 := by decide +kernel
theorem tyX5_ok : ∀ k, k < 17 → parseFieldDescriptor (TX5 k).2.2.1 = some (tyX5 k) := by decide +kernel
abbrev cX5_init : ByteArray := prog_7_method_1_code
def yX5_init : MethodName := ⟨RX5, "<init>", "()V"⟩
abbrev cX5_read : ByteArray := prog_7_method_2_code
def yX5_read : MethodName := ⟨RX5, "read", "(LGreenLine$Program;I)V"⟩
abbrev cX5_fail : ByteArray := prog_7_method_3_code
def yX5_fail : MethodName := ⟨RX5, "fail", "(I)V"⟩
abbrev cX5_take : ByteArray := prog_7_method_4_code
def yX5_take : MethodName := ⟨RX5, "take", "(I)V"⟩
abbrev cX5_takeFirst : ByteArray := prog_7_method_5_code
def yX5_takeFirst : MethodName := ⟨RX5, "takeFirst", "(I)V"⟩
abbrev cX5_takeOne : ByteArray := prog_7_method_6_code
def yX5_takeOne : MethodName := ⟨RX5, "takeOne", "(I)V"⟩
abbrev cX5_openUp : ByteArray := prog_7_method_7_code
def yX5_openUp : MethodName := ⟨RX5, "openUp", "(I)V"⟩
abbrev cX5_takeBehindOne : ByteArray := prog_7_method_8_code
def yX5_takeBehindOne : MethodName := ⟨RX5, "takeBehindOne", "(I)V"⟩
abbrev cX5_awaitNext : ByteArray := prog_7_method_9_code
def yX5_awaitNext : MethodName := ⟨RX5, "awaitNext", "(I)V"⟩
abbrev cX5_closeBracket : ByteArray := prog_7_method_10_code
def yX5_closeBracket : MethodName := ⟨RX5, "closeBracket", "()V"⟩
abbrev cX5_endClause : ByteArray := prog_7_method_11_code
def yX5_endClause : MethodName := ⟨RX5, "endClause", "()V"⟩
abbrev cX5_await : ByteArray := prog_7_method_12_code
def yX5_await : MethodName := ⟨RX5, "await", "(I)V"⟩
abbrev cX5_unwind : ByteArray := prog_7_method_13_code
def yX5_unwind : MethodName := ⟨RX5, "unwind", "(I)V"⟩
abbrev cX5_emit : ByteArray := prog_7_method_14_code
def yX5_emit : MethodName := ⟨RX5, "emit", "(I)V"⟩
abbrev cX5_strength : ByteArray := prog_7_method_15_code
def yX5_strength : MethodName := ⟨RX5, "strength", "(I)I"⟩
def RX6 : String := "GreenLine$Scanner"
def TX6 : u_T := fun k => match k with
  | 0 => ("GreenLine$Scanner", "bytes", "[I", true)
  | 1 => ("GreenLine$Scanner", "length", "I", false)
  | 2 => ("GreenLine$Scanner", "at", "I", false)
  | 3 => ("GreenLine$Scanner", "start", "I", false)
  | 4 => ("GreenLine$Scanner", "sign", "I", false)
  | _ => ("GreenLine$Scanner", "number", "I", false)
def tyX6 : Nat → FieldType := fun k => match k with
  | 0 => .array .int
  | 1 => .int
  | 2 => .int
  | 3 => .int
  | 4 => .int
  | _ => .int
abbrev wsX60 : List Cond := u_ws RX6 TX6 6
theorem nmX6 : ∀ a, a < 6 → ∀ b, b < 6 → a ≠ b → (TX6 a).2.1 ≠ (TX6 b).2.1 := by decide +kernel
theorem tyX6_ok : ∀ k, k < 6 → parseFieldDescriptor (TX6 k).2.2.1 = some (tyX6 k) := by decide +kernel
abbrev cX6_init : ByteArray := prog_8_method_1_code
def yX6_init : MethodName := ⟨RX6, "<init>", "()V"⟩
abbrev cX6_restart : ByteArray := prog_8_method_2_code
def yX6_restart : MethodName := ⟨RX6, "restart", "(I)V"⟩
abbrev cX6_next : ByteArray := prog_8_method_3_code
def yX6_next : MethodName := ⟨RX6, "next", "()V"⟩
abbrev cX6_byteAt : ByteArray := prog_8_method_4_code
def yX6_byteAt : MethodName := ⟨RX6, "byteAt", "(I)I"⟩
abbrev cX6_passLetters : ByteArray := prog_8_method_5_code
def yX6_passLetters : MethodName := ⟨RX6, "passLetters", "()V"⟩
abbrev cX6_readNumber : ByteArray := prog_8_method_6_code
def yX6_readNumber : MethodName := ⟨RX6, "readNumber", "()V"⟩
abbrev cX6_signOf : ByteArray := prog_8_method_7_code
def yX6_signOf : MethodName := ⟨RX6, "signOf", "(I)I"⟩
abbrev cX6_passesEqual : ByteArray := prog_8_method_8_code
def yX6_passesEqual : MethodName := ⟨RX6, "passesEqual", "()Z"⟩
abbrev cX6_wordSign : ByteArray := prog_8_method_9_code
def yX6_wordSign : MethodName := ⟨RX6, "wordSign", "()I"⟩
abbrev cX6_valueSign : ByteArray := prog_8_method_10_code
def yX6_valueSign : MethodName := ⟨RX6, "valueSign", "()I"⟩
abbrev cX6_spells : ByteArray := prog_8_method_11_code
def yX6_spells : MethodName := ⟨RX6, "spells", "(Ljava/lang/String;)Z"⟩
abbrev cX6_isBlank : ByteArray := prog_8_method_12_code
def yX6_isBlank : MethodName := ⟨RX6, "isBlank", "(I)Z"⟩
abbrev cX6_isLetter : ByteArray := prog_8_method_13_code
def yX6_isLetter : MethodName := ⟨RX6, "isLetter", "(I)Z"⟩
abbrev cX6_isDigit : ByteArray := prog_8_method_14_code
def yX6_isDigit : MethodName := ⟨RX6, "isDigit", "(I)Z"⟩
def RX7 : String := "GreenLine$Screen"
def TX7 : u_T := fun k => match k with
  | _ => ("GreenLine$Screen", "glows", "[I", true)
def tyX7 : Nat → FieldType := fun k => match k with
  | _ => .array .int
abbrev wsX70 : List Cond := u_ws RX7 TX7 1
theorem nmX7 : ∀ a, a < 1 → ∀ b, b < 1 → a ≠ b → (TX7 a).2.1 ≠ (TX7 b).2.1 := by decide +kernel
theorem tyX7_ok : ∀ k, k < 1 → parseFieldDescriptor (TX7 k).2.2.1 = some (tyX7 k) := by decide +kernel
abbrev cX7_init : ByteArray := prog_9_method_1_code
def yX7_init : MethodName := ⟨RX7, "<init>", "()V"⟩
abbrev cX7_darken : ByteArray := prog_9_method_2_code
def yX7_darken : MethodName := ⟨RX7, "darken", "()V"⟩
abbrev cX7_dim : ByteArray := prog_9_method_3_code
def yX7_dim : MethodName := ⟨RX7, "dim", "(I)V"⟩
abbrev cX7_brighten : ByteArray := prog_9_method_4_code
def yX7_brighten : MethodName := ⟨RX7, "brighten", "(II)V"⟩
abbrev cX7_glowOf : ByteArray := prog_9_method_5_code
def yX7_glowOf : MethodName := ⟨RX7, "glowOf", "(II)I"⟩
abbrev cX7_bits : ByteArray := prog_9_method_6_code
def yX7_bits : MethodName := ⟨RX7, "bits", "(II)I"⟩
abbrev cX7_dots : ByteArray := prog_9_method_7_code
def yX7_dots : MethodName := ⟨RX7, "dots", "(I)I"⟩
def RX8 : String := "GreenLine$Setup"
def TX8 : u_T := fun k => match k with
  | 0 => ("GreenLine$Setup", "signals", "[LGreenLine$Signal;", true)
  | 1 => ("GreenLine$Setup", "channels", "[LGreenLine$Channel;", true)
  | 2 => ("GreenLine$Setup", "photo", "[I", true)
  | 3 => ("GreenLine$Setup", "pace", "I", false)
  | 4 => ("GreenLine$Setup", "delay", "I", false)
  | 5 => ("GreenLine$Setup", "fade", "I", false)
  | 6 => ("GreenLine$Setup", "mode", "I", false)
  | 7 => ("GreenLine$Setup", "chop", "I", false)
  | 8 => ("GreenLine$Setup", "texts", "I", false)
  | _ => ("GreenLine$Setup", "text", "I", false)
def tyX8 : Nat → FieldType := fun k => match k with
  | 0 => .array (.object "GreenLine$Signal")
  | 1 => .array (.object "GreenLine$Channel")
  | 2 => .array .int
  | 3 => .int
  | 4 => .int
  | 5 => .int
  | 6 => .int
  | 7 => .int
  | 8 => .int
  | _ => .int
abbrev wsX80 : List Cond := u_ws RX8 TX8 10
theorem nmX8 : ∀ a, a < 10 → ∀ b, b < 10 → a ≠ b → (TX8 a).2.1 ≠ (TX8 b).2.1 := by decide +kernel
theorem tyX8_ok : ∀ k, k < 10 → parseFieldDescriptor (TX8 k).2.2.1 = some (tyX8 k) := by decide +kernel
abbrev cX8_init : ByteArray := prog_10_method_1_code
def yX8_init : MethodName := ⟨RX8, "<init>", "()V"⟩
abbrev cX8_copyFrom : ByteArray := prog_10_method_2_code
def yX8_copyFrom : MethodName := ⟨RX8, "copyFrom", "(LGreenLine$Setup;)V"⟩
def RX9 : String := "GreenLine$Signal"
def TX9 : u_T := fun k => match k with
  | 0 => ("GreenLine$Signal", "parts", "[LGreenLine$Part;", true)
  | _ => ("GreenLine$Signal", "count", "I", false)
def tyX9 : Nat → FieldType := fun k => match k with
  | 0 => .array (.object "GreenLine$Part")
  | _ => .int
abbrev wsX90 : List Cond := u_ws RX9 TX9 2
theorem nmX9 : ∀ a, a < 2 → ∀ b, b < 2 → a ≠ b → (TX9 a).2.1 ≠ (TX9 b).2.1 := by decide +kernel
theorem tyX9_ok : ∀ k, k < 2 → parseFieldDescriptor (TX9 k).2.2.1 = some (tyX9 k) := by decide +kernel
abbrev cX9_init : ByteArray := prog_11_method_1_code
def yX9_init : MethodName := ⟨RX9, "<init>", "()V"⟩
abbrev cX9_add : ByteArray := prog_11_method_2_code
def yX9_add : MethodName := ⟨RX9, "add", "(IIIII)V"⟩
abbrev cX9_heightAt : ByteArray := prog_11_method_3_code
def yX9_heightAt : MethodName := ⟨RX9, "heightAt", "(I)I"⟩
abbrev cX9_copyFrom : ByteArray := prog_11_method_4_code
def yX9_copyFrom : MethodName := ⟨RX9, "copyFrom", "(LGreenLine$Signal;)V"⟩
def RX10 : String := "GreenLine"
def TX10 : u_T := fun k => match k with
  | 0 => ("GreenLine", "beam", "LGreenLine$Beam;", true)
  | 1 => ("GreenLine", "setup", "LGreenLine$Setup;", true)
  | 2 => ("GreenLine", "saved", "LGreenLine$Setup;", true)
  | 3 => ("GreenLine", "reader", "LGreenLine$Reader;", true)
  | 4 => ("GreenLine", "tape", "[I", true)
  | 5 => ("GreenLine", "screen", "LGreenLine$Screen;", true)
  | 6 => ("GreenLine", "guess", "LGreenLine$Part;", true)
  | 7 => ("GreenLine", "samples", "[I", true)
  | 8 => ("GreenLine", "earlier", "[I", true)
  | 9 => ("GreenLine", "tapeLength", "I", false)
  | 10 => ("GreenLine", "latestFault", "I", false)
  | _ => ("GreenLine", "latestPlace", "I", false)
def tyX10 : Nat → FieldType := fun k => match k with
  | 0 => .object "GreenLine$Beam"
  | 1 => .object "GreenLine$Setup"
  | 2 => .object "GreenLine$Setup"
  | 3 => .object "GreenLine$Reader"
  | 4 => .array .int
  | 5 => .object "GreenLine$Screen"
  | 6 => .object "GreenLine$Part"
  | 7 => .array .int
  | 8 => .array .int
  | 9 => .int
  | 10 => .int
  | _ => .int
abbrev wsX100 : List Cond := u_ws RX10 TX10 12
theorem nmX10 : ∀ a, a < 12 → ∀ b, b < 12 → a ≠ b → (TX10 a).2.1 ≠ (TX10 b).2.1 := by decide +kernel
theorem tyX10_ok : ∀ k, k < 12 → parseFieldDescriptor (TX10 k).2.2.1 = some (tyX10 k) := by decide +kernel
abbrev cX10_init : ByteArray := prog_1_method_1_code
def yX10_init : MethodName := ⟨RX10, "<init>", "()V"⟩
abbrev cX10_part : ByteArray := prog_1_method_2_code
def yX10_part : MethodName := ⟨RX10, "part", "(IIIIII)I"⟩
abbrev cX10_clear : ByteArray := prog_1_method_3_code
def yX10_clear : MethodName := ⟨RX10, "clear", "(I)I"⟩
abbrev cX10_raw : ByteArray := prog_1_method_4_code
def yX10_raw : MethodName := ⟨RX10, "raw", "(II)I"⟩
abbrev cX10_probe : ByteArray := prog_1_method_5_code
def yX10_probe : MethodName := ⟨RX10, "probe", "(IIII)Z"⟩
abbrev cX10_channel : ByteArray := prog_1_method_6_code
def yX10_channel : MethodName := ⟨RX10, "channel", "(IIII)Z"⟩
abbrev cX10_out : ByteArray := prog_1_method_7_code
def yX10_out : MethodName := ⟨RX10, "out", "(II)I"⟩
abbrev cX10_base : ByteArray := prog_1_method_8_code
def yX10_base : MethodName := ⟨RX10, "base", "(III)Z"⟩
abbrev cX10_mode : ByteArray := prog_1_method_9_code
def yX10_mode : MethodName := ⟨RX10, "mode", "(II)Z"⟩
abbrev cX10_feed : ByteArray := prog_1_method_10_code
def yX10_feed : MethodName := ⟨RX10, "feed", "(IIIII)I"⟩
abbrev cX10_feedNumber : ByteArray := prog_1_method_11_code
def yX10_feedNumber : MethodName := ⟨RX10, "feedNumber", "(I)V"⟩
abbrev cX10_end : ByteArray := prog_1_method_12_code
def yX10_end : MethodName := ⟨RX10, "end", "(I)I"⟩
abbrev cX10_text : ByteArray := prog_1_method_13_code
def yX10_text : MethodName := ⟨RX10, "text", "()I"⟩
abbrev cX10_fault : ByteArray := prog_1_method_14_code
def yX10_fault : MethodName := ⟨RX10, "fault", "(I)I"⟩
abbrev cX10_by : ByteArray := prog_1_method_15_code
def yX10_by : MethodName := ⟨RX10, "by", "(I)Z"⟩
abbrev cX10_swept : ByteArray := prog_1_method_16_code
def yX10_swept : MethodName := ⟨RX10, "swept", "(II)I"⟩
abbrev cX10_glow : ByteArray := prog_1_method_17_code
def yX10_glow : MethodName := ⟨RX10, "glow", "(III)I"⟩
abbrev cX10_lit : ByteArray := prog_1_method_18_code
def yX10_lit : MethodName := ⟨RX10, "lit", "(III)I"⟩
abbrev cX10_otherwise : ByteArray := prog_1_method_19_code
def yX10_otherwise : MethodName := ⟨RX10, "otherwise", "(III)I"⟩
abbrev cX10_takeSamples : ByteArray := prog_1_method_20_code
def yX10_takeSamples : MethodName := ⟨RX10, "takeSamples", "(II)I"⟩
abbrev cX10_guessFits : ByteArray := prog_1_method_21_code
def yX10_guessFits : MethodName := ⟨RX10, "guessFits", "(I)Z"⟩
abbrev cX10_caught : ByteArray := prog_1_method_22_code
def yX10_caught : MethodName := ⟨RX10, "caught", "(II)I"⟩
abbrev cX10_photo : ByteArray := prog_1_method_23_code
def yX10_photo : MethodName := ⟨RX10, "photo", "(II)Z"⟩
abbrev cX10_shoot : ByteArray := prog_1_method_24_code
def yX10_shoot : MethodName := ⟨RX10, "shoot", "(II)I"⟩
abbrev cX10_copyBits : ByteArray := prog_1_method_25_code
def yX10_copyBits : MethodName := ⟨RX10, "copyBits", "(I[I)V"⟩
abbrev cX10_settings : ByteArray := prog_1_method_26_code
def yX10_settings : MethodName := ⟨RX10, "settings", "(III)I"⟩
abbrev cX10_unlike : ByteArray := prog_1_method_27_code
def yX10_unlike : MethodName := ⟨RX10, "unlike", "([II)I"⟩
abbrev cX10_measure : ByteArray := prog_1_method_28_code
def yX10_measure : MethodName := ⟨RX10, "measure", "(IIII)I"⟩
abbrev cX10_lowest : ByteArray := prog_1_method_29_code
def yX10_lowest : MethodName := ⟨RX10, "lowest", "(III)I"⟩
abbrev cX10_highest : ByteArray := prog_1_method_30_code
def yX10_highest : MethodName := ⟨RX10, "highest", "(III)I"⟩
abbrev cX10_wide : ByteArray := prog_1_method_31_code
def yX10_wide : MethodName := ⟨RX10, "wide", "(IIII)I"⟩
abbrev cX10_rise : ByteArray := prog_1_method_32_code
def yX10_rise : MethodName := ⟨RX10, "rise", "(IIIIII)I"⟩
abbrev cX10_leastRise : ByteArray := prog_1_method_33_code
def yX10_leastRise : MethodName := ⟨RX10, "leastRise", "(I)I"⟩
abbrev cX10_greatestRise : ByteArray := prog_1_method_34_code
def yX10_greatestRise : MethodName := ⟨RX10, "greatestRise", "(I)I"⟩
abbrev cX10_parting : ByteArray := prog_1_method_35_code
def yX10_parting : MethodName := ⟨RX10, "parting", "(IIII)I"⟩
abbrev cX10_image : ByteArray := prog_1_method_36_code
def yX10_image : MethodName := ⟨RX10, "image", "()I"⟩
abbrev cX10_back : ByteArray := prog_1_method_37_code
def yX10_back : MethodName := ⟨RX10, "back", "()I"⟩
abbrev cX10_about : ByteArray := prog_1_method_38_code
def yX10_about : MethodName := ⟨RX10, "about", "(I)I"⟩
abbrev cX10_aboutInputs : ByteArray := prog_1_method_39_code
def yX10_aboutInputs : MethodName := ⟨RX10, "aboutInputs", "(I)I"⟩
abbrev cX10_within : ByteArray := prog_1_method_40_code
def yX10_within : MethodName := ⟨RX10, "within", "(III)Z"⟩
abbrev cX10_isSignal : ByteArray := prog_1_method_41_code
def yX10_isSignal : MethodName := ⟨RX10, "isSignal", "(I)Z"⟩
abbrev cX10_isChannel : ByteArray := prog_1_method_42_code
def yX10_isChannel : MethodName := ⟨RX10, "isChannel", "(I)Z"⟩
abbrev cX10_isSpan : ByteArray := prog_1_method_43_code
def yX10_isSpan : MethodName := ⟨RX10, "isSpan", "(I)Z"⟩
def RX11 : String := "GreenLineModel"
def TX11 : u_T := fun k => match k with
  | 0 => ("GreenLineModel", "a", "[I", true)
  | 1 => ("GreenLineModel", "image", "[I", true)
  | 2 => ("GreenLineModel", "tape", "[B", true)
  | 3 => ("GreenLineModel", "taped", "I", false)
  | 4 => ("GreenLineModel", "fault", "I", false)
  | 5 => ("GreenLineModel", "faultAt", "I", false)
  | 6 => ("GreenLineModel", "clauses", "[I", true)
  | 7 => ("GreenLineModel", "clauseWord", "[I", true)
  | 8 => ("GreenLineModel", "clauseAt", "[I", true)
  | 9 => ("GreenLineModel", "order", "[I", true)
  | 10 => ("GreenLineModel", "value", "[I", true)
  | 11 => ("GreenLineModel", "out", "[I", true)
  | 12 => ("GreenLineModel", "length", "I", false)
  | 13 => ("GreenLineModel", "at", "I", false)
  | 14 => ("GreenLineModel", "token", "I", false)
  | 15 => ("GreenLineModel", "sort", "I", false)
  | 16 => ("GreenLineModel", "told", "I", false)
  | 17 => ("GreenLineModel", "wrong", "I", false)
  | 18 => ("GreenLineModel", "wrongAt", "I", false)
  | 19 => ("GreenLineModel", "open", "I", false)
  | 20 => ("GreenLineModel", "frames", "I", false)
  | 21 => ("GreenLineModel", "frame", "[I", true)
  | 22 => ("GreenLineModel", "compare", "[I", true)
  | 23 => ("GreenLineModel", "waits", "I", false)
  | 24 => ("GreenLineModel", "wait", "[I", true)
  | 25 => ("GreenLineModel", "waitFrame", "[I", true)
  | 26 => ("GreenLineModel", "state", "I", false)
  | 27 => ("GreenLineModel", "newClauses", "I", false)
  | 28 => ("GreenLineModel", "newWord", "[I", true)
  | 29 => ("GreenLineModel", "newAt", "[I", true)
  | 30 => ("GreenLineModel", "newOrders", "I", false)
  | 31 => ("GreenLineModel", "newOrder", "[I", true)
  | 32 => ("GreenLineModel", "newValue", "[I", true)
  | 33 => ("GreenLineModel", "name", "[I", true)
  | 34 => ("GreenLineModel", "pile", "[J", true)
  | 35 => ("GreenLineModel", "sweeps", "I", false)
  | 36 => ("GreenLineModel", "begun", "[I", true)
  | 37 => ("GreenLineModel", "glow", "[I", true)
  | 38 => ("GreenLineModel", "sample", "[I", true)
  | 39 => ("GreenLineModel", "low", "I", false)
  | 40 => ("GreenLineModel", "high", "I", false)
  | _ => ("GreenLineModel", "lit", "[Z", true)
def tyX11 : Nat → FieldType := fun k => match k with
  | 0 => .array .int
  | 1 => .array .int
  | 2 => .array .byte
  | 3 => .int
  | 4 => .int
  | 5 => .int
  | 6 => .array .int
  | 7 => .array .int
  | 8 => .array .int
  | 9 => .array .int
  | 10 => .array .int
  | 11 => .array .int
  | 12 => .int
  | 13 => .int
  | 14 => .int
  | 15 => .int
  | 16 => .int
  | 17 => .int
  | 18 => .int
  | 19 => .int
  | 20 => .int
  | 21 => .array .int
  | 22 => .array .int
  | 23 => .int
  | 24 => .array .int
  | 25 => .array .int
  | 26 => .int
  | 27 => .int
  | 28 => .array .int
  | 29 => .array .int
  | 30 => .int
  | 31 => .array .int
  | 32 => .array .int
  | 33 => .array .int
  | 34 => .array .long
  | 35 => .int
  | 36 => .array .int
  | 37 => .array .int
  | 38 => .array .int
  | 39 => .int
  | 40 => .int
  | _ => .array .boolean
abbrev wsX110 : List Cond := u_ws RX11 TX11 42
theorem nmX11 : ∀ a, a < 42 → ∀ b, b < 42 → a ≠ b → (TX11 a).2.1 ≠ (TX11 b).2.1 := by decide +kernel
theorem tyX11_ok : ∀ k, k < 42 → parseFieldDescriptor (TX11 k).2.2.1 = some (tyX11 k) := by decide +kernel
abbrev cX11_init : ByteArray := prog_13_method_1_code
def yX11_init : MethodName := ⟨RX11, "<init>", "()V"⟩
abbrev cX11_in : ByteArray := prog_13_method_2_code
def yX11_in : MethodName := ⟨RX11, "in", "(III)Z"⟩
abbrev cX11_rest : ByteArray := prog_13_method_3_code
def yX11_rest : MethodName := ⟨RX11, "rest", "(II)I"⟩
abbrev cX11_down : ByteArray := prog_13_method_4_code
def yX11_down : MethodName := ⟨RX11, "down", "(II)I"⟩
abbrev cX11_copies : ByteArray := prog_13_method_5_code
def yX11_copies : MethodName := ⟨RX11, "copies", "(Z)V"⟩
abbrev cX11_isSignal : ByteArray := prog_13_method_6_code
def yX11_isSignal : MethodName := ⟨RX11, "isSignal", "(I)Z"⟩
abbrev cX11_isChannel : ByteArray := prog_13_method_7_code
def yX11_isChannel : MethodName := ⟨RX11, "isChannel", "(I)Z"⟩
abbrev cX11_part : ByteArray := prog_13_method_8_code
def yX11_part : MethodName := ⟨RX11, "part", "(IIIIII)I"⟩
abbrev cX11_clear : ByteArray := prog_13_method_9_code
def yX11_clear : MethodName := ⟨RX11, "clear", "(I)I"⟩
abbrev cX11_phase : ByteArray := prog_13_method_10_code
def yX11_phase : MethodName := ⟨RX11, "phase", "(II)I"⟩
abbrev cX11_partAt : ByteArray := prog_13_method_11_code
def yX11_partAt : MethodName := ⟨RX11, "partAt", "(II)I"⟩
abbrev cX11_rawAt : ByteArray := prog_13_method_12_code
def yX11_rawAt : MethodName := ⟨RX11, "rawAt", "(II)I"⟩
abbrev cX11_raw : ByteArray := prog_13_method_13_code
def yX11_raw : MethodName := ⟨RX11, "raw", "(II)I"⟩
abbrev cX11_probe : ByteArray := prog_13_method_14_code
def yX11_probe : MethodName := ⟨RX11, "probe", "(IIII)Z"⟩
abbrev cX11_channel : ByteArray := prog_13_method_15_code
def yX11_channel : MethodName := ⟨RX11, "channel", "(IIII)Z"⟩
abbrev cX11_laysOut : ByteArray := prog_13_method_16_code
def yX11_laysOut : MethodName := ⟨RX11, "laysOut", "(I)V"⟩
abbrev cX11_laysBoth : ByteArray := prog_13_method_17_code
def yX11_laysBoth : MethodName := ⟨RX11, "laysBoth", "()V"⟩
abbrev cX11_out : ByteArray := prog_13_method_18_code
def yX11_out : MethodName := ⟨RX11, "out", "(II)I"⟩
abbrev cX11_base : ByteArray := prog_13_method_19_code
def yX11_base : MethodName := ⟨RX11, "base", "(III)Z"⟩
abbrev cX11_mode : ByteArray := prog_13_method_20_code
def yX11_mode : MethodName := ⟨RX11, "mode", "(II)Z"⟩
abbrev cX11_put : ByteArray := prog_13_method_21_code
def yX11_put : MethodName := ⟨RX11, "put", "(I)V"⟩
abbrev cX11_feed : ByteArray := prog_13_method_22_code
def yX11_feed : MethodName := ⟨RX11, "feed", "(IIIII)I"⟩
abbrev cX11_end : ByteArray := prog_13_method_23_code
def yX11_end : MethodName := ⟨RX11, "end", "(I)I"⟩
abbrev cX11_isLetter : ByteArray := prog_13_method_24_code
def yX11_isLetter : MethodName := ⟨RX11, "isLetter", "(I)Z"⟩
abbrev cX11_wordOf : ByteArray := prog_13_method_25_code
def yX11_wordOf : MethodName := ⟨RX11, "wordOf", "(J)I"⟩
abbrev cX11_next : ByteArray := prog_13_method_26_code
def yX11_next : MethodName := ⟨RX11, "next", "()V"⟩
abbrev cX11_isSign : ByteArray := prog_13_method_27_code
def yX11_isSign : MethodName := ⟨RX11, "isSign", "(I)Z"⟩
abbrev cX11_isWord : ByteArray := prog_13_method_28_code
def yX11_isWord : MethodName := ⟨RX11, "isWord", "(I)Z"⟩
abbrev cX11_errs : ByteArray := prog_13_method_29_code
def yX11_errs : MethodName := ⟨RX11, "errs", "(I)V"⟩
abbrev cX11_emits : ByteArray := prog_13_method_30_code
def yX11_emits : MethodName := ⟨RX11, "emits", "(II)V"⟩
abbrev cX11_opensFrame : ByteArray := prog_13_method_31_code
def yX11_opensFrame : MethodName := ⟨RX11, "opensFrame", "(I)V"⟩
abbrev cX11_top : ByteArray := prog_13_method_32_code
def yX11_top : MethodName := ⟨RX11, "top", "()I"⟩
abbrev cX11_opensSign : ByteArray := prog_13_method_33_code
def yX11_opensSign : MethodName := ⟨RX11, "opensSign", "(I)Z"⟩
abbrev cX11_rank : ByteArray := prog_13_method_34_code
def yX11_rank : MethodName := ⟨RX11, "rank", "(I)I"⟩
abbrev cX11_works : ByteArray := prog_13_method_35_code
def yX11_works : MethodName := ⟨RX11, "works", "(I)V"⟩
abbrev cX11_waitsFor : ByteArray := prog_13_method_36_code
def yX11_waitsFor : MethodName := ⟨RX11, "waitsFor", "(I)V"⟩
abbrev cX11_asks : ByteArray := prog_13_method_37_code
def yX11_asks : MethodName := ⟨RX11, "asks", "()V"⟩
abbrev cX11_begins : ByteArray := prog_13_method_38_code
def yX11_begins : MethodName := ⟨RX11, "begins", "()V"⟩
abbrev cX11_oneIsOver : ByteArray := prog_13_method_39_code
def yX11_oneIsOver : MethodName := ⟨RX11, "oneIsOver", "()V"⟩
abbrev cX11_askIsOver : ByteArray := prog_13_method_40_code
def yX11_askIsOver : MethodName := ⟨RX11, "askIsOver", "()V"⟩
abbrev cX11_isAsking : ByteArray := prog_13_method_41_code
def yX11_isAsking : MethodName := ⟨RX11, "isAsking", "(I)Z"⟩
abbrev cX11_goesOn : ByteArray := prog_13_method_42_code
def yX11_goesOn : MethodName := ⟨RX11, "goesOn", "()V"⟩
abbrev cX11_asksOn : ByteArray := prog_13_method_43_code
def yX11_asksOn : MethodName := ⟨RX11, "asksOn", "()V"⟩
abbrev cX11_clauseIsOver : ByteArray := prog_13_method_44_code
def yX11_clauseIsOver : MethodName := ⟨RX11, "clauseIsOver", "()V"⟩
abbrev cX11_wasHold : ByteArray := prog_13_method_45_code
def yX11_wasHold : MethodName := ⟨RX11, "wasHold", "()Z"⟩
abbrev cX11_clause : ByteArray := prog_13_method_46_code
def yX11_clause : MethodName := ⟨RX11, "clause", "()V"⟩
abbrev cX11_text : ByteArray := prog_13_method_47_code
def yX11_text : MethodName := ⟨RX11, "text", "()I"⟩
abbrev cX11_keepsText : ByteArray := prog_13_method_48_code
def yX11_keepsText : MethodName := ⟨RX11, "keepsText", "(I)V"⟩
abbrev cX11_fault : ByteArray := prog_13_method_49_code
def yX11_fault : MethodName := ⟨RX11, "fault", "(I)I"⟩
abbrev cX11_bound : ByteArray := prog_13_method_50_code
def yX11_bound : MethodName := ⟨RX11, "bound", "(J)J"⟩
abbrev cX11_worked : ByteArray := prog_13_method_51_code
def yX11_worked : MethodName := ⟨RX11, "worked", "(IJJ)J"⟩
abbrev cX11_tells : ByteArray := prog_13_method_52_code
def yX11_tells : MethodName := ⟨RX11, "tells", "(I)J"⟩
abbrev cX11_by : ByteArray := prog_13_method_53_code
def yX11_by : MethodName := ⟨RX11, "by", "(I)Z"⟩
abbrev cX11_words : ByteArray := prog_13_method_54_code
def yX11_words : MethodName := ⟨RX11, "words", "(II)V"⟩
abbrev cX11_triggers : ByteArray := prog_13_method_55_code
def yX11_triggers : MethodName := ⟨RX11, "triggers", "()Z"⟩
abbrev cX11_hold : ByteArray := prog_13_method_56_code
def yX11_hold : MethodName := ⟨RX11, "hold", "()I"⟩
abbrev cX11_sweeps : ByteArray := prog_13_method_57_code
def yX11_sweeps : MethodName := ⟨RX11, "sweeps", "(I)V"⟩
abbrev cX11_isEnd : ByteArray := prog_13_method_58_code
def yX11_isEnd : MethodName := ⟨RX11, "isEnd", "(I)Z"⟩
abbrev cX11_swept : ByteArray := prog_13_method_59_code
def yX11_swept : MethodName := ⟨RX11, "swept", "(II)I"⟩
abbrev cX11_rowOf : ByteArray := prog_13_method_60_code
def yX11_rowOf : MethodName := ⟨RX11, "rowOf", "(II)I"⟩
abbrev cX11_turnOf : ByteArray := prog_13_method_61_code
def yX11_turnOf : MethodName := ⟨RX11, "turnOf", "(II)I"⟩
abbrev cX11_dotOf : ByteArray := prog_13_method_62_code
def yX11_dotOf : MethodName := ⟨RX11, "dotOf", "(III)I"⟩
abbrev cX11_draws : ByteArray := prog_13_method_63_code
def yX11_draws : MethodName := ⟨RX11, "draws", "(I)V"⟩
abbrev cX11_shows : ByteArray := prog_13_method_64_code
def yX11_shows : MethodName := ⟨RX11, "shows", "(I)V"⟩
abbrev cX11_glow : ByteArray := prog_13_method_65_code
def yX11_glow : MethodName := ⟨RX11, "glow", "(III)I"⟩
abbrev cX11_rowsOf : ByteArray := prog_13_method_66_code
def yX11_rowsOf : MethodName := ⟨RX11, "rowsOf", "(II)I"⟩
abbrev cX11_dots : ByteArray := prog_13_method_67_code
def yX11_dots : MethodName := ⟨RX11, "dots", "(I)I"⟩
abbrev cX11_isLight : ByteArray := prog_13_method_68_code
def yX11_isLight : MethodName := ⟨RX11, "isLight", "(I)Z"⟩
abbrev cX11_lit : ByteArray := prog_13_method_69_code
def yX11_lit : MethodName := ⟨RX11, "lit", "(III)I"⟩
abbrev cX11_otherwise : ByteArray := prog_13_method_70_code
def yX11_otherwise : MethodName := ⟨RX11, "otherwise", "(III)I"⟩
abbrev cX11_isAs : ByteArray := prog_13_method_71_code
def yX11_isAs : MethodName := ⟨RX11, "isAs", "(IIIII)Z"⟩
abbrev cX11_catches : ByteArray := prog_13_method_72_code
def yX11_catches : MethodName := ⟨RX11, "catches", "(III)Z"⟩
abbrev cX11_caught : ByteArray := prog_13_method_73_code
def yX11_caught : MethodName := ⟨RX11, "caught", "(II)I"⟩
abbrev cX11_photo : ByteArray := prog_13_method_74_code
def yX11_photo : MethodName := ⟨RX11, "photo", "(II)Z"⟩
abbrev cX11_shoot : ByteArray := prog_13_method_75_code
def yX11_shoot : MethodName := ⟨RX11, "shoot", "(II)I"⟩
abbrev cX11_isPhoto : ByteArray := prog_13_method_76_code
def yX11_isPhoto : MethodName := ⟨RX11, "isPhoto", "(I)Z"⟩
abbrev cX11_gainOf : ByteArray := prog_13_method_77_code
def yX11_gainOf : MethodName := ⟨RX11, "gainOf", "(I)I"⟩
abbrev cX11_settings : ByteArray := prog_13_method_78_code
def yX11_settings : MethodName := ⟨RX11, "settings", "(III)I"⟩
abbrev cX11_risen : ByteArray := prog_13_method_79_code
def yX11_risen : MethodName := ⟨RX11, "risen", "(IIIII)I"⟩
abbrev cX11_measure : ByteArray := prog_13_method_80_code
def yX11_measure : MethodName := ⟨RX11, "measure", "(IIII)I"⟩
abbrev cX11_parting : ByteArray := prog_13_method_81_code
def yX11_parting : MethodName := ⟨RX11, "parting", "(IIII)I"⟩
abbrev cX11_image : ByteArray := prog_13_method_82_code
def yX11_image : MethodName := ⟨RX11, "image", "()I"⟩
abbrev cX11_back : ByteArray := prog_13_method_83_code
def yX11_back : MethodName := ⟨RX11, "back", "()I"⟩
abbrev cX11_about : ByteArray := prog_13_method_84_code
def yX11_about : MethodName := ⟨RX11, "about", "(I)I"⟩
def RJ6 : String := "java/lang/Integer"
def TJ6 : u_T := fun k => match k with
  | _ => ("", "", "", false)
def tyJ6 : Nat → FieldType := fun k => match k with
  | _ => .int
theorem nmJ6 : ∀ a, a < 0 → ∀ b, b < 0 → a ≠ b → (TJ6 a).2.1 ≠ (TJ6 b).2.1 := by decide +kernel
theorem tyJ6_ok : ∀ k, k < 0 → parseFieldDescriptor (TJ6 k).2.2.1 = some (tyJ6 k) := by decide +kernel
abbrev cJ6_bitCount_0f7a4 : ByteArray := prog_14_method_49_code
def yJ6_bitCount_0f7a4 : MethodName := ⟨RJ6, "bitCount", "(I)I"⟩
def RJ9 : String := "java/lang/Math"
def TJ9 : u_T := fun k => match k with
  | _ => ("", "", "", false)
def tyJ9 : Nat → FieldType := fun k => match k with
  | _ => .int
theorem nmJ9 : ∀ a, a < 0 → ∀ b, b < 0 → a ≠ b → (TJ9 a).2.1 ≠ (TJ9 b).2.1 := by decide +kernel
theorem tyJ9_ok : ∀ k, k < 0 → parseFieldDescriptor (TJ9 k).2.2.1 = some (tyJ9 k) := by decide +kernel
abbrev cJ9_floorDiv_7cf53 : ByteArray := prog_15_method_47_code
def yJ9_floorDiv_7cf53 : MethodName := ⟨RJ9, "floorDiv", "(II)I"⟩
abbrev cJ9_max_7cf53 : ByteArray := prog_15_method_65_code
def yJ9_max_7cf53 : MethodName := ⟨RJ9, "max", "(II)I"⟩
abbrev cJ9_min_7cf53 : ByteArray := prog_15_method_69_code
def yJ9_min_7cf53 : MethodName := ⟨RJ9, "min", "(II)I"⟩
def RJ0 : String := "java/lang/String"
def TJ0 : u_T := fun k => match k with
  | _ => ("", "", "", false)
def tyJ0 : Nat → FieldType := fun k => match k with
  | _ => .int
theorem nmJ0 : ∀ a, a < 0 → ∀ b, b < 0 → a ≠ b → (TJ0 a).2.1 ≠ (TJ0 b).2.1 := by decide +kernel
theorem tyJ0_ok : ∀ k, k < 0 → parseFieldDescriptor (TJ0 k).2.2.1 = some (tyJ0 k) := by decide +kernel
abbrev cJ0_length_8abf5 : ByteArray := prog_16_method_54_code
def yJ0_length_8abf5 : MethodName := ⟨RJ0, "length", "()I"⟩
abbrev cJ0_charAt_5068e : ByteArray := prog_16_method_56_code
def yJ0_charAt_5068e : MethodName := ⟨RJ0, "charAt", "(I)C"⟩
abbrev cJ0_coder_7d493 : ByteArray := prog_16_method_152_code
def yJ0_coder_7d493 : MethodName := ⟨RJ0, "coder", "()B"⟩
abbrev cJ0_isLatin1_aae02 : ByteArray := prog_16_method_154_code
def yJ0_isLatin1_aae02 : MethodName := ⟨RJ0, "isLatin1", "()Z"⟩
abbrev cJ0_checkIndex_df160 : ByteArray := prog_16_method_155_code
def yJ0_checkIndex_df160 : MethodName := ⟨RJ0, "checkIndex", "(II)V"⟩
def RJ1 : String := "java/lang/StringLatin1"
def TJ1 : u_T := fun k => match k with
  | _ => ("", "", "", false)
def tyJ1 : Nat → FieldType := fun k => match k with
  | _ => .int
theorem nmJ1 : ∀ a, a < 0 → ∀ b, b < 0 → a ≠ b → (TJ1 a).2.1 ≠ (TJ1 b).2.1 := by decide +kernel
theorem tyJ1_ok : ∀ k, k < 0 → parseFieldDescriptor (TJ1 k).2.2.1 = some (tyJ1 k) := by decide +kernel
abbrev cJ1_charAt_3b067 : ByteArray := prog_17_method_2_code
def yJ1_charAt_3b067 : MethodName := ⟨RJ1, "charAt", "([BI)C"⟩
def RJ2 : String := "java/lang/StringUTF16"
def TJ2 : u_T := fun k => match k with
  | _ => ("", "", "", false)
def tyJ2 : Nat → FieldType := fun k => match k with
  | _ => .int
theorem nmJ2 : ∀ a, a < 0 → ∀ b, b < 0 → a ≠ b → (TJ2 a).2.1 ≠ (TJ2 b).2.1 := by decide +kernel
theorem tyJ2_ok : ∀ k, k < 0 → parseFieldDescriptor (TJ2 k).2.2.1 = some (tyJ2 k) := by decide +kernel
abbrev cJ2_getChar_3b067 : ByteArray := prog_18_method_5_code
def yJ2_getChar_3b067 : MethodName := ⟨RJ2, "getChar", "([BI)C"⟩
abbrev cJ2_length_9d52b : ByteArray := prog_18_method_6_code
def yJ2_length_9d52b : MethodName := ⟨RJ2, "length", "([B)I"⟩
abbrev cJ2_charAt_3b067 : ByteArray := prog_18_method_83_code
def yJ2_charAt_3b067 : MethodName := ⟨RJ2, "charAt", "([BI)C"⟩
abbrev cJ2_checkIndex_2214a : ByteArray := prog_18_method_91_code
def yJ2_checkIndex_2214a : MethodName := ⟨RJ2, "checkIndex", "(I[B)V"⟩
def RJ3 : String := "jdk/internal/util/Preconditions"
def TJ3 : u_T := fun k => match k with
  | _ => ("", "", "", false)
def tyJ3 : Nat → FieldType := fun k => match k with
  | _ => .int
theorem nmJ3 : ∀ a, a < 0 → ∀ b, b < 0 → a ≠ b → (TJ3 a).2.1 ≠ (TJ3 b).2.1 := by decide +kernel
theorem tyJ3_ok : ∀ k, k < 0 → parseFieldDescriptor (TJ3 k).2.2.1 = some (tyJ3 k) := by decide +kernel
abbrev cJ3_checkIndex_8e157 : ByteArray := prog_19_method_11_code
def yJ3_checkIndex_8e157 : MethodName := ⟨RJ3, "checkIndex", "(IILjava/util/function/BiFunction;)I"⟩
def RL : String := "GreenLineLaw"
abbrev cL_law : ByteArray := code
def yL_law : MethodName := ⟨RL, "law", "([I)Z"⟩
abbrev vwCl : List vw_C := [(RX0, TX0, 7), (RX1, TX1, 9), (RX2, TX2, 6), (RX3, TX3, 5), (RX4, TX4, 4), (RX5, TX5, 17), (RX6, TX6, 6), (RX7, TX7, 1), (RX8, TX8, 10), (RX9, TX9, 2), (RX10, TX10, 12), (RX11, TX11, 42)]
end
section
theorem dX0_init_0 : decode cX0_init 0 = .ok (.aload_n 0, 1) := by decide +kernel
theorem dX0_init_1 : decode cX0_init 1 = .ok (.invokespecial 3, 3) := by decide +kernel
theorem dX0_init_4 : decode cX0_init 4 = .ok (.aload_n 0, 1) := by decide +kernel
theorem dX0_init_5 : decode cX0_init 5 = .ok (.sipush 300, 3) := by decide +kernel
theorem dX0_init_8 : decode cX0_init 8 = .ok (.newarray .int, 2) := by decide +kernel
theorem dX0_init_10 : decode cX0_init 10 = .ok (.putfield 9, 3) := by decide +kernel
theorem dX0_init_13 : decode cX0_init 13 = .ok (.aload_n 0, 1) := by decide +kernel
theorem dX0_init_14 : decode cX0_init 14 = .ok (.iconst 0, 1) := by decide +kernel
theorem dX0_init_15 : decode cX0_init 15 = .ok (.putfield 15, 3) := by decide +kernel
theorem dX0_init_18 : decode cX0_init 18 = .ok (.aload_n 0, 1) := by decide +kernel
theorem dX0_init_19 : decode cX0_init 19 = .ok (.iconst 0, 1) := by decide +kernel
theorem dX0_init_20 : decode cX0_init 20 = .ok (.putfield 19, 3) := by decide +kernel
theorem dX0_init_23 : decode cX0_init 23 = .ok (.aload_n 0, 1) := by decide +kernel
theorem dX0_init_24 : decode cX0_init 24 = .ok (.iconst 0, 1) := by decide +kernel
theorem dX0_init_25 : decode cX0_init 25 = .ok (.putfield 22, 3) := by decide +kernel
theorem dX0_init_28 : decode cX0_init 28 = .ok (.aload_n 0, 1) := by decide +kernel
theorem dX0_init_29 : decode cX0_init 29 = .ok (.iconst 0, 1) := by decide +kernel
theorem dX0_init_30 : decode cX0_init 30 = .ok (.putfield 25, 3) := by decide +kernel
theorem dX0_init_33 : decode cX0_init 33 = .ok (.aload_n 0, 1) := by decide +kernel
theorem dX0_init_34 : decode cX0_init 34 = .ok (.iconst 0, 1) := by decide +kernel
theorem dX0_init_35 : decode cX0_init 35 = .ok (.putfield 28, 3) := by decide +kernel
theorem dX0_init_38 : decode cX0_init 38 = .ok (.aload_n 0, 1) := by decide +kernel
theorem dX0_init_39 : decode cX0_init 39 = .ok (.iconst 0, 1) := by decide +kernel
theorem dX0_init_40 : decode cX0_init 40 = .ok (.putfield 31, 3) := by decide +kernel
theorem dX0_init_43 : decode cX0_init 43 = .ok (.return_, 1) := by decide +kernel
theorem dX0_answer_0 : decode cX0_answer 0 = .ok (.iconst 0, 1) := by decide +kernel
theorem dX0_answer_1 : decode cX0_answer 1 = .ok (.istore_n 3, 1) := by decide +kernel
theorem dX0_answer_2 : decode cX0_answer 2 = .ok (.iconst 0, 1) := by decide +kernel
theorem dX0_answer_3 : decode cX0_answer 3 = .ok (.istore 4, 2) := by decide +kernel
theorem dX0_answer_5 : decode cX0_answer 5 = .ok (.iload 4, 2) := by decide +kernel
theorem dX0_answer_7 : decode cX0_answer 7 = .ok (.iload_n 2, 1) := by decide +kernel
theorem dX0_answer_8 : decode cX0_answer 8 = .ok (.if_icmp .ge 162, 3) := by decide +kernel
theorem dX0_answer_11 : decode cX0_answer 11 = .ok (.iload 4, 2) := by decide +kernel
theorem dX0_answer_13 : decode cX0_answer 13 = .ok (.aload_n 1, 1) := by decide +kernel
theorem dX0_answer_14 : decode cX0_answer 14 = .ok (.arraylength, 1) := by decide +kernel
theorem dX0_answer_15 : decode cX0_answer 15 = .ok (.if_icmp .ge 155, 3) := by decide +kernel
theorem dX0_answer_18 : decode cX0_answer 18 = .ok (.aload_n 1, 1) := by decide +kernel
theorem dX0_answer_19 : decode cX0_answer 19 = .ok (.iload 4, 2) := by decide +kernel
theorem dX0_answer_21 : decode cX0_answer 21 = .ok (.iaload, 1) := by decide +kernel
theorem dX0_answer_22 : decode cX0_answer 22 = .ok (.istore 5, 2) := by decide +kernel
theorem dX0_answer_24 : decode cX0_answer 24 = .ok (.iload 5, 2) := by decide +kernel
theorem dX0_answer_26 : decode cX0_answer 26 = .ok (.bipush (-17), 2) := by decide +kernel
theorem dX0_answer_28 : decode cX0_answer 28 = .ok (.if_icmp .lt 40, 3) := by decide +kernel
theorem dX0_answer_31 : decode cX0_answer 31 = .ok (.iload_n 3, 1) := by decide +kernel
theorem dX0_answer_32 : decode cX0_answer 32 = .ok (.aload_n 0, 1) := by decide +kernel
theorem dX0_answer_33 : decode cX0_answer 33 = .ok (.getfield 9, 3) := by decide +kernel
theorem dX0_answer_36 : decode cX0_answer 36 = .ok (.arraylength, 1) := by decide +kernel
theorem dX0_answer_37 : decode cX0_answer 37 = .ok (.if_icmp .ge 127, 3) := by decide +kernel
theorem dX0_answer_40 : decode cX0_answer 40 = .ok (.aload_n 0, 1) := by decide +kernel
theorem dX0_answer_41 : decode cX0_answer 41 = .ok (.getfield 9, 3) := by decide +kernel
theorem dX0_answer_44 : decode cX0_answer 44 = .ok (.iload_n 3, 1) := by decide +kernel
theorem dX0_answer_45 : decode cX0_answer 45 = .ok (.iload 5, 2) := by decide +kernel
theorem dX0_answer_47 : decode cX0_answer 47 = .ok (.ifCond .lt 8, 3) := by decide +kernel
theorem dX0_answer_50 : decode cX0_answer 50 = .ok (.iload 5, 2) := by decide +kernel
theorem dX0_answer_52 : decode cX0_answer 52 = .ok (.goto 9, 3) := by decide +kernel
theorem dX0_answer_55 : decode cX0_answer 55 = .ok (.aload_n 0, 1) := by decide +kernel
theorem dX0_answer_56 : decode cX0_answer 56 = .ok (.iload 5, 2) := by decide +kernel
theorem dX0_answer_58 : decode cX0_answer 58 = .ok (.invokevirtual 34, 3) := by decide +kernel
theorem dX0_answer_61 : decode cX0_answer 61 = .ok (.iastore, 1) := by decide +kernel
theorem dX0_answer_62 : decode cX0_answer 62 = .ok (.iinc 3 1, 3) := by decide +kernel
theorem dX0_answer_65 : decode cX0_answer 65 = .ok (.goto 99, 3) := by decide +kernel
theorem dX0_answer_68 : decode cX0_answer 68 = .ok (.iload 5, 2) := by decide +kernel
theorem dX0_answer_70 : decode cX0_answer 70 = .ok (.bipush (-25), 2) := by decide +kernel
theorem dX0_answer_72 : decode cX0_answer 72 = .ok (.if_icmp .eq 10, 3) := by decide +kernel
theorem dX0_answer_75 : decode cX0_answer 75 = .ok (.iload 5, 2) := by decide +kernel
theorem dX0_answer_77 : decode cX0_answer 77 = .ok (.bipush (-41), 2) := by decide +kernel
theorem dX0_answer_79 : decode cX0_answer 79 = .ok (.if_icmp .ne 48, 3) := by decide +kernel
theorem dX0_answer_82 : decode cX0_answer 82 = .ok (.iload_n 3, 1) := by decide +kernel
theorem dX0_answer_83 : decode cX0_answer 83 = .ok (.iconst 1, 1) := by decide +kernel
theorem dX0_answer_84 : decode cX0_answer 84 = .ok (.if_icmp .lt 80, 3) := by decide +kernel
theorem dX0_answer_87 : decode cX0_answer 87 = .ok (.aload_n 0, 1) := by decide +kernel
theorem dX0_answer_88 : decode cX0_answer 88 = .ok (.getfield 9, 3) := by decide +kernel
theorem dX0_answer_91 : decode cX0_answer 91 = .ok (.iload_n 3, 1) := by decide +kernel
theorem dX0_answer_92 : decode cX0_answer 92 = .ok (.iconst 1, 1) := by decide +kernel
theorem dX0_answer_93 : decode cX0_answer 93 = .ok (.isub, 1) := by decide +kernel
theorem dX0_answer_94 : decode cX0_answer 94 = .ok (.iload 5, 2) := by decide +kernel
theorem dX0_answer_96 : decode cX0_answer 96 = .ok (.bipush (-41), 2) := by decide +kernel
theorem dX0_answer_98 : decode cX0_answer 98 = .ok (.if_icmp .ne 16, 3) := by decide +kernel
theorem dX0_answer_101 : decode cX0_answer 101 = .ok (.iconst 1, 1) := by decide +kernel
theorem dX0_answer_102 : decode cX0_answer 102 = .ok (.aload_n 0, 1) := by decide +kernel
theorem dX0_answer_103 : decode cX0_answer 103 = .ok (.getfield 9, 3) := by decide +kernel
theorem dX0_answer_106 : decode cX0_answer 106 = .ok (.iload_n 3, 1) := by decide +kernel
theorem dX0_answer_107 : decode cX0_answer 107 = .ok (.iconst 1, 1) := by decide +kernel
theorem dX0_answer_108 : decode cX0_answer 108 = .ok (.isub, 1) := by decide +kernel
theorem dX0_answer_109 : decode cX0_answer 109 = .ok (.iaload, 1) := by decide +kernel
theorem dX0_answer_110 : decode cX0_answer 110 = .ok (.isub, 1) := by decide +kernel
theorem dX0_answer_111 : decode cX0_answer 111 = .ok (.goto 12, 3) := by decide +kernel
theorem dX0_answer_114 : decode cX0_answer 114 = .ok (.aload_n 0, 1) := by decide +kernel
theorem dX0_answer_115 : decode cX0_answer 115 = .ok (.getfield 9, 3) := by decide +kernel
theorem dX0_answer_118 : decode cX0_answer 118 = .ok (.iload_n 3, 1) := by decide +kernel
theorem dX0_answer_119 : decode cX0_answer 119 = .ok (.iconst 1, 1) := by decide +kernel
theorem dX0_answer_120 : decode cX0_answer 120 = .ok (.isub, 1) := by decide +kernel
theorem dX0_answer_121 : decode cX0_answer 121 = .ok (.iaload, 1) := by decide +kernel
theorem dX0_answer_122 : decode cX0_answer 122 = .ok (.ineg, 1) := by decide +kernel
theorem dX0_answer_123 : decode cX0_answer 123 = .ok (.iastore, 1) := by decide +kernel
theorem dX0_answer_124 : decode cX0_answer 124 = .ok (.goto 40, 3) := by decide +kernel
theorem dX0_answer_127 : decode cX0_answer 127 = .ok (.iload_n 3, 1) := by decide +kernel
theorem dX0_answer_128 : decode cX0_answer 128 = .ok (.iconst 2, 1) := by decide +kernel
theorem dX0_answer_129 : decode cX0_answer 129 = .ok (.if_icmp .lt 35, 3) := by decide +kernel
theorem dX0_answer_132 : decode cX0_answer 132 = .ok (.iinc 3 (-1), 3) := by decide +kernel
theorem dX0_answer_135 : decode cX0_answer 135 = .ok (.aload_n 0, 1) := by decide +kernel
theorem dX0_answer_136 : decode cX0_answer 136 = .ok (.getfield 9, 3) := by decide +kernel
theorem dX0_answer_139 : decode cX0_answer 139 = .ok (.iload_n 3, 1) := by decide +kernel
theorem dX0_answer_140 : decode cX0_answer 140 = .ok (.iconst 1, 1) := by decide +kernel
theorem dX0_answer_141 : decode cX0_answer 141 = .ok (.isub, 1) := by decide +kernel
theorem dX0_answer_142 : decode cX0_answer 142 = .ok (.iload 5, 2) := by decide +kernel
theorem dX0_answer_144 : decode cX0_answer 144 = .ok (.aload_n 0, 1) := by decide +kernel
theorem dX0_answer_145 : decode cX0_answer 145 = .ok (.getfield 9, 3) := by decide +kernel
theorem dX0_answer_148 : decode cX0_answer 148 = .ok (.iload_n 3, 1) := by decide +kernel
theorem dX0_answer_149 : decode cX0_answer 149 = .ok (.iconst 1, 1) := by decide +kernel
theorem dX0_answer_150 : decode cX0_answer 150 = .ok (.isub, 1) := by decide +kernel
theorem dX0_answer_151 : decode cX0_answer 151 = .ok (.iaload, 1) := by decide +kernel
theorem dX0_answer_152 : decode cX0_answer 152 = .ok (.i2l, 1) := by decide +kernel
theorem dX0_answer_153 : decode cX0_answer 153 = .ok (.aload_n 0, 1) := by decide +kernel
theorem dX0_answer_154 : decode cX0_answer 154 = .ok (.getfield 9, 3) := by decide +kernel
theorem dX0_answer_157 : decode cX0_answer 157 = .ok (.iload_n 3, 1) := by decide +kernel
theorem dX0_answer_158 : decode cX0_answer 158 = .ok (.iaload, 1) := by decide +kernel
theorem dX0_answer_159 : decode cX0_answer 159 = .ok (.i2l, 1) := by decide +kernel
theorem dX0_answer_160 : decode cX0_answer 160 = .ok (.invokestatic 38, 3) := by decide +kernel
theorem dX0_answer_163 : decode cX0_answer 163 = .ok (.iastore, 1) := by decide +kernel
theorem dX0_answer_164 : decode cX0_answer 164 = .ok (.iinc 4 1, 3) := by decide +kernel
theorem dX0_answer_167 : decode cX0_answer 167 = .ok (.goto (-162), 3) := by decide +kernel
theorem dX0_answer_170 : decode cX0_answer 170 = .ok (.aload_n 0, 1) := by decide +kernel
theorem dX0_answer_171 : decode cX0_answer 171 = .ok (.getfield 9, 3) := by decide +kernel
theorem dX0_answer_174 : decode cX0_answer 174 = .ok (.iconst 0, 1) := by decide +kernel
theorem dX0_answer_175 : decode cX0_answer 175 = .ok (.iaload, 1) := by decide +kernel
theorem dX0_answer_176 : decode cX0_answer 176 = .ok (.ireturn, 1) := by decide +kernel
theorem dX0_word_0 : decode cX0_word 0 = .ok (.iload_n 1, 1) := by decide +kernel
theorem dX0_word_1 : decode cX0_word 1 = .ok (.tableswitch 72 (-16) (-11) #[67, 59, 54, 49, 44, 39], 39) := by decide +kernel
theorem dX0_word_40 : decode cX0_word 40 = .ok (.aload_n 0, 1) := by decide +kernel
theorem dX0_word_41 : decode cX0_word 41 = .ok (.getfield 15, 3) := by decide +kernel
theorem dX0_word_44 : decode cX0_word 44 = .ok (.ireturn, 1) := by decide +kernel
theorem dX0_word_45 : decode cX0_word 45 = .ok (.aload_n 0, 1) := by decide +kernel
theorem dX0_word_46 : decode cX0_word 46 = .ok (.getfield 19, 3) := by decide +kernel
theorem dX0_word_49 : decode cX0_word 49 = .ok (.ireturn, 1) := by decide +kernel
theorem dX0_word_50 : decode cX0_word 50 = .ok (.aload_n 0, 1) := by decide +kernel
theorem dX0_word_51 : decode cX0_word 51 = .ok (.getfield 22, 3) := by decide +kernel
theorem dX0_word_54 : decode cX0_word 54 = .ok (.ireturn, 1) := by decide +kernel
theorem dX0_word_55 : decode cX0_word 55 = .ok (.aload_n 0, 1) := by decide +kernel
theorem dX0_word_56 : decode cX0_word 56 = .ok (.getfield 25, 3) := by decide +kernel
theorem dX0_word_59 : decode cX0_word 59 = .ok (.ireturn, 1) := by decide +kernel
theorem dX0_word_60 : decode cX0_word 60 = .ok (.aload_n 0, 1) := by decide +kernel
theorem dX0_word_61 : decode cX0_word 61 = .ok (.getfield 25, 3) := by decide +kernel
theorem dX0_word_64 : decode cX0_word 64 = .ok (.bipush 40, 2) := by decide +kernel
theorem dX0_word_66 : decode cX0_word 66 = .ok (.irem, 1) := by decide +kernel
theorem dX0_word_67 : decode cX0_word 67 = .ok (.ireturn, 1) := by decide +kernel
theorem dX0_word_68 : decode cX0_word 68 = .ok (.aload_n 0, 1) := by decide +kernel
theorem dX0_word_69 : decode cX0_word 69 = .ok (.getfield 28, 3) := by decide +kernel
theorem dX0_word_72 : decode cX0_word 72 = .ok (.ireturn, 1) := by decide +kernel
theorem dX0_word_73 : decode cX0_word 73 = .ok (.aload_n 0, 1) := by decide +kernel
theorem dX0_word_74 : decode cX0_word 74 = .ok (.getfield 31, 3) := by decide +kernel
theorem dX0_word_77 : decode cX0_word 77 = .ok (.ireturn, 1) := by decide +kernel
theorem dX0_joined_0 : decode cX0_joined 0 = .ok (.iload_n 0, 1) := by decide +kernel
theorem dX0_joined_1 : decode cX0_joined 1 = .ok (.tableswitch 69 (-24) (-21) #[52, 45, 38, 31], 31) := by decide +kernel
theorem dX0_joined_32 : decode cX0_joined 32 = .ok (.lload_n 1, 1) := by decide +kernel
theorem dX0_joined_33 : decode cX0_joined 33 = .ok (.lload_n 3, 1) := by decide +kernel
theorem dX0_joined_34 : decode cX0_joined 34 = .ok (.ladd, 1) := by decide +kernel
theorem dX0_joined_35 : decode cX0_joined 35 = .ok (.invokestatic 42, 3) := by decide +kernel
theorem dX0_joined_38 : decode cX0_joined 38 = .ok (.ireturn, 1) := by decide +kernel
theorem dX0_joined_39 : decode cX0_joined 39 = .ok (.lload_n 1, 1) := by decide +kernel
theorem dX0_joined_40 : decode cX0_joined 40 = .ok (.lload_n 3, 1) := by decide +kernel
theorem dX0_joined_41 : decode cX0_joined 41 = .ok (.lsub, 1) := by decide +kernel
theorem dX0_joined_42 : decode cX0_joined 42 = .ok (.invokestatic 42, 3) := by decide +kernel
theorem dX0_joined_45 : decode cX0_joined 45 = .ok (.ireturn, 1) := by decide +kernel
theorem dX0_joined_46 : decode cX0_joined 46 = .ok (.lload_n 1, 1) := by decide +kernel
theorem dX0_joined_47 : decode cX0_joined 47 = .ok (.lload_n 3, 1) := by decide +kernel
theorem dX0_joined_48 : decode cX0_joined 48 = .ok (.lmul, 1) := by decide +kernel
theorem dX0_joined_49 : decode cX0_joined 49 = .ok (.invokestatic 42, 3) := by decide +kernel
theorem dX0_joined_52 : decode cX0_joined 52 = .ok (.ireturn, 1) := by decide +kernel
theorem dX0_joined_53 : decode cX0_joined 53 = .ok (.lload_n 3, 1) := by decide +kernel
theorem dX0_joined_54 : decode cX0_joined 54 = .ok (.lconst 0, 1) := by decide +kernel
theorem dX0_joined_55 : decode cX0_joined 55 = .ok (.lcmp, 1) := by decide +kernel
theorem dX0_joined_56 : decode cX0_joined 56 = .ok (.ifCond .ne 7, 3) := by decide +kernel
theorem dX0_joined_59 : decode cX0_joined 59 = .ok (.iconst 0, 1) := by decide +kernel
theorem dX0_joined_60 : decode cX0_joined 60 = .ok (.goto 9, 3) := by decide +kernel
theorem dX0_joined_63 : decode cX0_joined 63 = .ok (.lload_n 1, 1) := by decide +kernel
theorem dX0_joined_64 : decode cX0_joined 64 = .ok (.lload_n 3, 1) := by decide +kernel
theorem dX0_joined_65 : decode cX0_joined 65 = .ok (.ldiv, 1) := by decide +kernel
theorem dX0_joined_66 : decode cX0_joined 66 = .ok (.invokestatic 42, 3) := by decide +kernel
theorem dX0_joined_69 : decode cX0_joined 69 = .ok (.ireturn, 1) := by decide +kernel
theorem dX0_joined_70 : decode cX0_joined 70 = .ok (.iload_n 0, 1) := by decide +kernel
theorem dX0_joined_71 : decode cX0_joined 71 = .ok (.lload_n 1, 1) := by decide +kernel
theorem dX0_joined_72 : decode cX0_joined 72 = .ok (.lload_n 3, 1) := by decide +kernel
theorem dX0_joined_73 : decode cX0_joined 73 = .ok (.invokestatic 46, 3) := by decide +kernel
theorem dX0_joined_76 : decode cX0_joined 76 = .ok (.ifCond .eq 7, 3) := by decide +kernel
theorem dX0_joined_79 : decode cX0_joined 79 = .ok (.iconst 1, 1) := by decide +kernel
theorem dX0_joined_80 : decode cX0_joined 80 = .ok (.goto 4, 3) := by decide +kernel
theorem dX0_joined_83 : decode cX0_joined 83 = .ok (.iconst 0, 1) := by decide +kernel
theorem dX0_joined_84 : decode cX0_joined 84 = .ok (.ireturn, 1) := by decide +kernel
theorem dX0_isSo_0 : decode cX0_isSo 0 = .ok (.iload_n 0, 1) := by decide +kernel
theorem dX0_isSo_1 : decode cX0_isSo 1 = .ok (.tableswitch 149 (-42) (-31) #[135, 149, 149, 149, 149, 149, 123, 111, 99, 87, 75, 63], 63) := by decide +kernel
theorem dX0_isSo_64 : decode cX0_isSo 64 = .ok (.lload_n 1, 1) := by decide +kernel
theorem dX0_isSo_65 : decode cX0_isSo 65 = .ok (.lload_n 3, 1) := by decide +kernel
theorem dX0_isSo_66 : decode cX0_isSo 66 = .ok (.lcmp, 1) := by decide +kernel
theorem dX0_isSo_67 : decode cX0_isSo 67 = .ok (.ifCond .ge 7, 3) := by decide +kernel
theorem dX0_isSo_70 : decode cX0_isSo 70 = .ok (.iconst 1, 1) := by decide +kernel
theorem dX0_isSo_71 : decode cX0_isSo 71 = .ok (.goto 4, 3) := by decide +kernel
theorem dX0_isSo_74 : decode cX0_isSo 74 = .ok (.iconst 0, 1) := by decide +kernel
theorem dX0_isSo_75 : decode cX0_isSo 75 = .ok (.ireturn, 1) := by decide +kernel
theorem dX0_isSo_76 : decode cX0_isSo 76 = .ok (.lload_n 1, 1) := by decide +kernel
theorem dX0_isSo_77 : decode cX0_isSo 77 = .ok (.lload_n 3, 1) := by decide +kernel
theorem dX0_isSo_78 : decode cX0_isSo 78 = .ok (.lcmp, 1) := by decide +kernel
theorem dX0_isSo_79 : decode cX0_isSo 79 = .ok (.ifCond .gt 7, 3) := by decide +kernel
theorem dX0_isSo_82 : decode cX0_isSo 82 = .ok (.iconst 1, 1) := by decide +kernel
theorem dX0_isSo_83 : decode cX0_isSo 83 = .ok (.goto 4, 3) := by decide +kernel
theorem dX0_isSo_86 : decode cX0_isSo 86 = .ok (.iconst 0, 1) := by decide +kernel
theorem dX0_isSo_87 : decode cX0_isSo 87 = .ok (.ireturn, 1) := by decide +kernel
theorem dX0_isSo_88 : decode cX0_isSo 88 = .ok (.lload_n 1, 1) := by decide +kernel
theorem dX0_isSo_89 : decode cX0_isSo 89 = .ok (.lload_n 3, 1) := by decide +kernel
theorem dX0_isSo_90 : decode cX0_isSo 90 = .ok (.lcmp, 1) := by decide +kernel
theorem dX0_isSo_91 : decode cX0_isSo 91 = .ok (.ifCond .le 7, 3) := by decide +kernel
theorem dX0_isSo_94 : decode cX0_isSo 94 = .ok (.iconst 1, 1) := by decide +kernel
theorem dX0_isSo_95 : decode cX0_isSo 95 = .ok (.goto 4, 3) := by decide +kernel
theorem dX0_isSo_98 : decode cX0_isSo 98 = .ok (.iconst 0, 1) := by decide +kernel
theorem dX0_isSo_99 : decode cX0_isSo 99 = .ok (.ireturn, 1) := by decide +kernel
theorem dX0_isSo_100 : decode cX0_isSo 100 = .ok (.lload_n 1, 1) := by decide +kernel
theorem dX0_isSo_101 : decode cX0_isSo 101 = .ok (.lload_n 3, 1) := by decide +kernel
theorem dX0_isSo_102 : decode cX0_isSo 102 = .ok (.lcmp, 1) := by decide +kernel
theorem dX0_isSo_103 : decode cX0_isSo 103 = .ok (.ifCond .lt 7, 3) := by decide +kernel
theorem dX0_isSo_106 : decode cX0_isSo 106 = .ok (.iconst 1, 1) := by decide +kernel
theorem dX0_isSo_107 : decode cX0_isSo 107 = .ok (.goto 4, 3) := by decide +kernel
theorem dX0_isSo_110 : decode cX0_isSo 110 = .ok (.iconst 0, 1) := by decide +kernel
theorem dX0_isSo_111 : decode cX0_isSo 111 = .ok (.ireturn, 1) := by decide +kernel
theorem dX0_isSo_112 : decode cX0_isSo 112 = .ok (.lload_n 1, 1) := by decide +kernel
theorem dX0_isSo_113 : decode cX0_isSo 113 = .ok (.lload_n 3, 1) := by decide +kernel
theorem dX0_isSo_114 : decode cX0_isSo 114 = .ok (.lcmp, 1) := by decide +kernel
theorem dX0_isSo_115 : decode cX0_isSo 115 = .ok (.ifCond .ne 7, 3) := by decide +kernel
theorem dX0_isSo_118 : decode cX0_isSo 118 = .ok (.iconst 1, 1) := by decide +kernel
theorem dX0_isSo_119 : decode cX0_isSo 119 = .ok (.goto 4, 3) := by decide +kernel
theorem dX0_isSo_122 : decode cX0_isSo 122 = .ok (.iconst 0, 1) := by decide +kernel
theorem dX0_isSo_123 : decode cX0_isSo 123 = .ok (.ireturn, 1) := by decide +kernel
theorem dX0_isSo_124 : decode cX0_isSo 124 = .ok (.lload_n 1, 1) := by decide +kernel
theorem dX0_isSo_125 : decode cX0_isSo 125 = .ok (.lload_n 3, 1) := by decide +kernel
theorem dX0_isSo_126 : decode cX0_isSo 126 = .ok (.lcmp, 1) := by decide +kernel
theorem dX0_isSo_127 : decode cX0_isSo 127 = .ok (.ifCond .eq 7, 3) := by decide +kernel
theorem dX0_isSo_130 : decode cX0_isSo 130 = .ok (.iconst 1, 1) := by decide +kernel
theorem dX0_isSo_131 : decode cX0_isSo 131 = .ok (.goto 4, 3) := by decide +kernel
theorem dX0_isSo_134 : decode cX0_isSo 134 = .ok (.iconst 0, 1) := by decide +kernel
theorem dX0_isSo_135 : decode cX0_isSo 135 = .ok (.ireturn, 1) := by decide +kernel
theorem dX0_isSo_136 : decode cX0_isSo 136 = .ok (.lload_n 1, 1) := by decide +kernel
theorem dX0_isSo_137 : decode cX0_isSo 137 = .ok (.lload_n 3, 1) := by decide +kernel
theorem dX0_isSo_138 : decode cX0_isSo 138 = .ok (.land, 1) := by decide +kernel
theorem dX0_isSo_139 : decode cX0_isSo 139 = .ok (.lconst 0, 1) := by decide +kernel
theorem dX0_isSo_140 : decode cX0_isSo 140 = .ok (.lcmp, 1) := by decide +kernel
theorem dX0_isSo_141 : decode cX0_isSo 141 = .ok (.ifCond .eq 7, 3) := by decide +kernel
theorem dX0_isSo_144 : decode cX0_isSo 144 = .ok (.iconst 1, 1) := by decide +kernel
theorem dX0_isSo_145 : decode cX0_isSo 145 = .ok (.goto 4, 3) := by decide +kernel
theorem dX0_isSo_148 : decode cX0_isSo 148 = .ok (.iconst 0, 1) := by decide +kernel
theorem dX0_isSo_149 : decode cX0_isSo 149 = .ok (.ireturn, 1) := by decide +kernel
theorem dX0_isSo_150 : decode cX0_isSo 150 = .ok (.lload_n 1, 1) := by decide +kernel
theorem dX0_isSo_151 : decode cX0_isSo 151 = .ok (.lload_n 3, 1) := by decide +kernel
theorem dX0_isSo_152 : decode cX0_isSo 152 = .ok (.lor, 1) := by decide +kernel
theorem dX0_isSo_153 : decode cX0_isSo 153 = .ok (.lconst 0, 1) := by decide +kernel
theorem dX0_isSo_154 : decode cX0_isSo 154 = .ok (.lcmp, 1) := by decide +kernel
theorem dX0_isSo_155 : decode cX0_isSo 155 = .ok (.ifCond .eq 7, 3) := by decide +kernel
theorem dX0_isSo_158 : decode cX0_isSo 158 = .ok (.iconst 1, 1) := by decide +kernel
theorem dX0_isSo_159 : decode cX0_isSo 159 = .ok (.goto 4, 3) := by decide +kernel
theorem dX0_isSo_162 : decode cX0_isSo 162 = .ok (.iconst 0, 1) := by decide +kernel
theorem dX0_isSo_163 : decode cX0_isSo 163 = .ok (.ireturn, 1) := by decide +kernel
theorem dX0_bounded_0 : decode cX0_bounded 0 = .ok (.lload_n 0, 1) := by decide +kernel
theorem dX0_bounded_1 : decode cX0_bounded 1 = .ok (.ldc2_w 50, 3) := by decide +kernel
theorem dX0_bounded_4 : decode cX0_bounded 4 = .ok (.lcmp, 1) := by decide +kernel
theorem dX0_bounded_5 : decode cX0_bounded 5 = .ok (.ifCond .le 6, 3) := by decide +kernel
theorem dX0_bounded_8 : decode cX0_bounded 8 = .ok (.ldc 52, 2) := by decide +kernel
theorem dX0_bounded_10 : decode cX0_bounded 10 = .ok (.ireturn, 1) := by decide +kernel
theorem dX0_bounded_11 : decode cX0_bounded 11 = .ok (.lload_n 0, 1) := by decide +kernel
theorem dX0_bounded_12 : decode cX0_bounded 12 = .ok (.ldc2_w 53, 3) := by decide +kernel
theorem dX0_bounded_15 : decode cX0_bounded 15 = .ok (.lcmp, 1) := by decide +kernel
theorem dX0_bounded_16 : decode cX0_bounded 16 = .ok (.ifCond .ge 8, 3) := by decide +kernel
theorem dX0_bounded_19 : decode cX0_bounded 19 = .ok (.ldc 55, 2) := by decide +kernel
theorem dX0_bounded_21 : decode cX0_bounded 21 = .ok (.goto 5, 3) := by decide +kernel
theorem dX0_bounded_24 : decode cX0_bounded 24 = .ok (.lload_n 0, 1) := by decide +kernel
theorem dX0_bounded_25 : decode cX0_bounded 25 = .ok (.l2i, 1) := by decide +kernel
theorem dX0_bounded_26 : decode cX0_bounded 26 = .ok (.ireturn, 1) := by decide +kernel
theorem dX1_init_0 : decode cX1_init 0 = .ok (.aload_n 0, 1) := by decide +kernel
theorem dX1_init_1 : decode cX1_init 1 = .ok (.invokespecial 3, 3) := by decide +kernel
theorem dX1_init_4 : decode cX1_init 4 = .ok (.aload_n 0, 1) := by decide +kernel
theorem dX1_init_5 : decode cX1_init 5 = .ok (.new 9, 3) := by decide +kernel
theorem dX1_init_8 : decode cX1_init 8 = .ok (.dup, 1) := by decide +kernel
theorem dX1_init_9 : decode cX1_init 9 = .ok (.invokespecial 11, 3) := by decide +kernel
theorem dX1_init_12 : decode cX1_init 12 = .ok (.putfield 12, 3) := by decide +kernel
theorem dX1_init_15 : decode cX1_init 15 = .ok (.aload_n 0, 1) := by decide +kernel
theorem dX1_init_16 : decode cX1_init 16 = .ok (.iconst 4, 1) := by decide +kernel
theorem dX1_init_17 : decode cX1_init 17 = .ok (.anewarray 18, 3) := by decide +kernel
theorem dX1_init_20 : decode cX1_init 20 = .ok (.putfield 20, 3) := by decide +kernel
theorem dX1_init_23 : decode cX1_init 23 = .ok (.aload_n 0, 1) := by decide +kernel
theorem dX1_init_24 : decode cX1_init 24 = .ok (.new 18, 3) := by decide +kernel
theorem dX1_init_27 : decode cX1_init 27 = .ok (.dup, 1) := by decide +kernel
theorem dX1_init_28 : decode cX1_init 28 = .ok (.invokespecial 24, 3) := by decide +kernel
theorem dX1_init_31 : decode cX1_init 31 = .ok (.putfield 25, 3) := by decide +kernel
theorem dX1_init_34 : decode cX1_init 34 = .ok (.aload_n 0, 1) := by decide +kernel
theorem dX1_init_35 : decode cX1_init 35 = .ok (.new 29, 3) := by decide +kernel
theorem dX1_init_38 : decode cX1_init 38 = .ok (.dup, 1) := by decide +kernel
theorem dX1_init_39 : decode cX1_init 39 = .ok (.invokespecial 31, 3) := by decide +kernel
theorem dX1_init_42 : decode cX1_init 42 = .ok (.putfield 32, 3) := by decide +kernel
theorem dX1_init_45 : decode cX1_init 45 = .ok (.aload_n 0, 1) := by decide +kernel
theorem dX1_init_46 : decode cX1_init 46 = .ok (.iconst 2, 1) := by decide +kernel
theorem dX1_init_47 : decode cX1_init 47 = .ok (.sipush 2000, 3) := by decide +kernel
theorem dX1_init_50 : decode cX1_init 50 = .ok (.multianewarray 36 2, 4) := by decide +kernel
theorem dX1_init_54 : decode cX1_init 54 = .ok (.putfield 38, 3) := by decide +kernel
theorem dX1_init_57 : decode cX1_init 57 = .ok (.aload_n 0, 1) := by decide +kernel
theorem dX1_init_58 : decode cX1_init 58 = .ok (.iconst 0, 1) := by decide +kernel
theorem dX1_init_59 : decode cX1_init 59 = .ok (.putfield 41, 3) := by decide +kernel
theorem dX1_init_62 : decode cX1_init 62 = .ok (.aload_n 0, 1) := by decide +kernel
theorem dX1_init_63 : decode cX1_init 63 = .ok (.iconst 0, 1) := by decide +kernel
theorem dX1_init_64 : decode cX1_init 64 = .ok (.putfield 45, 3) := by decide +kernel
theorem dX1_init_67 : decode cX1_init 67 = .ok (.aload_n 0, 1) := by decide +kernel
theorem dX1_init_68 : decode cX1_init 68 = .ok (.iconst 0, 1) := by decide +kernel
theorem dX1_init_69 : decode cX1_init 69 = .ok (.putfield 48, 3) := by decide +kernel
theorem dX1_init_72 : decode cX1_init 72 = .ok (.aload_n 0, 1) := by decide +kernel
theorem dX1_init_73 : decode cX1_init 73 = .ok (.iconst 0, 1) := by decide +kernel
theorem dX1_init_74 : decode cX1_init 74 = .ok (.putfield 51, 3) := by decide +kernel
theorem dX1_init_77 : decode cX1_init 77 = .ok (.iconst 0, 1) := by decide +kernel
theorem dX1_init_78 : decode cX1_init 78 = .ok (.istore_n 1, 1) := by decide +kernel
theorem dX1_init_79 : decode cX1_init 79 = .ok (.iload_n 1, 1) := by decide +kernel
theorem dX1_init_80 : decode cX1_init 80 = .ok (.aload_n 0, 1) := by decide +kernel
theorem dX1_init_81 : decode cX1_init 81 = .ok (.getfield 20, 3) := by decide +kernel
theorem dX1_init_84 : decode cX1_init 84 = .ok (.arraylength, 1) := by decide +kernel
theorem dX1_init_85 : decode cX1_init 85 = .ok (.if_icmp .ge 22, 3) := by decide +kernel
theorem dX1_init_88 : decode cX1_init 88 = .ok (.aload_n 0, 1) := by decide +kernel
theorem dX1_init_89 : decode cX1_init 89 = .ok (.getfield 20, 3) := by decide +kernel
theorem dX1_init_92 : decode cX1_init 92 = .ok (.iload_n 1, 1) := by decide +kernel
theorem dX1_init_93 : decode cX1_init 93 = .ok (.new 18, 3) := by decide +kernel
theorem dX1_init_96 : decode cX1_init 96 = .ok (.dup, 1) := by decide +kernel
theorem dX1_init_97 : decode cX1_init 97 = .ok (.invokespecial 24, 3) := by decide +kernel
theorem dX1_init_100 : decode cX1_init 100 = .ok (.aastore, 1) := by decide +kernel
theorem dX1_init_101 : decode cX1_init 101 = .ok (.iinc 1 1, 3) := by decide +kernel
theorem dX1_init_104 : decode cX1_init 104 = .ok (.goto (-25), 3) := by decide +kernel
theorem dX1_init_107 : decode cX1_init 107 = .ok (.return_, 1) := by decide +kernel
theorem dX1_forget_0 : decode cX1_forget 0 = .ok (.aload_n 0, 1) := by decide +kernel
theorem dX1_forget_1 : decode cX1_forget 1 = .ok (.iconst 0, 1) := by decide +kernel
theorem dX1_forget_2 : decode cX1_forget 2 = .ok (.putfield 41, 3) := by decide +kernel
theorem dX1_forget_5 : decode cX1_forget 5 = .ok (.return_, 1) := by decide +kernel
theorem dX1_traceTo_0 : decode cX1_traceTo 0 = .ok (.aload_n 0, 1) := by decide +kernel
theorem dX1_traceTo_1 : decode cX1_traceTo 1 = .ok (.getfield 41, 3) := by decide +kernel
theorem dX1_traceTo_4 : decode cX1_traceTo 4 = .ok (.istore_n 2, 1) := by decide +kernel
theorem dX1_traceTo_5 : decode cX1_traceTo 5 = .ok (.iload_n 2, 1) := by decide +kernel
theorem dX1_traceTo_6 : decode cX1_traceTo 6 = .ok (.iload_n 1, 1) := by decide +kernel
theorem dX1_traceTo_7 : decode cX1_traceTo 7 = .ok (.if_icmp .gt 99, 3) := by decide +kernel
theorem dX1_traceTo_10 : decode cX1_traceTo 10 = .ok (.iload_n 2, 1) := by decide +kernel
theorem dX1_traceTo_11 : decode cX1_traceTo 11 = .ok (.sipush 2000, 3) := by decide +kernel
theorem dX1_traceTo_14 : decode cX1_traceTo 14 = .ok (.if_icmp .ge 92, 3) := by decide +kernel
theorem dX1_traceTo_17 : decode cX1_traceTo 17 = .ok (.iconst 0, 1) := by decide +kernel
theorem dX1_traceTo_18 : decode cX1_traceTo 18 = .ok (.istore_n 3, 1) := by decide +kernel
theorem dX1_traceTo_19 : decode cX1_traceTo 19 = .ok (.iload_n 3, 1) := by decide +kernel
theorem dX1_traceTo_20 : decode cX1_traceTo 20 = .ok (.iconst 2, 1) := by decide +kernel
theorem dX1_traceTo_21 : decode cX1_traceTo 21 = .ok (.if_icmp .ge 72, 3) := by decide +kernel
theorem dX1_traceTo_24 : decode cX1_traceTo 24 = .ok (.aload_n 0, 1) := by decide +kernel
theorem dX1_traceTo_25 : decode cX1_traceTo 25 = .ok (.getfield 12, 3) := by decide +kernel
theorem dX1_traceTo_28 : decode cX1_traceTo 28 = .ok (.getfield 54, 3) := by decide +kernel
theorem dX1_traceTo_31 : decode cX1_traceTo 31 = .ok (.iload_n 3, 1) := by decide +kernel
theorem dX1_traceTo_32 : decode cX1_traceTo 32 = .ok (.aaload, 1) := by decide +kernel
theorem dX1_traceTo_33 : decode cX1_traceTo 33 = .ok (.astore 4, 2) := by decide +kernel
theorem dX1_traceTo_35 : decode cX1_traceTo 35 = .ok (.iload_n 2, 1) := by decide +kernel
theorem dX1_traceTo_36 : decode cX1_traceTo 36 = .ok (.ifCond .le 16, 3) := by decide +kernel
theorem dX1_traceTo_39 : decode cX1_traceTo 39 = .ok (.aload_n 0, 1) := by decide +kernel
theorem dX1_traceTo_40 : decode cX1_traceTo 40 = .ok (.getfield 38, 3) := by decide +kernel
theorem dX1_traceTo_43 : decode cX1_traceTo 43 = .ok (.iload_n 3, 1) := by decide +kernel
theorem dX1_traceTo_44 : decode cX1_traceTo 44 = .ok (.aaload, 1) := by decide +kernel
theorem dX1_traceTo_45 : decode cX1_traceTo 45 = .ok (.iload_n 2, 1) := by decide +kernel
theorem dX1_traceTo_46 : decode cX1_traceTo 46 = .ok (.iconst 1, 1) := by decide +kernel
theorem dX1_traceTo_47 : decode cX1_traceTo 47 = .ok (.isub, 1) := by decide +kernel
theorem dX1_traceTo_48 : decode cX1_traceTo 48 = .ok (.iaload, 1) := by decide +kernel
theorem dX1_traceTo_49 : decode cX1_traceTo 49 = .ok (.goto 4, 3) := by decide +kernel
theorem dX1_traceTo_52 : decode cX1_traceTo 52 = .ok (.iconst 0, 1) := by decide +kernel
theorem dX1_traceTo_53 : decode cX1_traceTo 53 = .ok (.istore 5, 2) := by decide +kernel
theorem dX1_traceTo_55 : decode cX1_traceTo 55 = .ok (.aload_n 0, 1) := by decide +kernel
theorem dX1_traceTo_56 : decode cX1_traceTo 56 = .ok (.getfield 38, 3) := by decide +kernel
theorem dX1_traceTo_59 : decode cX1_traceTo 59 = .ok (.iload_n 3, 1) := by decide +kernel
theorem dX1_traceTo_60 : decode cX1_traceTo 60 = .ok (.aaload, 1) := by decide +kernel
theorem dX1_traceTo_61 : decode cX1_traceTo 61 = .ok (.iload_n 2, 1) := by decide +kernel
theorem dX1_traceTo_62 : decode cX1_traceTo 62 = .ok (.aload 4, 2) := by decide +kernel
theorem dX1_traceTo_64 : decode cX1_traceTo 64 = .ok (.iload 5, 2) := by decide +kernel
theorem dX1_traceTo_66 : decode cX1_traceTo 66 = .ok (.aload_n 0, 1) := by decide +kernel
theorem dX1_traceTo_67 : decode cX1_traceTo 67 = .ok (.getfield 12, 3) := by decide +kernel
theorem dX1_traceTo_70 : decode cX1_traceTo 70 = .ok (.getfield 58, 3) := by decide +kernel
theorem dX1_traceTo_73 : decode cX1_traceTo 73 = .ok (.aload 4, 2) := by decide +kernel
theorem dX1_traceTo_75 : decode cX1_traceTo 75 = .ok (.getfield 62, 3) := by decide +kernel
theorem dX1_traceTo_78 : decode cX1_traceTo 78 = .ok (.aaload, 1) := by decide +kernel
theorem dX1_traceTo_79 : decode cX1_traceTo 79 = .ok (.iload_n 2, 1) := by decide +kernel
theorem dX1_traceTo_80 : decode cX1_traceTo 80 = .ok (.invokevirtual 67, 3) := by decide +kernel
theorem dX1_traceTo_83 : decode cX1_traceTo 83 = .ok (.invokevirtual 73, 3) := by decide +kernel
theorem dX1_traceTo_86 : decode cX1_traceTo 86 = .ok (.iastore, 1) := by decide +kernel
theorem dX1_traceTo_87 : decode cX1_traceTo 87 = .ok (.iinc 3 1, 3) := by decide +kernel
theorem dX1_traceTo_90 : decode cX1_traceTo 90 = .ok (.goto (-71), 3) := by decide +kernel
theorem dX1_traceTo_93 : decode cX1_traceTo 93 = .ok (.aload_n 0, 1) := by decide +kernel
theorem dX1_traceTo_94 : decode cX1_traceTo 94 = .ok (.iload_n 2, 1) := by decide +kernel
theorem dX1_traceTo_95 : decode cX1_traceTo 95 = .ok (.iconst 1, 1) := by decide +kernel
theorem dX1_traceTo_96 : decode cX1_traceTo 96 = .ok (.iadd, 1) := by decide +kernel
theorem dX1_traceTo_97 : decode cX1_traceTo 97 = .ok (.putfield 41, 3) := by decide +kernel
theorem dX1_traceTo_100 : decode cX1_traceTo 100 = .ok (.iinc 2 1, 3) := by decide +kernel
theorem dX1_traceTo_103 : decode cX1_traceTo 103 = .ok (.goto (-98), 3) := by decide +kernel
theorem dX1_traceTo_106 : decode cX1_traceTo 106 = .ok (.return_, 1) := by decide +kernel
theorem dX1_outAt_0 : decode cX1_outAt 0 = .ok (.iload_n 1, 1) := by decide +kernel
theorem dX1_outAt_1 : decode cX1_outAt 1 = .ok (.invokestatic 77, 3) := by decide +kernel
theorem dX1_outAt_4 : decode cX1_outAt 4 = .ok (.ifCond .eq 14, 3) := by decide +kernel
theorem dX1_outAt_7 : decode cX1_outAt 7 = .ok (.iload_n 2, 1) := by decide +kernel
theorem dX1_outAt_8 : decode cX1_outAt 8 = .ok (.iconst 0, 1) := by decide +kernel
theorem dX1_outAt_9 : decode cX1_outAt 9 = .ok (.sipush 1999, 3) := by decide +kernel
theorem dX1_outAt_12 : decode cX1_outAt 12 = .ok (.invokestatic 81, 3) := by decide +kernel
theorem dX1_outAt_15 : decode cX1_outAt 15 = .ok (.ifCond .ne 5, 3) := by decide +kernel
theorem dX1_outAt_18 : decode cX1_outAt 18 = .ok (.iconst 0, 1) := by decide +kernel
theorem dX1_outAt_19 : decode cX1_outAt 19 = .ok (.ireturn, 1) := by decide +kernel
theorem dX1_outAt_20 : decode cX1_outAt 20 = .ok (.aload_n 0, 1) := by decide +kernel
theorem dX1_outAt_21 : decode cX1_outAt 21 = .ok (.iload_n 2, 1) := by decide +kernel
theorem dX1_outAt_22 : decode cX1_outAt 22 = .ok (.invokevirtual 85, 3) := by decide +kernel
theorem dX1_outAt_25 : decode cX1_outAt 25 = .ok (.aload_n 0, 1) := by decide +kernel
theorem dX1_outAt_26 : decode cX1_outAt 26 = .ok (.getfield 38, 3) := by decide +kernel
theorem dX1_outAt_29 : decode cX1_outAt 29 = .ok (.iload_n 1, 1) := by decide +kernel
theorem dX1_outAt_30 : decode cX1_outAt 30 = .ok (.aaload, 1) := by decide +kernel
theorem dX1_outAt_31 : decode cX1_outAt 31 = .ok (.iload_n 2, 1) := by decide +kernel
theorem dX1_outAt_32 : decode cX1_outAt 32 = .ok (.iaload, 1) := by decide +kernel
theorem dX1_outAt_33 : decode cX1_outAt 33 = .ok (.ireturn, 1) := by decide +kernel
theorem dX1_restart_0 : decode cX1_restart 0 = .ok (.aload_n 0, 1) := by decide +kernel
theorem dX1_restart_1 : decode cX1_restart 1 = .ok (.iconst 0, 1) := by decide +kernel
theorem dX1_restart_2 : decode cX1_restart 2 = .ok (.putfield 45, 3) := by decide +kernel
theorem dX1_restart_5 : decode cX1_restart 5 = .ok (.aload_n 0, 1) := by decide +kernel
theorem dX1_restart_6 : decode cX1_restart 6 = .ok (.iconst 0, 1) := by decide +kernel
theorem dX1_restart_7 : decode cX1_restart 7 = .ok (.putfield 48, 3) := by decide +kernel
theorem dX1_restart_10 : decode cX1_restart 10 = .ok (.aload_n 0, 1) := by decide +kernel
theorem dX1_restart_11 : decode cX1_restart 11 = .ok (.iconst 0, 1) := by decide +kernel
theorem dX1_restart_12 : decode cX1_restart 12 = .ok (.putfield 51, 3) := by decide +kernel
theorem dX1_restart_15 : decode cX1_restart 15 = .ok (.return_, 1) := by decide +kernel
theorem dX1_told_0 : decode cX1_told 0 = .ok (.aload_n 0, 1) := by decide +kernel
theorem dX1_told_1 : decode cX1_told 1 = .ok (.getfield 12, 3) := by decide +kernel
theorem dX1_told_4 : decode cX1_told 4 = .ok (.getfield 89, 3) := by decide +kernel
theorem dX1_told_7 : decode cX1_told 7 = .ok (.iconst 0, 1) := by decide +kernel
theorem dX1_told_8 : decode cX1_told 8 = .ok (.aload_n 0, 1) := by decide +kernel
theorem dX1_told_9 : decode cX1_told 9 = .ok (.getfield 20, 3) := by decide +kernel
theorem dX1_told_12 : decode cX1_told 12 = .ok (.arraylength, 1) := by decide +kernel
theorem dX1_told_13 : decode cX1_told 13 = .ok (.iconst 1, 1) := by decide +kernel
theorem dX1_told_14 : decode cX1_told 14 = .ok (.isub, 1) := by decide +kernel
theorem dX1_told_15 : decode cX1_told 15 = .ok (.invokestatic 81, 3) := by decide +kernel
theorem dX1_told_18 : decode cX1_told 18 = .ok (.ifCond .eq 18, 3) := by decide +kernel
theorem dX1_told_21 : decode cX1_told 21 = .ok (.aload_n 0, 1) := by decide +kernel
theorem dX1_told_22 : decode cX1_told 22 = .ok (.getfield 20, 3) := by decide +kernel
theorem dX1_told_25 : decode cX1_told 25 = .ok (.aload_n 0, 1) := by decide +kernel
theorem dX1_told_26 : decode cX1_told 26 = .ok (.getfield 12, 3) := by decide +kernel
theorem dX1_told_29 : decode cX1_told 29 = .ok (.getfield 89, 3) := by decide +kernel
theorem dX1_told_32 : decode cX1_told 32 = .ok (.aaload, 1) := by decide +kernel
theorem dX1_told_33 : decode cX1_told 33 = .ok (.goto 7, 3) := by decide +kernel
theorem dX1_told_36 : decode cX1_told 36 = .ok (.aload_n 0, 1) := by decide +kernel
theorem dX1_told_37 : decode cX1_told 37 = .ok (.getfield 25, 3) := by decide +kernel
theorem dX1_told_40 : decode cX1_told 40 = .ok (.areturn, 1) := by decide +kernel
theorem dX1_next_0 : decode cX1_next 0 = .ok (.aload_n 0, 1) := by decide +kernel
theorem dX1_next_1 : decode cX1_next 1 = .ok (.invokevirtual 92, 3) := by decide +kernel
theorem dX1_next_4 : decode cX1_next 4 = .ok (.astore_n 2, 1) := by decide +kernel
theorem dX1_next_5 : decode cX1_next 5 = .ok (.aload_n 0, 1) := by decide +kernel
theorem dX1_next_6 : decode cX1_next 6 = .ok (.getfield 45, 3) := by decide +kernel
theorem dX1_next_9 : decode cX1_next 9 = .ok (.istore_n 3, 1) := by decide +kernel
theorem dX1_next_10 : decode cX1_next 10 = .ok (.iload_n 3, 1) := by decide +kernel
theorem dX1_next_11 : decode cX1_next 11 = .ok (.iload_n 1, 1) := by decide +kernel
theorem dX1_next_12 : decode cX1_next 12 = .ok (.if_icmp .ge 108, 3) := by decide +kernel
theorem dX1_next_15 : decode cX1_next 15 = .ok (.iload_n 3, 1) := by decide +kernel
theorem dX1_next_16 : decode cX1_next 16 = .ok (.sipush 2000, 3) := by decide +kernel
theorem dX1_next_19 : decode cX1_next 19 = .ok (.if_icmp .ge 101, 3) := by decide +kernel
theorem dX1_next_22 : decode cX1_next 22 = .ok (.aload_n 2, 1) := by decide +kernel
theorem dX1_next_23 : decode cX1_next 23 = .ok (.invokevirtual 96, 3) := by decide +kernel
theorem dX1_next_26 : decode cX1_next 26 = .ok (.ifCond .ne 13, 3) := by decide +kernel
theorem dX1_next_29 : decode cX1_next 29 = .ok (.aload_n 0, 1) := by decide +kernel
theorem dX1_next_30 : decode cX1_next 30 = .ok (.iload_n 3, 1) := by decide +kernel
theorem dX1_next_31 : decode cX1_next 31 = .ok (.invokevirtual 85, 3) := by decide +kernel
theorem dX1_next_34 : decode cX1_next 34 = .ok (.aload_n 0, 1) := by decide +kernel
theorem dX1_next_35 : decode cX1_next 35 = .ok (.iload_n 3, 1) := by decide +kernel
theorem dX1_next_36 : decode cX1_next 36 = .ok (.invokevirtual 100, 3) := by decide +kernel
theorem dX1_next_39 : decode cX1_next 39 = .ok (.aload_n 2, 1) := by decide +kernel
theorem dX1_next_40 : decode cX1_next 40 = .ok (.getfield 103, 3) := by decide +kernel
theorem dX1_next_43 : decode cX1_next 43 = .ok (.ifCond .eq 21, 3) := by decide +kernel
theorem dX1_next_46 : decode cX1_next 46 = .ok (.aload_n 0, 1) := by decide +kernel
theorem dX1_next_47 : decode cX1_next 47 = .ok (.getfield 32, 3) := by decide +kernel
theorem dX1_next_50 : decode cX1_next 50 = .ok (.aload_n 2, 1) := by decide +kernel
theorem dX1_next_51 : decode cX1_next 51 = .ok (.getfield 106, 3) := by decide +kernel
theorem dX1_next_54 : decode cX1_next 54 = .ok (.aload_n 2, 1) := by decide +kernel
theorem dX1_next_55 : decode cX1_next 55 = .ok (.getfield 103, 3) := by decide +kernel
theorem dX1_next_58 : decode cX1_next 58 = .ok (.invokevirtual 110, 3) := by decide +kernel
theorem dX1_next_61 : decode cX1_next 61 = .ok (.ifCond .eq 53, 3) := by decide +kernel
theorem dX1_next_64 : decode cX1_next 64 = .ok (.aload_n 0, 1) := by decide +kernel
theorem dX1_next_65 : decode cX1_next 65 = .ok (.iload_n 3, 1) := by decide +kernel
theorem dX1_next_66 : decode cX1_next 66 = .ok (.aload_n 0, 1) := by decide +kernel
theorem dX1_next_67 : decode cX1_next 67 = .ok (.getfield 12, 3) := by decide +kernel
theorem dX1_next_70 : decode cX1_next 70 = .ok (.getfield 114, 3) := by decide +kernel
theorem dX1_next_73 : decode cX1_next 73 = .ok (.iadd, 1) := by decide +kernel
theorem dX1_next_74 : decode cX1_next 74 = .ok (.putfield 51, 3) := by decide +kernel
theorem dX1_next_77 : decode cX1_next 77 = .ok (.aload_n 0, 1) := by decide +kernel
theorem dX1_next_78 : decode cX1_next 78 = .ok (.aload_n 0, 1) := by decide +kernel
theorem dX1_next_79 : decode cX1_next 79 = .ok (.getfield 51, 3) := by decide +kernel
theorem dX1_next_82 : decode cX1_next 82 = .ok (.bipush 20, 2) := by decide +kernel
theorem dX1_next_84 : decode cX1_next 84 = .ok (.aload_n 0, 1) := by decide +kernel
theorem dX1_next_85 : decode cX1_next 85 = .ok (.getfield 12, 3) := by decide +kernel
theorem dX1_next_88 : decode cX1_next 88 = .ok (.getfield 117, 3) := by decide +kernel
theorem dX1_next_91 : decode cX1_next 91 = .ok (.imul, 1) := by decide +kernel
theorem dX1_next_92 : decode cX1_next 92 = .ok (.iadd, 1) := by decide +kernel
theorem dX1_next_93 : decode cX1_next 93 = .ok (.aload_n 0, 1) := by decide +kernel
theorem dX1_next_94 : decode cX1_next 94 = .ok (.aload_n 2, 1) := by decide +kernel
theorem dX1_next_95 : decode cX1_next 95 = .ok (.invokevirtual 120, 3) := by decide +kernel
theorem dX1_next_98 : decode cX1_next 98 = .ok (.iadd, 1) := by decide +kernel
theorem dX1_next_99 : decode cX1_next 99 = .ok (.putfield 45, 3) := by decide +kernel
theorem dX1_next_102 : decode cX1_next 102 = .ok (.aload_n 0, 1) := by decide +kernel
theorem dX1_next_103 : decode cX1_next 103 = .ok (.dup, 1) := by decide +kernel
theorem dX1_next_104 : decode cX1_next 104 = .ok (.getfield 48, 3) := by decide +kernel
theorem dX1_next_107 : decode cX1_next 107 = .ok (.iconst 1, 1) := by decide +kernel
theorem dX1_next_108 : decode cX1_next 108 = .ok (.iadd, 1) := by decide +kernel
theorem dX1_next_109 : decode cX1_next 109 = .ok (.putfield 48, 3) := by decide +kernel
theorem dX1_next_112 : decode cX1_next 112 = .ok (.iconst 1, 1) := by decide +kernel
theorem dX1_next_113 : decode cX1_next 113 = .ok (.ireturn, 1) := by decide +kernel
theorem dX1_next_114 : decode cX1_next 114 = .ok (.iinc 3 1, 3) := by decide +kernel
theorem dX1_next_117 : decode cX1_next 117 = .ok (.goto (-107), 3) := by decide +kernel
theorem dX1_next_120 : decode cX1_next 120 = .ok (.iconst 0, 1) := by decide +kernel
theorem dX1_next_121 : decode cX1_next 121 = .ok (.ireturn, 1) := by decide +kernel
theorem dX1_look_0 : decode cX1_look 0 = .ok (.iload_n 1, 1) := by decide +kernel
theorem dX1_look_1 : decode cX1_look 1 = .ok (.iconst 0, 1) := by decide +kernel
theorem dX1_look_2 : decode cX1_look 2 = .ok (.sipush 1999, 3) := by decide +kernel
theorem dX1_look_5 : decode cX1_look 5 = .ok (.invokestatic 81, 3) := by decide +kernel
theorem dX1_look_8 : decode cX1_look 8 = .ok (.ifCond .eq 90, 3) := by decide +kernel
theorem dX1_look_11 : decode cX1_look 11 = .ok (.aload_n 0, 1) := by decide +kernel
theorem dX1_look_12 : decode cX1_look 12 = .ok (.getfield 32, 3) := by decide +kernel
theorem dX1_look_15 : decode cX1_look 15 = .ok (.aload_n 0, 1) := by decide +kernel
theorem dX1_look_16 : decode cX1_look 16 = .ok (.getfield 38, 3) := by decide +kernel
theorem dX1_look_19 : decode cX1_look 19 = .ok (.iconst 0, 1) := by decide +kernel
theorem dX1_look_20 : decode cX1_look 20 = .ok (.aaload, 1) := by decide +kernel
theorem dX1_look_21 : decode cX1_look 21 = .ok (.iload_n 1, 1) := by decide +kernel
theorem dX1_look_22 : decode cX1_look 22 = .ok (.iaload, 1) := by decide +kernel
theorem dX1_look_23 : decode cX1_look 23 = .ok (.putfield 124, 3) := by decide +kernel
theorem dX1_look_26 : decode cX1_look 26 = .ok (.aload_n 0, 1) := by decide +kernel
theorem dX1_look_27 : decode cX1_look 27 = .ok (.getfield 32, 3) := by decide +kernel
theorem dX1_look_30 : decode cX1_look 30 = .ok (.iload_n 1, 1) := by decide +kernel
theorem dX1_look_31 : decode cX1_look 31 = .ok (.ifCond .le 16, 3) := by decide +kernel
theorem dX1_look_34 : decode cX1_look 34 = .ok (.aload_n 0, 1) := by decide +kernel
theorem dX1_look_35 : decode cX1_look 35 = .ok (.getfield 38, 3) := by decide +kernel
theorem dX1_look_38 : decode cX1_look 38 = .ok (.iconst 0, 1) := by decide +kernel
theorem dX1_look_39 : decode cX1_look 39 = .ok (.aaload, 1) := by decide +kernel
theorem dX1_look_40 : decode cX1_look 40 = .ok (.iload_n 1, 1) := by decide +kernel
theorem dX1_look_41 : decode cX1_look 41 = .ok (.iconst 1, 1) := by decide +kernel
theorem dX1_look_42 : decode cX1_look 42 = .ok (.isub, 1) := by decide +kernel
theorem dX1_look_43 : decode cX1_look 43 = .ok (.iaload, 1) := by decide +kernel
theorem dX1_look_44 : decode cX1_look 44 = .ok (.goto 4, 3) := by decide +kernel
theorem dX1_look_47 : decode cX1_look 47 = .ok (.iconst 0, 1) := by decide +kernel
theorem dX1_look_48 : decode cX1_look 48 = .ok (.putfield 127, 3) := by decide +kernel
theorem dX1_look_51 : decode cX1_look 51 = .ok (.aload_n 0, 1) := by decide +kernel
theorem dX1_look_52 : decode cX1_look 52 = .ok (.getfield 32, 3) := by decide +kernel
theorem dX1_look_55 : decode cX1_look 55 = .ok (.aload_n 0, 1) := by decide +kernel
theorem dX1_look_56 : decode cX1_look 56 = .ok (.getfield 38, 3) := by decide +kernel
theorem dX1_look_59 : decode cX1_look 59 = .ok (.iconst 1, 1) := by decide +kernel
theorem dX1_look_60 : decode cX1_look 60 = .ok (.aaload, 1) := by decide +kernel
theorem dX1_look_61 : decode cX1_look 61 = .ok (.iload_n 1, 1) := by decide +kernel
theorem dX1_look_62 : decode cX1_look 62 = .ok (.iaload, 1) := by decide +kernel
theorem dX1_look_63 : decode cX1_look 63 = .ok (.putfield 130, 3) := by decide +kernel
theorem dX1_look_66 : decode cX1_look 66 = .ok (.aload_n 0, 1) := by decide +kernel
theorem dX1_look_67 : decode cX1_look 67 = .ok (.getfield 32, 3) := by decide +kernel
theorem dX1_look_70 : decode cX1_look 70 = .ok (.iload_n 1, 1) := by decide +kernel
theorem dX1_look_71 : decode cX1_look 71 = .ok (.putfield 133, 3) := by decide +kernel
theorem dX1_look_74 : decode cX1_look 74 = .ok (.aload_n 0, 1) := by decide +kernel
theorem dX1_look_75 : decode cX1_look 75 = .ok (.getfield 32, 3) := by decide +kernel
theorem dX1_look_78 : decode cX1_look 78 = .ok (.aload_n 0, 1) := by decide +kernel
theorem dX1_look_79 : decode cX1_look 79 = .ok (.getfield 48, 3) := by decide +kernel
theorem dX1_look_82 : decode cX1_look 82 = .ok (.putfield 136, 3) := by decide +kernel
theorem dX1_look_85 : decode cX1_look 85 = .ok (.aload_n 0, 1) := by decide +kernel
theorem dX1_look_86 : decode cX1_look 86 = .ok (.getfield 32, 3) := by decide +kernel
theorem dX1_look_89 : decode cX1_look 89 = .ok (.iload_n 1, 1) := by decide +kernel
theorem dX1_look_90 : decode cX1_look 90 = .ok (.aload_n 0, 1) := by decide +kernel
theorem dX1_look_91 : decode cX1_look 91 = .ok (.getfield 45, 3) := by decide +kernel
theorem dX1_look_94 : decode cX1_look 94 = .ok (.isub, 1) := by decide +kernel
theorem dX1_look_95 : decode cX1_look 95 = .ok (.putfield 137, 3) := by decide +kernel
theorem dX1_look_98 : decode cX1_look 98 = .ok (.return_, 1) := by decide +kernel
theorem dX1_heldBy_0 : decode cX1_heldBy 0 = .ok (.aload_n 1, 1) := by decide +kernel
theorem dX1_heldBy_1 : decode cX1_heldBy 1 = .ok (.getfield 140, 3) := by decide +kernel
theorem dX1_heldBy_4 : decode cX1_heldBy 4 = .ok (.ifCond .ne 5, 3) := by decide +kernel
theorem dX1_heldBy_7 : decode cX1_heldBy 7 = .ok (.iconst 0, 1) := by decide +kernel
theorem dX1_heldBy_8 : decode cX1_heldBy 8 = .ok (.ireturn, 1) := by decide +kernel
theorem dX1_heldBy_9 : decode cX1_heldBy 9 = .ok (.iconst 0, 1) := by decide +kernel
theorem dX1_heldBy_10 : decode cX1_heldBy 10 = .ok (.aload_n 0, 1) := by decide +kernel
theorem dX1_heldBy_11 : decode cX1_heldBy 11 = .ok (.getfield 32, 3) := by decide +kernel
theorem dX1_heldBy_14 : decode cX1_heldBy 14 = .ok (.aload_n 1, 1) := by decide +kernel
theorem dX1_heldBy_15 : decode cX1_heldBy 15 = .ok (.getfield 143, 3) := by decide +kernel
theorem dX1_heldBy_18 : decode cX1_heldBy 18 = .ok (.aload_n 1, 1) := by decide +kernel
theorem dX1_heldBy_19 : decode cX1_heldBy 19 = .ok (.getfield 140, 3) := by decide +kernel
theorem dX1_heldBy_22 : decode cX1_heldBy 22 = .ok (.invokevirtual 110, 3) := by decide +kernel
theorem dX1_heldBy_25 : decode cX1_heldBy 25 = .ok (.sipush 9999, 3) := by decide +kernel
theorem dX1_heldBy_28 : decode cX1_heldBy 28 = .ok (.invokestatic 146, 3) := by decide +kernel
theorem dX1_heldBy_31 : decode cX1_heldBy 31 = .ok (.invokestatic 151, 3) := by decide +kernel
theorem dX1_heldBy_34 : decode cX1_heldBy 34 = .ok (.ireturn, 1) := by decide +kernel
theorem dX1_draw_0 : decode cX1_draw 0 = .ok (.aload_n 1, 1) := by decide +kernel
theorem dX1_draw_1 : decode cX1_draw 1 = .ok (.invokevirtual 154, 3) := by decide +kernel
theorem dX1_draw_4 : decode cX1_draw 4 = .ok (.aload_n 0, 1) := by decide +kernel
theorem dX1_draw_5 : decode cX1_draw 5 = .ok (.iload_n 2, 1) := by decide +kernel
theorem dX1_draw_6 : decode cX1_draw 6 = .ok (.iconst 1, 1) := by decide +kernel
theorem dX1_draw_7 : decode cX1_draw 7 = .ok (.isub, 1) := by decide +kernel
theorem dX1_draw_8 : decode cX1_draw 8 = .ok (.invokevirtual 85, 3) := by decide +kernel
theorem dX1_draw_11 : decode cX1_draw 11 = .ok (.aload_n 0, 1) := by decide +kernel
theorem dX1_draw_12 : decode cX1_draw 12 = .ok (.invokevirtual 159, 3) := by decide +kernel
theorem dX1_draw_15 : decode cX1_draw 15 = .ok (.iconst 0, 1) := by decide +kernel
theorem dX1_draw_16 : decode cX1_draw 16 = .ok (.istore_n 3, 1) := by decide +kernel
theorem dX1_draw_17 : decode cX1_draw 17 = .ok (.iload_n 3, 1) := by decide +kernel
theorem dX1_draw_18 : decode cX1_draw 18 = .ok (.iload_n 2, 1) := by decide +kernel
theorem dX1_draw_19 : decode cX1_draw 19 = .ok (.if_icmp .ge 42, 3) := by decide +kernel
theorem dX1_draw_22 : decode cX1_draw 22 = .ok (.aload_n 0, 1) := by decide +kernel
theorem dX1_draw_23 : decode cX1_draw 23 = .ok (.iload_n 2, 1) := by decide +kernel
theorem dX1_draw_24 : decode cX1_draw 24 = .ok (.invokevirtual 162, 3) := by decide +kernel
theorem dX1_draw_27 : decode cX1_draw 27 = .ok (.ifCond .eq 34, 3) := by decide +kernel
theorem dX1_draw_30 : decode cX1_draw 30 = .ok (.aload_n 0, 1) := by decide +kernel
theorem dX1_draw_31 : decode cX1_draw 31 = .ok (.getfield 51, 3) := by decide +kernel
theorem dX1_draw_34 : decode cX1_draw 34 = .ok (.iload_n 2, 1) := by decide +kernel
theorem dX1_draw_35 : decode cX1_draw 35 = .ok (.if_icmp .ge 20, 3) := by decide +kernel
theorem dX1_draw_38 : decode cX1_draw 38 = .ok (.aload_n 1, 1) := by decide +kernel
theorem dX1_draw_39 : decode cX1_draw 39 = .ok (.aload_n 0, 1) := by decide +kernel
theorem dX1_draw_40 : decode cX1_draw 40 = .ok (.getfield 12, 3) := by decide +kernel
theorem dX1_draw_43 : decode cX1_draw 43 = .ok (.getfield 165, 3) := by decide +kernel
theorem dX1_draw_46 : decode cX1_draw 46 = .ok (.invokevirtual 168, 3) := by decide +kernel
theorem dX1_draw_49 : decode cX1_draw 49 = .ok (.aload_n 0, 1) := by decide +kernel
theorem dX1_draw_50 : decode cX1_draw 50 = .ok (.aload_n 1, 1) := by decide +kernel
theorem dX1_draw_51 : decode cX1_draw 51 = .ok (.iload_n 2, 1) := by decide +kernel
theorem dX1_draw_52 : decode cX1_draw 52 = .ok (.invokevirtual 171, 3) := by decide +kernel
theorem dX1_draw_55 : decode cX1_draw 55 = .ok (.iinc 3 1, 3) := by decide +kernel
theorem dX1_draw_58 : decode cX1_draw 58 = .ok (.goto (-41), 3) := by decide +kernel
theorem dX1_draw_61 : decode cX1_draw 61 = .ok (.return_, 1) := by decide +kernel
theorem dX1_drawSweep_0 : decode cX1_drawSweep 0 = .ok (.iconst 0, 1) := by decide +kernel
theorem dX1_drawSweep_1 : decode cX1_drawSweep 1 = .ok (.istore_n 3, 1) := by decide +kernel
theorem dX1_drawSweep_2 : decode cX1_drawSweep 2 = .ok (.iload_n 3, 1) := by decide +kernel
theorem dX1_drawSweep_3 : decode cX1_drawSweep 3 = .ok (.bipush 20, 2) := by decide +kernel
theorem dX1_drawSweep_5 : decode cX1_drawSweep 5 = .ok (.if_icmp .ge 51, 3) := by decide +kernel
theorem dX1_drawSweep_8 : decode cX1_drawSweep 8 = .ok (.aload_n 0, 1) := by decide +kernel
theorem dX1_drawSweep_9 : decode cX1_drawSweep 9 = .ok (.getfield 51, 3) := by decide +kernel
theorem dX1_drawSweep_12 : decode cX1_drawSweep 12 = .ok (.iload_n 3, 1) := by decide +kernel
theorem dX1_drawSweep_13 : decode cX1_drawSweep 13 = .ok (.aload_n 0, 1) := by decide +kernel
theorem dX1_drawSweep_14 : decode cX1_drawSweep 14 = .ok (.getfield 12, 3) := by decide +kernel
theorem dX1_drawSweep_17 : decode cX1_drawSweep 17 = .ok (.getfield 117, 3) := by decide +kernel
theorem dX1_drawSweep_20 : decode cX1_drawSweep 20 = .ok (.imul, 1) := by decide +kernel
theorem dX1_drawSweep_21 : decode cX1_drawSweep 21 = .ok (.iadd, 1) := by decide +kernel
theorem dX1_drawSweep_22 : decode cX1_drawSweep 22 = .ok (.istore 4, 2) := by decide +kernel
theorem dX1_drawSweep_24 : decode cX1_drawSweep 24 = .ok (.iload 4, 2) := by decide +kernel
theorem dX1_drawSweep_26 : decode cX1_drawSweep 26 = .ok (.iload_n 2, 1) := by decide +kernel
theorem dX1_drawSweep_27 : decode cX1_drawSweep 27 = .ok (.if_icmp .ge 23, 3) := by decide +kernel
theorem dX1_drawSweep_30 : decode cX1_drawSweep 30 = .ok (.iload 4, 2) := by decide +kernel
theorem dX1_drawSweep_32 : decode cX1_drawSweep 32 = .ok (.iconst 0, 1) := by decide +kernel
theorem dX1_drawSweep_33 : decode cX1_drawSweep 33 = .ok (.sipush 1999, 3) := by decide +kernel
theorem dX1_drawSweep_36 : decode cX1_drawSweep 36 = .ok (.invokestatic 81, 3) := by decide +kernel
theorem dX1_drawSweep_39 : decode cX1_drawSweep 39 = .ok (.ifCond .eq 11, 3) := by decide +kernel
theorem dX1_drawSweep_42 : decode cX1_drawSweep 42 = .ok (.aload_n 0, 1) := by decide +kernel
theorem dX1_drawSweep_43 : decode cX1_drawSweep 43 = .ok (.aload_n 1, 1) := by decide +kernel
theorem dX1_drawSweep_44 : decode cX1_drawSweep 44 = .ok (.iload_n 3, 1) := by decide +kernel
theorem dX1_drawSweep_45 : decode cX1_drawSweep 45 = .ok (.iload 4, 2) := by decide +kernel
theorem dX1_drawSweep_47 : decode cX1_drawSweep 47 = .ok (.invokevirtual 175, 3) := by decide +kernel
theorem dX1_drawSweep_50 : decode cX1_drawSweep 50 = .ok (.iinc 3 1, 3) := by decide +kernel
theorem dX1_drawSweep_53 : decode cX1_drawSweep 53 = .ok (.goto (-51), 3) := by decide +kernel
theorem dX1_drawSweep_56 : decode cX1_drawSweep 56 = .ok (.return_, 1) := by decide +kernel
theorem dX1_drawDot_0 : decode cX1_drawDot 0 = .ok (.aload_n 0, 1) := by decide +kernel
theorem dX1_drawDot_1 : decode cX1_drawDot 1 = .ok (.getfield 12, 3) := by decide +kernel
theorem dX1_drawDot_4 : decode cX1_drawDot 4 = .ok (.getfield 179, 3) := by decide +kernel
theorem dX1_drawDot_7 : decode cX1_drawDot 7 = .ok (.iconst 3, 1) := by decide +kernel
theorem dX1_drawDot_8 : decode cX1_drawDot 8 = .ok (.if_icmp .ne 58, 3) := by decide +kernel
theorem dX1_drawDot_11 : decode cX1_drawDot 11 = .ok (.aload_n 0, 1) := by decide +kernel
theorem dX1_drawDot_12 : decode cX1_drawDot 12 = .ok (.getfield 12, 3) := by decide +kernel
theorem dX1_drawDot_15 : decode cX1_drawDot 15 = .ok (.getfield 54, 3) := by decide +kernel
theorem dX1_drawDot_18 : decode cX1_drawDot 18 = .ok (.iconst 0, 1) := by decide +kernel
theorem dX1_drawDot_19 : decode cX1_drawDot 19 = .ok (.aaload, 1) := by decide +kernel
theorem dX1_drawDot_20 : decode cX1_drawDot 20 = .ok (.bipush 10, 2) := by decide +kernel
theorem dX1_drawDot_22 : decode cX1_drawDot 22 = .ok (.aload_n 0, 1) := by decide +kernel
theorem dX1_drawDot_23 : decode cX1_drawDot 23 = .ok (.getfield 38, 3) := by decide +kernel
theorem dX1_drawDot_26 : decode cX1_drawDot 26 = .ok (.iconst 0, 1) := by decide +kernel
theorem dX1_drawDot_27 : decode cX1_drawDot 27 = .ok (.aaload, 1) := by decide +kernel
theorem dX1_drawDot_28 : decode cX1_drawDot 28 = .ok (.iload_n 3, 1) := by decide +kernel
theorem dX1_drawDot_29 : decode cX1_drawDot 29 = .ok (.iaload, 1) := by decide +kernel
theorem dX1_drawDot_30 : decode cX1_drawDot 30 = .ok (.invokevirtual 182, 3) := by decide +kernel
theorem dX1_drawDot_33 : decode cX1_drawDot 33 = .ok (.istore 4, 2) := by decide +kernel
theorem dX1_drawDot_35 : decode cX1_drawDot 35 = .ok (.aload_n 1, 1) := by decide +kernel
theorem dX1_drawDot_36 : decode cX1_drawDot 36 = .ok (.iload 4, 2) := by decide +kernel
theorem dX1_drawDot_38 : decode cX1_drawDot 38 = .ok (.aload_n 0, 1) := by decide +kernel
theorem dX1_drawDot_39 : decode cX1_drawDot 39 = .ok (.getfield 12, 3) := by decide +kernel
theorem dX1_drawDot_42 : decode cX1_drawDot 42 = .ok (.getfield 54, 3) := by decide +kernel
theorem dX1_drawDot_45 : decode cX1_drawDot 45 = .ok (.iconst 1, 1) := by decide +kernel
theorem dX1_drawDot_46 : decode cX1_drawDot 46 = .ok (.aaload, 1) := by decide +kernel
theorem dX1_drawDot_47 : decode cX1_drawDot 47 = .ok (.bipush 8, 2) := by decide +kernel
theorem dX1_drawDot_49 : decode cX1_drawDot 49 = .ok (.aload_n 0, 1) := by decide +kernel
theorem dX1_drawDot_50 : decode cX1_drawDot 50 = .ok (.getfield 38, 3) := by decide +kernel
theorem dX1_drawDot_53 : decode cX1_drawDot 53 = .ok (.iconst 1, 1) := by decide +kernel
theorem dX1_drawDot_54 : decode cX1_drawDot 54 = .ok (.aaload, 1) := by decide +kernel
theorem dX1_drawDot_55 : decode cX1_drawDot 55 = .ok (.iload_n 3, 1) := by decide +kernel
theorem dX1_drawDot_56 : decode cX1_drawDot 56 = .ok (.iaload, 1) := by decide +kernel
theorem dX1_drawDot_57 : decode cX1_drawDot 57 = .ok (.invokevirtual 182, 3) := by decide +kernel
theorem dX1_drawDot_60 : decode cX1_drawDot 60 = .ok (.invokevirtual 185, 3) := by decide +kernel
theorem dX1_drawDot_63 : decode cX1_drawDot 63 = .ok (.goto 39, 3) := by decide +kernel
theorem dX1_drawDot_66 : decode cX1_drawDot 66 = .ok (.aload_n 0, 1) := by decide +kernel
theorem dX1_drawDot_67 : decode cX1_drawDot 67 = .ok (.iload_n 3, 1) := by decide +kernel
theorem dX1_drawDot_68 : decode cX1_drawDot 68 = .ok (.invokevirtual 189, 3) := by decide +kernel
theorem dX1_drawDot_71 : decode cX1_drawDot 71 = .ok (.istore 4, 2) := by decide +kernel
theorem dX1_drawDot_73 : decode cX1_drawDot 73 = .ok (.aload_n 1, 1) := by decide +kernel
theorem dX1_drawDot_74 : decode cX1_drawDot 74 = .ok (.iload_n 2, 1) := by decide +kernel
theorem dX1_drawDot_75 : decode cX1_drawDot 75 = .ok (.aload_n 0, 1) := by decide +kernel
theorem dX1_drawDot_76 : decode cX1_drawDot 76 = .ok (.getfield 12, 3) := by decide +kernel
theorem dX1_drawDot_79 : decode cX1_drawDot 79 = .ok (.getfield 54, 3) := by decide +kernel
theorem dX1_drawDot_82 : decode cX1_drawDot 82 = .ok (.iload 4, 2) := by decide +kernel
theorem dX1_drawDot_84 : decode cX1_drawDot 84 = .ok (.aaload, 1) := by decide +kernel
theorem dX1_drawDot_85 : decode cX1_drawDot 85 = .ok (.bipush 8, 2) := by decide +kernel
theorem dX1_drawDot_87 : decode cX1_drawDot 87 = .ok (.aload_n 0, 1) := by decide +kernel
theorem dX1_drawDot_88 : decode cX1_drawDot 88 = .ok (.getfield 38, 3) := by decide +kernel
theorem dX1_drawDot_91 : decode cX1_drawDot 91 = .ok (.iload 4, 2) := by decide +kernel
theorem dX1_drawDot_93 : decode cX1_drawDot 93 = .ok (.aaload, 1) := by decide +kernel
theorem dX1_drawDot_94 : decode cX1_drawDot 94 = .ok (.iload_n 3, 1) := by decide +kernel
theorem dX1_drawDot_95 : decode cX1_drawDot 95 = .ok (.iaload, 1) := by decide +kernel
theorem dX1_drawDot_96 : decode cX1_drawDot 96 = .ok (.invokevirtual 182, 3) := by decide +kernel
theorem dX1_drawDot_99 : decode cX1_drawDot 99 = .ok (.invokevirtual 185, 3) := by decide +kernel
theorem dX1_drawDot_102 : decode cX1_drawDot 102 = .ok (.return_, 1) := by decide +kernel
theorem dX1_turnAt_0 : decode cX1_turnAt 0 = .ok (.aload_n 0, 1) := by decide +kernel
theorem dX1_turnAt_1 : decode cX1_turnAt 1 = .ok (.getfield 12, 3) := by decide +kernel
theorem dX1_turnAt_4 : decode cX1_turnAt 4 = .ok (.getfield 179, 3) := by decide +kernel
theorem dX1_turnAt_7 : decode cX1_turnAt 7 = .ok (.iconst 1, 1) := by decide +kernel
theorem dX1_turnAt_8 : decode cX1_turnAt 8 = .ok (.if_icmp .ne 18, 3) := by decide +kernel
theorem dX1_turnAt_11 : decode cX1_turnAt 11 = .ok (.aload_n 0, 1) := by decide +kernel
theorem dX1_turnAt_12 : decode cX1_turnAt 12 = .ok (.getfield 48, 3) := by decide +kernel
theorem dX1_turnAt_15 : decode cX1_turnAt 15 = .ok (.iconst 2, 1) := by decide +kernel
theorem dX1_turnAt_16 : decode cX1_turnAt 16 = .ok (.irem, 1) := by decide +kernel
theorem dX1_turnAt_17 : decode cX1_turnAt 17 = .ok (.ifCond .ne 7, 3) := by decide +kernel
theorem dX1_turnAt_20 : decode cX1_turnAt 20 = .ok (.iconst 1, 1) := by decide +kernel
theorem dX1_turnAt_21 : decode cX1_turnAt 21 = .ok (.goto 4, 3) := by decide +kernel
theorem dX1_turnAt_24 : decode cX1_turnAt 24 = .ok (.iconst 0, 1) := by decide +kernel
theorem dX1_turnAt_25 : decode cX1_turnAt 25 = .ok (.ireturn, 1) := by decide +kernel
theorem dX1_turnAt_26 : decode cX1_turnAt 26 = .ok (.aload_n 0, 1) := by decide +kernel
theorem dX1_turnAt_27 : decode cX1_turnAt 27 = .ok (.getfield 12, 3) := by decide +kernel
theorem dX1_turnAt_30 : decode cX1_turnAt 30 = .ok (.getfield 179, 3) := by decide +kernel
theorem dX1_turnAt_33 : decode cX1_turnAt 33 = .ok (.iconst 2, 1) := by decide +kernel
theorem dX1_turnAt_34 : decode cX1_turnAt 34 = .ok (.if_icmp .ne 33, 3) := by decide +kernel
theorem dX1_turnAt_37 : decode cX1_turnAt 37 = .ok (.aload_n 0, 1) := by decide +kernel
theorem dX1_turnAt_38 : decode cX1_turnAt 38 = .ok (.getfield 12, 3) := by decide +kernel
theorem dX1_turnAt_41 : decode cX1_turnAt 41 = .ok (.getfield 192, 3) := by decide +kernel
theorem dX1_turnAt_44 : decode cX1_turnAt 44 = .ok (.ifCond .le 23, 3) := by decide +kernel
theorem dX1_turnAt_47 : decode cX1_turnAt 47 = .ok (.iload_n 1, 1) := by decide +kernel
theorem dX1_turnAt_48 : decode cX1_turnAt 48 = .ok (.aload_n 0, 1) := by decide +kernel
theorem dX1_turnAt_49 : decode cX1_turnAt 49 = .ok (.getfield 12, 3) := by decide +kernel
theorem dX1_turnAt_52 : decode cX1_turnAt 52 = .ok (.getfield 192, 3) := by decide +kernel
theorem dX1_turnAt_55 : decode cX1_turnAt 55 = .ok (.idiv, 1) := by decide +kernel
theorem dX1_turnAt_56 : decode cX1_turnAt 56 = .ok (.iconst 2, 1) := by decide +kernel
theorem dX1_turnAt_57 : decode cX1_turnAt 57 = .ok (.irem, 1) := by decide +kernel
theorem dX1_turnAt_58 : decode cX1_turnAt 58 = .ok (.ifCond .ne 7, 3) := by decide +kernel
theorem dX1_turnAt_61 : decode cX1_turnAt 61 = .ok (.iconst 0, 1) := by decide +kernel
theorem dX1_turnAt_62 : decode cX1_turnAt 62 = .ok (.goto 4, 3) := by decide +kernel
theorem dX1_turnAt_65 : decode cX1_turnAt 65 = .ok (.iconst 1, 1) := by decide +kernel
theorem dX1_turnAt_66 : decode cX1_turnAt 66 = .ok (.ireturn, 1) := by decide +kernel
theorem dX1_turnAt_67 : decode cX1_turnAt 67 = .ok (.iconst 0, 1) := by decide +kernel
theorem dX1_turnAt_68 : decode cX1_turnAt 68 = .ok (.ireturn, 1) := by decide +kernel
theorem dX1_catches_0 : decode cX1_catches 0 = .ok (.aload_n 0, 1) := by decide +kernel
theorem dX1_catches_1 : decode cX1_catches 1 = .ok (.invokevirtual 159, 3) := by decide +kernel
theorem dX1_catches_4 : decode cX1_catches 4 = .ok (.iconst 0, 1) := by decide +kernel
theorem dX1_catches_5 : decode cX1_catches 5 = .ok (.istore 4, 2) := by decide +kernel
theorem dX1_catches_7 : decode cX1_catches 7 = .ok (.iload 4, 2) := by decide +kernel
theorem dX1_catches_9 : decode cX1_catches 9 = .ok (.iload_n 3, 1) := by decide +kernel
theorem dX1_catches_10 : decode cX1_catches 10 = .ok (.if_icmp .ge 77, 3) := by decide +kernel
theorem dX1_catches_13 : decode cX1_catches 13 = .ok (.aload_n 0, 1) := by decide +kernel
theorem dX1_catches_14 : decode cX1_catches 14 = .ok (.iload_n 3, 1) := by decide +kernel
theorem dX1_catches_15 : decode cX1_catches 15 = .ok (.invokevirtual 162, 3) := by decide +kernel
theorem dX1_catches_18 : decode cX1_catches 18 = .ok (.ifCond .eq 69, 3) := by decide +kernel
theorem dX1_catches_21 : decode cX1_catches 21 = .ok (.iconst 0, 1) := by decide +kernel
theorem dX1_catches_22 : decode cX1_catches 22 = .ok (.istore 5, 2) := by decide +kernel
theorem dX1_catches_24 : decode cX1_catches 24 = .ok (.iload 5, 2) := by decide +kernel
theorem dX1_catches_26 : decode cX1_catches 26 = .ok (.bipush 20, 2) := by decide +kernel
theorem dX1_catches_28 : decode cX1_catches 28 = .ok (.if_icmp .ge 53, 3) := by decide +kernel
theorem dX1_catches_31 : decode cX1_catches 31 = .ok (.aload_n 0, 1) := by decide +kernel
theorem dX1_catches_32 : decode cX1_catches 32 = .ok (.getfield 51, 3) := by decide +kernel
theorem dX1_catches_35 : decode cX1_catches 35 = .ok (.iload 5, 2) := by decide +kernel
theorem dX1_catches_37 : decode cX1_catches 37 = .ok (.aload_n 0, 1) := by decide +kernel
theorem dX1_catches_38 : decode cX1_catches 38 = .ok (.getfield 12, 3) := by decide +kernel
theorem dX1_catches_41 : decode cX1_catches 41 = .ok (.getfield 117, 3) := by decide +kernel
theorem dX1_catches_44 : decode cX1_catches 44 = .ok (.imul, 1) := by decide +kernel
theorem dX1_catches_45 : decode cX1_catches 45 = .ok (.iadd, 1) := by decide +kernel
theorem dX1_catches_46 : decode cX1_catches 46 = .ok (.istore 6, 2) := by decide +kernel
theorem dX1_catches_48 : decode cX1_catches 48 = .ok (.iload 6, 2) := by decide +kernel
theorem dX1_catches_50 : decode cX1_catches 50 = .ok (.iload_n 3, 1) := by decide +kernel
theorem dX1_catches_51 : decode cX1_catches 51 = .ok (.if_icmp .ge 24, 3) := by decide +kernel
theorem dX1_catches_54 : decode cX1_catches 54 = .ok (.aload_n 2, 1) := by decide +kernel
theorem dX1_catches_55 : decode cX1_catches 55 = .ok (.iload 6, 2) := by decide +kernel
theorem dX1_catches_57 : decode cX1_catches 57 = .ok (.invokevirtual 195, 3) := by decide +kernel
theorem dX1_catches_60 : decode cX1_catches 60 = .ok (.ifCond .eq 15, 3) := by decide +kernel
theorem dX1_catches_63 : decode cX1_catches 63 = .ok (.aload_n 0, 1) := by decide +kernel
theorem dX1_catches_64 : decode cX1_catches 64 = .ok (.iload_n 1, 1) := by decide +kernel
theorem dX1_catches_65 : decode cX1_catches 65 = .ok (.iload 6, 2) := by decide +kernel
theorem dX1_catches_67 : decode cX1_catches 67 = .ok (.invokevirtual 200, 3) := by decide +kernel
theorem dX1_catches_70 : decode cX1_catches 70 = .ok (.ifCond .eq 5, 3) := by decide +kernel
theorem dX1_catches_73 : decode cX1_catches 73 = .ok (.iconst 1, 1) := by decide +kernel
theorem dX1_catches_74 : decode cX1_catches 74 = .ok (.ireturn, 1) := by decide +kernel
theorem dX1_catches_75 : decode cX1_catches 75 = .ok (.iinc 5 1, 3) := by decide +kernel
theorem dX1_catches_78 : decode cX1_catches 78 = .ok (.goto (-54), 3) := by decide +kernel
theorem dX1_catches_81 : decode cX1_catches 81 = .ok (.iinc 4 1, 3) := by decide +kernel
theorem dX1_catches_84 : decode cX1_catches 84 = .ok (.goto (-77), 3) := by decide +kernel
theorem dX1_catches_87 : decode cX1_catches 87 = .ok (.iconst 0, 1) := by decide +kernel
theorem dX1_catches_88 : decode cX1_catches 88 = .ok (.ireturn, 1) := by decide +kernel
theorem dX1_isShown_0 : decode cX1_isShown 0 = .ok (.aload_n 0, 1) := by decide +kernel
theorem dX1_isShown_1 : decode cX1_isShown 1 = .ok (.getfield 12, 3) := by decide +kernel
theorem dX1_isShown_4 : decode cX1_isShown 4 = .ok (.getfield 179, 3) := by decide +kernel
theorem dX1_isShown_7 : decode cX1_isShown 7 = .ok (.iconst 3, 1) := by decide +kernel
theorem dX1_isShown_8 : decode cX1_isShown 8 = .ok (.if_icmp .ne 41, 3) := by decide +kernel
theorem dX1_isShown_11 : decode cX1_isShown 11 = .ok (.aload_n 0, 1) := by decide +kernel
theorem dX1_isShown_12 : decode cX1_isShown 12 = .ok (.getfield 12, 3) := by decide +kernel
theorem dX1_isShown_15 : decode cX1_isShown 15 = .ok (.getfield 54, 3) := by decide +kernel
theorem dX1_isShown_18 : decode cX1_isShown 18 = .ok (.iconst 0, 1) := by decide +kernel
theorem dX1_isShown_19 : decode cX1_isShown 19 = .ok (.aaload, 1) := by decide +kernel
theorem dX1_isShown_20 : decode cX1_isShown 20 = .ok (.getfield 62, 3) := by decide +kernel
theorem dX1_isShown_23 : decode cX1_isShown 23 = .ok (.iload_n 1, 1) := by decide +kernel
theorem dX1_isShown_24 : decode cX1_isShown 24 = .ok (.if_icmp .eq 19, 3) := by decide +kernel
theorem dX1_isShown_27 : decode cX1_isShown 27 = .ok (.aload_n 0, 1) := by decide +kernel
theorem dX1_isShown_28 : decode cX1_isShown 28 = .ok (.getfield 12, 3) := by decide +kernel
theorem dX1_isShown_31 : decode cX1_isShown 31 = .ok (.getfield 54, 3) := by decide +kernel
theorem dX1_isShown_34 : decode cX1_isShown 34 = .ok (.iconst 1, 1) := by decide +kernel
theorem dX1_isShown_35 : decode cX1_isShown 35 = .ok (.aaload, 1) := by decide +kernel
theorem dX1_isShown_36 : decode cX1_isShown 36 = .ok (.getfield 62, 3) := by decide +kernel
theorem dX1_isShown_39 : decode cX1_isShown 39 = .ok (.iload_n 1, 1) := by decide +kernel
theorem dX1_isShown_40 : decode cX1_isShown 40 = .ok (.if_icmp .ne 7, 3) := by decide +kernel
theorem dX1_isShown_43 : decode cX1_isShown 43 = .ok (.iconst 1, 1) := by decide +kernel
theorem dX1_isShown_44 : decode cX1_isShown 44 = .ok (.goto 4, 3) := by decide +kernel
theorem dX1_isShown_47 : decode cX1_isShown 47 = .ok (.iconst 0, 1) := by decide +kernel
theorem dX1_isShown_48 : decode cX1_isShown 48 = .ok (.ireturn, 1) := by decide +kernel
theorem dX1_isShown_49 : decode cX1_isShown 49 = .ok (.aload_n 0, 1) := by decide +kernel
theorem dX1_isShown_50 : decode cX1_isShown 50 = .ok (.getfield 12, 3) := by decide +kernel
theorem dX1_isShown_53 : decode cX1_isShown 53 = .ok (.getfield 54, 3) := by decide +kernel
theorem dX1_isShown_56 : decode cX1_isShown 56 = .ok (.aload_n 0, 1) := by decide +kernel
theorem dX1_isShown_57 : decode cX1_isShown 57 = .ok (.iload_n 2, 1) := by decide +kernel
theorem dX1_isShown_58 : decode cX1_isShown 58 = .ok (.invokevirtual 189, 3) := by decide +kernel
theorem dX1_isShown_61 : decode cX1_isShown 61 = .ok (.aaload, 1) := by decide +kernel
theorem dX1_isShown_62 : decode cX1_isShown 62 = .ok (.getfield 62, 3) := by decide +kernel
theorem dX1_isShown_65 : decode cX1_isShown 65 = .ok (.iload_n 1, 1) := by decide +kernel
theorem dX1_isShown_66 : decode cX1_isShown 66 = .ok (.if_icmp .ne 7, 3) := by decide +kernel
theorem dX1_isShown_69 : decode cX1_isShown 69 = .ok (.iconst 1, 1) := by decide +kernel
theorem dX1_isShown_70 : decode cX1_isShown 70 = .ok (.goto 4, 3) := by decide +kernel
theorem dX1_isShown_73 : decode cX1_isShown 73 = .ok (.iconst 0, 1) := by decide +kernel
theorem dX1_isShown_74 : decode cX1_isShown 74 = .ok (.ireturn, 1) := by decide +kernel
theorem dX2_init_0 : decode cX2_init 0 = .ok (.aload_n 0, 1) := by decide +kernel
theorem dX2_init_1 : decode cX2_init 1 = .ok (.invokespecial 3, 3) := by decide +kernel
theorem dX2_init_4 : decode cX2_init 4 = .ok (.aload_n 0, 1) := by decide +kernel
theorem dX2_init_5 : decode cX2_init 5 = .ok (.iconst 0, 1) := by decide +kernel
theorem dX2_init_6 : decode cX2_init 6 = .ok (.putfield 9, 3) := by decide +kernel
theorem dX2_init_9 : decode cX2_init 9 = .ok (.aload_n 0, 1) := by decide +kernel
theorem dX2_init_10 : decode cX2_init 10 = .ok (.iconst 1, 1) := by decide +kernel
theorem dX2_init_11 : decode cX2_init 11 = .ok (.putfield 15, 3) := by decide +kernel
theorem dX2_init_14 : decode cX2_init 14 = .ok (.aload_n 0, 1) := by decide +kernel
theorem dX2_init_15 : decode cX2_init 15 = .ok (.iconst 1, 1) := by decide +kernel
theorem dX2_init_16 : decode cX2_init 16 = .ok (.putfield 18, 3) := by decide +kernel
theorem dX2_init_19 : decode cX2_init 19 = .ok (.aload_n 0, 1) := by decide +kernel
theorem dX2_init_20 : decode cX2_init 20 = .ok (.bipush 16, 2) := by decide +kernel
theorem dX2_init_22 : decode cX2_init 22 = .ok (.putfield 21, 3) := by decide +kernel
theorem dX2_init_25 : decode cX2_init 25 = .ok (.aload_n 0, 1) := by decide +kernel
theorem dX2_init_26 : decode cX2_init 26 = .ok (.bipush 10, 2) := by decide +kernel
theorem dX2_init_28 : decode cX2_init 28 = .ok (.putfield 24, 3) := by decide +kernel
theorem dX2_init_31 : decode cX2_init 31 = .ok (.aload_n 0, 1) := by decide +kernel
theorem dX2_init_32 : decode cX2_init 32 = .ok (.iconst 0, 1) := by decide +kernel
theorem dX2_init_33 : decode cX2_init 33 = .ok (.putfield 27, 3) := by decide +kernel
theorem dX2_init_36 : decode cX2_init 36 = .ok (.aload_n 0, 1) := by decide +kernel
theorem dX2_init_37 : decode cX2_init 37 = .ok (.iload_n 1, 1) := by decide +kernel
theorem dX2_init_38 : decode cX2_init 38 = .ok (.putfield 9, 3) := by decide +kernel
theorem dX2_init_41 : decode cX2_init 41 = .ok (.return_, 1) := by decide +kernel
theorem dX2_setProbe_0 : decode cX2_setProbe 0 = .ok (.aload_n 0, 1) := by decide +kernel
theorem dX2_setProbe_1 : decode cX2_setProbe 1 = .ok (.iload_n 1, 1) := by decide +kernel
theorem dX2_setProbe_2 : decode cX2_setProbe 2 = .ok (.putfield 15, 3) := by decide +kernel
theorem dX2_setProbe_5 : decode cX2_setProbe 5 = .ok (.aload_n 0, 1) := by decide +kernel
theorem dX2_setProbe_6 : decode cX2_setProbe 6 = .ok (.iload_n 2, 1) := by decide +kernel
theorem dX2_setProbe_7 : decode cX2_setProbe 7 = .ok (.putfield 18, 3) := by decide +kernel
theorem dX2_setProbe_10 : decode cX2_setProbe 10 = .ok (.aload_n 0, 1) := by decide +kernel
theorem dX2_setProbe_11 : decode cX2_setProbe 11 = .ok (.iload_n 3, 1) := by decide +kernel
theorem dX2_setProbe_12 : decode cX2_setProbe 12 = .ok (.putfield 21, 3) := by decide +kernel
theorem dX2_setProbe_15 : decode cX2_setProbe 15 = .ok (.return_, 1) := by decide +kernel
theorem dX2_setView_0 : decode cX2_setView 0 = .ok (.aload_n 0, 1) := by decide +kernel
theorem dX2_setView_1 : decode cX2_setView 1 = .ok (.iload_n 1, 1) := by decide +kernel
theorem dX2_setView_2 : decode cX2_setView 2 = .ok (.putfield 9, 3) := by decide +kernel
theorem dX2_setView_5 : decode cX2_setView 5 = .ok (.aload_n 0, 1) := by decide +kernel
theorem dX2_setView_6 : decode cX2_setView 6 = .ok (.iload_n 2, 1) := by decide +kernel
theorem dX2_setView_7 : decode cX2_setView 7 = .ok (.putfield 24, 3) := by decide +kernel
theorem dX2_setView_10 : decode cX2_setView 10 = .ok (.aload_n 0, 1) := by decide +kernel
theorem dX2_setView_11 : decode cX2_setView 11 = .ok (.iload_n 3, 1) := by decide +kernel
theorem dX2_setView_12 : decode cX2_setView 12 = .ok (.putfield 27, 3) := by decide +kernel
theorem dX2_setView_15 : decode cX2_setView 15 = .ok (.return_, 1) := by decide +kernel
theorem dX2_copyFrom_0 : decode cX2_copyFrom 0 = .ok (.aload_n 0, 1) := by decide +kernel
theorem dX2_copyFrom_1 : decode cX2_copyFrom 1 = .ok (.aload_n 1, 1) := by decide +kernel
theorem dX2_copyFrom_2 : decode cX2_copyFrom 2 = .ok (.getfield 15, 3) := by decide +kernel
theorem dX2_copyFrom_5 : decode cX2_copyFrom 5 = .ok (.aload_n 1, 1) := by decide +kernel
theorem dX2_copyFrom_6 : decode cX2_copyFrom 6 = .ok (.getfield 18, 3) := by decide +kernel
theorem dX2_copyFrom_9 : decode cX2_copyFrom 9 = .ok (.aload_n 1, 1) := by decide +kernel
theorem dX2_copyFrom_10 : decode cX2_copyFrom 10 = .ok (.getfield 21, 3) := by decide +kernel
theorem dX2_copyFrom_13 : decode cX2_copyFrom 13 = .ok (.invokevirtual 30, 3) := by decide +kernel
theorem dX2_copyFrom_16 : decode cX2_copyFrom 16 = .ok (.aload_n 0, 1) := by decide +kernel
theorem dX2_copyFrom_17 : decode cX2_copyFrom 17 = .ok (.aload_n 1, 1) := by decide +kernel
theorem dX2_copyFrom_18 : decode cX2_copyFrom 18 = .ok (.getfield 9, 3) := by decide +kernel
theorem dX2_copyFrom_21 : decode cX2_copyFrom 21 = .ok (.aload_n 1, 1) := by decide +kernel
theorem dX2_copyFrom_22 : decode cX2_copyFrom 22 = .ok (.getfield 24, 3) := by decide +kernel
theorem dX2_copyFrom_25 : decode cX2_copyFrom 25 = .ok (.aload_n 1, 1) := by decide +kernel
theorem dX2_copyFrom_26 : decode cX2_copyFrom 26 = .ok (.getfield 27, 3) := by decide +kernel
theorem dX2_copyFrom_29 : decode cX2_copyFrom 29 = .ok (.invokevirtual 34, 3) := by decide +kernel
theorem dX2_copyFrom_32 : decode cX2_copyFrom 32 = .ok (.return_, 1) := by decide +kernel
theorem dX2_outBehind_0 : decode cX2_outBehind 0 = .ok (.aload_n 0, 1) := by decide +kernel
theorem dX2_outBehind_1 : decode cX2_outBehind 1 = .ok (.getfield 18, 3) := by decide +kernel
theorem dX2_outBehind_4 : decode cX2_outBehind 4 = .ok (.iconst 1, 1) := by decide +kernel
theorem dX2_outBehind_5 : decode cX2_outBehind 5 = .ok (.if_icmp .ge 7, 3) := by decide +kernel
theorem dX2_outBehind_8 : decode cX2_outBehind 8 = .ok (.iconst 0, 1) := by decide +kernel
theorem dX2_outBehind_9 : decode cX2_outBehind 9 = .ok (.goto 14, 3) := by decide +kernel
theorem dX2_outBehind_12 : decode cX2_outBehind 12 = .ok (.iload_n 2, 1) := by decide +kernel
theorem dX2_outBehind_13 : decode cX2_outBehind 13 = .ok (.aload_n 0, 1) := by decide +kernel
theorem dX2_outBehind_14 : decode cX2_outBehind 14 = .ok (.getfield 15, 3) := by decide +kernel
theorem dX2_outBehind_17 : decode cX2_outBehind 17 = .ok (.imul, 1) := by decide +kernel
theorem dX2_outBehind_18 : decode cX2_outBehind 18 = .ok (.aload_n 0, 1) := by decide +kernel
theorem dX2_outBehind_19 : decode cX2_outBehind 19 = .ok (.getfield 18, 3) := by decide +kernel
theorem dX2_outBehind_22 : decode cX2_outBehind 22 = .ok (.idiv, 1) := by decide +kernel
theorem dX2_outBehind_23 : decode cX2_outBehind 23 = .ok (.istore_n 3, 1) := by decide +kernel
theorem dX2_outBehind_24 : decode cX2_outBehind 24 = .ok (.iload_n 1, 1) := by decide +kernel
theorem dX2_outBehind_25 : decode cX2_outBehind 25 = .ok (.iload_n 3, 1) := by decide +kernel
theorem dX2_outBehind_26 : decode cX2_outBehind 26 = .ok (.iload_n 1, 1) := by decide +kernel
theorem dX2_outBehind_27 : decode cX2_outBehind 27 = .ok (.isub, 1) := by decide +kernel
theorem dX2_outBehind_28 : decode cX2_outBehind 28 = .ok (.aload_n 0, 1) := by decide +kernel
theorem dX2_outBehind_29 : decode cX2_outBehind 29 = .ok (.getfield 21, 3) := by decide +kernel
theorem dX2_outBehind_32 : decode cX2_outBehind 32 = .ok (.imul, 1) := by decide +kernel
theorem dX2_outBehind_33 : decode cX2_outBehind 33 = .ok (.bipush 16, 2) := by decide +kernel
theorem dX2_outBehind_35 : decode cX2_outBehind 35 = .ok (.idiv, 1) := by decide +kernel
theorem dX2_outBehind_36 : decode cX2_outBehind 36 = .ok (.iadd, 1) := by decide +kernel
theorem dX2_outBehind_37 : decode cX2_outBehind 37 = .ok (.ireturn, 1) := by decide +kernel
theorem dX2_dotsFrom_0 : decode cX2_dotsFrom 0 = .ok (.aload_n 0, 1) := by decide +kernel
theorem dX2_dotsFrom_1 : decode cX2_dotsFrom 1 = .ok (.getfield 24, 3) := by decide +kernel
theorem dX2_dotsFrom_4 : decode cX2_dotsFrom 4 = .ok (.iconst 1, 1) := by decide +kernel
theorem dX2_dotsFrom_5 : decode cX2_dotsFrom 5 = .ok (.if_icmp .ge 7, 3) := by decide +kernel
theorem dX2_dotsFrom_8 : decode cX2_dotsFrom 8 = .ok (.iconst (-1), 1) := by decide +kernel
theorem dX2_dotsFrom_9 : decode cX2_dotsFrom 9 = .ok (.goto 18, 3) := by decide +kernel
theorem dX2_dotsFrom_12 : decode cX2_dotsFrom 12 = .ok (.iload_n 2, 1) := by decide +kernel
theorem dX2_dotsFrom_13 : decode cX2_dotsFrom 13 = .ok (.aload_n 0, 1) := by decide +kernel
theorem dX2_dotsFrom_14 : decode cX2_dotsFrom 14 = .ok (.getfield 24, 3) := by decide +kernel
theorem dX2_dotsFrom_17 : decode cX2_dotsFrom 17 = .ok (.invokestatic 37, 3) := by decide +kernel
theorem dX2_dotsFrom_20 : decode cX2_dotsFrom 20 = .ok (.iload_n 1, 1) := by decide +kernel
theorem dX2_dotsFrom_21 : decode cX2_dotsFrom 21 = .ok (.iadd, 1) := by decide +kernel
theorem dX2_dotsFrom_22 : decode cX2_dotsFrom 22 = .ok (.aload_n 0, 1) := by decide +kernel
theorem dX2_dotsFrom_23 : decode cX2_dotsFrom 23 = .ok (.getfield 27, 3) := by decide +kernel
theorem dX2_dotsFrom_26 : decode cX2_dotsFrom 26 = .ok (.iadd, 1) := by decide +kernel
theorem dX2_dotsFrom_27 : decode cX2_dotsFrom 27 = .ok (.ireturn, 1) := by decide +kernel
theorem dX3_init_0 : decode cX3_init 0 = .ok (.aload_n 0, 1) := by decide +kernel
theorem dX3_init_1 : decode cX3_init 1 = .ok (.invokespecial 3, 3) := by decide +kernel
theorem dX3_init_4 : decode cX3_init 4 = .ok (.aload_n 0, 1) := by decide +kernel
theorem dX3_init_5 : decode cX3_init 5 = .ok (.iconst 0, 1) := by decide +kernel
theorem dX3_init_6 : decode cX3_init 6 = .ok (.putfield 9, 3) := by decide +kernel
theorem dX3_init_9 : decode cX3_init 9 = .ok (.aload_n 0, 1) := by decide +kernel
theorem dX3_init_10 : decode cX3_init 10 = .ok (.iconst 0, 1) := by decide +kernel
theorem dX3_init_11 : decode cX3_init 11 = .ok (.putfield 15, 3) := by decide +kernel
theorem dX3_init_14 : decode cX3_init 14 = .ok (.aload_n 0, 1) := by decide +kernel
theorem dX3_init_15 : decode cX3_init 15 = .ok (.iconst 1, 1) := by decide +kernel
theorem dX3_init_16 : decode cX3_init 16 = .ok (.putfield 18, 3) := by decide +kernel
theorem dX3_init_19 : decode cX3_init 19 = .ok (.aload_n 0, 1) := by decide +kernel
theorem dX3_init_20 : decode cX3_init 20 = .ok (.iconst 0, 1) := by decide +kernel
theorem dX3_init_21 : decode cX3_init 21 = .ok (.putfield 21, 3) := by decide +kernel
theorem dX3_init_24 : decode cX3_init 24 = .ok (.aload_n 0, 1) := by decide +kernel
theorem dX3_init_25 : decode cX3_init 25 = .ok (.iconst 0, 1) := by decide +kernel
theorem dX3_init_26 : decode cX3_init 26 = .ok (.putfield 24, 3) := by decide +kernel
theorem dX3_init_29 : decode cX3_init 29 = .ok (.return_, 1) := by decide +kernel
theorem dX3_set_0 : decode cX3_set 0 = .ok (.aload_n 0, 1) := by decide +kernel
theorem dX3_set_1 : decode cX3_set 1 = .ok (.iload_n 1, 1) := by decide +kernel
theorem dX3_set_2 : decode cX3_set 2 = .ok (.putfield 9, 3) := by decide +kernel
theorem dX3_set_5 : decode cX3_set 5 = .ok (.aload_n 0, 1) := by decide +kernel
theorem dX3_set_6 : decode cX3_set 6 = .ok (.iload_n 2, 1) := by decide +kernel
theorem dX3_set_7 : decode cX3_set 7 = .ok (.putfield 15, 3) := by decide +kernel
theorem dX3_set_10 : decode cX3_set 10 = .ok (.aload_n 0, 1) := by decide +kernel
theorem dX3_set_11 : decode cX3_set 11 = .ok (.iload_n 3, 1) := by decide +kernel
theorem dX3_set_12 : decode cX3_set 12 = .ok (.putfield 18, 3) := by decide +kernel
theorem dX3_set_15 : decode cX3_set 15 = .ok (.aload_n 0, 1) := by decide +kernel
theorem dX3_set_16 : decode cX3_set 16 = .ok (.iload 4, 2) := by decide +kernel
theorem dX3_set_18 : decode cX3_set 18 = .ok (.putfield 21, 3) := by decide +kernel
theorem dX3_set_21 : decode cX3_set 21 = .ok (.aload_n 0, 1) := by decide +kernel
theorem dX3_set_22 : decode cX3_set 22 = .ok (.iload 5, 2) := by decide +kernel
theorem dX3_set_24 : decode cX3_set 24 = .ok (.putfield 24, 3) := by decide +kernel
theorem dX3_set_27 : decode cX3_set 27 = .ok (.return_, 1) := by decide +kernel
theorem dX3_phase_0 : decode cX3_phase 0 = .ok (.aload_n 0, 1) := by decide +kernel
theorem dX3_phase_1 : decode cX3_phase 1 = .ok (.getfield 18, 3) := by decide +kernel
theorem dX3_phase_4 : decode cX3_phase 4 = .ok (.iconst 1, 1) := by decide +kernel
theorem dX3_phase_5 : decode cX3_phase 5 = .ok (.if_icmp .ge 5, 3) := by decide +kernel
theorem dX3_phase_8 : decode cX3_phase 8 = .ok (.iconst 0, 1) := by decide +kernel
theorem dX3_phase_9 : decode cX3_phase 9 = .ok (.ireturn, 1) := by decide +kernel
theorem dX3_phase_10 : decode cX3_phase 10 = .ok (.iload_n 1, 1) := by decide +kernel
theorem dX3_phase_11 : decode cX3_phase 11 = .ok (.aload_n 0, 1) := by decide +kernel
theorem dX3_phase_12 : decode cX3_phase 12 = .ok (.getfield 24, 3) := by decide +kernel
theorem dX3_phase_15 : decode cX3_phase 15 = .ok (.isub, 1) := by decide +kernel
theorem dX3_phase_16 : decode cX3_phase 16 = .ok (.aload_n 0, 1) := by decide +kernel
theorem dX3_phase_17 : decode cX3_phase 17 = .ok (.getfield 18, 3) := by decide +kernel
theorem dX3_phase_20 : decode cX3_phase 20 = .ok (.irem, 1) := by decide +kernel
theorem dX3_phase_21 : decode cX3_phase 21 = .ok (.istore_n 2, 1) := by decide +kernel
theorem dX3_phase_22 : decode cX3_phase 22 = .ok (.iload_n 2, 1) := by decide +kernel
theorem dX3_phase_23 : decode cX3_phase 23 = .ok (.ifCond .ge 12, 3) := by decide +kernel
theorem dX3_phase_26 : decode cX3_phase 26 = .ok (.iload_n 2, 1) := by decide +kernel
theorem dX3_phase_27 : decode cX3_phase 27 = .ok (.aload_n 0, 1) := by decide +kernel
theorem dX3_phase_28 : decode cX3_phase 28 = .ok (.getfield 18, 3) := by decide +kernel
theorem dX3_phase_31 : decode cX3_phase 31 = .ok (.iadd, 1) := by decide +kernel
theorem dX3_phase_32 : decode cX3_phase 32 = .ok (.goto 4, 3) := by decide +kernel
theorem dX3_phase_35 : decode cX3_phase 35 = .ok (.iload_n 2, 1) := by decide +kernel
theorem dX3_phase_36 : decode cX3_phase 36 = .ok (.ireturn, 1) := by decide +kernel
theorem dX3_isOn_0 : decode cX3_isOn 0 = .ok (.aload_n 0, 1) := by decide +kernel
theorem dX3_isOn_1 : decode cX3_isOn 1 = .ok (.iload_n 1, 1) := by decide +kernel
theorem dX3_isOn_2 : decode cX3_isOn 2 = .ok (.invokevirtual 27, 3) := by decide +kernel
theorem dX3_isOn_5 : decode cX3_isOn 5 = .ok (.aload_n 0, 1) := by decide +kernel
theorem dX3_isOn_6 : decode cX3_isOn 6 = .ok (.getfield 21, 3) := by decide +kernel
theorem dX3_isOn_9 : decode cX3_isOn 9 = .ok (.if_icmp .ge 7, 3) := by decide +kernel
theorem dX3_isOn_12 : decode cX3_isOn 12 = .ok (.iconst 1, 1) := by decide +kernel
theorem dX3_isOn_13 : decode cX3_isOn 13 = .ok (.goto 4, 3) := by decide +kernel
theorem dX3_isOn_16 : decode cX3_isOn 16 = .ok (.iconst 0, 1) := by decide +kernel
theorem dX3_isOn_17 : decode cX3_isOn 17 = .ok (.ireturn, 1) := by decide +kernel
theorem dX3_heightAt_0 : decode cX3_heightAt 0 = .ok (.aload_n 0, 1) := by decide +kernel
theorem dX3_heightAt_1 : decode cX3_heightAt 1 = .ok (.getfield 9, 3) := by decide +kernel
theorem dX3_heightAt_4 : decode cX3_heightAt 4 = .ok (.ifCond .ne 20, 3) := by decide +kernel
theorem dX3_heightAt_7 : decode cX3_heightAt 7 = .ok (.iload_n 1, 1) := by decide +kernel
theorem dX3_heightAt_8 : decode cX3_heightAt 8 = .ok (.aload_n 0, 1) := by decide +kernel
theorem dX3_heightAt_9 : decode cX3_heightAt 9 = .ok (.getfield 24, 3) := by decide +kernel
theorem dX3_heightAt_12 : decode cX3_heightAt 12 = .ok (.if_icmp .lt 10, 3) := by decide +kernel
theorem dX3_heightAt_15 : decode cX3_heightAt 15 = .ok (.aload_n 0, 1) := by decide +kernel
theorem dX3_heightAt_16 : decode cX3_heightAt 16 = .ok (.getfield 15, 3) := by decide +kernel
theorem dX3_heightAt_19 : decode cX3_heightAt 19 = .ok (.goto 4, 3) := by decide +kernel
theorem dX3_heightAt_22 : decode cX3_heightAt 22 = .ok (.iconst 0, 1) := by decide +kernel
theorem dX3_heightAt_23 : decode cX3_heightAt 23 = .ok (.ireturn, 1) := by decide +kernel
theorem dX3_heightAt_24 : decode cX3_heightAt 24 = .ok (.aload_n 0, 1) := by decide +kernel
theorem dX3_heightAt_25 : decode cX3_heightAt 25 = .ok (.getfield 9, 3) := by decide +kernel
theorem dX3_heightAt_28 : decode cX3_heightAt 28 = .ok (.iconst 1, 1) := by decide +kernel
theorem dX3_heightAt_29 : decode cX3_heightAt 29 = .ok (.if_icmp .ne 24, 3) := by decide +kernel
theorem dX3_heightAt_32 : decode cX3_heightAt 32 = .ok (.aload_n 0, 1) := by decide +kernel
theorem dX3_heightAt_33 : decode cX3_heightAt 33 = .ok (.iload_n 1, 1) := by decide +kernel
theorem dX3_heightAt_34 : decode cX3_heightAt 34 = .ok (.invokevirtual 27, 3) := by decide +kernel
theorem dX3_heightAt_37 : decode cX3_heightAt 37 = .ok (.aload_n 0, 1) := by decide +kernel
theorem dX3_heightAt_38 : decode cX3_heightAt 38 = .ok (.getfield 21, 3) := by decide +kernel
theorem dX3_heightAt_41 : decode cX3_heightAt 41 = .ok (.if_icmp .ge 10, 3) := by decide +kernel
theorem dX3_heightAt_44 : decode cX3_heightAt 44 = .ok (.aload_n 0, 1) := by decide +kernel
theorem dX3_heightAt_45 : decode cX3_heightAt 45 = .ok (.getfield 15, 3) := by decide +kernel
theorem dX3_heightAt_48 : decode cX3_heightAt 48 = .ok (.goto 4, 3) := by decide +kernel
theorem dX3_heightAt_51 : decode cX3_heightAt 51 = .ok (.iconst 0, 1) := by decide +kernel
theorem dX3_heightAt_52 : decode cX3_heightAt 52 = .ok (.ireturn, 1) := by decide +kernel
theorem dX3_heightAt_53 : decode cX3_heightAt 53 = .ok (.aload_n 0, 1) := by decide +kernel
theorem dX3_heightAt_54 : decode cX3_heightAt 54 = .ok (.getfield 18, 3) := by decide +kernel
theorem dX3_heightAt_57 : decode cX3_heightAt 57 = .ok (.iconst 1, 1) := by decide +kernel
theorem dX3_heightAt_58 : decode cX3_heightAt 58 = .ok (.if_icmp .ge 7, 3) := by decide +kernel
theorem dX3_heightAt_61 : decode cX3_heightAt 61 = .ok (.iconst 0, 1) := by decide +kernel
theorem dX3_heightAt_62 : decode cX3_heightAt 62 = .ok (.goto 18, 3) := by decide +kernel
theorem dX3_heightAt_65 : decode cX3_heightAt 65 = .ok (.aload_n 0, 1) := by decide +kernel
theorem dX3_heightAt_66 : decode cX3_heightAt 66 = .ok (.getfield 15, 3) := by decide +kernel
theorem dX3_heightAt_69 : decode cX3_heightAt 69 = .ok (.aload_n 0, 1) := by decide +kernel
theorem dX3_heightAt_70 : decode cX3_heightAt 70 = .ok (.iload_n 1, 1) := by decide +kernel
theorem dX3_heightAt_71 : decode cX3_heightAt 71 = .ok (.invokevirtual 27, 3) := by decide +kernel
theorem dX3_heightAt_74 : decode cX3_heightAt 74 = .ok (.imul, 1) := by decide +kernel
theorem dX3_heightAt_75 : decode cX3_heightAt 75 = .ok (.aload_n 0, 1) := by decide +kernel
theorem dX3_heightAt_76 : decode cX3_heightAt 76 = .ok (.getfield 18, 3) := by decide +kernel
theorem dX3_heightAt_79 : decode cX3_heightAt 79 = .ok (.idiv, 1) := by decide +kernel
theorem dX3_heightAt_80 : decode cX3_heightAt 80 = .ok (.ireturn, 1) := by decide +kernel
theorem dX4_init_0 : decode cX4_init 0 = .ok (.aload_n 0, 1) := by decide +kernel
theorem dX4_init_1 : decode cX4_init 1 = .ok (.invokespecial 3, 3) := by decide +kernel
theorem dX4_init_4 : decode cX4_init 4 = .ok (.aload_n 0, 1) := by decide +kernel
theorem dX4_init_5 : decode cX4_init 5 = .ok (.sipush 300, 3) := by decide +kernel
theorem dX4_init_8 : decode cX4_init 8 = .ok (.newarray .int, 2) := by decide +kernel
theorem dX4_init_10 : decode cX4_init 10 = .ok (.putfield 9, 3) := by decide +kernel
theorem dX4_init_13 : decode cX4_init 13 = .ok (.aload_n 0, 1) := by decide +kernel
theorem dX4_init_14 : decode cX4_init 14 = .ok (.sipush 300, 3) := by decide +kernel
theorem dX4_init_17 : decode cX4_init 17 = .ok (.newarray .int, 2) := by decide +kernel
theorem dX4_init_19 : decode cX4_init 19 = .ok (.putfield 15, 3) := by decide +kernel
theorem dX4_init_22 : decode cX4_init 22 = .ok (.aload_n 0, 1) := by decide +kernel
theorem dX4_init_23 : decode cX4_init 23 = .ok (.iconst 0, 1) := by decide +kernel
theorem dX4_init_24 : decode cX4_init 24 = .ok (.putfield 18, 3) := by decide +kernel
theorem dX4_init_27 : decode cX4_init 27 = .ok (.aload_n 0, 1) := by decide +kernel
theorem dX4_init_28 : decode cX4_init 28 = .ok (.iconst 0, 1) := by decide +kernel
theorem dX4_init_29 : decode cX4_init 29 = .ok (.putfield 22, 3) := by decide +kernel
theorem dX4_init_32 : decode cX4_init 32 = .ok (.return_, 1) := by decide +kernel
theorem dX4_empty_0 : decode cX4_empty 0 = .ok (.aload_n 0, 1) := by decide +kernel
theorem dX4_empty_1 : decode cX4_empty 1 = .ok (.iconst 0, 1) := by decide +kernel
theorem dX4_empty_2 : decode cX4_empty 2 = .ok (.putfield 18, 3) := by decide +kernel
theorem dX4_empty_5 : decode cX4_empty 5 = .ok (.aload_n 0, 1) := by decide +kernel
theorem dX4_empty_6 : decode cX4_empty 6 = .ok (.iconst 0, 1) := by decide +kernel
theorem dX4_empty_7 : decode cX4_empty 7 = .ok (.putfield 22, 3) := by decide +kernel
theorem dX4_empty_10 : decode cX4_empty 10 = .ok (.return_, 1) := by decide +kernel
theorem dX4_isEmpty_0 : decode cX4_isEmpty 0 = .ok (.aload_n 0, 1) := by decide +kernel
theorem dX4_isEmpty_1 : decode cX4_isEmpty 1 = .ok (.getfield 18, 3) := by decide +kernel
theorem dX4_isEmpty_4 : decode cX4_isEmpty 4 = .ok (.ifCond .ne 14, 3) := by decide +kernel
theorem dX4_isEmpty_7 : decode cX4_isEmpty 7 = .ok (.aload_n 0, 1) := by decide +kernel
theorem dX4_isEmpty_8 : decode cX4_isEmpty 8 = .ok (.getfield 22, 3) := by decide +kernel
theorem dX4_isEmpty_11 : decode cX4_isEmpty 11 = .ok (.ifCond .ne 7, 3) := by decide +kernel
theorem dX4_isEmpty_14 : decode cX4_isEmpty 14 = .ok (.iconst 1, 1) := by decide +kernel
theorem dX4_isEmpty_15 : decode cX4_isEmpty 15 = .ok (.goto 4, 3) := by decide +kernel
theorem dX4_isEmpty_18 : decode cX4_isEmpty 18 = .ok (.iconst 0, 1) := by decide +kernel
theorem dX4_isEmpty_19 : decode cX4_isEmpty 19 = .ok (.ireturn, 1) := by decide +kernel
theorem dX5_init_0 : decode cX5_init 0 = .ok (.aload_n 0, 1) := by decide +kernel
theorem dX5_init_1 : decode cX5_init 1 = .ok (.invokespecial 3, 3) := by decide +kernel
theorem dX5_init_4 : decode cX5_init 4 = .ok (.aload_n 0, 1) := by decide +kernel
theorem dX5_init_5 : decode cX5_init 5 = .ok (.new 9, 3) := by decide +kernel
theorem dX5_init_8 : decode cX5_init 8 = .ok (.dup, 1) := by decide +kernel
theorem dX5_init_9 : decode cX5_init 9 = .ok (.invokespecial 11, 3) := by decide +kernel
theorem dX5_init_12 : decode cX5_init 12 = .ok (.putfield 12, 3) := by decide +kernel
theorem dX5_init_15 : decode cX5_init 15 = .ok (.aload_n 0, 1) := by decide +kernel
theorem dX5_init_16 : decode cX5_init 16 = .ok (.sipush 300, 3) := by decide +kernel
theorem dX5_init_19 : decode cX5_init 19 = .ok (.newarray .int, 2) := by decide +kernel
theorem dX5_init_21 : decode cX5_init 21 = .ok (.putfield 18, 3) := by decide +kernel
theorem dX5_init_24 : decode cX5_init 24 = .ok (.aload_n 0, 1) := by decide +kernel
theorem dX5_init_25 : decode cX5_init 25 = .ok (.iconst 0, 1) := by decide +kernel
theorem dX5_init_26 : decode cX5_init 26 = .ok (.putfield 22, 3) := by decide +kernel
theorem dX5_init_29 : decode cX5_init 29 = .ok (.aload_n 0, 1) := by decide +kernel
theorem dX5_init_30 : decode cX5_init 30 = .ok (.iconst 0, 1) := by decide +kernel
theorem dX5_init_31 : decode cX5_init 31 = .ok (.putfield 26, 3) := by decide +kernel
theorem dX5_init_34 : decode cX5_init 34 = .ok (.aload_n 0, 1) := by decide +kernel
theorem dX5_init_35 : decode cX5_init 35 = .ok (.iconst 0, 1) := by decide +kernel
theorem dX5_init_36 : decode cX5_init 36 = .ok (.putfield 29, 3) := by decide +kernel
theorem dX5_init_39 : decode cX5_init 39 = .ok (.aload_n 0, 1) := by decide +kernel
theorem dX5_init_40 : decode cX5_init 40 = .ok (.iconst 0, 1) := by decide +kernel
theorem dX5_init_41 : decode cX5_init 41 = .ok (.putfield 32, 3) := by decide +kernel
theorem dX5_init_44 : decode cX5_init 44 = .ok (.aload_n 0, 1) := by decide +kernel
theorem dX5_init_45 : decode cX5_init 45 = .ok (.iconst 0, 1) := by decide +kernel
theorem dX5_init_46 : decode cX5_init 46 = .ok (.putfield 35, 3) := by decide +kernel
theorem dX5_init_49 : decode cX5_init 49 = .ok (.aload_n 0, 1) := by decide +kernel
theorem dX5_init_50 : decode cX5_init 50 = .ok (.iconst 0, 1) := by decide +kernel
theorem dX5_init_51 : decode cX5_init 51 = .ok (.putfield 39, 3) := by decide +kernel
theorem dX5_init_54 : decode cX5_init 54 = .ok (.aload_n 0, 1) := by decide +kernel
theorem dX5_init_55 : decode cX5_init 55 = .ok (.iconst 0, 1) := by decide +kernel
theorem dX5_init_56 : decode cX5_init 56 = .ok (.putfield 42, 3) := by decide +kernel
theorem dX5_init_59 : decode cX5_init 59 = .ok (.aload_n 0, 1) := by decide +kernel
theorem dX5_init_60 : decode cX5_init 60 = .ok (.iconst 0, 1) := by decide +kernel
theorem dX5_init_61 : decode cX5_init 61 = .ok (.putfield 45, 3) := by decide +kernel
theorem dX5_init_64 : decode cX5_init 64 = .ok (.aload_n 0, 1) := by decide +kernel
theorem dX5_init_65 : decode cX5_init 65 = .ok (.iconst 0, 1) := by decide +kernel
theorem dX5_init_66 : decode cX5_init 66 = .ok (.putfield 48, 3) := by decide +kernel
theorem dX5_init_69 : decode cX5_init 69 = .ok (.aload_n 0, 1) := by decide +kernel
theorem dX5_init_70 : decode cX5_init 70 = .ok (.iconst 0, 1) := by decide +kernel
theorem dX5_init_71 : decode cX5_init 71 = .ok (.putfield 51, 3) := by decide +kernel
theorem dX5_init_74 : decode cX5_init 74 = .ok (.aload_n 0, 1) := by decide +kernel
theorem dX5_init_75 : decode cX5_init 75 = .ok (.iconst 0, 1) := by decide +kernel
theorem dX5_init_76 : decode cX5_init 76 = .ok (.putfield 54, 3) := by decide +kernel
theorem dX5_init_79 : decode cX5_init 79 = .ok (.aload_n 0, 1) := by decide +kernel
theorem dX5_init_80 : decode cX5_init 80 = .ok (.iconst 0, 1) := by decide +kernel
theorem dX5_init_81 : decode cX5_init 81 = .ok (.putfield 57, 3) := by decide +kernel
theorem dX5_init_84 : decode cX5_init 84 = .ok (.aload_n 0, 1) := by decide +kernel
theorem dX5_init_85 : decode cX5_init 85 = .ok (.iconst 0, 1) := by decide +kernel
theorem dX5_init_86 : decode cX5_init 86 = .ok (.putfield 60, 3) := by decide +kernel
theorem dX5_init_89 : decode cX5_init 89 = .ok (.aload_n 0, 1) := by decide +kernel
theorem dX5_init_90 : decode cX5_init 90 = .ok (.iconst (-1), 1) := by decide +kernel
theorem dX5_init_91 : decode cX5_init 91 = .ok (.putfield 63, 3) := by decide +kernel
theorem dX5_init_94 : decode cX5_init 94 = .ok (.aload_n 0, 1) := by decide +kernel
theorem dX5_init_95 : decode cX5_init 95 = .ok (.new 66, 3) := by decide +kernel
theorem dX5_init_98 : decode cX5_init 98 = .ok (.dup, 1) := by decide +kernel
theorem dX5_init_99 : decode cX5_init 99 = .ok (.invokespecial 68, 3) := by decide +kernel
theorem dX5_init_102 : decode cX5_init 102 = .ok (.putfield 69, 3) := by decide +kernel
theorem dX5_init_105 : decode cX5_init 105 = .ok (.return_, 1) := by decide +kernel
theorem dX5_read_0 : decode cX5_read 0 = .ok (.aload_n 0, 1) := by decide +kernel
theorem dX5_read_1 : decode cX5_read 1 = .ok (.getfield 12, 3) := by decide +kernel
theorem dX5_read_4 : decode cX5_read 4 = .ok (.iload_n 2, 1) := by decide +kernel
theorem dX5_read_5 : decode cX5_read 5 = .ok (.invokevirtual 73, 3) := by decide +kernel
theorem dX5_read_8 : decode cX5_read 8 = .ok (.aload_n 0, 1) := by decide +kernel
theorem dX5_read_9 : decode cX5_read 9 = .ok (.aload_n 1, 1) := by decide +kernel
theorem dX5_read_10 : decode cX5_read 10 = .ok (.putfield 69, 3) := by decide +kernel
theorem dX5_read_13 : decode cX5_read 13 = .ok (.aload_n 0, 1) := by decide +kernel
theorem dX5_read_14 : decode cX5_read 14 = .ok (.getfield 69, 3) := by decide +kernel
theorem dX5_read_17 : decode cX5_read 17 = .ok (.invokevirtual 77, 3) := by decide +kernel
theorem dX5_read_20 : decode cX5_read 20 = .ok (.aload_n 0, 1) := by decide +kernel
theorem dX5_read_21 : decode cX5_read 21 = .ok (.iconst 0, 1) := by decide +kernel
theorem dX5_read_22 : decode cX5_read 22 = .ok (.putfield 32, 3) := by decide +kernel
theorem dX5_read_25 : decode cX5_read 25 = .ok (.aload_n 0, 1) := by decide +kernel
theorem dX5_read_26 : decode cX5_read 26 = .ok (.iconst 0, 1) := by decide +kernel
theorem dX5_read_27 : decode cX5_read 27 = .ok (.putfield 35, 3) := by decide +kernel
theorem dX5_read_30 : decode cX5_read 30 = .ok (.aload_n 0, 1) := by decide +kernel
theorem dX5_read_31 : decode cX5_read 31 = .ok (.iconst 0, 1) := by decide +kernel
theorem dX5_read_32 : decode cX5_read 32 = .ok (.putfield 39, 3) := by decide +kernel
theorem dX5_read_35 : decode cX5_read 35 = .ok (.aload_n 0, 1) := by decide +kernel
theorem dX5_read_36 : decode cX5_read 36 = .ok (.iconst 0, 1) := by decide +kernel
theorem dX5_read_37 : decode cX5_read 37 = .ok (.putfield 54, 3) := by decide +kernel
theorem dX5_read_40 : decode cX5_read 40 = .ok (.aload_n 0, 1) := by decide +kernel
theorem dX5_read_41 : decode cX5_read 41 = .ok (.iconst 0, 1) := by decide +kernel
theorem dX5_read_42 : decode cX5_read 42 = .ok (.putfield 57, 3) := by decide +kernel
theorem dX5_read_45 : decode cX5_read 45 = .ok (.aload_n 0, 1) := by decide +kernel
theorem dX5_read_46 : decode cX5_read 46 = .ok (.iconst 0, 1) := by decide +kernel
theorem dX5_read_47 : decode cX5_read 47 = .ok (.putfield 60, 3) := by decide +kernel
theorem dX5_read_50 : decode cX5_read 50 = .ok (.aload_n 0, 1) := by decide +kernel
theorem dX5_read_51 : decode cX5_read 51 = .ok (.iconst (-1), 1) := by decide +kernel
theorem dX5_read_52 : decode cX5_read 52 = .ok (.putfield 63, 3) := by decide +kernel
theorem dX5_read_55 : decode cX5_read 55 = .ok (.iconst 0, 1) := by decide +kernel
theorem dX5_read_56 : decode cX5_read 56 = .ok (.istore_n 3, 1) := by decide +kernel
theorem dX5_read_57 : decode cX5_read 57 = .ok (.iload_n 3, 1) := by decide +kernel
theorem dX5_read_58 : decode cX5_read 58 = .ok (.sipush 300, 3) := by decide +kernel
theorem dX5_read_61 : decode cX5_read 61 = .ok (.if_icmp .gt 34, 3) := by decide +kernel
theorem dX5_read_64 : decode cX5_read 64 = .ok (.aload_n 0, 1) := by decide +kernel
theorem dX5_read_65 : decode cX5_read 65 = .ok (.getfield 57, 3) := by decide +kernel
theorem dX5_read_68 : decode cX5_read 68 = .ok (.ifCond .ne 27, 3) := by decide +kernel
theorem dX5_read_71 : decode cX5_read 71 = .ok (.aload_n 0, 1) := by decide +kernel
theorem dX5_read_72 : decode cX5_read 72 = .ok (.getfield 12, 3) := by decide +kernel
theorem dX5_read_75 : decode cX5_read 75 = .ok (.invokevirtual 80, 3) := by decide +kernel
theorem dX5_read_78 : decode cX5_read 78 = .ok (.aload_n 0, 1) := by decide +kernel
theorem dX5_read_79 : decode cX5_read 79 = .ok (.aload_n 0, 1) := by decide +kernel
theorem dX5_read_80 : decode cX5_read 80 = .ok (.getfield 12, 3) := by decide +kernel
theorem dX5_read_83 : decode cX5_read 83 = .ok (.getfield 83, 3) := by decide +kernel
theorem dX5_read_86 : decode cX5_read 86 = .ok (.invokevirtual 86, 3) := by decide +kernel
theorem dX5_read_89 : decode cX5_read 89 = .ok (.iinc 3 1, 3) := by decide +kernel
theorem dX5_read_92 : decode cX5_read 92 = .ok (.goto (-35), 3) := by decide +kernel
theorem dX5_read_95 : decode cX5_read 95 = .ok (.return_, 1) := by decide +kernel
theorem dX5_fail_0 : decode cX5_fail 0 = .ok (.aload_n 0, 1) := by decide +kernel
theorem dX5_fail_1 : decode cX5_fail 1 = .ok (.iload_n 1, 1) := by decide +kernel
theorem dX5_fail_2 : decode cX5_fail 2 = .ok (.putfield 60, 3) := by decide +kernel
theorem dX5_fail_5 : decode cX5_fail 5 = .ok (.aload_n 0, 1) := by decide +kernel
theorem dX5_fail_6 : decode cX5_fail 6 = .ok (.aload_n 0, 1) := by decide +kernel
theorem dX5_fail_7 : decode cX5_fail 7 = .ok (.getfield 12, 3) := by decide +kernel
theorem dX5_fail_10 : decode cX5_fail 10 = .ok (.getfield 89, 3) := by decide +kernel
theorem dX5_fail_13 : decode cX5_fail 13 = .ok (.putfield 63, 3) := by decide +kernel
theorem dX5_fail_16 : decode cX5_fail 16 = .ok (.aload_n 0, 1) := by decide +kernel
theorem dX5_fail_17 : decode cX5_fail 17 = .ok (.iconst 1, 1) := by decide +kernel
theorem dX5_fail_18 : decode cX5_fail 18 = .ok (.putfield 57, 3) := by decide +kernel
theorem dX5_fail_21 : decode cX5_fail 21 = .ok (.return_, 1) := by decide +kernel
theorem dX5_take_0 : decode cX5_take 0 = .ok (.iload_n 1, 1) := by decide +kernel
theorem dX5_take_1 : decode cX5_take 1 = .ok (.bipush (-57), 2) := by decide +kernel
theorem dX5_take_3 : decode cX5_take 3 = .ok (.if_icmp .ne 18, 3) := by decide +kernel
theorem dX5_take_6 : decode cX5_take 6 = .ok (.aload_n 0, 1) := by decide +kernel
theorem dX5_take_7 : decode cX5_take 7 = .ok (.getfield 39, 3) := by decide +kernel
theorem dX5_take_10 : decode cX5_take 10 = .ok (.ifCond .ne 11, 3) := by decide +kernel
theorem dX5_take_13 : decode cX5_take 13 = .ok (.aload_n 0, 1) := by decide +kernel
theorem dX5_take_14 : decode cX5_take 14 = .ok (.iconst 1, 1) := by decide +kernel
theorem dX5_take_15 : decode cX5_take 15 = .ok (.putfield 57, 3) := by decide +kernel
theorem dX5_take_18 : decode cX5_take 18 = .ok (.goto 58, 3) := by decide +kernel
theorem dX5_take_21 : decode cX5_take 21 = .ok (.iload_n 1, 1) := by decide +kernel
theorem dX5_take_22 : decode cX5_take 22 = .ok (.bipush (-57), 2) := by decide +kernel
theorem dX5_take_24 : decode cX5_take 24 = .ok (.if_icmp .eq 9, 3) := by decide +kernel
theorem dX5_take_27 : decode cX5_take 27 = .ok (.iload_n 1, 1) := by decide +kernel
theorem dX5_take_28 : decode cX5_take 28 = .ok (.bipush (-58), 2) := by decide +kernel
theorem dX5_take_30 : decode cX5_take 30 = .ok (.if_icmp .ne 11, 3) := by decide +kernel
theorem dX5_take_33 : decode cX5_take 33 = .ok (.aload_n 0, 1) := by decide +kernel
theorem dX5_take_34 : decode cX5_take 34 = .ok (.iconst 1, 1) := by decide +kernel
theorem dX5_take_35 : decode cX5_take 35 = .ok (.invokevirtual 92, 3) := by decide +kernel
theorem dX5_take_38 : decode cX5_take 38 = .ok (.goto 38, 3) := by decide +kernel
theorem dX5_take_41 : decode cX5_take 41 = .ok (.aload_n 0, 1) := by decide +kernel
theorem dX5_take_42 : decode cX5_take 42 = .ok (.getfield 39, 3) := by decide +kernel
theorem dX5_take_45 : decode cX5_take 45 = .ok (.ifCond .ne 11, 3) := by decide +kernel
theorem dX5_take_48 : decode cX5_take 48 = .ok (.aload_n 0, 1) := by decide +kernel
theorem dX5_take_49 : decode cX5_take 49 = .ok (.iload_n 1, 1) := by decide +kernel
theorem dX5_take_50 : decode cX5_take 50 = .ok (.invokevirtual 95, 3) := by decide +kernel
theorem dX5_take_53 : decode cX5_take 53 = .ok (.goto 23, 3) := by decide +kernel
theorem dX5_take_56 : decode cX5_take 56 = .ok (.aload_n 0, 1) := by decide +kernel
theorem dX5_take_57 : decode cX5_take 57 = .ok (.getfield 45, 3) := by decide +kernel
theorem dX5_take_60 : decode cX5_take 60 = .ok (.ifCond .eq 11, 3) := by decide +kernel
theorem dX5_take_63 : decode cX5_take 63 = .ok (.aload_n 0, 1) := by decide +kernel
theorem dX5_take_64 : decode cX5_take 64 = .ok (.iload_n 1, 1) := by decide +kernel
theorem dX5_take_65 : decode cX5_take 65 = .ok (.invokevirtual 98, 3) := by decide +kernel
theorem dX5_take_68 : decode cX5_take 68 = .ok (.goto 8, 3) := by decide +kernel
theorem dX5_take_71 : decode cX5_take 71 = .ok (.aload_n 0, 1) := by decide +kernel
theorem dX5_take_72 : decode cX5_take 72 = .ok (.iload_n 1, 1) := by decide +kernel
theorem dX5_take_73 : decode cX5_take 73 = .ok (.invokevirtual 101, 3) := by decide +kernel
theorem dX5_take_76 : decode cX5_take 76 = .ok (.return_, 1) := by decide +kernel
theorem dX5_takeFirst_0 : decode cX5_takeFirst 0 = .ok (.iload_n 1, 1) := by decide +kernel
theorem dX5_takeFirst_1 : decode cX5_takeFirst 1 = .ok (.bipush (-54), 2) := by decide +kernel
theorem dX5_takeFirst_3 : decode cX5_takeFirst 3 = .ok (.if_icmp .eq 17, 3) := by decide +kernel
theorem dX5_takeFirst_6 : decode cX5_takeFirst 6 = .ok (.iload_n 1, 1) := by decide +kernel
theorem dX5_takeFirst_7 : decode cX5_takeFirst 7 = .ok (.bipush (-55), 2) := by decide +kernel
theorem dX5_takeFirst_9 : decode cX5_takeFirst 9 = .ok (.if_icmp .eq 11, 3) := by decide +kernel
theorem dX5_takeFirst_12 : decode cX5_takeFirst 12 = .ok (.aload_n 0, 1) := by decide +kernel
theorem dX5_takeFirst_13 : decode cX5_takeFirst 13 = .ok (.iconst 1, 1) := by decide +kernel
theorem dX5_takeFirst_14 : decode cX5_takeFirst 14 = .ok (.invokevirtual 92, 3) := by decide +kernel
theorem dX5_takeFirst_17 : decode cX5_takeFirst 17 = .ok (.goto 126, 3) := by decide +kernel
theorem dX5_takeFirst_20 : decode cX5_takeFirst 20 = .ok (.iload_n 1, 1) := by decide +kernel
theorem dX5_takeFirst_21 : decode cX5_takeFirst 21 = .ok (.bipush (-54), 2) := by decide +kernel
theorem dX5_takeFirst_23 : decode cX5_takeFirst 23 = .ok (.if_icmp .ne 18, 3) := by decide +kernel
theorem dX5_takeFirst_26 : decode cX5_takeFirst 26 = .ok (.aload_n 0, 1) := by decide +kernel
theorem dX5_takeFirst_27 : decode cX5_takeFirst 27 = .ok (.getfield 35, 3) := by decide +kernel
theorem dX5_takeFirst_30 : decode cX5_takeFirst 30 = .ok (.ifCond .eq 11, 3) := by decide +kernel
theorem dX5_takeFirst_33 : decode cX5_takeFirst 33 = .ok (.aload_n 0, 1) := by decide +kernel
theorem dX5_takeFirst_34 : decode cX5_takeFirst 34 = .ok (.iconst 4, 1) := by decide +kernel
theorem dX5_takeFirst_35 : decode cX5_takeFirst 35 = .ok (.invokevirtual 92, 3) := by decide +kernel
theorem dX5_takeFirst_38 : decode cX5_takeFirst 38 = .ok (.goto 105, 3) := by decide +kernel
theorem dX5_takeFirst_41 : decode cX5_takeFirst 41 = .ok (.aload_n 0, 1) := by decide +kernel
theorem dX5_takeFirst_42 : decode cX5_takeFirst 42 = .ok (.getfield 32, 3) := by decide +kernel
theorem dX5_takeFirst_45 : decode cX5_takeFirst 45 = .ok (.bipush 10, 2) := by decide +kernel
theorem dX5_takeFirst_47 : decode cX5_takeFirst 47 = .ok (.if_icmp .lt 11, 3) := by decide +kernel
theorem dX5_takeFirst_50 : decode cX5_takeFirst 50 = .ok (.aload_n 0, 1) := by decide +kernel
theorem dX5_takeFirst_51 : decode cX5_takeFirst 51 = .ok (.iconst 5, 1) := by decide +kernel
theorem dX5_takeFirst_52 : decode cX5_takeFirst 52 = .ok (.invokevirtual 92, 3) := by decide +kernel
theorem dX5_takeFirst_55 : decode cX5_takeFirst 55 = .ok (.goto 88, 3) := by decide +kernel
theorem dX5_takeFirst_58 : decode cX5_takeFirst 58 = .ok (.aload_n 0, 1) := by decide +kernel
theorem dX5_takeFirst_59 : decode cX5_takeFirst 59 = .ok (.dup, 1) := by decide +kernel
theorem dX5_takeFirst_60 : decode cX5_takeFirst 60 = .ok (.getfield 32, 3) := by decide +kernel
theorem dX5_takeFirst_63 : decode cX5_takeFirst 63 = .ok (.iconst 1, 1) := by decide +kernel
theorem dX5_takeFirst_64 : decode cX5_takeFirst 64 = .ok (.iadd, 1) := by decide +kernel
theorem dX5_takeFirst_65 : decode cX5_takeFirst 65 = .ok (.putfield 32, 3) := by decide +kernel
theorem dX5_takeFirst_68 : decode cX5_takeFirst 68 = .ok (.aload_n 0, 1) := by decide +kernel
theorem dX5_takeFirst_69 : decode cX5_takeFirst 69 = .ok (.aload_n 0, 1) := by decide +kernel
theorem dX5_takeFirst_70 : decode cX5_takeFirst 70 = .ok (.getfield 35, 3) := by decide +kernel
theorem dX5_takeFirst_73 : decode cX5_takeFirst 73 = .ok (.ifCond .ne 9, 3) := by decide +kernel
theorem dX5_takeFirst_76 : decode cX5_takeFirst 76 = .ok (.iload_n 1, 1) := by decide +kernel
theorem dX5_takeFirst_77 : decode cX5_takeFirst 77 = .ok (.bipush (-54), 2) := by decide +kernel
theorem dX5_takeFirst_79 : decode cX5_takeFirst 79 = .ok (.if_icmp .ne 7, 3) := by decide +kernel
theorem dX5_takeFirst_82 : decode cX5_takeFirst 82 = .ok (.iconst 1, 1) := by decide +kernel
theorem dX5_takeFirst_83 : decode cX5_takeFirst 83 = .ok (.goto 4, 3) := by decide +kernel
theorem dX5_takeFirst_86 : decode cX5_takeFirst 86 = .ok (.iconst 0, 1) := by decide +kernel
theorem dX5_takeFirst_87 : decode cX5_takeFirst 87 = .ok (.putfield 35, 3) := by decide +kernel
theorem dX5_takeFirst_90 : decode cX5_takeFirst 90 = .ok (.aload_n 0, 1) := by decide +kernel
theorem dX5_takeFirst_91 : decode cX5_takeFirst 91 = .ok (.iconst 1, 1) := by decide +kernel
theorem dX5_takeFirst_92 : decode cX5_takeFirst 92 = .ok (.putfield 39, 3) := by decide +kernel
theorem dX5_takeFirst_95 : decode cX5_takeFirst 95 = .ok (.aload_n 0, 1) := by decide +kernel
theorem dX5_takeFirst_96 : decode cX5_takeFirst 96 = .ok (.iload_n 1, 1) := by decide +kernel
theorem dX5_takeFirst_97 : decode cX5_takeFirst 97 = .ok (.bipush (-55), 2) := by decide +kernel
theorem dX5_takeFirst_99 : decode cX5_takeFirst 99 = .ok (.if_icmp .ne 7, 3) := by decide +kernel
theorem dX5_takeFirst_102 : decode cX5_takeFirst 102 = .ok (.iconst 1, 1) := by decide +kernel
theorem dX5_takeFirst_103 : decode cX5_takeFirst 103 = .ok (.goto 4, 3) := by decide +kernel
theorem dX5_takeFirst_106 : decode cX5_takeFirst 106 = .ok (.iconst 0, 1) := by decide +kernel
theorem dX5_takeFirst_107 : decode cX5_takeFirst 107 = .ok (.putfield 42, 3) := by decide +kernel
theorem dX5_takeFirst_110 : decode cX5_takeFirst 110 = .ok (.aload_n 0, 1) := by decide +kernel
theorem dX5_takeFirst_111 : decode cX5_takeFirst 111 = .ok (.iconst 1, 1) := by decide +kernel
theorem dX5_takeFirst_112 : decode cX5_takeFirst 112 = .ok (.putfield 45, 3) := by decide +kernel
theorem dX5_takeFirst_115 : decode cX5_takeFirst 115 = .ok (.aload_n 0, 1) := by decide +kernel
theorem dX5_takeFirst_116 : decode cX5_takeFirst 116 = .ok (.aload_n 0, 1) := by decide +kernel
theorem dX5_takeFirst_117 : decode cX5_takeFirst 117 = .ok (.getfield 42, 3) := by decide +kernel
theorem dX5_takeFirst_120 : decode cX5_takeFirst 120 = .ok (.putfield 48, 3) := by decide +kernel
theorem dX5_takeFirst_123 : decode cX5_takeFirst 123 = .ok (.aload_n 0, 1) := by decide +kernel
theorem dX5_takeFirst_124 : decode cX5_takeFirst 124 = .ok (.iconst 0, 1) := by decide +kernel
theorem dX5_takeFirst_125 : decode cX5_takeFirst 125 = .ok (.putfield 51, 3) := by decide +kernel
theorem dX5_takeFirst_128 : decode cX5_takeFirst 128 = .ok (.aload_n 0, 1) := by decide +kernel
theorem dX5_takeFirst_129 : decode cX5_takeFirst 129 = .ok (.iconst 0, 1) := by decide +kernel
theorem dX5_takeFirst_130 : decode cX5_takeFirst 130 = .ok (.putfield 22, 3) := by decide +kernel
theorem dX5_takeFirst_133 : decode cX5_takeFirst 133 = .ok (.aload_n 0, 1) := by decide +kernel
theorem dX5_takeFirst_134 : decode cX5_takeFirst 134 = .ok (.iconst 0, 1) := by decide +kernel
theorem dX5_takeFirst_135 : decode cX5_takeFirst 135 = .ok (.putfield 26, 3) := by decide +kernel
theorem dX5_takeFirst_138 : decode cX5_takeFirst 138 = .ok (.aload_n 0, 1) := by decide +kernel
theorem dX5_takeFirst_139 : decode cX5_takeFirst 139 = .ok (.iconst 0, 1) := by decide +kernel
theorem dX5_takeFirst_140 : decode cX5_takeFirst 140 = .ok (.putfield 29, 3) := by decide +kernel
theorem dX5_takeFirst_143 : decode cX5_takeFirst 143 = .ok (.return_, 1) := by decide +kernel
theorem dX5_takeOne_0 : decode cX5_takeOne 0 = .ok (.iload_n 1, 1) := by decide +kernel
theorem dX5_takeOne_1 : decode cX5_takeOne 1 = .ok (.bipush (-56), 2) := by decide +kernel
theorem dX5_takeOne_3 : decode cX5_takeOne 3 = .ok (.if_icmp .ne 24, 3) := by decide +kernel
theorem dX5_takeOne_6 : decode cX5_takeOne 6 = .ok (.aload_n 0, 1) := by decide +kernel
theorem dX5_takeOne_7 : decode cX5_takeOne 7 = .ok (.getfield 12, 3) := by decide +kernel
theorem dX5_takeOne_10 : decode cX5_takeOne 10 = .ok (.getfield 104, 3) := by decide +kernel
theorem dX5_takeOne_13 : decode cX5_takeOne 13 = .ok (.sipush 9999, 3) := by decide +kernel
theorem dX5_takeOne_16 : decode cX5_takeOne 16 = .ok (.if_icmp .le 11, 3) := by decide +kernel
theorem dX5_takeOne_19 : decode cX5_takeOne 19 = .ok (.aload_n 0, 1) := by decide +kernel
theorem dX5_takeOne_20 : decode cX5_takeOne 20 = .ok (.iconst 2, 1) := by decide +kernel
theorem dX5_takeOne_21 : decode cX5_takeOne 21 = .ok (.invokevirtual 92, 3) := by decide +kernel
theorem dX5_takeOne_24 : decode cX5_takeOne 24 = .ok (.goto 101, 3) := by decide +kernel
theorem dX5_takeOne_27 : decode cX5_takeOne 27 = .ok (.iload_n 1, 1) := by decide +kernel
theorem dX5_takeOne_28 : decode cX5_takeOne 28 = .ok (.bipush (-56), 2) := by decide +kernel
theorem dX5_takeOne_30 : decode cX5_takeOne 30 = .ok (.if_icmp .ne 22, 3) := by decide +kernel
theorem dX5_takeOne_33 : decode cX5_takeOne 33 = .ok (.aload_n 0, 1) := by decide +kernel
theorem dX5_takeOne_34 : decode cX5_takeOne 34 = .ok (.aload_n 0, 1) := by decide +kernel
theorem dX5_takeOne_35 : decode cX5_takeOne 35 = .ok (.getfield 12, 3) := by decide +kernel
theorem dX5_takeOne_38 : decode cX5_takeOne 38 = .ok (.getfield 104, 3) := by decide +kernel
theorem dX5_takeOne_41 : decode cX5_takeOne 41 = .ok (.invokevirtual 107, 3) := by decide +kernel
theorem dX5_takeOne_44 : decode cX5_takeOne 44 = .ok (.aload_n 0, 1) := by decide +kernel
theorem dX5_takeOne_45 : decode cX5_takeOne 45 = .ok (.iconst 0, 1) := by decide +kernel
theorem dX5_takeOne_46 : decode cX5_takeOne 46 = .ok (.putfield 45, 3) := by decide +kernel
theorem dX5_takeOne_49 : decode cX5_takeOne 49 = .ok (.goto 76, 3) := by decide +kernel
theorem dX5_takeOne_52 : decode cX5_takeOne 52 = .ok (.iload_n 1, 1) := by decide +kernel
theorem dX5_takeOne_53 : decode cX5_takeOne 53 = .ok (.bipush (-17), 2) := by decide +kernel
theorem dX5_takeOne_55 : decode cX5_takeOne 55 = .ok (.bipush (-11), 2) := by decide +kernel
theorem dX5_takeOne_57 : decode cX5_takeOne 57 = .ok (.invokestatic 110, 3) := by decide +kernel
theorem dX5_takeOne_60 : decode cX5_takeOne 60 = .ok (.ifCond .eq 16, 3) := by decide +kernel
theorem dX5_takeOne_63 : decode cX5_takeOne 63 = .ok (.aload_n 0, 1) := by decide +kernel
theorem dX5_takeOne_64 : decode cX5_takeOne 64 = .ok (.iload_n 1, 1) := by decide +kernel
theorem dX5_takeOne_65 : decode cX5_takeOne 65 = .ok (.invokevirtual 107, 3) := by decide +kernel
theorem dX5_takeOne_68 : decode cX5_takeOne 68 = .ok (.aload_n 0, 1) := by decide +kernel
theorem dX5_takeOne_69 : decode cX5_takeOne 69 = .ok (.iconst 0, 1) := by decide +kernel
theorem dX5_takeOne_70 : decode cX5_takeOne 70 = .ok (.putfield 45, 3) := by decide +kernel
theorem dX5_takeOne_73 : decode cX5_takeOne 73 = .ok (.goto 52, 3) := by decide +kernel
theorem dX5_takeOne_76 : decode cX5_takeOne 76 = .ok (.iload_n 1, 1) := by decide +kernel
theorem dX5_takeOne_77 : decode cX5_takeOne 77 = .ok (.bipush (-51), 2) := by decide +kernel
theorem dX5_takeOne_79 : decode cX5_takeOne 79 = .ok (.if_icmp .eq 22, 3) := by decide +kernel
theorem dX5_takeOne_82 : decode cX5_takeOne 82 = .ok (.iload_n 1, 1) := by decide +kernel
theorem dX5_takeOne_83 : decode cX5_takeOne 83 = .ok (.bipush (-22), 2) := by decide +kernel
theorem dX5_takeOne_85 : decode cX5_takeOne 85 = .ok (.if_icmp .eq 16, 3) := by decide +kernel
theorem dX5_takeOne_88 : decode cX5_takeOne 88 = .ok (.iload_n 1, 1) := by decide +kernel
theorem dX5_takeOne_89 : decode cX5_takeOne 89 = .ok (.bipush (-41), 2) := by decide +kernel
theorem dX5_takeOne_91 : decode cX5_takeOne 91 = .ok (.if_icmp .ne 29, 3) := by decide +kernel
theorem dX5_takeOne_94 : decode cX5_takeOne 94 = .ok (.aload_n 0, 1) := by decide +kernel
theorem dX5_takeOne_95 : decode cX5_takeOne 95 = .ok (.getfield 48, 3) := by decide +kernel
theorem dX5_takeOne_98 : decode cX5_takeOne 98 = .ok (.ifCond .eq 22, 3) := by decide +kernel
theorem dX5_takeOne_101 : decode cX5_takeOne 101 = .ok (.aload_n 0, 1) := by decide +kernel
theorem dX5_takeOne_102 : decode cX5_takeOne 102 = .ok (.iload_n 1, 1) := by decide +kernel
theorem dX5_takeOne_103 : decode cX5_takeOne 103 = .ok (.bipush (-22), 2) := by decide +kernel
theorem dX5_takeOne_105 : decode cX5_takeOne 105 = .ok (.if_icmp .ne 8, 3) := by decide +kernel
theorem dX5_takeOne_108 : decode cX5_takeOne 108 = .ok (.bipush (-25), 2) := by decide +kernel
theorem dX5_takeOne_110 : decode cX5_takeOne 110 = .ok (.goto 4, 3) := by decide +kernel
theorem dX5_takeOne_113 : decode cX5_takeOne 113 = .ok (.iload_n 1, 1) := by decide +kernel
theorem dX5_takeOne_114 : decode cX5_takeOne 114 = .ok (.invokevirtual 114, 3) := by decide +kernel
theorem dX5_takeOne_117 : decode cX5_takeOne 117 = .ok (.goto 8, 3) := by decide +kernel
theorem dX5_takeOne_120 : decode cX5_takeOne 120 = .ok (.aload_n 0, 1) := by decide +kernel
theorem dX5_takeOne_121 : decode cX5_takeOne 121 = .ok (.iconst 1, 1) := by decide +kernel
theorem dX5_takeOne_122 : decode cX5_takeOne 122 = .ok (.invokevirtual 92, 3) := by decide +kernel
theorem dX5_takeOne_125 : decode cX5_takeOne 125 = .ok (.return_, 1) := by decide +kernel
theorem dX5_openUp_0 : decode cX5_openUp 0 = .ok (.aload_n 0, 1) := by decide +kernel
theorem dX5_openUp_1 : decode cX5_openUp 1 = .ok (.getfield 26, 3) := by decide +kernel
theorem dX5_openUp_4 : decode cX5_openUp 4 = .ok (.bipush 8, 2) := by decide +kernel
theorem dX5_openUp_6 : decode cX5_openUp 6 = .ok (.if_icmp .lt 9, 3) := by decide +kernel
theorem dX5_openUp_9 : decode cX5_openUp 9 = .ok (.aload_n 0, 1) := by decide +kernel
theorem dX5_openUp_10 : decode cX5_openUp 10 = .ok (.iconst 3, 1) := by decide +kernel
theorem dX5_openUp_11 : decode cX5_openUp 11 = .ok (.invokevirtual 92, 3) := by decide +kernel
theorem dX5_openUp_14 : decode cX5_openUp 14 = .ok (.return_, 1) := by decide +kernel
theorem dX5_openUp_15 : decode cX5_openUp 15 = .ok (.aload_n 0, 1) := by decide +kernel
theorem dX5_openUp_16 : decode cX5_openUp 16 = .ok (.dup, 1) := by decide +kernel
theorem dX5_openUp_17 : decode cX5_openUp 17 = .ok (.getfield 26, 3) := by decide +kernel
theorem dX5_openUp_20 : decode cX5_openUp 20 = .ok (.iconst 1, 1) := by decide +kernel
theorem dX5_openUp_21 : decode cX5_openUp 21 = .ok (.iadd, 1) := by decide +kernel
theorem dX5_openUp_22 : decode cX5_openUp 22 = .ok (.putfield 26, 3) := by decide +kernel
theorem dX5_openUp_25 : decode cX5_openUp 25 = .ok (.iload_n 1, 1) := by decide +kernel
theorem dX5_openUp_26 : decode cX5_openUp 26 = .ok (.bipush (-51), 2) := by decide +kernel
theorem dX5_openUp_28 : decode cX5_openUp 28 = .ok (.if_icmp .ne 13, 3) := by decide +kernel
theorem dX5_openUp_31 : decode cX5_openUp 31 = .ok (.aload_n 0, 1) := by decide +kernel
theorem dX5_openUp_32 : decode cX5_openUp 32 = .ok (.dup, 1) := by decide +kernel
theorem dX5_openUp_33 : decode cX5_openUp 33 = .ok (.getfield 29, 3) := by decide +kernel
theorem dX5_openUp_36 : decode cX5_openUp 36 = .ok (.iconst 1, 1) := by decide +kernel
theorem dX5_openUp_37 : decode cX5_openUp 37 = .ok (.iadd, 1) := by decide +kernel
theorem dX5_openUp_38 : decode cX5_openUp 38 = .ok (.putfield 29, 3) := by decide +kernel
theorem dX5_openUp_41 : decode cX5_openUp 41 = .ok (.aload_n 0, 1) := by decide +kernel
theorem dX5_openUp_42 : decode cX5_openUp 42 = .ok (.iload_n 1, 1) := by decide +kernel
theorem dX5_openUp_43 : decode cX5_openUp 43 = .ok (.bipush (-41), 2) := by decide +kernel
theorem dX5_openUp_45 : decode cX5_openUp 45 = .ok (.if_icmp .ne 7, 3) := by decide +kernel
theorem dX5_openUp_48 : decode cX5_openUp 48 = .ok (.iconst 1, 1) := by decide +kernel
theorem dX5_openUp_49 : decode cX5_openUp 49 = .ok (.goto 4, 3) := by decide +kernel
theorem dX5_openUp_52 : decode cX5_openUp 52 = .ok (.iconst 0, 1) := by decide +kernel
theorem dX5_openUp_53 : decode cX5_openUp 53 = .ok (.putfield 48, 3) := by decide +kernel
theorem dX5_openUp_56 : decode cX5_openUp 56 = .ok (.aload_n 0, 1) := by decide +kernel
theorem dX5_openUp_57 : decode cX5_openUp 57 = .ok (.iload_n 1, 1) := by decide +kernel
theorem dX5_openUp_58 : decode cX5_openUp 58 = .ok (.invokevirtual 117, 3) := by decide +kernel
theorem dX5_openUp_61 : decode cX5_openUp 61 = .ok (.return_, 1) := by decide +kernel
theorem dX5_takeBehindOne_0 : decode cX5_takeBehindOne 0 = .ok (.iload_n 1, 1) := by decide +kernel
theorem dX5_takeBehindOne_1 : decode cX5_takeBehindOne 1 = .ok (.bipush (-24), 2) := by decide +kernel
theorem dX5_takeBehindOne_3 : decode cX5_takeBehindOne 3 = .ok (.bipush (-21), 2) := by decide +kernel
theorem dX5_takeBehindOne_5 : decode cX5_takeBehindOne 5 = .ok (.invokestatic 110, 3) := by decide +kernel
theorem dX5_takeBehindOne_8 : decode cX5_takeBehindOne 8 = .ok (.ifCond .eq 11, 3) := by decide +kernel
theorem dX5_takeBehindOne_11 : decode cX5_takeBehindOne 11 = .ok (.aload_n 0, 1) := by decide +kernel
theorem dX5_takeBehindOne_12 : decode cX5_takeBehindOne 12 = .ok (.iload_n 1, 1) := by decide +kernel
theorem dX5_takeBehindOne_13 : decode cX5_takeBehindOne 13 = .ok (.invokevirtual 120, 3) := by decide +kernel
theorem dX5_takeBehindOne_16 : decode cX5_takeBehindOne 16 = .ok (.goto 148, 3) := by decide +kernel
theorem dX5_takeBehindOne_19 : decode cX5_takeBehindOne 19 = .ok (.iload_n 1, 1) := by decide +kernel
theorem dX5_takeBehindOne_20 : decode cX5_takeBehindOne 20 = .ok (.bipush (-52), 2) := by decide +kernel
theorem dX5_takeBehindOne_22 : decode cX5_takeBehindOne 22 = .ok (.if_icmp .ne 17, 3) := by decide +kernel
theorem dX5_takeBehindOne_25 : decode cX5_takeBehindOne 25 = .ok (.aload_n 0, 1) := by decide +kernel
theorem dX5_takeBehindOne_26 : decode cX5_takeBehindOne 26 = .ok (.getfield 29, 3) := by decide +kernel
theorem dX5_takeBehindOne_29 : decode cX5_takeBehindOne 29 = .ok (.ifCond .le 10, 3) := by decide +kernel
theorem dX5_takeBehindOne_32 : decode cX5_takeBehindOne 32 = .ok (.aload_n 0, 1) := by decide +kernel
theorem dX5_takeBehindOne_33 : decode cX5_takeBehindOne 33 = .ok (.invokevirtual 123, 3) := by decide +kernel
theorem dX5_takeBehindOne_36 : decode cX5_takeBehindOne 36 = .ok (.goto 128, 3) := by decide +kernel
theorem dX5_takeBehindOne_39 : decode cX5_takeBehindOne 39 = .ok (.iload_n 1, 1) := by decide +kernel
theorem dX5_takeBehindOne_40 : decode cX5_takeBehindOne 40 = .ok (.bipush (-36), 2) := by decide +kernel
theorem dX5_takeBehindOne_42 : decode cX5_takeBehindOne 42 = .ok (.bipush (-31), 2) := by decide +kernel
theorem dX5_takeBehindOne_44 : decode cX5_takeBehindOne 44 = .ok (.invokestatic 110, 3) := by decide +kernel
theorem dX5_takeBehindOne_47 : decode cX5_takeBehindOne 47 = .ok (.ifCond .eq 37, 3) := by decide +kernel
theorem dX5_takeBehindOne_50 : decode cX5_takeBehindOne 50 = .ok (.aload_n 0, 1) := by decide +kernel
theorem dX5_takeBehindOne_51 : decode cX5_takeBehindOne 51 = .ok (.getfield 42, 3) := by decide +kernel
theorem dX5_takeBehindOne_54 : decode cX5_takeBehindOne 54 = .ok (.ifCond .eq 30, 3) := by decide +kernel
theorem dX5_takeBehindOne_57 : decode cX5_takeBehindOne 57 = .ok (.aload_n 0, 1) := by decide +kernel
theorem dX5_takeBehindOne_58 : decode cX5_takeBehindOne 58 = .ok (.getfield 29, 3) := by decide +kernel
theorem dX5_takeBehindOne_61 : decode cX5_takeBehindOne 61 = .ok (.ifCond .ne 23, 3) := by decide +kernel
theorem dX5_takeBehindOne_64 : decode cX5_takeBehindOne 64 = .ok (.aload_n 0, 1) := by decide +kernel
theorem dX5_takeBehindOne_65 : decode cX5_takeBehindOne 65 = .ok (.getfield 51, 3) := by decide +kernel
theorem dX5_takeBehindOne_68 : decode cX5_takeBehindOne 68 = .ok (.ifCond .ne 16, 3) := by decide +kernel
theorem dX5_takeBehindOne_71 : decode cX5_takeBehindOne 71 = .ok (.aload_n 0, 1) := by decide +kernel
theorem dX5_takeBehindOne_72 : decode cX5_takeBehindOne 72 = .ok (.iload_n 1, 1) := by decide +kernel
theorem dX5_takeBehindOne_73 : decode cX5_takeBehindOne 73 = .ok (.invokevirtual 120, 3) := by decide +kernel
theorem dX5_takeBehindOne_76 : decode cX5_takeBehindOne 76 = .ok (.aload_n 0, 1) := by decide +kernel
theorem dX5_takeBehindOne_77 : decode cX5_takeBehindOne 77 = .ok (.iconst 1, 1) := by decide +kernel
theorem dX5_takeBehindOne_78 : decode cX5_takeBehindOne 78 = .ok (.putfield 51, 3) := by decide +kernel
theorem dX5_takeBehindOne_81 : decode cX5_takeBehindOne 81 = .ok (.goto 83, 3) := by decide +kernel
theorem dX5_takeBehindOne_84 : decode cX5_takeBehindOne 84 = .ok (.iload_n 1, 1) := by decide +kernel
theorem dX5_takeBehindOne_85 : decode cX5_takeBehindOne 85 = .ok (.bipush (-42), 2) := by decide +kernel
theorem dX5_takeBehindOne_87 : decode cX5_takeBehindOne 87 = .ok (.if_icmp .eq 9, 3) := by decide +kernel
theorem dX5_takeBehindOne_90 : decode cX5_takeBehindOne 90 = .ok (.iload_n 1, 1) := by decide +kernel
theorem dX5_takeBehindOne_91 : decode cX5_takeBehindOne 91 = .ok (.bipush (-43), 2) := by decide +kernel
theorem dX5_takeBehindOne_93 : decode cX5_takeBehindOne 93 = .ok (.if_icmp .ne 35, 3) := by decide +kernel
theorem dX5_takeBehindOne_96 : decode cX5_takeBehindOne 96 = .ok (.aload_n 0, 1) := by decide +kernel
theorem dX5_takeBehindOne_97 : decode cX5_takeBehindOne 97 = .ok (.getfield 29, 3) := by decide +kernel
theorem dX5_takeBehindOne_100 : decode cX5_takeBehindOne 100 = .ok (.ifCond .ne 28, 3) := by decide +kernel
theorem dX5_takeBehindOne_103 : decode cX5_takeBehindOne 103 = .ok (.aload_n 0, 1) := by decide +kernel
theorem dX5_takeBehindOne_104 : decode cX5_takeBehindOne 104 = .ok (.getfield 51, 3) := by decide +kernel
theorem dX5_takeBehindOne_107 : decode cX5_takeBehindOne 107 = .ok (.ifCond .eq 21, 3) := by decide +kernel
theorem dX5_takeBehindOne_110 : decode cX5_takeBehindOne 110 = .ok (.aload_n 0, 1) := by decide +kernel
theorem dX5_takeBehindOne_111 : decode cX5_takeBehindOne 111 = .ok (.iload_n 1, 1) := by decide +kernel
theorem dX5_takeBehindOne_112 : decode cX5_takeBehindOne 112 = .ok (.invokevirtual 120, 3) := by decide +kernel
theorem dX5_takeBehindOne_115 : decode cX5_takeBehindOne 115 = .ok (.aload_n 0, 1) := by decide +kernel
theorem dX5_takeBehindOne_116 : decode cX5_takeBehindOne 116 = .ok (.iconst 0, 1) := by decide +kernel
theorem dX5_takeBehindOne_117 : decode cX5_takeBehindOne 117 = .ok (.putfield 51, 3) := by decide +kernel
theorem dX5_takeBehindOne_120 : decode cX5_takeBehindOne 120 = .ok (.aload_n 0, 1) := by decide +kernel
theorem dX5_takeBehindOne_121 : decode cX5_takeBehindOne 121 = .ok (.iconst 1, 1) := by decide +kernel
theorem dX5_takeBehindOne_122 : decode cX5_takeBehindOne 122 = .ok (.putfield 48, 3) := by decide +kernel
theorem dX5_takeBehindOne_125 : decode cX5_takeBehindOne 125 = .ok (.goto 39, 3) := by decide +kernel
theorem dX5_takeBehindOne_128 : decode cX5_takeBehindOne 128 = .ok (.iload_n 1, 1) := by decide +kernel
theorem dX5_takeBehindOne_129 : decode cX5_takeBehindOne 129 = .ok (.bipush (-53), 2) := by decide +kernel
theorem dX5_takeBehindOne_131 : decode cX5_takeBehindOne 131 = .ok (.if_icmp .ne 28, 3) := by decide +kernel
theorem dX5_takeBehindOne_134 : decode cX5_takeBehindOne 134 = .ok (.aload_n 0, 1) := by decide +kernel
theorem dX5_takeBehindOne_135 : decode cX5_takeBehindOne 135 = .ok (.getfield 29, 3) := by decide +kernel
theorem dX5_takeBehindOne_138 : decode cX5_takeBehindOne 138 = .ok (.ifCond .ne 21, 3) := by decide +kernel
theorem dX5_takeBehindOne_141 : decode cX5_takeBehindOne 141 = .ok (.aload_n 0, 1) := by decide +kernel
theorem dX5_takeBehindOne_142 : decode cX5_takeBehindOne 142 = .ok (.getfield 51, 3) := by decide +kernel
theorem dX5_takeBehindOne_145 : decode cX5_takeBehindOne 145 = .ok (.aload_n 0, 1) := by decide +kernel
theorem dX5_takeBehindOne_146 : decode cX5_takeBehindOne 146 = .ok (.getfield 42, 3) := by decide +kernel
theorem dX5_takeBehindOne_149 : decode cX5_takeBehindOne 149 = .ok (.if_icmp .ne 10, 3) := by decide +kernel
theorem dX5_takeBehindOne_152 : decode cX5_takeBehindOne 152 = .ok (.aload_n 0, 1) := by decide +kernel
theorem dX5_takeBehindOne_153 : decode cX5_takeBehindOne 153 = .ok (.invokevirtual 126, 3) := by decide +kernel
theorem dX5_takeBehindOne_156 : decode cX5_takeBehindOne 156 = .ok (.goto 8, 3) := by decide +kernel
theorem dX5_takeBehindOne_159 : decode cX5_takeBehindOne 159 = .ok (.aload_n 0, 1) := by decide +kernel
theorem dX5_takeBehindOne_160 : decode cX5_takeBehindOne 160 = .ok (.iconst 1, 1) := by decide +kernel
theorem dX5_takeBehindOne_161 : decode cX5_takeBehindOne 161 = .ok (.invokevirtual 92, 3) := by decide +kernel
theorem dX5_takeBehindOne_164 : decode cX5_takeBehindOne 164 = .ok (.return_, 1) := by decide +kernel
theorem dX5_awaitNext_0 : decode cX5_awaitNext 0 = .ok (.aload_n 0, 1) := by decide +kernel
theorem dX5_awaitNext_1 : decode cX5_awaitNext 1 = .ok (.iload_n 1, 1) := by decide +kernel
theorem dX5_awaitNext_2 : decode cX5_awaitNext 2 = .ok (.invokestatic 129, 3) := by decide +kernel
theorem dX5_awaitNext_5 : decode cX5_awaitNext 5 = .ok (.invokevirtual 133, 3) := by decide +kernel
theorem dX5_awaitNext_8 : decode cX5_awaitNext 8 = .ok (.aload_n 0, 1) := by decide +kernel
theorem dX5_awaitNext_9 : decode cX5_awaitNext 9 = .ok (.iload_n 1, 1) := by decide +kernel
theorem dX5_awaitNext_10 : decode cX5_awaitNext 10 = .ok (.invokevirtual 117, 3) := by decide +kernel
theorem dX5_awaitNext_13 : decode cX5_awaitNext 13 = .ok (.aload_n 0, 1) := by decide +kernel
theorem dX5_awaitNext_14 : decode cX5_awaitNext 14 = .ok (.iconst 1, 1) := by decide +kernel
theorem dX5_awaitNext_15 : decode cX5_awaitNext 15 = .ok (.putfield 45, 3) := by decide +kernel
theorem dX5_awaitNext_18 : decode cX5_awaitNext 18 = .ok (.aload_n 0, 1) := by decide +kernel
theorem dX5_awaitNext_19 : decode cX5_awaitNext 19 = .ok (.iconst 0, 1) := by decide +kernel
theorem dX5_awaitNext_20 : decode cX5_awaitNext 20 = .ok (.putfield 48, 3) := by decide +kernel
theorem dX5_awaitNext_23 : decode cX5_awaitNext 23 = .ok (.return_, 1) := by decide +kernel
theorem dX5_closeBracket_0 : decode cX5_closeBracket 0 = .ok (.aload_n 0, 1) := by decide +kernel
theorem dX5_closeBracket_1 : decode cX5_closeBracket 1 = .ok (.iconst 1, 1) := by decide +kernel
theorem dX5_closeBracket_2 : decode cX5_closeBracket 2 = .ok (.invokevirtual 133, 3) := by decide +kernel
theorem dX5_closeBracket_5 : decode cX5_closeBracket 5 = .ok (.aload_n 0, 1) := by decide +kernel
theorem dX5_closeBracket_6 : decode cX5_closeBracket 6 = .ok (.iconst 0, 1) := by decide +kernel
theorem dX5_closeBracket_7 : decode cX5_closeBracket 7 = .ok (.aload_n 0, 1) := by decide +kernel
theorem dX5_closeBracket_8 : decode cX5_closeBracket 8 = .ok (.getfield 22, 3) := by decide +kernel
theorem dX5_closeBracket_11 : decode cX5_closeBracket 11 = .ok (.iconst 1, 1) := by decide +kernel
theorem dX5_closeBracket_12 : decode cX5_closeBracket 12 = .ok (.isub, 1) := by decide +kernel
theorem dX5_closeBracket_13 : decode cX5_closeBracket 13 = .ok (.invokestatic 136, 3) := by decide +kernel
theorem dX5_closeBracket_16 : decode cX5_closeBracket 16 = .ok (.putfield 22, 3) := by decide +kernel
theorem dX5_closeBracket_19 : decode cX5_closeBracket 19 = .ok (.aload_n 0, 1) := by decide +kernel
theorem dX5_closeBracket_20 : decode cX5_closeBracket 20 = .ok (.dup, 1) := by decide +kernel
theorem dX5_closeBracket_21 : decode cX5_closeBracket 21 = .ok (.getfield 26, 3) := by decide +kernel
theorem dX5_closeBracket_24 : decode cX5_closeBracket 24 = .ok (.iconst 1, 1) := by decide +kernel
theorem dX5_closeBracket_25 : decode cX5_closeBracket 25 = .ok (.isub, 1) := by decide +kernel
theorem dX5_closeBracket_26 : decode cX5_closeBracket 26 = .ok (.putfield 26, 3) := by decide +kernel
theorem dX5_closeBracket_29 : decode cX5_closeBracket 29 = .ok (.aload_n 0, 1) := by decide +kernel
theorem dX5_closeBracket_30 : decode cX5_closeBracket 30 = .ok (.dup, 1) := by decide +kernel
theorem dX5_closeBracket_31 : decode cX5_closeBracket 31 = .ok (.getfield 29, 3) := by decide +kernel
theorem dX5_closeBracket_34 : decode cX5_closeBracket 34 = .ok (.iconst 1, 1) := by decide +kernel
theorem dX5_closeBracket_35 : decode cX5_closeBracket 35 = .ok (.isub, 1) := by decide +kernel
theorem dX5_closeBracket_36 : decode cX5_closeBracket 36 = .ok (.putfield 29, 3) := by decide +kernel
theorem dX5_closeBracket_39 : decode cX5_closeBracket 39 = .ok (.return_, 1) := by decide +kernel
theorem dX5_endClause_0 : decode cX5_endClause 0 = .ok (.aload_n 0, 1) := by decide +kernel
theorem dX5_endClause_1 : decode cX5_endClause 1 = .ok (.iconst 1, 1) := by decide +kernel
theorem dX5_endClause_2 : decode cX5_endClause 2 = .ok (.invokevirtual 133, 3) := by decide +kernel
theorem dX5_endClause_5 : decode cX5_endClause 5 = .ok (.aload_n 0, 1) := by decide +kernel
theorem dX5_endClause_6 : decode cX5_endClause 6 = .ok (.iconst 0, 1) := by decide +kernel
theorem dX5_endClause_7 : decode cX5_endClause 7 = .ok (.putfield 39, 3) := by decide +kernel
theorem dX5_endClause_10 : decode cX5_endClause 10 = .ok (.aload_n 0, 1) := by decide +kernel
theorem dX5_endClause_11 : decode cX5_endClause 11 = .ok (.getfield 42, 3) := by decide +kernel
theorem dX5_endClause_14 : decode cX5_endClause 14 = .ok (.ifCond .eq 16, 3) := by decide +kernel
theorem dX5_endClause_17 : decode cX5_endClause 17 = .ok (.aload_n 0, 1) := by decide +kernel
theorem dX5_endClause_18 : decode cX5_endClause 18 = .ok (.getfield 54, 3) := by decide +kernel
theorem dX5_endClause_21 : decode cX5_endClause 21 = .ok (.ifCond .eq 9, 3) := by decide +kernel
theorem dX5_endClause_24 : decode cX5_endClause 24 = .ok (.aload_n 0, 1) := by decide +kernel
theorem dX5_endClause_25 : decode cX5_endClause 25 = .ok (.bipush (-43), 2) := by decide +kernel
theorem dX5_endClause_27 : decode cX5_endClause 27 = .ok (.invokevirtual 107, 3) := by decide +kernel
theorem dX5_endClause_30 : decode cX5_endClause 30 = .ok (.aload_n 0, 1) := by decide +kernel
theorem dX5_endClause_31 : decode cX5_endClause 31 = .ok (.aload_n 0, 1) := by decide +kernel
theorem dX5_endClause_32 : decode cX5_endClause 32 = .ok (.getfield 54, 3) := by decide +kernel
theorem dX5_endClause_35 : decode cX5_endClause 35 = .ok (.ifCond .ne 10, 3) := by decide +kernel
theorem dX5_endClause_38 : decode cX5_endClause 38 = .ok (.aload_n 0, 1) := by decide +kernel
theorem dX5_endClause_39 : decode cX5_endClause 39 = .ok (.getfield 42, 3) := by decide +kernel
theorem dX5_endClause_42 : decode cX5_endClause 42 = .ok (.ifCond .eq 7, 3) := by decide +kernel
theorem dX5_endClause_45 : decode cX5_endClause 45 = .ok (.iconst 1, 1) := by decide +kernel
theorem dX5_endClause_46 : decode cX5_endClause 46 = .ok (.goto 4, 3) := by decide +kernel
theorem dX5_endClause_49 : decode cX5_endClause 49 = .ok (.iconst 0, 1) := by decide +kernel
theorem dX5_endClause_50 : decode cX5_endClause 50 = .ok (.putfield 54, 3) := by decide +kernel
theorem dX5_endClause_53 : decode cX5_endClause 53 = .ok (.return_, 1) := by decide +kernel
theorem dX5_await_0 : decode cX5_await 0 = .ok (.aload_n 0, 1) := by decide +kernel
theorem dX5_await_1 : decode cX5_await 1 = .ok (.getfield 22, 3) := by decide +kernel
theorem dX5_await_4 : decode cX5_await 4 = .ok (.iconst 0, 1) := by decide +kernel
theorem dX5_await_5 : decode cX5_await 5 = .ok (.aload_n 0, 1) := by decide +kernel
theorem dX5_await_6 : decode cX5_await 6 = .ok (.getfield 18, 3) := by decide +kernel
theorem dX5_await_9 : decode cX5_await 9 = .ok (.arraylength, 1) := by decide +kernel
theorem dX5_await_10 : decode cX5_await 10 = .ok (.iconst 1, 1) := by decide +kernel
theorem dX5_await_11 : decode cX5_await 11 = .ok (.isub, 1) := by decide +kernel
theorem dX5_await_12 : decode cX5_await 12 = .ok (.invokestatic 110, 3) := by decide +kernel
theorem dX5_await_15 : decode cX5_await 15 = .ok (.ifCond .eq 23, 3) := by decide +kernel
theorem dX5_await_18 : decode cX5_await 18 = .ok (.aload_n 0, 1) := by decide +kernel
theorem dX5_await_19 : decode cX5_await 19 = .ok (.getfield 18, 3) := by decide +kernel
theorem dX5_await_22 : decode cX5_await 22 = .ok (.aload_n 0, 1) := by decide +kernel
theorem dX5_await_23 : decode cX5_await 23 = .ok (.getfield 22, 3) := by decide +kernel
theorem dX5_await_26 : decode cX5_await 26 = .ok (.iload_n 1, 1) := by decide +kernel
theorem dX5_await_27 : decode cX5_await 27 = .ok (.iastore, 1) := by decide +kernel
theorem dX5_await_28 : decode cX5_await 28 = .ok (.aload_n 0, 1) := by decide +kernel
theorem dX5_await_29 : decode cX5_await 29 = .ok (.dup, 1) := by decide +kernel
theorem dX5_await_30 : decode cX5_await 30 = .ok (.getfield 22, 3) := by decide +kernel
theorem dX5_await_33 : decode cX5_await 33 = .ok (.iconst 1, 1) := by decide +kernel
theorem dX5_await_34 : decode cX5_await 34 = .ok (.iadd, 1) := by decide +kernel
theorem dX5_await_35 : decode cX5_await 35 = .ok (.putfield 22, 3) := by decide +kernel
theorem dX5_await_38 : decode cX5_await 38 = .ok (.return_, 1) := by decide +kernel
theorem dX5_unwind_0 : decode cX5_unwind 0 = .ok (.aload_n 0, 1) := by decide +kernel
theorem dX5_unwind_1 : decode cX5_unwind 1 = .ok (.getfield 22, 3) := by decide +kernel
theorem dX5_unwind_4 : decode cX5_unwind 4 = .ok (.aload_n 0, 1) := by decide +kernel
theorem dX5_unwind_5 : decode cX5_unwind 5 = .ok (.getfield 18, 3) := by decide +kernel
theorem dX5_unwind_8 : decode cX5_unwind 8 = .ok (.arraylength, 1) := by decide +kernel
theorem dX5_unwind_9 : decode cX5_unwind 9 = .ok (.invokestatic 142, 3) := by decide +kernel
theorem dX5_unwind_12 : decode cX5_unwind 12 = .ok (.iconst 1, 1) := by decide +kernel
theorem dX5_unwind_13 : decode cX5_unwind 13 = .ok (.isub, 1) := by decide +kernel
theorem dX5_unwind_14 : decode cX5_unwind 14 = .ok (.istore_n 2, 1) := by decide +kernel
theorem dX5_unwind_15 : decode cX5_unwind 15 = .ok (.iload_n 2, 1) := by decide +kernel
theorem dX5_unwind_16 : decode cX5_unwind 16 = .ok (.ifCond .lt 57, 3) := by decide +kernel
theorem dX5_unwind_19 : decode cX5_unwind 19 = .ok (.aload_n 0, 1) := by decide +kernel
theorem dX5_unwind_20 : decode cX5_unwind 20 = .ok (.getfield 18, 3) := by decide +kernel
theorem dX5_unwind_23 : decode cX5_unwind 23 = .ok (.iload_n 2, 1) := by decide +kernel
theorem dX5_unwind_24 : decode cX5_unwind 24 = .ok (.iaload, 1) := by decide +kernel
theorem dX5_unwind_25 : decode cX5_unwind 25 = .ok (.istore_n 3, 1) := by decide +kernel
theorem dX5_unwind_26 : decode cX5_unwind 26 = .ok (.iload_n 3, 1) := by decide +kernel
theorem dX5_unwind_27 : decode cX5_unwind 27 = .ok (.invokestatic 129, 3) := by decide +kernel
theorem dX5_unwind_30 : decode cX5_unwind 30 = .ok (.iload_n 1, 1) := by decide +kernel
theorem dX5_unwind_31 : decode cX5_unwind 31 = .ok (.if_icmp .ge 4, 3) := by decide +kernel
theorem dX5_unwind_34 : decode cX5_unwind 34 = .ok (.return_, 1) := by decide +kernel
theorem dX5_unwind_35 : decode cX5_unwind 35 = .ok (.aload_n 0, 1) := by decide +kernel
theorem dX5_unwind_36 : decode cX5_unwind 36 = .ok (.iload_n 3, 1) := by decide +kernel
theorem dX5_unwind_37 : decode cX5_unwind 37 = .ok (.invokevirtual 107, 3) := by decide +kernel
theorem dX5_unwind_40 : decode cX5_unwind 40 = .ok (.iload_n 3, 1) := by decide +kernel
theorem dX5_unwind_41 : decode cX5_unwind 41 = .ok (.bipush (-25), 2) := by decide +kernel
theorem dX5_unwind_43 : decode cX5_unwind 43 = .ok (.if_icmp .eq 9, 3) := by decide +kernel
theorem dX5_unwind_46 : decode cX5_unwind 46 = .ok (.iload_n 3, 1) := by decide +kernel
theorem dX5_unwind_47 : decode cX5_unwind 47 = .ok (.bipush (-41), 2) := by decide +kernel
theorem dX5_unwind_49 : decode cX5_unwind 49 = .ok (.if_icmp .ne 13, 3) := by decide +kernel
theorem dX5_unwind_52 : decode cX5_unwind 52 = .ok (.aload_n 0, 1) := by decide +kernel
theorem dX5_unwind_53 : decode cX5_unwind 53 = .ok (.dup, 1) := by decide +kernel
theorem dX5_unwind_54 : decode cX5_unwind 54 = .ok (.getfield 26, 3) := by decide +kernel
theorem dX5_unwind_57 : decode cX5_unwind 57 = .ok (.iconst 1, 1) := by decide +kernel
theorem dX5_unwind_58 : decode cX5_unwind 58 = .ok (.isub, 1) := by decide +kernel
theorem dX5_unwind_59 : decode cX5_unwind 59 = .ok (.putfield 26, 3) := by decide +kernel
theorem dX5_unwind_62 : decode cX5_unwind 62 = .ok (.aload_n 0, 1) := by decide +kernel
theorem dX5_unwind_63 : decode cX5_unwind 63 = .ok (.iload_n 2, 1) := by decide +kernel
theorem dX5_unwind_64 : decode cX5_unwind 64 = .ok (.putfield 22, 3) := by decide +kernel
theorem dX5_unwind_67 : decode cX5_unwind 67 = .ok (.iinc 2 (-1), 3) := by decide +kernel
theorem dX5_unwind_70 : decode cX5_unwind 70 = .ok (.goto (-55), 3) := by decide +kernel
theorem dX5_unwind_73 : decode cX5_unwind 73 = .ok (.return_, 1) := by decide +kernel
theorem dX5_emit_0 : decode cX5_emit 0 = .ok (.aload_n 0, 1) := by decide +kernel
theorem dX5_emit_1 : decode cX5_emit 1 = .ok (.getfield 42, 3) := by decide +kernel
theorem dX5_emit_4 : decode cX5_emit 4 = .ok (.ifCond .eq 50, 3) := by decide +kernel
theorem dX5_emit_7 : decode cX5_emit 7 = .ok (.aload_n 0, 1) := by decide +kernel
theorem dX5_emit_8 : decode cX5_emit 8 = .ok (.getfield 69, 3) := by decide +kernel
theorem dX5_emit_11 : decode cX5_emit 11 = .ok (.getfield 145, 3) := by decide +kernel
theorem dX5_emit_14 : decode cX5_emit 14 = .ok (.aload_n 0, 1) := by decide +kernel
theorem dX5_emit_15 : decode cX5_emit 15 = .ok (.getfield 69, 3) := by decide +kernel
theorem dX5_emit_18 : decode cX5_emit 18 = .ok (.getfield 148, 3) := by decide +kernel
theorem dX5_emit_21 : decode cX5_emit 21 = .ok (.arraylength, 1) := by decide +kernel
theorem dX5_emit_22 : decode cX5_emit 22 = .ok (.if_icmp .ge 32, 3) := by decide +kernel
theorem dX5_emit_25 : decode cX5_emit 25 = .ok (.aload_n 0, 1) := by decide +kernel
theorem dX5_emit_26 : decode cX5_emit 26 = .ok (.getfield 69, 3) := by decide +kernel
theorem dX5_emit_29 : decode cX5_emit 29 = .ok (.getfield 148, 3) := by decide +kernel
theorem dX5_emit_32 : decode cX5_emit 32 = .ok (.aload_n 0, 1) := by decide +kernel
theorem dX5_emit_33 : decode cX5_emit 33 = .ok (.getfield 69, 3) := by decide +kernel
theorem dX5_emit_36 : decode cX5_emit 36 = .ok (.getfield 145, 3) := by decide +kernel
theorem dX5_emit_39 : decode cX5_emit 39 = .ok (.iload_n 1, 1) := by decide +kernel
theorem dX5_emit_40 : decode cX5_emit 40 = .ok (.iastore, 1) := by decide +kernel
theorem dX5_emit_41 : decode cX5_emit 41 = .ok (.aload_n 0, 1) := by decide +kernel
theorem dX5_emit_42 : decode cX5_emit 42 = .ok (.getfield 69, 3) := by decide +kernel
theorem dX5_emit_45 : decode cX5_emit 45 = .ok (.dup, 1) := by decide +kernel
theorem dX5_emit_46 : decode cX5_emit 46 = .ok (.getfield 145, 3) := by decide +kernel
theorem dX5_emit_49 : decode cX5_emit 49 = .ok (.iconst 1, 1) := by decide +kernel
theorem dX5_emit_50 : decode cX5_emit 50 = .ok (.iadd, 1) := by decide +kernel
theorem dX5_emit_51 : decode cX5_emit 51 = .ok (.putfield 145, 3) := by decide +kernel
theorem dX5_emit_54 : decode cX5_emit 54 = .ok (.aload_n 0, 1) := by decide +kernel
theorem dX5_emit_55 : decode cX5_emit 55 = .ok (.getfield 42, 3) := by decide +kernel
theorem dX5_emit_58 : decode cX5_emit 58 = .ok (.ifCond .ne 50, 3) := by decide +kernel
theorem dX5_emit_61 : decode cX5_emit 61 = .ok (.aload_n 0, 1) := by decide +kernel
theorem dX5_emit_62 : decode cX5_emit 62 = .ok (.getfield 69, 3) := by decide +kernel
theorem dX5_emit_65 : decode cX5_emit 65 = .ok (.getfield 151, 3) := by decide +kernel
theorem dX5_emit_68 : decode cX5_emit 68 = .ok (.aload_n 0, 1) := by decide +kernel
theorem dX5_emit_69 : decode cX5_emit 69 = .ok (.getfield 69, 3) := by decide +kernel
theorem dX5_emit_72 : decode cX5_emit 72 = .ok (.getfield 154, 3) := by decide +kernel
theorem dX5_emit_75 : decode cX5_emit 75 = .ok (.arraylength, 1) := by decide +kernel
theorem dX5_emit_76 : decode cX5_emit 76 = .ok (.if_icmp .ge 32, 3) := by decide +kernel
theorem dX5_emit_79 : decode cX5_emit 79 = .ok (.aload_n 0, 1) := by decide +kernel
theorem dX5_emit_80 : decode cX5_emit 80 = .ok (.getfield 69, 3) := by decide +kernel
theorem dX5_emit_83 : decode cX5_emit 83 = .ok (.getfield 154, 3) := by decide +kernel
theorem dX5_emit_86 : decode cX5_emit 86 = .ok (.aload_n 0, 1) := by decide +kernel
theorem dX5_emit_87 : decode cX5_emit 87 = .ok (.getfield 69, 3) := by decide +kernel
theorem dX5_emit_90 : decode cX5_emit 90 = .ok (.getfield 151, 3) := by decide +kernel
theorem dX5_emit_93 : decode cX5_emit 93 = .ok (.iload_n 1, 1) := by decide +kernel
theorem dX5_emit_94 : decode cX5_emit 94 = .ok (.iastore, 1) := by decide +kernel
theorem dX5_emit_95 : decode cX5_emit 95 = .ok (.aload_n 0, 1) := by decide +kernel
theorem dX5_emit_96 : decode cX5_emit 96 = .ok (.getfield 69, 3) := by decide +kernel
theorem dX5_emit_99 : decode cX5_emit 99 = .ok (.dup, 1) := by decide +kernel
theorem dX5_emit_100 : decode cX5_emit 100 = .ok (.getfield 151, 3) := by decide +kernel
theorem dX5_emit_103 : decode cX5_emit 103 = .ok (.iconst 1, 1) := by decide +kernel
theorem dX5_emit_104 : decode cX5_emit 104 = .ok (.iadd, 1) := by decide +kernel
theorem dX5_emit_105 : decode cX5_emit 105 = .ok (.putfield 151, 3) := by decide +kernel
theorem dX5_emit_108 : decode cX5_emit 108 = .ok (.return_, 1) := by decide +kernel
theorem dX5_strength_0 : decode cX5_strength 0 = .ok (.iload_n 0, 1) := by decide +kernel
theorem dX5_strength_1 : decode cX5_strength 1 = .ok (.tableswitch 123 (-43) (-21) #[107, 109, 111, 123, 123, 123, 123, 113, 113, 113, 113, 113, 113, 123, 123, 123, 123, 123, 120, 117, 117, 115, 115], 107) := by decide +kernel
theorem dX5_strength_108 : decode cX5_strength 108 = .ok (.iconst 1, 1) := by decide +kernel
theorem dX5_strength_109 : decode cX5_strength 109 = .ok (.ireturn, 1) := by decide +kernel
theorem dX5_strength_110 : decode cX5_strength 110 = .ok (.iconst 2, 1) := by decide +kernel
theorem dX5_strength_111 : decode cX5_strength 111 = .ok (.ireturn, 1) := by decide +kernel
theorem dX5_strength_112 : decode cX5_strength 112 = .ok (.iconst 3, 1) := by decide +kernel
theorem dX5_strength_113 : decode cX5_strength 113 = .ok (.ireturn, 1) := by decide +kernel
theorem dX5_strength_114 : decode cX5_strength 114 = .ok (.iconst 4, 1) := by decide +kernel
theorem dX5_strength_115 : decode cX5_strength 115 = .ok (.ireturn, 1) := by decide +kernel
theorem dX5_strength_116 : decode cX5_strength 116 = .ok (.iconst 5, 1) := by decide +kernel
theorem dX5_strength_117 : decode cX5_strength 117 = .ok (.ireturn, 1) := by decide +kernel
theorem dX5_strength_118 : decode cX5_strength 118 = .ok (.bipush 6, 2) := by decide +kernel
theorem dX5_strength_120 : decode cX5_strength 120 = .ok (.ireturn, 1) := by decide +kernel
theorem dX5_strength_121 : decode cX5_strength 121 = .ok (.bipush 7, 2) := by decide +kernel
theorem dX5_strength_123 : decode cX5_strength 123 = .ok (.ireturn, 1) := by decide +kernel
theorem dX5_strength_124 : decode cX5_strength 124 = .ok (.iconst 0, 1) := by decide +kernel
theorem dX5_strength_125 : decode cX5_strength 125 = .ok (.ireturn, 1) := by decide +kernel
theorem dX6_init_0 : decode cX6_init 0 = .ok (.aload_n 0, 1) := by decide +kernel
theorem dX6_init_1 : decode cX6_init 1 = .ok (.invokespecial 3, 3) := by decide +kernel
theorem dX6_init_4 : decode cX6_init 4 = .ok (.aload_n 0, 1) := by decide +kernel
theorem dX6_init_5 : decode cX6_init 5 = .ok (.sipush 300, 3) := by decide +kernel
theorem dX6_init_8 : decode cX6_init 8 = .ok (.newarray .int, 2) := by decide +kernel
theorem dX6_init_10 : decode cX6_init 10 = .ok (.putfield 9, 3) := by decide +kernel
theorem dX6_init_13 : decode cX6_init 13 = .ok (.aload_n 0, 1) := by decide +kernel
theorem dX6_init_14 : decode cX6_init 14 = .ok (.iconst 0, 1) := by decide +kernel
theorem dX6_init_15 : decode cX6_init 15 = .ok (.putfield 15, 3) := by decide +kernel
theorem dX6_init_18 : decode cX6_init 18 = .ok (.aload_n 0, 1) := by decide +kernel
theorem dX6_init_19 : decode cX6_init 19 = .ok (.iconst 0, 1) := by decide +kernel
theorem dX6_init_20 : decode cX6_init 20 = .ok (.putfield 19, 3) := by decide +kernel
theorem dX6_init_23 : decode cX6_init 23 = .ok (.aload_n 0, 1) := by decide +kernel
theorem dX6_init_24 : decode cX6_init 24 = .ok (.iconst 0, 1) := by decide +kernel
theorem dX6_init_25 : decode cX6_init 25 = .ok (.putfield 22, 3) := by decide +kernel
theorem dX6_init_28 : decode cX6_init 28 = .ok (.aload_n 0, 1) := by decide +kernel
theorem dX6_init_29 : decode cX6_init 29 = .ok (.bipush (-57), 2) := by decide +kernel
theorem dX6_init_31 : decode cX6_init 31 = .ok (.putfield 25, 3) := by decide +kernel
theorem dX6_init_34 : decode cX6_init 34 = .ok (.aload_n 0, 1) := by decide +kernel
theorem dX6_init_35 : decode cX6_init 35 = .ok (.iconst 0, 1) := by decide +kernel
theorem dX6_init_36 : decode cX6_init 36 = .ok (.putfield 28, 3) := by decide +kernel
theorem dX6_init_39 : decode cX6_init 39 = .ok (.return_, 1) := by decide +kernel
theorem dX6_restart_0 : decode cX6_restart 0 = .ok (.aload_n 0, 1) := by decide +kernel
theorem dX6_restart_1 : decode cX6_restart 1 = .ok (.iload_n 1, 1) := by decide +kernel
theorem dX6_restart_2 : decode cX6_restart 2 = .ok (.putfield 15, 3) := by decide +kernel
theorem dX6_restart_5 : decode cX6_restart 5 = .ok (.aload_n 0, 1) := by decide +kernel
theorem dX6_restart_6 : decode cX6_restart 6 = .ok (.iconst 0, 1) := by decide +kernel
theorem dX6_restart_7 : decode cX6_restart 7 = .ok (.putfield 19, 3) := by decide +kernel
theorem dX6_restart_10 : decode cX6_restart 10 = .ok (.return_, 1) := by decide +kernel
theorem dX6_next_0 : decode cX6_next 0 = .ok (.aload_n 0, 1) := by decide +kernel
theorem dX6_next_1 : decode cX6_next 1 = .ok (.getfield 19, 3) := by decide +kernel
theorem dX6_next_4 : decode cX6_next 4 = .ok (.aload_n 0, 1) := by decide +kernel
theorem dX6_next_5 : decode cX6_next 5 = .ok (.getfield 15, 3) := by decide +kernel
theorem dX6_next_8 : decode cX6_next 8 = .ok (.if_icmp .ge 30, 3) := by decide +kernel
theorem dX6_next_11 : decode cX6_next 11 = .ok (.aload_n 0, 1) := by decide +kernel
theorem dX6_next_12 : decode cX6_next 12 = .ok (.aload_n 0, 1) := by decide +kernel
theorem dX6_next_13 : decode cX6_next 13 = .ok (.getfield 19, 3) := by decide +kernel
theorem dX6_next_16 : decode cX6_next 16 = .ok (.invokevirtual 31, 3) := by decide +kernel
theorem dX6_next_19 : decode cX6_next 19 = .ok (.invokestatic 35, 3) := by decide +kernel
theorem dX6_next_22 : decode cX6_next 22 = .ok (.ifCond .eq 16, 3) := by decide +kernel
theorem dX6_next_25 : decode cX6_next 25 = .ok (.aload_n 0, 1) := by decide +kernel
theorem dX6_next_26 : decode cX6_next 26 = .ok (.dup, 1) := by decide +kernel
theorem dX6_next_27 : decode cX6_next 27 = .ok (.getfield 19, 3) := by decide +kernel
theorem dX6_next_30 : decode cX6_next 30 = .ok (.iconst 1, 1) := by decide +kernel
theorem dX6_next_31 : decode cX6_next 31 = .ok (.iadd, 1) := by decide +kernel
theorem dX6_next_32 : decode cX6_next 32 = .ok (.putfield 19, 3) := by decide +kernel
theorem dX6_next_35 : decode cX6_next 35 = .ok (.goto (-35), 3) := by decide +kernel
theorem dX6_next_38 : decode cX6_next 38 = .ok (.aload_n 0, 1) := by decide +kernel
theorem dX6_next_39 : decode cX6_next 39 = .ok (.aload_n 0, 1) := by decide +kernel
theorem dX6_next_40 : decode cX6_next 40 = .ok (.getfield 19, 3) := by decide +kernel
theorem dX6_next_43 : decode cX6_next 43 = .ok (.putfield 22, 3) := by decide +kernel
theorem dX6_next_46 : decode cX6_next 46 = .ok (.aload_n 0, 1) := by decide +kernel
theorem dX6_next_47 : decode cX6_next 47 = .ok (.aload_n 0, 1) := by decide +kernel
theorem dX6_next_48 : decode cX6_next 48 = .ok (.getfield 19, 3) := by decide +kernel
theorem dX6_next_51 : decode cX6_next 51 = .ok (.invokevirtual 31, 3) := by decide +kernel
theorem dX6_next_54 : decode cX6_next 54 = .ok (.istore_n 1, 1) := by decide +kernel
theorem dX6_next_55 : decode cX6_next 55 = .ok (.iload_n 1, 1) := by decide +kernel
theorem dX6_next_56 : decode cX6_next 56 = .ok (.iconst (-1), 1) := by decide +kernel
theorem dX6_next_57 : decode cX6_next 57 = .ok (.if_icmp .ne 12, 3) := by decide +kernel
theorem dX6_next_60 : decode cX6_next 60 = .ok (.aload_n 0, 1) := by decide +kernel
theorem dX6_next_61 : decode cX6_next 61 = .ok (.bipush (-57), 2) := by decide +kernel
theorem dX6_next_63 : decode cX6_next 63 = .ok (.putfield 25, 3) := by decide +kernel
theorem dX6_next_66 : decode cX6_next 66 = .ok (.goto 64, 3) := by decide +kernel
theorem dX6_next_69 : decode cX6_next 69 = .ok (.iload_n 1, 1) := by decide +kernel
theorem dX6_next_70 : decode cX6_next 70 = .ok (.invokestatic 39, 3) := by decide +kernel
theorem dX6_next_73 : decode cX6_next 73 = .ok (.ifCond .eq 18, 3) := by decide +kernel
theorem dX6_next_76 : decode cX6_next 76 = .ok (.aload_n 0, 1) := by decide +kernel
theorem dX6_next_77 : decode cX6_next 77 = .ok (.invokevirtual 42, 3) := by decide +kernel
theorem dX6_next_80 : decode cX6_next 80 = .ok (.aload_n 0, 1) := by decide +kernel
theorem dX6_next_81 : decode cX6_next 81 = .ok (.aload_n 0, 1) := by decide +kernel
theorem dX6_next_82 : decode cX6_next 82 = .ok (.invokevirtual 45, 3) := by decide +kernel
theorem dX6_next_85 : decode cX6_next 85 = .ok (.putfield 25, 3) := by decide +kernel
theorem dX6_next_88 : decode cX6_next 88 = .ok (.goto 42, 3) := by decide +kernel
theorem dX6_next_91 : decode cX6_next 91 = .ok (.iload_n 1, 1) := by decide +kernel
theorem dX6_next_92 : decode cX6_next 92 = .ok (.invokestatic 49, 3) := by decide +kernel
theorem dX6_next_95 : decode cX6_next 95 = .ok (.ifCond .eq 16, 3) := by decide +kernel
theorem dX6_next_98 : decode cX6_next 98 = .ok (.aload_n 0, 1) := by decide +kernel
theorem dX6_next_99 : decode cX6_next 99 = .ok (.invokevirtual 52, 3) := by decide +kernel
theorem dX6_next_102 : decode cX6_next 102 = .ok (.aload_n 0, 1) := by decide +kernel
theorem dX6_next_103 : decode cX6_next 103 = .ok (.bipush (-56), 2) := by decide +kernel
theorem dX6_next_105 : decode cX6_next 105 = .ok (.putfield 25, 3) := by decide +kernel
theorem dX6_next_108 : decode cX6_next 108 = .ok (.goto 22, 3) := by decide +kernel
theorem dX6_next_111 : decode cX6_next 111 = .ok (.aload_n 0, 1) := by decide +kernel
theorem dX6_next_112 : decode cX6_next 112 = .ok (.dup, 1) := by decide +kernel
theorem dX6_next_113 : decode cX6_next 113 = .ok (.getfield 19, 3) := by decide +kernel
theorem dX6_next_116 : decode cX6_next 116 = .ok (.iconst 1, 1) := by decide +kernel
theorem dX6_next_117 : decode cX6_next 117 = .ok (.iadd, 1) := by decide +kernel
theorem dX6_next_118 : decode cX6_next 118 = .ok (.putfield 19, 3) := by decide +kernel
theorem dX6_next_121 : decode cX6_next 121 = .ok (.aload_n 0, 1) := by decide +kernel
theorem dX6_next_122 : decode cX6_next 122 = .ok (.aload_n 0, 1) := by decide +kernel
theorem dX6_next_123 : decode cX6_next 123 = .ok (.iload_n 1, 1) := by decide +kernel
theorem dX6_next_124 : decode cX6_next 124 = .ok (.invokevirtual 55, 3) := by decide +kernel
theorem dX6_next_127 : decode cX6_next 127 = .ok (.putfield 25, 3) := by decide +kernel
theorem dX6_next_130 : decode cX6_next 130 = .ok (.return_, 1) := by decide +kernel
theorem dX6_byteAt_0 : decode cX6_byteAt 0 = .ok (.iconst 0, 1) := by decide +kernel
theorem dX6_byteAt_1 : decode cX6_byteAt 1 = .ok (.iload_n 1, 1) := by decide +kernel
theorem dX6_byteAt_2 : decode cX6_byteAt 2 = .ok (.if_icmp .gt 29, 3) := by decide +kernel
theorem dX6_byteAt_5 : decode cX6_byteAt 5 = .ok (.iload_n 1, 1) := by decide +kernel
theorem dX6_byteAt_6 : decode cX6_byteAt 6 = .ok (.aload_n 0, 1) := by decide +kernel
theorem dX6_byteAt_7 : decode cX6_byteAt 7 = .ok (.getfield 15, 3) := by decide +kernel
theorem dX6_byteAt_10 : decode cX6_byteAt 10 = .ok (.if_icmp .ge 21, 3) := by decide +kernel
theorem dX6_byteAt_13 : decode cX6_byteAt 13 = .ok (.iload_n 1, 1) := by decide +kernel
theorem dX6_byteAt_14 : decode cX6_byteAt 14 = .ok (.aload_n 0, 1) := by decide +kernel
theorem dX6_byteAt_15 : decode cX6_byteAt 15 = .ok (.getfield 9, 3) := by decide +kernel
theorem dX6_byteAt_18 : decode cX6_byteAt 18 = .ok (.arraylength, 1) := by decide +kernel
theorem dX6_byteAt_19 : decode cX6_byteAt 19 = .ok (.if_icmp .ge 12, 3) := by decide +kernel
theorem dX6_byteAt_22 : decode cX6_byteAt 22 = .ok (.aload_n 0, 1) := by decide +kernel
theorem dX6_byteAt_23 : decode cX6_byteAt 23 = .ok (.getfield 9, 3) := by decide +kernel
theorem dX6_byteAt_26 : decode cX6_byteAt 26 = .ok (.iload_n 1, 1) := by decide +kernel
theorem dX6_byteAt_27 : decode cX6_byteAt 27 = .ok (.iaload, 1) := by decide +kernel
theorem dX6_byteAt_28 : decode cX6_byteAt 28 = .ok (.goto 4, 3) := by decide +kernel
theorem dX6_byteAt_31 : decode cX6_byteAt 31 = .ok (.iconst (-1), 1) := by decide +kernel
theorem dX6_byteAt_32 : decode cX6_byteAt 32 = .ok (.ireturn, 1) := by decide +kernel
theorem dX6_passLetters_0 : decode cX6_passLetters 0 = .ok (.aload_n 0, 1) := by decide +kernel
theorem dX6_passLetters_1 : decode cX6_passLetters 1 = .ok (.getfield 19, 3) := by decide +kernel
theorem dX6_passLetters_4 : decode cX6_passLetters 4 = .ok (.aload_n 0, 1) := by decide +kernel
theorem dX6_passLetters_5 : decode cX6_passLetters 5 = .ok (.getfield 15, 3) := by decide +kernel
theorem dX6_passLetters_8 : decode cX6_passLetters 8 = .ok (.if_icmp .ge 30, 3) := by decide +kernel
theorem dX6_passLetters_11 : decode cX6_passLetters 11 = .ok (.aload_n 0, 1) := by decide +kernel
theorem dX6_passLetters_12 : decode cX6_passLetters 12 = .ok (.aload_n 0, 1) := by decide +kernel
theorem dX6_passLetters_13 : decode cX6_passLetters 13 = .ok (.getfield 19, 3) := by decide +kernel
theorem dX6_passLetters_16 : decode cX6_passLetters 16 = .ok (.invokevirtual 31, 3) := by decide +kernel
theorem dX6_passLetters_19 : decode cX6_passLetters 19 = .ok (.invokestatic 39, 3) := by decide +kernel
theorem dX6_passLetters_22 : decode cX6_passLetters 22 = .ok (.ifCond .eq 16, 3) := by decide +kernel
theorem dX6_passLetters_25 : decode cX6_passLetters 25 = .ok (.aload_n 0, 1) := by decide +kernel
theorem dX6_passLetters_26 : decode cX6_passLetters 26 = .ok (.dup, 1) := by decide +kernel
theorem dX6_passLetters_27 : decode cX6_passLetters 27 = .ok (.getfield 19, 3) := by decide +kernel
theorem dX6_passLetters_30 : decode cX6_passLetters 30 = .ok (.iconst 1, 1) := by decide +kernel
theorem dX6_passLetters_31 : decode cX6_passLetters 31 = .ok (.iadd, 1) := by decide +kernel
theorem dX6_passLetters_32 : decode cX6_passLetters 32 = .ok (.putfield 19, 3) := by decide +kernel
theorem dX6_passLetters_35 : decode cX6_passLetters 35 = .ok (.goto (-35), 3) := by decide +kernel
theorem dX6_passLetters_38 : decode cX6_passLetters 38 = .ok (.return_, 1) := by decide +kernel
theorem dX6_readNumber_0 : decode cX6_readNumber 0 = .ok (.aload_n 0, 1) := by decide +kernel
theorem dX6_readNumber_1 : decode cX6_readNumber 1 = .ok (.iconst 0, 1) := by decide +kernel
theorem dX6_readNumber_2 : decode cX6_readNumber 2 = .ok (.putfield 28, 3) := by decide +kernel
theorem dX6_readNumber_5 : decode cX6_readNumber 5 = .ok (.aload_n 0, 1) := by decide +kernel
theorem dX6_readNumber_6 : decode cX6_readNumber 6 = .ok (.getfield 19, 3) := by decide +kernel
theorem dX6_readNumber_9 : decode cX6_readNumber 9 = .ok (.aload_n 0, 1) := by decide +kernel
theorem dX6_readNumber_10 : decode cX6_readNumber 10 = .ok (.getfield 15, 3) := by decide +kernel
theorem dX6_readNumber_13 : decode cX6_readNumber 13 = .ok (.if_icmp .ge 59, 3) := by decide +kernel
theorem dX6_readNumber_16 : decode cX6_readNumber 16 = .ok (.aload_n 0, 1) := by decide +kernel
theorem dX6_readNumber_17 : decode cX6_readNumber 17 = .ok (.aload_n 0, 1) := by decide +kernel
theorem dX6_readNumber_18 : decode cX6_readNumber 18 = .ok (.getfield 19, 3) := by decide +kernel
theorem dX6_readNumber_21 : decode cX6_readNumber 21 = .ok (.invokevirtual 31, 3) := by decide +kernel
theorem dX6_readNumber_24 : decode cX6_readNumber 24 = .ok (.invokestatic 49, 3) := by decide +kernel
theorem dX6_readNumber_27 : decode cX6_readNumber 27 = .ok (.ifCond .eq 45, 3) := by decide +kernel
theorem dX6_readNumber_30 : decode cX6_readNumber 30 = .ok (.aload_n 0, 1) := by decide +kernel
theorem dX6_readNumber_31 : decode cX6_readNumber 31 = .ok (.aload_n 0, 1) := by decide +kernel
theorem dX6_readNumber_32 : decode cX6_readNumber 32 = .ok (.getfield 28, 3) := by decide +kernel
theorem dX6_readNumber_35 : decode cX6_readNumber 35 = .ok (.bipush 10, 2) := by decide +kernel
theorem dX6_readNumber_37 : decode cX6_readNumber 37 = .ok (.imul, 1) := by decide +kernel
theorem dX6_readNumber_38 : decode cX6_readNumber 38 = .ok (.aload_n 0, 1) := by decide +kernel
theorem dX6_readNumber_39 : decode cX6_readNumber 39 = .ok (.aload_n 0, 1) := by decide +kernel
theorem dX6_readNumber_40 : decode cX6_readNumber 40 = .ok (.getfield 19, 3) := by decide +kernel
theorem dX6_readNumber_43 : decode cX6_readNumber 43 = .ok (.invokevirtual 31, 3) := by decide +kernel
theorem dX6_readNumber_46 : decode cX6_readNumber 46 = .ok (.iadd, 1) := by decide +kernel
theorem dX6_readNumber_47 : decode cX6_readNumber 47 = .ok (.bipush 48, 2) := by decide +kernel
theorem dX6_readNumber_49 : decode cX6_readNumber 49 = .ok (.isub, 1) := by decide +kernel
theorem dX6_readNumber_50 : decode cX6_readNumber 50 = .ok (.sipush 10000, 3) := by decide +kernel
theorem dX6_readNumber_53 : decode cX6_readNumber 53 = .ok (.invokestatic 58, 3) := by decide +kernel
theorem dX6_readNumber_56 : decode cX6_readNumber 56 = .ok (.putfield 28, 3) := by decide +kernel
theorem dX6_readNumber_59 : decode cX6_readNumber 59 = .ok (.aload_n 0, 1) := by decide +kernel
theorem dX6_readNumber_60 : decode cX6_readNumber 60 = .ok (.dup, 1) := by decide +kernel
theorem dX6_readNumber_61 : decode cX6_readNumber 61 = .ok (.getfield 19, 3) := by decide +kernel
theorem dX6_readNumber_64 : decode cX6_readNumber 64 = .ok (.iconst 1, 1) := by decide +kernel
theorem dX6_readNumber_65 : decode cX6_readNumber 65 = .ok (.iadd, 1) := by decide +kernel
theorem dX6_readNumber_66 : decode cX6_readNumber 66 = .ok (.putfield 19, 3) := by decide +kernel
theorem dX6_readNumber_69 : decode cX6_readNumber 69 = .ok (.goto (-64), 3) := by decide +kernel
theorem dX6_readNumber_72 : decode cX6_readNumber 72 = .ok (.return_, 1) := by decide +kernel
theorem dX6_signOf_0 : decode cX6_signOf 0 = .ok (.iload_n 1, 1) := by decide +kernel
theorem dX6_signOf_1 : decode cX6_signOf 1 = .ok (.tableswitch 184 35 62 #[160, 184, 184, 184, 184, 175, 178, 169, 163, 184, 166, 184, 172, 184, 184, 184, 184, 184, 184, 184, 184, 184, 184, 184, 181, 127, 157, 142], 127) := by decide +kernel
theorem dX6_signOf_128 : decode cX6_signOf 128 = .ok (.aload_n 0, 1) := by decide +kernel
theorem dX6_signOf_129 : decode cX6_signOf 129 = .ok (.invokevirtual 64, 3) := by decide +kernel
theorem dX6_signOf_132 : decode cX6_signOf 132 = .ok (.ifCond .eq 8, 3) := by decide +kernel
theorem dX6_signOf_135 : decode cX6_signOf 135 = .ok (.bipush (-32), 2) := by decide +kernel
theorem dX6_signOf_137 : decode cX6_signOf 137 = .ok (.goto 5, 3) := by decide +kernel
theorem dX6_signOf_140 : decode cX6_signOf 140 = .ok (.bipush (-31), 2) := by decide +kernel
theorem dX6_signOf_142 : decode cX6_signOf 142 = .ok (.ireturn, 1) := by decide +kernel
theorem dX6_signOf_143 : decode cX6_signOf 143 = .ok (.aload_n 0, 1) := by decide +kernel
theorem dX6_signOf_144 : decode cX6_signOf 144 = .ok (.invokevirtual 64, 3) := by decide +kernel
theorem dX6_signOf_147 : decode cX6_signOf 147 = .ok (.ifCond .eq 8, 3) := by decide +kernel
theorem dX6_signOf_150 : decode cX6_signOf 150 = .ok (.bipush (-34), 2) := by decide +kernel
theorem dX6_signOf_152 : decode cX6_signOf 152 = .ok (.goto 5, 3) := by decide +kernel
theorem dX6_signOf_155 : decode cX6_signOf 155 = .ok (.bipush (-33), 2) := by decide +kernel
theorem dX6_signOf_157 : decode cX6_signOf 157 = .ok (.ireturn, 1) := by decide +kernel
theorem dX6_signOf_158 : decode cX6_signOf 158 = .ok (.bipush (-35), 2) := by decide +kernel
theorem dX6_signOf_160 : decode cX6_signOf 160 = .ok (.ireturn, 1) := by decide +kernel
theorem dX6_signOf_161 : decode cX6_signOf 161 = .ok (.bipush (-36), 2) := by decide +kernel
theorem dX6_signOf_163 : decode cX6_signOf 163 = .ok (.ireturn, 1) := by decide +kernel
theorem dX6_signOf_164 : decode cX6_signOf 164 = .ok (.bipush (-21), 2) := by decide +kernel
theorem dX6_signOf_166 : decode cX6_signOf 166 = .ok (.ireturn, 1) := by decide +kernel
theorem dX6_signOf_167 : decode cX6_signOf 167 = .ok (.bipush (-22), 2) := by decide +kernel
theorem dX6_signOf_169 : decode cX6_signOf 169 = .ok (.ireturn, 1) := by decide +kernel
theorem dX6_signOf_170 : decode cX6_signOf 170 = .ok (.bipush (-23), 2) := by decide +kernel
theorem dX6_signOf_172 : decode cX6_signOf 172 = .ok (.ireturn, 1) := by decide +kernel
theorem dX6_signOf_173 : decode cX6_signOf 173 = .ok (.bipush (-24), 2) := by decide +kernel
theorem dX6_signOf_175 : decode cX6_signOf 175 = .ok (.ireturn, 1) := by decide +kernel
theorem dX6_signOf_176 : decode cX6_signOf 176 = .ok (.bipush (-51), 2) := by decide +kernel
theorem dX6_signOf_178 : decode cX6_signOf 178 = .ok (.ireturn, 1) := by decide +kernel
theorem dX6_signOf_179 : decode cX6_signOf 179 = .ok (.bipush (-52), 2) := by decide +kernel
theorem dX6_signOf_181 : decode cX6_signOf 181 = .ok (.ireturn, 1) := by decide +kernel
theorem dX6_signOf_182 : decode cX6_signOf 182 = .ok (.bipush (-53), 2) := by decide +kernel
theorem dX6_signOf_184 : decode cX6_signOf 184 = .ok (.ireturn, 1) := by decide +kernel
theorem dX6_signOf_185 : decode cX6_signOf 185 = .ok (.bipush (-58), 2) := by decide +kernel
theorem dX6_signOf_187 : decode cX6_signOf 187 = .ok (.ireturn, 1) := by decide +kernel
theorem dX6_passesEqual_0 : decode cX6_passesEqual 0 = .ok (.aload_n 0, 1) := by decide +kernel
theorem dX6_passesEqual_1 : decode cX6_passesEqual 1 = .ok (.aload_n 0, 1) := by decide +kernel
theorem dX6_passesEqual_2 : decode cX6_passesEqual 2 = .ok (.getfield 19, 3) := by decide +kernel
theorem dX6_passesEqual_5 : decode cX6_passesEqual 5 = .ok (.invokevirtual 31, 3) := by decide +kernel
theorem dX6_passesEqual_8 : decode cX6_passesEqual 8 = .ok (.bipush 61, 2) := by decide +kernel
theorem dX6_passesEqual_10 : decode cX6_passesEqual 10 = .ok (.if_icmp .eq 5, 3) := by decide +kernel
theorem dX6_passesEqual_13 : decode cX6_passesEqual 13 = .ok (.iconst 0, 1) := by decide +kernel
theorem dX6_passesEqual_14 : decode cX6_passesEqual 14 = .ok (.ireturn, 1) := by decide +kernel
theorem dX6_passesEqual_15 : decode cX6_passesEqual 15 = .ok (.aload_n 0, 1) := by decide +kernel
theorem dX6_passesEqual_16 : decode cX6_passesEqual 16 = .ok (.dup, 1) := by decide +kernel
theorem dX6_passesEqual_17 : decode cX6_passesEqual 17 = .ok (.getfield 19, 3) := by decide +kernel
theorem dX6_passesEqual_20 : decode cX6_passesEqual 20 = .ok (.iconst 1, 1) := by decide +kernel
theorem dX6_passesEqual_21 : decode cX6_passesEqual 21 = .ok (.iadd, 1) := by decide +kernel
theorem dX6_passesEqual_22 : decode cX6_passesEqual 22 = .ok (.putfield 19, 3) := by decide +kernel
theorem dX6_passesEqual_25 : decode cX6_passesEqual 25 = .ok (.iconst 1, 1) := by decide +kernel
theorem dX6_passesEqual_26 : decode cX6_passesEqual 26 = .ok (.ireturn, 1) := by decide +kernel
theorem dX6_wordSign_0 : decode cX6_wordSign 0 = .ok (.aload_n 0, 1) := by decide +kernel
theorem dX6_wordSign_1 : decode cX6_wordSign 1 = .ok (.ldc 68, 2) := by decide +kernel
theorem dX6_wordSign_3 : decode cX6_wordSign 3 = .ok (.invokevirtual 70, 3) := by decide +kernel
theorem dX6_wordSign_6 : decode cX6_wordSign 6 = .ok (.ifCond .eq 6, 3) := by decide +kernel
theorem dX6_wordSign_9 : decode cX6_wordSign 9 = .ok (.bipush (-54), 2) := by decide +kernel
theorem dX6_wordSign_11 : decode cX6_wordSign 11 = .ok (.ireturn, 1) := by decide +kernel
theorem dX6_wordSign_12 : decode cX6_wordSign 12 = .ok (.aload_n 0, 1) := by decide +kernel
theorem dX6_wordSign_13 : decode cX6_wordSign 13 = .ok (.ldc 74, 2) := by decide +kernel
theorem dX6_wordSign_15 : decode cX6_wordSign 15 = .ok (.invokevirtual 70, 3) := by decide +kernel
theorem dX6_wordSign_18 : decode cX6_wordSign 18 = .ok (.ifCond .eq 6, 3) := by decide +kernel
theorem dX6_wordSign_21 : decode cX6_wordSign 21 = .ok (.bipush (-55), 2) := by decide +kernel
theorem dX6_wordSign_23 : decode cX6_wordSign 23 = .ok (.ireturn, 1) := by decide +kernel
theorem dX6_wordSign_24 : decode cX6_wordSign 24 = .ok (.aload_n 0, 1) := by decide +kernel
theorem dX6_wordSign_25 : decode cX6_wordSign 25 = .ok (.ldc 76, 2) := by decide +kernel
theorem dX6_wordSign_27 : decode cX6_wordSign 27 = .ok (.invokevirtual 70, 3) := by decide +kernel
theorem dX6_wordSign_30 : decode cX6_wordSign 30 = .ok (.ifCond .eq 6, 3) := by decide +kernel
theorem dX6_wordSign_33 : decode cX6_wordSign 33 = .ok (.bipush (-43), 2) := by decide +kernel
theorem dX6_wordSign_35 : decode cX6_wordSign 35 = .ok (.ireturn, 1) := by decide +kernel
theorem dX6_wordSign_36 : decode cX6_wordSign 36 = .ok (.aload_n 0, 1) := by decide +kernel
theorem dX6_wordSign_37 : decode cX6_wordSign 37 = .ok (.ldc 78, 2) := by decide +kernel
theorem dX6_wordSign_39 : decode cX6_wordSign 39 = .ok (.invokevirtual 70, 3) := by decide +kernel
theorem dX6_wordSign_42 : decode cX6_wordSign 42 = .ok (.ifCond .eq 6, 3) := by decide +kernel
theorem dX6_wordSign_45 : decode cX6_wordSign 45 = .ok (.bipush (-42), 2) := by decide +kernel
theorem dX6_wordSign_47 : decode cX6_wordSign 47 = .ok (.ireturn, 1) := by decide +kernel
theorem dX6_wordSign_48 : decode cX6_wordSign 48 = .ok (.aload_n 0, 1) := by decide +kernel
theorem dX6_wordSign_49 : decode cX6_wordSign 49 = .ok (.ldc 80, 2) := by decide +kernel
theorem dX6_wordSign_51 : decode cX6_wordSign 51 = .ok (.invokevirtual 70, 3) := by decide +kernel
theorem dX6_wordSign_54 : decode cX6_wordSign 54 = .ok (.ifCond .eq 8, 3) := by decide +kernel
theorem dX6_wordSign_57 : decode cX6_wordSign 57 = .ok (.bipush (-41), 2) := by decide +kernel
theorem dX6_wordSign_59 : decode cX6_wordSign 59 = .ok (.goto 7, 3) := by decide +kernel
theorem dX6_wordSign_62 : decode cX6_wordSign 62 = .ok (.aload_n 0, 1) := by decide +kernel
theorem dX6_wordSign_63 : decode cX6_wordSign 63 = .ok (.invokevirtual 82, 3) := by decide +kernel
theorem dX6_wordSign_66 : decode cX6_wordSign 66 = .ok (.ireturn, 1) := by decide +kernel
theorem dX6_valueSign_0 : decode cX6_valueSign 0 = .ok (.aload_n 0, 1) := by decide +kernel
theorem dX6_valueSign_1 : decode cX6_valueSign 1 = .ok (.ldc 85, 2) := by decide +kernel
theorem dX6_valueSign_3 : decode cX6_valueSign 3 = .ok (.invokevirtual 70, 3) := by decide +kernel
theorem dX6_valueSign_6 : decode cX6_valueSign 6 = .ok (.ifCond .eq 6, 3) := by decide +kernel
theorem dX6_valueSign_9 : decode cX6_valueSign 9 = .ok (.bipush (-11), 2) := by decide +kernel
theorem dX6_valueSign_11 : decode cX6_valueSign 11 = .ok (.ireturn, 1) := by decide +kernel
theorem dX6_valueSign_12 : decode cX6_valueSign 12 = .ok (.aload_n 0, 1) := by decide +kernel
theorem dX6_valueSign_13 : decode cX6_valueSign 13 = .ok (.ldc 87, 2) := by decide +kernel
theorem dX6_valueSign_15 : decode cX6_valueSign 15 = .ok (.invokevirtual 70, 3) := by decide +kernel
theorem dX6_valueSign_18 : decode cX6_valueSign 18 = .ok (.ifCond .eq 6, 3) := by decide +kernel
theorem dX6_valueSign_21 : decode cX6_valueSign 21 = .ok (.bipush (-12), 2) := by decide +kernel
theorem dX6_valueSign_23 : decode cX6_valueSign 23 = .ok (.ireturn, 1) := by decide +kernel
theorem dX6_valueSign_24 : decode cX6_valueSign 24 = .ok (.aload_n 0, 1) := by decide +kernel
theorem dX6_valueSign_25 : decode cX6_valueSign 25 = .ok (.ldc 89, 2) := by decide +kernel
theorem dX6_valueSign_27 : decode cX6_valueSign 27 = .ok (.invokevirtual 70, 3) := by decide +kernel
theorem dX6_valueSign_30 : decode cX6_valueSign 30 = .ok (.ifCond .eq 6, 3) := by decide +kernel
theorem dX6_valueSign_33 : decode cX6_valueSign 33 = .ok (.bipush (-13), 2) := by decide +kernel
theorem dX6_valueSign_35 : decode cX6_valueSign 35 = .ok (.ireturn, 1) := by decide +kernel
theorem dX6_valueSign_36 : decode cX6_valueSign 36 = .ok (.aload_n 0, 1) := by decide +kernel
theorem dX6_valueSign_37 : decode cX6_valueSign 37 = .ok (.ldc 91, 2) := by decide +kernel
theorem dX6_valueSign_39 : decode cX6_valueSign 39 = .ok (.invokevirtual 70, 3) := by decide +kernel
theorem dX6_valueSign_42 : decode cX6_valueSign 42 = .ok (.ifCond .eq 6, 3) := by decide +kernel
theorem dX6_valueSign_45 : decode cX6_valueSign 45 = .ok (.bipush (-14), 2) := by decide +kernel
theorem dX6_valueSign_47 : decode cX6_valueSign 47 = .ok (.ireturn, 1) := by decide +kernel
theorem dX6_valueSign_48 : decode cX6_valueSign 48 = .ok (.aload_n 0, 1) := by decide +kernel
theorem dX6_valueSign_49 : decode cX6_valueSign 49 = .ok (.ldc 93, 2) := by decide +kernel
theorem dX6_valueSign_51 : decode cX6_valueSign 51 = .ok (.invokevirtual 70, 3) := by decide +kernel
theorem dX6_valueSign_54 : decode cX6_valueSign 54 = .ok (.ifCond .eq 6, 3) := by decide +kernel
theorem dX6_valueSign_57 : decode cX6_valueSign 57 = .ok (.bipush (-15), 2) := by decide +kernel
theorem dX6_valueSign_59 : decode cX6_valueSign 59 = .ok (.ireturn, 1) := by decide +kernel
theorem dX6_valueSign_60 : decode cX6_valueSign 60 = .ok (.aload_n 0, 1) := by decide +kernel
theorem dX6_valueSign_61 : decode cX6_valueSign 61 = .ok (.ldc 95, 2) := by decide +kernel
theorem dX6_valueSign_63 : decode cX6_valueSign 63 = .ok (.invokevirtual 70, 3) := by decide +kernel
theorem dX6_valueSign_66 : decode cX6_valueSign 66 = .ok (.ifCond .eq 6, 3) := by decide +kernel
theorem dX6_valueSign_69 : decode cX6_valueSign 69 = .ok (.bipush (-16), 2) := by decide +kernel
theorem dX6_valueSign_71 : decode cX6_valueSign 71 = .ok (.ireturn, 1) := by decide +kernel
theorem dX6_valueSign_72 : decode cX6_valueSign 72 = .ok (.aload_n 0, 1) := by decide +kernel
theorem dX6_valueSign_73 : decode cX6_valueSign 73 = .ok (.ldc 97, 2) := by decide +kernel
theorem dX6_valueSign_75 : decode cX6_valueSign 75 = .ok (.invokevirtual 70, 3) := by decide +kernel
theorem dX6_valueSign_78 : decode cX6_valueSign 78 = .ok (.ifCond .eq 8, 3) := by decide +kernel
theorem dX6_valueSign_81 : decode cX6_valueSign 81 = .ok (.bipush (-17), 2) := by decide +kernel
theorem dX6_valueSign_83 : decode cX6_valueSign 83 = .ok (.goto 5, 3) := by decide +kernel
theorem dX6_valueSign_86 : decode cX6_valueSign 86 = .ok (.bipush (-58), 2) := by decide +kernel
theorem dX6_valueSign_88 : decode cX6_valueSign 88 = .ok (.ireturn, 1) := by decide +kernel
theorem dX6_spells_0 : decode cX6_spells 0 = .ok (.aload_n 0, 1) := by decide +kernel
theorem dX6_spells_1 : decode cX6_spells 1 = .ok (.getfield 19, 3) := by decide +kernel
theorem dX6_spells_4 : decode cX6_spells 4 = .ok (.aload_n 0, 1) := by decide +kernel
theorem dX6_spells_5 : decode cX6_spells 5 = .ok (.getfield 22, 3) := by decide +kernel
theorem dX6_spells_8 : decode cX6_spells 8 = .ok (.isub, 1) := by decide +kernel
theorem dX6_spells_9 : decode cX6_spells 9 = .ok (.aload_n 1, 1) := by decide +kernel
theorem dX6_spells_10 : decode cX6_spells 10 = .ok (.invokevirtual 99, 3) := by decide +kernel
theorem dX6_spells_13 : decode cX6_spells 13 = .ok (.if_icmp .eq 5, 3) := by decide +kernel
theorem dX6_spells_16 : decode cX6_spells 16 = .ok (.iconst 0, 1) := by decide +kernel
theorem dX6_spells_17 : decode cX6_spells 17 = .ok (.ireturn, 1) := by decide +kernel
theorem dX6_spells_18 : decode cX6_spells 18 = .ok (.iconst 0, 1) := by decide +kernel
theorem dX6_spells_19 : decode cX6_spells 19 = .ok (.istore_n 2, 1) := by decide +kernel
theorem dX6_spells_20 : decode cX6_spells 20 = .ok (.iload_n 2, 1) := by decide +kernel
theorem dX6_spells_21 : decode cX6_spells 21 = .ok (.aload_n 1, 1) := by decide +kernel
theorem dX6_spells_22 : decode cX6_spells 22 = .ok (.invokevirtual 99, 3) := by decide +kernel
theorem dX6_spells_25 : decode cX6_spells 25 = .ok (.if_icmp .ge 29, 3) := by decide +kernel
theorem dX6_spells_28 : decode cX6_spells 28 = .ok (.aload_n 0, 1) := by decide +kernel
theorem dX6_spells_29 : decode cX6_spells 29 = .ok (.aload_n 0, 1) := by decide +kernel
theorem dX6_spells_30 : decode cX6_spells 30 = .ok (.getfield 22, 3) := by decide +kernel
theorem dX6_spells_33 : decode cX6_spells 33 = .ok (.iload_n 2, 1) := by decide +kernel
theorem dX6_spells_34 : decode cX6_spells 34 = .ok (.iadd, 1) := by decide +kernel
theorem dX6_spells_35 : decode cX6_spells 35 = .ok (.invokevirtual 31, 3) := by decide +kernel
theorem dX6_spells_38 : decode cX6_spells 38 = .ok (.aload_n 1, 1) := by decide +kernel
theorem dX6_spells_39 : decode cX6_spells 39 = .ok (.iload_n 2, 1) := by decide +kernel
theorem dX6_spells_40 : decode cX6_spells 40 = .ok (.invokevirtual 103, 3) := by decide +kernel
theorem dX6_spells_43 : decode cX6_spells 43 = .ok (.if_icmp .eq 5, 3) := by decide +kernel
theorem dX6_spells_46 : decode cX6_spells 46 = .ok (.iconst 0, 1) := by decide +kernel
theorem dX6_spells_47 : decode cX6_spells 47 = .ok (.ireturn, 1) := by decide +kernel
theorem dX6_spells_48 : decode cX6_spells 48 = .ok (.iinc 2 1, 3) := by decide +kernel
theorem dX6_spells_51 : decode cX6_spells 51 = .ok (.goto (-31), 3) := by decide +kernel
theorem dX6_spells_54 : decode cX6_spells 54 = .ok (.iconst 1, 1) := by decide +kernel
theorem dX6_spells_55 : decode cX6_spells 55 = .ok (.ireturn, 1) := by decide +kernel
theorem dX6_isBlank_0 : decode cX6_isBlank 0 = .ok (.iload_n 0, 1) := by decide +kernel
theorem dX6_isBlank_1 : decode cX6_isBlank 1 = .ok (.bipush 32, 2) := by decide +kernel
theorem dX6_isBlank_3 : decode cX6_isBlank 3 = .ok (.if_icmp .eq 9, 3) := by decide +kernel
theorem dX6_isBlank_6 : decode cX6_isBlank 6 = .ok (.iload_n 0, 1) := by decide +kernel
theorem dX6_isBlank_7 : decode cX6_isBlank 7 = .ok (.bipush 10, 2) := by decide +kernel
theorem dX6_isBlank_9 : decode cX6_isBlank 9 = .ok (.if_icmp .ne 7, 3) := by decide +kernel
theorem dX6_isBlank_12 : decode cX6_isBlank 12 = .ok (.iconst 1, 1) := by decide +kernel
theorem dX6_isBlank_13 : decode cX6_isBlank 13 = .ok (.goto 4, 3) := by decide +kernel
theorem dX6_isBlank_16 : decode cX6_isBlank 16 = .ok (.iconst 0, 1) := by decide +kernel
theorem dX6_isBlank_17 : decode cX6_isBlank 17 = .ok (.ireturn, 1) := by decide +kernel
theorem dX6_isLetter_0 : decode cX6_isLetter 0 = .ok (.iload_n 0, 1) := by decide +kernel
theorem dX6_isLetter_1 : decode cX6_isLetter 1 = .ok (.bipush 97, 2) := by decide +kernel
theorem dX6_isLetter_3 : decode cX6_isLetter 3 = .ok (.bipush 122, 2) := by decide +kernel
theorem dX6_isLetter_5 : decode cX6_isLetter 5 = .ok (.invokestatic 107, 3) := by decide +kernel
theorem dX6_isLetter_8 : decode cX6_isLetter 8 = .ok (.ifCond .ne 14, 3) := by decide +kernel
theorem dX6_isLetter_11 : decode cX6_isLetter 11 = .ok (.iload_n 0, 1) := by decide +kernel
theorem dX6_isLetter_12 : decode cX6_isLetter 12 = .ok (.bipush 65, 2) := by decide +kernel
theorem dX6_isLetter_14 : decode cX6_isLetter 14 = .ok (.bipush 90, 2) := by decide +kernel
theorem dX6_isLetter_16 : decode cX6_isLetter 16 = .ok (.invokestatic 107, 3) := by decide +kernel
theorem dX6_isLetter_19 : decode cX6_isLetter 19 = .ok (.ifCond .eq 7, 3) := by decide +kernel
theorem dX6_isLetter_22 : decode cX6_isLetter 22 = .ok (.iconst 1, 1) := by decide +kernel
theorem dX6_isLetter_23 : decode cX6_isLetter 23 = .ok (.goto 4, 3) := by decide +kernel
theorem dX6_isLetter_26 : decode cX6_isLetter 26 = .ok (.iconst 0, 1) := by decide +kernel
theorem dX6_isLetter_27 : decode cX6_isLetter 27 = .ok (.ireturn, 1) := by decide +kernel
theorem dX6_isDigit_0 : decode cX6_isDigit 0 = .ok (.iload_n 0, 1) := by decide +kernel
theorem dX6_isDigit_1 : decode cX6_isDigit 1 = .ok (.bipush 48, 2) := by decide +kernel
theorem dX6_isDigit_3 : decode cX6_isDigit 3 = .ok (.bipush 57, 2) := by decide +kernel
theorem dX6_isDigit_5 : decode cX6_isDigit 5 = .ok (.invokestatic 107, 3) := by decide +kernel
theorem dX6_isDigit_8 : decode cX6_isDigit 8 = .ok (.ireturn, 1) := by decide +kernel
theorem dX7_init_0 : decode cX7_init 0 = .ok (.aload_n 0, 1) := by decide +kernel
theorem dX7_init_1 : decode cX7_init 1 = .ok (.invokespecial 3, 3) := by decide +kernel
theorem dX7_init_4 : decode cX7_init 4 = .ok (.aload_n 0, 1) := by decide +kernel
theorem dX7_init_5 : decode cX7_init 5 = .ok (.sipush 320, 3) := by decide +kernel
theorem dX7_init_8 : decode cX7_init 8 = .ok (.newarray .int, 2) := by decide +kernel
theorem dX7_init_10 : decode cX7_init 10 = .ok (.putfield 9, 3) := by decide +kernel
theorem dX7_init_13 : decode cX7_init 13 = .ok (.return_, 1) := by decide +kernel
theorem dX7_darken_0 : decode cX7_darken 0 = .ok (.iconst 0, 1) := by decide +kernel
theorem dX7_darken_1 : decode cX7_darken 1 = .ok (.istore_n 1, 1) := by decide +kernel
theorem dX7_darken_2 : decode cX7_darken 2 = .ok (.iload_n 1, 1) := by decide +kernel
theorem dX7_darken_3 : decode cX7_darken 3 = .ok (.aload_n 0, 1) := by decide +kernel
theorem dX7_darken_4 : decode cX7_darken 4 = .ok (.getfield 9, 3) := by decide +kernel
theorem dX7_darken_7 : decode cX7_darken 7 = .ok (.arraylength, 1) := by decide +kernel
theorem dX7_darken_8 : decode cX7_darken 8 = .ok (.if_icmp .ge 16, 3) := by decide +kernel
theorem dX7_darken_11 : decode cX7_darken 11 = .ok (.aload_n 0, 1) := by decide +kernel
theorem dX7_darken_12 : decode cX7_darken 12 = .ok (.getfield 9, 3) := by decide +kernel
theorem dX7_darken_15 : decode cX7_darken 15 = .ok (.iload_n 1, 1) := by decide +kernel
theorem dX7_darken_16 : decode cX7_darken 16 = .ok (.iconst 0, 1) := by decide +kernel
theorem dX7_darken_17 : decode cX7_darken 17 = .ok (.iastore, 1) := by decide +kernel
theorem dX7_darken_18 : decode cX7_darken 18 = .ok (.iinc 1 1, 3) := by decide +kernel
theorem dX7_darken_21 : decode cX7_darken 21 = .ok (.goto (-19), 3) := by decide +kernel
theorem dX7_darken_24 : decode cX7_darken 24 = .ok (.return_, 1) := by decide +kernel
theorem dX7_dim_0 : decode cX7_dim 0 = .ok (.iconst 0, 1) := by decide +kernel
theorem dX7_dim_1 : decode cX7_dim 1 = .ok (.istore_n 2, 1) := by decide +kernel
theorem dX7_dim_2 : decode cX7_dim 2 = .ok (.iload_n 2, 1) := by decide +kernel
theorem dX7_dim_3 : decode cX7_dim 3 = .ok (.aload_n 0, 1) := by decide +kernel
theorem dX7_dim_4 : decode cX7_dim 4 = .ok (.getfield 9, 3) := by decide +kernel
theorem dX7_dim_7 : decode cX7_dim 7 = .ok (.arraylength, 1) := by decide +kernel
theorem dX7_dim_8 : decode cX7_dim 8 = .ok (.if_icmp .ge 26, 3) := by decide +kernel
theorem dX7_dim_11 : decode cX7_dim 11 = .ok (.aload_n 0, 1) := by decide +kernel
theorem dX7_dim_12 : decode cX7_dim 12 = .ok (.getfield 9, 3) := by decide +kernel
theorem dX7_dim_15 : decode cX7_dim 15 = .ok (.iload_n 2, 1) := by decide +kernel
theorem dX7_dim_16 : decode cX7_dim 16 = .ok (.aload_n 0, 1) := by decide +kernel
theorem dX7_dim_17 : decode cX7_dim 17 = .ok (.getfield 9, 3) := by decide +kernel
theorem dX7_dim_20 : decode cX7_dim 20 = .ok (.iload_n 2, 1) := by decide +kernel
theorem dX7_dim_21 : decode cX7_dim 21 = .ok (.iaload, 1) := by decide +kernel
theorem dX7_dim_22 : decode cX7_dim 22 = .ok (.iload_n 1, 1) := by decide +kernel
theorem dX7_dim_23 : decode cX7_dim 23 = .ok (.imul, 1) := by decide +kernel
theorem dX7_dim_24 : decode cX7_dim 24 = .ok (.bipush 16, 2) := by decide +kernel
theorem dX7_dim_26 : decode cX7_dim 26 = .ok (.idiv, 1) := by decide +kernel
theorem dX7_dim_27 : decode cX7_dim 27 = .ok (.iastore, 1) := by decide +kernel
theorem dX7_dim_28 : decode cX7_dim 28 = .ok (.iinc 2 1, 3) := by decide +kernel
theorem dX7_dim_31 : decode cX7_dim 31 = .ok (.goto (-29), 3) := by decide +kernel
theorem dX7_dim_34 : decode cX7_dim 34 = .ok (.return_, 1) := by decide +kernel
theorem dX7_brighten_0 : decode cX7_brighten 0 = .ok (.iload_n 1, 1) := by decide +kernel
theorem dX7_brighten_1 : decode cX7_brighten 1 = .ok (.iconst 0, 1) := by decide +kernel
theorem dX7_brighten_2 : decode cX7_brighten 2 = .ok (.bipush 19, 2) := by decide +kernel
theorem dX7_brighten_4 : decode cX7_brighten 4 = .ok (.invokestatic 15, 3) := by decide +kernel
theorem dX7_brighten_7 : decode cX7_brighten 7 = .ok (.ifCond .eq 41, 3) := by decide +kernel
theorem dX7_brighten_10 : decode cX7_brighten 10 = .ok (.iload_n 2, 1) := by decide +kernel
theorem dX7_brighten_11 : decode cX7_brighten 11 = .ok (.iconst 0, 1) := by decide +kernel
theorem dX7_brighten_12 : decode cX7_brighten 12 = .ok (.bipush 15, 2) := by decide +kernel
theorem dX7_brighten_14 : decode cX7_brighten 14 = .ok (.invokestatic 15, 3) := by decide +kernel
theorem dX7_brighten_17 : decode cX7_brighten 17 = .ok (.ifCond .eq 31, 3) := by decide +kernel
theorem dX7_brighten_20 : decode cX7_brighten 20 = .ok (.iload_n 1, 1) := by decide +kernel
theorem dX7_brighten_21 : decode cX7_brighten 21 = .ok (.bipush 16, 2) := by decide +kernel
theorem dX7_brighten_23 : decode cX7_brighten 23 = .ok (.imul, 1) := by decide +kernel
theorem dX7_brighten_24 : decode cX7_brighten 24 = .ok (.iload_n 2, 1) := by decide +kernel
theorem dX7_brighten_25 : decode cX7_brighten 25 = .ok (.iadd, 1) := by decide +kernel
theorem dX7_brighten_26 : decode cX7_brighten 26 = .ok (.istore_n 3, 1) := by decide +kernel
theorem dX7_brighten_27 : decode cX7_brighten 27 = .ok (.aload_n 0, 1) := by decide +kernel
theorem dX7_brighten_28 : decode cX7_brighten 28 = .ok (.getfield 9, 3) := by decide +kernel
theorem dX7_brighten_31 : decode cX7_brighten 31 = .ok (.iload_n 3, 1) := by decide +kernel
theorem dX7_brighten_32 : decode cX7_brighten 32 = .ok (.aload_n 0, 1) := by decide +kernel
theorem dX7_brighten_33 : decode cX7_brighten 33 = .ok (.getfield 9, 3) := by decide +kernel
theorem dX7_brighten_36 : decode cX7_brighten 36 = .ok (.iload_n 3, 1) := by decide +kernel
theorem dX7_brighten_37 : decode cX7_brighten 37 = .ok (.iaload, 1) := by decide +kernel
theorem dX7_brighten_38 : decode cX7_brighten 38 = .ok (.bipush 16, 2) := by decide +kernel
theorem dX7_brighten_40 : decode cX7_brighten 40 = .ok (.iadd, 1) := by decide +kernel
theorem dX7_brighten_41 : decode cX7_brighten 41 = .ok (.sipush 999, 3) := by decide +kernel
theorem dX7_brighten_44 : decode cX7_brighten 44 = .ok (.invokestatic 19, 3) := by decide +kernel
theorem dX7_brighten_47 : decode cX7_brighten 47 = .ok (.iastore, 1) := by decide +kernel
theorem dX7_brighten_48 : decode cX7_brighten 48 = .ok (.return_, 1) := by decide +kernel
theorem dX7_glowOf_0 : decode cX7_glowOf 0 = .ok (.iload_n 1, 1) := by decide +kernel
theorem dX7_glowOf_1 : decode cX7_glowOf 1 = .ok (.iconst 0, 1) := by decide +kernel
theorem dX7_glowOf_2 : decode cX7_glowOf 2 = .ok (.bipush 19, 2) := by decide +kernel
theorem dX7_glowOf_4 : decode cX7_glowOf 4 = .ok (.invokestatic 15, 3) := by decide +kernel
theorem dX7_glowOf_7 : decode cX7_glowOf 7 = .ok (.ifCond .eq 17, 3) := by decide +kernel
theorem dX7_glowOf_10 : decode cX7_glowOf 10 = .ok (.iload_n 2, 1) := by decide +kernel
theorem dX7_glowOf_11 : decode cX7_glowOf 11 = .ok (.iconst 0, 1) := by decide +kernel
theorem dX7_glowOf_12 : decode cX7_glowOf 12 = .ok (.bipush 15, 2) := by decide +kernel
theorem dX7_glowOf_14 : decode cX7_glowOf 14 = .ok (.invokestatic 15, 3) := by decide +kernel
theorem dX7_glowOf_17 : decode cX7_glowOf 17 = .ok (.ifCond .eq 7, 3) := by decide +kernel
theorem dX7_glowOf_20 : decode cX7_glowOf 20 = .ok (.iconst 1, 1) := by decide +kernel
theorem dX7_glowOf_21 : decode cX7_glowOf 21 = .ok (.goto 4, 3) := by decide +kernel
theorem dX7_glowOf_24 : decode cX7_glowOf 24 = .ok (.iconst 0, 1) := by decide +kernel
theorem dX7_glowOf_25 : decode cX7_glowOf 25 = .ok (.istore_n 3, 1) := by decide +kernel
theorem dX7_glowOf_26 : decode cX7_glowOf 26 = .ok (.iload_n 3, 1) := by decide +kernel
theorem dX7_glowOf_27 : decode cX7_glowOf 27 = .ok (.ifCond .eq 17, 3) := by decide +kernel
theorem dX7_glowOf_30 : decode cX7_glowOf 30 = .ok (.aload_n 0, 1) := by decide +kernel
theorem dX7_glowOf_31 : decode cX7_glowOf 31 = .ok (.getfield 9, 3) := by decide +kernel
theorem dX7_glowOf_34 : decode cX7_glowOf 34 = .ok (.iload_n 1, 1) := by decide +kernel
theorem dX7_glowOf_35 : decode cX7_glowOf 35 = .ok (.bipush 16, 2) := by decide +kernel
theorem dX7_glowOf_37 : decode cX7_glowOf 37 = .ok (.imul, 1) := by decide +kernel
theorem dX7_glowOf_38 : decode cX7_glowOf 38 = .ok (.iload_n 2, 1) := by decide +kernel
theorem dX7_glowOf_39 : decode cX7_glowOf 39 = .ok (.iadd, 1) := by decide +kernel
theorem dX7_glowOf_40 : decode cX7_glowOf 40 = .ok (.iaload, 1) := by decide +kernel
theorem dX7_glowOf_41 : decode cX7_glowOf 41 = .ok (.goto 4, 3) := by decide +kernel
theorem dX7_glowOf_44 : decode cX7_glowOf 44 = .ok (.iconst 0, 1) := by decide +kernel
theorem dX7_glowOf_45 : decode cX7_glowOf 45 = .ok (.ireturn, 1) := by decide +kernel
theorem dX7_bits_0 : decode cX7_bits 0 = .ok (.iconst 0, 1) := by decide +kernel
theorem dX7_bits_1 : decode cX7_bits 1 = .ok (.istore_n 3, 1) := by decide +kernel
theorem dX7_bits_2 : decode cX7_bits 2 = .ok (.iconst 0, 1) := by decide +kernel
theorem dX7_bits_3 : decode cX7_bits 3 = .ok (.istore 4, 2) := by decide +kernel
theorem dX7_bits_5 : decode cX7_bits 5 = .ok (.iload 4, 2) := by decide +kernel
theorem dX7_bits_7 : decode cX7_bits 7 = .ok (.bipush 16, 2) := by decide +kernel
theorem dX7_bits_9 : decode cX7_bits 9 = .ok (.if_icmp .ge 27, 3) := by decide +kernel
theorem dX7_bits_12 : decode cX7_bits 12 = .ok (.aload_n 0, 1) := by decide +kernel
theorem dX7_bits_13 : decode cX7_bits 13 = .ok (.iload_n 1, 1) := by decide +kernel
theorem dX7_bits_14 : decode cX7_bits 14 = .ok (.iload 4, 2) := by decide +kernel
theorem dX7_bits_16 : decode cX7_bits 16 = .ok (.invokevirtual 25, 3) := by decide +kernel
theorem dX7_bits_19 : decode cX7_bits 19 = .ok (.iload_n 2, 1) := by decide +kernel
theorem dX7_bits_20 : decode cX7_bits 20 = .ok (.if_icmp .lt 10, 3) := by decide +kernel
theorem dX7_bits_23 : decode cX7_bits 23 = .ok (.iload_n 3, 1) := by decide +kernel
theorem dX7_bits_24 : decode cX7_bits 24 = .ok (.iconst 1, 1) := by decide +kernel
theorem dX7_bits_25 : decode cX7_bits 25 = .ok (.iload 4, 2) := by decide +kernel
theorem dX7_bits_27 : decode cX7_bits 27 = .ok (.ishl, 1) := by decide +kernel
theorem dX7_bits_28 : decode cX7_bits 28 = .ok (.ior, 1) := by decide +kernel
theorem dX7_bits_29 : decode cX7_bits 29 = .ok (.istore_n 3, 1) := by decide +kernel
theorem dX7_bits_30 : decode cX7_bits 30 = .ok (.iinc 4 1, 3) := by decide +kernel
theorem dX7_bits_33 : decode cX7_bits 33 = .ok (.goto (-28), 3) := by decide +kernel
theorem dX7_bits_36 : decode cX7_bits 36 = .ok (.iload_n 3, 1) := by decide +kernel
theorem dX7_bits_37 : decode cX7_bits 37 = .ok (.ireturn, 1) := by decide +kernel
theorem dX7_dots_0 : decode cX7_dots 0 = .ok (.iconst 0, 1) := by decide +kernel
theorem dX7_dots_1 : decode cX7_dots 1 = .ok (.istore_n 2, 1) := by decide +kernel
theorem dX7_dots_2 : decode cX7_dots 2 = .ok (.iconst 0, 1) := by decide +kernel
theorem dX7_dots_3 : decode cX7_dots 3 = .ok (.istore_n 3, 1) := by decide +kernel
theorem dX7_dots_4 : decode cX7_dots 4 = .ok (.iload_n 3, 1) := by decide +kernel
theorem dX7_dots_5 : decode cX7_dots 5 = .ok (.bipush 20, 2) := by decide +kernel
theorem dX7_dots_7 : decode cX7_dots 7 = .ok (.if_icmp .ge 21, 3) := by decide +kernel
theorem dX7_dots_10 : decode cX7_dots 10 = .ok (.iload_n 2, 1) := by decide +kernel
theorem dX7_dots_11 : decode cX7_dots 11 = .ok (.aload_n 0, 1) := by decide +kernel
theorem dX7_dots_12 : decode cX7_dots 12 = .ok (.iload_n 3, 1) := by decide +kernel
theorem dX7_dots_13 : decode cX7_dots 13 = .ok (.iload_n 1, 1) := by decide +kernel
theorem dX7_dots_14 : decode cX7_dots 14 = .ok (.invokevirtual 28, 3) := by decide +kernel
theorem dX7_dots_17 : decode cX7_dots 17 = .ok (.invokestatic 31, 3) := by decide +kernel
theorem dX7_dots_20 : decode cX7_dots 20 = .ok (.iadd, 1) := by decide +kernel
theorem dX7_dots_21 : decode cX7_dots 21 = .ok (.istore_n 2, 1) := by decide +kernel
theorem dX7_dots_22 : decode cX7_dots 22 = .ok (.iinc 3 1, 3) := by decide +kernel
theorem dX7_dots_25 : decode cX7_dots 25 = .ok (.goto (-21), 3) := by decide +kernel
theorem dX7_dots_28 : decode cX7_dots 28 = .ok (.iload_n 2, 1) := by decide +kernel
theorem dX7_dots_29 : decode cX7_dots 29 = .ok (.ireturn, 1) := by decide +kernel
theorem dX8_init_0 : decode cX8_init 0 = .ok (.aload_n 0, 1) := by decide +kernel
theorem dX8_init_1 : decode cX8_init 1 = .ok (.invokespecial 3, 3) := by decide +kernel
theorem dX8_init_4 : decode cX8_init 4 = .ok (.aload_n 0, 1) := by decide +kernel
theorem dX8_init_5 : decode cX8_init 5 = .ok (.iconst 4, 1) := by decide +kernel
theorem dX8_init_6 : decode cX8_init 6 = .ok (.anewarray 9, 3) := by decide +kernel
theorem dX8_init_9 : decode cX8_init 9 = .ok (.putfield 11, 3) := by decide +kernel
theorem dX8_init_12 : decode cX8_init 12 = .ok (.aload_n 0, 1) := by decide +kernel
theorem dX8_init_13 : decode cX8_init 13 = .ok (.iconst 2, 1) := by decide +kernel
theorem dX8_init_14 : decode cX8_init 14 = .ok (.anewarray 17, 3) := by decide +kernel
theorem dX8_init_17 : decode cX8_init 17 = .ok (.putfield 19, 3) := by decide +kernel
theorem dX8_init_20 : decode cX8_init 20 = .ok (.aload_n 0, 1) := by decide +kernel
theorem dX8_init_21 : decode cX8_init 21 = .ok (.bipush 20, 2) := by decide +kernel
theorem dX8_init_23 : decode cX8_init 23 = .ok (.newarray .int, 2) := by decide +kernel
theorem dX8_init_25 : decode cX8_init 25 = .ok (.putfield 23, 3) := by decide +kernel
theorem dX8_init_28 : decode cX8_init 28 = .ok (.aload_n 0, 1) := by decide +kernel
theorem dX8_init_29 : decode cX8_init 29 = .ok (.bipush 10, 2) := by decide +kernel
theorem dX8_init_31 : decode cX8_init 31 = .ok (.putfield 27, 3) := by decide +kernel
theorem dX8_init_34 : decode cX8_init 34 = .ok (.aload_n 0, 1) := by decide +kernel
theorem dX8_init_35 : decode cX8_init 35 = .ok (.iconst 0, 1) := by decide +kernel
theorem dX8_init_36 : decode cX8_init 36 = .ok (.putfield 31, 3) := by decide +kernel
theorem dX8_init_39 : decode cX8_init 39 = .ok (.aload_n 0, 1) := by decide +kernel
theorem dX8_init_40 : decode cX8_init 40 = .ok (.bipush 16, 2) := by decide +kernel
theorem dX8_init_42 : decode cX8_init 42 = .ok (.putfield 34, 3) := by decide +kernel
theorem dX8_init_45 : decode cX8_init 45 = .ok (.aload_n 0, 1) := by decide +kernel
theorem dX8_init_46 : decode cX8_init 46 = .ok (.iconst 0, 1) := by decide +kernel
theorem dX8_init_47 : decode cX8_init 47 = .ok (.putfield 37, 3) := by decide +kernel
theorem dX8_init_50 : decode cX8_init 50 = .ok (.aload_n 0, 1) := by decide +kernel
theorem dX8_init_51 : decode cX8_init 51 = .ok (.iconst 1, 1) := by decide +kernel
theorem dX8_init_52 : decode cX8_init 52 = .ok (.putfield 40, 3) := by decide +kernel
theorem dX8_init_55 : decode cX8_init 55 = .ok (.aload_n 0, 1) := by decide +kernel
theorem dX8_init_56 : decode cX8_init 56 = .ok (.iconst 0, 1) := by decide +kernel
theorem dX8_init_57 : decode cX8_init 57 = .ok (.putfield 43, 3) := by decide +kernel
theorem dX8_init_60 : decode cX8_init 60 = .ok (.aload_n 0, 1) := by decide +kernel
theorem dX8_init_61 : decode cX8_init 61 = .ok (.iconst (-1), 1) := by decide +kernel
theorem dX8_init_62 : decode cX8_init 62 = .ok (.putfield 46, 3) := by decide +kernel
theorem dX8_init_65 : decode cX8_init 65 = .ok (.iconst 0, 1) := by decide +kernel
theorem dX8_init_66 : decode cX8_init 66 = .ok (.istore_n 1, 1) := by decide +kernel
theorem dX8_init_67 : decode cX8_init 67 = .ok (.iload_n 1, 1) := by decide +kernel
theorem dX8_init_68 : decode cX8_init 68 = .ok (.aload_n 0, 1) := by decide +kernel
theorem dX8_init_69 : decode cX8_init 69 = .ok (.getfield 11, 3) := by decide +kernel
theorem dX8_init_72 : decode cX8_init 72 = .ok (.arraylength, 1) := by decide +kernel
theorem dX8_init_73 : decode cX8_init 73 = .ok (.if_icmp .ge 22, 3) := by decide +kernel
theorem dX8_init_76 : decode cX8_init 76 = .ok (.aload_n 0, 1) := by decide +kernel
theorem dX8_init_77 : decode cX8_init 77 = .ok (.getfield 11, 3) := by decide +kernel
theorem dX8_init_80 : decode cX8_init 80 = .ok (.iload_n 1, 1) := by decide +kernel
theorem dX8_init_81 : decode cX8_init 81 = .ok (.new 9, 3) := by decide +kernel
theorem dX8_init_84 : decode cX8_init 84 = .ok (.dup, 1) := by decide +kernel
theorem dX8_init_85 : decode cX8_init 85 = .ok (.invokespecial 49, 3) := by decide +kernel
theorem dX8_init_88 : decode cX8_init 88 = .ok (.aastore, 1) := by decide +kernel
theorem dX8_init_89 : decode cX8_init 89 = .ok (.iinc 1 1, 3) := by decide +kernel
theorem dX8_init_92 : decode cX8_init 92 = .ok (.goto (-25), 3) := by decide +kernel
theorem dX8_init_95 : decode cX8_init 95 = .ok (.iconst 0, 1) := by decide +kernel
theorem dX8_init_96 : decode cX8_init 96 = .ok (.istore_n 1, 1) := by decide +kernel
theorem dX8_init_97 : decode cX8_init 97 = .ok (.iload_n 1, 1) := by decide +kernel
theorem dX8_init_98 : decode cX8_init 98 = .ok (.aload_n 0, 1) := by decide +kernel
theorem dX8_init_99 : decode cX8_init 99 = .ok (.getfield 19, 3) := by decide +kernel
theorem dX8_init_102 : decode cX8_init 102 = .ok (.arraylength, 1) := by decide +kernel
theorem dX8_init_103 : decode cX8_init 103 = .ok (.if_icmp .ge 23, 3) := by decide +kernel
theorem dX8_init_106 : decode cX8_init 106 = .ok (.aload_n 0, 1) := by decide +kernel
theorem dX8_init_107 : decode cX8_init 107 = .ok (.getfield 19, 3) := by decide +kernel
theorem dX8_init_110 : decode cX8_init 110 = .ok (.iload_n 1, 1) := by decide +kernel
theorem dX8_init_111 : decode cX8_init 111 = .ok (.new 17, 3) := by decide +kernel
theorem dX8_init_114 : decode cX8_init 114 = .ok (.dup, 1) := by decide +kernel
theorem dX8_init_115 : decode cX8_init 115 = .ok (.iload_n 1, 1) := by decide +kernel
theorem dX8_init_116 : decode cX8_init 116 = .ok (.invokespecial 50, 3) := by decide +kernel
theorem dX8_init_119 : decode cX8_init 119 = .ok (.aastore, 1) := by decide +kernel
theorem dX8_init_120 : decode cX8_init 120 = .ok (.iinc 1 1, 3) := by decide +kernel
theorem dX8_init_123 : decode cX8_init 123 = .ok (.goto (-26), 3) := by decide +kernel
theorem dX8_init_126 : decode cX8_init 126 = .ok (.return_, 1) := by decide +kernel
theorem dX8_copyFrom_0 : decode cX8_copyFrom 0 = .ok (.iconst 0, 1) := by decide +kernel
theorem dX8_copyFrom_1 : decode cX8_copyFrom 1 = .ok (.istore_n 2, 1) := by decide +kernel
theorem dX8_copyFrom_2 : decode cX8_copyFrom 2 = .ok (.iload_n 2, 1) := by decide +kernel
theorem dX8_copyFrom_3 : decode cX8_copyFrom 3 = .ok (.aload_n 0, 1) := by decide +kernel
theorem dX8_copyFrom_4 : decode cX8_copyFrom 4 = .ok (.getfield 11, 3) := by decide +kernel
theorem dX8_copyFrom_7 : decode cX8_copyFrom 7 = .ok (.arraylength, 1) := by decide +kernel
theorem dX8_copyFrom_8 : decode cX8_copyFrom 8 = .ok (.if_icmp .ge 33, 3) := by decide +kernel
theorem dX8_copyFrom_11 : decode cX8_copyFrom 11 = .ok (.iload_n 2, 1) := by decide +kernel
theorem dX8_copyFrom_12 : decode cX8_copyFrom 12 = .ok (.aload_n 1, 1) := by decide +kernel
theorem dX8_copyFrom_13 : decode cX8_copyFrom 13 = .ok (.getfield 11, 3) := by decide +kernel
theorem dX8_copyFrom_16 : decode cX8_copyFrom 16 = .ok (.arraylength, 1) := by decide +kernel
theorem dX8_copyFrom_17 : decode cX8_copyFrom 17 = .ok (.if_icmp .ge 24, 3) := by decide +kernel
theorem dX8_copyFrom_20 : decode cX8_copyFrom 20 = .ok (.aload_n 0, 1) := by decide +kernel
theorem dX8_copyFrom_21 : decode cX8_copyFrom 21 = .ok (.getfield 11, 3) := by decide +kernel
theorem dX8_copyFrom_24 : decode cX8_copyFrom 24 = .ok (.iload_n 2, 1) := by decide +kernel
theorem dX8_copyFrom_25 : decode cX8_copyFrom 25 = .ok (.aaload, 1) := by decide +kernel
theorem dX8_copyFrom_26 : decode cX8_copyFrom 26 = .ok (.aload_n 1, 1) := by decide +kernel
theorem dX8_copyFrom_27 : decode cX8_copyFrom 27 = .ok (.getfield 11, 3) := by decide +kernel
theorem dX8_copyFrom_30 : decode cX8_copyFrom 30 = .ok (.iload_n 2, 1) := by decide +kernel
theorem dX8_copyFrom_31 : decode cX8_copyFrom 31 = .ok (.aaload, 1) := by decide +kernel
theorem dX8_copyFrom_32 : decode cX8_copyFrom 32 = .ok (.invokevirtual 53, 3) := by decide +kernel
theorem dX8_copyFrom_35 : decode cX8_copyFrom 35 = .ok (.iinc 2 1, 3) := by decide +kernel
theorem dX8_copyFrom_38 : decode cX8_copyFrom 38 = .ok (.goto (-36), 3) := by decide +kernel
theorem dX8_copyFrom_41 : decode cX8_copyFrom 41 = .ok (.iconst 0, 1) := by decide +kernel
theorem dX8_copyFrom_42 : decode cX8_copyFrom 42 = .ok (.istore_n 2, 1) := by decide +kernel
theorem dX8_copyFrom_43 : decode cX8_copyFrom 43 = .ok (.iload_n 2, 1) := by decide +kernel
theorem dX8_copyFrom_44 : decode cX8_copyFrom 44 = .ok (.aload_n 0, 1) := by decide +kernel
theorem dX8_copyFrom_45 : decode cX8_copyFrom 45 = .ok (.getfield 19, 3) := by decide +kernel
theorem dX8_copyFrom_48 : decode cX8_copyFrom 48 = .ok (.arraylength, 1) := by decide +kernel
theorem dX8_copyFrom_49 : decode cX8_copyFrom 49 = .ok (.if_icmp .ge 33, 3) := by decide +kernel
theorem dX8_copyFrom_52 : decode cX8_copyFrom 52 = .ok (.iload_n 2, 1) := by decide +kernel
theorem dX8_copyFrom_53 : decode cX8_copyFrom 53 = .ok (.aload_n 1, 1) := by decide +kernel
theorem dX8_copyFrom_54 : decode cX8_copyFrom 54 = .ok (.getfield 19, 3) := by decide +kernel
theorem dX8_copyFrom_57 : decode cX8_copyFrom 57 = .ok (.arraylength, 1) := by decide +kernel
theorem dX8_copyFrom_58 : decode cX8_copyFrom 58 = .ok (.if_icmp .ge 24, 3) := by decide +kernel
theorem dX8_copyFrom_61 : decode cX8_copyFrom 61 = .ok (.aload_n 0, 1) := by decide +kernel
theorem dX8_copyFrom_62 : decode cX8_copyFrom 62 = .ok (.getfield 19, 3) := by decide +kernel
theorem dX8_copyFrom_65 : decode cX8_copyFrom 65 = .ok (.iload_n 2, 1) := by decide +kernel
theorem dX8_copyFrom_66 : decode cX8_copyFrom 66 = .ok (.aaload, 1) := by decide +kernel
theorem dX8_copyFrom_67 : decode cX8_copyFrom 67 = .ok (.aload_n 1, 1) := by decide +kernel
theorem dX8_copyFrom_68 : decode cX8_copyFrom 68 = .ok (.getfield 19, 3) := by decide +kernel
theorem dX8_copyFrom_71 : decode cX8_copyFrom 71 = .ok (.iload_n 2, 1) := by decide +kernel
theorem dX8_copyFrom_72 : decode cX8_copyFrom 72 = .ok (.aaload, 1) := by decide +kernel
theorem dX8_copyFrom_73 : decode cX8_copyFrom 73 = .ok (.invokevirtual 57, 3) := by decide +kernel
theorem dX8_copyFrom_76 : decode cX8_copyFrom 76 = .ok (.iinc 2 1, 3) := by decide +kernel
theorem dX8_copyFrom_79 : decode cX8_copyFrom 79 = .ok (.goto (-36), 3) := by decide +kernel
theorem dX8_copyFrom_82 : decode cX8_copyFrom 82 = .ok (.iconst 0, 1) := by decide +kernel
theorem dX8_copyFrom_83 : decode cX8_copyFrom 83 = .ok (.istore_n 2, 1) := by decide +kernel
theorem dX8_copyFrom_84 : decode cX8_copyFrom 84 = .ok (.iload_n 2, 1) := by decide +kernel
theorem dX8_copyFrom_85 : decode cX8_copyFrom 85 = .ok (.aload_n 0, 1) := by decide +kernel
theorem dX8_copyFrom_86 : decode cX8_copyFrom 86 = .ok (.getfield 23, 3) := by decide +kernel
theorem dX8_copyFrom_89 : decode cX8_copyFrom 89 = .ok (.arraylength, 1) := by decide +kernel
theorem dX8_copyFrom_90 : decode cX8_copyFrom 90 = .ok (.if_icmp .ge 30, 3) := by decide +kernel
theorem dX8_copyFrom_93 : decode cX8_copyFrom 93 = .ok (.iload_n 2, 1) := by decide +kernel
theorem dX8_copyFrom_94 : decode cX8_copyFrom 94 = .ok (.aload_n 1, 1) := by decide +kernel
theorem dX8_copyFrom_95 : decode cX8_copyFrom 95 = .ok (.getfield 23, 3) := by decide +kernel
theorem dX8_copyFrom_98 : decode cX8_copyFrom 98 = .ok (.arraylength, 1) := by decide +kernel
theorem dX8_copyFrom_99 : decode cX8_copyFrom 99 = .ok (.if_icmp .ge 21, 3) := by decide +kernel
theorem dX8_copyFrom_102 : decode cX8_copyFrom 102 = .ok (.aload_n 0, 1) := by decide +kernel
theorem dX8_copyFrom_103 : decode cX8_copyFrom 103 = .ok (.getfield 23, 3) := by decide +kernel
theorem dX8_copyFrom_106 : decode cX8_copyFrom 106 = .ok (.iload_n 2, 1) := by decide +kernel
theorem dX8_copyFrom_107 : decode cX8_copyFrom 107 = .ok (.aload_n 1, 1) := by decide +kernel
theorem dX8_copyFrom_108 : decode cX8_copyFrom 108 = .ok (.getfield 23, 3) := by decide +kernel
theorem dX8_copyFrom_111 : decode cX8_copyFrom 111 = .ok (.iload_n 2, 1) := by decide +kernel
theorem dX8_copyFrom_112 : decode cX8_copyFrom 112 = .ok (.iaload, 1) := by decide +kernel
theorem dX8_copyFrom_113 : decode cX8_copyFrom 113 = .ok (.iastore, 1) := by decide +kernel
theorem dX8_copyFrom_114 : decode cX8_copyFrom 114 = .ok (.iinc 2 1, 3) := by decide +kernel
theorem dX8_copyFrom_117 : decode cX8_copyFrom 117 = .ok (.goto (-33), 3) := by decide +kernel
theorem dX8_copyFrom_120 : decode cX8_copyFrom 120 = .ok (.aload_n 0, 1) := by decide +kernel
theorem dX8_copyFrom_121 : decode cX8_copyFrom 121 = .ok (.aload_n 1, 1) := by decide +kernel
theorem dX8_copyFrom_122 : decode cX8_copyFrom 122 = .ok (.getfield 27, 3) := by decide +kernel
theorem dX8_copyFrom_125 : decode cX8_copyFrom 125 = .ok (.putfield 27, 3) := by decide +kernel
theorem dX8_copyFrom_128 : decode cX8_copyFrom 128 = .ok (.aload_n 0, 1) := by decide +kernel
theorem dX8_copyFrom_129 : decode cX8_copyFrom 129 = .ok (.aload_n 1, 1) := by decide +kernel
theorem dX8_copyFrom_130 : decode cX8_copyFrom 130 = .ok (.getfield 31, 3) := by decide +kernel
theorem dX8_copyFrom_133 : decode cX8_copyFrom 133 = .ok (.putfield 31, 3) := by decide +kernel
theorem dX8_copyFrom_136 : decode cX8_copyFrom 136 = .ok (.aload_n 0, 1) := by decide +kernel
theorem dX8_copyFrom_137 : decode cX8_copyFrom 137 = .ok (.aload_n 1, 1) := by decide +kernel
theorem dX8_copyFrom_138 : decode cX8_copyFrom 138 = .ok (.getfield 34, 3) := by decide +kernel
theorem dX8_copyFrom_141 : decode cX8_copyFrom 141 = .ok (.putfield 34, 3) := by decide +kernel
theorem dX8_copyFrom_144 : decode cX8_copyFrom 144 = .ok (.aload_n 0, 1) := by decide +kernel
theorem dX8_copyFrom_145 : decode cX8_copyFrom 145 = .ok (.aload_n 1, 1) := by decide +kernel
theorem dX8_copyFrom_146 : decode cX8_copyFrom 146 = .ok (.getfield 37, 3) := by decide +kernel
theorem dX8_copyFrom_149 : decode cX8_copyFrom 149 = .ok (.putfield 37, 3) := by decide +kernel
theorem dX8_copyFrom_152 : decode cX8_copyFrom 152 = .ok (.aload_n 0, 1) := by decide +kernel
theorem dX8_copyFrom_153 : decode cX8_copyFrom 153 = .ok (.aload_n 1, 1) := by decide +kernel
theorem dX8_copyFrom_154 : decode cX8_copyFrom 154 = .ok (.getfield 40, 3) := by decide +kernel
theorem dX8_copyFrom_157 : decode cX8_copyFrom 157 = .ok (.putfield 40, 3) := by decide +kernel
theorem dX8_copyFrom_160 : decode cX8_copyFrom 160 = .ok (.aload_n 0, 1) := by decide +kernel
theorem dX8_copyFrom_161 : decode cX8_copyFrom 161 = .ok (.aload_n 1, 1) := by decide +kernel
theorem dX8_copyFrom_162 : decode cX8_copyFrom 162 = .ok (.getfield 43, 3) := by decide +kernel
theorem dX8_copyFrom_165 : decode cX8_copyFrom 165 = .ok (.putfield 43, 3) := by decide +kernel
theorem dX8_copyFrom_168 : decode cX8_copyFrom 168 = .ok (.aload_n 0, 1) := by decide +kernel
theorem dX8_copyFrom_169 : decode cX8_copyFrom 169 = .ok (.aload_n 1, 1) := by decide +kernel
theorem dX8_copyFrom_170 : decode cX8_copyFrom 170 = .ok (.getfield 46, 3) := by decide +kernel
theorem dX8_copyFrom_173 : decode cX8_copyFrom 173 = .ok (.putfield 46, 3) := by decide +kernel
theorem dX8_copyFrom_176 : decode cX8_copyFrom 176 = .ok (.return_, 1) := by decide +kernel
theorem dX9_init_0 : decode cX9_init 0 = .ok (.aload_n 0, 1) := by decide +kernel
theorem dX9_init_1 : decode cX9_init 1 = .ok (.invokespecial 3, 3) := by decide +kernel
theorem dX9_init_4 : decode cX9_init 4 = .ok (.aload_n 0, 1) := by decide +kernel
theorem dX9_init_5 : decode cX9_init 5 = .ok (.bipush 6, 2) := by decide +kernel
theorem dX9_init_7 : decode cX9_init 7 = .ok (.anewarray 9, 3) := by decide +kernel
theorem dX9_init_10 : decode cX9_init 10 = .ok (.putfield 11, 3) := by decide +kernel
theorem dX9_init_13 : decode cX9_init 13 = .ok (.aload_n 0, 1) := by decide +kernel
theorem dX9_init_14 : decode cX9_init 14 = .ok (.iconst 0, 1) := by decide +kernel
theorem dX9_init_15 : decode cX9_init 15 = .ok (.putfield 17, 3) := by decide +kernel
theorem dX9_init_18 : decode cX9_init 18 = .ok (.iconst 0, 1) := by decide +kernel
theorem dX9_init_19 : decode cX9_init 19 = .ok (.istore_n 1, 1) := by decide +kernel
theorem dX9_init_20 : decode cX9_init 20 = .ok (.iload_n 1, 1) := by decide +kernel
theorem dX9_init_21 : decode cX9_init 21 = .ok (.aload_n 0, 1) := by decide +kernel
theorem dX9_init_22 : decode cX9_init 22 = .ok (.getfield 11, 3) := by decide +kernel
theorem dX9_init_25 : decode cX9_init 25 = .ok (.arraylength, 1) := by decide +kernel
theorem dX9_init_26 : decode cX9_init 26 = .ok (.if_icmp .ge 22, 3) := by decide +kernel
theorem dX9_init_29 : decode cX9_init 29 = .ok (.aload_n 0, 1) := by decide +kernel
theorem dX9_init_30 : decode cX9_init 30 = .ok (.getfield 11, 3) := by decide +kernel
theorem dX9_init_33 : decode cX9_init 33 = .ok (.iload_n 1, 1) := by decide +kernel
theorem dX9_init_34 : decode cX9_init 34 = .ok (.new 9, 3) := by decide +kernel
theorem dX9_init_37 : decode cX9_init 37 = .ok (.dup, 1) := by decide +kernel
theorem dX9_init_38 : decode cX9_init 38 = .ok (.invokespecial 21, 3) := by decide +kernel
theorem dX9_init_41 : decode cX9_init 41 = .ok (.aastore, 1) := by decide +kernel
theorem dX9_init_42 : decode cX9_init 42 = .ok (.iinc 1 1, 3) := by decide +kernel
theorem dX9_init_45 : decode cX9_init 45 = .ok (.goto (-25), 3) := by decide +kernel
theorem dX9_init_48 : decode cX9_init 48 = .ok (.return_, 1) := by decide +kernel
theorem dX9_add_0 : decode cX9_add 0 = .ok (.aload_n 0, 1) := by decide +kernel
theorem dX9_add_1 : decode cX9_add 1 = .ok (.getfield 17, 3) := by decide +kernel
theorem dX9_add_4 : decode cX9_add 4 = .ok (.iconst 0, 1) := by decide +kernel
theorem dX9_add_5 : decode cX9_add 5 = .ok (.aload_n 0, 1) := by decide +kernel
theorem dX9_add_6 : decode cX9_add 6 = .ok (.getfield 11, 3) := by decide +kernel
theorem dX9_add_9 : decode cX9_add 9 = .ok (.arraylength, 1) := by decide +kernel
theorem dX9_add_10 : decode cX9_add 10 = .ok (.iconst 1, 1) := by decide +kernel
theorem dX9_add_11 : decode cX9_add 11 = .ok (.isub, 1) := by decide +kernel
theorem dX9_add_12 : decode cX9_add 12 = .ok (.invokestatic 22, 3) := by decide +kernel
theorem dX9_add_15 : decode cX9_add 15 = .ok (.ifCond .eq 32, 3) := by decide +kernel
theorem dX9_add_18 : decode cX9_add 18 = .ok (.aload_n 0, 1) := by decide +kernel
theorem dX9_add_19 : decode cX9_add 19 = .ok (.getfield 11, 3) := by decide +kernel
theorem dX9_add_22 : decode cX9_add 22 = .ok (.aload_n 0, 1) := by decide +kernel
theorem dX9_add_23 : decode cX9_add 23 = .ok (.getfield 17, 3) := by decide +kernel
theorem dX9_add_26 : decode cX9_add 26 = .ok (.aaload, 1) := by decide +kernel
theorem dX9_add_27 : decode cX9_add 27 = .ok (.iload_n 1, 1) := by decide +kernel
theorem dX9_add_28 : decode cX9_add 28 = .ok (.iload_n 2, 1) := by decide +kernel
theorem dX9_add_29 : decode cX9_add 29 = .ok (.iload_n 3, 1) := by decide +kernel
theorem dX9_add_30 : decode cX9_add 30 = .ok (.iload 4, 2) := by decide +kernel
theorem dX9_add_32 : decode cX9_add 32 = .ok (.iload 5, 2) := by decide +kernel
theorem dX9_add_34 : decode cX9_add 34 = .ok (.invokevirtual 26, 3) := by decide +kernel
theorem dX9_add_37 : decode cX9_add 37 = .ok (.aload_n 0, 1) := by decide +kernel
theorem dX9_add_38 : decode cX9_add 38 = .ok (.dup, 1) := by decide +kernel
theorem dX9_add_39 : decode cX9_add 39 = .ok (.getfield 17, 3) := by decide +kernel
theorem dX9_add_42 : decode cX9_add 42 = .ok (.iconst 1, 1) := by decide +kernel
theorem dX9_add_43 : decode cX9_add 43 = .ok (.iadd, 1) := by decide +kernel
theorem dX9_add_44 : decode cX9_add 44 = .ok (.putfield 17, 3) := by decide +kernel
theorem dX9_add_47 : decode cX9_add 47 = .ok (.return_, 1) := by decide +kernel
theorem dX9_heightAt_0 : decode cX9_heightAt 0 = .ok (.iconst 0, 1) := by decide +kernel
theorem dX9_heightAt_1 : decode cX9_heightAt 1 = .ok (.istore_n 2, 1) := by decide +kernel
theorem dX9_heightAt_2 : decode cX9_heightAt 2 = .ok (.iconst 0, 1) := by decide +kernel
theorem dX9_heightAt_3 : decode cX9_heightAt 3 = .ok (.istore_n 3, 1) := by decide +kernel
theorem dX9_heightAt_4 : decode cX9_heightAt 4 = .ok (.iload_n 3, 1) := by decide +kernel
theorem dX9_heightAt_5 : decode cX9_heightAt 5 = .ok (.aload_n 0, 1) := by decide +kernel
theorem dX9_heightAt_6 : decode cX9_heightAt 6 = .ok (.getfield 17, 3) := by decide +kernel
theorem dX9_heightAt_9 : decode cX9_heightAt 9 = .ok (.if_icmp .ge 31, 3) := by decide +kernel
theorem dX9_heightAt_12 : decode cX9_heightAt 12 = .ok (.iload_n 3, 1) := by decide +kernel
theorem dX9_heightAt_13 : decode cX9_heightAt 13 = .ok (.aload_n 0, 1) := by decide +kernel
theorem dX9_heightAt_14 : decode cX9_heightAt 14 = .ok (.getfield 11, 3) := by decide +kernel
theorem dX9_heightAt_17 : decode cX9_heightAt 17 = .ok (.arraylength, 1) := by decide +kernel
theorem dX9_heightAt_18 : decode cX9_heightAt 18 = .ok (.if_icmp .ge 22, 3) := by decide +kernel
theorem dX9_heightAt_21 : decode cX9_heightAt 21 = .ok (.iload_n 2, 1) := by decide +kernel
theorem dX9_heightAt_22 : decode cX9_heightAt 22 = .ok (.aload_n 0, 1) := by decide +kernel
theorem dX9_heightAt_23 : decode cX9_heightAt 23 = .ok (.getfield 11, 3) := by decide +kernel
theorem dX9_heightAt_26 : decode cX9_heightAt 26 = .ok (.iload_n 3, 1) := by decide +kernel
theorem dX9_heightAt_27 : decode cX9_heightAt 27 = .ok (.aaload, 1) := by decide +kernel
theorem dX9_heightAt_28 : decode cX9_heightAt 28 = .ok (.iload_n 1, 1) := by decide +kernel
theorem dX9_heightAt_29 : decode cX9_heightAt 29 = .ok (.invokevirtual 30, 3) := by decide +kernel
theorem dX9_heightAt_32 : decode cX9_heightAt 32 = .ok (.iadd, 1) := by decide +kernel
theorem dX9_heightAt_33 : decode cX9_heightAt 33 = .ok (.istore_n 2, 1) := by decide +kernel
theorem dX9_heightAt_34 : decode cX9_heightAt 34 = .ok (.iinc 3 1, 3) := by decide +kernel
theorem dX9_heightAt_37 : decode cX9_heightAt 37 = .ok (.goto (-33), 3) := by decide +kernel
theorem dX9_heightAt_40 : decode cX9_heightAt 40 = .ok (.iload_n 2, 1) := by decide +kernel
theorem dX9_heightAt_41 : decode cX9_heightAt 41 = .ok (.ireturn, 1) := by decide +kernel
theorem dX9_copyFrom_0 : decode cX9_copyFrom 0 = .ok (.aload_n 0, 1) := by decide +kernel
theorem dX9_copyFrom_1 : decode cX9_copyFrom 1 = .ok (.iconst 0, 1) := by decide +kernel
theorem dX9_copyFrom_2 : decode cX9_copyFrom 2 = .ok (.putfield 17, 3) := by decide +kernel
theorem dX9_copyFrom_5 : decode cX9_copyFrom 5 = .ok (.iconst 0, 1) := by decide +kernel
theorem dX9_copyFrom_6 : decode cX9_copyFrom 6 = .ok (.istore_n 2, 1) := by decide +kernel
theorem dX9_copyFrom_7 : decode cX9_copyFrom 7 = .ok (.iload_n 2, 1) := by decide +kernel
theorem dX9_copyFrom_8 : decode cX9_copyFrom 8 = .ok (.aload_n 1, 1) := by decide +kernel
theorem dX9_copyFrom_9 : decode cX9_copyFrom 9 = .ok (.getfield 17, 3) := by decide +kernel
theorem dX9_copyFrom_12 : decode cX9_copyFrom 12 = .ok (.if_icmp .ge 49, 3) := by decide +kernel
theorem dX9_copyFrom_15 : decode cX9_copyFrom 15 = .ok (.iload_n 2, 1) := by decide +kernel
theorem dX9_copyFrom_16 : decode cX9_copyFrom 16 = .ok (.aload_n 1, 1) := by decide +kernel
theorem dX9_copyFrom_17 : decode cX9_copyFrom 17 = .ok (.getfield 11, 3) := by decide +kernel
theorem dX9_copyFrom_20 : decode cX9_copyFrom 20 = .ok (.arraylength, 1) := by decide +kernel
theorem dX9_copyFrom_21 : decode cX9_copyFrom 21 = .ok (.if_icmp .ge 40, 3) := by decide +kernel
theorem dX9_copyFrom_24 : decode cX9_copyFrom 24 = .ok (.aload_n 1, 1) := by decide +kernel
theorem dX9_copyFrom_25 : decode cX9_copyFrom 25 = .ok (.getfield 11, 3) := by decide +kernel
theorem dX9_copyFrom_28 : decode cX9_copyFrom 28 = .ok (.iload_n 2, 1) := by decide +kernel
theorem dX9_copyFrom_29 : decode cX9_copyFrom 29 = .ok (.aaload, 1) := by decide +kernel
theorem dX9_copyFrom_30 : decode cX9_copyFrom 30 = .ok (.astore_n 3, 1) := by decide +kernel
theorem dX9_copyFrom_31 : decode cX9_copyFrom 31 = .ok (.aload_n 0, 1) := by decide +kernel
theorem dX9_copyFrom_32 : decode cX9_copyFrom 32 = .ok (.aload_n 3, 1) := by decide +kernel
theorem dX9_copyFrom_33 : decode cX9_copyFrom 33 = .ok (.getfield 34, 3) := by decide +kernel
theorem dX9_copyFrom_36 : decode cX9_copyFrom 36 = .ok (.aload_n 3, 1) := by decide +kernel
theorem dX9_copyFrom_37 : decode cX9_copyFrom 37 = .ok (.getfield 37, 3) := by decide +kernel
theorem dX9_copyFrom_40 : decode cX9_copyFrom 40 = .ok (.aload_n 3, 1) := by decide +kernel
theorem dX9_copyFrom_41 : decode cX9_copyFrom 41 = .ok (.getfield 40, 3) := by decide +kernel
theorem dX9_copyFrom_44 : decode cX9_copyFrom 44 = .ok (.aload_n 3, 1) := by decide +kernel
theorem dX9_copyFrom_45 : decode cX9_copyFrom 45 = .ok (.getfield 43, 3) := by decide +kernel
theorem dX9_copyFrom_48 : decode cX9_copyFrom 48 = .ok (.aload_n 3, 1) := by decide +kernel
theorem dX9_copyFrom_49 : decode cX9_copyFrom 49 = .ok (.getfield 46, 3) := by decide +kernel
theorem dX9_copyFrom_52 : decode cX9_copyFrom 52 = .ok (.invokevirtual 49, 3) := by decide +kernel
theorem dX9_copyFrom_55 : decode cX9_copyFrom 55 = .ok (.iinc 2 1, 3) := by decide +kernel
theorem dX9_copyFrom_58 : decode cX9_copyFrom 58 = .ok (.goto (-51), 3) := by decide +kernel
theorem dX9_copyFrom_61 : decode cX9_copyFrom 61 = .ok (.return_, 1) := by decide +kernel
theorem dX10_init_0 : decode cX10_init 0 = .ok (.aload_n 0, 1) := by decide +kernel
theorem dX10_init_1 : decode cX10_init 1 = .ok (.invokespecial 1, 3) := by decide +kernel
theorem dX10_init_4 : decode cX10_init 4 = .ok (.aload_n 0, 1) := by decide +kernel
theorem dX10_init_5 : decode cX10_init 5 = .ok (.new 7, 3) := by decide +kernel
theorem dX10_init_8 : decode cX10_init 8 = .ok (.dup, 1) := by decide +kernel
theorem dX10_init_9 : decode cX10_init 9 = .ok (.invokespecial 9, 3) := by decide +kernel
theorem dX10_init_12 : decode cX10_init 12 = .ok (.putfield 10, 3) := by decide +kernel
theorem dX10_init_15 : decode cX10_init 15 = .ok (.aload_n 0, 1) := by decide +kernel
theorem dX10_init_16 : decode cX10_init 16 = .ok (.aload_n 0, 1) := by decide +kernel
theorem dX10_init_17 : decode cX10_init 17 = .ok (.getfield 10, 3) := by decide +kernel
theorem dX10_init_20 : decode cX10_init 20 = .ok (.getfield 16, 3) := by decide +kernel
theorem dX10_init_23 : decode cX10_init 23 = .ok (.putfield 20, 3) := by decide +kernel
theorem dX10_init_26 : decode cX10_init 26 = .ok (.aload_n 0, 1) := by decide +kernel
theorem dX10_init_27 : decode cX10_init 27 = .ok (.new 21, 3) := by decide +kernel
theorem dX10_init_30 : decode cX10_init 30 = .ok (.dup, 1) := by decide +kernel
theorem dX10_init_31 : decode cX10_init 31 = .ok (.invokespecial 23, 3) := by decide +kernel
theorem dX10_init_34 : decode cX10_init 34 = .ok (.putfield 24, 3) := by decide +kernel
theorem dX10_init_37 : decode cX10_init 37 = .ok (.aload_n 0, 1) := by decide +kernel
theorem dX10_init_38 : decode cX10_init 38 = .ok (.new 27, 3) := by decide +kernel
theorem dX10_init_41 : decode cX10_init 41 = .ok (.dup, 1) := by decide +kernel
theorem dX10_init_42 : decode cX10_init 42 = .ok (.invokespecial 29, 3) := by decide +kernel
theorem dX10_init_45 : decode cX10_init 45 = .ok (.putfield 30, 3) := by decide +kernel
theorem dX10_init_48 : decode cX10_init 48 = .ok (.aload_n 0, 1) := by decide +kernel
theorem dX10_init_49 : decode cX10_init 49 = .ok (.aload_n 0, 1) := by decide +kernel
theorem dX10_init_50 : decode cX10_init 50 = .ok (.getfield 30, 3) := by decide +kernel
theorem dX10_init_53 : decode cX10_init 53 = .ok (.getfield 34, 3) := by decide +kernel
theorem dX10_init_56 : decode cX10_init 56 = .ok (.getfield 38, 3) := by decide +kernel
theorem dX10_init_59 : decode cX10_init 59 = .ok (.putfield 44, 3) := by decide +kernel
theorem dX10_init_62 : decode cX10_init 62 = .ok (.aload_n 0, 1) := by decide +kernel
theorem dX10_init_63 : decode cX10_init 63 = .ok (.new 47, 3) := by decide +kernel
theorem dX10_init_66 : decode cX10_init 66 = .ok (.dup, 1) := by decide +kernel
theorem dX10_init_67 : decode cX10_init 67 = .ok (.invokespecial 49, 3) := by decide +kernel
theorem dX10_init_70 : decode cX10_init 70 = .ok (.putfield 50, 3) := by decide +kernel
theorem dX10_init_73 : decode cX10_init 73 = .ok (.aload_n 0, 1) := by decide +kernel
theorem dX10_init_74 : decode cX10_init 74 = .ok (.new 54, 3) := by decide +kernel
theorem dX10_init_77 : decode cX10_init 77 = .ok (.dup, 1) := by decide +kernel
theorem dX10_init_78 : decode cX10_init 78 = .ok (.invokespecial 56, 3) := by decide +kernel
theorem dX10_init_81 : decode cX10_init 81 = .ok (.putfield 57, 3) := by decide +kernel
theorem dX10_init_84 : decode cX10_init 84 = .ok (.aload_n 0, 1) := by decide +kernel
theorem dX10_init_85 : decode cX10_init 85 = .ok (.bipush 20, 2) := by decide +kernel
theorem dX10_init_87 : decode cX10_init 87 = .ok (.newarray .int, 2) := by decide +kernel
theorem dX10_init_89 : decode cX10_init 89 = .ok (.putfield 61, 3) := by decide +kernel
theorem dX10_init_92 : decode cX10_init 92 = .ok (.aload_n 0, 1) := by decide +kernel
theorem dX10_init_93 : decode cX10_init 93 = .ok (.bipush 20, 2) := by decide +kernel
theorem dX10_init_95 : decode cX10_init 95 = .ok (.newarray .int, 2) := by decide +kernel
theorem dX10_init_97 : decode cX10_init 97 = .ok (.putfield 64, 3) := by decide +kernel
theorem dX10_init_100 : decode cX10_init 100 = .ok (.aload_n 0, 1) := by decide +kernel
theorem dX10_init_101 : decode cX10_init 101 = .ok (.iconst 0, 1) := by decide +kernel
theorem dX10_init_102 : decode cX10_init 102 = .ok (.putfield 67, 3) := by decide +kernel
theorem dX10_init_105 : decode cX10_init 105 = .ok (.aload_n 0, 1) := by decide +kernel
theorem dX10_init_106 : decode cX10_init 106 = .ok (.iconst (-1), 1) := by decide +kernel
theorem dX10_init_107 : decode cX10_init 107 = .ok (.putfield 71, 3) := by decide +kernel
theorem dX10_init_110 : decode cX10_init 110 = .ok (.aload_n 0, 1) := by decide +kernel
theorem dX10_init_111 : decode cX10_init 111 = .ok (.iconst (-1), 1) := by decide +kernel
theorem dX10_init_112 : decode cX10_init 112 = .ok (.putfield 74, 3) := by decide +kernel
theorem dX10_init_115 : decode cX10_init 115 = .ok (.return_, 1) := by decide +kernel
theorem dX10_part_0 : decode cX10_part 0 = .ok (.iload_n 1, 1) := by decide +kernel
theorem dX10_part_1 : decode cX10_part 1 = .ok (.invokestatic 77, 3) := by decide +kernel
theorem dX10_part_4 : decode cX10_part 4 = .ok (.ifCond .eq 65, 3) := by decide +kernel
theorem dX10_part_7 : decode cX10_part 7 = .ok (.iload_n 2, 1) := by decide +kernel
theorem dX10_part_8 : decode cX10_part 8 = .ok (.iconst 0, 1) := by decide +kernel
theorem dX10_part_9 : decode cX10_part 9 = .ok (.iconst 2, 1) := by decide +kernel
theorem dX10_part_10 : decode cX10_part 10 = .ok (.invokestatic 81, 3) := by decide +kernel
theorem dX10_part_13 : decode cX10_part 13 = .ok (.ifCond .eq 56, 3) := by decide +kernel
theorem dX10_part_16 : decode cX10_part 16 = .ok (.iload_n 3, 1) := by decide +kernel
theorem dX10_part_17 : decode cX10_part 17 = .ok (.sipush (-999), 3) := by decide +kernel
theorem dX10_part_20 : decode cX10_part 20 = .ok (.sipush 999, 3) := by decide +kernel
theorem dX10_part_23 : decode cX10_part 23 = .ok (.invokestatic 81, 3) := by decide +kernel
theorem dX10_part_26 : decode cX10_part 26 = .ok (.ifCond .eq 43, 3) := by decide +kernel
theorem dX10_part_29 : decode cX10_part 29 = .ok (.iload 4, 2) := by decide +kernel
theorem dX10_part_31 : decode cX10_part 31 = .ok (.iconst 1, 1) := by decide +kernel
theorem dX10_part_32 : decode cX10_part 32 = .ok (.sipush 500, 3) := by decide +kernel
theorem dX10_part_35 : decode cX10_part 35 = .ok (.invokestatic 81, 3) := by decide +kernel
theorem dX10_part_38 : decode cX10_part 38 = .ok (.ifCond .eq 31, 3) := by decide +kernel
theorem dX10_part_41 : decode cX10_part 41 = .ok (.iload 5, 2) := by decide +kernel
theorem dX10_part_43 : decode cX10_part 43 = .ok (.iconst 0, 1) := by decide +kernel
theorem dX10_part_44 : decode cX10_part 44 = .ok (.sipush 500, 3) := by decide +kernel
theorem dX10_part_47 : decode cX10_part 47 = .ok (.invokestatic 81, 3) := by decide +kernel
theorem dX10_part_50 : decode cX10_part 50 = .ok (.ifCond .eq 19, 3) := by decide +kernel
theorem dX10_part_53 : decode cX10_part 53 = .ok (.iload 6, 2) := by decide +kernel
theorem dX10_part_55 : decode cX10_part 55 = .ok (.iconst 0, 1) := by decide +kernel
theorem dX10_part_56 : decode cX10_part 56 = .ok (.sipush 1999, 3) := by decide +kernel
theorem dX10_part_59 : decode cX10_part 59 = .ok (.invokestatic 81, 3) := by decide +kernel
theorem dX10_part_62 : decode cX10_part 62 = .ok (.ifCond .eq 7, 3) := by decide +kernel
theorem dX10_part_65 : decode cX10_part 65 = .ok (.iconst 1, 1) := by decide +kernel
theorem dX10_part_66 : decode cX10_part 66 = .ok (.goto 4, 3) := by decide +kernel
theorem dX10_part_69 : decode cX10_part 69 = .ok (.iconst 0, 1) := by decide +kernel
theorem dX10_part_70 : decode cX10_part 70 = .ok (.istore 7, 2) := by decide +kernel
theorem dX10_part_72 : decode cX10_part 72 = .ok (.iload 7, 2) := by decide +kernel
theorem dX10_part_74 : decode cX10_part 74 = .ok (.ifCond .eq 20, 3) := by decide +kernel
theorem dX10_part_77 : decode cX10_part 77 = .ok (.aload_n 0, 1) := by decide +kernel
theorem dX10_part_78 : decode cX10_part 78 = .ok (.getfield 20, 3) := by decide +kernel
theorem dX10_part_81 : decode cX10_part 81 = .ok (.getfield 85, 3) := by decide +kernel
theorem dX10_part_84 : decode cX10_part 84 = .ok (.iload_n 1, 1) := by decide +kernel
theorem dX10_part_85 : decode cX10_part 85 = .ok (.aaload, 1) := by decide +kernel
theorem dX10_part_86 : decode cX10_part 86 = .ok (.getfield 89, 3) := by decide +kernel
theorem dX10_part_89 : decode cX10_part 89 = .ok (.bipush 6, 2) := by decide +kernel
theorem dX10_part_91 : decode cX10_part 91 = .ok (.if_icmp .lt 5, 3) := by decide +kernel
theorem dX10_part_94 : decode cX10_part 94 = .ok (.iconst (-1), 1) := by decide +kernel
theorem dX10_part_95 : decode cX10_part 95 = .ok (.ireturn, 1) := by decide +kernel
theorem dX10_part_96 : decode cX10_part 96 = .ok (.aload_n 0, 1) := by decide +kernel
theorem dX10_part_97 : decode cX10_part 97 = .ok (.getfield 20, 3) := by decide +kernel
theorem dX10_part_100 : decode cX10_part 100 = .ok (.getfield 85, 3) := by decide +kernel
theorem dX10_part_103 : decode cX10_part 103 = .ok (.iload_n 1, 1) := by decide +kernel
theorem dX10_part_104 : decode cX10_part 104 = .ok (.aaload, 1) := by decide +kernel
theorem dX10_part_105 : decode cX10_part 105 = .ok (.iload_n 2, 1) := by decide +kernel
theorem dX10_part_106 : decode cX10_part 106 = .ok (.iload_n 3, 1) := by decide +kernel
theorem dX10_part_107 : decode cX10_part 107 = .ok (.iload 4, 2) := by decide +kernel
theorem dX10_part_109 : decode cX10_part 109 = .ok (.iload 5, 2) := by decide +kernel
theorem dX10_part_111 : decode cX10_part 111 = .ok (.iload 6, 2) := by decide +kernel
theorem dX10_part_113 : decode cX10_part 113 = .ok (.invokevirtual 94, 3) := by decide +kernel
theorem dX10_part_116 : decode cX10_part 116 = .ok (.aload_n 0, 1) := by decide +kernel
theorem dX10_part_117 : decode cX10_part 117 = .ok (.getfield 10, 3) := by decide +kernel
theorem dX10_part_120 : decode cX10_part 120 = .ok (.invokevirtual 98, 3) := by decide +kernel
theorem dX10_part_123 : decode cX10_part 123 = .ok (.aload_n 0, 1) := by decide +kernel
theorem dX10_part_124 : decode cX10_part 124 = .ok (.getfield 20, 3) := by decide +kernel
theorem dX10_part_127 : decode cX10_part 127 = .ok (.getfield 85, 3) := by decide +kernel
theorem dX10_part_130 : decode cX10_part 130 = .ok (.iload_n 1, 1) := by decide +kernel
theorem dX10_part_131 : decode cX10_part 131 = .ok (.aaload, 1) := by decide +kernel
theorem dX10_part_132 : decode cX10_part 132 = .ok (.getfield 89, 3) := by decide +kernel
theorem dX10_part_135 : decode cX10_part 135 = .ok (.ireturn, 1) := by decide +kernel
theorem dX10_clear_0 : decode cX10_clear 0 = .ok (.iload_n 1, 1) := by decide +kernel
theorem dX10_clear_1 : decode cX10_clear 1 = .ok (.invokestatic 77, 3) := by decide +kernel
theorem dX10_clear_4 : decode cX10_clear 4 = .ok (.ifCond .ne 5, 3) := by decide +kernel
theorem dX10_clear_7 : decode cX10_clear 7 = .ok (.iconst (-1), 1) := by decide +kernel
theorem dX10_clear_8 : decode cX10_clear 8 = .ok (.ireturn, 1) := by decide +kernel
theorem dX10_clear_9 : decode cX10_clear 9 = .ok (.aload_n 0, 1) := by decide +kernel
theorem dX10_clear_10 : decode cX10_clear 10 = .ok (.getfield 20, 3) := by decide +kernel
theorem dX10_clear_13 : decode cX10_clear 13 = .ok (.getfield 85, 3) := by decide +kernel
theorem dX10_clear_16 : decode cX10_clear 16 = .ok (.iload_n 1, 1) := by decide +kernel
theorem dX10_clear_17 : decode cX10_clear 17 = .ok (.aaload, 1) := by decide +kernel
theorem dX10_clear_18 : decode cX10_clear 18 = .ok (.getfield 89, 3) := by decide +kernel
theorem dX10_clear_21 : decode cX10_clear 21 = .ok (.istore_n 2, 1) := by decide +kernel
theorem dX10_clear_22 : decode cX10_clear 22 = .ok (.aload_n 0, 1) := by decide +kernel
theorem dX10_clear_23 : decode cX10_clear 23 = .ok (.getfield 20, 3) := by decide +kernel
theorem dX10_clear_26 : decode cX10_clear 26 = .ok (.getfield 85, 3) := by decide +kernel
theorem dX10_clear_29 : decode cX10_clear 29 = .ok (.iload_n 1, 1) := by decide +kernel
theorem dX10_clear_30 : decode cX10_clear 30 = .ok (.aaload, 1) := by decide +kernel
theorem dX10_clear_31 : decode cX10_clear 31 = .ok (.iconst 0, 1) := by decide +kernel
theorem dX10_clear_32 : decode cX10_clear 32 = .ok (.putfield 89, 3) := by decide +kernel
theorem dX10_clear_35 : decode cX10_clear 35 = .ok (.aload_n 0, 1) := by decide +kernel
theorem dX10_clear_36 : decode cX10_clear 36 = .ok (.getfield 10, 3) := by decide +kernel
theorem dX10_clear_39 : decode cX10_clear 39 = .ok (.invokevirtual 98, 3) := by decide +kernel
theorem dX10_clear_42 : decode cX10_clear 42 = .ok (.iload_n 2, 1) := by decide +kernel
theorem dX10_clear_43 : decode cX10_clear 43 = .ok (.ireturn, 1) := by decide +kernel
theorem dX10_raw_0 : decode cX10_raw 0 = .ok (.iload_n 1, 1) := by decide +kernel
theorem dX10_raw_1 : decode cX10_raw 1 = .ok (.invokestatic 77, 3) := by decide +kernel
theorem dX10_raw_4 : decode cX10_raw 4 = .ok (.ifCond .eq 14, 3) := by decide +kernel
theorem dX10_raw_7 : decode cX10_raw 7 = .ok (.iload_n 2, 1) := by decide +kernel
theorem dX10_raw_8 : decode cX10_raw 8 = .ok (.iconst 0, 1) := by decide +kernel
theorem dX10_raw_9 : decode cX10_raw 9 = .ok (.sipush 9999, 3) := by decide +kernel
theorem dX10_raw_12 : decode cX10_raw 12 = .ok (.invokestatic 81, 3) := by decide +kernel
theorem dX10_raw_15 : decode cX10_raw 15 = .ok (.ifCond .ne 6, 3) := by decide +kernel
theorem dX10_raw_18 : decode cX10_raw 18 = .ok (.ldc 101, 2) := by decide +kernel
theorem dX10_raw_20 : decode cX10_raw 20 = .ok (.ireturn, 1) := by decide +kernel
theorem dX10_raw_21 : decode cX10_raw 21 = .ok (.aload_n 0, 1) := by decide +kernel
theorem dX10_raw_22 : decode cX10_raw 22 = .ok (.getfield 20, 3) := by decide +kernel
theorem dX10_raw_25 : decode cX10_raw 25 = .ok (.getfield 85, 3) := by decide +kernel
theorem dX10_raw_28 : decode cX10_raw 28 = .ok (.iload_n 1, 1) := by decide +kernel
theorem dX10_raw_29 : decode cX10_raw 29 = .ok (.aaload, 1) := by decide +kernel
theorem dX10_raw_30 : decode cX10_raw 30 = .ok (.iload_n 2, 1) := by decide +kernel
theorem dX10_raw_31 : decode cX10_raw 31 = .ok (.invokevirtual 102, 3) := by decide +kernel
theorem dX10_raw_34 : decode cX10_raw 34 = .ok (.ireturn, 1) := by decide +kernel
theorem dX10_probe_0 : decode cX10_probe 0 = .ok (.iload_n 1, 1) := by decide +kernel
theorem dX10_probe_1 : decode cX10_probe 1 = .ok (.invokestatic 106, 3) := by decide +kernel
theorem dX10_probe_4 : decode cX10_probe 4 = .ok (.ifCond .eq 34, 3) := by decide +kernel
theorem dX10_probe_7 : decode cX10_probe 7 = .ok (.iload_n 2, 1) := by decide +kernel
theorem dX10_probe_8 : decode cX10_probe 8 = .ok (.iconst 1, 1) := by decide +kernel
theorem dX10_probe_9 : decode cX10_probe 9 = .ok (.bipush 20, 2) := by decide +kernel
theorem dX10_probe_11 : decode cX10_probe 11 = .ok (.invokestatic 81, 3) := by decide +kernel
theorem dX10_probe_14 : decode cX10_probe 14 = .ok (.ifCond .eq 24, 3) := by decide +kernel
theorem dX10_probe_17 : decode cX10_probe 17 = .ok (.iload_n 3, 1) := by decide +kernel
theorem dX10_probe_18 : decode cX10_probe 18 = .ok (.iconst 1, 1) := by decide +kernel
theorem dX10_probe_19 : decode cX10_probe 19 = .ok (.bipush 20, 2) := by decide +kernel
theorem dX10_probe_21 : decode cX10_probe 21 = .ok (.invokestatic 81, 3) := by decide +kernel
theorem dX10_probe_24 : decode cX10_probe 24 = .ok (.ifCond .eq 14, 3) := by decide +kernel
theorem dX10_probe_27 : decode cX10_probe 27 = .ok (.iload 4, 2) := by decide +kernel
theorem dX10_probe_29 : decode cX10_probe 29 = .ok (.iconst 1, 1) := by decide +kernel
theorem dX10_probe_30 : decode cX10_probe 30 = .ok (.bipush 16, 2) := by decide +kernel
theorem dX10_probe_32 : decode cX10_probe 32 = .ok (.invokestatic 81, 3) := by decide +kernel
theorem dX10_probe_35 : decode cX10_probe 35 = .ok (.ifCond .ne 5, 3) := by decide +kernel
theorem dX10_probe_38 : decode cX10_probe 38 = .ok (.iconst 0, 1) := by decide +kernel
theorem dX10_probe_39 : decode cX10_probe 39 = .ok (.ireturn, 1) := by decide +kernel
theorem dX10_probe_40 : decode cX10_probe 40 = .ok (.aload_n 0, 1) := by decide +kernel
theorem dX10_probe_41 : decode cX10_probe 41 = .ok (.getfield 20, 3) := by decide +kernel
theorem dX10_probe_44 : decode cX10_probe 44 = .ok (.getfield 109, 3) := by decide +kernel
theorem dX10_probe_47 : decode cX10_probe 47 = .ok (.iload_n 1, 1) := by decide +kernel
theorem dX10_probe_48 : decode cX10_probe 48 = .ok (.aaload, 1) := by decide +kernel
theorem dX10_probe_49 : decode cX10_probe 49 = .ok (.iload_n 2, 1) := by decide +kernel
theorem dX10_probe_50 : decode cX10_probe 50 = .ok (.iload_n 3, 1) := by decide +kernel
theorem dX10_probe_51 : decode cX10_probe 51 = .ok (.iload 4, 2) := by decide +kernel
theorem dX10_probe_53 : decode cX10_probe 53 = .ok (.invokevirtual 113, 3) := by decide +kernel
theorem dX10_probe_56 : decode cX10_probe 56 = .ok (.aload_n 0, 1) := by decide +kernel
theorem dX10_probe_57 : decode cX10_probe 57 = .ok (.getfield 10, 3) := by decide +kernel
theorem dX10_probe_60 : decode cX10_probe 60 = .ok (.invokevirtual 98, 3) := by decide +kernel
theorem dX10_probe_63 : decode cX10_probe 63 = .ok (.iconst 1, 1) := by decide +kernel
theorem dX10_probe_64 : decode cX10_probe 64 = .ok (.ireturn, 1) := by decide +kernel
theorem dX10_channel_0 : decode cX10_channel 0 = .ok (.iload_n 1, 1) := by decide +kernel
theorem dX10_channel_1 : decode cX10_channel 1 = .ok (.invokestatic 106, 3) := by decide +kernel
theorem dX10_channel_4 : decode cX10_channel 4 = .ok (.ifCond .eq 33, 3) := by decide +kernel
theorem dX10_channel_7 : decode cX10_channel 7 = .ok (.iload_n 2, 1) := by decide +kernel
theorem dX10_channel_8 : decode cX10_channel 8 = .ok (.invokestatic 77, 3) := by decide +kernel
theorem dX10_channel_11 : decode cX10_channel 11 = .ok (.ifCond .eq 26, 3) := by decide +kernel
theorem dX10_channel_14 : decode cX10_channel 14 = .ok (.iload_n 3, 1) := by decide +kernel
theorem dX10_channel_15 : decode cX10_channel 15 = .ok (.iconst 1, 1) := by decide +kernel
theorem dX10_channel_16 : decode cX10_channel 16 = .ok (.sipush 999, 3) := by decide +kernel
theorem dX10_channel_19 : decode cX10_channel 19 = .ok (.invokestatic 81, 3) := by decide +kernel
theorem dX10_channel_22 : decode cX10_channel 22 = .ok (.ifCond .eq 15, 3) := by decide +kernel
theorem dX10_channel_25 : decode cX10_channel 25 = .ok (.iload 4, 2) := by decide +kernel
theorem dX10_channel_27 : decode cX10_channel 27 = .ok (.bipush (-15), 2) := by decide +kernel
theorem dX10_channel_29 : decode cX10_channel 29 = .ok (.bipush 15, 2) := by decide +kernel
theorem dX10_channel_31 : decode cX10_channel 31 = .ok (.invokestatic 81, 3) := by decide +kernel
theorem dX10_channel_34 : decode cX10_channel 34 = .ok (.ifCond .ne 5, 3) := by decide +kernel
theorem dX10_channel_37 : decode cX10_channel 37 = .ok (.iconst 0, 1) := by decide +kernel
theorem dX10_channel_38 : decode cX10_channel 38 = .ok (.ireturn, 1) := by decide +kernel
theorem dX10_channel_39 : decode cX10_channel 39 = .ok (.aload_n 0, 1) := by decide +kernel
theorem dX10_channel_40 : decode cX10_channel 40 = .ok (.getfield 20, 3) := by decide +kernel
theorem dX10_channel_43 : decode cX10_channel 43 = .ok (.getfield 109, 3) := by decide +kernel
theorem dX10_channel_46 : decode cX10_channel 46 = .ok (.iload_n 1, 1) := by decide +kernel
theorem dX10_channel_47 : decode cX10_channel 47 = .ok (.aaload, 1) := by decide +kernel
theorem dX10_channel_48 : decode cX10_channel 48 = .ok (.iload_n 2, 1) := by decide +kernel
theorem dX10_channel_49 : decode cX10_channel 49 = .ok (.iload_n 3, 1) := by decide +kernel
theorem dX10_channel_50 : decode cX10_channel 50 = .ok (.iload 4, 2) := by decide +kernel
theorem dX10_channel_52 : decode cX10_channel 52 = .ok (.invokevirtual 119, 3) := by decide +kernel
theorem dX10_channel_55 : decode cX10_channel 55 = .ok (.aload_n 0, 1) := by decide +kernel
theorem dX10_channel_56 : decode cX10_channel 56 = .ok (.getfield 10, 3) := by decide +kernel
theorem dX10_channel_59 : decode cX10_channel 59 = .ok (.invokevirtual 98, 3) := by decide +kernel
theorem dX10_channel_62 : decode cX10_channel 62 = .ok (.iconst 1, 1) := by decide +kernel
theorem dX10_channel_63 : decode cX10_channel 63 = .ok (.ireturn, 1) := by decide +kernel
theorem dX10_out_0 : decode cX10_out 0 = .ok (.iload_n 1, 1) := by decide +kernel
theorem dX10_out_1 : decode cX10_out 1 = .ok (.invokestatic 106, 3) := by decide +kernel
theorem dX10_out_4 : decode cX10_out 4 = .ok (.ifCond .eq 14, 3) := by decide +kernel
theorem dX10_out_7 : decode cX10_out 7 = .ok (.iload_n 2, 1) := by decide +kernel
theorem dX10_out_8 : decode cX10_out 8 = .ok (.iconst 0, 1) := by decide +kernel
theorem dX10_out_9 : decode cX10_out 9 = .ok (.sipush 1999, 3) := by decide +kernel
theorem dX10_out_12 : decode cX10_out 12 = .ok (.invokestatic 81, 3) := by decide +kernel
theorem dX10_out_15 : decode cX10_out 15 = .ok (.ifCond .ne 6, 3) := by decide +kernel
theorem dX10_out_18 : decode cX10_out 18 = .ok (.ldc 101, 2) := by decide +kernel
theorem dX10_out_20 : decode cX10_out 20 = .ok (.ireturn, 1) := by decide +kernel
theorem dX10_out_21 : decode cX10_out 21 = .ok (.aload_n 0, 1) := by decide +kernel
theorem dX10_out_22 : decode cX10_out 22 = .ok (.getfield 10, 3) := by decide +kernel
theorem dX10_out_25 : decode cX10_out 25 = .ok (.iload_n 1, 1) := by decide +kernel
theorem dX10_out_26 : decode cX10_out 26 = .ok (.iload_n 2, 1) := by decide +kernel
theorem dX10_out_27 : decode cX10_out 27 = .ok (.invokevirtual 122, 3) := by decide +kernel
theorem dX10_out_30 : decode cX10_out 30 = .ok (.ireturn, 1) := by decide +kernel
theorem dX10_base_0 : decode cX10_base 0 = .ok (.iload_n 1, 1) := by decide +kernel
theorem dX10_base_1 : decode cX10_base 1 = .ok (.iconst 1, 1) := by decide +kernel
theorem dX10_base_2 : decode cX10_base 2 = .ok (.bipush 50, 2) := by decide +kernel
theorem dX10_base_4 : decode cX10_base 4 = .ok (.invokestatic 81, 3) := by decide +kernel
theorem dX10_base_7 : decode cX10_base 7 = .ok (.ifCond .eq 24, 3) := by decide +kernel
theorem dX10_base_10 : decode cX10_base 10 = .ok (.iload_n 2, 1) := by decide +kernel
theorem dX10_base_11 : decode cX10_base 11 = .ok (.iconst 0, 1) := by decide +kernel
theorem dX10_base_12 : decode cX10_base 12 = .ok (.sipush 999, 3) := by decide +kernel
theorem dX10_base_15 : decode cX10_base 15 = .ok (.invokestatic 81, 3) := by decide +kernel
theorem dX10_base_18 : decode cX10_base 18 = .ok (.ifCond .eq 13, 3) := by decide +kernel
theorem dX10_base_21 : decode cX10_base 21 = .ok (.iload_n 3, 1) := by decide +kernel
theorem dX10_base_22 : decode cX10_base 22 = .ok (.iconst 0, 1) := by decide +kernel
theorem dX10_base_23 : decode cX10_base 23 = .ok (.bipush 16, 2) := by decide +kernel
theorem dX10_base_25 : decode cX10_base 25 = .ok (.invokestatic 81, 3) := by decide +kernel
theorem dX10_base_28 : decode cX10_base 28 = .ok (.ifCond .ne 5, 3) := by decide +kernel
theorem dX10_base_31 : decode cX10_base 31 = .ok (.iconst 0, 1) := by decide +kernel
theorem dX10_base_32 : decode cX10_base 32 = .ok (.ireturn, 1) := by decide +kernel
theorem dX10_base_33 : decode cX10_base 33 = .ok (.aload_n 0, 1) := by decide +kernel
theorem dX10_base_34 : decode cX10_base 34 = .ok (.getfield 20, 3) := by decide +kernel
theorem dX10_base_37 : decode cX10_base 37 = .ok (.iload_n 1, 1) := by decide +kernel
theorem dX10_base_38 : decode cX10_base 38 = .ok (.putfield 126, 3) := by decide +kernel
theorem dX10_base_41 : decode cX10_base 41 = .ok (.aload_n 0, 1) := by decide +kernel
theorem dX10_base_42 : decode cX10_base 42 = .ok (.getfield 20, 3) := by decide +kernel
theorem dX10_base_45 : decode cX10_base 45 = .ok (.iload_n 2, 1) := by decide +kernel
theorem dX10_base_46 : decode cX10_base 46 = .ok (.putfield 129, 3) := by decide +kernel
theorem dX10_base_49 : decode cX10_base 49 = .ok (.aload_n 0, 1) := by decide +kernel
theorem dX10_base_50 : decode cX10_base 50 = .ok (.getfield 20, 3) := by decide +kernel
theorem dX10_base_53 : decode cX10_base 53 = .ok (.iload_n 3, 1) := by decide +kernel
theorem dX10_base_54 : decode cX10_base 54 = .ok (.putfield 132, 3) := by decide +kernel
theorem dX10_base_57 : decode cX10_base 57 = .ok (.iconst 1, 1) := by decide +kernel
theorem dX10_base_58 : decode cX10_base 58 = .ok (.ireturn, 1) := by decide +kernel
theorem dX10_mode_0 : decode cX10_mode 0 = .ok (.iload_n 1, 1) := by decide +kernel
theorem dX10_mode_1 : decode cX10_mode 1 = .ok (.iconst 0, 1) := by decide +kernel
theorem dX10_mode_2 : decode cX10_mode 2 = .ok (.iconst 3, 1) := by decide +kernel
theorem dX10_mode_3 : decode cX10_mode 3 = .ok (.invokestatic 81, 3) := by decide +kernel
theorem dX10_mode_6 : decode cX10_mode 6 = .ok (.ifCond .eq 13, 3) := by decide +kernel
theorem dX10_mode_9 : decode cX10_mode 9 = .ok (.iload_n 2, 1) := by decide +kernel
theorem dX10_mode_10 : decode cX10_mode 10 = .ok (.iconst 1, 1) := by decide +kernel
theorem dX10_mode_11 : decode cX10_mode 11 = .ok (.bipush 50, 2) := by decide +kernel
theorem dX10_mode_13 : decode cX10_mode 13 = .ok (.invokestatic 81, 3) := by decide +kernel
theorem dX10_mode_16 : decode cX10_mode 16 = .ok (.ifCond .ne 5, 3) := by decide +kernel
theorem dX10_mode_19 : decode cX10_mode 19 = .ok (.iconst 0, 1) := by decide +kernel
theorem dX10_mode_20 : decode cX10_mode 20 = .ok (.ireturn, 1) := by decide +kernel
theorem dX10_mode_21 : decode cX10_mode 21 = .ok (.aload_n 0, 1) := by decide +kernel
theorem dX10_mode_22 : decode cX10_mode 22 = .ok (.getfield 20, 3) := by decide +kernel
theorem dX10_mode_25 : decode cX10_mode 25 = .ok (.iload_n 1, 1) := by decide +kernel
theorem dX10_mode_26 : decode cX10_mode 26 = .ok (.putfield 135, 3) := by decide +kernel
theorem dX10_mode_29 : decode cX10_mode 29 = .ok (.aload_n 0, 1) := by decide +kernel
theorem dX10_mode_30 : decode cX10_mode 30 = .ok (.getfield 20, 3) := by decide +kernel
theorem dX10_mode_33 : decode cX10_mode 33 = .ok (.iload_n 2, 1) := by decide +kernel
theorem dX10_mode_34 : decode cX10_mode 34 = .ok (.putfield 138, 3) := by decide +kernel
theorem dX10_mode_37 : decode cX10_mode 37 = .ok (.iconst 1, 1) := by decide +kernel
theorem dX10_mode_38 : decode cX10_mode 38 = .ok (.ireturn, 1) := by decide +kernel
theorem dX10_feed_0 : decode cX10_feed 0 = .ok (.aload_n 0, 1) := by decide +kernel
theorem dX10_feed_1 : decode cX10_feed 1 = .ok (.getfield 67, 3) := by decide +kernel
theorem dX10_feed_4 : decode cX10_feed 4 = .ok (.sipush 280, 3) := by decide +kernel
theorem dX10_feed_7 : decode cX10_feed 7 = .ok (.if_icmp .le 5, 3) := by decide +kernel
theorem dX10_feed_10 : decode cX10_feed 10 = .ok (.iconst (-1), 1) := by decide +kernel
theorem dX10_feed_11 : decode cX10_feed 11 = .ok (.ireturn, 1) := by decide +kernel
theorem dX10_feed_12 : decode cX10_feed 12 = .ok (.aload_n 0, 1) := by decide +kernel
theorem dX10_feed_13 : decode cX10_feed 13 = .ok (.iload_n 1, 1) := by decide +kernel
theorem dX10_feed_14 : decode cX10_feed 14 = .ok (.invokevirtual 141, 3) := by decide +kernel
theorem dX10_feed_17 : decode cX10_feed 17 = .ok (.aload_n 0, 1) := by decide +kernel
theorem dX10_feed_18 : decode cX10_feed 18 = .ok (.iload_n 2, 1) := by decide +kernel
theorem dX10_feed_19 : decode cX10_feed 19 = .ok (.invokevirtual 141, 3) := by decide +kernel
theorem dX10_feed_22 : decode cX10_feed 22 = .ok (.aload_n 0, 1) := by decide +kernel
theorem dX10_feed_23 : decode cX10_feed 23 = .ok (.iload_n 3, 1) := by decide +kernel
theorem dX10_feed_24 : decode cX10_feed 24 = .ok (.invokevirtual 141, 3) := by decide +kernel
theorem dX10_feed_27 : decode cX10_feed 27 = .ok (.aload_n 0, 1) := by decide +kernel
theorem dX10_feed_28 : decode cX10_feed 28 = .ok (.iload 4, 2) := by decide +kernel
theorem dX10_feed_30 : decode cX10_feed 30 = .ok (.invokevirtual 141, 3) := by decide +kernel
theorem dX10_feed_33 : decode cX10_feed 33 = .ok (.aload_n 0, 1) := by decide +kernel
theorem dX10_feed_34 : decode cX10_feed 34 = .ok (.iload 5, 2) := by decide +kernel
theorem dX10_feed_36 : decode cX10_feed 36 = .ok (.invokevirtual 141, 3) := by decide +kernel
theorem dX10_feed_39 : decode cX10_feed 39 = .ok (.aload_n 0, 1) := by decide +kernel
theorem dX10_feed_40 : decode cX10_feed 40 = .ok (.getfield 67, 3) := by decide +kernel
theorem dX10_feed_43 : decode cX10_feed 43 = .ok (.ireturn, 1) := by decide +kernel
theorem dX10_feedNumber_0 : decode cX10_feedNumber 0 = .ok (.bipush 24, 2) := by decide +kernel
theorem dX10_feedNumber_2 : decode cX10_feedNumber 2 = .ok (.istore_n 2, 1) := by decide +kernel
theorem dX10_feedNumber_3 : decode cX10_feedNumber 3 = .ok (.iload_n 2, 1) := by decide +kernel
theorem dX10_feedNumber_4 : decode cX10_feedNumber 4 = .ok (.ifCond .lt 53, 3) := by decide +kernel
theorem dX10_feedNumber_7 : decode cX10_feedNumber 7 = .ok (.aload_n 0, 1) := by decide +kernel
theorem dX10_feedNumber_8 : decode cX10_feedNumber 8 = .ok (.getfield 67, 3) := by decide +kernel
theorem dX10_feedNumber_11 : decode cX10_feedNumber 11 = .ok (.iconst 0, 1) := by decide +kernel
theorem dX10_feedNumber_12 : decode cX10_feedNumber 12 = .ok (.aload_n 0, 1) := by decide +kernel
theorem dX10_feedNumber_13 : decode cX10_feedNumber 13 = .ok (.getfield 44, 3) := by decide +kernel
theorem dX10_feedNumber_16 : decode cX10_feedNumber 16 = .ok (.arraylength, 1) := by decide +kernel
theorem dX10_feedNumber_17 : decode cX10_feedNumber 17 = .ok (.iconst 1, 1) := by decide +kernel
theorem dX10_feedNumber_18 : decode cX10_feedNumber 18 = .ok (.isub, 1) := by decide +kernel
theorem dX10_feedNumber_19 : decode cX10_feedNumber 19 = .ok (.invokestatic 81, 3) := by decide +kernel
theorem dX10_feedNumber_22 : decode cX10_feedNumber 22 = .ok (.ifCond .eq 29, 3) := by decide +kernel
theorem dX10_feedNumber_25 : decode cX10_feedNumber 25 = .ok (.aload_n 0, 1) := by decide +kernel
theorem dX10_feedNumber_26 : decode cX10_feedNumber 26 = .ok (.getfield 44, 3) := by decide +kernel
theorem dX10_feedNumber_29 : decode cX10_feedNumber 29 = .ok (.aload_n 0, 1) := by decide +kernel
theorem dX10_feedNumber_30 : decode cX10_feedNumber 30 = .ok (.getfield 67, 3) := by decide +kernel
theorem dX10_feedNumber_33 : decode cX10_feedNumber 33 = .ok (.iload_n 1, 1) := by decide +kernel
theorem dX10_feedNumber_34 : decode cX10_feedNumber 34 = .ok (.iload_n 2, 1) := by decide +kernel
theorem dX10_feedNumber_35 : decode cX10_feedNumber 35 = .ok (.iushr, 1) := by decide +kernel
theorem dX10_feedNumber_36 : decode cX10_feedNumber 36 = .ok (.sipush 255, 3) := by decide +kernel
theorem dX10_feedNumber_39 : decode cX10_feedNumber 39 = .ok (.iand, 1) := by decide +kernel
theorem dX10_feedNumber_40 : decode cX10_feedNumber 40 = .ok (.iastore, 1) := by decide +kernel
theorem dX10_feedNumber_41 : decode cX10_feedNumber 41 = .ok (.aload_n 0, 1) := by decide +kernel
theorem dX10_feedNumber_42 : decode cX10_feedNumber 42 = .ok (.dup, 1) := by decide +kernel
theorem dX10_feedNumber_43 : decode cX10_feedNumber 43 = .ok (.getfield 67, 3) := by decide +kernel
theorem dX10_feedNumber_46 : decode cX10_feedNumber 46 = .ok (.iconst 1, 1) := by decide +kernel
theorem dX10_feedNumber_47 : decode cX10_feedNumber 47 = .ok (.iadd, 1) := by decide +kernel
theorem dX10_feedNumber_48 : decode cX10_feedNumber 48 = .ok (.putfield 67, 3) := by decide +kernel
theorem dX10_feedNumber_51 : decode cX10_feedNumber 51 = .ok (.iinc 2 (-8), 3) := by decide +kernel
theorem dX10_feedNumber_54 : decode cX10_feedNumber 54 = .ok (.goto (-51), 3) := by decide +kernel
theorem dX10_feedNumber_57 : decode cX10_feedNumber 57 = .ok (.return_, 1) := by decide +kernel
theorem dX10_end_0 : decode cX10_end 0 = .ok (.iload_n 1, 1) := by decide +kernel
theorem dX10_end_1 : decode cX10_end 1 = .ok (.iconst 0, 1) := by decide +kernel
theorem dX10_end_2 : decode cX10_end 2 = .ok (.aload_n 0, 1) := by decide +kernel
theorem dX10_end_3 : decode cX10_end 3 = .ok (.getfield 67, 3) := by decide +kernel
theorem dX10_end_6 : decode cX10_end 6 = .ok (.invokestatic 81, 3) := by decide +kernel
theorem dX10_end_9 : decode cX10_end 9 = .ok (.ifCond .ne 5, 3) := by decide +kernel
theorem dX10_end_12 : decode cX10_end 12 = .ok (.iconst (-1), 1) := by decide +kernel
theorem dX10_end_13 : decode cX10_end 13 = .ok (.ireturn, 1) := by decide +kernel
theorem dX10_end_14 : decode cX10_end 14 = .ok (.aload_n 0, 1) := by decide +kernel
theorem dX10_end_15 : decode cX10_end 15 = .ok (.iload_n 1, 1) := by decide +kernel
theorem dX10_end_16 : decode cX10_end 16 = .ok (.putfield 67, 3) := by decide +kernel
theorem dX10_end_19 : decode cX10_end 19 = .ok (.iload_n 1, 1) := by decide +kernel
theorem dX10_end_20 : decode cX10_end 20 = .ok (.ireturn, 1) := by decide +kernel
theorem dX10_text_0 : decode cX10_text 0 = .ok (.aload_n 0, 1) := by decide +kernel
theorem dX10_text_1 : decode cX10_text 1 = .ok (.getfield 20, 3) := by decide +kernel
theorem dX10_text_4 : decode cX10_text 4 = .ok (.getfield 145, 3) := by decide +kernel
theorem dX10_text_7 : decode cX10_text 7 = .ok (.iconst 0, 1) := by decide +kernel
theorem dX10_text_8 : decode cX10_text 8 = .ok (.iconst 3, 1) := by decide +kernel
theorem dX10_text_9 : decode cX10_text 9 = .ok (.invokestatic 81, 3) := by decide +kernel
theorem dX10_text_12 : decode cX10_text 12 = .ok (.ifCond .ne 5, 3) := by decide +kernel
theorem dX10_text_15 : decode cX10_text 15 = .ok (.iconst (-1), 1) := by decide +kernel
theorem dX10_text_16 : decode cX10_text 16 = .ok (.ireturn, 1) := by decide +kernel
theorem dX10_text_17 : decode cX10_text 17 = .ok (.aload_n 0, 1) := by decide +kernel
theorem dX10_text_18 : decode cX10_text 18 = .ok (.getfield 30, 3) := by decide +kernel
theorem dX10_text_21 : decode cX10_text 21 = .ok (.aload_n 0, 1) := by decide +kernel
theorem dX10_text_22 : decode cX10_text 22 = .ok (.getfield 10, 3) := by decide +kernel
theorem dX10_text_25 : decode cX10_text 25 = .ok (.getfield 148, 3) := by decide +kernel
theorem dX10_text_28 : decode cX10_text 28 = .ok (.aload_n 0, 1) := by decide +kernel
theorem dX10_text_29 : decode cX10_text 29 = .ok (.getfield 20, 3) := by decide +kernel
theorem dX10_text_32 : decode cX10_text 32 = .ok (.getfield 145, 3) := by decide +kernel
theorem dX10_text_35 : decode cX10_text 35 = .ok (.aaload, 1) := by decide +kernel
theorem dX10_text_36 : decode cX10_text 36 = .ok (.aload_n 0, 1) := by decide +kernel
theorem dX10_text_37 : decode cX10_text 37 = .ok (.getfield 67, 3) := by decide +kernel
theorem dX10_text_40 : decode cX10_text 40 = .ok (.invokevirtual 152, 3) := by decide +kernel
theorem dX10_text_43 : decode cX10_text 43 = .ok (.aload_n 0, 1) := by decide +kernel
theorem dX10_text_44 : decode cX10_text 44 = .ok (.iconst 0, 1) := by decide +kernel
theorem dX10_text_45 : decode cX10_text 45 = .ok (.putfield 67, 3) := by decide +kernel
theorem dX10_text_48 : decode cX10_text 48 = .ok (.aload_n 0, 1) := by decide +kernel
theorem dX10_text_49 : decode cX10_text 49 = .ok (.aload_n 0, 1) := by decide +kernel
theorem dX10_text_50 : decode cX10_text 50 = .ok (.getfield 30, 3) := by decide +kernel
theorem dX10_text_53 : decode cX10_text 53 = .ok (.getfield 156, 3) := by decide +kernel
theorem dX10_text_56 : decode cX10_text 56 = .ok (.putfield 71, 3) := by decide +kernel
theorem dX10_text_59 : decode cX10_text 59 = .ok (.aload_n 0, 1) := by decide +kernel
theorem dX10_text_60 : decode cX10_text 60 = .ok (.aload_n 0, 1) := by decide +kernel
theorem dX10_text_61 : decode cX10_text 61 = .ok (.getfield 30, 3) := by decide +kernel
theorem dX10_text_64 : decode cX10_text 64 = .ok (.getfield 159, 3) := by decide +kernel
theorem dX10_text_67 : decode cX10_text 67 = .ok (.putfield 74, 3) := by decide +kernel
theorem dX10_text_70 : decode cX10_text 70 = .ok (.aload_n 0, 1) := by decide +kernel
theorem dX10_text_71 : decode cX10_text 71 = .ok (.getfield 30, 3) := by decide +kernel
theorem dX10_text_74 : decode cX10_text 74 = .ok (.getfield 156, 3) := by decide +kernel
theorem dX10_text_77 : decode cX10_text 77 = .ok (.ifCond .eq 5, 3) := by decide +kernel
theorem dX10_text_80 : decode cX10_text 80 = .ok (.iconst (-1), 1) := by decide +kernel
theorem dX10_text_81 : decode cX10_text 81 = .ok (.ireturn, 1) := by decide +kernel
theorem dX10_text_82 : decode cX10_text 82 = .ok (.aload_n 0, 1) := by decide +kernel
theorem dX10_text_83 : decode cX10_text 83 = .ok (.getfield 20, 3) := by decide +kernel
theorem dX10_text_86 : decode cX10_text 86 = .ok (.dup, 1) := by decide +kernel
theorem dX10_text_87 : decode cX10_text 87 = .ok (.getfield 145, 3) := by decide +kernel
theorem dX10_text_90 : decode cX10_text 90 = .ok (.iconst 1, 1) := by decide +kernel
theorem dX10_text_91 : decode cX10_text 91 = .ok (.iadd, 1) := by decide +kernel
theorem dX10_text_92 : decode cX10_text 92 = .ok (.putfield 145, 3) := by decide +kernel
theorem dX10_text_95 : decode cX10_text 95 = .ok (.aload_n 0, 1) := by decide +kernel
theorem dX10_text_96 : decode cX10_text 96 = .ok (.getfield 20, 3) := by decide +kernel
theorem dX10_text_99 : decode cX10_text 99 = .ok (.getfield 145, 3) := by decide +kernel
theorem dX10_text_102 : decode cX10_text 102 = .ok (.iconst 1, 1) := by decide +kernel
theorem dX10_text_103 : decode cX10_text 103 = .ok (.isub, 1) := by decide +kernel
theorem dX10_text_104 : decode cX10_text 104 = .ok (.ireturn, 1) := by decide +kernel
theorem dX10_fault_0 : decode cX10_fault 0 = .ok (.iload_n 1, 1) := by decide +kernel
theorem dX10_fault_1 : decode cX10_fault 1 = .ok (.ifCond .ne 8, 3) := by decide +kernel
theorem dX10_fault_4 : decode cX10_fault 4 = .ok (.aload_n 0, 1) := by decide +kernel
theorem dX10_fault_5 : decode cX10_fault 5 = .ok (.getfield 71, 3) := by decide +kernel
theorem dX10_fault_8 : decode cX10_fault 8 = .ok (.ireturn, 1) := by decide +kernel
theorem dX10_fault_9 : decode cX10_fault 9 = .ok (.iload_n 1, 1) := by decide +kernel
theorem dX10_fault_10 : decode cX10_fault 10 = .ok (.iconst 1, 1) := by decide +kernel
theorem dX10_fault_11 : decode cX10_fault 11 = .ok (.if_icmp .ne 10, 3) := by decide +kernel
theorem dX10_fault_14 : decode cX10_fault 14 = .ok (.aload_n 0, 1) := by decide +kernel
theorem dX10_fault_15 : decode cX10_fault 15 = .ok (.getfield 74, 3) := by decide +kernel
theorem dX10_fault_18 : decode cX10_fault 18 = .ok (.goto 4, 3) := by decide +kernel
theorem dX10_fault_21 : decode cX10_fault 21 = .ok (.iconst (-1), 1) := by decide +kernel
theorem dX10_fault_22 : decode cX10_fault 22 = .ok (.ireturn, 1) := by decide +kernel
theorem dX10_by_0 : decode cX10_by 0 = .ok (.iload_n 1, 1) := by decide +kernel
theorem dX10_by_1 : decode cX10_by 1 = .ok (.iconst (-1), 1) := by decide +kernel
theorem dX10_by_2 : decode cX10_by 2 = .ok (.aload_n 0, 1) := by decide +kernel
theorem dX10_by_3 : decode cX10_by 3 = .ok (.getfield 20, 3) := by decide +kernel
theorem dX10_by_6 : decode cX10_by 6 = .ok (.getfield 145, 3) := by decide +kernel
theorem dX10_by_9 : decode cX10_by 9 = .ok (.iconst 1, 1) := by decide +kernel
theorem dX10_by_10 : decode cX10_by 10 = .ok (.isub, 1) := by decide +kernel
theorem dX10_by_11 : decode cX10_by 11 = .ok (.invokestatic 81, 3) := by decide +kernel
theorem dX10_by_14 : decode cX10_by 14 = .ok (.ifCond .ne 5, 3) := by decide +kernel
theorem dX10_by_17 : decode cX10_by 17 = .ok (.iconst 0, 1) := by decide +kernel
theorem dX10_by_18 : decode cX10_by 18 = .ok (.ireturn, 1) := by decide +kernel
theorem dX10_by_19 : decode cX10_by 19 = .ok (.aload_n 0, 1) := by decide +kernel
theorem dX10_by_20 : decode cX10_by 20 = .ok (.getfield 20, 3) := by decide +kernel
theorem dX10_by_23 : decode cX10_by 23 = .ok (.iload_n 1, 1) := by decide +kernel
theorem dX10_by_24 : decode cX10_by 24 = .ok (.putfield 162, 3) := by decide +kernel
theorem dX10_by_27 : decode cX10_by 27 = .ok (.iconst 1, 1) := by decide +kernel
theorem dX10_by_28 : decode cX10_by 28 = .ok (.ireturn, 1) := by decide +kernel
theorem dX10_swept_0 : decode cX10_swept 0 = .ok (.iload_n 1, 1) := by decide +kernel
theorem dX10_swept_1 : decode cX10_swept 1 = .ok (.invokestatic 165, 3) := by decide +kernel
theorem dX10_swept_4 : decode cX10_swept 4 = .ok (.ifCond .eq 8, 3) := by decide +kernel
theorem dX10_swept_7 : decode cX10_swept 7 = .ok (.iload_n 2, 1) := by decide +kernel
theorem dX10_swept_8 : decode cX10_swept 8 = .ok (.iconst (-1), 1) := by decide +kernel
theorem dX10_swept_9 : decode cX10_swept 9 = .ok (.if_icmp .ge 5, 3) := by decide +kernel
theorem dX10_swept_12 : decode cX10_swept 12 = .ok (.iconst (-1), 1) := by decide +kernel
theorem dX10_swept_13 : decode cX10_swept 13 = .ok (.ireturn, 1) := by decide +kernel
theorem dX10_swept_14 : decode cX10_swept 14 = .ok (.aload_n 0, 1) := by decide +kernel
theorem dX10_swept_15 : decode cX10_swept 15 = .ok (.getfield 10, 3) := by decide +kernel
theorem dX10_swept_18 : decode cX10_swept 18 = .ok (.invokevirtual 168, 3) := by decide +kernel
theorem dX10_swept_21 : decode cX10_swept 21 = .ok (.iconst 0, 1) := by decide +kernel
theorem dX10_swept_22 : decode cX10_swept 22 = .ok (.istore_n 3, 1) := by decide +kernel
theorem dX10_swept_23 : decode cX10_swept 23 = .ok (.iload_n 3, 1) := by decide +kernel
theorem dX10_swept_24 : decode cX10_swept 24 = .ok (.iload_n 1, 1) := by decide +kernel
theorem dX10_swept_25 : decode cX10_swept 25 = .ok (.if_icmp .ge 33, 3) := by decide +kernel
theorem dX10_swept_28 : decode cX10_swept 28 = .ok (.aload_n 0, 1) := by decide +kernel
theorem dX10_swept_29 : decode cX10_swept 29 = .ok (.getfield 10, 3) := by decide +kernel
theorem dX10_swept_32 : decode cX10_swept 32 = .ok (.iload_n 1, 1) := by decide +kernel
theorem dX10_swept_33 : decode cX10_swept 33 = .ok (.invokevirtual 171, 3) := by decide +kernel
theorem dX10_swept_36 : decode cX10_swept 36 = .ok (.ifCond .eq 22, 3) := by decide +kernel
theorem dX10_swept_39 : decode cX10_swept 39 = .ok (.iload_n 3, 1) := by decide +kernel
theorem dX10_swept_40 : decode cX10_swept 40 = .ok (.iload_n 2, 1) := by decide +kernel
theorem dX10_swept_41 : decode cX10_swept 41 = .ok (.if_icmp .ne 11, 3) := by decide +kernel
theorem dX10_swept_44 : decode cX10_swept 44 = .ok (.aload_n 0, 1) := by decide +kernel
theorem dX10_swept_45 : decode cX10_swept 45 = .ok (.getfield 10, 3) := by decide +kernel
theorem dX10_swept_48 : decode cX10_swept 48 = .ok (.getfield 174, 3) := by decide +kernel
theorem dX10_swept_51 : decode cX10_swept 51 = .ok (.ireturn, 1) := by decide +kernel
theorem dX10_swept_52 : decode cX10_swept 52 = .ok (.iinc 3 1, 3) := by decide +kernel
theorem dX10_swept_55 : decode cX10_swept 55 = .ok (.goto (-32), 3) := by decide +kernel
theorem dX10_swept_58 : decode cX10_swept 58 = .ok (.iload_n 2, 1) := by decide +kernel
theorem dX10_swept_59 : decode cX10_swept 59 = .ok (.iconst (-1), 1) := by decide +kernel
theorem dX10_swept_60 : decode cX10_swept 60 = .ok (.if_icmp .ne 13, 3) := by decide +kernel
theorem dX10_swept_63 : decode cX10_swept 63 = .ok (.aload_n 0, 1) := by decide +kernel
theorem dX10_swept_64 : decode cX10_swept 64 = .ok (.getfield 10, 3) := by decide +kernel
theorem dX10_swept_67 : decode cX10_swept 67 = .ok (.getfield 177, 3) := by decide +kernel
theorem dX10_swept_70 : decode cX10_swept 70 = .ok (.goto 4, 3) := by decide +kernel
theorem dX10_swept_73 : decode cX10_swept 73 = .ok (.iconst (-1), 1) := by decide +kernel
theorem dX10_swept_74 : decode cX10_swept 74 = .ok (.ireturn, 1) := by decide +kernel
theorem dX10_glow_0 : decode cX10_glow 0 = .ok (.iload_n 1, 1) := by decide +kernel
theorem dX10_glow_1 : decode cX10_glow 1 = .ok (.invokestatic 165, 3) := by decide +kernel
theorem dX10_glow_4 : decode cX10_glow 4 = .ok (.ifCond .eq 23, 3) := by decide +kernel
theorem dX10_glow_7 : decode cX10_glow 7 = .ok (.iload_n 2, 1) := by decide +kernel
theorem dX10_glow_8 : decode cX10_glow 8 = .ok (.iconst 0, 1) := by decide +kernel
theorem dX10_glow_9 : decode cX10_glow 9 = .ok (.bipush 19, 2) := by decide +kernel
theorem dX10_glow_11 : decode cX10_glow 11 = .ok (.invokestatic 81, 3) := by decide +kernel
theorem dX10_glow_14 : decode cX10_glow 14 = .ok (.ifCond .eq 13, 3) := by decide +kernel
theorem dX10_glow_17 : decode cX10_glow 17 = .ok (.iload_n 3, 1) := by decide +kernel
theorem dX10_glow_18 : decode cX10_glow 18 = .ok (.iconst 0, 1) := by decide +kernel
theorem dX10_glow_19 : decode cX10_glow 19 = .ok (.bipush 15, 2) := by decide +kernel
theorem dX10_glow_21 : decode cX10_glow 21 = .ok (.invokestatic 81, 3) := by decide +kernel
theorem dX10_glow_24 : decode cX10_glow 24 = .ok (.ifCond .ne 5, 3) := by decide +kernel
theorem dX10_glow_27 : decode cX10_glow 27 = .ok (.iconst (-1), 1) := by decide +kernel
theorem dX10_glow_28 : decode cX10_glow 28 = .ok (.ireturn, 1) := by decide +kernel
theorem dX10_glow_29 : decode cX10_glow 29 = .ok (.aload_n 0, 1) := by decide +kernel
theorem dX10_glow_30 : decode cX10_glow 30 = .ok (.getfield 10, 3) := by decide +kernel
theorem dX10_glow_33 : decode cX10_glow 33 = .ok (.aload_n 0, 1) := by decide +kernel
theorem dX10_glow_34 : decode cX10_glow 34 = .ok (.getfield 50, 3) := by decide +kernel
theorem dX10_glow_37 : decode cX10_glow 37 = .ok (.iload_n 1, 1) := by decide +kernel
theorem dX10_glow_38 : decode cX10_glow 38 = .ok (.invokevirtual 180, 3) := by decide +kernel
theorem dX10_glow_41 : decode cX10_glow 41 = .ok (.aload_n 0, 1) := by decide +kernel
theorem dX10_glow_42 : decode cX10_glow 42 = .ok (.getfield 50, 3) := by decide +kernel
theorem dX10_glow_45 : decode cX10_glow 45 = .ok (.iload_n 2, 1) := by decide +kernel
theorem dX10_glow_46 : decode cX10_glow 46 = .ok (.iload_n 3, 1) := by decide +kernel
theorem dX10_glow_47 : decode cX10_glow 47 = .ok (.invokevirtual 184, 3) := by decide +kernel
theorem dX10_glow_50 : decode cX10_glow 50 = .ok (.ireturn, 1) := by decide +kernel
theorem dX10_lit_0 : decode cX10_lit 0 = .ok (.iload_n 1, 1) := by decide +kernel
theorem dX10_lit_1 : decode cX10_lit 1 = .ok (.invokestatic 165, 3) := by decide +kernel
theorem dX10_lit_4 : decode cX10_lit 4 = .ok (.ifCond .eq 24, 3) := by decide +kernel
theorem dX10_lit_7 : decode cX10_lit 7 = .ok (.iload_n 2, 1) := by decide +kernel
theorem dX10_lit_8 : decode cX10_lit 8 = .ok (.iconst 1, 1) := by decide +kernel
theorem dX10_lit_9 : decode cX10_lit 9 = .ok (.sipush 999, 3) := by decide +kernel
theorem dX10_lit_12 : decode cX10_lit 12 = .ok (.invokestatic 81, 3) := by decide +kernel
theorem dX10_lit_15 : decode cX10_lit 15 = .ok (.ifCond .eq 13, 3) := by decide +kernel
theorem dX10_lit_18 : decode cX10_lit 18 = .ok (.iload_n 3, 1) := by decide +kernel
theorem dX10_lit_19 : decode cX10_lit 19 = .ok (.iconst (-1), 1) := by decide +kernel
theorem dX10_lit_20 : decode cX10_lit 20 = .ok (.bipush 19, 2) := by decide +kernel
theorem dX10_lit_22 : decode cX10_lit 22 = .ok (.invokestatic 81, 3) := by decide +kernel
theorem dX10_lit_25 : decode cX10_lit 25 = .ok (.ifCond .ne 5, 3) := by decide +kernel
theorem dX10_lit_28 : decode cX10_lit 28 = .ok (.iconst (-1), 1) := by decide +kernel
theorem dX10_lit_29 : decode cX10_lit 29 = .ok (.ireturn, 1) := by decide +kernel
theorem dX10_lit_30 : decode cX10_lit 30 = .ok (.aload_n 0, 1) := by decide +kernel
theorem dX10_lit_31 : decode cX10_lit 31 = .ok (.getfield 10, 3) := by decide +kernel
theorem dX10_lit_34 : decode cX10_lit 34 = .ok (.aload_n 0, 1) := by decide +kernel
theorem dX10_lit_35 : decode cX10_lit 35 = .ok (.getfield 50, 3) := by decide +kernel
theorem dX10_lit_38 : decode cX10_lit 38 = .ok (.iload_n 1, 1) := by decide +kernel
theorem dX10_lit_39 : decode cX10_lit 39 = .ok (.invokevirtual 180, 3) := by decide +kernel
theorem dX10_lit_42 : decode cX10_lit 42 = .ok (.iload_n 3, 1) := by decide +kernel
theorem dX10_lit_43 : decode cX10_lit 43 = .ok (.iconst (-1), 1) := by decide +kernel
theorem dX10_lit_44 : decode cX10_lit 44 = .ok (.if_icmp .ne 14, 3) := by decide +kernel
theorem dX10_lit_47 : decode cX10_lit 47 = .ok (.aload_n 0, 1) := by decide +kernel
theorem dX10_lit_48 : decode cX10_lit 48 = .ok (.getfield 50, 3) := by decide +kernel
theorem dX10_lit_51 : decode cX10_lit 51 = .ok (.iload_n 2, 1) := by decide +kernel
theorem dX10_lit_52 : decode cX10_lit 52 = .ok (.invokevirtual 187, 3) := by decide +kernel
theorem dX10_lit_55 : decode cX10_lit 55 = .ok (.goto 12, 3) := by decide +kernel
theorem dX10_lit_58 : decode cX10_lit 58 = .ok (.aload_n 0, 1) := by decide +kernel
theorem dX10_lit_59 : decode cX10_lit 59 = .ok (.getfield 50, 3) := by decide +kernel
theorem dX10_lit_62 : decode cX10_lit 62 = .ok (.iload_n 3, 1) := by decide +kernel
theorem dX10_lit_63 : decode cX10_lit 63 = .ok (.iload_n 2, 1) := by decide +kernel
theorem dX10_lit_64 : decode cX10_lit 64 = .ok (.invokevirtual 190, 3) := by decide +kernel
theorem dX10_lit_67 : decode cX10_lit 67 = .ok (.ireturn, 1) := by decide +kernel
theorem dX10_otherwise_0 : decode cX10_otherwise 0 = .ok (.iload_n 1, 1) := by decide +kernel
theorem dX10_otherwise_1 : decode cX10_otherwise 1 = .ok (.invokestatic 106, 3) := by decide +kernel
theorem dX10_otherwise_4 : decode cX10_otherwise 4 = .ok (.ifCond .eq 19, 3) := by decide +kernel
theorem dX10_otherwise_7 : decode cX10_otherwise 7 = .ok (.iload_n 2, 1) := by decide +kernel
theorem dX10_otherwise_8 : decode cX10_otherwise 8 = .ok (.iconst 0, 1) := by decide +kernel
theorem dX10_otherwise_9 : decode cX10_otherwise 9 = .ok (.sipush 1000, 3) := by decide +kernel
theorem dX10_otherwise_12 : decode cX10_otherwise 12 = .ok (.invokestatic 81, 3) := by decide +kernel
theorem dX10_otherwise_15 : decode cX10_otherwise 15 = .ok (.ifCond .eq 8, 3) := by decide +kernel
theorem dX10_otherwise_18 : decode cX10_otherwise 18 = .ok (.iload_n 3, 1) := by decide +kernel
theorem dX10_otherwise_19 : decode cX10_otherwise 19 = .ok (.iconst (-1), 1) := by decide +kernel
theorem dX10_otherwise_20 : decode cX10_otherwise 20 = .ok (.if_icmp .ge 5, 3) := by decide +kernel
theorem dX10_otherwise_23 : decode cX10_otherwise 23 = .ok (.iconst (-1), 1) := by decide +kernel
theorem dX10_otherwise_24 : decode cX10_otherwise 24 = .ok (.ireturn, 1) := by decide +kernel
theorem dX10_otherwise_25 : decode cX10_otherwise 25 = .ok (.aload_n 0, 1) := by decide +kernel
theorem dX10_otherwise_26 : decode cX10_otherwise 26 = .ok (.iload_n 1, 1) := by decide +kernel
theorem dX10_otherwise_27 : decode cX10_otherwise 27 = .ok (.iload_n 2, 1) := by decide +kernel
theorem dX10_otherwise_28 : decode cX10_otherwise 28 = .ok (.invokevirtual 193, 3) := by decide +kernel
theorem dX10_otherwise_31 : decode cX10_otherwise 31 = .ok (.istore 4, 2) := by decide +kernel
theorem dX10_otherwise_33 : decode cX10_otherwise 33 = .ok (.iload 4, 2) := by decide +kernel
theorem dX10_otherwise_35 : decode cX10_otherwise 35 = .ok (.ifCond .gt 14, 3) := by decide +kernel
theorem dX10_otherwise_38 : decode cX10_otherwise 38 = .ok (.iload_n 3, 1) := by decide +kernel
theorem dX10_otherwise_39 : decode cX10_otherwise 39 = .ok (.iconst (-1), 1) := by decide +kernel
theorem dX10_otherwise_40 : decode cX10_otherwise 40 = .ok (.if_icmp .ne 7, 3) := by decide +kernel
theorem dX10_otherwise_43 : decode cX10_otherwise 43 = .ok (.iconst 0, 1) := by decide +kernel
theorem dX10_otherwise_44 : decode cX10_otherwise 44 = .ok (.goto 4, 3) := by decide +kernel
theorem dX10_otherwise_47 : decode cX10_otherwise 47 = .ok (.iconst (-1), 1) := by decide +kernel
theorem dX10_otherwise_48 : decode cX10_otherwise 48 = .ok (.ireturn, 1) := by decide +kernel
theorem dX10_otherwise_49 : decode cX10_otherwise 49 = .ok (.iconst 0, 1) := by decide +kernel
theorem dX10_otherwise_50 : decode cX10_otherwise 50 = .ok (.istore 5, 2) := by decide +kernel
theorem dX10_otherwise_52 : decode cX10_otherwise 52 = .ok (.iconst 2, 1) := by decide +kernel
theorem dX10_otherwise_53 : decode cX10_otherwise 53 = .ok (.istore 6, 2) := by decide +kernel
theorem dX10_otherwise_55 : decode cX10_otherwise 55 = .ok (.iload 6, 2) := by decide +kernel
theorem dX10_otherwise_57 : decode cX10_otherwise 57 = .ok (.bipush 24, 2) := by decide +kernel
theorem dX10_otherwise_59 : decode cX10_otherwise 59 = .ok (.if_icmp .gt 90, 3) := by decide +kernel
theorem dX10_otherwise_62 : decode cX10_otherwise 62 = .ok (.iconst 1, 1) := by decide +kernel
theorem dX10_otherwise_63 : decode cX10_otherwise 63 = .ok (.istore 7, 2) := by decide +kernel
theorem dX10_otherwise_65 : decode cX10_otherwise 65 = .ok (.iload 7, 2) := by decide +kernel
theorem dX10_otherwise_67 : decode cX10_otherwise 67 = .ok (.iload 6, 2) := by decide +kernel
theorem dX10_otherwise_69 : decode cX10_otherwise 69 = .ok (.if_icmp .ge 74, 3) := by decide +kernel
theorem dX10_otherwise_72 : decode cX10_otherwise 72 = .ok (.iconst 0, 1) := by decide +kernel
theorem dX10_otherwise_73 : decode cX10_otherwise 73 = .ok (.istore 8, 2) := by decide +kernel
theorem dX10_otherwise_75 : decode cX10_otherwise 75 = .ok (.iload 8, 2) := by decide +kernel
theorem dX10_otherwise_77 : decode cX10_otherwise 77 = .ok (.iload 6, 2) := by decide +kernel
theorem dX10_otherwise_79 : decode cX10_otherwise 79 = .ok (.if_icmp .ge 58, 3) := by decide +kernel
theorem dX10_otherwise_82 : decode cX10_otherwise 82 = .ok (.aload_n 0, 1) := by decide +kernel
theorem dX10_otherwise_83 : decode cX10_otherwise 83 = .ok (.getfield 57, 3) := by decide +kernel
theorem dX10_otherwise_86 : decode cX10_otherwise 86 = .ok (.iconst 1, 1) := by decide +kernel
theorem dX10_otherwise_87 : decode cX10_otherwise 87 = .ok (.iload 4, 2) := by decide +kernel
theorem dX10_otherwise_89 : decode cX10_otherwise 89 = .ok (.iload 6, 2) := by decide +kernel
theorem dX10_otherwise_91 : decode cX10_otherwise 91 = .ok (.iload 7, 2) := by decide +kernel
theorem dX10_otherwise_93 : decode cX10_otherwise 93 = .ok (.iload 8, 2) := by decide +kernel
theorem dX10_otherwise_95 : decode cX10_otherwise 95 = .ok (.invokevirtual 196, 3) := by decide +kernel
theorem dX10_otherwise_98 : decode cX10_otherwise 98 = .ok (.aload_n 0, 1) := by decide +kernel
theorem dX10_otherwise_99 : decode cX10_otherwise 99 = .ok (.iload_n 2, 1) := by decide +kernel
theorem dX10_otherwise_100 : decode cX10_otherwise 100 = .ok (.invokevirtual 199, 3) := by decide +kernel
theorem dX10_otherwise_103 : decode cX10_otherwise 103 = .ok (.ifCond .eq 28, 3) := by decide +kernel
theorem dX10_otherwise_106 : decode cX10_otherwise 106 = .ok (.iload 5, 2) := by decide +kernel
theorem dX10_otherwise_108 : decode cX10_otherwise 108 = .ok (.iload_n 3, 1) := by decide +kernel
theorem dX10_otherwise_109 : decode cX10_otherwise 109 = .ok (.if_icmp .ne 19, 3) := by decide +kernel
theorem dX10_otherwise_112 : decode cX10_otherwise 112 = .ok (.sipush 10000, 3) := by decide +kernel
theorem dX10_otherwise_115 : decode cX10_otherwise 115 = .ok (.iload 6, 2) := by decide +kernel
theorem dX10_otherwise_117 : decode cX10_otherwise 117 = .ok (.imul, 1) := by decide +kernel
theorem dX10_otherwise_118 : decode cX10_otherwise 118 = .ok (.bipush 100, 2) := by decide +kernel
theorem dX10_otherwise_120 : decode cX10_otherwise 120 = .ok (.iload 7, 2) := by decide +kernel
theorem dX10_otherwise_122 : decode cX10_otherwise 122 = .ok (.imul, 1) := by decide +kernel
theorem dX10_otherwise_123 : decode cX10_otherwise 123 = .ok (.iadd, 1) := by decide +kernel
theorem dX10_otherwise_124 : decode cX10_otherwise 124 = .ok (.iload 8, 2) := by decide +kernel
theorem dX10_otherwise_126 : decode cX10_otherwise 126 = .ok (.iadd, 1) := by decide +kernel
theorem dX10_otherwise_127 : decode cX10_otherwise 127 = .ok (.ireturn, 1) := by decide +kernel
theorem dX10_otherwise_128 : decode cX10_otherwise 128 = .ok (.iinc 5 1, 3) := by decide +kernel
theorem dX10_otherwise_131 : decode cX10_otherwise 131 = .ok (.iinc 8 1, 3) := by decide +kernel
theorem dX10_otherwise_134 : decode cX10_otherwise 134 = .ok (.goto (-59), 3) := by decide +kernel
theorem dX10_otherwise_137 : decode cX10_otherwise 137 = .ok (.iinc 7 1, 3) := by decide +kernel
theorem dX10_otherwise_140 : decode cX10_otherwise 140 = .ok (.goto (-75), 3) := by decide +kernel
theorem dX10_otherwise_143 : decode cX10_otherwise 143 = .ok (.iinc 6 1, 3) := by decide +kernel
theorem dX10_otherwise_146 : decode cX10_otherwise 146 = .ok (.goto (-91), 3) := by decide +kernel
theorem dX10_otherwise_149 : decode cX10_otherwise 149 = .ok (.iload_n 3, 1) := by decide +kernel
theorem dX10_otherwise_150 : decode cX10_otherwise 150 = .ok (.iconst (-1), 1) := by decide +kernel
theorem dX10_otherwise_151 : decode cX10_otherwise 151 = .ok (.if_icmp .ne 8, 3) := by decide +kernel
theorem dX10_otherwise_154 : decode cX10_otherwise 154 = .ok (.iload 5, 2) := by decide +kernel
theorem dX10_otherwise_156 : decode cX10_otherwise 156 = .ok (.goto 4, 3) := by decide +kernel
theorem dX10_otherwise_159 : decode cX10_otherwise 159 = .ok (.iconst (-1), 1) := by decide +kernel
theorem dX10_otherwise_160 : decode cX10_otherwise 160 = .ok (.ireturn, 1) := by decide +kernel
theorem dX10_takeSamples_0 : decode cX10_takeSamples 0 = .ok (.aload_n 0, 1) := by decide +kernel
theorem dX10_takeSamples_1 : decode cX10_takeSamples 1 = .ok (.getfield 10, 3) := by decide +kernel
theorem dX10_takeSamples_4 : decode cX10_takeSamples 4 = .ok (.iload_n 1, 1) := by decide +kernel
theorem dX10_takeSamples_5 : decode cX10_takeSamples 5 = .ok (.iload_n 2, 1) := by decide +kernel
theorem dX10_takeSamples_6 : decode cX10_takeSamples 6 = .ok (.invokevirtual 122, 3) := by decide +kernel
theorem dX10_takeSamples_9 : decode cX10_takeSamples 9 = .ok (.istore_n 3, 1) := by decide +kernel
theorem dX10_takeSamples_10 : decode cX10_takeSamples 10 = .ok (.iconst 0, 1) := by decide +kernel
theorem dX10_takeSamples_11 : decode cX10_takeSamples 11 = .ok (.istore 4, 2) := by decide +kernel
theorem dX10_takeSamples_13 : decode cX10_takeSamples 13 = .ok (.iload 4, 2) := by decide +kernel
theorem dX10_takeSamples_15 : decode cX10_takeSamples 15 = .ok (.aload_n 0, 1) := by decide +kernel
theorem dX10_takeSamples_16 : decode cX10_takeSamples 16 = .ok (.getfield 61, 3) := by decide +kernel
theorem dX10_takeSamples_19 : decode cX10_takeSamples 19 = .ok (.arraylength, 1) := by decide +kernel
theorem dX10_takeSamples_20 : decode cX10_takeSamples 20 = .ok (.if_icmp .ge 48, 3) := by decide +kernel
theorem dX10_takeSamples_23 : decode cX10_takeSamples 23 = .ok (.aload_n 0, 1) := by decide +kernel
theorem dX10_takeSamples_24 : decode cX10_takeSamples 24 = .ok (.getfield 61, 3) := by decide +kernel
theorem dX10_takeSamples_27 : decode cX10_takeSamples 27 = .ok (.iload 4, 2) := by decide +kernel
theorem dX10_takeSamples_29 : decode cX10_takeSamples 29 = .ok (.aload_n 0, 1) := by decide +kernel
theorem dX10_takeSamples_30 : decode cX10_takeSamples 30 = .ok (.getfield 10, 3) := by decide +kernel
theorem dX10_takeSamples_33 : decode cX10_takeSamples 33 = .ok (.iload_n 1, 1) := by decide +kernel
theorem dX10_takeSamples_34 : decode cX10_takeSamples 34 = .ok (.iload_n 2, 1) := by decide +kernel
theorem dX10_takeSamples_35 : decode cX10_takeSamples 35 = .ok (.iload 4, 2) := by decide +kernel
theorem dX10_takeSamples_37 : decode cX10_takeSamples 37 = .ok (.aload_n 0, 1) := by decide +kernel
theorem dX10_takeSamples_38 : decode cX10_takeSamples 38 = .ok (.getfield 20, 3) := by decide +kernel
theorem dX10_takeSamples_41 : decode cX10_takeSamples 41 = .ok (.getfield 126, 3) := by decide +kernel
theorem dX10_takeSamples_44 : decode cX10_takeSamples 44 = .ok (.imul, 1) := by decide +kernel
theorem dX10_takeSamples_45 : decode cX10_takeSamples 45 = .ok (.iadd, 1) := by decide +kernel
theorem dX10_takeSamples_46 : decode cX10_takeSamples 46 = .ok (.invokevirtual 122, 3) := by decide +kernel
theorem dX10_takeSamples_49 : decode cX10_takeSamples 49 = .ok (.iastore, 1) := by decide +kernel
theorem dX10_takeSamples_50 : decode cX10_takeSamples 50 = .ok (.iload_n 3, 1) := by decide +kernel
theorem dX10_takeSamples_51 : decode cX10_takeSamples 51 = .ok (.aload_n 0, 1) := by decide +kernel
theorem dX10_takeSamples_52 : decode cX10_takeSamples 52 = .ok (.getfield 61, 3) := by decide +kernel
theorem dX10_takeSamples_55 : decode cX10_takeSamples 55 = .ok (.iload 4, 2) := by decide +kernel
theorem dX10_takeSamples_57 : decode cX10_takeSamples 57 = .ok (.iaload, 1) := by decide +kernel
theorem dX10_takeSamples_58 : decode cX10_takeSamples 58 = .ok (.invokestatic 202, 3) := by decide +kernel
theorem dX10_takeSamples_61 : decode cX10_takeSamples 61 = .ok (.istore_n 3, 1) := by decide +kernel
theorem dX10_takeSamples_62 : decode cX10_takeSamples 62 = .ok (.iinc 4 1, 3) := by decide +kernel
theorem dX10_takeSamples_65 : decode cX10_takeSamples 65 = .ok (.goto (-52), 3) := by decide +kernel
theorem dX10_takeSamples_68 : decode cX10_takeSamples 68 = .ok (.iload_n 3, 1) := by decide +kernel
theorem dX10_takeSamples_69 : decode cX10_takeSamples 69 = .ok (.ireturn, 1) := by decide +kernel
theorem dX10_guessFits_0 : decode cX10_guessFits 0 = .ok (.iconst 0, 1) := by decide +kernel
theorem dX10_guessFits_1 : decode cX10_guessFits 1 = .ok (.istore_n 2, 1) := by decide +kernel
theorem dX10_guessFits_2 : decode cX10_guessFits 2 = .ok (.iload_n 2, 1) := by decide +kernel
theorem dX10_guessFits_3 : decode cX10_guessFits 3 = .ok (.aload_n 0, 1) := by decide +kernel
theorem dX10_guessFits_4 : decode cX10_guessFits 4 = .ok (.getfield 61, 3) := by decide +kernel
theorem dX10_guessFits_7 : decode cX10_guessFits 7 = .ok (.arraylength, 1) := by decide +kernel
theorem dX10_guessFits_8 : decode cX10_guessFits 8 = .ok (.if_icmp .ge 38, 3) := by decide +kernel
theorem dX10_guessFits_11 : decode cX10_guessFits 11 = .ok (.aload_n 0, 1) := by decide +kernel
theorem dX10_guessFits_12 : decode cX10_guessFits 12 = .ok (.getfield 57, 3) := by decide +kernel
theorem dX10_guessFits_15 : decode cX10_guessFits 15 = .ok (.iload_n 1, 1) := by decide +kernel
theorem dX10_guessFits_16 : decode cX10_guessFits 16 = .ok (.iload_n 2, 1) := by decide +kernel
theorem dX10_guessFits_17 : decode cX10_guessFits 17 = .ok (.aload_n 0, 1) := by decide +kernel
theorem dX10_guessFits_18 : decode cX10_guessFits 18 = .ok (.getfield 20, 3) := by decide +kernel
theorem dX10_guessFits_21 : decode cX10_guessFits 21 = .ok (.getfield 126, 3) := by decide +kernel
theorem dX10_guessFits_24 : decode cX10_guessFits 24 = .ok (.imul, 1) := by decide +kernel
theorem dX10_guessFits_25 : decode cX10_guessFits 25 = .ok (.iadd, 1) := by decide +kernel
theorem dX10_guessFits_26 : decode cX10_guessFits 26 = .ok (.invokevirtual 207, 3) := by decide +kernel
theorem dX10_guessFits_29 : decode cX10_guessFits 29 = .ok (.aload_n 0, 1) := by decide +kernel
theorem dX10_guessFits_30 : decode cX10_guessFits 30 = .ok (.getfield 61, 3) := by decide +kernel
theorem dX10_guessFits_33 : decode cX10_guessFits 33 = .ok (.iload_n 2, 1) := by decide +kernel
theorem dX10_guessFits_34 : decode cX10_guessFits 34 = .ok (.iaload, 1) := by decide +kernel
theorem dX10_guessFits_35 : decode cX10_guessFits 35 = .ok (.if_icmp .eq 5, 3) := by decide +kernel
theorem dX10_guessFits_38 : decode cX10_guessFits 38 = .ok (.iconst 0, 1) := by decide +kernel
theorem dX10_guessFits_39 : decode cX10_guessFits 39 = .ok (.ireturn, 1) := by decide +kernel
theorem dX10_guessFits_40 : decode cX10_guessFits 40 = .ok (.iinc 2 1, 3) := by decide +kernel
theorem dX10_guessFits_43 : decode cX10_guessFits 43 = .ok (.goto (-41), 3) := by decide +kernel
theorem dX10_guessFits_46 : decode cX10_guessFits 46 = .ok (.iconst 1, 1) := by decide +kernel
theorem dX10_guessFits_47 : decode cX10_guessFits 47 = .ok (.ireturn, 1) := by decide +kernel
theorem dX10_caught_0 : decode cX10_caught 0 = .ok (.iload_n 1, 1) := by decide +kernel
theorem dX10_caught_1 : decode cX10_caught 1 = .ok (.invokestatic 77, 3) := by decide +kernel
theorem dX10_caught_4 : decode cX10_caught 4 = .ok (.ifCond .eq 10, 3) := by decide +kernel
theorem dX10_caught_7 : decode cX10_caught 7 = .ok (.iload_n 2, 1) := by decide +kernel
theorem dX10_caught_8 : decode cX10_caught 8 = .ok (.invokestatic 165, 3) := by decide +kernel
theorem dX10_caught_11 : decode cX10_caught 11 = .ok (.ifCond .ne 5, 3) := by decide +kernel
theorem dX10_caught_14 : decode cX10_caught 14 = .ok (.iconst (-1), 1) := by decide +kernel
theorem dX10_caught_15 : decode cX10_caught 15 = .ok (.ireturn, 1) := by decide +kernel
theorem dX10_caught_16 : decode cX10_caught 16 = .ok (.aload_n 0, 1) := by decide +kernel
theorem dX10_caught_17 : decode cX10_caught 17 = .ok (.getfield 20, 3) := by decide +kernel
theorem dX10_caught_20 : decode cX10_caught 20 = .ok (.getfield 85, 3) := by decide +kernel
theorem dX10_caught_23 : decode cX10_caught 23 = .ok (.iload_n 1, 1) := by decide +kernel
theorem dX10_caught_24 : decode cX10_caught 24 = .ok (.aaload, 1) := by decide +kernel
theorem dX10_caught_25 : decode cX10_caught 25 = .ok (.getfield 89, 3) := by decide +kernel
theorem dX10_caught_28 : decode cX10_caught 28 = .ok (.iconst 1, 1) := by decide +kernel
theorem dX10_caught_29 : decode cX10_caught 29 = .ok (.isub, 1) := by decide +kernel
theorem dX10_caught_30 : decode cX10_caught 30 = .ok (.istore_n 3, 1) := by decide +kernel
theorem dX10_caught_31 : decode cX10_caught 31 = .ok (.iload_n 3, 1) := by decide +kernel
theorem dX10_caught_32 : decode cX10_caught 32 = .ok (.iconst 0, 1) := by decide +kernel
theorem dX10_caught_33 : decode cX10_caught 33 = .ok (.iconst 5, 1) := by decide +kernel
theorem dX10_caught_34 : decode cX10_caught 34 = .ok (.invokestatic 81, 3) := by decide +kernel
theorem dX10_caught_37 : decode cX10_caught 37 = .ok (.ifCond .eq 24, 3) := by decide +kernel
theorem dX10_caught_40 : decode cX10_caught 40 = .ok (.aload_n 0, 1) := by decide +kernel
theorem dX10_caught_41 : decode cX10_caught 41 = .ok (.getfield 20, 3) := by decide +kernel
theorem dX10_caught_44 : decode cX10_caught 44 = .ok (.getfield 85, 3) := by decide +kernel
theorem dX10_caught_47 : decode cX10_caught 47 = .ok (.iload_n 1, 1) := by decide +kernel
theorem dX10_caught_48 : decode cX10_caught 48 = .ok (.aaload, 1) := by decide +kernel
theorem dX10_caught_49 : decode cX10_caught 49 = .ok (.getfield 208, 3) := by decide +kernel
theorem dX10_caught_52 : decode cX10_caught 52 = .ok (.iload_n 3, 1) := by decide +kernel
theorem dX10_caught_53 : decode cX10_caught 53 = .ok (.aaload, 1) := by decide +kernel
theorem dX10_caught_54 : decode cX10_caught 54 = .ok (.getfield 212, 3) := by decide +kernel
theorem dX10_caught_57 : decode cX10_caught 57 = .ok (.iconst 1, 1) := by decide +kernel
theorem dX10_caught_58 : decode cX10_caught 58 = .ok (.if_icmp .eq 5, 3) := by decide +kernel
theorem dX10_caught_61 : decode cX10_caught 61 = .ok (.iconst (-1), 1) := by decide +kernel
theorem dX10_caught_62 : decode cX10_caught 62 = .ok (.ireturn, 1) := by decide +kernel
theorem dX10_caught_63 : decode cX10_caught 63 = .ok (.aload_n 0, 1) := by decide +kernel
theorem dX10_caught_64 : decode cX10_caught 64 = .ok (.getfield 20, 3) := by decide +kernel
theorem dX10_caught_67 : decode cX10_caught 67 = .ok (.getfield 85, 3) := by decide +kernel
theorem dX10_caught_70 : decode cX10_caught 70 = .ok (.iload_n 1, 1) := by decide +kernel
theorem dX10_caught_71 : decode cX10_caught 71 = .ok (.aaload, 1) := by decide +kernel
theorem dX10_caught_72 : decode cX10_caught 72 = .ok (.getfield 208, 3) := by decide +kernel
theorem dX10_caught_75 : decode cX10_caught 75 = .ok (.iload_n 3, 1) := by decide +kernel
theorem dX10_caught_76 : decode cX10_caught 76 = .ok (.aaload, 1) := by decide +kernel
theorem dX10_caught_77 : decode cX10_caught 77 = .ok (.astore 4, 2) := by decide +kernel
theorem dX10_caught_79 : decode cX10_caught 79 = .ok (.aload 4, 2) := by decide +kernel
theorem dX10_caught_81 : decode cX10_caught 81 = .ok (.getfield 215, 3) := by decide +kernel
theorem dX10_caught_84 : decode cX10_caught 84 = .ok (.istore 5, 2) := by decide +kernel
theorem dX10_caught_86 : decode cX10_caught 86 = .ok (.iconst 0, 1) := by decide +kernel
theorem dX10_caught_87 : decode cX10_caught 87 = .ok (.istore 6, 2) := by decide +kernel
theorem dX10_caught_89 : decode cX10_caught 89 = .ok (.iconst 0, 1) := by decide +kernel
theorem dX10_caught_90 : decode cX10_caught 90 = .ok (.istore 7, 2) := by decide +kernel
theorem dX10_caught_92 : decode cX10_caught 92 = .ok (.iload 7, 2) := by decide +kernel
theorem dX10_caught_94 : decode cX10_caught 94 = .ok (.aload 4, 2) := by decide +kernel
theorem dX10_caught_96 : decode cX10_caught 96 = .ok (.getfield 218, 3) := by decide +kernel
theorem dX10_caught_99 : decode cX10_caught 99 = .ok (.if_icmp .ge 40, 3) := by decide +kernel
theorem dX10_caught_102 : decode cX10_caught 102 = .ok (.aload 4, 2) := by decide +kernel
theorem dX10_caught_104 : decode cX10_caught 104 = .ok (.iload 7, 2) := by decide +kernel
theorem dX10_caught_106 : decode cX10_caught 106 = .ok (.putfield 215, 3) := by decide +kernel
theorem dX10_caught_109 : decode cX10_caught 109 = .ok (.aload_n 0, 1) := by decide +kernel
theorem dX10_caught_110 : decode cX10_caught 110 = .ok (.getfield 10, 3) := by decide +kernel
theorem dX10_caught_113 : decode cX10_caught 113 = .ok (.invokevirtual 98, 3) := by decide +kernel
theorem dX10_caught_116 : decode cX10_caught 116 = .ok (.aload_n 0, 1) := by decide +kernel
theorem dX10_caught_117 : decode cX10_caught 117 = .ok (.getfield 10, 3) := by decide +kernel
theorem dX10_caught_120 : decode cX10_caught 120 = .ok (.iload_n 1, 1) := by decide +kernel
theorem dX10_caught_121 : decode cX10_caught 121 = .ok (.aload 4, 2) := by decide +kernel
theorem dX10_caught_123 : decode cX10_caught 123 = .ok (.iload_n 2, 1) := by decide +kernel
theorem dX10_caught_124 : decode cX10_caught 124 = .ok (.invokevirtual 221, 3) := by decide +kernel
theorem dX10_caught_127 : decode cX10_caught 127 = .ok (.ifCond .eq 6, 3) := by decide +kernel
theorem dX10_caught_130 : decode cX10_caught 130 = .ok (.iinc 6 1, 3) := by decide +kernel
theorem dX10_caught_133 : decode cX10_caught 133 = .ok (.iinc 7 1, 3) := by decide +kernel
theorem dX10_caught_136 : decode cX10_caught 136 = .ok (.goto (-44), 3) := by decide +kernel
theorem dX10_caught_139 : decode cX10_caught 139 = .ok (.aload 4, 2) := by decide +kernel
theorem dX10_caught_141 : decode cX10_caught 141 = .ok (.iload 5, 2) := by decide +kernel
theorem dX10_caught_143 : decode cX10_caught 143 = .ok (.putfield 215, 3) := by decide +kernel
theorem dX10_caught_146 : decode cX10_caught 146 = .ok (.aload_n 0, 1) := by decide +kernel
theorem dX10_caught_147 : decode cX10_caught 147 = .ok (.getfield 10, 3) := by decide +kernel
theorem dX10_caught_150 : decode cX10_caught 150 = .ok (.invokevirtual 98, 3) := by decide +kernel
theorem dX10_caught_153 : decode cX10_caught 153 = .ok (.iload 6, 2) := by decide +kernel
theorem dX10_caught_155 : decode cX10_caught 155 = .ok (.ireturn, 1) := by decide +kernel
theorem dX10_photo_0 : decode cX10_photo 0 = .ok (.iload_n 1, 1) := by decide +kernel
theorem dX10_photo_1 : decode cX10_photo 1 = .ok (.iconst 0, 1) := by decide +kernel
theorem dX10_photo_2 : decode cX10_photo 2 = .ok (.bipush 19, 2) := by decide +kernel
theorem dX10_photo_4 : decode cX10_photo 4 = .ok (.invokestatic 81, 3) := by decide +kernel
theorem dX10_photo_7 : decode cX10_photo 7 = .ok (.ifCond .eq 13, 3) := by decide +kernel
theorem dX10_photo_10 : decode cX10_photo 10 = .ok (.iload_n 2, 1) := by decide +kernel
theorem dX10_photo_11 : decode cX10_photo 11 = .ok (.iconst 0, 1) := by decide +kernel
theorem dX10_photo_12 : decode cX10_photo 12 = .ok (.ldc 225, 2) := by decide +kernel
theorem dX10_photo_14 : decode cX10_photo 14 = .ok (.invokestatic 81, 3) := by decide +kernel
theorem dX10_photo_17 : decode cX10_photo 17 = .ok (.ifCond .ne 5, 3) := by decide +kernel
theorem dX10_photo_20 : decode cX10_photo 20 = .ok (.iconst 0, 1) := by decide +kernel
theorem dX10_photo_21 : decode cX10_photo 21 = .ok (.ireturn, 1) := by decide +kernel
theorem dX10_photo_22 : decode cX10_photo 22 = .ok (.aload_n 0, 1) := by decide +kernel
theorem dX10_photo_23 : decode cX10_photo 23 = .ok (.getfield 20, 3) := by decide +kernel
theorem dX10_photo_26 : decode cX10_photo 26 = .ok (.getfield 226, 3) := by decide +kernel
theorem dX10_photo_29 : decode cX10_photo 29 = .ok (.iload_n 1, 1) := by decide +kernel
theorem dX10_photo_30 : decode cX10_photo 30 = .ok (.iload_n 2, 1) := by decide +kernel
theorem dX10_photo_31 : decode cX10_photo 31 = .ok (.iastore, 1) := by decide +kernel
theorem dX10_photo_32 : decode cX10_photo 32 = .ok (.iconst 1, 1) := by decide +kernel
theorem dX10_photo_33 : decode cX10_photo 33 = .ok (.ireturn, 1) := by decide +kernel
theorem dX10_shoot_0 : decode cX10_shoot 0 = .ok (.iload_n 1, 1) := by decide +kernel
theorem dX10_shoot_1 : decode cX10_shoot 1 = .ok (.invokestatic 165, 3) := by decide +kernel
theorem dX10_shoot_4 : decode cX10_shoot 4 = .ok (.ifCond .eq 14, 3) := by decide +kernel
theorem dX10_shoot_7 : decode cX10_shoot 7 = .ok (.iload_n 2, 1) := by decide +kernel
theorem dX10_shoot_8 : decode cX10_shoot 8 = .ok (.iconst 1, 1) := by decide +kernel
theorem dX10_shoot_9 : decode cX10_shoot 9 = .ok (.sipush 999, 3) := by decide +kernel
theorem dX10_shoot_12 : decode cX10_shoot 12 = .ok (.invokestatic 81, 3) := by decide +kernel
theorem dX10_shoot_15 : decode cX10_shoot 15 = .ok (.ifCond .ne 5, 3) := by decide +kernel
theorem dX10_shoot_18 : decode cX10_shoot 18 = .ok (.iconst (-1), 1) := by decide +kernel
theorem dX10_shoot_19 : decode cX10_shoot 19 = .ok (.ireturn, 1) := by decide +kernel
theorem dX10_shoot_20 : decode cX10_shoot 20 = .ok (.aload_n 0, 1) := by decide +kernel
theorem dX10_shoot_21 : decode cX10_shoot 21 = .ok (.getfield 10, 3) := by decide +kernel
theorem dX10_shoot_24 : decode cX10_shoot 24 = .ok (.aload_n 0, 1) := by decide +kernel
theorem dX10_shoot_25 : decode cX10_shoot 25 = .ok (.getfield 50, 3) := by decide +kernel
theorem dX10_shoot_28 : decode cX10_shoot 28 = .ok (.iload_n 1, 1) := by decide +kernel
theorem dX10_shoot_29 : decode cX10_shoot 29 = .ok (.invokevirtual 180, 3) := by decide +kernel
theorem dX10_shoot_32 : decode cX10_shoot 32 = .ok (.aload_n 0, 1) := by decide +kernel
theorem dX10_shoot_33 : decode cX10_shoot 33 = .ok (.iload_n 2, 1) := by decide +kernel
theorem dX10_shoot_34 : decode cX10_shoot 34 = .ok (.aload_n 0, 1) := by decide +kernel
theorem dX10_shoot_35 : decode cX10_shoot 35 = .ok (.getfield 20, 3) := by decide +kernel
theorem dX10_shoot_38 : decode cX10_shoot 38 = .ok (.getfield 226, 3) := by decide +kernel
theorem dX10_shoot_41 : decode cX10_shoot 41 = .ok (.invokevirtual 229, 3) := by decide +kernel
theorem dX10_shoot_44 : decode cX10_shoot 44 = .ok (.aload_n 0, 1) := by decide +kernel
theorem dX10_shoot_45 : decode cX10_shoot 45 = .ok (.getfield 50, 3) := by decide +kernel
theorem dX10_shoot_48 : decode cX10_shoot 48 = .ok (.iload_n 2, 1) := by decide +kernel
theorem dX10_shoot_49 : decode cX10_shoot 49 = .ok (.invokevirtual 187, 3) := by decide +kernel
theorem dX10_shoot_52 : decode cX10_shoot 52 = .ok (.ireturn, 1) := by decide +kernel
theorem dX10_copyBits_0 : decode cX10_copyBits 0 = .ok (.iconst 0, 1) := by decide +kernel
theorem dX10_copyBits_1 : decode cX10_copyBits 1 = .ok (.istore_n 3, 1) := by decide +kernel
theorem dX10_copyBits_2 : decode cX10_copyBits 2 = .ok (.iload_n 3, 1) := by decide +kernel
theorem dX10_copyBits_3 : decode cX10_copyBits 3 = .ok (.aload_n 2, 1) := by decide +kernel
theorem dX10_copyBits_4 : decode cX10_copyBits 4 = .ok (.arraylength, 1) := by decide +kernel
theorem dX10_copyBits_5 : decode cX10_copyBits 5 = .ok (.if_icmp .ge 21, 3) := by decide +kernel
theorem dX10_copyBits_8 : decode cX10_copyBits 8 = .ok (.aload_n 2, 1) := by decide +kernel
theorem dX10_copyBits_9 : decode cX10_copyBits 9 = .ok (.iload_n 3, 1) := by decide +kernel
theorem dX10_copyBits_10 : decode cX10_copyBits 10 = .ok (.aload_n 0, 1) := by decide +kernel
theorem dX10_copyBits_11 : decode cX10_copyBits 11 = .ok (.getfield 50, 3) := by decide +kernel
theorem dX10_copyBits_14 : decode cX10_copyBits 14 = .ok (.iload_n 3, 1) := by decide +kernel
end
section
theorem dX10_copyBits_15 : decode cX10_copyBits 15 = .ok (.iload_n 1, 1) := by decide +kernel
theorem dX10_copyBits_16 : decode cX10_copyBits 16 = .ok (.invokevirtual 190, 3) := by decide +kernel
theorem dX10_copyBits_19 : decode cX10_copyBits 19 = .ok (.iastore, 1) := by decide +kernel
theorem dX10_copyBits_20 : decode cX10_copyBits 20 = .ok (.iinc 3 1, 3) := by decide +kernel
theorem dX10_copyBits_23 : decode cX10_copyBits 23 = .ok (.goto (-21), 3) := by decide +kernel
theorem dX10_copyBits_26 : decode cX10_copyBits 26 = .ok (.return_, 1) := by decide +kernel
theorem dX10_settings_0 : decode cX10_settings 0 = .ok (.iload_n 1, 1) := by decide +kernel
theorem dX10_settings_1 : decode cX10_settings 1 = .ok (.invokestatic 165, 3) := by decide +kernel
theorem dX10_settings_4 : decode cX10_settings 4 = .ok (.ifCond .eq 19, 3) := by decide +kernel
theorem dX10_settings_7 : decode cX10_settings 7 = .ok (.iload_n 2, 1) := by decide +kernel
theorem dX10_settings_8 : decode cX10_settings 8 = .ok (.iconst 1, 1) := by decide +kernel
theorem dX10_settings_9 : decode cX10_settings 9 = .ok (.sipush 999, 3) := by decide +kernel
theorem dX10_settings_12 : decode cX10_settings 12 = .ok (.invokestatic 81, 3) := by decide +kernel
theorem dX10_settings_15 : decode cX10_settings 15 = .ok (.ifCond .eq 8, 3) := by decide +kernel
theorem dX10_settings_18 : decode cX10_settings 18 = .ok (.iload_n 3, 1) := by decide +kernel
theorem dX10_settings_19 : decode cX10_settings 19 = .ok (.iconst (-1), 1) := by decide +kernel
theorem dX10_settings_20 : decode cX10_settings 20 = .ok (.if_icmp .ge 5, 3) := by decide +kernel
theorem dX10_settings_23 : decode cX10_settings 23 = .ok (.iconst (-1), 1) := by decide +kernel
theorem dX10_settings_24 : decode cX10_settings 24 = .ok (.ireturn, 1) := by decide +kernel
theorem dX10_settings_25 : decode cX10_settings 25 = .ok (.aload_n 0, 1) := by decide +kernel
theorem dX10_settings_26 : decode cX10_settings 26 = .ok (.getfield 20, 3) := by decide +kernel
theorem dX10_settings_29 : decode cX10_settings 29 = .ok (.getfield 126, 3) := by decide +kernel
theorem dX10_settings_32 : decode cX10_settings 32 = .ok (.istore 4, 2) := by decide +kernel
theorem dX10_settings_34 : decode cX10_settings 34 = .ok (.aload_n 0, 1) := by decide +kernel
theorem dX10_settings_35 : decode cX10_settings 35 = .ok (.getfield 20, 3) := by decide +kernel
theorem dX10_settings_38 : decode cX10_settings 38 = .ok (.getfield 109, 3) := by decide +kernel
theorem dX10_settings_41 : decode cX10_settings 41 = .ok (.iconst 0, 1) := by decide +kernel
theorem dX10_settings_42 : decode cX10_settings 42 = .ok (.aaload, 1) := by decide +kernel
theorem dX10_settings_43 : decode cX10_settings 43 = .ok (.getfield 233, 3) := by decide +kernel
theorem dX10_settings_46 : decode cX10_settings 46 = .ok (.istore 5, 2) := by decide +kernel
theorem dX10_settings_48 : decode cX10_settings 48 = .ok (.iconst 0, 1) := by decide +kernel
theorem dX10_settings_49 : decode cX10_settings 49 = .ok (.istore 6, 2) := by decide +kernel
theorem dX10_settings_51 : decode cX10_settings 51 = .ok (.iconst (-1), 1) := by decide +kernel
theorem dX10_settings_52 : decode cX10_settings 52 = .ok (.istore 7, 2) := by decide +kernel
theorem dX10_settings_54 : decode cX10_settings 54 = .ok (.iconst 1, 1) := by decide +kernel
theorem dX10_settings_55 : decode cX10_settings 55 = .ok (.istore 8, 2) := by decide +kernel
theorem dX10_settings_57 : decode cX10_settings 57 = .ok (.iload 8, 2) := by decide +kernel
theorem dX10_settings_59 : decode cX10_settings 59 = .ok (.bipush 20, 2) := by decide +kernel
theorem dX10_settings_61 : decode cX10_settings 61 = .ok (.if_icmp .gt 105, 3) := by decide +kernel
theorem dX10_settings_64 : decode cX10_settings 64 = .ok (.iconst 0, 1) := by decide +kernel
theorem dX10_settings_65 : decode cX10_settings 65 = .ok (.istore 9, 2) := by decide +kernel
theorem dX10_settings_67 : decode cX10_settings 67 = .ok (.iload 9, 2) := by decide +kernel
theorem dX10_settings_69 : decode cX10_settings 69 = .ok (.getstatic 236, 3) := by decide +kernel
theorem dX10_settings_72 : decode cX10_settings 72 = .ok (.arraylength, 1) := by decide +kernel
theorem dX10_settings_73 : decode cX10_settings 73 = .ok (.if_icmp .ge 87, 3) := by decide +kernel
theorem dX10_settings_76 : decode cX10_settings 76 = .ok (.aload_n 0, 1) := by decide +kernel
theorem dX10_settings_77 : decode cX10_settings 77 = .ok (.getfield 20, 3) := by decide +kernel
theorem dX10_settings_80 : decode cX10_settings 80 = .ok (.iload 8, 2) := by decide +kernel
theorem dX10_settings_82 : decode cX10_settings 82 = .ok (.putfield 126, 3) := by decide +kernel
theorem dX10_settings_85 : decode cX10_settings 85 = .ok (.aload_n 0, 1) := by decide +kernel
theorem dX10_settings_86 : decode cX10_settings 86 = .ok (.getfield 20, 3) := by decide +kernel
theorem dX10_settings_89 : decode cX10_settings 89 = .ok (.getfield 109, 3) := by decide +kernel
theorem dX10_settings_92 : decode cX10_settings 92 = .ok (.iconst 0, 1) := by decide +kernel
theorem dX10_settings_93 : decode cX10_settings 93 = .ok (.aaload, 1) := by decide +kernel
theorem dX10_settings_94 : decode cX10_settings 94 = .ok (.getstatic 236, 3) := by decide +kernel
theorem dX10_settings_97 : decode cX10_settings 97 = .ok (.iload 9, 2) := by decide +kernel
theorem dX10_settings_99 : decode cX10_settings 99 = .ok (.iaload, 1) := by decide +kernel
theorem dX10_settings_100 : decode cX10_settings 100 = .ok (.putfield 233, 3) := by decide +kernel
theorem dX10_settings_103 : decode cX10_settings 103 = .ok (.aload_n 0, 1) := by decide +kernel
theorem dX10_settings_104 : decode cX10_settings 104 = .ok (.getfield 10, 3) := by decide +kernel
theorem dX10_settings_107 : decode cX10_settings 107 = .ok (.aload_n 0, 1) := by decide +kernel
theorem dX10_settings_108 : decode cX10_settings 108 = .ok (.getfield 50, 3) := by decide +kernel
theorem dX10_settings_111 : decode cX10_settings 111 = .ok (.iload_n 1, 1) := by decide +kernel
theorem dX10_settings_112 : decode cX10_settings 112 = .ok (.invokevirtual 180, 3) := by decide +kernel
theorem dX10_settings_115 : decode cX10_settings 115 = .ok (.aload_n 0, 1) := by decide +kernel
theorem dX10_settings_116 : decode cX10_settings 116 = .ok (.aload_n 0, 1) := by decide +kernel
theorem dX10_settings_117 : decode cX10_settings 117 = .ok (.getfield 20, 3) := by decide +kernel
theorem dX10_settings_120 : decode cX10_settings 120 = .ok (.getfield 226, 3) := by decide +kernel
theorem dX10_settings_123 : decode cX10_settings 123 = .ok (.iload_n 2, 1) := by decide +kernel
theorem dX10_settings_124 : decode cX10_settings 124 = .ok (.invokevirtual 239, 3) := by decide +kernel
theorem dX10_settings_127 : decode cX10_settings 127 = .ok (.ifCond .ne 27, 3) := by decide +kernel
theorem dX10_settings_130 : decode cX10_settings 130 = .ok (.iload 6, 2) := by decide +kernel
theorem dX10_settings_132 : decode cX10_settings 132 = .ok (.iload_n 3, 1) := by decide +kernel
theorem dX10_settings_133 : decode cX10_settings 133 = .ok (.if_icmp .ne 18, 3) := by decide +kernel
theorem dX10_settings_136 : decode cX10_settings 136 = .ok (.sipush 1000, 3) := by decide +kernel
theorem dX10_settings_139 : decode cX10_settings 139 = .ok (.iload 8, 2) := by decide +kernel
theorem dX10_settings_141 : decode cX10_settings 141 = .ok (.imul, 1) := by decide +kernel
theorem dX10_settings_142 : decode cX10_settings 142 = .ok (.getstatic 236, 3) := by decide +kernel
theorem dX10_settings_145 : decode cX10_settings 145 = .ok (.iload 9, 2) := by decide +kernel
theorem dX10_settings_147 : decode cX10_settings 147 = .ok (.iaload, 1) := by decide +kernel
theorem dX10_settings_148 : decode cX10_settings 148 = .ok (.iadd, 1) := by decide +kernel
theorem dX10_settings_149 : decode cX10_settings 149 = .ok (.istore 7, 2) := by decide +kernel
theorem dX10_settings_151 : decode cX10_settings 151 = .ok (.iinc 6 1, 3) := by decide +kernel
theorem dX10_settings_154 : decode cX10_settings 154 = .ok (.iinc 9 1, 3) := by decide +kernel
theorem dX10_settings_157 : decode cX10_settings 157 = .ok (.goto (-90), 3) := by decide +kernel
theorem dX10_settings_160 : decode cX10_settings 160 = .ok (.iinc 8 1, 3) := by decide +kernel
theorem dX10_settings_163 : decode cX10_settings 163 = .ok (.goto (-106), 3) := by decide +kernel
theorem dX10_settings_166 : decode cX10_settings 166 = .ok (.aload_n 0, 1) := by decide +kernel
theorem dX10_settings_167 : decode cX10_settings 167 = .ok (.getfield 20, 3) := by decide +kernel
theorem dX10_settings_170 : decode cX10_settings 170 = .ok (.iload 4, 2) := by decide +kernel
theorem dX10_settings_172 : decode cX10_settings 172 = .ok (.putfield 126, 3) := by decide +kernel
theorem dX10_settings_175 : decode cX10_settings 175 = .ok (.aload_n 0, 1) := by decide +kernel
theorem dX10_settings_176 : decode cX10_settings 176 = .ok (.getfield 20, 3) := by decide +kernel
theorem dX10_settings_179 : decode cX10_settings 179 = .ok (.getfield 109, 3) := by decide +kernel
theorem dX10_settings_182 : decode cX10_settings 182 = .ok (.iconst 0, 1) := by decide +kernel
theorem dX10_settings_183 : decode cX10_settings 183 = .ok (.aaload, 1) := by decide +kernel
theorem dX10_settings_184 : decode cX10_settings 184 = .ok (.iload 5, 2) := by decide +kernel
theorem dX10_settings_186 : decode cX10_settings 186 = .ok (.putfield 233, 3) := by decide +kernel
theorem dX10_settings_189 : decode cX10_settings 189 = .ok (.iload_n 3, 1) := by decide +kernel
theorem dX10_settings_190 : decode cX10_settings 190 = .ok (.iconst (-1), 1) := by decide +kernel
theorem dX10_settings_191 : decode cX10_settings 191 = .ok (.if_icmp .ne 8, 3) := by decide +kernel
theorem dX10_settings_194 : decode cX10_settings 194 = .ok (.iload 6, 2) := by decide +kernel
theorem dX10_settings_196 : decode cX10_settings 196 = .ok (.goto 5, 3) := by decide +kernel
theorem dX10_settings_199 : decode cX10_settings 199 = .ok (.iload 7, 2) := by decide +kernel
theorem dX10_settings_201 : decode cX10_settings 201 = .ok (.ireturn, 1) := by decide +kernel
theorem dX10_unlike_0 : decode cX10_unlike 0 = .ok (.iconst 0, 1) := by decide +kernel
theorem dX10_unlike_1 : decode cX10_unlike 1 = .ok (.istore_n 3, 1) := by decide +kernel
theorem dX10_unlike_2 : decode cX10_unlike 2 = .ok (.iconst 0, 1) := by decide +kernel
theorem dX10_unlike_3 : decode cX10_unlike 3 = .ok (.istore 4, 2) := by decide +kernel
theorem dX10_unlike_5 : decode cX10_unlike 5 = .ok (.iload 4, 2) := by decide +kernel
theorem dX10_unlike_7 : decode cX10_unlike 7 = .ok (.aload_n 1, 1) := by decide +kernel
theorem dX10_unlike_8 : decode cX10_unlike 8 = .ok (.arraylength, 1) := by decide +kernel
theorem dX10_unlike_9 : decode cX10_unlike 9 = .ok (.if_icmp .ge 30, 3) := by decide +kernel
theorem dX10_unlike_12 : decode cX10_unlike 12 = .ok (.iload_n 3, 1) := by decide +kernel
theorem dX10_unlike_13 : decode cX10_unlike 13 = .ok (.aload_n 1, 1) := by decide +kernel
theorem dX10_unlike_14 : decode cX10_unlike 14 = .ok (.iload 4, 2) := by decide +kernel
theorem dX10_unlike_16 : decode cX10_unlike 16 = .ok (.iaload, 1) := by decide +kernel
theorem dX10_unlike_17 : decode cX10_unlike 17 = .ok (.aload_n 0, 1) := by decide +kernel
theorem dX10_unlike_18 : decode cX10_unlike 18 = .ok (.getfield 50, 3) := by decide +kernel
theorem dX10_unlike_21 : decode cX10_unlike 21 = .ok (.iload 4, 2) := by decide +kernel
theorem dX10_unlike_23 : decode cX10_unlike 23 = .ok (.iload_n 2, 1) := by decide +kernel
theorem dX10_unlike_24 : decode cX10_unlike 24 = .ok (.invokevirtual 190, 3) := by decide +kernel
theorem dX10_unlike_27 : decode cX10_unlike 27 = .ok (.ixor, 1) := by decide +kernel
theorem dX10_unlike_28 : decode cX10_unlike 28 = .ok (.invokestatic 243, 3) := by decide +kernel
theorem dX10_unlike_31 : decode cX10_unlike 31 = .ok (.iadd, 1) := by decide +kernel
theorem dX10_unlike_32 : decode cX10_unlike 32 = .ok (.istore_n 3, 1) := by decide +kernel
theorem dX10_unlike_33 : decode cX10_unlike 33 = .ok (.iinc 4 1, 3) := by decide +kernel
theorem dX10_unlike_36 : decode cX10_unlike 36 = .ok (.goto (-31), 3) := by decide +kernel
theorem dX10_unlike_39 : decode cX10_unlike 39 = .ok (.iload_n 3, 1) := by decide +kernel
theorem dX10_unlike_40 : decode cX10_unlike 40 = .ok (.ireturn, 1) := by decide +kernel
theorem dX10_measure_0 : decode cX10_measure 0 = .ok (.iload_n 1, 1) := by decide +kernel
theorem dX10_measure_1 : decode cX10_measure 1 = .ok (.invokestatic 106, 3) := by decide +kernel
theorem dX10_measure_4 : decode cX10_measure 4 = .ok (.ifCond .eq 19, 3) := by decide +kernel
theorem dX10_measure_7 : decode cX10_measure 7 = .ok (.iload_n 2, 1) := by decide +kernel
theorem dX10_measure_8 : decode cX10_measure 8 = .ok (.ifCond .lt 15, 3) := by decide +kernel
theorem dX10_measure_11 : decode cX10_measure 11 = .ok (.iload_n 2, 1) := by decide +kernel
theorem dX10_measure_12 : decode cX10_measure 12 = .ok (.iload_n 3, 1) := by decide +kernel
theorem dX10_measure_13 : decode cX10_measure 13 = .ok (.if_icmp .ge 10, 3) := by decide +kernel
theorem dX10_measure_16 : decode cX10_measure 16 = .ok (.iload_n 3, 1) := by decide +kernel
theorem dX10_measure_17 : decode cX10_measure 17 = .ok (.sipush 2000, 3) := by decide +kernel
theorem dX10_measure_20 : decode cX10_measure 20 = .ok (.if_icmp .le 6, 3) := by decide +kernel
theorem dX10_measure_23 : decode cX10_measure 23 = .ok (.ldc 101, 2) := by decide +kernel
theorem dX10_measure_25 : decode cX10_measure 25 = .ok (.ireturn, 1) := by decide +kernel
theorem dX10_measure_26 : decode cX10_measure 26 = .ok (.aload_n 0, 1) := by decide +kernel
theorem dX10_measure_27 : decode cX10_measure 27 = .ok (.iload_n 1, 1) := by decide +kernel
theorem dX10_measure_28 : decode cX10_measure 28 = .ok (.iload_n 2, 1) := by decide +kernel
theorem dX10_measure_29 : decode cX10_measure 29 = .ok (.iload_n 3, 1) := by decide +kernel
theorem dX10_measure_30 : decode cX10_measure 30 = .ok (.invokevirtual 248, 3) := by decide +kernel
theorem dX10_measure_33 : decode cX10_measure 33 = .ok (.istore 5, 2) := by decide +kernel
theorem dX10_measure_35 : decode cX10_measure 35 = .ok (.aload_n 0, 1) := by decide +kernel
theorem dX10_measure_36 : decode cX10_measure 36 = .ok (.iload_n 1, 1) := by decide +kernel
theorem dX10_measure_37 : decode cX10_measure 37 = .ok (.iload_n 2, 1) := by decide +kernel
theorem dX10_measure_38 : decode cX10_measure 38 = .ok (.iload_n 3, 1) := by decide +kernel
theorem dX10_measure_39 : decode cX10_measure 39 = .ok (.invokevirtual 252, 3) := by decide +kernel
theorem dX10_measure_42 : decode cX10_measure 42 = .ok (.istore 6, 2) := by decide +kernel
theorem dX10_measure_44 : decode cX10_measure 44 = .ok (.iload 4, 2) := by decide +kernel
theorem dX10_measure_46 : decode cX10_measure 46 = .ok (.tableswitch 116 0 5 #[38, 41, 44, 57, 70, 93], 38) := by decide +kernel
theorem dX10_measure_84 : decode cX10_measure 84 = .ok (.iload 5, 2) := by decide +kernel
theorem dX10_measure_86 : decode cX10_measure 86 = .ok (.ireturn, 1) := by decide +kernel
theorem dX10_measure_87 : decode cX10_measure 87 = .ok (.iload 6, 2) := by decide +kernel
theorem dX10_measure_89 : decode cX10_measure 89 = .ok (.ireturn, 1) := by decide +kernel
theorem dX10_measure_90 : decode cX10_measure 90 = .ok (.aload_n 0, 1) := by decide +kernel
theorem dX10_measure_91 : decode cX10_measure 91 = .ok (.iload_n 1, 1) := by decide +kernel
theorem dX10_measure_92 : decode cX10_measure 92 = .ok (.iload_n 2, 1) := by decide +kernel
theorem dX10_measure_93 : decode cX10_measure 93 = .ok (.iload_n 3, 1) := by decide +kernel
theorem dX10_measure_94 : decode cX10_measure 94 = .ok (.iconst 1, 1) := by decide +kernel
theorem dX10_measure_95 : decode cX10_measure 95 = .ok (.iload 5, 2) := by decide +kernel
theorem dX10_measure_97 : decode cX10_measure 97 = .ok (.iload 6, 2) := by decide +kernel
theorem dX10_measure_99 : decode cX10_measure 99 = .ok (.invokevirtual 255, 3) := by decide +kernel
theorem dX10_measure_102 : decode cX10_measure 102 = .ok (.ireturn, 1) := by decide +kernel
theorem dX10_measure_103 : decode cX10_measure 103 = .ok (.aload_n 0, 1) := by decide +kernel
theorem dX10_measure_104 : decode cX10_measure 104 = .ok (.iload_n 1, 1) := by decide +kernel
theorem dX10_measure_105 : decode cX10_measure 105 = .ok (.iload_n 2, 1) := by decide +kernel
theorem dX10_measure_106 : decode cX10_measure 106 = .ok (.iload_n 3, 1) := by decide +kernel
theorem dX10_measure_107 : decode cX10_measure 107 = .ok (.iload 5, 2) := by decide +kernel
theorem dX10_measure_109 : decode cX10_measure 109 = .ok (.iload 6, 2) := by decide +kernel
theorem dX10_measure_111 : decode cX10_measure 111 = .ok (.iadd, 1) := by decide +kernel
theorem dX10_measure_112 : decode cX10_measure 112 = .ok (.invokevirtual 259, 3) := by decide +kernel
theorem dX10_measure_115 : decode cX10_measure 115 = .ok (.ireturn, 1) := by decide +kernel
theorem dX10_measure_116 : decode cX10_measure 116 = .ok (.aload_n 0, 1) := by decide +kernel
theorem dX10_measure_117 : decode cX10_measure 117 = .ok (.aload_n 0, 1) := by decide +kernel
theorem dX10_measure_118 : decode cX10_measure 118 = .ok (.iload_n 1, 1) := by decide +kernel
theorem dX10_measure_119 : decode cX10_measure 119 = .ok (.iload_n 2, 1) := by decide +kernel
theorem dX10_measure_120 : decode cX10_measure 120 = .ok (.iload_n 3, 1) := by decide +kernel
theorem dX10_measure_121 : decode cX10_measure 121 = .ok (.aload_n 0, 1) := by decide +kernel
theorem dX10_measure_122 : decode cX10_measure 122 = .ok (.getfield 20, 3) := by decide +kernel
theorem dX10_measure_125 : decode cX10_measure 125 = .ok (.getfield 126, 3) := by decide +kernel
theorem dX10_measure_128 : decode cX10_measure 128 = .ok (.iload 5, 2) := by decide +kernel
theorem dX10_measure_130 : decode cX10_measure 130 = .ok (.iload 6, 2) := by decide +kernel
theorem dX10_measure_132 : decode cX10_measure 132 = .ok (.invokevirtual 255, 3) := by decide +kernel
theorem dX10_measure_135 : decode cX10_measure 135 = .ok (.invokevirtual 263, 3) := by decide +kernel
theorem dX10_measure_138 : decode cX10_measure 138 = .ok (.ireturn, 1) := by decide +kernel
theorem dX10_measure_139 : decode cX10_measure 139 = .ok (.aload_n 0, 1) := by decide +kernel
theorem dX10_measure_140 : decode cX10_measure 140 = .ok (.aload_n 0, 1) := by decide +kernel
theorem dX10_measure_141 : decode cX10_measure 141 = .ok (.iload_n 1, 1) := by decide +kernel
theorem dX10_measure_142 : decode cX10_measure 142 = .ok (.iload_n 2, 1) := by decide +kernel
theorem dX10_measure_143 : decode cX10_measure 143 = .ok (.iload_n 3, 1) := by decide +kernel
theorem dX10_measure_144 : decode cX10_measure 144 = .ok (.aload_n 0, 1) := by decide +kernel
theorem dX10_measure_145 : decode cX10_measure 145 = .ok (.getfield 20, 3) := by decide +kernel
theorem dX10_measure_148 : decode cX10_measure 148 = .ok (.getfield 126, 3) := by decide +kernel
theorem dX10_measure_151 : decode cX10_measure 151 = .ok (.iload 5, 2) := by decide +kernel
theorem dX10_measure_153 : decode cX10_measure 153 = .ok (.iload 6, 2) := by decide +kernel
theorem dX10_measure_155 : decode cX10_measure 155 = .ok (.invokevirtual 255, 3) := by decide +kernel
theorem dX10_measure_158 : decode cX10_measure 158 = .ok (.invokevirtual 266, 3) := by decide +kernel
theorem dX10_measure_161 : decode cX10_measure 161 = .ok (.ireturn, 1) := by decide +kernel
theorem dX10_measure_162 : decode cX10_measure 162 = .ok (.ldc 101, 2) := by decide +kernel
theorem dX10_measure_164 : decode cX10_measure 164 = .ok (.ireturn, 1) := by decide +kernel
theorem dX10_lowest_0 : decode cX10_lowest 0 = .ok (.aload_n 0, 1) := by decide +kernel
theorem dX10_lowest_1 : decode cX10_lowest 1 = .ok (.getfield 10, 3) := by decide +kernel
theorem dX10_lowest_4 : decode cX10_lowest 4 = .ok (.iload_n 1, 1) := by decide +kernel
theorem dX10_lowest_5 : decode cX10_lowest 5 = .ok (.iload_n 2, 1) := by decide +kernel
theorem dX10_lowest_6 : decode cX10_lowest 6 = .ok (.invokevirtual 122, 3) := by decide +kernel
theorem dX10_lowest_9 : decode cX10_lowest 9 = .ok (.istore 4, 2) := by decide +kernel
theorem dX10_lowest_11 : decode cX10_lowest 11 = .ok (.iload_n 2, 1) := by decide +kernel
theorem dX10_lowest_12 : decode cX10_lowest 12 = .ok (.istore 5, 2) := by decide +kernel
theorem dX10_lowest_14 : decode cX10_lowest 14 = .ok (.iload 5, 2) := by decide +kernel
theorem dX10_lowest_16 : decode cX10_lowest 16 = .ok (.iload_n 3, 1) := by decide +kernel
theorem dX10_lowest_17 : decode cX10_lowest 17 = .ok (.if_icmp .ge 26, 3) := by decide +kernel
theorem dX10_lowest_20 : decode cX10_lowest 20 = .ok (.iload 4, 2) := by decide +kernel
theorem dX10_lowest_22 : decode cX10_lowest 22 = .ok (.aload_n 0, 1) := by decide +kernel
theorem dX10_lowest_23 : decode cX10_lowest 23 = .ok (.getfield 10, 3) := by decide +kernel
theorem dX10_lowest_26 : decode cX10_lowest 26 = .ok (.iload_n 1, 1) := by decide +kernel
theorem dX10_lowest_27 : decode cX10_lowest 27 = .ok (.iload 5, 2) := by decide +kernel
theorem dX10_lowest_29 : decode cX10_lowest 29 = .ok (.invokevirtual 122, 3) := by decide +kernel
theorem dX10_lowest_32 : decode cX10_lowest 32 = .ok (.invokestatic 269, 3) := by decide +kernel
theorem dX10_lowest_35 : decode cX10_lowest 35 = .ok (.istore 4, 2) := by decide +kernel
theorem dX10_lowest_37 : decode cX10_lowest 37 = .ok (.iinc 5 1, 3) := by decide +kernel
theorem dX10_lowest_40 : decode cX10_lowest 40 = .ok (.goto (-26), 3) := by decide +kernel
theorem dX10_lowest_43 : decode cX10_lowest 43 = .ok (.iload 4, 2) := by decide +kernel
theorem dX10_lowest_45 : decode cX10_lowest 45 = .ok (.ireturn, 1) := by decide +kernel
theorem dX10_highest_0 : decode cX10_highest 0 = .ok (.aload_n 0, 1) := by decide +kernel
theorem dX10_highest_1 : decode cX10_highest 1 = .ok (.getfield 10, 3) := by decide +kernel
theorem dX10_highest_4 : decode cX10_highest 4 = .ok (.iload_n 1, 1) := by decide +kernel
theorem dX10_highest_5 : decode cX10_highest 5 = .ok (.iload_n 2, 1) := by decide +kernel
theorem dX10_highest_6 : decode cX10_highest 6 = .ok (.invokevirtual 122, 3) := by decide +kernel
theorem dX10_highest_9 : decode cX10_highest 9 = .ok (.istore 4, 2) := by decide +kernel
theorem dX10_highest_11 : decode cX10_highest 11 = .ok (.iload_n 2, 1) := by decide +kernel
theorem dX10_highest_12 : decode cX10_highest 12 = .ok (.istore 5, 2) := by decide +kernel
theorem dX10_highest_14 : decode cX10_highest 14 = .ok (.iload 5, 2) := by decide +kernel
theorem dX10_highest_16 : decode cX10_highest 16 = .ok (.iload_n 3, 1) := by decide +kernel
theorem dX10_highest_17 : decode cX10_highest 17 = .ok (.if_icmp .ge 26, 3) := by decide +kernel
theorem dX10_highest_20 : decode cX10_highest 20 = .ok (.iload 4, 2) := by decide +kernel
theorem dX10_highest_22 : decode cX10_highest 22 = .ok (.aload_n 0, 1) := by decide +kernel
theorem dX10_highest_23 : decode cX10_highest 23 = .ok (.getfield 10, 3) := by decide +kernel
theorem dX10_highest_26 : decode cX10_highest 26 = .ok (.iload_n 1, 1) := by decide +kernel
theorem dX10_highest_27 : decode cX10_highest 27 = .ok (.iload 5, 2) := by decide +kernel
theorem dX10_highest_29 : decode cX10_highest 29 = .ok (.invokevirtual 122, 3) := by decide +kernel
theorem dX10_highest_32 : decode cX10_highest 32 = .ok (.invokestatic 202, 3) := by decide +kernel
theorem dX10_highest_35 : decode cX10_highest 35 = .ok (.istore 4, 2) := by decide +kernel
theorem dX10_highest_37 : decode cX10_highest 37 = .ok (.iinc 5 1, 3) := by decide +kernel
theorem dX10_highest_40 : decode cX10_highest 40 = .ok (.goto (-26), 3) := by decide +kernel
theorem dX10_highest_43 : decode cX10_highest 43 = .ok (.iload 4, 2) := by decide +kernel
theorem dX10_highest_45 : decode cX10_highest 45 = .ok (.ireturn, 1) := by decide +kernel
theorem dX10_wide_0 : decode cX10_wide 0 = .ok (.iconst 0, 1) := by decide +kernel
theorem dX10_wide_1 : decode cX10_wide 1 = .ok (.istore 5, 2) := by decide +kernel
theorem dX10_wide_3 : decode cX10_wide 3 = .ok (.iload_n 2, 1) := by decide +kernel
theorem dX10_wide_4 : decode cX10_wide 4 = .ok (.istore 6, 2) := by decide +kernel
theorem dX10_wide_6 : decode cX10_wide 6 = .ok (.iload 6, 2) := by decide +kernel
theorem dX10_wide_8 : decode cX10_wide 8 = .ok (.iload_n 3, 1) := by decide +kernel
theorem dX10_wide_9 : decode cX10_wide 9 = .ok (.if_icmp .ge 29, 3) := by decide +kernel
theorem dX10_wide_12 : decode cX10_wide 12 = .ok (.iconst 2, 1) := by decide +kernel
theorem dX10_wide_13 : decode cX10_wide 13 = .ok (.aload_n 0, 1) := by decide +kernel
theorem dX10_wide_14 : decode cX10_wide 14 = .ok (.getfield 10, 3) := by decide +kernel
theorem dX10_wide_17 : decode cX10_wide 17 = .ok (.iload_n 1, 1) := by decide +kernel
theorem dX10_wide_18 : decode cX10_wide 18 = .ok (.iload 6, 2) := by decide +kernel
theorem dX10_wide_20 : decode cX10_wide 20 = .ok (.invokevirtual 122, 3) := by decide +kernel
theorem dX10_wide_23 : decode cX10_wide 23 = .ok (.imul, 1) := by decide +kernel
theorem dX10_wide_24 : decode cX10_wide 24 = .ok (.iload 4, 2) := by decide +kernel
theorem dX10_wide_26 : decode cX10_wide 26 = .ok (.if_icmp .lt 6, 3) := by decide +kernel
theorem dX10_wide_29 : decode cX10_wide 29 = .ok (.iinc 5 1, 3) := by decide +kernel
theorem dX10_wide_32 : decode cX10_wide 32 = .ok (.iinc 6 1, 3) := by decide +kernel
theorem dX10_wide_35 : decode cX10_wide 35 = .ok (.goto (-29), 3) := by decide +kernel
theorem dX10_wide_38 : decode cX10_wide 38 = .ok (.iload 5, 2) := by decide +kernel
theorem dX10_wide_40 : decode cX10_wide 40 = .ok (.ireturn, 1) := by decide +kernel
theorem dX10_rise_0 : decode cX10_rise 0 = .ok (.iconst (-1), 1) := by decide +kernel
theorem dX10_rise_1 : decode cX10_rise 1 = .ok (.istore 7, 2) := by decide +kernel
theorem dX10_rise_3 : decode cX10_rise 3 = .ok (.iload_n 2, 1) := by decide +kernel
theorem dX10_rise_4 : decode cX10_rise 4 = .ok (.istore 8, 2) := by decide +kernel
theorem dX10_rise_6 : decode cX10_rise 6 = .ok (.iload 8, 2) := by decide +kernel
theorem dX10_rise_8 : decode cX10_rise 8 = .ok (.iload_n 3, 1) := by decide +kernel
theorem dX10_rise_9 : decode cX10_rise 9 = .ok (.if_icmp .ge 75, 3) := by decide +kernel
theorem dX10_rise_12 : decode cX10_rise 12 = .ok (.iload 4, 2) := by decide +kernel
theorem dX10_rise_14 : decode cX10_rise 14 = .ok (.ifCond .le 70, 3) := by decide +kernel
theorem dX10_rise_17 : decode cX10_rise 17 = .ok (.bipush 10, 2) := by decide +kernel
theorem dX10_rise_19 : decode cX10_rise 19 = .ok (.aload_n 0, 1) := by decide +kernel
theorem dX10_rise_20 : decode cX10_rise 20 = .ok (.getfield 10, 3) := by decide +kernel
theorem dX10_rise_23 : decode cX10_rise 23 = .ok (.iload_n 1, 1) := by decide +kernel
theorem dX10_rise_24 : decode cX10_rise 24 = .ok (.iload 8, 2) := by decide +kernel
theorem dX10_rise_26 : decode cX10_rise 26 = .ok (.invokevirtual 122, 3) := by decide +kernel
theorem dX10_rise_29 : decode cX10_rise 29 = .ok (.iload 5, 2) := by decide +kernel
theorem dX10_rise_31 : decode cX10_rise 31 = .ok (.isub, 1) := by decide +kernel
theorem dX10_rise_32 : decode cX10_rise 32 = .ok (.imul, 1) := by decide +kernel
theorem dX10_rise_33 : decode cX10_rise 33 = .ok (.istore 9, 2) := by decide +kernel
theorem dX10_rise_35 : decode cX10_rise 35 = .ok (.iload 7, 2) := by decide +kernel
theorem dX10_rise_37 : decode cX10_rise 37 = .ok (.iconst (-1), 1) := by decide +kernel
theorem dX10_rise_38 : decode cX10_rise 38 = .ok (.if_icmp .ne 17, 3) := by decide +kernel
theorem dX10_rise_41 : decode cX10_rise 41 = .ok (.iload 9, 2) := by decide +kernel
theorem dX10_rise_43 : decode cX10_rise 43 = .ok (.iload 6, 2) := by decide +kernel
theorem dX10_rise_45 : decode cX10_rise 45 = .ok (.iload 5, 2) := by decide +kernel
theorem dX10_rise_47 : decode cX10_rise 47 = .ok (.isub, 1) := by decide +kernel
theorem dX10_rise_48 : decode cX10_rise 48 = .ok (.if_icmp .lt 7, 3) := by decide +kernel
theorem dX10_rise_51 : decode cX10_rise 51 = .ok (.iload 8, 2) := by decide +kernel
theorem dX10_rise_53 : decode cX10_rise 53 = .ok (.istore 7, 2) := by decide +kernel
theorem dX10_rise_55 : decode cX10_rise 55 = .ok (.iload 9, 2) := by decide +kernel
theorem dX10_rise_57 : decode cX10_rise 57 = .ok (.bipush 9, 2) := by decide +kernel
theorem dX10_rise_59 : decode cX10_rise 59 = .ok (.iload 6, 2) := by decide +kernel
theorem dX10_rise_61 : decode cX10_rise 61 = .ok (.iload 5, 2) := by decide +kernel
theorem dX10_rise_63 : decode cX10_rise 63 = .ok (.isub, 1) := by decide +kernel
theorem dX10_rise_64 : decode cX10_rise 64 = .ok (.imul, 1) := by decide +kernel
theorem dX10_rise_65 : decode cX10_rise 65 = .ok (.if_icmp .lt 9, 3) := by decide +kernel
theorem dX10_rise_68 : decode cX10_rise 68 = .ok (.iload 8, 2) := by decide +kernel
theorem dX10_rise_70 : decode cX10_rise 70 = .ok (.iload 7, 2) := by decide +kernel
theorem dX10_rise_72 : decode cX10_rise 72 = .ok (.isub, 1) := by decide +kernel
theorem dX10_rise_73 : decode cX10_rise 73 = .ok (.ireturn, 1) := by decide +kernel
theorem dX10_rise_74 : decode cX10_rise 74 = .ok (.iload 8, 2) := by decide +kernel
theorem dX10_rise_76 : decode cX10_rise 76 = .ok (.iload 4, 2) := by decide +kernel
theorem dX10_rise_78 : decode cX10_rise 78 = .ok (.iadd, 1) := by decide +kernel
theorem dX10_rise_79 : decode cX10_rise 79 = .ok (.istore 8, 2) := by decide +kernel
theorem dX10_rise_81 : decode cX10_rise 81 = .ok (.goto (-75), 3) := by decide +kernel
theorem dX10_rise_84 : decode cX10_rise 84 = .ok (.ldc 101, 2) := by decide +kernel
theorem dX10_rise_86 : decode cX10_rise 86 = .ok (.ireturn, 1) := by decide +kernel
theorem dX10_leastRise_0 : decode cX10_leastRise 0 = .ok (.iload_n 1, 1) := by decide +kernel
theorem dX10_leastRise_1 : decode cX10_leastRise 1 = .ok (.ldc 101, 2) := by decide +kernel
theorem dX10_leastRise_3 : decode cX10_leastRise 3 = .ok (.if_icmp .ne 8, 3) := by decide +kernel
theorem dX10_leastRise_6 : decode cX10_leastRise 6 = .ok (.ldc 101, 2) := by decide +kernel
theorem dX10_leastRise_8 : decode cX10_leastRise 8 = .ok (.goto 18, 3) := by decide +kernel
theorem dX10_leastRise_11 : decode cX10_leastRise 11 = .ok (.iconst 0, 1) := by decide +kernel
theorem dX10_leastRise_12 : decode cX10_leastRise 12 = .ok (.iload_n 1, 1) := by decide +kernel
theorem dX10_leastRise_13 : decode cX10_leastRise 13 = .ok (.aload_n 0, 1) := by decide +kernel
theorem dX10_leastRise_14 : decode cX10_leastRise 14 = .ok (.getfield 20, 3) := by decide +kernel
theorem dX10_leastRise_17 : decode cX10_leastRise 17 = .ok (.getfield 126, 3) := by decide +kernel
theorem dX10_leastRise_20 : decode cX10_leastRise 20 = .ok (.isub, 1) := by decide +kernel
theorem dX10_leastRise_21 : decode cX10_leastRise 21 = .ok (.iconst 1, 1) := by decide +kernel
theorem dX10_leastRise_22 : decode cX10_leastRise 22 = .ok (.iadd, 1) := by decide +kernel
theorem dX10_leastRise_23 : decode cX10_leastRise 23 = .ok (.invokestatic 202, 3) := by decide +kernel
theorem dX10_leastRise_26 : decode cX10_leastRise 26 = .ok (.ireturn, 1) := by decide +kernel
theorem dX10_greatestRise_0 : decode cX10_greatestRise 0 = .ok (.iload_n 1, 1) := by decide +kernel
theorem dX10_greatestRise_1 : decode cX10_greatestRise 1 = .ok (.ldc 101, 2) := by decide +kernel
theorem dX10_greatestRise_3 : decode cX10_greatestRise 3 = .ok (.if_icmp .ne 8, 3) := by decide +kernel
theorem dX10_greatestRise_6 : decode cX10_greatestRise 6 = .ok (.ldc 101, 2) := by decide +kernel
theorem dX10_greatestRise_8 : decode cX10_greatestRise 8 = .ok (.goto 14, 3) := by decide +kernel
theorem dX10_greatestRise_11 : decode cX10_greatestRise 11 = .ok (.iload_n 1, 1) := by decide +kernel
theorem dX10_greatestRise_12 : decode cX10_greatestRise 12 = .ok (.aload_n 0, 1) := by decide +kernel
theorem dX10_greatestRise_13 : decode cX10_greatestRise 13 = .ok (.getfield 20, 3) := by decide +kernel
theorem dX10_greatestRise_16 : decode cX10_greatestRise 16 = .ok (.getfield 126, 3) := by decide +kernel
theorem dX10_greatestRise_19 : decode cX10_greatestRise 19 = .ok (.iadd, 1) := by decide +kernel
theorem dX10_greatestRise_20 : decode cX10_greatestRise 20 = .ok (.iconst 1, 1) := by decide +kernel
theorem dX10_greatestRise_21 : decode cX10_greatestRise 21 = .ok (.isub, 1) := by decide +kernel
theorem dX10_greatestRise_22 : decode cX10_greatestRise 22 = .ok (.ireturn, 1) := by decide +kernel
theorem dX10_parting_0 : decode cX10_parting 0 = .ok (.iload_n 1, 1) := by decide +kernel
theorem dX10_parting_1 : decode cX10_parting 1 = .ok (.invokestatic 77, 3) := by decide +kernel
theorem dX10_parting_4 : decode cX10_parting 4 = .ok (.ifCond .eq 27, 3) := by decide +kernel
theorem dX10_parting_7 : decode cX10_parting 7 = .ok (.iload_n 2, 1) := by decide +kernel
theorem dX10_parting_8 : decode cX10_parting 8 = .ok (.invokestatic 77, 3) := by decide +kernel
theorem dX10_parting_11 : decode cX10_parting 11 = .ok (.ifCond .eq 20, 3) := by decide +kernel
theorem dX10_parting_14 : decode cX10_parting 14 = .ok (.iload_n 3, 1) := by decide +kernel
theorem dX10_parting_15 : decode cX10_parting 15 = .ok (.invokestatic 165, 3) := by decide +kernel
theorem dX10_parting_18 : decode cX10_parting 18 = .ok (.ifCond .eq 13, 3) := by decide +kernel
theorem dX10_parting_21 : decode cX10_parting 21 = .ok (.iload 4, 2) := by decide +kernel
theorem dX10_parting_23 : decode cX10_parting 23 = .ok (.iconst 0, 1) := by decide +kernel
theorem dX10_parting_24 : decode cX10_parting 24 = .ok (.iconst 1, 1) := by decide +kernel
theorem dX10_parting_25 : decode cX10_parting 25 = .ok (.invokestatic 81, 3) := by decide +kernel
theorem dX10_parting_28 : decode cX10_parting 28 = .ok (.ifCond .ne 5, 3) := by decide +kernel
theorem dX10_parting_31 : decode cX10_parting 31 = .ok (.iconst (-1), 1) := by decide +kernel
theorem dX10_parting_32 : decode cX10_parting 32 = .ok (.ireturn, 1) := by decide +kernel
theorem dX10_parting_33 : decode cX10_parting 33 = .ok (.aload_n 0, 1) := by decide +kernel
theorem dX10_parting_34 : decode cX10_parting 34 = .ok (.getfield 20, 3) := by decide +kernel
theorem dX10_parting_37 : decode cX10_parting 37 = .ok (.getfield 126, 3) := by decide +kernel
theorem dX10_parting_40 : decode cX10_parting 40 = .ok (.istore 5, 2) := by decide +kernel
theorem dX10_parting_42 : decode cX10_parting 42 = .ok (.aload_n 0, 1) := by decide +kernel
theorem dX10_parting_43 : decode cX10_parting 43 = .ok (.getfield 20, 3) := by decide +kernel
theorem dX10_parting_46 : decode cX10_parting 46 = .ok (.getfield 109, 3) := by decide +kernel
theorem dX10_parting_49 : decode cX10_parting 49 = .ok (.iconst 0, 1) := by decide +kernel
theorem dX10_parting_50 : decode cX10_parting 50 = .ok (.aaload, 1) := by decide +kernel
theorem dX10_parting_51 : decode cX10_parting 51 = .ok (.getfield 272, 3) := by decide +kernel
theorem dX10_parting_54 : decode cX10_parting 54 = .ok (.istore 6, 2) := by decide +kernel
theorem dX10_parting_56 : decode cX10_parting 56 = .ok (.iconst (-1), 1) := by decide +kernel
theorem dX10_parting_57 : decode cX10_parting 57 = .ok (.istore 7, 2) := by decide +kernel
theorem dX10_parting_59 : decode cX10_parting 59 = .ok (.iconst (-1), 1) := by decide +kernel
theorem dX10_parting_60 : decode cX10_parting 60 = .ok (.istore 8, 2) := by decide +kernel
theorem dX10_parting_62 : decode cX10_parting 62 = .ok (.iconst 1, 1) := by decide +kernel
theorem dX10_parting_63 : decode cX10_parting 63 = .ok (.istore 9, 2) := by decide +kernel
theorem dX10_parting_65 : decode cX10_parting 65 = .ok (.iload 9, 2) := by decide +kernel
theorem dX10_parting_67 : decode cX10_parting 67 = .ok (.bipush 20, 2) := by decide +kernel
theorem dX10_parting_69 : decode cX10_parting 69 = .ok (.if_icmp .gt 117, 3) := by decide +kernel
theorem dX10_parting_72 : decode cX10_parting 72 = .ok (.aload_n 0, 1) := by decide +kernel
theorem dX10_parting_73 : decode cX10_parting 73 = .ok (.getfield 20, 3) := by decide +kernel
theorem dX10_parting_76 : decode cX10_parting 76 = .ok (.iload 9, 2) := by decide +kernel
theorem dX10_parting_78 : decode cX10_parting 78 = .ok (.putfield 126, 3) := by decide +kernel
theorem dX10_parting_81 : decode cX10_parting 81 = .ok (.aload_n 0, 1) := by decide +kernel
theorem dX10_parting_82 : decode cX10_parting 82 = .ok (.getfield 20, 3) := by decide +kernel
theorem dX10_parting_85 : decode cX10_parting 85 = .ok (.getfield 109, 3) := by decide +kernel
theorem dX10_parting_88 : decode cX10_parting 88 = .ok (.iconst 0, 1) := by decide +kernel
theorem dX10_parting_89 : decode cX10_parting 89 = .ok (.aaload, 1) := by decide +kernel
theorem dX10_parting_90 : decode cX10_parting 90 = .ok (.iload_n 1, 1) := by decide +kernel
theorem dX10_parting_91 : decode cX10_parting 91 = .ok (.putfield 272, 3) := by decide +kernel
theorem dX10_parting_94 : decode cX10_parting 94 = .ok (.aload_n 0, 1) := by decide +kernel
theorem dX10_parting_95 : decode cX10_parting 95 = .ok (.getfield 10, 3) := by decide +kernel
theorem dX10_parting_98 : decode cX10_parting 98 = .ok (.invokevirtual 98, 3) := by decide +kernel
theorem dX10_parting_101 : decode cX10_parting 101 = .ok (.aload_n 0, 1) := by decide +kernel
theorem dX10_parting_102 : decode cX10_parting 102 = .ok (.getfield 10, 3) := by decide +kernel
theorem dX10_parting_105 : decode cX10_parting 105 = .ok (.aload_n 0, 1) := by decide +kernel
theorem dX10_parting_106 : decode cX10_parting 106 = .ok (.getfield 50, 3) := by decide +kernel
theorem dX10_parting_109 : decode cX10_parting 109 = .ok (.iload_n 3, 1) := by decide +kernel
theorem dX10_parting_110 : decode cX10_parting 110 = .ok (.invokevirtual 180, 3) := by decide +kernel
theorem dX10_parting_113 : decode cX10_parting 113 = .ok (.aload_n 0, 1) := by decide +kernel
theorem dX10_parting_114 : decode cX10_parting 114 = .ok (.iconst 1, 1) := by decide +kernel
theorem dX10_parting_115 : decode cX10_parting 115 = .ok (.aload_n 0, 1) := by decide +kernel
theorem dX10_parting_116 : decode cX10_parting 116 = .ok (.getfield 64, 3) := by decide +kernel
theorem dX10_parting_119 : decode cX10_parting 119 = .ok (.invokevirtual 229, 3) := by decide +kernel
theorem dX10_parting_122 : decode cX10_parting 122 = .ok (.aload_n 0, 1) := by decide +kernel
theorem dX10_parting_123 : decode cX10_parting 123 = .ok (.getfield 20, 3) := by decide +kernel
theorem dX10_parting_126 : decode cX10_parting 126 = .ok (.getfield 109, 3) := by decide +kernel
theorem dX10_parting_129 : decode cX10_parting 129 = .ok (.iconst 0, 1) := by decide +kernel
theorem dX10_parting_130 : decode cX10_parting 130 = .ok (.aaload, 1) := by decide +kernel
theorem dX10_parting_131 : decode cX10_parting 131 = .ok (.iload_n 2, 1) := by decide +kernel
theorem dX10_parting_132 : decode cX10_parting 132 = .ok (.putfield 272, 3) := by decide +kernel
theorem dX10_parting_135 : decode cX10_parting 135 = .ok (.aload_n 0, 1) := by decide +kernel
theorem dX10_parting_136 : decode cX10_parting 136 = .ok (.getfield 10, 3) := by decide +kernel
theorem dX10_parting_139 : decode cX10_parting 139 = .ok (.invokevirtual 98, 3) := by decide +kernel
theorem dX10_parting_142 : decode cX10_parting 142 = .ok (.aload_n 0, 1) := by decide +kernel
theorem dX10_parting_143 : decode cX10_parting 143 = .ok (.getfield 10, 3) := by decide +kernel
theorem dX10_parting_146 : decode cX10_parting 146 = .ok (.aload_n 0, 1) := by decide +kernel
theorem dX10_parting_147 : decode cX10_parting 147 = .ok (.getfield 50, 3) := by decide +kernel
theorem dX10_parting_150 : decode cX10_parting 150 = .ok (.iload_n 3, 1) := by decide +kernel
theorem dX10_parting_151 : decode cX10_parting 151 = .ok (.invokevirtual 180, 3) := by decide +kernel
theorem dX10_parting_154 : decode cX10_parting 154 = .ok (.aload_n 0, 1) := by decide +kernel
theorem dX10_parting_155 : decode cX10_parting 155 = .ok (.aload_n 0, 1) := by decide +kernel
theorem dX10_parting_156 : decode cX10_parting 156 = .ok (.getfield 64, 3) := by decide +kernel
theorem dX10_parting_159 : decode cX10_parting 159 = .ok (.iconst 1, 1) := by decide +kernel
theorem dX10_parting_160 : decode cX10_parting 160 = .ok (.invokevirtual 239, 3) := by decide +kernel
theorem dX10_parting_163 : decode cX10_parting 163 = .ok (.istore 10, 2) := by decide +kernel
theorem dX10_parting_165 : decode cX10_parting 165 = .ok (.iload 10, 2) := by decide +kernel
theorem dX10_parting_167 : decode cX10_parting 167 = .ok (.iload 8, 2) := by decide +kernel
theorem dX10_parting_169 : decode cX10_parting 169 = .ok (.if_icmp .le 11, 3) := by decide +kernel
theorem dX10_parting_172 : decode cX10_parting 172 = .ok (.iload 10, 2) := by decide +kernel
theorem dX10_parting_174 : decode cX10_parting 174 = .ok (.istore 8, 2) := by decide +kernel
theorem dX10_parting_176 : decode cX10_parting 176 = .ok (.iload 9, 2) := by decide +kernel
theorem dX10_parting_178 : decode cX10_parting 178 = .ok (.istore 7, 2) := by decide +kernel
theorem dX10_parting_180 : decode cX10_parting 180 = .ok (.iinc 9 1, 3) := by decide +kernel
theorem dX10_parting_183 : decode cX10_parting 183 = .ok (.goto (-118), 3) := by decide +kernel
theorem dX10_parting_186 : decode cX10_parting 186 = .ok (.aload_n 0, 1) := by decide +kernel
theorem dX10_parting_187 : decode cX10_parting 187 = .ok (.getfield 20, 3) := by decide +kernel
theorem dX10_parting_190 : decode cX10_parting 190 = .ok (.iload 5, 2) := by decide +kernel
theorem dX10_parting_192 : decode cX10_parting 192 = .ok (.putfield 126, 3) := by decide +kernel
theorem dX10_parting_195 : decode cX10_parting 195 = .ok (.aload_n 0, 1) := by decide +kernel
theorem dX10_parting_196 : decode cX10_parting 196 = .ok (.getfield 20, 3) := by decide +kernel
theorem dX10_parting_199 : decode cX10_parting 199 = .ok (.getfield 109, 3) := by decide +kernel
theorem dX10_parting_202 : decode cX10_parting 202 = .ok (.iconst 0, 1) := by decide +kernel
theorem dX10_parting_203 : decode cX10_parting 203 = .ok (.aaload, 1) := by decide +kernel
theorem dX10_parting_204 : decode cX10_parting 204 = .ok (.iload 6, 2) := by decide +kernel
theorem dX10_parting_206 : decode cX10_parting 206 = .ok (.putfield 272, 3) := by decide +kernel
theorem dX10_parting_209 : decode cX10_parting 209 = .ok (.aload_n 0, 1) := by decide +kernel
theorem dX10_parting_210 : decode cX10_parting 210 = .ok (.getfield 10, 3) := by decide +kernel
theorem dX10_parting_213 : decode cX10_parting 213 = .ok (.invokevirtual 98, 3) := by decide +kernel
theorem dX10_parting_216 : decode cX10_parting 216 = .ok (.iload 4, 2) := by decide +kernel
theorem dX10_parting_218 : decode cX10_parting 218 = .ok (.ifCond .ne 8, 3) := by decide +kernel
theorem dX10_parting_221 : decode cX10_parting 221 = .ok (.iload 7, 2) := by decide +kernel
theorem dX10_parting_223 : decode cX10_parting 223 = .ok (.goto 5, 3) := by decide +kernel
theorem dX10_parting_226 : decode cX10_parting 226 = .ok (.iload 8, 2) := by decide +kernel
theorem dX10_parting_228 : decode cX10_parting 228 = .ok (.ireturn, 1) := by decide +kernel
theorem dX10_image_0 : decode cX10_image 0 = .ok (.aload_n 0, 1) := by decide +kernel
theorem dX10_image_1 : decode cX10_image 1 = .ok (.getfield 24, 3) := by decide +kernel
theorem dX10_image_4 : decode cX10_image 4 = .ok (.aload_n 0, 1) := by decide +kernel
theorem dX10_image_5 : decode cX10_image 5 = .ok (.getfield 20, 3) := by decide +kernel
theorem dX10_image_8 : decode cX10_image 8 = .ok (.invokevirtual 275, 3) := by decide +kernel
theorem dX10_image_11 : decode cX10_image 11 = .ok (.aload_n 0, 1) := by decide +kernel
theorem dX10_image_12 : decode cX10_image 12 = .ok (.getfield 20, 3) := by decide +kernel
theorem dX10_image_15 : decode cX10_image 15 = .ok (.getfield 145, 3) := by decide +kernel
theorem dX10_image_18 : decode cX10_image 18 = .ok (.ireturn, 1) := by decide +kernel
theorem dX10_back_0 : decode cX10_back 0 = .ok (.aload_n 0, 1) := by decide +kernel
theorem dX10_back_1 : decode cX10_back 1 = .ok (.getfield 20, 3) := by decide +kernel
theorem dX10_back_4 : decode cX10_back 4 = .ok (.aload_n 0, 1) := by decide +kernel
theorem dX10_back_5 : decode cX10_back 5 = .ok (.getfield 24, 3) := by decide +kernel
theorem dX10_back_8 : decode cX10_back 8 = .ok (.invokevirtual 275, 3) := by decide +kernel
theorem dX10_back_11 : decode cX10_back 11 = .ok (.aload_n 0, 1) := by decide +kernel
theorem dX10_back_12 : decode cX10_back 12 = .ok (.getfield 10, 3) := by decide +kernel
theorem dX10_back_15 : decode cX10_back 15 = .ok (.invokevirtual 98, 3) := by decide +kernel
theorem dX10_back_18 : decode cX10_back 18 = .ok (.aload_n 0, 1) := by decide +kernel
theorem dX10_back_19 : decode cX10_back 19 = .ok (.getfield 20, 3) := by decide +kernel
theorem dX10_back_22 : decode cX10_back 22 = .ok (.getfield 145, 3) := by decide +kernel
theorem dX10_back_25 : decode cX10_back 25 = .ok (.ireturn, 1) := by decide +kernel
theorem dX10_about_0 : decode cX10_about 0 = .ok (.iload_n 1, 1) := by decide +kernel
theorem dX10_about_1 : decode cX10_about 1 = .ok (.tableswitch 108 0 7 #[47, 55, 63, 71, 79, 87, 95, 103], 47) := by decide +kernel
theorem dX10_about_48 : decode cX10_about 48 = .ok (.aload_n 0, 1) := by decide +kernel
theorem dX10_about_49 : decode cX10_about 49 = .ok (.getfield 20, 3) := by decide +kernel
theorem dX10_about_52 : decode cX10_about 52 = .ok (.getfield 145, 3) := by decide +kernel
theorem dX10_about_55 : decode cX10_about 55 = .ok (.ireturn, 1) := by decide +kernel
theorem dX10_about_56 : decode cX10_about 56 = .ok (.aload_n 0, 1) := by decide +kernel
theorem dX10_about_57 : decode cX10_about 57 = .ok (.getfield 20, 3) := by decide +kernel
theorem dX10_about_60 : decode cX10_about 60 = .ok (.getfield 162, 3) := by decide +kernel
theorem dX10_about_63 : decode cX10_about 63 = .ok (.ireturn, 1) := by decide +kernel
theorem dX10_about_64 : decode cX10_about 64 = .ok (.aload_n 0, 1) := by decide +kernel
theorem dX10_about_65 : decode cX10_about 65 = .ok (.getfield 20, 3) := by decide +kernel
theorem dX10_about_68 : decode cX10_about 68 = .ok (.getfield 126, 3) := by decide +kernel
theorem dX10_about_71 : decode cX10_about 71 = .ok (.ireturn, 1) := by decide +kernel
theorem dX10_about_72 : decode cX10_about 72 = .ok (.aload_n 0, 1) := by decide +kernel
theorem dX10_about_73 : decode cX10_about 73 = .ok (.getfield 20, 3) := by decide +kernel
theorem dX10_about_76 : decode cX10_about 76 = .ok (.getfield 129, 3) := by decide +kernel
theorem dX10_about_79 : decode cX10_about 79 = .ok (.ireturn, 1) := by decide +kernel
theorem dX10_about_80 : decode cX10_about 80 = .ok (.aload_n 0, 1) := by decide +kernel
theorem dX10_about_81 : decode cX10_about 81 = .ok (.getfield 20, 3) := by decide +kernel
theorem dX10_about_84 : decode cX10_about 84 = .ok (.getfield 132, 3) := by decide +kernel
theorem dX10_about_87 : decode cX10_about 87 = .ok (.ireturn, 1) := by decide +kernel
theorem dX10_about_88 : decode cX10_about 88 = .ok (.aload_n 0, 1) := by decide +kernel
theorem dX10_about_89 : decode cX10_about 89 = .ok (.getfield 20, 3) := by decide +kernel
theorem dX10_about_92 : decode cX10_about 92 = .ok (.getfield 135, 3) := by decide +kernel
theorem dX10_about_95 : decode cX10_about 95 = .ok (.ireturn, 1) := by decide +kernel
theorem dX10_about_96 : decode cX10_about 96 = .ok (.aload_n 0, 1) := by decide +kernel
theorem dX10_about_97 : decode cX10_about 97 = .ok (.getfield 20, 3) := by decide +kernel
theorem dX10_about_100 : decode cX10_about 100 = .ok (.getfield 138, 3) := by decide +kernel
theorem dX10_about_103 : decode cX10_about 103 = .ok (.ireturn, 1) := by decide +kernel
theorem dX10_about_104 : decode cX10_about 104 = .ok (.aload_n 0, 1) := by decide +kernel
theorem dX10_about_105 : decode cX10_about 105 = .ok (.getfield 67, 3) := by decide +kernel
theorem dX10_about_108 : decode cX10_about 108 = .ok (.ireturn, 1) := by decide +kernel
theorem dX10_about_109 : decode cX10_about 109 = .ok (.aload_n 0, 1) := by decide +kernel
theorem dX10_about_110 : decode cX10_about 110 = .ok (.iload_n 1, 1) := by decide +kernel
theorem dX10_about_111 : decode cX10_about 111 = .ok (.invokevirtual 279, 3) := by decide +kernel
theorem dX10_about_114 : decode cX10_about 114 = .ok (.ireturn, 1) := by decide +kernel
theorem dX10_aboutInputs_0 : decode cX10_aboutInputs 0 = .ok (.iload_n 1, 1) := by decide +kernel
theorem dX10_aboutInputs_1 : decode cX10_aboutInputs 1 = .ok (.bipush 10, 2) := by decide +kernel
theorem dX10_aboutInputs_3 : decode cX10_aboutInputs 3 = .ok (.bipush 11, 2) := by decide +kernel
theorem dX10_aboutInputs_5 : decode cX10_aboutInputs 5 = .ok (.invokestatic 81, 3) := by decide +kernel
theorem dX10_aboutInputs_8 : decode cX10_aboutInputs 8 = .ok (.ifCond .eq 19, 3) := by decide +kernel
theorem dX10_aboutInputs_11 : decode cX10_aboutInputs 11 = .ok (.aload_n 0, 1) := by decide +kernel
theorem dX10_aboutInputs_12 : decode cX10_aboutInputs 12 = .ok (.getfield 20, 3) := by decide +kernel
theorem dX10_aboutInputs_15 : decode cX10_aboutInputs 15 = .ok (.getfield 109, 3) := by decide +kernel
theorem dX10_aboutInputs_18 : decode cX10_aboutInputs 18 = .ok (.iload_n 1, 1) := by decide +kernel
theorem dX10_aboutInputs_19 : decode cX10_aboutInputs 19 = .ok (.bipush 10, 2) := by decide +kernel
theorem dX10_aboutInputs_21 : decode cX10_aboutInputs 21 = .ok (.isub, 1) := by decide +kernel
theorem dX10_aboutInputs_22 : decode cX10_aboutInputs 22 = .ok (.aaload, 1) := by decide +kernel
theorem dX10_aboutInputs_23 : decode cX10_aboutInputs 23 = .ok (.getfield 272, 3) := by decide +kernel
theorem dX10_aboutInputs_26 : decode cX10_aboutInputs 26 = .ok (.ireturn, 1) := by decide +kernel
theorem dX10_aboutInputs_27 : decode cX10_aboutInputs 27 = .ok (.iload_n 1, 1) := by decide +kernel
theorem dX10_aboutInputs_28 : decode cX10_aboutInputs 28 = .ok (.bipush 12, 2) := by decide +kernel
theorem dX10_aboutInputs_30 : decode cX10_aboutInputs 30 = .ok (.bipush 13, 2) := by decide +kernel
theorem dX10_aboutInputs_32 : decode cX10_aboutInputs 32 = .ok (.invokestatic 81, 3) := by decide +kernel
theorem dX10_aboutInputs_35 : decode cX10_aboutInputs 35 = .ok (.ifCond .eq 19, 3) := by decide +kernel
theorem dX10_aboutInputs_38 : decode cX10_aboutInputs 38 = .ok (.aload_n 0, 1) := by decide +kernel
theorem dX10_aboutInputs_39 : decode cX10_aboutInputs 39 = .ok (.getfield 20, 3) := by decide +kernel
theorem dX10_aboutInputs_42 : decode cX10_aboutInputs 42 = .ok (.getfield 109, 3) := by decide +kernel
theorem dX10_aboutInputs_45 : decode cX10_aboutInputs 45 = .ok (.iload_n 1, 1) := by decide +kernel
theorem dX10_aboutInputs_46 : decode cX10_aboutInputs 46 = .ok (.bipush 12, 2) := by decide +kernel
theorem dX10_aboutInputs_48 : decode cX10_aboutInputs 48 = .ok (.isub, 1) := by decide +kernel
theorem dX10_aboutInputs_49 : decode cX10_aboutInputs 49 = .ok (.aaload, 1) := by decide +kernel
theorem dX10_aboutInputs_50 : decode cX10_aboutInputs 50 = .ok (.getfield 233, 3) := by decide +kernel
theorem dX10_aboutInputs_53 : decode cX10_aboutInputs 53 = .ok (.ireturn, 1) := by decide +kernel
theorem dX10_aboutInputs_54 : decode cX10_aboutInputs 54 = .ok (.iload_n 1, 1) := by decide +kernel
theorem dX10_aboutInputs_55 : decode cX10_aboutInputs 55 = .ok (.bipush 14, 2) := by decide +kernel
theorem dX10_aboutInputs_57 : decode cX10_aboutInputs 57 = .ok (.bipush 15, 2) := by decide +kernel
theorem dX10_aboutInputs_59 : decode cX10_aboutInputs 59 = .ok (.invokestatic 81, 3) := by decide +kernel
theorem dX10_aboutInputs_62 : decode cX10_aboutInputs 62 = .ok (.ifCond .eq 19, 3) := by decide +kernel
theorem dX10_aboutInputs_65 : decode cX10_aboutInputs 65 = .ok (.aload_n 0, 1) := by decide +kernel
theorem dX10_aboutInputs_66 : decode cX10_aboutInputs 66 = .ok (.getfield 20, 3) := by decide +kernel
theorem dX10_aboutInputs_69 : decode cX10_aboutInputs 69 = .ok (.getfield 109, 3) := by decide +kernel
theorem dX10_aboutInputs_72 : decode cX10_aboutInputs 72 = .ok (.iload_n 1, 1) := by decide +kernel
theorem dX10_aboutInputs_73 : decode cX10_aboutInputs 73 = .ok (.bipush 14, 2) := by decide +kernel
theorem dX10_aboutInputs_75 : decode cX10_aboutInputs 75 = .ok (.isub, 1) := by decide +kernel
theorem dX10_aboutInputs_76 : decode cX10_aboutInputs 76 = .ok (.aaload, 1) := by decide +kernel
theorem dX10_aboutInputs_77 : decode cX10_aboutInputs 77 = .ok (.getfield 282, 3) := by decide +kernel
theorem dX10_aboutInputs_80 : decode cX10_aboutInputs 80 = .ok (.ireturn, 1) := by decide +kernel
theorem dX10_aboutInputs_81 : decode cX10_aboutInputs 81 = .ok (.iload_n 1, 1) := by decide +kernel
theorem dX10_aboutInputs_82 : decode cX10_aboutInputs 82 = .ok (.bipush 20, 2) := by decide +kernel
theorem dX10_aboutInputs_84 : decode cX10_aboutInputs 84 = .ok (.bipush 23, 2) := by decide +kernel
theorem dX10_aboutInputs_86 : decode cX10_aboutInputs 86 = .ok (.invokestatic 81, 3) := by decide +kernel
theorem dX10_aboutInputs_89 : decode cX10_aboutInputs 89 = .ok (.ifCond .eq 21, 3) := by decide +kernel
theorem dX10_aboutInputs_92 : decode cX10_aboutInputs 92 = .ok (.aload_n 0, 1) := by decide +kernel
theorem dX10_aboutInputs_93 : decode cX10_aboutInputs 93 = .ok (.getfield 20, 3) := by decide +kernel
theorem dX10_aboutInputs_96 : decode cX10_aboutInputs 96 = .ok (.getfield 85, 3) := by decide +kernel
theorem dX10_aboutInputs_99 : decode cX10_aboutInputs 99 = .ok (.iload_n 1, 1) := by decide +kernel
theorem dX10_aboutInputs_100 : decode cX10_aboutInputs 100 = .ok (.bipush 20, 2) := by decide +kernel
theorem dX10_aboutInputs_102 : decode cX10_aboutInputs 102 = .ok (.isub, 1) := by decide +kernel
theorem dX10_aboutInputs_103 : decode cX10_aboutInputs 103 = .ok (.aaload, 1) := by decide +kernel
theorem dX10_aboutInputs_104 : decode cX10_aboutInputs 104 = .ok (.getfield 89, 3) := by decide +kernel
theorem dX10_aboutInputs_107 : decode cX10_aboutInputs 107 = .ok (.goto 4, 3) := by decide +kernel
theorem dX10_aboutInputs_110 : decode cX10_aboutInputs 110 = .ok (.iconst (-1), 1) := by decide +kernel
theorem dX10_aboutInputs_111 : decode cX10_aboutInputs 111 = .ok (.ireturn, 1) := by decide +kernel
theorem dX10_within_0 : decode cX10_within 0 = .ok (.iload_n 1, 1) := by decide +kernel
theorem dX10_within_1 : decode cX10_within 1 = .ok (.iload_n 0, 1) := by decide +kernel
theorem dX10_within_2 : decode cX10_within 2 = .ok (.if_icmp .gt 12, 3) := by decide +kernel
theorem dX10_within_5 : decode cX10_within 5 = .ok (.iload_n 0, 1) := by decide +kernel
theorem dX10_within_6 : decode cX10_within 6 = .ok (.iload_n 2, 1) := by decide +kernel
theorem dX10_within_7 : decode cX10_within 7 = .ok (.if_icmp .gt 7, 3) := by decide +kernel
theorem dX10_within_10 : decode cX10_within 10 = .ok (.iconst 1, 1) := by decide +kernel
theorem dX10_within_11 : decode cX10_within 11 = .ok (.goto 4, 3) := by decide +kernel
theorem dX10_within_14 : decode cX10_within 14 = .ok (.iconst 0, 1) := by decide +kernel
theorem dX10_within_15 : decode cX10_within 15 = .ok (.ireturn, 1) := by decide +kernel
theorem dX10_isSignal_0 : decode cX10_isSignal 0 = .ok (.iload_n 0, 1) := by decide +kernel
theorem dX10_isSignal_1 : decode cX10_isSignal 1 = .ok (.iconst 0, 1) := by decide +kernel
theorem dX10_isSignal_2 : decode cX10_isSignal 2 = .ok (.iconst 3, 1) := by decide +kernel
theorem dX10_isSignal_3 : decode cX10_isSignal 3 = .ok (.invokestatic 81, 3) := by decide +kernel
theorem dX10_isSignal_6 : decode cX10_isSignal 6 = .ok (.ireturn, 1) := by decide +kernel
theorem dX10_isChannel_0 : decode cX10_isChannel 0 = .ok (.iload_n 0, 1) := by decide +kernel
theorem dX10_isChannel_1 : decode cX10_isChannel 1 = .ok (.iconst 0, 1) := by decide +kernel
theorem dX10_isChannel_2 : decode cX10_isChannel 2 = .ok (.iconst 1, 1) := by decide +kernel
theorem dX10_isChannel_3 : decode cX10_isChannel 3 = .ok (.invokestatic 81, 3) := by decide +kernel
theorem dX10_isChannel_6 : decode cX10_isChannel 6 = .ok (.ireturn, 1) := by decide +kernel
theorem dX10_isSpan_0 : decode cX10_isSpan 0 = .ok (.iload_n 0, 1) := by decide +kernel
theorem dX10_isSpan_1 : decode cX10_isSpan 1 = .ok (.iconst 1, 1) := by decide +kernel
theorem dX10_isSpan_2 : decode cX10_isSpan 2 = .ok (.sipush 2000, 3) := by decide +kernel
theorem dX10_isSpan_5 : decode cX10_isSpan 5 = .ok (.invokestatic 81, 3) := by decide +kernel
theorem dX10_isSpan_8 : decode cX10_isSpan 8 = .ok (.ireturn, 1) := by decide +kernel
theorem dX11_init_0 : decode cX11_init 0 = .ok (.aload_n 0, 1) := by decide +kernel
theorem dX11_init_1 : decode cX11_init 1 = .ok (.invokespecial 1, 3) := by decide +kernel
theorem dX11_init_4 : decode cX11_init 4 = .ok (.aload_n 0, 1) := by decide +kernel
theorem dX11_init_5 : decode cX11_init 5 = .ok (.sipush 170, 3) := by decide +kernel
theorem dX11_init_8 : decode cX11_init 8 = .ok (.newarray .int, 2) := by decide +kernel
theorem dX11_init_10 : decode cX11_init 10 = .ok (.putfield 7, 3) := by decide +kernel
theorem dX11_init_13 : decode cX11_init 13 = .ok (.aload_n 0, 1) := by decide +kernel
theorem dX11_init_14 : decode cX11_init 14 = .ok (.sipush 170, 3) := by decide +kernel
theorem dX11_init_17 : decode cX11_init 17 = .ok (.newarray .int, 2) := by decide +kernel
theorem dX11_init_19 : decode cX11_init 19 = .ok (.putfield 13, 3) := by decide +kernel
theorem dX11_init_22 : decode cX11_init 22 = .ok (.aload_n 0, 1) := by decide +kernel
theorem dX11_init_23 : decode cX11_init 23 = .ok (.sipush 300, 3) := by decide +kernel
theorem dX11_init_26 : decode cX11_init 26 = .ok (.newarray .byte, 2) := by decide +kernel
theorem dX11_init_28 : decode cX11_init 28 = .ok (.putfield 16, 3) := by decide +kernel
theorem dX11_init_31 : decode cX11_init 31 = .ok (.aload_n 0, 1) := by decide +kernel
theorem dX11_init_32 : decode cX11_init 32 = .ok (.iconst (-1), 1) := by decide +kernel
theorem dX11_init_33 : decode cX11_init 33 = .ok (.putfield 20, 3) := by decide +kernel
theorem dX11_init_36 : decode cX11_init 36 = .ok (.aload_n 0, 1) := by decide +kernel
theorem dX11_init_37 : decode cX11_init 37 = .ok (.iconst (-1), 1) := by decide +kernel
theorem dX11_init_38 : decode cX11_init 38 = .ok (.putfield 24, 3) := by decide +kernel
theorem dX11_init_41 : decode cX11_init 41 = .ok (.aload_n 0, 1) := by decide +kernel
theorem dX11_init_42 : decode cX11_init 42 = .ok (.iconst 4, 1) := by decide +kernel
theorem dX11_init_43 : decode cX11_init 43 = .ok (.newarray .int, 2) := by decide +kernel
theorem dX11_init_45 : decode cX11_init 45 = .ok (.putfield 27, 3) := by decide +kernel
theorem dX11_init_48 : decode cX11_init 48 = .ok (.aload_n 0, 1) := by decide +kernel
theorem dX11_init_49 : decode cX11_init 49 = .ok (.bipush 40, 2) := by decide +kernel
theorem dX11_init_51 : decode cX11_init 51 = .ok (.newarray .int, 2) := by decide +kernel
theorem dX11_init_53 : decode cX11_init 53 = .ok (.putfield 30, 3) := by decide +kernel
theorem dX11_init_56 : decode cX11_init 56 = .ok (.aload_n 0, 1) := by decide +kernel
theorem dX11_init_57 : decode cX11_init 57 = .ok (.bipush 40, 2) := by decide +kernel
theorem dX11_init_59 : decode cX11_init 59 = .ok (.newarray .int, 2) := by decide +kernel
theorem dX11_init_61 : decode cX11_init 61 = .ok (.putfield 33, 3) := by decide +kernel
theorem dX11_init_64 : decode cX11_init 64 = .ok (.aload_n 0, 1) := by decide +kernel
theorem dX11_init_65 : decode cX11_init 65 = .ok (.sipush 1600, 3) := by decide +kernel
theorem dX11_init_68 : decode cX11_init 68 = .ok (.newarray .int, 2) := by decide +kernel
theorem dX11_init_70 : decode cX11_init 70 = .ok (.putfield 36, 3) := by decide +kernel
theorem dX11_init_73 : decode cX11_init 73 = .ok (.aload_n 0, 1) := by decide +kernel
theorem dX11_init_74 : decode cX11_init 74 = .ok (.sipush 1600, 3) := by decide +kernel
theorem dX11_init_77 : decode cX11_init 77 = .ok (.newarray .int, 2) := by decide +kernel
theorem dX11_init_79 : decode cX11_init 79 = .ok (.putfield 39, 3) := by decide +kernel
theorem dX11_init_82 : decode cX11_init 82 = .ok (.aload_n 0, 1) := by decide +kernel
theorem dX11_init_83 : decode cX11_init 83 = .ok (.sipush 4000, 3) := by decide +kernel
theorem dX11_init_86 : decode cX11_init 86 = .ok (.newarray .int, 2) := by decide +kernel
theorem dX11_init_88 : decode cX11_init 88 = .ok (.putfield 42, 3) := by decide +kernel
theorem dX11_init_91 : decode cX11_init 91 = .ok (.aload_n 0, 1) := by decide +kernel
theorem dX11_init_92 : decode cX11_init 92 = .ok (.bipush 40, 2) := by decide +kernel
theorem dX11_init_94 : decode cX11_init 94 = .ok (.newarray .int, 2) := by decide +kernel
theorem dX11_init_96 : decode cX11_init 96 = .ok (.putfield 45, 3) := by decide +kernel
theorem dX11_init_99 : decode cX11_init 99 = .ok (.aload_n 0, 1) := by decide +kernel
theorem dX11_init_100 : decode cX11_init 100 = .ok (.bipush 41, 2) := by decide +kernel
theorem dX11_init_102 : decode cX11_init 102 = .ok (.newarray .int, 2) := by decide +kernel
theorem dX11_init_104 : decode cX11_init 104 = .ok (.putfield 48, 3) := by decide +kernel
theorem dX11_init_107 : decode cX11_init 107 = .ok (.aload_n 0, 1) := by decide +kernel
theorem dX11_init_108 : decode cX11_init 108 = .ok (.bipush 80, 2) := by decide +kernel
theorem dX11_init_110 : decode cX11_init 110 = .ok (.newarray .int, 2) := by decide +kernel
theorem dX11_init_112 : decode cX11_init 112 = .ok (.putfield 51, 3) := by decide +kernel
theorem dX11_init_115 : decode cX11_init 115 = .ok (.aload_n 0, 1) := by decide +kernel
theorem dX11_init_116 : decode cX11_init 116 = .ok (.bipush 80, 2) := by decide +kernel
theorem dX11_init_118 : decode cX11_init 118 = .ok (.newarray .int, 2) := by decide +kernel
theorem dX11_init_120 : decode cX11_init 120 = .ok (.putfield 54, 3) := by decide +kernel
theorem dX11_init_123 : decode cX11_init 123 = .ok (.aload_n 0, 1) := by decide +kernel
theorem dX11_init_124 : decode cX11_init 124 = .ok (.bipush 10, 2) := by decide +kernel
theorem dX11_init_126 : decode cX11_init 126 = .ok (.newarray .int, 2) := by decide +kernel
theorem dX11_init_128 : decode cX11_init 128 = .ok (.putfield 57, 3) := by decide +kernel
theorem dX11_init_131 : decode cX11_init 131 = .ok (.aload_n 0, 1) := by decide +kernel
theorem dX11_init_132 : decode cX11_init 132 = .ok (.bipush 10, 2) := by decide +kernel
theorem dX11_init_134 : decode cX11_init 134 = .ok (.newarray .int, 2) := by decide +kernel
theorem dX11_init_136 : decode cX11_init 136 = .ok (.putfield 60, 3) := by decide +kernel
theorem dX11_init_139 : decode cX11_init 139 = .ok (.aload_n 0, 1) := by decide +kernel
theorem dX11_init_140 : decode cX11_init 140 = .ok (.sipush 400, 3) := by decide +kernel
theorem dX11_init_143 : decode cX11_init 143 = .ok (.newarray .int, 2) := by decide +kernel
theorem dX11_init_145 : decode cX11_init 145 = .ok (.putfield 63, 3) := by decide +kernel
theorem dX11_init_148 : decode cX11_init 148 = .ok (.aload_n 0, 1) := by decide +kernel
theorem dX11_init_149 : decode cX11_init 149 = .ok (.sipush 400, 3) := by decide +kernel
theorem dX11_init_152 : decode cX11_init 152 = .ok (.newarray .int, 2) := by decide +kernel
theorem dX11_init_154 : decode cX11_init 154 = .ok (.putfield 66, 3) := by decide +kernel
theorem dX11_init_157 : decode cX11_init 157 = .ok (.aload_n 0, 1) := by decide +kernel
theorem dX11_init_158 : decode cX11_init 158 = .ok (.bipush 7, 2) := by decide +kernel
theorem dX11_init_160 : decode cX11_init 160 = .ok (.newarray .int, 2) := by decide +kernel
theorem dX11_init_162 : decode cX11_init 162 = .ok (.putfield 69, 3) := by decide +kernel
theorem dX11_init_165 : decode cX11_init 165 = .ok (.aload_n 0, 1) := by decide +kernel
theorem dX11_init_166 : decode cX11_init 166 = .ok (.sipush 200, 3) := by decide +kernel
theorem dX11_init_169 : decode cX11_init 169 = .ok (.newarray .long, 2) := by decide +kernel
theorem dX11_init_171 : decode cX11_init 171 = .ok (.putfield 72, 3) := by decide +kernel
theorem dX11_init_174 : decode cX11_init 174 = .ok (.aload_n 0, 1) := by decide +kernel
theorem dX11_init_175 : decode cX11_init 175 = .ok (.bipush 120, 2) := by decide +kernel
theorem dX11_init_177 : decode cX11_init 177 = .ok (.newarray .int, 2) := by decide +kernel
theorem dX11_init_179 : decode cX11_init 179 = .ok (.putfield 76, 3) := by decide +kernel
theorem dX11_init_182 : decode cX11_init 182 = .ok (.aload_n 0, 1) := by decide +kernel
theorem dX11_init_183 : decode cX11_init 183 = .ok (.sipush 320, 3) := by decide +kernel
theorem dX11_init_186 : decode cX11_init 186 = .ok (.newarray .int, 2) := by decide +kernel
theorem dX11_init_188 : decode cX11_init 188 = .ok (.putfield 79, 3) := by decide +kernel
theorem dX11_init_191 : decode cX11_init 191 = .ok (.aload_n 0, 1) := by decide +kernel
theorem dX11_init_192 : decode cX11_init 192 = .ok (.bipush 20, 2) := by decide +kernel
theorem dX11_init_194 : decode cX11_init 194 = .ok (.newarray .int, 2) := by decide +kernel
theorem dX11_init_196 : decode cX11_init 196 = .ok (.putfield 82, 3) := by decide +kernel
theorem dX11_init_199 : decode cX11_init 199 = .ok (.aload_n 0, 1) := by decide +kernel
theorem dX11_init_200 : decode cX11_init 200 = .ok (.sipush 320, 3) := by decide +kernel
theorem dX11_init_203 : decode cX11_init 203 = .ok (.newarray .boolean, 2) := by decide +kernel
theorem dX11_init_205 : decode cX11_init 205 = .ok (.putfield 85, 3) := by decide +kernel
theorem dX11_init_208 : decode cX11_init 208 = .ok (.aload_n 0, 1) := by decide +kernel
theorem dX11_init_209 : decode cX11_init 209 = .ok (.getfield 7, 3) := by decide +kernel
theorem dX11_init_212 : decode cX11_init 212 = .ok (.iconst 1, 1) := by decide +kernel
theorem dX11_init_213 : decode cX11_init 213 = .ok (.iconst (-1), 1) := by decide +kernel
theorem dX11_init_214 : decode cX11_init 214 = .ok (.iastore, 1) := by decide +kernel
theorem dX11_init_215 : decode cX11_init 215 = .ok (.aload_n 0, 1) := by decide +kernel
theorem dX11_init_216 : decode cX11_init 216 = .ok (.getfield 7, 3) := by decide +kernel
theorem dX11_init_219 : decode cX11_init 219 = .ok (.iconst 2, 1) := by decide +kernel
theorem dX11_init_220 : decode cX11_init 220 = .ok (.bipush 10, 2) := by decide +kernel
theorem dX11_init_222 : decode cX11_init 222 = .ok (.iastore, 1) := by decide +kernel
theorem dX11_init_223 : decode cX11_init 223 = .ok (.aload_n 0, 1) := by decide +kernel
theorem dX11_init_224 : decode cX11_init 224 = .ok (.getfield 7, 3) := by decide +kernel
theorem dX11_init_227 : decode cX11_init 227 = .ok (.iconst 4, 1) := by decide +kernel
theorem dX11_init_228 : decode cX11_init 228 = .ok (.bipush 16, 2) := by decide +kernel
theorem dX11_init_230 : decode cX11_init 230 = .ok (.iastore, 1) := by decide +kernel
theorem dX11_init_231 : decode cX11_init 231 = .ok (.aload_n 0, 1) := by decide +kernel
theorem dX11_init_232 : decode cX11_init 232 = .ok (.getfield 7, 3) := by decide +kernel
theorem dX11_init_235 : decode cX11_init 235 = .ok (.bipush 6, 2) := by decide +kernel
theorem dX11_init_237 : decode cX11_init 237 = .ok (.iconst 1, 1) := by decide +kernel
theorem dX11_init_238 : decode cX11_init 238 = .ok (.iastore, 1) := by decide +kernel
theorem dX11_init_239 : decode cX11_init 239 = .ok (.iconst 0, 1) := by decide +kernel
theorem dX11_init_240 : decode cX11_init 240 = .ok (.istore_n 1, 1) := by decide +kernel
theorem dX11_init_241 : decode cX11_init 241 = .ok (.iload_n 1, 1) := by decide +kernel
theorem dX11_init_242 : decode cX11_init 242 = .ok (.iconst 2, 1) := by decide +kernel
theorem dX11_init_243 : decode cX11_init 243 = .ok (.if_icmp .ge 61, 3) := by decide +kernel
theorem dX11_init_246 : decode cX11_init 246 = .ok (.aload_n 0, 1) := by decide +kernel
theorem dX11_init_247 : decode cX11_init 247 = .ok (.getfield 7, 3) := by decide +kernel
theorem dX11_init_250 : decode cX11_init 250 = .ok (.bipush 10, 2) := by decide +kernel
theorem dX11_init_252 : decode cX11_init 252 = .ok (.iload_n 1, 1) := by decide +kernel
theorem dX11_init_253 : decode cX11_init 253 = .ok (.iadd, 1) := by decide +kernel
theorem dX11_init_254 : decode cX11_init 254 = .ok (.iload_n 1, 1) := by decide +kernel
theorem dX11_init_255 : decode cX11_init 255 = .ok (.iastore, 1) := by decide +kernel
theorem dX11_init_256 : decode cX11_init 256 = .ok (.aload_n 0, 1) := by decide +kernel
theorem dX11_init_257 : decode cX11_init 257 = .ok (.getfield 7, 3) := by decide +kernel
theorem dX11_init_260 : decode cX11_init 260 = .ok (.bipush 12, 2) := by decide +kernel
theorem dX11_init_262 : decode cX11_init 262 = .ok (.iload_n 1, 1) := by decide +kernel
theorem dX11_init_263 : decode cX11_init 263 = .ok (.iadd, 1) := by decide +kernel
theorem dX11_init_264 : decode cX11_init 264 = .ok (.bipush 10, 2) := by decide +kernel
theorem dX11_init_266 : decode cX11_init 266 = .ok (.iastore, 1) := by decide +kernel
theorem dX11_init_267 : decode cX11_init 267 = .ok (.aload_n 0, 1) := by decide +kernel
theorem dX11_init_268 : decode cX11_init 268 = .ok (.getfield 7, 3) := by decide +kernel
theorem dX11_init_271 : decode cX11_init 271 = .ok (.bipush 16, 2) := by decide +kernel
theorem dX11_init_273 : decode cX11_init 273 = .ok (.iload_n 1, 1) := by decide +kernel
theorem dX11_init_274 : decode cX11_init 274 = .ok (.iadd, 1) := by decide +kernel
theorem dX11_init_275 : decode cX11_init 275 = .ok (.iconst 1, 1) := by decide +kernel
theorem dX11_init_276 : decode cX11_init 276 = .ok (.iastore, 1) := by decide +kernel
theorem dX11_init_277 : decode cX11_init 277 = .ok (.aload_n 0, 1) := by decide +kernel
theorem dX11_init_278 : decode cX11_init 278 = .ok (.getfield 7, 3) := by decide +kernel
theorem dX11_init_281 : decode cX11_init 281 = .ok (.bipush 18, 2) := by decide +kernel
theorem dX11_init_283 : decode cX11_init 283 = .ok (.iload_n 1, 1) := by decide +kernel
theorem dX11_init_284 : decode cX11_init 284 = .ok (.iadd, 1) := by decide +kernel
theorem dX11_init_285 : decode cX11_init 285 = .ok (.iconst 1, 1) := by decide +kernel
theorem dX11_init_286 : decode cX11_init 286 = .ok (.iastore, 1) := by decide +kernel
theorem dX11_init_287 : decode cX11_init 287 = .ok (.aload_n 0, 1) := by decide +kernel
theorem dX11_init_288 : decode cX11_init 288 = .ok (.getfield 7, 3) := by decide +kernel
theorem dX11_init_291 : decode cX11_init 291 = .ok (.bipush 20, 2) := by decide +kernel
theorem dX11_init_293 : decode cX11_init 293 = .ok (.iload_n 1, 1) := by decide +kernel
theorem dX11_init_294 : decode cX11_init 294 = .ok (.iadd, 1) := by decide +kernel
theorem dX11_init_295 : decode cX11_init 295 = .ok (.bipush 16, 2) := by decide +kernel
theorem dX11_init_297 : decode cX11_init 297 = .ok (.iastore, 1) := by decide +kernel
theorem dX11_init_298 : decode cX11_init 298 = .ok (.iinc 1 1, 3) := by decide +kernel
theorem dX11_init_301 : decode cX11_init 301 = .ok (.goto (-60), 3) := by decide +kernel
theorem dX11_init_304 : decode cX11_init 304 = .ok (.aload_n 0, 1) := by decide +kernel
theorem dX11_init_305 : decode cX11_init 305 = .ok (.iconst 1, 1) := by decide +kernel
theorem dX11_init_306 : decode cX11_init 306 = .ok (.invokevirtual 89, 3) := by decide +kernel
theorem dX11_init_309 : decode cX11_init 309 = .ok (.return_, 1) := by decide +kernel
theorem dX11_in_0 : decode cX11_in 0 = .ok (.iload_n 0, 1) := by decide +kernel
theorem dX11_in_1 : decode cX11_in 1 = .ok (.iload_n 1, 1) := by decide +kernel
theorem dX11_in_2 : decode cX11_in 2 = .ok (.if_icmp .lt 12, 3) := by decide +kernel
theorem dX11_in_5 : decode cX11_in 5 = .ok (.iload_n 0, 1) := by decide +kernel
theorem dX11_in_6 : decode cX11_in 6 = .ok (.iload_n 2, 1) := by decide +kernel
theorem dX11_in_7 : decode cX11_in 7 = .ok (.if_icmp .gt 7, 3) := by decide +kernel
theorem dX11_in_10 : decode cX11_in 10 = .ok (.iconst 1, 1) := by decide +kernel
theorem dX11_in_11 : decode cX11_in 11 = .ok (.goto 4, 3) := by decide +kernel
theorem dX11_in_14 : decode cX11_in 14 = .ok (.iconst 0, 1) := by decide +kernel
theorem dX11_in_15 : decode cX11_in 15 = .ok (.ireturn, 1) := by decide +kernel
theorem dX11_rest_0 : decode cX11_rest 0 = .ok (.iload_n 0, 1) := by decide +kernel
theorem dX11_rest_1 : decode cX11_rest 1 = .ok (.iload_n 1, 1) := by decide +kernel
theorem dX11_rest_2 : decode cX11_rest 2 = .ok (.irem, 1) := by decide +kernel
theorem dX11_rest_3 : decode cX11_rest 3 = .ok (.istore_n 2, 1) := by decide +kernel
theorem dX11_rest_4 : decode cX11_rest 4 = .ok (.iload_n 2, 1) := by decide +kernel
theorem dX11_rest_5 : decode cX11_rest 5 = .ok (.ifCond .ge 9, 3) := by decide +kernel
theorem dX11_rest_8 : decode cX11_rest 8 = .ok (.iload_n 2, 1) := by decide +kernel
theorem dX11_rest_9 : decode cX11_rest 9 = .ok (.iload_n 1, 1) := by decide +kernel
theorem dX11_rest_10 : decode cX11_rest 10 = .ok (.iadd, 1) := by decide +kernel
theorem dX11_rest_11 : decode cX11_rest 11 = .ok (.goto 4, 3) := by decide +kernel
theorem dX11_rest_14 : decode cX11_rest 14 = .ok (.iload_n 2, 1) := by decide +kernel
theorem dX11_rest_15 : decode cX11_rest 15 = .ok (.ireturn, 1) := by decide +kernel
theorem dX11_down_0 : decode cX11_down 0 = .ok (.iload_n 0, 1) := by decide +kernel
theorem dX11_down_1 : decode cX11_down 1 = .ok (.iload_n 0, 1) := by decide +kernel
theorem dX11_down_2 : decode cX11_down 2 = .ok (.iload_n 1, 1) := by decide +kernel
theorem dX11_down_3 : decode cX11_down 3 = .ok (.invokestatic 93, 3) := by decide +kernel
theorem dX11_down_6 : decode cX11_down 6 = .ok (.isub, 1) := by decide +kernel
theorem dX11_down_7 : decode cX11_down 7 = .ok (.iload_n 1, 1) := by decide +kernel
theorem dX11_down_8 : decode cX11_down 8 = .ok (.idiv, 1) := by decide +kernel
theorem dX11_down_9 : decode cX11_down 9 = .ok (.ireturn, 1) := by decide +kernel
theorem dX11_copies_0 : decode cX11_copies 0 = .ok (.iconst 0, 1) := by decide +kernel
theorem dX11_copies_1 : decode cX11_copies 1 = .ok (.istore_n 2, 1) := by decide +kernel
theorem dX11_copies_2 : decode cX11_copies 2 = .ok (.iload_n 2, 1) := by decide +kernel
theorem dX11_copies_3 : decode cX11_copies 3 = .ok (.sipush 170, 3) := by decide +kernel
theorem dX11_copies_6 : decode cX11_copies 6 = .ok (.if_icmp .ge 40, 3) := by decide +kernel
theorem dX11_copies_9 : decode cX11_copies 9 = .ok (.iload_n 1, 1) := by decide +kernel
theorem dX11_copies_10 : decode cX11_copies 10 = .ok (.ifCond .eq 18, 3) := by decide +kernel
theorem dX11_copies_13 : decode cX11_copies 13 = .ok (.aload_n 0, 1) := by decide +kernel
theorem dX11_copies_14 : decode cX11_copies 14 = .ok (.getfield 13, 3) := by decide +kernel
theorem dX11_copies_17 : decode cX11_copies 17 = .ok (.iload_n 2, 1) := by decide +kernel
theorem dX11_copies_18 : decode cX11_copies 18 = .ok (.aload_n 0, 1) := by decide +kernel
theorem dX11_copies_19 : decode cX11_copies 19 = .ok (.getfield 7, 3) := by decide +kernel
theorem dX11_copies_22 : decode cX11_copies 22 = .ok (.iload_n 2, 1) := by decide +kernel
theorem dX11_copies_23 : decode cX11_copies 23 = .ok (.iaload, 1) := by decide +kernel
theorem dX11_copies_24 : decode cX11_copies 24 = .ok (.iastore, 1) := by decide +kernel
theorem dX11_copies_25 : decode cX11_copies 25 = .ok (.goto 15, 3) := by decide +kernel
theorem dX11_copies_28 : decode cX11_copies 28 = .ok (.aload_n 0, 1) := by decide +kernel
theorem dX11_copies_29 : decode cX11_copies 29 = .ok (.getfield 7, 3) := by decide +kernel
theorem dX11_copies_32 : decode cX11_copies 32 = .ok (.iload_n 2, 1) := by decide +kernel
theorem dX11_copies_33 : decode cX11_copies 33 = .ok (.aload_n 0, 1) := by decide +kernel
theorem dX11_copies_34 : decode cX11_copies 34 = .ok (.getfield 13, 3) := by decide +kernel
theorem dX11_copies_37 : decode cX11_copies 37 = .ok (.iload_n 2, 1) := by decide +kernel
theorem dX11_copies_38 : decode cX11_copies 38 = .ok (.iaload, 1) := by decide +kernel
theorem dX11_copies_39 : decode cX11_copies 39 = .ok (.iastore, 1) := by decide +kernel
theorem dX11_copies_40 : decode cX11_copies 40 = .ok (.iinc 2 1, 3) := by decide +kernel
theorem dX11_copies_43 : decode cX11_copies 43 = .ok (.goto (-41), 3) := by decide +kernel
theorem dX11_copies_46 : decode cX11_copies 46 = .ok (.return_, 1) := by decide +kernel
theorem dX11_isSignal_0 : decode cX11_isSignal 0 = .ok (.iload_n 0, 1) := by decide +kernel
theorem dX11_isSignal_1 : decode cX11_isSignal 1 = .ok (.iconst 0, 1) := by decide +kernel
theorem dX11_isSignal_2 : decode cX11_isSignal 2 = .ok (.iconst 3, 1) := by decide +kernel
theorem dX11_isSignal_3 : decode cX11_isSignal 3 = .ok (.invokestatic 97, 3) := by decide +kernel
theorem dX11_isSignal_6 : decode cX11_isSignal 6 = .ok (.ireturn, 1) := by decide +kernel
theorem dX11_isChannel_0 : decode cX11_isChannel 0 = .ok (.iload_n 0, 1) := by decide +kernel
theorem dX11_isChannel_1 : decode cX11_isChannel 1 = .ok (.iconst 0, 1) := by decide +kernel
theorem dX11_isChannel_2 : decode cX11_isChannel 2 = .ok (.iconst 1, 1) := by decide +kernel
theorem dX11_isChannel_3 : decode cX11_isChannel 3 = .ok (.invokestatic 97, 3) := by decide +kernel
theorem dX11_isChannel_6 : decode cX11_isChannel 6 = .ok (.ireturn, 1) := by decide +kernel
theorem dX11_part_0 : decode cX11_part 0 = .ok (.iload_n 1, 1) := by decide +kernel
theorem dX11_part_1 : decode cX11_part 1 = .ok (.invokestatic 101, 3) := by decide +kernel
theorem dX11_part_4 : decode cX11_part 4 = .ok (.ifCond .eq 65, 3) := by decide +kernel
theorem dX11_part_7 : decode cX11_part 7 = .ok (.iload_n 2, 1) := by decide +kernel
theorem dX11_part_8 : decode cX11_part 8 = .ok (.iconst 0, 1) := by decide +kernel
theorem dX11_part_9 : decode cX11_part 9 = .ok (.iconst 2, 1) := by decide +kernel
theorem dX11_part_10 : decode cX11_part 10 = .ok (.invokestatic 97, 3) := by decide +kernel
theorem dX11_part_13 : decode cX11_part 13 = .ok (.ifCond .eq 56, 3) := by decide +kernel
theorem dX11_part_16 : decode cX11_part 16 = .ok (.iload_n 3, 1) := by decide +kernel
theorem dX11_part_17 : decode cX11_part 17 = .ok (.sipush (-999), 3) := by decide +kernel
theorem dX11_part_20 : decode cX11_part 20 = .ok (.sipush 999, 3) := by decide +kernel
theorem dX11_part_23 : decode cX11_part 23 = .ok (.invokestatic 97, 3) := by decide +kernel
theorem dX11_part_26 : decode cX11_part 26 = .ok (.ifCond .eq 43, 3) := by decide +kernel
theorem dX11_part_29 : decode cX11_part 29 = .ok (.iload 4, 2) := by decide +kernel
theorem dX11_part_31 : decode cX11_part 31 = .ok (.iconst 1, 1) := by decide +kernel
theorem dX11_part_32 : decode cX11_part 32 = .ok (.sipush 500, 3) := by decide +kernel
theorem dX11_part_35 : decode cX11_part 35 = .ok (.invokestatic 97, 3) := by decide +kernel
theorem dX11_part_38 : decode cX11_part 38 = .ok (.ifCond .eq 31, 3) := by decide +kernel
theorem dX11_part_41 : decode cX11_part 41 = .ok (.iload 5, 2) := by decide +kernel
theorem dX11_part_43 : decode cX11_part 43 = .ok (.iconst 0, 1) := by decide +kernel
theorem dX11_part_44 : decode cX11_part 44 = .ok (.sipush 500, 3) := by decide +kernel
theorem dX11_part_47 : decode cX11_part 47 = .ok (.invokestatic 97, 3) := by decide +kernel
theorem dX11_part_50 : decode cX11_part 50 = .ok (.ifCond .eq 19, 3) := by decide +kernel
theorem dX11_part_53 : decode cX11_part 53 = .ok (.iload 6, 2) := by decide +kernel
theorem dX11_part_55 : decode cX11_part 55 = .ok (.iconst 0, 1) := by decide +kernel
theorem dX11_part_56 : decode cX11_part 56 = .ok (.sipush 1999, 3) := by decide +kernel
theorem dX11_part_59 : decode cX11_part 59 = .ok (.invokestatic 97, 3) := by decide +kernel
theorem dX11_part_62 : decode cX11_part 62 = .ok (.ifCond .eq 7, 3) := by decide +kernel
theorem dX11_part_65 : decode cX11_part 65 = .ok (.iconst 1, 1) := by decide +kernel
theorem dX11_part_66 : decode cX11_part 66 = .ok (.goto 4, 3) := by decide +kernel
theorem dX11_part_69 : decode cX11_part 69 = .ok (.iconst 0, 1) := by decide +kernel
theorem dX11_part_70 : decode cX11_part 70 = .ok (.istore 7, 2) := by decide +kernel
theorem dX11_part_72 : decode cX11_part 72 = .ok (.iload 7, 2) := by decide +kernel
theorem dX11_part_74 : decode cX11_part 74 = .ok (.ifCond .eq 17, 3) := by decide +kernel
theorem dX11_part_77 : decode cX11_part 77 = .ok (.aload_n 0, 1) := by decide +kernel
theorem dX11_part_78 : decode cX11_part 78 = .ok (.getfield 7, 3) := by decide +kernel
theorem dX11_part_81 : decode cX11_part 81 = .ok (.bipush 24, 2) := by decide +kernel
theorem dX11_part_83 : decode cX11_part 83 = .ok (.iload_n 1, 1) := by decide +kernel
theorem dX11_part_84 : decode cX11_part 84 = .ok (.iadd, 1) := by decide +kernel
theorem dX11_part_85 : decode cX11_part 85 = .ok (.iaload, 1) := by decide +kernel
theorem dX11_part_86 : decode cX11_part 86 = .ok (.bipush 6, 2) := by decide +kernel
theorem dX11_part_88 : decode cX11_part 88 = .ok (.if_icmp .ne 5, 3) := by decide +kernel
theorem dX11_part_91 : decode cX11_part 91 = .ok (.iconst (-1), 1) := by decide +kernel
theorem dX11_part_92 : decode cX11_part 92 = .ok (.ireturn, 1) := by decide +kernel
theorem dX11_part_93 : decode cX11_part 93 = .ok (.bipush 30, 2) := by decide +kernel
theorem dX11_part_95 : decode cX11_part 95 = .ok (.bipush 30, 2) := by decide +kernel
theorem dX11_part_97 : decode cX11_part 97 = .ok (.iload_n 1, 1) := by decide +kernel
theorem dX11_part_98 : decode cX11_part 98 = .ok (.imul, 1) := by decide +kernel
theorem dX11_part_99 : decode cX11_part 99 = .ok (.iadd, 1) := by decide +kernel
theorem dX11_part_100 : decode cX11_part 100 = .ok (.iconst 5, 1) := by decide +kernel
theorem dX11_part_101 : decode cX11_part 101 = .ok (.aload_n 0, 1) := by decide +kernel
theorem dX11_part_102 : decode cX11_part 102 = .ok (.getfield 7, 3) := by decide +kernel
theorem dX11_part_105 : decode cX11_part 105 = .ok (.bipush 24, 2) := by decide +kernel
theorem dX11_part_107 : decode cX11_part 107 = .ok (.iload_n 1, 1) := by decide +kernel
theorem dX11_part_108 : decode cX11_part 108 = .ok (.iadd, 1) := by decide +kernel
theorem dX11_part_109 : decode cX11_part 109 = .ok (.iaload, 1) := by decide +kernel
theorem dX11_part_110 : decode cX11_part 110 = .ok (.imul, 1) := by decide +kernel
theorem dX11_part_111 : decode cX11_part 111 = .ok (.iadd, 1) := by decide +kernel
theorem dX11_part_112 : decode cX11_part 112 = .ok (.istore 8, 2) := by decide +kernel
theorem dX11_part_114 : decode cX11_part 114 = .ok (.aload_n 0, 1) := by decide +kernel
theorem dX11_part_115 : decode cX11_part 115 = .ok (.getfield 7, 3) := by decide +kernel
theorem dX11_part_118 : decode cX11_part 118 = .ok (.iload 8, 2) := by decide +kernel
theorem dX11_part_120 : decode cX11_part 120 = .ok (.iconst 0, 1) := by decide +kernel
theorem dX11_part_121 : decode cX11_part 121 = .ok (.iadd, 1) := by decide +kernel
theorem dX11_part_122 : decode cX11_part 122 = .ok (.iload_n 2, 1) := by decide +kernel
theorem dX11_part_123 : decode cX11_part 123 = .ok (.iastore, 1) := by decide +kernel
theorem dX11_part_124 : decode cX11_part 124 = .ok (.aload_n 0, 1) := by decide +kernel
theorem dX11_part_125 : decode cX11_part 125 = .ok (.getfield 7, 3) := by decide +kernel
theorem dX11_part_128 : decode cX11_part 128 = .ok (.iload 8, 2) := by decide +kernel
theorem dX11_part_130 : decode cX11_part 130 = .ok (.iconst 1, 1) := by decide +kernel
theorem dX11_part_131 : decode cX11_part 131 = .ok (.iadd, 1) := by decide +kernel
theorem dX11_part_132 : decode cX11_part 132 = .ok (.iload_n 3, 1) := by decide +kernel
theorem dX11_part_133 : decode cX11_part 133 = .ok (.iastore, 1) := by decide +kernel
theorem dX11_part_134 : decode cX11_part 134 = .ok (.aload_n 0, 1) := by decide +kernel
theorem dX11_part_135 : decode cX11_part 135 = .ok (.getfield 7, 3) := by decide +kernel
theorem dX11_part_138 : decode cX11_part 138 = .ok (.iload 8, 2) := by decide +kernel
theorem dX11_part_140 : decode cX11_part 140 = .ok (.iconst 2, 1) := by decide +kernel
theorem dX11_part_141 : decode cX11_part 141 = .ok (.iadd, 1) := by decide +kernel
theorem dX11_part_142 : decode cX11_part 142 = .ok (.iload 4, 2) := by decide +kernel
theorem dX11_part_144 : decode cX11_part 144 = .ok (.iastore, 1) := by decide +kernel
theorem dX11_part_145 : decode cX11_part 145 = .ok (.aload_n 0, 1) := by decide +kernel
theorem dX11_part_146 : decode cX11_part 146 = .ok (.getfield 7, 3) := by decide +kernel
theorem dX11_part_149 : decode cX11_part 149 = .ok (.iload 8, 2) := by decide +kernel
theorem dX11_part_151 : decode cX11_part 151 = .ok (.iconst 3, 1) := by decide +kernel
theorem dX11_part_152 : decode cX11_part 152 = .ok (.iadd, 1) := by decide +kernel
theorem dX11_part_153 : decode cX11_part 153 = .ok (.iload 5, 2) := by decide +kernel
theorem dX11_part_155 : decode cX11_part 155 = .ok (.iastore, 1) := by decide +kernel
theorem dX11_part_156 : decode cX11_part 156 = .ok (.aload_n 0, 1) := by decide +kernel
theorem dX11_part_157 : decode cX11_part 157 = .ok (.getfield 7, 3) := by decide +kernel
theorem dX11_part_160 : decode cX11_part 160 = .ok (.iload 8, 2) := by decide +kernel
theorem dX11_part_162 : decode cX11_part 162 = .ok (.iconst 4, 1) := by decide +kernel
theorem dX11_part_163 : decode cX11_part 163 = .ok (.iadd, 1) := by decide +kernel
theorem dX11_part_164 : decode cX11_part 164 = .ok (.iload 6, 2) := by decide +kernel
theorem dX11_part_166 : decode cX11_part 166 = .ok (.iastore, 1) := by decide +kernel
theorem dX11_part_167 : decode cX11_part 167 = .ok (.aload_n 0, 1) := by decide +kernel
theorem dX11_part_168 : decode cX11_part 168 = .ok (.getfield 7, 3) := by decide +kernel
theorem dX11_part_171 : decode cX11_part 171 = .ok (.bipush 24, 2) := by decide +kernel
theorem dX11_part_173 : decode cX11_part 173 = .ok (.iload_n 1, 1) := by decide +kernel
theorem dX11_part_174 : decode cX11_part 174 = .ok (.iadd, 1) := by decide +kernel
theorem dX11_part_175 : decode cX11_part 175 = .ok (.dup2, 1) := by decide +kernel
theorem dX11_part_176 : decode cX11_part 176 = .ok (.iaload, 1) := by decide +kernel
theorem dX11_part_177 : decode cX11_part 177 = .ok (.iconst 1, 1) := by decide +kernel
theorem dX11_part_178 : decode cX11_part 178 = .ok (.iadd, 1) := by decide +kernel
theorem dX11_part_179 : decode cX11_part 179 = .ok (.iastore, 1) := by decide +kernel
theorem dX11_part_180 : decode cX11_part 180 = .ok (.aload_n 0, 1) := by decide +kernel
theorem dX11_part_181 : decode cX11_part 181 = .ok (.getfield 7, 3) := by decide +kernel
theorem dX11_part_184 : decode cX11_part 184 = .ok (.bipush 24, 2) := by decide +kernel
theorem dX11_part_186 : decode cX11_part 186 = .ok (.iload_n 1, 1) := by decide +kernel
theorem dX11_part_187 : decode cX11_part 187 = .ok (.iadd, 1) := by decide +kernel
theorem dX11_part_188 : decode cX11_part 188 = .ok (.iaload, 1) := by decide +kernel
theorem dX11_part_189 : decode cX11_part 189 = .ok (.ireturn, 1) := by decide +kernel
theorem dX11_clear_0 : decode cX11_clear 0 = .ok (.iload_n 1, 1) := by decide +kernel
theorem dX11_clear_1 : decode cX11_clear 1 = .ok (.invokestatic 101, 3) := by decide +kernel
theorem dX11_clear_4 : decode cX11_clear 4 = .ok (.ifCond .ne 5, 3) := by decide +kernel
theorem dX11_clear_7 : decode cX11_clear 7 = .ok (.iconst (-1), 1) := by decide +kernel
theorem dX11_clear_8 : decode cX11_clear 8 = .ok (.ireturn, 1) := by decide +kernel
theorem dX11_clear_9 : decode cX11_clear 9 = .ok (.aload_n 0, 1) := by decide +kernel
theorem dX11_clear_10 : decode cX11_clear 10 = .ok (.getfield 7, 3) := by decide +kernel
theorem dX11_clear_13 : decode cX11_clear 13 = .ok (.bipush 24, 2) := by decide +kernel
theorem dX11_clear_15 : decode cX11_clear 15 = .ok (.iload_n 1, 1) := by decide +kernel
theorem dX11_clear_16 : decode cX11_clear 16 = .ok (.iadd, 1) := by decide +kernel
theorem dX11_clear_17 : decode cX11_clear 17 = .ok (.iaload, 1) := by decide +kernel
theorem dX11_clear_18 : decode cX11_clear 18 = .ok (.istore_n 2, 1) := by decide +kernel
theorem dX11_clear_19 : decode cX11_clear 19 = .ok (.aload_n 0, 1) := by decide +kernel
theorem dX11_clear_20 : decode cX11_clear 20 = .ok (.getfield 7, 3) := by decide +kernel
theorem dX11_clear_23 : decode cX11_clear 23 = .ok (.bipush 24, 2) := by decide +kernel
theorem dX11_clear_25 : decode cX11_clear 25 = .ok (.iload_n 1, 1) := by decide +kernel
theorem dX11_clear_26 : decode cX11_clear 26 = .ok (.iadd, 1) := by decide +kernel
theorem dX11_clear_27 : decode cX11_clear 27 = .ok (.iconst 0, 1) := by decide +kernel
theorem dX11_clear_28 : decode cX11_clear 28 = .ok (.iastore, 1) := by decide +kernel
theorem dX11_clear_29 : decode cX11_clear 29 = .ok (.iload_n 2, 1) := by decide +kernel
theorem dX11_clear_30 : decode cX11_clear 30 = .ok (.ireturn, 1) := by decide +kernel
theorem dX11_phase_0 : decode cX11_phase 0 = .ok (.iload_n 2, 1) := by decide +kernel
theorem dX11_phase_1 : decode cX11_phase 1 = .ok (.aload_n 0, 1) := by decide +kernel
theorem dX11_phase_2 : decode cX11_phase 2 = .ok (.getfield 7, 3) := by decide +kernel
theorem dX11_phase_5 : decode cX11_phase 5 = .ok (.iload_n 1, 1) := by decide +kernel
theorem dX11_phase_6 : decode cX11_phase 6 = .ok (.iconst 4, 1) := by decide +kernel
theorem dX11_phase_7 : decode cX11_phase 7 = .ok (.iadd, 1) := by decide +kernel
theorem dX11_phase_8 : decode cX11_phase 8 = .ok (.iaload, 1) := by decide +kernel
theorem dX11_phase_9 : decode cX11_phase 9 = .ok (.isub, 1) := by decide +kernel
theorem dX11_phase_10 : decode cX11_phase 10 = .ok (.aload_n 0, 1) := by decide +kernel
theorem dX11_phase_11 : decode cX11_phase 11 = .ok (.getfield 7, 3) := by decide +kernel
theorem dX11_phase_14 : decode cX11_phase 14 = .ok (.iload_n 1, 1) := by decide +kernel
theorem dX11_phase_15 : decode cX11_phase 15 = .ok (.iconst 2, 1) := by decide +kernel
theorem dX11_phase_16 : decode cX11_phase 16 = .ok (.iadd, 1) := by decide +kernel
theorem dX11_phase_17 : decode cX11_phase 17 = .ok (.iaload, 1) := by decide +kernel
theorem dX11_phase_18 : decode cX11_phase 18 = .ok (.invokestatic 93, 3) := by decide +kernel
theorem dX11_phase_21 : decode cX11_phase 21 = .ok (.ireturn, 1) := by decide +kernel
theorem dX11_partAt_0 : decode cX11_partAt 0 = .ok (.aload_n 0, 1) := by decide +kernel
theorem dX11_partAt_1 : decode cX11_partAt 1 = .ok (.getfield 7, 3) := by decide +kernel
theorem dX11_partAt_4 : decode cX11_partAt 4 = .ok (.iload_n 1, 1) := by decide +kernel
theorem dX11_partAt_5 : decode cX11_partAt 5 = .ok (.iconst 1, 1) := by decide +kernel
theorem dX11_partAt_6 : decode cX11_partAt 6 = .ok (.iadd, 1) := by decide +kernel
theorem dX11_partAt_7 : decode cX11_partAt 7 = .ok (.iaload, 1) := by decide +kernel
theorem dX11_partAt_8 : decode cX11_partAt 8 = .ok (.istore_n 3, 1) := by decide +kernel
theorem dX11_partAt_9 : decode cX11_partAt 9 = .ok (.aload_n 0, 1) := by decide +kernel
theorem dX11_partAt_10 : decode cX11_partAt 10 = .ok (.getfield 7, 3) := by decide +kernel
theorem dX11_partAt_13 : decode cX11_partAt 13 = .ok (.iload_n 1, 1) := by decide +kernel
theorem dX11_partAt_14 : decode cX11_partAt 14 = .ok (.iconst 0, 1) := by decide +kernel
theorem dX11_partAt_15 : decode cX11_partAt 15 = .ok (.iadd, 1) := by decide +kernel
theorem dX11_partAt_16 : decode cX11_partAt 16 = .ok (.iaload, 1) := by decide +kernel
theorem dX11_partAt_17 : decode cX11_partAt 17 = .ok (.lookupswitch 68 #[(0, 27), (1, 45)], 27) := by decide +kernel
theorem dX11_partAt_44 : decode cX11_partAt 44 = .ok (.iload_n 2, 1) := by decide +kernel
theorem dX11_partAt_45 : decode cX11_partAt 45 = .ok (.aload_n 0, 1) := by decide +kernel
theorem dX11_partAt_46 : decode cX11_partAt 46 = .ok (.getfield 7, 3) := by decide +kernel
theorem dX11_partAt_49 : decode cX11_partAt 49 = .ok (.iload_n 1, 1) := by decide +kernel
theorem dX11_partAt_50 : decode cX11_partAt 50 = .ok (.iconst 4, 1) := by decide +kernel
theorem dX11_partAt_51 : decode cX11_partAt 51 = .ok (.iadd, 1) := by decide +kernel
theorem dX11_partAt_52 : decode cX11_partAt 52 = .ok (.iaload, 1) := by decide +kernel
theorem dX11_partAt_53 : decode cX11_partAt 53 = .ok (.if_icmp .lt 7, 3) := by decide +kernel
theorem dX11_partAt_56 : decode cX11_partAt 56 = .ok (.iload_n 3, 1) := by decide +kernel
theorem dX11_partAt_57 : decode cX11_partAt 57 = .ok (.goto 4, 3) := by decide +kernel
theorem dX11_partAt_60 : decode cX11_partAt 60 = .ok (.iconst 0, 1) := by decide +kernel
theorem dX11_partAt_61 : decode cX11_partAt 61 = .ok (.ireturn, 1) := by decide +kernel
theorem dX11_partAt_62 : decode cX11_partAt 62 = .ok (.aload_n 0, 1) := by decide +kernel
theorem dX11_partAt_63 : decode cX11_partAt 63 = .ok (.iload_n 1, 1) := by decide +kernel
theorem dX11_partAt_64 : decode cX11_partAt 64 = .ok (.iload_n 2, 1) := by decide +kernel
theorem dX11_partAt_65 : decode cX11_partAt 65 = .ok (.invokevirtual 105, 3) := by decide +kernel
theorem dX11_partAt_68 : decode cX11_partAt 68 = .ok (.aload_n 0, 1) := by decide +kernel
theorem dX11_partAt_69 : decode cX11_partAt 69 = .ok (.getfield 7, 3) := by decide +kernel
theorem dX11_partAt_72 : decode cX11_partAt 72 = .ok (.iload_n 1, 1) := by decide +kernel
theorem dX11_partAt_73 : decode cX11_partAt 73 = .ok (.iconst 3, 1) := by decide +kernel
theorem dX11_partAt_74 : decode cX11_partAt 74 = .ok (.iadd, 1) := by decide +kernel
theorem dX11_partAt_75 : decode cX11_partAt 75 = .ok (.iaload, 1) := by decide +kernel
theorem dX11_partAt_76 : decode cX11_partAt 76 = .ok (.if_icmp .ge 7, 3) := by decide +kernel
theorem dX11_partAt_79 : decode cX11_partAt 79 = .ok (.iload_n 3, 1) := by decide +kernel
theorem dX11_partAt_80 : decode cX11_partAt 80 = .ok (.goto 4, 3) := by decide +kernel
theorem dX11_partAt_83 : decode cX11_partAt 83 = .ok (.iconst 0, 1) := by decide +kernel
theorem dX11_partAt_84 : decode cX11_partAt 84 = .ok (.ireturn, 1) := by decide +kernel
theorem dX11_partAt_85 : decode cX11_partAt 85 = .ok (.iload_n 3, 1) := by decide +kernel
theorem dX11_partAt_86 : decode cX11_partAt 86 = .ok (.aload_n 0, 1) := by decide +kernel
theorem dX11_partAt_87 : decode cX11_partAt 87 = .ok (.iload_n 1, 1) := by decide +kernel
theorem dX11_partAt_88 : decode cX11_partAt 88 = .ok (.iload_n 2, 1) := by decide +kernel
theorem dX11_partAt_89 : decode cX11_partAt 89 = .ok (.invokevirtual 105, 3) := by decide +kernel
theorem dX11_partAt_92 : decode cX11_partAt 92 = .ok (.imul, 1) := by decide +kernel
theorem dX11_partAt_93 : decode cX11_partAt 93 = .ok (.aload_n 0, 1) := by decide +kernel
theorem dX11_partAt_94 : decode cX11_partAt 94 = .ok (.getfield 7, 3) := by decide +kernel
theorem dX11_partAt_97 : decode cX11_partAt 97 = .ok (.iload_n 1, 1) := by decide +kernel
theorem dX11_partAt_98 : decode cX11_partAt 98 = .ok (.iconst 2, 1) := by decide +kernel
theorem dX11_partAt_99 : decode cX11_partAt 99 = .ok (.iadd, 1) := by decide +kernel
theorem dX11_partAt_100 : decode cX11_partAt 100 = .ok (.iaload, 1) := by decide +kernel
theorem dX11_partAt_101 : decode cX11_partAt 101 = .ok (.idiv, 1) := by decide +kernel
theorem dX11_partAt_102 : decode cX11_partAt 102 = .ok (.ireturn, 1) := by decide +kernel
theorem dX11_rawAt_0 : decode cX11_rawAt 0 = .ok (.iconst 0, 1) := by decide +kernel
theorem dX11_rawAt_1 : decode cX11_rawAt 1 = .ok (.istore_n 3, 1) := by decide +kernel
theorem dX11_rawAt_2 : decode cX11_rawAt 2 = .ok (.iconst 0, 1) := by decide +kernel
theorem dX11_rawAt_3 : decode cX11_rawAt 3 = .ok (.istore 4, 2) := by decide +kernel
theorem dX11_rawAt_5 : decode cX11_rawAt 5 = .ok (.iload 4, 2) := by decide +kernel
theorem dX11_rawAt_7 : decode cX11_rawAt 7 = .ok (.aload_n 0, 1) := by decide +kernel
theorem dX11_rawAt_8 : decode cX11_rawAt 8 = .ok (.getfield 7, 3) := by decide +kernel
theorem dX11_rawAt_11 : decode cX11_rawAt 11 = .ok (.bipush 24, 2) := by decide +kernel
theorem dX11_rawAt_13 : decode cX11_rawAt 13 = .ok (.iload_n 1, 1) := by decide +kernel
theorem dX11_rawAt_14 : decode cX11_rawAt 14 = .ok (.iadd, 1) := by decide +kernel
theorem dX11_rawAt_15 : decode cX11_rawAt 15 = .ok (.iaload, 1) := by decide +kernel
theorem dX11_rawAt_16 : decode cX11_rawAt 16 = .ok (.if_icmp .ge 29, 3) := by decide +kernel
theorem dX11_rawAt_19 : decode cX11_rawAt 19 = .ok (.iload_n 3, 1) := by decide +kernel
theorem dX11_rawAt_20 : decode cX11_rawAt 20 = .ok (.aload_n 0, 1) := by decide +kernel
theorem dX11_rawAt_21 : decode cX11_rawAt 21 = .ok (.bipush 30, 2) := by decide +kernel
theorem dX11_rawAt_23 : decode cX11_rawAt 23 = .ok (.bipush 30, 2) := by decide +kernel
theorem dX11_rawAt_25 : decode cX11_rawAt 25 = .ok (.iload_n 1, 1) := by decide +kernel
theorem dX11_rawAt_26 : decode cX11_rawAt 26 = .ok (.imul, 1) := by decide +kernel
theorem dX11_rawAt_27 : decode cX11_rawAt 27 = .ok (.iadd, 1) := by decide +kernel
theorem dX11_rawAt_28 : decode cX11_rawAt 28 = .ok (.iconst 5, 1) := by decide +kernel
theorem dX11_rawAt_29 : decode cX11_rawAt 29 = .ok (.iload 4, 2) := by decide +kernel
theorem dX11_rawAt_31 : decode cX11_rawAt 31 = .ok (.imul, 1) := by decide +kernel
theorem dX11_rawAt_32 : decode cX11_rawAt 32 = .ok (.iadd, 1) := by decide +kernel
theorem dX11_rawAt_33 : decode cX11_rawAt 33 = .ok (.iload_n 2, 1) := by decide +kernel
theorem dX11_rawAt_34 : decode cX11_rawAt 34 = .ok (.invokevirtual 108, 3) := by decide +kernel
theorem dX11_rawAt_37 : decode cX11_rawAt 37 = .ok (.iadd, 1) := by decide +kernel
theorem dX11_rawAt_38 : decode cX11_rawAt 38 = .ok (.istore_n 3, 1) := by decide +kernel
theorem dX11_rawAt_39 : decode cX11_rawAt 39 = .ok (.iinc 4 1, 3) := by decide +kernel
theorem dX11_rawAt_42 : decode cX11_rawAt 42 = .ok (.goto (-37), 3) := by decide +kernel
theorem dX11_rawAt_45 : decode cX11_rawAt 45 = .ok (.iload_n 3, 1) := by decide +kernel
theorem dX11_rawAt_46 : decode cX11_rawAt 46 = .ok (.ireturn, 1) := by decide +kernel
theorem dX11_raw_0 : decode cX11_raw 0 = .ok (.iload_n 1, 1) := by decide +kernel
theorem dX11_raw_1 : decode cX11_raw 1 = .ok (.invokestatic 101, 3) := by decide +kernel
theorem dX11_raw_4 : decode cX11_raw 4 = .ok (.ifCond .eq 23, 3) := by decide +kernel
theorem dX11_raw_7 : decode cX11_raw 7 = .ok (.iload_n 2, 1) := by decide +kernel
theorem dX11_raw_8 : decode cX11_raw 8 = .ok (.iconst 0, 1) := by decide +kernel
theorem dX11_raw_9 : decode cX11_raw 9 = .ok (.sipush 9999, 3) := by decide +kernel
theorem dX11_raw_12 : decode cX11_raw 12 = .ok (.invokestatic 97, 3) := by decide +kernel
theorem dX11_raw_15 : decode cX11_raw 15 = .ok (.ifCond .eq 12, 3) := by decide +kernel
theorem dX11_raw_18 : decode cX11_raw 18 = .ok (.aload_n 0, 1) := by decide +kernel
theorem dX11_raw_19 : decode cX11_raw 19 = .ok (.iload_n 1, 1) := by decide +kernel
theorem dX11_raw_20 : decode cX11_raw 20 = .ok (.iload_n 2, 1) := by decide +kernel
theorem dX11_raw_21 : decode cX11_raw 21 = .ok (.invokevirtual 111, 3) := by decide +kernel
theorem dX11_raw_24 : decode cX11_raw 24 = .ok (.goto 5, 3) := by decide +kernel
theorem dX11_raw_27 : decode cX11_raw 27 = .ok (.ldc 114, 2) := by decide +kernel
theorem dX11_raw_29 : decode cX11_raw 29 = .ok (.ireturn, 1) := by decide +kernel
theorem dX11_probe_0 : decode cX11_probe 0 = .ok (.iload_n 1, 1) := by decide +kernel
theorem dX11_probe_1 : decode cX11_probe 1 = .ok (.invokestatic 115, 3) := by decide +kernel
theorem dX11_probe_4 : decode cX11_probe 4 = .ok (.ifCond .eq 34, 3) := by decide +kernel
theorem dX11_probe_7 : decode cX11_probe 7 = .ok (.iload_n 2, 1) := by decide +kernel
theorem dX11_probe_8 : decode cX11_probe 8 = .ok (.iconst 1, 1) := by decide +kernel
theorem dX11_probe_9 : decode cX11_probe 9 = .ok (.bipush 20, 2) := by decide +kernel
theorem dX11_probe_11 : decode cX11_probe 11 = .ok (.invokestatic 97, 3) := by decide +kernel
theorem dX11_probe_14 : decode cX11_probe 14 = .ok (.ifCond .eq 24, 3) := by decide +kernel
theorem dX11_probe_17 : decode cX11_probe 17 = .ok (.iload_n 3, 1) := by decide +kernel
theorem dX11_probe_18 : decode cX11_probe 18 = .ok (.iconst 1, 1) := by decide +kernel
theorem dX11_probe_19 : decode cX11_probe 19 = .ok (.bipush 20, 2) := by decide +kernel
theorem dX11_probe_21 : decode cX11_probe 21 = .ok (.invokestatic 97, 3) := by decide +kernel
theorem dX11_probe_24 : decode cX11_probe 24 = .ok (.ifCond .eq 14, 3) := by decide +kernel
theorem dX11_probe_27 : decode cX11_probe 27 = .ok (.iload 4, 2) := by decide +kernel
theorem dX11_probe_29 : decode cX11_probe 29 = .ok (.iconst 1, 1) := by decide +kernel
theorem dX11_probe_30 : decode cX11_probe 30 = .ok (.bipush 16, 2) := by decide +kernel
theorem dX11_probe_32 : decode cX11_probe 32 = .ok (.invokestatic 97, 3) := by decide +kernel
theorem dX11_probe_35 : decode cX11_probe 35 = .ok (.ifCond .ne 5, 3) := by decide +kernel
theorem dX11_probe_38 : decode cX11_probe 38 = .ok (.iconst 0, 1) := by decide +kernel
theorem dX11_probe_39 : decode cX11_probe 39 = .ok (.ireturn, 1) := by decide +kernel
theorem dX11_probe_40 : decode cX11_probe 40 = .ok (.aload_n 0, 1) := by decide +kernel
theorem dX11_probe_41 : decode cX11_probe 41 = .ok (.getfield 7, 3) := by decide +kernel
theorem dX11_probe_44 : decode cX11_probe 44 = .ok (.bipush 16, 2) := by decide +kernel
theorem dX11_probe_46 : decode cX11_probe 46 = .ok (.iload_n 1, 1) := by decide +kernel
theorem dX11_probe_47 : decode cX11_probe 47 = .ok (.iadd, 1) := by decide +kernel
theorem dX11_probe_48 : decode cX11_probe 48 = .ok (.iload_n 2, 1) := by decide +kernel
theorem dX11_probe_49 : decode cX11_probe 49 = .ok (.iastore, 1) := by decide +kernel
theorem dX11_probe_50 : decode cX11_probe 50 = .ok (.aload_n 0, 1) := by decide +kernel
theorem dX11_probe_51 : decode cX11_probe 51 = .ok (.getfield 7, 3) := by decide +kernel
theorem dX11_probe_54 : decode cX11_probe 54 = .ok (.bipush 18, 2) := by decide +kernel
theorem dX11_probe_56 : decode cX11_probe 56 = .ok (.iload_n 1, 1) := by decide +kernel
theorem dX11_probe_57 : decode cX11_probe 57 = .ok (.iadd, 1) := by decide +kernel
theorem dX11_probe_58 : decode cX11_probe 58 = .ok (.iload_n 3, 1) := by decide +kernel
theorem dX11_probe_59 : decode cX11_probe 59 = .ok (.iastore, 1) := by decide +kernel
theorem dX11_probe_60 : decode cX11_probe 60 = .ok (.aload_n 0, 1) := by decide +kernel
theorem dX11_probe_61 : decode cX11_probe 61 = .ok (.getfield 7, 3) := by decide +kernel
theorem dX11_probe_64 : decode cX11_probe 64 = .ok (.bipush 20, 2) := by decide +kernel
theorem dX11_probe_66 : decode cX11_probe 66 = .ok (.iload_n 1, 1) := by decide +kernel
theorem dX11_probe_67 : decode cX11_probe 67 = .ok (.iadd, 1) := by decide +kernel
theorem dX11_probe_68 : decode cX11_probe 68 = .ok (.iload 4, 2) := by decide +kernel
theorem dX11_probe_70 : decode cX11_probe 70 = .ok (.iastore, 1) := by decide +kernel
theorem dX11_probe_71 : decode cX11_probe 71 = .ok (.iconst 1, 1) := by decide +kernel
theorem dX11_probe_72 : decode cX11_probe 72 = .ok (.ireturn, 1) := by decide +kernel
theorem dX11_channel_0 : decode cX11_channel 0 = .ok (.iload_n 1, 1) := by decide +kernel
theorem dX11_channel_1 : decode cX11_channel 1 = .ok (.invokestatic 115, 3) := by decide +kernel
theorem dX11_channel_4 : decode cX11_channel 4 = .ok (.ifCond .eq 33, 3) := by decide +kernel
theorem dX11_channel_7 : decode cX11_channel 7 = .ok (.iload_n 2, 1) := by decide +kernel
theorem dX11_channel_8 : decode cX11_channel 8 = .ok (.invokestatic 101, 3) := by decide +kernel
theorem dX11_channel_11 : decode cX11_channel 11 = .ok (.ifCond .eq 26, 3) := by decide +kernel
theorem dX11_channel_14 : decode cX11_channel 14 = .ok (.iload_n 3, 1) := by decide +kernel
theorem dX11_channel_15 : decode cX11_channel 15 = .ok (.iconst 1, 1) := by decide +kernel
theorem dX11_channel_16 : decode cX11_channel 16 = .ok (.sipush 999, 3) := by decide +kernel
theorem dX11_channel_19 : decode cX11_channel 19 = .ok (.invokestatic 97, 3) := by decide +kernel
theorem dX11_channel_22 : decode cX11_channel 22 = .ok (.ifCond .eq 15, 3) := by decide +kernel
theorem dX11_channel_25 : decode cX11_channel 25 = .ok (.iload 4, 2) := by decide +kernel
theorem dX11_channel_27 : decode cX11_channel 27 = .ok (.bipush (-15), 2) := by decide +kernel
theorem dX11_channel_29 : decode cX11_channel 29 = .ok (.bipush 15, 2) := by decide +kernel
theorem dX11_channel_31 : decode cX11_channel 31 = .ok (.invokestatic 97, 3) := by decide +kernel
theorem dX11_channel_34 : decode cX11_channel 34 = .ok (.ifCond .ne 5, 3) := by decide +kernel
theorem dX11_channel_37 : decode cX11_channel 37 = .ok (.iconst 0, 1) := by decide +kernel
theorem dX11_channel_38 : decode cX11_channel 38 = .ok (.ireturn, 1) := by decide +kernel
theorem dX11_channel_39 : decode cX11_channel 39 = .ok (.aload_n 0, 1) := by decide +kernel
theorem dX11_channel_40 : decode cX11_channel 40 = .ok (.getfield 7, 3) := by decide +kernel
theorem dX11_channel_43 : decode cX11_channel 43 = .ok (.bipush 10, 2) := by decide +kernel
theorem dX11_channel_45 : decode cX11_channel 45 = .ok (.iload_n 1, 1) := by decide +kernel
theorem dX11_channel_46 : decode cX11_channel 46 = .ok (.iadd, 1) := by decide +kernel
theorem dX11_channel_47 : decode cX11_channel 47 = .ok (.iload_n 2, 1) := by decide +kernel
theorem dX11_channel_48 : decode cX11_channel 48 = .ok (.iastore, 1) := by decide +kernel
theorem dX11_channel_49 : decode cX11_channel 49 = .ok (.aload_n 0, 1) := by decide +kernel
theorem dX11_channel_50 : decode cX11_channel 50 = .ok (.getfield 7, 3) := by decide +kernel
theorem dX11_channel_53 : decode cX11_channel 53 = .ok (.bipush 12, 2) := by decide +kernel
theorem dX11_channel_55 : decode cX11_channel 55 = .ok (.iload_n 1, 1) := by decide +kernel
theorem dX11_channel_56 : decode cX11_channel 56 = .ok (.iadd, 1) := by decide +kernel
theorem dX11_channel_57 : decode cX11_channel 57 = .ok (.iload_n 3, 1) := by decide +kernel
theorem dX11_channel_58 : decode cX11_channel 58 = .ok (.iastore, 1) := by decide +kernel
theorem dX11_channel_59 : decode cX11_channel 59 = .ok (.aload_n 0, 1) := by decide +kernel
theorem dX11_channel_60 : decode cX11_channel 60 = .ok (.getfield 7, 3) := by decide +kernel
theorem dX11_channel_63 : decode cX11_channel 63 = .ok (.bipush 14, 2) := by decide +kernel
theorem dX11_channel_65 : decode cX11_channel 65 = .ok (.iload_n 1, 1) := by decide +kernel
theorem dX11_channel_66 : decode cX11_channel 66 = .ok (.iadd, 1) := by decide +kernel
theorem dX11_channel_67 : decode cX11_channel 67 = .ok (.iload 4, 2) := by decide +kernel
theorem dX11_channel_69 : decode cX11_channel 69 = .ok (.iastore, 1) := by decide +kernel
theorem dX11_channel_70 : decode cX11_channel 70 = .ok (.iconst 1, 1) := by decide +kernel
theorem dX11_channel_71 : decode cX11_channel 71 = .ok (.ireturn, 1) := by decide +kernel
theorem dX11_laysOut_0 : decode cX11_laysOut 0 = .ok (.iconst 0, 1) := by decide +kernel
theorem dX11_laysOut_1 : decode cX11_laysOut 1 = .ok (.istore_n 2, 1) := by decide +kernel
theorem dX11_laysOut_2 : decode cX11_laysOut 2 = .ok (.iconst 0, 1) := by decide +kernel
theorem dX11_laysOut_3 : decode cX11_laysOut 3 = .ok (.istore_n 3, 1) := by decide +kernel
theorem dX11_laysOut_4 : decode cX11_laysOut 4 = .ok (.iload_n 3, 1) := by decide +kernel
theorem dX11_laysOut_5 : decode cX11_laysOut 5 = .ok (.sipush 2000, 3) := by decide +kernel
theorem dX11_laysOut_8 : decode cX11_laysOut 8 = .ok (.if_icmp .ge 78, 3) := by decide +kernel
theorem dX11_laysOut_11 : decode cX11_laysOut 11 = .ok (.aload_n 0, 1) := by decide +kernel
theorem dX11_laysOut_12 : decode cX11_laysOut 12 = .ok (.aload_n 0, 1) := by decide +kernel
theorem dX11_laysOut_13 : decode cX11_laysOut 13 = .ok (.getfield 7, 3) := by decide +kernel
theorem dX11_laysOut_16 : decode cX11_laysOut 16 = .ok (.bipush 10, 2) := by decide +kernel
theorem dX11_laysOut_18 : decode cX11_laysOut 18 = .ok (.iload_n 1, 1) := by decide +kernel
theorem dX11_laysOut_19 : decode cX11_laysOut 19 = .ok (.iadd, 1) := by decide +kernel
theorem dX11_laysOut_20 : decode cX11_laysOut 20 = .ok (.iaload, 1) := by decide +kernel
theorem dX11_laysOut_21 : decode cX11_laysOut 21 = .ok (.iload_n 3, 1) := by decide +kernel
theorem dX11_laysOut_22 : decode cX11_laysOut 22 = .ok (.invokevirtual 111, 3) := by decide +kernel
theorem dX11_laysOut_25 : decode cX11_laysOut 25 = .ok (.aload_n 0, 1) := by decide +kernel
theorem dX11_laysOut_26 : decode cX11_laysOut 26 = .ok (.getfield 7, 3) := by decide +kernel
theorem dX11_laysOut_29 : decode cX11_laysOut 29 = .ok (.bipush 16, 2) := by decide +kernel
theorem dX11_laysOut_31 : decode cX11_laysOut 31 = .ok (.iload_n 1, 1) := by decide +kernel
theorem dX11_laysOut_32 : decode cX11_laysOut 32 = .ok (.iadd, 1) := by decide +kernel
theorem dX11_laysOut_33 : decode cX11_laysOut 33 = .ok (.iaload, 1) := by decide +kernel
theorem dX11_laysOut_34 : decode cX11_laysOut 34 = .ok (.imul, 1) := by decide +kernel
theorem dX11_laysOut_35 : decode cX11_laysOut 35 = .ok (.aload_n 0, 1) := by decide +kernel
theorem dX11_laysOut_36 : decode cX11_laysOut 36 = .ok (.getfield 7, 3) := by decide +kernel
theorem dX11_laysOut_39 : decode cX11_laysOut 39 = .ok (.bipush 18, 2) := by decide +kernel
theorem dX11_laysOut_41 : decode cX11_laysOut 41 = .ok (.iload_n 1, 1) := by decide +kernel
theorem dX11_laysOut_42 : decode cX11_laysOut 42 = .ok (.iadd, 1) := by decide +kernel
theorem dX11_laysOut_43 : decode cX11_laysOut 43 = .ok (.iaload, 1) := by decide +kernel
theorem dX11_laysOut_44 : decode cX11_laysOut 44 = .ok (.idiv, 1) := by decide +kernel
theorem dX11_laysOut_45 : decode cX11_laysOut 45 = .ok (.istore 4, 2) := by decide +kernel
theorem dX11_laysOut_47 : decode cX11_laysOut 47 = .ok (.iload_n 2, 1) := by decide +kernel
theorem dX11_laysOut_48 : decode cX11_laysOut 48 = .ok (.iload 4, 2) := by decide +kernel
theorem dX11_laysOut_50 : decode cX11_laysOut 50 = .ok (.iload_n 2, 1) := by decide +kernel
theorem dX11_laysOut_51 : decode cX11_laysOut 51 = .ok (.isub, 1) := by decide +kernel
theorem dX11_laysOut_52 : decode cX11_laysOut 52 = .ok (.aload_n 0, 1) := by decide +kernel
theorem dX11_laysOut_53 : decode cX11_laysOut 53 = .ok (.getfield 7, 3) := by decide +kernel
theorem dX11_laysOut_56 : decode cX11_laysOut 56 = .ok (.bipush 20, 2) := by decide +kernel
theorem dX11_laysOut_58 : decode cX11_laysOut 58 = .ok (.iload_n 1, 1) := by decide +kernel
theorem dX11_laysOut_59 : decode cX11_laysOut 59 = .ok (.iadd, 1) := by decide +kernel
theorem dX11_laysOut_60 : decode cX11_laysOut 60 = .ok (.iaload, 1) := by decide +kernel
theorem dX11_laysOut_61 : decode cX11_laysOut 61 = .ok (.imul, 1) := by decide +kernel
theorem dX11_laysOut_62 : decode cX11_laysOut 62 = .ok (.bipush 16, 2) := by decide +kernel
theorem dX11_laysOut_64 : decode cX11_laysOut 64 = .ok (.idiv, 1) := by decide +kernel
theorem dX11_laysOut_65 : decode cX11_laysOut 65 = .ok (.iadd, 1) := by decide +kernel
theorem dX11_laysOut_66 : decode cX11_laysOut 66 = .ok (.istore_n 2, 1) := by decide +kernel
theorem dX11_laysOut_67 : decode cX11_laysOut 67 = .ok (.aload_n 0, 1) := by decide +kernel
theorem dX11_laysOut_68 : decode cX11_laysOut 68 = .ok (.getfield 42, 3) := by decide +kernel
theorem dX11_laysOut_71 : decode cX11_laysOut 71 = .ok (.sipush 2000, 3) := by decide +kernel
theorem dX11_laysOut_74 : decode cX11_laysOut 74 = .ok (.iload_n 1, 1) := by decide +kernel
theorem dX11_laysOut_75 : decode cX11_laysOut 75 = .ok (.imul, 1) := by decide +kernel
theorem dX11_laysOut_76 : decode cX11_laysOut 76 = .ok (.iload_n 3, 1) := by decide +kernel
theorem dX11_laysOut_77 : decode cX11_laysOut 77 = .ok (.iadd, 1) := by decide +kernel
theorem dX11_laysOut_78 : decode cX11_laysOut 78 = .ok (.iload_n 2, 1) := by decide +kernel
theorem dX11_laysOut_79 : decode cX11_laysOut 79 = .ok (.iastore, 1) := by decide +kernel
theorem dX11_laysOut_80 : decode cX11_laysOut 80 = .ok (.iinc 3 1, 3) := by decide +kernel
theorem dX11_laysOut_83 : decode cX11_laysOut 83 = .ok (.goto (-79), 3) := by decide +kernel
theorem dX11_laysOut_86 : decode cX11_laysOut 86 = .ok (.return_, 1) := by decide +kernel
theorem dX11_laysBoth_0 : decode cX11_laysBoth 0 = .ok (.aload_n 0, 1) := by decide +kernel
theorem dX11_laysBoth_1 : decode cX11_laysBoth 1 = .ok (.iconst 0, 1) := by decide +kernel
theorem dX11_laysBoth_2 : decode cX11_laysBoth 2 = .ok (.invokevirtual 118, 3) := by decide +kernel
theorem dX11_laysBoth_5 : decode cX11_laysBoth 5 = .ok (.aload_n 0, 1) := by decide +kernel
theorem dX11_laysBoth_6 : decode cX11_laysBoth 6 = .ok (.iconst 1, 1) := by decide +kernel
theorem dX11_laysBoth_7 : decode cX11_laysBoth 7 = .ok (.invokevirtual 118, 3) := by decide +kernel
theorem dX11_laysBoth_10 : decode cX11_laysBoth 10 = .ok (.return_, 1) := by decide +kernel
theorem dX11_out_0 : decode cX11_out 0 = .ok (.iload_n 1, 1) := by decide +kernel
theorem dX11_out_1 : decode cX11_out 1 = .ok (.invokestatic 115, 3) := by decide +kernel
theorem dX11_out_4 : decode cX11_out 4 = .ok (.ifCond .eq 14, 3) := by decide +kernel
theorem dX11_out_7 : decode cX11_out 7 = .ok (.iload_n 2, 1) := by decide +kernel
theorem dX11_out_8 : decode cX11_out 8 = .ok (.iconst 0, 1) := by decide +kernel
theorem dX11_out_9 : decode cX11_out 9 = .ok (.sipush 1999, 3) := by decide +kernel
theorem dX11_out_12 : decode cX11_out 12 = .ok (.invokestatic 97, 3) := by decide +kernel
theorem dX11_out_15 : decode cX11_out 15 = .ok (.ifCond .ne 6, 3) := by decide +kernel
theorem dX11_out_18 : decode cX11_out 18 = .ok (.ldc 114, 2) := by decide +kernel
theorem dX11_out_20 : decode cX11_out 20 = .ok (.ireturn, 1) := by decide +kernel
theorem dX11_out_21 : decode cX11_out 21 = .ok (.aload_n 0, 1) := by decide +kernel
theorem dX11_out_22 : decode cX11_out 22 = .ok (.iload_n 1, 1) := by decide +kernel
theorem dX11_out_23 : decode cX11_out 23 = .ok (.invokevirtual 118, 3) := by decide +kernel
theorem dX11_out_26 : decode cX11_out 26 = .ok (.aload_n 0, 1) := by decide +kernel
theorem dX11_out_27 : decode cX11_out 27 = .ok (.getfield 42, 3) := by decide +kernel
theorem dX11_out_30 : decode cX11_out 30 = .ok (.sipush 2000, 3) := by decide +kernel
theorem dX11_out_33 : decode cX11_out 33 = .ok (.iload_n 1, 1) := by decide +kernel
theorem dX11_out_34 : decode cX11_out 34 = .ok (.imul, 1) := by decide +kernel
theorem dX11_out_35 : decode cX11_out 35 = .ok (.iload_n 2, 1) := by decide +kernel
theorem dX11_out_36 : decode cX11_out 36 = .ok (.iadd, 1) := by decide +kernel
theorem dX11_out_37 : decode cX11_out 37 = .ok (.iaload, 1) := by decide +kernel
theorem dX11_out_38 : decode cX11_out 38 = .ok (.ireturn, 1) := by decide +kernel
theorem dX11_base_0 : decode cX11_base 0 = .ok (.iload_n 1, 1) := by decide +kernel
theorem dX11_base_1 : decode cX11_base 1 = .ok (.iconst 1, 1) := by decide +kernel
theorem dX11_base_2 : decode cX11_base 2 = .ok (.bipush 50, 2) := by decide +kernel
theorem dX11_base_4 : decode cX11_base 4 = .ok (.invokestatic 97, 3) := by decide +kernel
theorem dX11_base_7 : decode cX11_base 7 = .ok (.ifCond .eq 24, 3) := by decide +kernel
theorem dX11_base_10 : decode cX11_base 10 = .ok (.iload_n 2, 1) := by decide +kernel
theorem dX11_base_11 : decode cX11_base 11 = .ok (.iconst 0, 1) := by decide +kernel
theorem dX11_base_12 : decode cX11_base 12 = .ok (.sipush 999, 3) := by decide +kernel
theorem dX11_base_15 : decode cX11_base 15 = .ok (.invokestatic 97, 3) := by decide +kernel
theorem dX11_base_18 : decode cX11_base 18 = .ok (.ifCond .eq 13, 3) := by decide +kernel
theorem dX11_base_21 : decode cX11_base 21 = .ok (.iload_n 3, 1) := by decide +kernel
theorem dX11_base_22 : decode cX11_base 22 = .ok (.iconst 0, 1) := by decide +kernel
theorem dX11_base_23 : decode cX11_base 23 = .ok (.bipush 16, 2) := by decide +kernel
theorem dX11_base_25 : decode cX11_base 25 = .ok (.invokestatic 97, 3) := by decide +kernel
theorem dX11_base_28 : decode cX11_base 28 = .ok (.ifCond .ne 5, 3) := by decide +kernel
theorem dX11_base_31 : decode cX11_base 31 = .ok (.iconst 0, 1) := by decide +kernel
theorem dX11_base_32 : decode cX11_base 32 = .ok (.ireturn, 1) := by decide +kernel
theorem dX11_base_33 : decode cX11_base 33 = .ok (.aload_n 0, 1) := by decide +kernel
theorem dX11_base_34 : decode cX11_base 34 = .ok (.getfield 7, 3) := by decide +kernel
theorem dX11_base_37 : decode cX11_base 37 = .ok (.iconst 2, 1) := by decide +kernel
theorem dX11_base_38 : decode cX11_base 38 = .ok (.iload_n 1, 1) := by decide +kernel
theorem dX11_base_39 : decode cX11_base 39 = .ok (.iastore, 1) := by decide +kernel
theorem dX11_base_40 : decode cX11_base 40 = .ok (.aload_n 0, 1) := by decide +kernel
theorem dX11_base_41 : decode cX11_base 41 = .ok (.getfield 7, 3) := by decide +kernel
theorem dX11_base_44 : decode cX11_base 44 = .ok (.iconst 3, 1) := by decide +kernel
theorem dX11_base_45 : decode cX11_base 45 = .ok (.iload_n 2, 1) := by decide +kernel
theorem dX11_base_46 : decode cX11_base 46 = .ok (.iastore, 1) := by decide +kernel
theorem dX11_base_47 : decode cX11_base 47 = .ok (.aload_n 0, 1) := by decide +kernel
theorem dX11_base_48 : decode cX11_base 48 = .ok (.getfield 7, 3) := by decide +kernel
theorem dX11_base_51 : decode cX11_base 51 = .ok (.iconst 4, 1) := by decide +kernel
theorem dX11_base_52 : decode cX11_base 52 = .ok (.iload_n 3, 1) := by decide +kernel
theorem dX11_base_53 : decode cX11_base 53 = .ok (.iastore, 1) := by decide +kernel
theorem dX11_base_54 : decode cX11_base 54 = .ok (.iconst 1, 1) := by decide +kernel
theorem dX11_base_55 : decode cX11_base 55 = .ok (.ireturn, 1) := by decide +kernel
theorem dX11_mode_0 : decode cX11_mode 0 = .ok (.iload_n 1, 1) := by decide +kernel
theorem dX11_mode_1 : decode cX11_mode 1 = .ok (.iconst 0, 1) := by decide +kernel
theorem dX11_mode_2 : decode cX11_mode 2 = .ok (.iconst 3, 1) := by decide +kernel
theorem dX11_mode_3 : decode cX11_mode 3 = .ok (.invokestatic 97, 3) := by decide +kernel
theorem dX11_mode_6 : decode cX11_mode 6 = .ok (.ifCond .eq 13, 3) := by decide +kernel
theorem dX11_mode_9 : decode cX11_mode 9 = .ok (.iload_n 2, 1) := by decide +kernel
theorem dX11_mode_10 : decode cX11_mode 10 = .ok (.iconst 1, 1) := by decide +kernel
theorem dX11_mode_11 : decode cX11_mode 11 = .ok (.bipush 50, 2) := by decide +kernel
theorem dX11_mode_13 : decode cX11_mode 13 = .ok (.invokestatic 97, 3) := by decide +kernel
theorem dX11_mode_16 : decode cX11_mode 16 = .ok (.ifCond .ne 5, 3) := by decide +kernel
theorem dX11_mode_19 : decode cX11_mode 19 = .ok (.iconst 0, 1) := by decide +kernel
theorem dX11_mode_20 : decode cX11_mode 20 = .ok (.ireturn, 1) := by decide +kernel
theorem dX11_mode_21 : decode cX11_mode 21 = .ok (.aload_n 0, 1) := by decide +kernel
theorem dX11_mode_22 : decode cX11_mode 22 = .ok (.getfield 7, 3) := by decide +kernel
theorem dX11_mode_25 : decode cX11_mode 25 = .ok (.iconst 5, 1) := by decide +kernel
theorem dX11_mode_26 : decode cX11_mode 26 = .ok (.iload_n 1, 1) := by decide +kernel
theorem dX11_mode_27 : decode cX11_mode 27 = .ok (.iastore, 1) := by decide +kernel
theorem dX11_mode_28 : decode cX11_mode 28 = .ok (.aload_n 0, 1) := by decide +kernel
theorem dX11_mode_29 : decode cX11_mode 29 = .ok (.getfield 7, 3) := by decide +kernel
theorem dX11_mode_32 : decode cX11_mode 32 = .ok (.bipush 6, 2) := by decide +kernel
theorem dX11_mode_34 : decode cX11_mode 34 = .ok (.iload_n 2, 1) := by decide +kernel
theorem dX11_mode_35 : decode cX11_mode 35 = .ok (.iastore, 1) := by decide +kernel
theorem dX11_mode_36 : decode cX11_mode 36 = .ok (.iconst 1, 1) := by decide +kernel
theorem dX11_mode_37 : decode cX11_mode 37 = .ok (.ireturn, 1) := by decide +kernel
theorem dX11_put_0 : decode cX11_put 0 = .ok (.bipush 24, 2) := by decide +kernel
theorem dX11_put_2 : decode cX11_put 2 = .ok (.istore_n 2, 1) := by decide +kernel
theorem dX11_put_3 : decode cX11_put 3 = .ok (.iload_n 2, 1) := by decide +kernel
theorem dX11_put_4 : decode cX11_put 4 = .ok (.ifCond .lt 34, 3) := by decide +kernel
theorem dX11_put_7 : decode cX11_put 7 = .ok (.aload_n 0, 1) := by decide +kernel
theorem dX11_put_8 : decode cX11_put 8 = .ok (.getfield 16, 3) := by decide +kernel
theorem dX11_put_11 : decode cX11_put 11 = .ok (.aload_n 0, 1) := by decide +kernel
theorem dX11_put_12 : decode cX11_put 12 = .ok (.getfield 122, 3) := by decide +kernel
theorem dX11_put_15 : decode cX11_put 15 = .ok (.iload_n 1, 1) := by decide +kernel
theorem dX11_put_16 : decode cX11_put 16 = .ok (.iload_n 2, 1) := by decide +kernel
theorem dX11_put_17 : decode cX11_put 17 = .ok (.ishr, 1) := by decide +kernel
theorem dX11_put_18 : decode cX11_put 18 = .ok (.i2b, 1) := by decide +kernel
theorem dX11_put_19 : decode cX11_put 19 = .ok (.bastore, 1) := by decide +kernel
theorem dX11_put_20 : decode cX11_put 20 = .ok (.aload_n 0, 1) := by decide +kernel
theorem dX11_put_21 : decode cX11_put 21 = .ok (.dup, 1) := by decide +kernel
theorem dX11_put_22 : decode cX11_put 22 = .ok (.getfield 122, 3) := by decide +kernel
theorem dX11_put_25 : decode cX11_put 25 = .ok (.iconst 1, 1) := by decide +kernel
theorem dX11_put_26 : decode cX11_put 26 = .ok (.iadd, 1) := by decide +kernel
theorem dX11_put_27 : decode cX11_put 27 = .ok (.putfield 122, 3) := by decide +kernel
theorem dX11_put_30 : decode cX11_put 30 = .ok (.iload_n 2, 1) := by decide +kernel
theorem dX11_put_31 : decode cX11_put 31 = .ok (.bipush 8, 2) := by decide +kernel
theorem dX11_put_33 : decode cX11_put 33 = .ok (.isub, 1) := by decide +kernel
theorem dX11_put_34 : decode cX11_put 34 = .ok (.istore_n 2, 1) := by decide +kernel
theorem dX11_put_35 : decode cX11_put 35 = .ok (.goto (-32), 3) := by decide +kernel
theorem dX11_put_38 : decode cX11_put 38 = .ok (.return_, 1) := by decide +kernel
theorem dX11_feed_0 : decode cX11_feed 0 = .ok (.aload_n 0, 1) := by decide +kernel
theorem dX11_feed_1 : decode cX11_feed 1 = .ok (.getfield 122, 3) := by decide +kernel
theorem dX11_feed_4 : decode cX11_feed 4 = .ok (.bipush 20, 2) := by decide +kernel
theorem dX11_feed_6 : decode cX11_feed 6 = .ok (.iadd, 1) := by decide +kernel
theorem dX11_feed_7 : decode cX11_feed 7 = .ok (.sipush 300, 3) := by decide +kernel
theorem dX11_feed_10 : decode cX11_feed 10 = .ok (.if_icmp .le 5, 3) := by decide +kernel
theorem dX11_feed_13 : decode cX11_feed 13 = .ok (.iconst (-1), 1) := by decide +kernel
theorem dX11_feed_14 : decode cX11_feed 14 = .ok (.ireturn, 1) := by decide +kernel
theorem dX11_feed_15 : decode cX11_feed 15 = .ok (.aload_n 0, 1) := by decide +kernel
theorem dX11_feed_16 : decode cX11_feed 16 = .ok (.iload_n 1, 1) := by decide +kernel
theorem dX11_feed_17 : decode cX11_feed 17 = .ok (.invokevirtual 125, 3) := by decide +kernel
theorem dX11_feed_20 : decode cX11_feed 20 = .ok (.aload_n 0, 1) := by decide +kernel
theorem dX11_feed_21 : decode cX11_feed 21 = .ok (.iload_n 2, 1) := by decide +kernel
theorem dX11_feed_22 : decode cX11_feed 22 = .ok (.invokevirtual 125, 3) := by decide +kernel
theorem dX11_feed_25 : decode cX11_feed 25 = .ok (.aload_n 0, 1) := by decide +kernel
theorem dX11_feed_26 : decode cX11_feed 26 = .ok (.iload_n 3, 1) := by decide +kernel
theorem dX11_feed_27 : decode cX11_feed 27 = .ok (.invokevirtual 125, 3) := by decide +kernel
theorem dX11_feed_30 : decode cX11_feed 30 = .ok (.aload_n 0, 1) := by decide +kernel
theorem dX11_feed_31 : decode cX11_feed 31 = .ok (.iload 4, 2) := by decide +kernel
theorem dX11_feed_33 : decode cX11_feed 33 = .ok (.invokevirtual 125, 3) := by decide +kernel
theorem dX11_feed_36 : decode cX11_feed 36 = .ok (.aload_n 0, 1) := by decide +kernel
theorem dX11_feed_37 : decode cX11_feed 37 = .ok (.iload 5, 2) := by decide +kernel
theorem dX11_feed_39 : decode cX11_feed 39 = .ok (.invokevirtual 125, 3) := by decide +kernel
theorem dX11_feed_42 : decode cX11_feed 42 = .ok (.aload_n 0, 1) := by decide +kernel
theorem dX11_feed_43 : decode cX11_feed 43 = .ok (.getfield 122, 3) := by decide +kernel
theorem dX11_feed_46 : decode cX11_feed 46 = .ok (.ireturn, 1) := by decide +kernel
theorem dX11_end_0 : decode cX11_end 0 = .ok (.iload_n 1, 1) := by decide +kernel
theorem dX11_end_1 : decode cX11_end 1 = .ok (.iconst 0, 1) := by decide +kernel
theorem dX11_end_2 : decode cX11_end 2 = .ok (.aload_n 0, 1) := by decide +kernel
theorem dX11_end_3 : decode cX11_end 3 = .ok (.getfield 122, 3) := by decide +kernel
theorem dX11_end_6 : decode cX11_end 6 = .ok (.invokestatic 97, 3) := by decide +kernel
theorem dX11_end_9 : decode cX11_end 9 = .ok (.ifCond .ne 5, 3) := by decide +kernel
theorem dX11_end_12 : decode cX11_end 12 = .ok (.iconst (-1), 1) := by decide +kernel
theorem dX11_end_13 : decode cX11_end 13 = .ok (.ireturn, 1) := by decide +kernel
theorem dX11_end_14 : decode cX11_end 14 = .ok (.aload_n 0, 1) := by decide +kernel
theorem dX11_end_15 : decode cX11_end 15 = .ok (.iload_n 1, 1) := by decide +kernel
theorem dX11_end_16 : decode cX11_end 16 = .ok (.putfield 122, 3) := by decide +kernel
theorem dX11_end_19 : decode cX11_end 19 = .ok (.iload_n 1, 1) := by decide +kernel
theorem dX11_end_20 : decode cX11_end 20 = .ok (.ireturn, 1) := by decide +kernel
theorem dX11_isLetter_0 : decode cX11_isLetter 0 = .ok (.iload_n 0, 1) := by decide +kernel
theorem dX11_isLetter_1 : decode cX11_isLetter 1 = .ok (.bipush 97, 2) := by decide +kernel
theorem dX11_isLetter_3 : decode cX11_isLetter 3 = .ok (.bipush 122, 2) := by decide +kernel
theorem dX11_isLetter_5 : decode cX11_isLetter 5 = .ok (.invokestatic 97, 3) := by decide +kernel
theorem dX11_isLetter_8 : decode cX11_isLetter 8 = .ok (.ifCond .ne 14, 3) := by decide +kernel
theorem dX11_isLetter_11 : decode cX11_isLetter 11 = .ok (.iload_n 0, 1) := by decide +kernel
theorem dX11_isLetter_12 : decode cX11_isLetter 12 = .ok (.bipush 65, 2) := by decide +kernel
theorem dX11_isLetter_14 : decode cX11_isLetter 14 = .ok (.bipush 90, 2) := by decide +kernel
theorem dX11_isLetter_16 : decode cX11_isLetter 16 = .ok (.invokestatic 97, 3) := by decide +kernel
theorem dX11_isLetter_19 : decode cX11_isLetter 19 = .ok (.ifCond .eq 7, 3) := by decide +kernel
theorem dX11_isLetter_22 : decode cX11_isLetter 22 = .ok (.iconst 1, 1) := by decide +kernel
theorem dX11_isLetter_23 : decode cX11_isLetter 23 = .ok (.goto 4, 3) := by decide +kernel
theorem dX11_isLetter_26 : decode cX11_isLetter 26 = .ok (.iconst 0, 1) := by decide +kernel
theorem dX11_isLetter_27 : decode cX11_isLetter 27 = .ok (.ireturn, 1) := by decide +kernel
theorem dX11_wordOf_0 : decode cX11_wordOf 0 = .ok (.lload_n 0, 1) := by decide +kernel
theorem dX11_wordOf_1 : decode cX11_wordOf 1 = .ok (.ldc2_w 128, 3) := by decide +kernel
theorem dX11_wordOf_4 : decode cX11_wordOf 4 = .ok (.lcmp, 1) := by decide +kernel
theorem dX11_wordOf_5 : decode cX11_wordOf 5 = .ok (.ifCond .ne 5, 3) := by decide +kernel
theorem dX11_wordOf_8 : decode cX11_wordOf 8 = .ok (.iconst 0, 1) := by decide +kernel
theorem dX11_wordOf_9 : decode cX11_wordOf 9 = .ok (.ireturn, 1) := by decide +kernel
theorem dX11_wordOf_10 : decode cX11_wordOf 10 = .ok (.lload_n 0, 1) := by decide +kernel
theorem dX11_wordOf_11 : decode cX11_wordOf 11 = .ok (.ldc2_w 130, 3) := by decide +kernel
theorem dX11_wordOf_14 : decode cX11_wordOf 14 = .ok (.lcmp, 1) := by decide +kernel
theorem dX11_wordOf_15 : decode cX11_wordOf 15 = .ok (.ifCond .ne 5, 3) := by decide +kernel
theorem dX11_wordOf_18 : decode cX11_wordOf 18 = .ok (.iconst 1, 1) := by decide +kernel
theorem dX11_wordOf_19 : decode cX11_wordOf 19 = .ok (.ireturn, 1) := by decide +kernel
theorem dX11_wordOf_20 : decode cX11_wordOf 20 = .ok (.lload_n 0, 1) := by decide +kernel
theorem dX11_wordOf_21 : decode cX11_wordOf 21 = .ok (.ldc2_w 132, 3) := by decide +kernel
theorem dX11_wordOf_24 : decode cX11_wordOf 24 = .ok (.lcmp, 1) := by decide +kernel
theorem dX11_wordOf_25 : decode cX11_wordOf 25 = .ok (.ifCond .ne 5, 3) := by decide +kernel
theorem dX11_wordOf_28 : decode cX11_wordOf 28 = .ok (.iconst 2, 1) := by decide +kernel
theorem dX11_wordOf_29 : decode cX11_wordOf 29 = .ok (.ireturn, 1) := by decide +kernel
theorem dX11_wordOf_30 : decode cX11_wordOf 30 = .ok (.lload_n 0, 1) := by decide +kernel
theorem dX11_wordOf_31 : decode cX11_wordOf 31 = .ok (.ldc2_w 134, 3) := by decide +kernel
theorem dX11_wordOf_34 : decode cX11_wordOf 34 = .ok (.lcmp, 1) := by decide +kernel
theorem dX11_wordOf_35 : decode cX11_wordOf 35 = .ok (.ifCond .ne 5, 3) := by decide +kernel
theorem dX11_wordOf_38 : decode cX11_wordOf 38 = .ok (.iconst 3, 1) := by decide +kernel
theorem dX11_wordOf_39 : decode cX11_wordOf 39 = .ok (.ireturn, 1) := by decide +kernel
theorem dX11_wordOf_40 : decode cX11_wordOf 40 = .ok (.lload_n 0, 1) := by decide +kernel
theorem dX11_wordOf_41 : decode cX11_wordOf 41 = .ok (.ldc2_w 136, 3) := by decide +kernel
theorem dX11_wordOf_44 : decode cX11_wordOf 44 = .ok (.lcmp, 1) := by decide +kernel
theorem dX11_wordOf_45 : decode cX11_wordOf 45 = .ok (.ifCond .ne 5, 3) := by decide +kernel
theorem dX11_wordOf_48 : decode cX11_wordOf 48 = .ok (.iconst 4, 1) := by decide +kernel
theorem dX11_wordOf_49 : decode cX11_wordOf 49 = .ok (.ireturn, 1) := by decide +kernel
theorem dX11_wordOf_50 : decode cX11_wordOf 50 = .ok (.lload_n 0, 1) := by decide +kernel
theorem dX11_wordOf_51 : decode cX11_wordOf 51 = .ok (.ldc2_w 138, 3) := by decide +kernel
theorem dX11_wordOf_54 : decode cX11_wordOf 54 = .ok (.lcmp, 1) := by decide +kernel
theorem dX11_wordOf_55 : decode cX11_wordOf 55 = .ok (.ifCond .ne 5, 3) := by decide +kernel
theorem dX11_wordOf_58 : decode cX11_wordOf 58 = .ok (.iconst 5, 1) := by decide +kernel
theorem dX11_wordOf_59 : decode cX11_wordOf 59 = .ok (.ireturn, 1) := by decide +kernel
theorem dX11_wordOf_60 : decode cX11_wordOf 60 = .ok (.lload_n 0, 1) := by decide +kernel
theorem dX11_wordOf_61 : decode cX11_wordOf 61 = .ok (.ldc2_w 140, 3) := by decide +kernel
theorem dX11_wordOf_64 : decode cX11_wordOf 64 = .ok (.lcmp, 1) := by decide +kernel
theorem dX11_wordOf_65 : decode cX11_wordOf 65 = .ok (.ifCond .ne 6, 3) := by decide +kernel
theorem dX11_wordOf_68 : decode cX11_wordOf 68 = .ok (.bipush 6, 2) := by decide +kernel
theorem dX11_wordOf_70 : decode cX11_wordOf 70 = .ok (.ireturn, 1) := by decide +kernel
theorem dX11_wordOf_71 : decode cX11_wordOf 71 = .ok (.lload_n 0, 1) := by decide +kernel
theorem dX11_wordOf_72 : decode cX11_wordOf 72 = .ok (.ldc2_w 142, 3) := by decide +kernel
theorem dX11_wordOf_75 : decode cX11_wordOf 75 = .ok (.lcmp, 1) := by decide +kernel
theorem dX11_wordOf_76 : decode cX11_wordOf 76 = .ok (.ifCond .ne 6, 3) := by decide +kernel
theorem dX11_wordOf_79 : decode cX11_wordOf 79 = .ok (.bipush 7, 2) := by decide +kernel
theorem dX11_wordOf_81 : decode cX11_wordOf 81 = .ok (.ireturn, 1) := by decide +kernel
theorem dX11_wordOf_82 : decode cX11_wordOf 82 = .ok (.lload_n 0, 1) := by decide +kernel
theorem dX11_wordOf_83 : decode cX11_wordOf 83 = .ok (.ldc2_w 144, 3) := by decide +kernel
theorem dX11_wordOf_86 : decode cX11_wordOf 86 = .ok (.lcmp, 1) := by decide +kernel
theorem dX11_wordOf_87 : decode cX11_wordOf 87 = .ok (.ifCond .ne 6, 3) := by decide +kernel
theorem dX11_wordOf_90 : decode cX11_wordOf 90 = .ok (.bipush 8, 2) := by decide +kernel
theorem dX11_wordOf_92 : decode cX11_wordOf 92 = .ok (.ireturn, 1) := by decide +kernel
theorem dX11_wordOf_93 : decode cX11_wordOf 93 = .ok (.lload_n 0, 1) := by decide +kernel
theorem dX11_wordOf_94 : decode cX11_wordOf 94 = .ok (.ldc2_w 146, 3) := by decide +kernel
theorem dX11_wordOf_97 : decode cX11_wordOf 97 = .ok (.lcmp, 1) := by decide +kernel
theorem dX11_wordOf_98 : decode cX11_wordOf 98 = .ok (.ifCond .ne 6, 3) := by decide +kernel
theorem dX11_wordOf_101 : decode cX11_wordOf 101 = .ok (.bipush 9, 2) := by decide +kernel
theorem dX11_wordOf_103 : decode cX11_wordOf 103 = .ok (.ireturn, 1) := by decide +kernel
theorem dX11_wordOf_104 : decode cX11_wordOf 104 = .ok (.lload_n 0, 1) := by decide +kernel
theorem dX11_wordOf_105 : decode cX11_wordOf 105 = .ok (.ldc2_w 148, 3) := by decide +kernel
theorem dX11_wordOf_108 : decode cX11_wordOf 108 = .ok (.lcmp, 1) := by decide +kernel
theorem dX11_wordOf_109 : decode cX11_wordOf 109 = .ok (.ifCond .ne 6, 3) := by decide +kernel
theorem dX11_wordOf_112 : decode cX11_wordOf 112 = .ok (.bipush 10, 2) := by decide +kernel
theorem dX11_wordOf_114 : decode cX11_wordOf 114 = .ok (.ireturn, 1) := by decide +kernel
theorem dX11_wordOf_115 : decode cX11_wordOf 115 = .ok (.lload_n 0, 1) := by decide +kernel
theorem dX11_wordOf_116 : decode cX11_wordOf 116 = .ok (.ldc2_w 150, 3) := by decide +kernel
theorem dX11_wordOf_119 : decode cX11_wordOf 119 = .ok (.lcmp, 1) := by decide +kernel
theorem dX11_wordOf_120 : decode cX11_wordOf 120 = .ok (.ifCond .ne 6, 3) := by decide +kernel
theorem dX11_wordOf_123 : decode cX11_wordOf 123 = .ok (.bipush 11, 2) := by decide +kernel
theorem dX11_wordOf_125 : decode cX11_wordOf 125 = .ok (.ireturn, 1) := by decide +kernel
theorem dX11_wordOf_126 : decode cX11_wordOf 126 = .ok (.iconst (-1), 1) := by decide +kernel
theorem dX11_wordOf_127 : decode cX11_wordOf 127 = .ok (.ireturn, 1) := by decide +kernel
theorem dX11_next_0 : decode cX11_next 0 = .ok (.aload_n 0, 1) := by decide +kernel
theorem dX11_next_1 : decode cX11_next 1 = .ok (.getfield 152, 3) := by decide +kernel
theorem dX11_next_4 : decode cX11_next 4 = .ok (.aload_n 0, 1) := by decide +kernel
theorem dX11_next_5 : decode cX11_next 5 = .ok (.getfield 155, 3) := by decide +kernel
theorem dX11_next_8 : decode cX11_next 8 = .ok (.if_icmp .ge 44, 3) := by decide +kernel
theorem dX11_next_11 : decode cX11_next 11 = .ok (.aload_n 0, 1) := by decide +kernel
theorem dX11_next_12 : decode cX11_next 12 = .ok (.getfield 16, 3) := by decide +kernel
theorem dX11_next_15 : decode cX11_next 15 = .ok (.aload_n 0, 1) := by decide +kernel
theorem dX11_next_16 : decode cX11_next 16 = .ok (.getfield 152, 3) := by decide +kernel
theorem dX11_next_19 : decode cX11_next 19 = .ok (.baload, 1) := by decide +kernel
theorem dX11_next_20 : decode cX11_next 20 = .ok (.bipush 32, 2) := by decide +kernel
theorem dX11_next_22 : decode cX11_next 22 = .ok (.if_icmp .eq 17, 3) := by decide +kernel
theorem dX11_next_25 : decode cX11_next 25 = .ok (.aload_n 0, 1) := by decide +kernel
theorem dX11_next_26 : decode cX11_next 26 = .ok (.getfield 16, 3) := by decide +kernel
theorem dX11_next_29 : decode cX11_next 29 = .ok (.aload_n 0, 1) := by decide +kernel
theorem dX11_next_30 : decode cX11_next 30 = .ok (.getfield 152, 3) := by decide +kernel
theorem dX11_next_33 : decode cX11_next 33 = .ok (.baload, 1) := by decide +kernel
theorem dX11_next_34 : decode cX11_next 34 = .ok (.bipush 10, 2) := by decide +kernel
theorem dX11_next_36 : decode cX11_next 36 = .ok (.if_icmp .ne 16, 3) := by decide +kernel
theorem dX11_next_39 : decode cX11_next 39 = .ok (.aload_n 0, 1) := by decide +kernel
theorem dX11_next_40 : decode cX11_next 40 = .ok (.dup, 1) := by decide +kernel
theorem dX11_next_41 : decode cX11_next 41 = .ok (.getfield 152, 3) := by decide +kernel
theorem dX11_next_44 : decode cX11_next 44 = .ok (.iconst 1, 1) := by decide +kernel
theorem dX11_next_45 : decode cX11_next 45 = .ok (.iadd, 1) := by decide +kernel
theorem dX11_next_46 : decode cX11_next 46 = .ok (.putfield 152, 3) := by decide +kernel
theorem dX11_next_49 : decode cX11_next 49 = .ok (.goto (-49), 3) := by decide +kernel
theorem dX11_next_52 : decode cX11_next 52 = .ok (.aload_n 0, 1) := by decide +kernel
theorem dX11_next_53 : decode cX11_next 53 = .ok (.aload_n 0, 1) := by decide +kernel
theorem dX11_next_54 : decode cX11_next 54 = .ok (.getfield 152, 3) := by decide +kernel
theorem dX11_next_57 : decode cX11_next 57 = .ok (.putfield 158, 3) := by decide +kernel
theorem dX11_next_60 : decode cX11_next 60 = .ok (.aload_n 0, 1) := by decide +kernel
theorem dX11_next_61 : decode cX11_next 61 = .ok (.getfield 152, 3) := by decide +kernel
theorem dX11_next_64 : decode cX11_next 64 = .ok (.aload_n 0, 1) := by decide +kernel
theorem dX11_next_65 : decode cX11_next 65 = .ok (.getfield 155, 3) := by decide +kernel
theorem dX11_next_68 : decode cX11_next 68 = .ok (.if_icmp .ne 9, 3) := by decide +kernel
theorem dX11_next_71 : decode cX11_next 71 = .ok (.aload_n 0, 1) := by decide +kernel
theorem dX11_next_72 : decode cX11_next 72 = .ok (.iconst 0, 1) := by decide +kernel
theorem dX11_next_73 : decode cX11_next 73 = .ok (.putfield 161, 3) := by decide +kernel
theorem dX11_next_76 : decode cX11_next 76 = .ok (.return_, 1) := by decide +kernel
theorem dX11_next_77 : decode cX11_next 77 = .ok (.aload_n 0, 1) := by decide +kernel
theorem dX11_next_78 : decode cX11_next 78 = .ok (.getfield 16, 3) := by decide +kernel
theorem dX11_next_81 : decode cX11_next 81 = .ok (.aload_n 0, 1) := by decide +kernel
theorem dX11_next_82 : decode cX11_next 82 = .ok (.getfield 152, 3) := by decide +kernel
theorem dX11_next_85 : decode cX11_next 85 = .ok (.baload, 1) := by decide +kernel
theorem dX11_next_86 : decode cX11_next 86 = .ok (.istore_n 1, 1) := by decide +kernel
theorem dX11_next_87 : decode cX11_next 87 = .ok (.iload_n 1, 1) := by decide +kernel
theorem dX11_next_88 : decode cX11_next 88 = .ok (.invokestatic 164, 3) := by decide +kernel
theorem dX11_next_91 : decode cX11_next 91 = .ok (.ifCond .eq 120, 3) := by decide +kernel
theorem dX11_next_94 : decode cX11_next 94 = .ok (.lconst 0, 1) := by decide +kernel
theorem dX11_next_95 : decode cX11_next 95 = .ok (.lstore_n 2, 1) := by decide +kernel
theorem dX11_next_96 : decode cX11_next 96 = .ok (.iconst 0, 1) := by decide +kernel
theorem dX11_next_97 : decode cX11_next 97 = .ok (.istore 4, 2) := by decide +kernel
theorem dX11_next_99 : decode cX11_next 99 = .ok (.aload_n 0, 1) := by decide +kernel
theorem dX11_next_100 : decode cX11_next 100 = .ok (.getfield 152, 3) := by decide +kernel
theorem dX11_next_103 : decode cX11_next 103 = .ok (.aload_n 0, 1) := by decide +kernel
theorem dX11_next_104 : decode cX11_next 104 = .ok (.getfield 155, 3) := by decide +kernel
theorem dX11_next_107 : decode cX11_next 107 = .ok (.if_icmp .ge 66, 3) := by decide +kernel
theorem dX11_next_110 : decode cX11_next 110 = .ok (.aload_n 0, 1) := by decide +kernel
theorem dX11_next_111 : decode cX11_next 111 = .ok (.getfield 16, 3) := by decide +kernel
theorem dX11_next_114 : decode cX11_next 114 = .ok (.aload_n 0, 1) := by decide +kernel
theorem dX11_next_115 : decode cX11_next 115 = .ok (.getfield 152, 3) := by decide +kernel
theorem dX11_next_118 : decode cX11_next 118 = .ok (.baload, 1) := by decide +kernel
theorem dX11_next_119 : decode cX11_next 119 = .ok (.invokestatic 164, 3) := by decide +kernel
theorem dX11_next_122 : decode cX11_next 122 = .ok (.ifCond .eq 51, 3) := by decide +kernel
theorem dX11_next_125 : decode cX11_next 125 = .ok (.iload 4, 2) := by decide +kernel
theorem dX11_next_127 : decode cX11_next 127 = .ok (.bipush 8, 2) := by decide +kernel
theorem dX11_next_129 : decode cX11_next 129 = .ok (.if_icmp .ge 26, 3) := by decide +kernel
theorem dX11_next_132 : decode cX11_next 132 = .ok (.ldc2_w 167, 3) := by decide +kernel
theorem dX11_next_135 : decode cX11_next 135 = .ok (.lload_n 2, 1) := by decide +kernel
theorem dX11_next_136 : decode cX11_next 136 = .ok (.lmul, 1) := by decide +kernel
theorem dX11_next_137 : decode cX11_next 137 = .ok (.aload_n 0, 1) := by decide +kernel
theorem dX11_next_138 : decode cX11_next 138 = .ok (.getfield 16, 3) := by decide +kernel
theorem dX11_next_141 : decode cX11_next 141 = .ok (.aload_n 0, 1) := by decide +kernel
theorem dX11_next_142 : decode cX11_next 142 = .ok (.getfield 152, 3) := by decide +kernel
theorem dX11_next_145 : decode cX11_next 145 = .ok (.baload, 1) := by decide +kernel
theorem dX11_next_146 : decode cX11_next 146 = .ok (.i2l, 1) := by decide +kernel
theorem dX11_next_147 : decode cX11_next 147 = .ok (.ladd, 1) := by decide +kernel
theorem dX11_next_148 : decode cX11_next 148 = .ok (.ldc2_w 167, 3) := by decide +kernel
theorem dX11_next_151 : decode cX11_next 151 = .ok (.lsub, 1) := by decide +kernel
theorem dX11_next_152 : decode cX11_next 152 = .ok (.goto 4, 3) := by decide +kernel
theorem dX11_next_155 : decode cX11_next 155 = .ok (.lload_n 2, 1) := by decide +kernel
theorem dX11_next_156 : decode cX11_next 156 = .ok (.lstore_n 2, 1) := by decide +kernel
theorem dX11_next_157 : decode cX11_next 157 = .ok (.iinc 4 1, 3) := by decide +kernel
theorem dX11_next_160 : decode cX11_next 160 = .ok (.aload_n 0, 1) := by decide +kernel
theorem dX11_next_161 : decode cX11_next 161 = .ok (.dup, 1) := by decide +kernel
theorem dX11_next_162 : decode cX11_next 162 = .ok (.getfield 152, 3) := by decide +kernel
theorem dX11_next_165 : decode cX11_next 165 = .ok (.iconst 1, 1) := by decide +kernel
theorem dX11_next_166 : decode cX11_next 166 = .ok (.iadd, 1) := by decide +kernel
theorem dX11_next_167 : decode cX11_next 167 = .ok (.putfield 152, 3) := by decide +kernel
theorem dX11_next_170 : decode cX11_next 170 = .ok (.goto (-71), 3) := by decide +kernel
theorem dX11_next_173 : decode cX11_next 173 = .ok (.aload_n 0, 1) := by decide +kernel
theorem dX11_next_174 : decode cX11_next 174 = .ok (.iload 4, 2) := by decide +kernel
theorem dX11_next_176 : decode cX11_next 176 = .ok (.bipush 7, 2) := by decide +kernel
theorem dX11_next_178 : decode cX11_next 178 = .ok (.if_icmp .le 7, 3) := by decide +kernel
theorem dX11_next_181 : decode cX11_next 181 = .ok (.iconst (-1), 1) := by decide +kernel
theorem dX11_next_182 : decode cX11_next 182 = .ok (.goto 7, 3) := by decide +kernel
theorem dX11_next_185 : decode cX11_next 185 = .ok (.lload_n 2, 1) := by decide +kernel
theorem dX11_next_186 : decode cX11_next 186 = .ok (.invokestatic 169, 3) := by decide +kernel
theorem dX11_next_189 : decode cX11_next 189 = .ok (.putfield 173, 3) := by decide +kernel
theorem dX11_next_192 : decode cX11_next 192 = .ok (.aload_n 0, 1) := by decide +kernel
theorem dX11_next_193 : decode cX11_next 193 = .ok (.aload_n 0, 1) := by decide +kernel
theorem dX11_next_194 : decode cX11_next 194 = .ok (.getfield 173, 3) := by decide +kernel
theorem dX11_next_197 : decode cX11_next 197 = .ok (.ifCond .ge 7, 3) := by decide +kernel
theorem dX11_next_200 : decode cX11_next 200 = .ok (.iconst 4, 1) := by decide +kernel
theorem dX11_next_201 : decode cX11_next 201 = .ok (.goto 4, 3) := by decide +kernel
theorem dX11_next_204 : decode cX11_next 204 = .ok (.iconst 1, 1) := by decide +kernel
theorem dX11_next_205 : decode cX11_next 205 = .ok (.putfield 161, 3) := by decide +kernel
theorem dX11_next_208 : decode cX11_next 208 = .ok (.goto 231, 3) := by decide +kernel
theorem dX11_next_211 : decode cX11_next 211 = .ok (.iload_n 1, 1) := by decide +kernel
theorem dX11_next_212 : decode cX11_next 212 = .ok (.bipush 48, 2) := by decide +kernel
theorem dX11_next_214 : decode cX11_next 214 = .ok (.bipush 57, 2) := by decide +kernel
theorem dX11_next_216 : decode cX11_next 216 = .ok (.invokestatic 97, 3) := by decide +kernel
theorem dX11_next_219 : decode cX11_next 219 = .ok (.ifCond .eq 96, 3) := by decide +kernel
theorem dX11_next_222 : decode cX11_next 222 = .ok (.aload_n 0, 1) := by decide +kernel
theorem dX11_next_223 : decode cX11_next 223 = .ok (.iconst 2, 1) := by decide +kernel
theorem dX11_next_224 : decode cX11_next 224 = .ok (.putfield 161, 3) := by decide +kernel
theorem dX11_next_227 : decode cX11_next 227 = .ok (.aload_n 0, 1) := by decide +kernel
theorem dX11_next_228 : decode cX11_next 228 = .ok (.iconst 0, 1) := by decide +kernel
theorem dX11_next_229 : decode cX11_next 229 = .ok (.putfield 173, 3) := by decide +kernel
theorem dX11_next_232 : decode cX11_next 232 = .ok (.aload_n 0, 1) := by decide +kernel
theorem dX11_next_233 : decode cX11_next 233 = .ok (.getfield 152, 3) := by decide +kernel
theorem dX11_next_236 : decode cX11_next 236 = .ok (.aload_n 0, 1) := by decide +kernel
theorem dX11_next_237 : decode cX11_next 237 = .ok (.getfield 155, 3) := by decide +kernel
theorem dX11_next_240 : decode cX11_next 240 = .ok (.if_icmp .ge 199, 3) := by decide +kernel
theorem dX11_next_243 : decode cX11_next 243 = .ok (.aload_n 0, 1) := by decide +kernel
theorem dX11_next_244 : decode cX11_next 244 = .ok (.getfield 16, 3) := by decide +kernel
theorem dX11_next_247 : decode cX11_next 247 = .ok (.aload_n 0, 1) := by decide +kernel
theorem dX11_next_248 : decode cX11_next 248 = .ok (.getfield 152, 3) := by decide +kernel
theorem dX11_next_251 : decode cX11_next 251 = .ok (.baload, 1) := by decide +kernel
theorem dX11_next_252 : decode cX11_next 252 = .ok (.bipush 48, 2) := by decide +kernel
theorem dX11_next_254 : decode cX11_next 254 = .ok (.bipush 57, 2) := by decide +kernel
theorem dX11_next_256 : decode cX11_next 256 = .ok (.invokestatic 97, 3) := by decide +kernel
theorem dX11_next_259 : decode cX11_next 259 = .ok (.ifCond .eq 180, 3) := by decide +kernel
theorem dX11_next_262 : decode cX11_next 262 = .ok (.aload_n 0, 1) := by decide +kernel
theorem dX11_next_263 : decode cX11_next 263 = .ok (.aload_n 0, 1) := by decide +kernel
theorem dX11_next_264 : decode cX11_next 264 = .ok (.getfield 173, 3) := by decide +kernel
theorem dX11_next_267 : decode cX11_next 267 = .ok (.ldc 176, 2) := by decide +kernel
theorem dX11_next_269 : decode cX11_next 269 = .ok (.if_icmp .le 10, 3) := by decide +kernel
theorem dX11_next_272 : decode cX11_next 272 = .ok (.aload_n 0, 1) := by decide +kernel
theorem dX11_next_273 : decode cX11_next 273 = .ok (.getfield 173, 3) := by decide +kernel
theorem dX11_next_276 : decode cX11_next 276 = .ok (.goto 23, 3) := by decide +kernel
theorem dX11_next_279 : decode cX11_next 279 = .ok (.bipush 10, 2) := by decide +kernel
theorem dX11_next_281 : decode cX11_next 281 = .ok (.aload_n 0, 1) := by decide +kernel
theorem dX11_next_282 : decode cX11_next 282 = .ok (.getfield 173, 3) := by decide +kernel
theorem dX11_next_285 : decode cX11_next 285 = .ok (.imul, 1) := by decide +kernel
theorem dX11_next_286 : decode cX11_next 286 = .ok (.aload_n 0, 1) := by decide +kernel
theorem dX11_next_287 : decode cX11_next 287 = .ok (.getfield 16, 3) := by decide +kernel
theorem dX11_next_290 : decode cX11_next 290 = .ok (.aload_n 0, 1) := by decide +kernel
theorem dX11_next_291 : decode cX11_next 291 = .ok (.getfield 152, 3) := by decide +kernel
theorem dX11_next_294 : decode cX11_next 294 = .ok (.baload, 1) := by decide +kernel
theorem dX11_next_295 : decode cX11_next 295 = .ok (.iadd, 1) := by decide +kernel
theorem dX11_next_296 : decode cX11_next 296 = .ok (.bipush 48, 2) := by decide +kernel
theorem dX11_next_298 : decode cX11_next 298 = .ok (.isub, 1) := by decide +kernel
theorem dX11_next_299 : decode cX11_next 299 = .ok (.putfield 173, 3) := by decide +kernel
theorem dX11_next_302 : decode cX11_next 302 = .ok (.aload_n 0, 1) := by decide +kernel
theorem dX11_next_303 : decode cX11_next 303 = .ok (.dup, 1) := by decide +kernel
theorem dX11_next_304 : decode cX11_next 304 = .ok (.getfield 152, 3) := by decide +kernel
theorem dX11_next_307 : decode cX11_next 307 = .ok (.iconst 1, 1) := by decide +kernel
theorem dX11_next_308 : decode cX11_next 308 = .ok (.iadd, 1) := by decide +kernel
theorem dX11_next_309 : decode cX11_next 309 = .ok (.putfield 152, 3) := by decide +kernel
theorem dX11_next_312 : decode cX11_next 312 = .ok (.goto (-80), 3) := by decide +kernel
theorem dX11_next_315 : decode cX11_next 315 = .ok (.aload_n 0, 1) := by decide +kernel
theorem dX11_next_316 : decode cX11_next 316 = .ok (.dup, 1) := by decide +kernel
theorem dX11_next_317 : decode cX11_next 317 = .ok (.getfield 152, 3) := by decide +kernel
theorem dX11_next_320 : decode cX11_next 320 = .ok (.iconst 1, 1) := by decide +kernel
theorem dX11_next_321 : decode cX11_next 321 = .ok (.iadd, 1) := by decide +kernel
theorem dX11_next_322 : decode cX11_next 322 = .ok (.putfield 152, 3) := by decide +kernel
theorem dX11_next_325 : decode cX11_next 325 = .ok (.aload_n 0, 1) := by decide +kernel
theorem dX11_next_326 : decode cX11_next 326 = .ok (.iload_n 1, 1) := by decide +kernel
theorem dX11_next_327 : decode cX11_next 327 = .ok (.putfield 173, 3) := by decide +kernel
theorem dX11_next_330 : decode cX11_next 330 = .ok (.aload_n 0, 1) := by decide +kernel
theorem dX11_next_331 : decode cX11_next 331 = .ok (.iload_n 1, 1) := by decide +kernel
theorem dX11_next_332 : decode cX11_next 332 = .ok (.bipush 59, 2) := by decide +kernel
theorem dX11_next_334 : decode cX11_next 334 = .ok (.bipush 62, 2) := by decide +kernel
theorem dX11_next_336 : decode cX11_next 336 = .ok (.invokestatic 97, 3) := by decide +kernel
theorem dX11_next_339 : decode cX11_next 339 = .ok (.ifCond .ne 26, 3) := by decide +kernel
theorem dX11_next_342 : decode cX11_next 342 = .ok (.iload_n 1, 1) := by decide +kernel
theorem dX11_next_343 : decode cX11_next 343 = .ok (.bipush 40, 2) := by decide +kernel
theorem dX11_next_345 : decode cX11_next 345 = .ok (.bipush 45, 2) := by decide +kernel
theorem dX11_next_347 : decode cX11_next 347 = .ok (.invokestatic 97, 3) := by decide +kernel
theorem dX11_next_350 : decode cX11_next 350 = .ok (.ifCond .ne 15, 3) := by decide +kernel
theorem dX11_next_353 : decode cX11_next 353 = .ok (.iload_n 1, 1) := by decide +kernel
theorem dX11_next_354 : decode cX11_next 354 = .ok (.bipush 47, 2) := by decide +kernel
theorem dX11_next_356 : decode cX11_next 356 = .ok (.if_icmp .eq 9, 3) := by decide +kernel
theorem dX11_next_359 : decode cX11_next 359 = .ok (.iload_n 1, 1) := by decide +kernel
theorem dX11_next_360 : decode cX11_next 360 = .ok (.bipush 35, 2) := by decide +kernel
theorem dX11_next_362 : decode cX11_next 362 = .ok (.if_icmp .ne 7, 3) := by decide +kernel
theorem dX11_next_365 : decode cX11_next 365 = .ok (.iconst 3, 1) := by decide +kernel
theorem dX11_next_366 : decode cX11_next 366 = .ok (.goto 4, 3) := by decide +kernel
theorem dX11_next_369 : decode cX11_next 369 = .ok (.iconst 4, 1) := by decide +kernel
theorem dX11_next_370 : decode cX11_next 370 = .ok (.putfield 161, 3) := by decide +kernel
theorem dX11_next_373 : decode cX11_next 373 = .ok (.iload_n 1, 1) := by decide +kernel
theorem dX11_next_374 : decode cX11_next 374 = .ok (.bipush 60, 2) := by decide +kernel
theorem dX11_next_376 : decode cX11_next 376 = .ok (.if_icmp .eq 9, 3) := by decide +kernel
theorem dX11_next_379 : decode cX11_next 379 = .ok (.iload_n 1, 1) := by decide +kernel
theorem dX11_next_380 : decode cX11_next 380 = .ok (.bipush 62, 2) := by decide +kernel
theorem dX11_next_382 : decode cX11_next 382 = .ok (.if_icmp .ne 57, 3) := by decide +kernel
theorem dX11_next_385 : decode cX11_next 385 = .ok (.aload_n 0, 1) := by decide +kernel
theorem dX11_next_386 : decode cX11_next 386 = .ok (.getfield 152, 3) := by decide +kernel
theorem dX11_next_389 : decode cX11_next 389 = .ok (.aload_n 0, 1) := by decide +kernel
theorem dX11_next_390 : decode cX11_next 390 = .ok (.getfield 155, 3) := by decide +kernel
theorem dX11_next_393 : decode cX11_next 393 = .ok (.if_icmp .ge 46, 3) := by decide +kernel
theorem dX11_next_396 : decode cX11_next 396 = .ok (.aload_n 0, 1) := by decide +kernel
theorem dX11_next_397 : decode cX11_next 397 = .ok (.getfield 16, 3) := by decide +kernel
theorem dX11_next_400 : decode cX11_next 400 = .ok (.aload_n 0, 1) := by decide +kernel
theorem dX11_next_401 : decode cX11_next 401 = .ok (.getfield 152, 3) := by decide +kernel
theorem dX11_next_404 : decode cX11_next 404 = .ok (.baload, 1) := by decide +kernel
theorem dX11_next_405 : decode cX11_next 405 = .ok (.bipush 61, 2) := by decide +kernel
theorem dX11_next_407 : decode cX11_next 407 = .ok (.if_icmp .ne 32, 3) := by decide +kernel
theorem dX11_next_410 : decode cX11_next 410 = .ok (.aload_n 0, 1) := by decide +kernel
theorem dX11_next_411 : decode cX11_next 411 = .ok (.iload_n 1, 1) := by decide +kernel
theorem dX11_next_412 : decode cX11_next 412 = .ok (.bipush 60, 2) := by decide +kernel
theorem dX11_next_414 : decode cX11_next 414 = .ok (.if_icmp .ne 9, 3) := by decide +kernel
theorem dX11_next_417 : decode cX11_next 417 = .ok (.sipush 300, 3) := by decide +kernel
theorem dX11_next_420 : decode cX11_next 420 = .ok (.goto 6, 3) := by decide +kernel
theorem dX11_next_423 : decode cX11_next 423 = .ok (.sipush 301, 3) := by decide +kernel
theorem dX11_next_426 : decode cX11_next 426 = .ok (.putfield 173, 3) := by decide +kernel
theorem dX11_next_429 : decode cX11_next 429 = .ok (.aload_n 0, 1) := by decide +kernel
theorem dX11_next_430 : decode cX11_next 430 = .ok (.dup, 1) := by decide +kernel
theorem dX11_next_431 : decode cX11_next 431 = .ok (.getfield 152, 3) := by decide +kernel
theorem dX11_next_434 : decode cX11_next 434 = .ok (.iconst 1, 1) := by decide +kernel
theorem dX11_next_435 : decode cX11_next 435 = .ok (.iadd, 1) := by decide +kernel
theorem dX11_next_436 : decode cX11_next 436 = .ok (.putfield 152, 3) := by decide +kernel
theorem dX11_next_439 : decode cX11_next 439 = .ok (.return_, 1) := by decide +kernel
theorem dX11_isSign_0 : decode cX11_isSign 0 = .ok (.aload_n 0, 1) := by decide +kernel
theorem dX11_isSign_1 : decode cX11_isSign 1 = .ok (.getfield 161, 3) := by decide +kernel
theorem dX11_isSign_4 : decode cX11_isSign 4 = .ok (.iconst 3, 1) := by decide +kernel
theorem dX11_isSign_5 : decode cX11_isSign 5 = .ok (.if_icmp .ne 15, 3) := by decide +kernel
theorem dX11_isSign_8 : decode cX11_isSign 8 = .ok (.aload_n 0, 1) := by decide +kernel
theorem dX11_isSign_9 : decode cX11_isSign 9 = .ok (.getfield 173, 3) := by decide +kernel
theorem dX11_isSign_12 : decode cX11_isSign 12 = .ok (.iload_n 1, 1) := by decide +kernel
theorem dX11_isSign_13 : decode cX11_isSign 13 = .ok (.if_icmp .ne 7, 3) := by decide +kernel
theorem dX11_isSign_16 : decode cX11_isSign 16 = .ok (.iconst 1, 1) := by decide +kernel
theorem dX11_isSign_17 : decode cX11_isSign 17 = .ok (.goto 4, 3) := by decide +kernel
theorem dX11_isSign_20 : decode cX11_isSign 20 = .ok (.iconst 0, 1) := by decide +kernel
theorem dX11_isSign_21 : decode cX11_isSign 21 = .ok (.ireturn, 1) := by decide +kernel
theorem dX11_isWord_0 : decode cX11_isWord 0 = .ok (.aload_n 0, 1) := by decide +kernel
theorem dX11_isWord_1 : decode cX11_isWord 1 = .ok (.getfield 161, 3) := by decide +kernel
theorem dX11_isWord_4 : decode cX11_isWord 4 = .ok (.iconst 1, 1) := by decide +kernel
theorem dX11_isWord_5 : decode cX11_isWord 5 = .ok (.if_icmp .ne 15, 3) := by decide +kernel
theorem dX11_isWord_8 : decode cX11_isWord 8 = .ok (.aload_n 0, 1) := by decide +kernel
theorem dX11_isWord_9 : decode cX11_isWord 9 = .ok (.getfield 173, 3) := by decide +kernel
theorem dX11_isWord_12 : decode cX11_isWord 12 = .ok (.iload_n 1, 1) := by decide +kernel
theorem dX11_isWord_13 : decode cX11_isWord 13 = .ok (.if_icmp .ne 7, 3) := by decide +kernel
theorem dX11_isWord_16 : decode cX11_isWord 16 = .ok (.iconst 1, 1) := by decide +kernel
theorem dX11_isWord_17 : decode cX11_isWord 17 = .ok (.goto 4, 3) := by decide +kernel
theorem dX11_isWord_20 : decode cX11_isWord 20 = .ok (.iconst 0, 1) := by decide +kernel
theorem dX11_isWord_21 : decode cX11_isWord 21 = .ok (.ireturn, 1) := by decide +kernel
theorem dX11_errs_0 : decode cX11_errs 0 = .ok (.aload_n 0, 1) := by decide +kernel
theorem dX11_errs_1 : decode cX11_errs 1 = .ok (.getfield 177, 3) := by decide +kernel
theorem dX11_errs_4 : decode cX11_errs 4 = .ok (.ifCond .ne 16, 3) := by decide +kernel
theorem dX11_errs_7 : decode cX11_errs 7 = .ok (.aload_n 0, 1) := by decide +kernel
theorem dX11_errs_8 : decode cX11_errs 8 = .ok (.iload_n 1, 1) := by decide +kernel
theorem dX11_errs_9 : decode cX11_errs 9 = .ok (.putfield 177, 3) := by decide +kernel
theorem dX11_errs_12 : decode cX11_errs 12 = .ok (.aload_n 0, 1) := by decide +kernel
theorem dX11_errs_13 : decode cX11_errs 13 = .ok (.aload_n 0, 1) := by decide +kernel
theorem dX11_errs_14 : decode cX11_errs 14 = .ok (.getfield 158, 3) := by decide +kernel
theorem dX11_errs_17 : decode cX11_errs 17 = .ok (.putfield 180, 3) := by decide +kernel
theorem dX11_errs_20 : decode cX11_errs 20 = .ok (.return_, 1) := by decide +kernel
theorem dX11_emits_0 : decode cX11_emits 0 = .ok (.aload_n 0, 1) := by decide +kernel
theorem dX11_emits_1 : decode cX11_emits 1 = .ok (.getfield 63, 3) := by decide +kernel
theorem dX11_emits_4 : decode cX11_emits 4 = .ok (.aload_n 0, 1) := by decide +kernel
theorem dX11_emits_5 : decode cX11_emits 5 = .ok (.getfield 183, 3) := by decide +kernel
theorem dX11_emits_8 : decode cX11_emits 8 = .ok (.iload_n 1, 1) := by decide +kernel
theorem dX11_emits_9 : decode cX11_emits 9 = .ok (.iastore, 1) := by decide +kernel
theorem dX11_emits_10 : decode cX11_emits 10 = .ok (.aload_n 0, 1) := by decide +kernel
theorem dX11_emits_11 : decode cX11_emits 11 = .ok (.getfield 66, 3) := by decide +kernel
theorem dX11_emits_14 : decode cX11_emits 14 = .ok (.aload_n 0, 1) := by decide +kernel
theorem dX11_emits_15 : decode cX11_emits 15 = .ok (.getfield 183, 3) := by decide +kernel
theorem dX11_emits_18 : decode cX11_emits 18 = .ok (.iload_n 2, 1) := by decide +kernel
theorem dX11_emits_19 : decode cX11_emits 19 = .ok (.iastore, 1) := by decide +kernel
theorem dX11_emits_20 : decode cX11_emits 20 = .ok (.aload_n 0, 1) := by decide +kernel
theorem dX11_emits_21 : decode cX11_emits 21 = .ok (.dup, 1) := by decide +kernel
theorem dX11_emits_22 : decode cX11_emits 22 = .ok (.getfield 183, 3) := by decide +kernel
theorem dX11_emits_25 : decode cX11_emits 25 = .ok (.iconst 1, 1) := by decide +kernel
theorem dX11_emits_26 : decode cX11_emits 26 = .ok (.iadd, 1) := by decide +kernel
theorem dX11_emits_27 : decode cX11_emits 27 = .ok (.putfield 183, 3) := by decide +kernel
theorem dX11_emits_30 : decode cX11_emits 30 = .ok (.return_, 1) := by decide +kernel
theorem dX11_opensFrame_0 : decode cX11_opensFrame 0 = .ok (.aload_n 0, 1) := by decide +kernel
theorem dX11_opensFrame_1 : decode cX11_opensFrame 1 = .ok (.getfield 45, 3) := by decide +kernel
theorem dX11_opensFrame_4 : decode cX11_opensFrame 4 = .ok (.aload_n 0, 1) := by decide +kernel
theorem dX11_opensFrame_5 : decode cX11_opensFrame 5 = .ok (.getfield 186, 3) := by decide +kernel
theorem dX11_opensFrame_8 : decode cX11_opensFrame 8 = .ok (.iload_n 1, 1) := by decide +kernel
theorem dX11_opensFrame_9 : decode cX11_opensFrame 9 = .ok (.iastore, 1) := by decide +kernel
theorem dX11_opensFrame_10 : decode cX11_opensFrame 10 = .ok (.aload_n 0, 1) := by decide +kernel
theorem dX11_opensFrame_11 : decode cX11_opensFrame 11 = .ok (.dup, 1) := by decide +kernel
theorem dX11_opensFrame_12 : decode cX11_opensFrame 12 = .ok (.getfield 186, 3) := by decide +kernel
theorem dX11_opensFrame_15 : decode cX11_opensFrame 15 = .ok (.iconst 1, 1) := by decide +kernel
theorem dX11_opensFrame_16 : decode cX11_opensFrame 16 = .ok (.iadd, 1) := by decide +kernel
theorem dX11_opensFrame_17 : decode cX11_opensFrame 17 = .ok (.putfield 186, 3) := by decide +kernel
theorem dX11_opensFrame_20 : decode cX11_opensFrame 20 = .ok (.return_, 1) := by decide +kernel
theorem dX11_top_0 : decode cX11_top 0 = .ok (.aload_n 0, 1) := by decide +kernel
theorem dX11_top_1 : decode cX11_top 1 = .ok (.getfield 45, 3) := by decide +kernel
theorem dX11_top_4 : decode cX11_top 4 = .ok (.aload_n 0, 1) := by decide +kernel
theorem dX11_top_5 : decode cX11_top 5 = .ok (.getfield 186, 3) := by decide +kernel
theorem dX11_top_8 : decode cX11_top 8 = .ok (.iconst 1, 1) := by decide +kernel
theorem dX11_top_9 : decode cX11_top 9 = .ok (.isub, 1) := by decide +kernel
theorem dX11_top_10 : decode cX11_top 10 = .ok (.iaload, 1) := by decide +kernel
theorem dX11_top_11 : decode cX11_top 11 = .ok (.ireturn, 1) := by decide +kernel
theorem dX11_opensSign_0 : decode cX11_opensSign 0 = .ok (.aload_n 0, 1) := by decide +kernel
theorem dX11_opensSign_1 : decode cX11_opensSign 1 = .ok (.getfield 189, 3) := by decide +kernel
theorem dX11_opensSign_4 : decode cX11_opensSign 4 = .ok (.bipush 8, 2) := by decide +kernel
theorem dX11_opensSign_6 : decode cX11_opensSign 6 = .ok (.if_icmp .ne 10, 3) := by decide +kernel
theorem dX11_opensSign_9 : decode cX11_opensSign 9 = .ok (.aload_n 0, 1) := by decide +kernel
theorem dX11_opensSign_10 : decode cX11_opensSign 10 = .ok (.iconst 3, 1) := by decide +kernel
theorem dX11_opensSign_11 : decode cX11_opensSign 11 = .ok (.invokevirtual 192, 3) := by decide +kernel
theorem dX11_opensSign_14 : decode cX11_opensSign 14 = .ok (.iconst 0, 1) := by decide +kernel
theorem dX11_opensSign_15 : decode cX11_opensSign 15 = .ok (.ireturn, 1) := by decide +kernel
theorem dX11_opensSign_16 : decode cX11_opensSign 16 = .ok (.aload_n 0, 1) := by decide +kernel
theorem dX11_opensSign_17 : decode cX11_opensSign 17 = .ok (.dup, 1) := by decide +kernel
theorem dX11_opensSign_18 : decode cX11_opensSign 18 = .ok (.getfield 189, 3) := by decide +kernel
theorem dX11_opensSign_21 : decode cX11_opensSign 21 = .ok (.iconst 1, 1) := by decide +kernel
theorem dX11_opensSign_22 : decode cX11_opensSign 22 = .ok (.iadd, 1) := by decide +kernel
theorem dX11_opensSign_23 : decode cX11_opensSign 23 = .ok (.putfield 189, 3) := by decide +kernel
theorem dX11_opensSign_26 : decode cX11_opensSign 26 = .ok (.aload_n 0, 1) := by decide +kernel
theorem dX11_opensSign_27 : decode cX11_opensSign 27 = .ok (.iload_n 1, 1) := by decide +kernel
theorem dX11_opensSign_28 : decode cX11_opensSign 28 = .ok (.invokevirtual 195, 3) := by decide +kernel
theorem dX11_opensSign_31 : decode cX11_opensSign 31 = .ok (.aload_n 0, 1) := by decide +kernel
theorem dX11_opensSign_32 : decode cX11_opensSign 32 = .ok (.invokevirtual 198, 3) := by decide +kernel
theorem dX11_opensSign_35 : decode cX11_opensSign 35 = .ok (.iconst 1, 1) := by decide +kernel
theorem dX11_opensSign_36 : decode cX11_opensSign 36 = .ok (.ireturn, 1) := by decide +kernel
theorem dX11_rank_0 : decode cX11_rank 0 = .ok (.iload_n 0, 1) := by decide +kernel
theorem dX11_rank_1 : decode cX11_rank 1 = .ok (.sipush 407, 3) := by decide +kernel
theorem dX11_rank_4 : decode cX11_rank 4 = .ok (.if_icmp .ne 7, 3) := by decide +kernel
theorem dX11_rank_7 : decode cX11_rank 7 = .ok (.iconst 1, 1) := by decide +kernel
theorem dX11_rank_8 : decode cX11_rank 8 = .ok (.goto 31, 3) := by decide +kernel
theorem dX11_rank_11 : decode cX11_rank 11 = .ok (.iload_n 0, 1) := by decide +kernel
theorem dX11_rank_12 : decode cX11_rank 12 = .ok (.sipush 406, 3) := by decide +kernel
theorem dX11_rank_15 : decode cX11_rank 15 = .ok (.if_icmp .ne 7, 3) := by decide +kernel
theorem dX11_rank_18 : decode cX11_rank 18 = .ok (.iconst 2, 1) := by decide +kernel
theorem dX11_rank_19 : decode cX11_rank 19 = .ok (.goto 20, 3) := by decide +kernel
theorem dX11_rank_22 : decode cX11_rank 22 = .ok (.iload_n 0, 1) := by decide +kernel
theorem dX11_rank_23 : decode cX11_rank 23 = .ok (.bipush 43, 2) := by decide +kernel
theorem dX11_rank_25 : decode cX11_rank 25 = .ok (.if_icmp .eq 9, 3) := by decide +kernel
theorem dX11_rank_28 : decode cX11_rank 28 = .ok (.iload_n 0, 1) := by decide +kernel
theorem dX11_rank_29 : decode cX11_rank 29 = .ok (.bipush 45, 2) := by decide +kernel
theorem dX11_rank_31 : decode cX11_rank 31 = .ok (.if_icmp .ne 7, 3) := by decide +kernel
theorem dX11_rank_34 : decode cX11_rank 34 = .ok (.iconst 3, 1) := by decide +kernel
theorem dX11_rank_35 : decode cX11_rank 35 = .ok (.goto 4, 3) := by decide +kernel
theorem dX11_rank_38 : decode cX11_rank 38 = .ok (.iconst 4, 1) := by decide +kernel
theorem dX11_rank_39 : decode cX11_rank 39 = .ok (.ireturn, 1) := by decide +kernel
theorem dX11_works_0 : decode cX11_works 0 = .ok (.aload_n 0, 1) := by decide +kernel
theorem dX11_works_1 : decode cX11_works 1 = .ok (.getfield 201, 3) := by decide +kernel
theorem dX11_works_4 : decode cX11_works 4 = .ok (.ifCond .le 66, 3) := by decide +kernel
theorem dX11_works_7 : decode cX11_works 7 = .ok (.aload_n 0, 1) := by decide +kernel
theorem dX11_works_8 : decode cX11_works 8 = .ok (.getfield 54, 3) := by decide +kernel
theorem dX11_works_11 : decode cX11_works 11 = .ok (.aload_n 0, 1) := by decide +kernel
theorem dX11_works_12 : decode cX11_works 12 = .ok (.getfield 201, 3) := by decide +kernel
theorem dX11_works_15 : decode cX11_works 15 = .ok (.iconst 1, 1) := by decide +kernel
theorem dX11_works_16 : decode cX11_works 16 = .ok (.isub, 1) := by decide +kernel
theorem dX11_works_17 : decode cX11_works 17 = .ok (.iaload, 1) := by decide +kernel
theorem dX11_works_18 : decode cX11_works 18 = .ok (.aload_n 0, 1) := by decide +kernel
theorem dX11_works_19 : decode cX11_works 19 = .ok (.getfield 186, 3) := by decide +kernel
theorem dX11_works_22 : decode cX11_works 22 = .ok (.if_icmp .ne 48, 3) := by decide +kernel
theorem dX11_works_25 : decode cX11_works 25 = .ok (.aload_n 0, 1) := by decide +kernel
theorem dX11_works_26 : decode cX11_works 26 = .ok (.getfield 51, 3) := by decide +kernel
theorem dX11_works_29 : decode cX11_works 29 = .ok (.aload_n 0, 1) := by decide +kernel
theorem dX11_works_30 : decode cX11_works 30 = .ok (.getfield 201, 3) := by decide +kernel
theorem dX11_works_33 : decode cX11_works 33 = .ok (.iconst 1, 1) := by decide +kernel
theorem dX11_works_34 : decode cX11_works 34 = .ok (.isub, 1) := by decide +kernel
theorem dX11_works_35 : decode cX11_works 35 = .ok (.iaload, 1) := by decide +kernel
theorem dX11_works_36 : decode cX11_works 36 = .ok (.invokestatic 204, 3) := by decide +kernel
theorem dX11_works_39 : decode cX11_works 39 = .ok (.iload_n 1, 1) := by decide +kernel
theorem dX11_works_40 : decode cX11_works 40 = .ok (.if_icmp .lt 30, 3) := by decide +kernel
theorem dX11_works_43 : decode cX11_works 43 = .ok (.aload_n 0, 1) := by decide +kernel
theorem dX11_works_44 : decode cX11_works 44 = .ok (.dup, 1) := by decide +kernel
theorem dX11_works_45 : decode cX11_works 45 = .ok (.getfield 201, 3) := by decide +kernel
theorem dX11_works_48 : decode cX11_works 48 = .ok (.iconst 1, 1) := by decide +kernel
theorem dX11_works_49 : decode cX11_works 49 = .ok (.isub, 1) := by decide +kernel
theorem dX11_works_50 : decode cX11_works 50 = .ok (.putfield 201, 3) := by decide +kernel
theorem dX11_works_53 : decode cX11_works 53 = .ok (.aload_n 0, 1) := by decide +kernel
theorem dX11_works_54 : decode cX11_works 54 = .ok (.aload_n 0, 1) := by decide +kernel
theorem dX11_works_55 : decode cX11_works 55 = .ok (.getfield 51, 3) := by decide +kernel
theorem dX11_works_58 : decode cX11_works 58 = .ok (.aload_n 0, 1) := by decide +kernel
theorem dX11_works_59 : decode cX11_works 59 = .ok (.getfield 201, 3) := by decide +kernel
theorem dX11_works_62 : decode cX11_works 62 = .ok (.iaload, 1) := by decide +kernel
theorem dX11_works_63 : decode cX11_works 63 = .ok (.iconst 0, 1) := by decide +kernel
theorem dX11_works_64 : decode cX11_works 64 = .ok (.invokevirtual 208, 3) := by decide +kernel
theorem dX11_works_67 : decode cX11_works 67 = .ok (.goto (-67), 3) := by decide +kernel
theorem dX11_works_70 : decode cX11_works 70 = .ok (.return_, 1) := by decide +kernel
theorem dX11_waitsFor_0 : decode cX11_waitsFor 0 = .ok (.aload_n 0, 1) := by decide +kernel
theorem dX11_waitsFor_1 : decode cX11_waitsFor 1 = .ok (.iload_n 1, 1) := by decide +kernel
theorem dX11_waitsFor_2 : decode cX11_waitsFor 2 = .ok (.invokestatic 204, 3) := by decide +kernel
theorem dX11_waitsFor_5 : decode cX11_waitsFor 5 = .ok (.invokevirtual 212, 3) := by decide +kernel
theorem dX11_waitsFor_8 : decode cX11_waitsFor 8 = .ok (.aload_n 0, 1) := by decide +kernel
theorem dX11_waitsFor_9 : decode cX11_waitsFor 9 = .ok (.getfield 51, 3) := by decide +kernel
theorem dX11_waitsFor_12 : decode cX11_waitsFor 12 = .ok (.aload_n 0, 1) := by decide +kernel
theorem dX11_waitsFor_13 : decode cX11_waitsFor 13 = .ok (.getfield 201, 3) := by decide +kernel
theorem dX11_waitsFor_16 : decode cX11_waitsFor 16 = .ok (.iload_n 1, 1) := by decide +kernel
theorem dX11_waitsFor_17 : decode cX11_waitsFor 17 = .ok (.iastore, 1) := by decide +kernel
theorem dX11_waitsFor_18 : decode cX11_waitsFor 18 = .ok (.aload_n 0, 1) := by decide +kernel
theorem dX11_waitsFor_19 : decode cX11_waitsFor 19 = .ok (.getfield 54, 3) := by decide +kernel
theorem dX11_waitsFor_22 : decode cX11_waitsFor 22 = .ok (.aload_n 0, 1) := by decide +kernel
theorem dX11_waitsFor_23 : decode cX11_waitsFor 23 = .ok (.getfield 201, 3) := by decide +kernel
theorem dX11_waitsFor_26 : decode cX11_waitsFor 26 = .ok (.aload_n 0, 1) := by decide +kernel
theorem dX11_waitsFor_27 : decode cX11_waitsFor 27 = .ok (.getfield 186, 3) := by decide +kernel
theorem dX11_waitsFor_30 : decode cX11_waitsFor 30 = .ok (.iastore, 1) := by decide +kernel
theorem dX11_waitsFor_31 : decode cX11_waitsFor 31 = .ok (.aload_n 0, 1) := by decide +kernel
theorem dX11_waitsFor_32 : decode cX11_waitsFor 32 = .ok (.dup, 1) := by decide +kernel
theorem dX11_waitsFor_33 : decode cX11_waitsFor 33 = .ok (.getfield 201, 3) := by decide +kernel
theorem dX11_waitsFor_36 : decode cX11_waitsFor 36 = .ok (.iconst 1, 1) := by decide +kernel
theorem dX11_waitsFor_37 : decode cX11_waitsFor 37 = .ok (.iadd, 1) := by decide +kernel
theorem dX11_waitsFor_38 : decode cX11_waitsFor 38 = .ok (.putfield 201, 3) := by decide +kernel
theorem dX11_waitsFor_41 : decode cX11_waitsFor 41 = .ok (.aload_n 0, 1) := by decide +kernel
theorem dX11_waitsFor_42 : decode cX11_waitsFor 42 = .ok (.invokevirtual 198, 3) := by decide +kernel
theorem dX11_waitsFor_45 : decode cX11_waitsFor 45 = .ok (.return_, 1) := by decide +kernel
theorem dX11_asks_0 : decode cX11_asks 0 = .ok (.aload_n 0, 1) := by decide +kernel
theorem dX11_asks_1 : decode cX11_asks 1 = .ok (.iconst 4, 1) := by decide +kernel
theorem dX11_asks_2 : decode cX11_asks 2 = .ok (.invokevirtual 215, 3) := by decide +kernel
theorem dX11_asks_5 : decode cX11_asks 5 = .ok (.ifCond .eq 12, 3) := by decide +kernel
theorem dX11_asks_8 : decode cX11_asks 8 = .ok (.aload_n 0, 1) := by decide +kernel
theorem dX11_asks_9 : decode cX11_asks 9 = .ok (.iconst 3, 1) := by decide +kernel
theorem dX11_asks_10 : decode cX11_asks 10 = .ok (.invokevirtual 218, 3) := by decide +kernel
theorem dX11_asks_13 : decode cX11_asks 13 = .ok (.istore_n 1, 1) := by decide +kernel
theorem dX11_asks_14 : decode cX11_asks 14 = .ok (.goto 13, 3) := by decide +kernel
theorem dX11_asks_17 : decode cX11_asks 17 = .ok (.aload_n 0, 1) := by decide +kernel
theorem dX11_asks_18 : decode cX11_asks 18 = .ok (.iconst 4, 1) := by decide +kernel
theorem dX11_asks_19 : decode cX11_asks 19 = .ok (.invokevirtual 195, 3) := by decide +kernel
theorem dX11_asks_22 : decode cX11_asks 22 = .ok (.aload_n 0, 1) := by decide +kernel
theorem dX11_asks_23 : decode cX11_asks 23 = .ok (.iconst 1, 1) := by decide +kernel
theorem dX11_asks_24 : decode cX11_asks 24 = .ok (.putfield 221, 3) := by decide +kernel
theorem dX11_asks_27 : decode cX11_asks 27 = .ok (.return_, 1) := by decide +kernel
theorem dX11_begins_0 : decode cX11_begins 0 = .ok (.aload_n 0, 1) := by decide +kernel
theorem dX11_begins_1 : decode cX11_begins 1 = .ok (.getfield 161, 3) := by decide +kernel
theorem dX11_begins_4 : decode cX11_begins 4 = .ok (.iconst 2, 1) := by decide +kernel
theorem dX11_begins_5 : decode cX11_begins 5 = .ok (.if_icmp .ne 41, 3) := by decide +kernel
theorem dX11_begins_8 : decode cX11_begins 8 = .ok (.aload_n 0, 1) := by decide +kernel
theorem dX11_begins_9 : decode cX11_begins 9 = .ok (.getfield 173, 3) := by decide +kernel
theorem dX11_begins_12 : decode cX11_begins 12 = .ok (.sipush 9999, 3) := by decide +kernel
theorem dX11_begins_15 : decode cX11_begins 15 = .ok (.if_icmp .le 9, 3) := by decide +kernel
theorem dX11_begins_18 : decode cX11_begins 18 = .ok (.aload_n 0, 1) := by decide +kernel
theorem dX11_begins_19 : decode cX11_begins 19 = .ok (.iconst 2, 1) := by decide +kernel
theorem dX11_begins_20 : decode cX11_begins 20 = .ok (.invokevirtual 192, 3) := by decide +kernel
theorem dX11_begins_23 : decode cX11_begins 23 = .ok (.return_, 1) := by decide +kernel
theorem dX11_begins_24 : decode cX11_begins 24 = .ok (.aload_n 0, 1) := by decide +kernel
theorem dX11_begins_25 : decode cX11_begins 25 = .ok (.sipush 400, 3) := by decide +kernel
theorem dX11_begins_28 : decode cX11_begins 28 = .ok (.aload_n 0, 1) := by decide +kernel
theorem dX11_begins_29 : decode cX11_begins 29 = .ok (.getfield 173, 3) := by decide +kernel
theorem dX11_begins_32 : decode cX11_begins 32 = .ok (.invokevirtual 208, 3) := by decide +kernel
theorem dX11_begins_35 : decode cX11_begins 35 = .ok (.aload_n 0, 1) := by decide +kernel
theorem dX11_begins_36 : decode cX11_begins 36 = .ok (.invokevirtual 198, 3) := by decide +kernel
theorem dX11_begins_39 : decode cX11_begins 39 = .ok (.aload_n 0, 1) := by decide +kernel
theorem dX11_begins_40 : decode cX11_begins 40 = .ok (.invokevirtual 224, 3) := by decide +kernel
theorem dX11_begins_43 : decode cX11_begins 43 = .ok (.goto 88, 3) := by decide +kernel
theorem dX11_begins_46 : decode cX11_begins 46 = .ok (.aload_n 0, 1) := by decide +kernel
theorem dX11_begins_47 : decode cX11_begins 47 = .ok (.getfield 161, 3) := by decide +kernel
theorem dX11_begins_50 : decode cX11_begins 50 = .ok (.iconst 1, 1) := by decide +kernel
theorem dX11_begins_51 : decode cX11_begins 51 = .ok (.if_icmp .ne 37, 3) := by decide +kernel
theorem dX11_begins_54 : decode cX11_begins 54 = .ok (.aload_n 0, 1) := by decide +kernel
theorem dX11_begins_55 : decode cX11_begins 55 = .ok (.getfield 173, 3) := by decide +kernel
theorem dX11_begins_58 : decode cX11_begins 58 = .ok (.iconst 4, 1) := by decide +kernel
theorem dX11_begins_59 : decode cX11_begins 59 = .ok (.if_icmp .le 29, 3) := by decide +kernel
theorem dX11_begins_62 : decode cX11_begins 62 = .ok (.aload_n 0, 1) := by decide +kernel
theorem dX11_begins_63 : decode cX11_begins 63 = .ok (.sipush 401, 3) := by decide +kernel
theorem dX11_begins_66 : decode cX11_begins 66 = .ok (.aload_n 0, 1) := by decide +kernel
theorem dX11_begins_67 : decode cX11_begins 67 = .ok (.getfield 173, 3) := by decide +kernel
theorem dX11_begins_70 : decode cX11_begins 70 = .ok (.iconst 4, 1) := by decide +kernel
theorem dX11_begins_71 : decode cX11_begins 71 = .ok (.isub, 1) := by decide +kernel
theorem dX11_begins_72 : decode cX11_begins 72 = .ok (.iconst 1, 1) := by decide +kernel
theorem dX11_begins_73 : decode cX11_begins 73 = .ok (.isub, 1) := by decide +kernel
theorem dX11_begins_74 : decode cX11_begins 74 = .ok (.invokevirtual 208, 3) := by decide +kernel
theorem dX11_begins_77 : decode cX11_begins 77 = .ok (.aload_n 0, 1) := by decide +kernel
theorem dX11_begins_78 : decode cX11_begins 78 = .ok (.invokevirtual 198, 3) := by decide +kernel
theorem dX11_begins_81 : decode cX11_begins 81 = .ok (.aload_n 0, 1) := by decide +kernel
theorem dX11_begins_82 : decode cX11_begins 82 = .ok (.invokevirtual 224, 3) := by decide +kernel
theorem dX11_begins_85 : decode cX11_begins 85 = .ok (.goto 46, 3) := by decide +kernel
theorem dX11_begins_88 : decode cX11_begins 88 = .ok (.aload_n 0, 1) := by decide +kernel
theorem dX11_begins_89 : decode cX11_begins 89 = .ok (.bipush 40, 2) := by decide +kernel
theorem dX11_begins_91 : decode cX11_begins 91 = .ok (.invokevirtual 227, 3) := by decide +kernel
theorem dX11_begins_94 : decode cX11_begins 94 = .ok (.ifCond .eq 13, 3) := by decide +kernel
theorem dX11_begins_97 : decode cX11_begins 97 = .ok (.aload_n 0, 1) := by decide +kernel
theorem dX11_begins_98 : decode cX11_begins 98 = .ok (.bipush 6, 2) := by decide +kernel
theorem dX11_begins_100 : decode cX11_begins 100 = .ok (.invokevirtual 218, 3) := by decide +kernel
theorem dX11_begins_103 : decode cX11_begins 103 = .ok (.istore_n 1, 1) := by decide +kernel
theorem dX11_begins_104 : decode cX11_begins 104 = .ok (.goto 27, 3) := by decide +kernel
theorem dX11_begins_107 : decode cX11_begins 107 = .ok (.aload_n 0, 1) := by decide +kernel
theorem dX11_begins_108 : decode cX11_begins 108 = .ok (.bipush 45, 2) := by decide +kernel
theorem dX11_begins_110 : decode cX11_begins 110 = .ok (.invokevirtual 227, 3) := by decide +kernel
theorem dX11_begins_113 : decode cX11_begins 113 = .ok (.ifCond .eq 13, 3) := by decide +kernel
theorem dX11_begins_116 : decode cX11_begins 116 = .ok (.aload_n 0, 1) := by decide +kernel
theorem dX11_begins_117 : decode cX11_begins 117 = .ok (.bipush 7, 2) := by decide +kernel
theorem dX11_begins_119 : decode cX11_begins 119 = .ok (.invokevirtual 218, 3) := by decide +kernel
theorem dX11_begins_122 : decode cX11_begins 122 = .ok (.istore_n 1, 1) := by decide +kernel
theorem dX11_begins_123 : decode cX11_begins 123 = .ok (.goto 8, 3) := by decide +kernel
theorem dX11_begins_126 : decode cX11_begins 126 = .ok (.aload_n 0, 1) := by decide +kernel
theorem dX11_begins_127 : decode cX11_begins 127 = .ok (.iconst 1, 1) := by decide +kernel
theorem dX11_begins_128 : decode cX11_begins 128 = .ok (.invokevirtual 192, 3) := by decide +kernel
theorem dX11_begins_131 : decode cX11_begins 131 = .ok (.return_, 1) := by decide +kernel
theorem dX11_oneIsOver_0 : decode cX11_oneIsOver 0 = .ok (.aload_n 0, 1) := by decide +kernel
theorem dX11_oneIsOver_1 : decode cX11_oneIsOver 1 = .ok (.invokevirtual 230, 3) := by decide +kernel
theorem dX11_oneIsOver_4 : decode cX11_oneIsOver 4 = .ok (.bipush 7, 2) := by decide +kernel
theorem dX11_oneIsOver_6 : decode cX11_oneIsOver 6 = .ok (.if_icmp .ne 34, 3) := by decide +kernel
theorem dX11_oneIsOver_9 : decode cX11_oneIsOver 9 = .ok (.aload_n 0, 1) := by decide +kernel
theorem dX11_oneIsOver_10 : decode cX11_oneIsOver 10 = .ok (.dup, 1) := by decide +kernel
theorem dX11_oneIsOver_11 : decode cX11_oneIsOver 11 = .ok (.getfield 186, 3) := by decide +kernel
theorem dX11_oneIsOver_14 : decode cX11_oneIsOver 14 = .ok (.iconst 1, 1) := by decide +kernel
theorem dX11_oneIsOver_15 : decode cX11_oneIsOver 15 = .ok (.isub, 1) := by decide +kernel
theorem dX11_oneIsOver_16 : decode cX11_oneIsOver 16 = .ok (.putfield 186, 3) := by decide +kernel
theorem dX11_oneIsOver_19 : decode cX11_oneIsOver 19 = .ok (.aload_n 0, 1) := by decide +kernel
theorem dX11_oneIsOver_20 : decode cX11_oneIsOver 20 = .ok (.dup, 1) := by decide +kernel
theorem dX11_oneIsOver_21 : decode cX11_oneIsOver 21 = .ok (.getfield 189, 3) := by decide +kernel
theorem dX11_oneIsOver_24 : decode cX11_oneIsOver 24 = .ok (.iconst 1, 1) := by decide +kernel
theorem dX11_oneIsOver_25 : decode cX11_oneIsOver 25 = .ok (.isub, 1) := by decide +kernel
theorem dX11_oneIsOver_26 : decode cX11_oneIsOver 26 = .ok (.putfield 189, 3) := by decide +kernel
theorem dX11_oneIsOver_29 : decode cX11_oneIsOver 29 = .ok (.aload_n 0, 1) := by decide +kernel
theorem dX11_oneIsOver_30 : decode cX11_oneIsOver 30 = .ok (.sipush 402, 3) := by decide +kernel
theorem dX11_oneIsOver_33 : decode cX11_oneIsOver 33 = .ok (.iconst 0, 1) := by decide +kernel
theorem dX11_oneIsOver_34 : decode cX11_oneIsOver 34 = .ok (.invokevirtual 208, 3) := by decide +kernel
theorem dX11_oneIsOver_37 : decode cX11_oneIsOver 37 = .ok (.goto (-37), 3) := by decide +kernel
theorem dX11_oneIsOver_40 : decode cX11_oneIsOver 40 = .ok (.aload_n 0, 1) := by decide +kernel
theorem dX11_oneIsOver_41 : decode cX11_oneIsOver 41 = .ok (.iconst 2, 1) := by decide +kernel
theorem dX11_oneIsOver_42 : decode cX11_oneIsOver 42 = .ok (.putfield 221, 3) := by decide +kernel
theorem dX11_oneIsOver_45 : decode cX11_oneIsOver 45 = .ok (.return_, 1) := by decide +kernel
theorem dX11_askIsOver_0 : decode cX11_askIsOver 0 = .ok (.aload_n 0, 1) := by decide +kernel
theorem dX11_askIsOver_1 : decode cX11_askIsOver 1 = .ok (.invokevirtual 230, 3) := by decide +kernel
theorem dX11_askIsOver_4 : decode cX11_askIsOver 4 = .ok (.iconst 3, 1) := by decide +kernel
theorem dX11_askIsOver_5 : decode cX11_askIsOver 5 = .ok (.if_icmp .ne 34, 3) := by decide +kernel
theorem dX11_askIsOver_8 : decode cX11_askIsOver 8 = .ok (.aload_n 0, 1) := by decide +kernel
theorem dX11_askIsOver_9 : decode cX11_askIsOver 9 = .ok (.dup, 1) := by decide +kernel
theorem dX11_askIsOver_10 : decode cX11_askIsOver 10 = .ok (.getfield 186, 3) := by decide +kernel
theorem dX11_askIsOver_13 : decode cX11_askIsOver 13 = .ok (.iconst 1, 1) := by decide +kernel
theorem dX11_askIsOver_14 : decode cX11_askIsOver 14 = .ok (.isub, 1) := by decide +kernel
theorem dX11_askIsOver_15 : decode cX11_askIsOver 15 = .ok (.putfield 186, 3) := by decide +kernel
theorem dX11_askIsOver_18 : decode cX11_askIsOver 18 = .ok (.aload_n 0, 1) := by decide +kernel
theorem dX11_askIsOver_19 : decode cX11_askIsOver 19 = .ok (.dup, 1) := by decide +kernel
theorem dX11_askIsOver_20 : decode cX11_askIsOver 20 = .ok (.getfield 189, 3) := by decide +kernel
theorem dX11_askIsOver_23 : decode cX11_askIsOver 23 = .ok (.iconst 1, 1) := by decide +kernel
theorem dX11_askIsOver_24 : decode cX11_askIsOver 24 = .ok (.isub, 1) := by decide +kernel
theorem dX11_askIsOver_25 : decode cX11_askIsOver 25 = .ok (.putfield 189, 3) := by decide +kernel
theorem dX11_askIsOver_28 : decode cX11_askIsOver 28 = .ok (.aload_n 0, 1) := by decide +kernel
theorem dX11_askIsOver_29 : decode cX11_askIsOver 29 = .ok (.sipush 405, 3) := by decide +kernel
theorem dX11_askIsOver_32 : decode cX11_askIsOver 32 = .ok (.iconst 0, 1) := by decide +kernel
theorem dX11_askIsOver_33 : decode cX11_askIsOver 33 = .ok (.invokevirtual 208, 3) := by decide +kernel
theorem dX11_askIsOver_36 : decode cX11_askIsOver 36 = .ok (.goto (-36), 3) := by decide +kernel
theorem dX11_askIsOver_39 : decode cX11_askIsOver 39 = .ok (.aload_n 0, 1) := by decide +kernel
theorem dX11_askIsOver_40 : decode cX11_askIsOver 40 = .ok (.iconst 3, 1) := by decide +kernel
theorem dX11_askIsOver_41 : decode cX11_askIsOver 41 = .ok (.putfield 221, 3) := by decide +kernel
theorem dX11_askIsOver_44 : decode cX11_askIsOver 44 = .ok (.return_, 1) := by decide +kernel
theorem dX11_isAsking_0 : decode cX11_isAsking 0 = .ok (.iload_n 0, 1) := by decide +kernel
theorem dX11_isAsking_1 : decode cX11_isAsking 1 = .ok (.bipush 60, 2) := by decide +kernel
theorem dX11_isAsking_3 : decode cX11_isAsking 3 = .ok (.if_icmp .eq 35, 3) := by decide +kernel
theorem dX11_isAsking_6 : decode cX11_isAsking 6 = .ok (.iload_n 0, 1) := by decide +kernel
theorem dX11_isAsking_7 : decode cX11_isAsking 7 = .ok (.bipush 62, 2) := by decide +kernel
theorem dX11_isAsking_9 : decode cX11_isAsking 9 = .ok (.if_icmp .eq 29, 3) := by decide +kernel
theorem dX11_isAsking_12 : decode cX11_isAsking 12 = .ok (.iload_n 0, 1) := by decide +kernel
theorem dX11_isAsking_13 : decode cX11_isAsking 13 = .ok (.bipush 61, 2) := by decide +kernel
theorem dX11_isAsking_15 : decode cX11_isAsking 15 = .ok (.if_icmp .eq 23, 3) := by decide +kernel
theorem dX11_isAsking_18 : decode cX11_isAsking 18 = .ok (.iload_n 0, 1) := by decide +kernel
theorem dX11_isAsking_19 : decode cX11_isAsking 19 = .ok (.bipush 35, 2) := by decide +kernel
theorem dX11_isAsking_21 : decode cX11_isAsking 21 = .ok (.if_icmp .eq 17, 3) := by decide +kernel
theorem dX11_isAsking_24 : decode cX11_isAsking 24 = .ok (.iload_n 0, 1) := by decide +kernel
theorem dX11_isAsking_25 : decode cX11_isAsking 25 = .ok (.sipush 300, 3) := by decide +kernel
theorem dX11_isAsking_28 : decode cX11_isAsking 28 = .ok (.if_icmp .eq 10, 3) := by decide +kernel
theorem dX11_isAsking_31 : decode cX11_isAsking 31 = .ok (.iload_n 0, 1) := by decide +kernel
theorem dX11_isAsking_32 : decode cX11_isAsking 32 = .ok (.sipush 301, 3) := by decide +kernel
theorem dX11_isAsking_35 : decode cX11_isAsking 35 = .ok (.if_icmp .ne 7, 3) := by decide +kernel
theorem dX11_isAsking_38 : decode cX11_isAsking 38 = .ok (.iconst 1, 1) := by decide +kernel
theorem dX11_isAsking_39 : decode cX11_isAsking 39 = .ok (.goto 4, 3) := by decide +kernel
theorem dX11_isAsking_42 : decode cX11_isAsking 42 = .ok (.iconst 0, 1) := by decide +kernel
theorem dX11_isAsking_43 : decode cX11_isAsking 43 = .ok (.ireturn, 1) := by decide +kernel
theorem dX11_goesOn_0 : decode cX11_goesOn 0 = .ok (.aload_n 0, 1) := by decide +kernel
theorem dX11_goesOn_1 : decode cX11_goesOn 1 = .ok (.invokevirtual 230, 3) := by decide +kernel
theorem dX11_goesOn_4 : decode cX11_goesOn 4 = .ok (.istore_n 1, 1) := by decide +kernel
theorem dX11_goesOn_5 : decode cX11_goesOn 5 = .ok (.aload_n 0, 1) := by decide +kernel
theorem dX11_goesOn_6 : decode cX11_goesOn 6 = .ok (.getfield 161, 3) := by decide +kernel
theorem dX11_goesOn_9 : decode cX11_goesOn 9 = .ok (.iconst 3, 1) := by decide +kernel
theorem dX11_goesOn_10 : decode cX11_goesOn 10 = .ok (.if_icmp .ne 55, 3) := by decide +kernel
theorem dX11_goesOn_13 : decode cX11_goesOn 13 = .ok (.aload_n 0, 1) := by decide +kernel
theorem dX11_goesOn_14 : decode cX11_goesOn 14 = .ok (.getfield 173, 3) := by decide +kernel
theorem dX11_goesOn_17 : decode cX11_goesOn 17 = .ok (.bipush 43, 2) := by decide +kernel
theorem dX11_goesOn_19 : decode cX11_goesOn 19 = .ok (.if_icmp .eq 30, 3) := by decide +kernel
theorem dX11_goesOn_22 : decode cX11_goesOn 22 = .ok (.aload_n 0, 1) := by decide +kernel
theorem dX11_goesOn_23 : decode cX11_goesOn 23 = .ok (.getfield 173, 3) := by decide +kernel
theorem dX11_goesOn_26 : decode cX11_goesOn 26 = .ok (.bipush 45, 2) := by decide +kernel
theorem dX11_goesOn_28 : decode cX11_goesOn 28 = .ok (.if_icmp .eq 21, 3) := by decide +kernel
theorem dX11_goesOn_31 : decode cX11_goesOn 31 = .ok (.aload_n 0, 1) := by decide +kernel
theorem dX11_goesOn_32 : decode cX11_goesOn 32 = .ok (.getfield 173, 3) := by decide +kernel
theorem dX11_goesOn_35 : decode cX11_goesOn 35 = .ok (.bipush 42, 2) := by decide +kernel
theorem dX11_goesOn_37 : decode cX11_goesOn 37 = .ok (.if_icmp .eq 12, 3) := by decide +kernel
theorem dX11_goesOn_40 : decode cX11_goesOn 40 = .ok (.aload_n 0, 1) := by decide +kernel
theorem dX11_goesOn_41 : decode cX11_goesOn 41 = .ok (.getfield 173, 3) := by decide +kernel
theorem dX11_goesOn_44 : decode cX11_goesOn 44 = .ok (.bipush 47, 2) := by decide +kernel
theorem dX11_goesOn_46 : decode cX11_goesOn 46 = .ok (.if_icmp .ne 19, 3) := by decide +kernel
theorem dX11_goesOn_49 : decode cX11_goesOn 49 = .ok (.aload_n 0, 1) := by decide +kernel
theorem dX11_goesOn_50 : decode cX11_goesOn 50 = .ok (.aload_n 0, 1) := by decide +kernel
theorem dX11_goesOn_51 : decode cX11_goesOn 51 = .ok (.getfield 173, 3) := by decide +kernel
theorem dX11_goesOn_54 : decode cX11_goesOn 54 = .ok (.invokevirtual 234, 3) := by decide +kernel
theorem dX11_goesOn_57 : decode cX11_goesOn 57 = .ok (.aload_n 0, 1) := by decide +kernel
theorem dX11_goesOn_58 : decode cX11_goesOn 58 = .ok (.iconst 1, 1) := by decide +kernel
theorem dX11_goesOn_59 : decode cX11_goesOn 59 = .ok (.putfield 221, 3) := by decide +kernel
theorem dX11_goesOn_62 : decode cX11_goesOn 62 = .ok (.goto 188, 3) := by decide +kernel
theorem dX11_goesOn_65 : decode cX11_goesOn 65 = .ok (.iload_n 1, 1) := by decide +kernel
theorem dX11_goesOn_66 : decode cX11_goesOn 66 = .ok (.bipush 6, 2) := by decide +kernel
theorem dX11_goesOn_68 : decode cX11_goesOn 68 = .ok (.if_icmp .ne 48, 3) := by decide +kernel
theorem dX11_goesOn_71 : decode cX11_goesOn 71 = .ok (.aload_n 0, 1) := by decide +kernel
theorem dX11_goesOn_72 : decode cX11_goesOn 72 = .ok (.bipush 41, 2) := by decide +kernel
theorem dX11_goesOn_74 : decode cX11_goesOn 74 = .ok (.invokevirtual 227, 3) := by decide +kernel
theorem dX11_goesOn_77 : decode cX11_goesOn 77 = .ok (.ifCond .eq 39, 3) := by decide +kernel
theorem dX11_goesOn_80 : decode cX11_goesOn 80 = .ok (.aload_n 0, 1) := by decide +kernel
theorem dX11_goesOn_81 : decode cX11_goesOn 81 = .ok (.iconst 3, 1) := by decide +kernel
theorem dX11_goesOn_82 : decode cX11_goesOn 82 = .ok (.invokevirtual 212, 3) := by decide +kernel
theorem dX11_goesOn_85 : decode cX11_goesOn 85 = .ok (.aload_n 0, 1) := by decide +kernel
theorem dX11_goesOn_86 : decode cX11_goesOn 86 = .ok (.dup, 1) := by decide +kernel
theorem dX11_goesOn_87 : decode cX11_goesOn 87 = .ok (.getfield 186, 3) := by decide +kernel
theorem dX11_goesOn_90 : decode cX11_goesOn 90 = .ok (.iconst 1, 1) := by decide +kernel
theorem dX11_goesOn_91 : decode cX11_goesOn 91 = .ok (.isub, 1) := by decide +kernel
theorem dX11_goesOn_92 : decode cX11_goesOn 92 = .ok (.putfield 186, 3) := by decide +kernel
theorem dX11_goesOn_95 : decode cX11_goesOn 95 = .ok (.aload_n 0, 1) := by decide +kernel
theorem dX11_goesOn_96 : decode cX11_goesOn 96 = .ok (.dup, 1) := by decide +kernel
theorem dX11_goesOn_97 : decode cX11_goesOn 97 = .ok (.getfield 189, 3) := by decide +kernel
theorem dX11_goesOn_100 : decode cX11_goesOn 100 = .ok (.iconst 1, 1) := by decide +kernel
theorem dX11_goesOn_101 : decode cX11_goesOn 101 = .ok (.isub, 1) := by decide +kernel
theorem dX11_goesOn_102 : decode cX11_goesOn 102 = .ok (.putfield 189, 3) := by decide +kernel
theorem dX11_goesOn_105 : decode cX11_goesOn 105 = .ok (.aload_n 0, 1) := by decide +kernel
theorem dX11_goesOn_106 : decode cX11_goesOn 106 = .ok (.invokevirtual 198, 3) := by decide +kernel
theorem dX11_goesOn_109 : decode cX11_goesOn 109 = .ok (.aload_n 0, 1) := by decide +kernel
theorem dX11_goesOn_110 : decode cX11_goesOn 110 = .ok (.invokevirtual 224, 3) := by decide +kernel
theorem dX11_goesOn_113 : decode cX11_goesOn 113 = .ok (.goto 137, 3) := by decide +kernel
theorem dX11_goesOn_116 : decode cX11_goesOn 116 = .ok (.iload_n 1, 1) := by decide +kernel
theorem dX11_goesOn_117 : decode cX11_goesOn 117 = .ok (.iconst 4, 1) := by decide +kernel
theorem dX11_goesOn_118 : decode cX11_goesOn 118 = .ok (.if_icmp .ne 63, 3) := by decide +kernel
theorem dX11_goesOn_121 : decode cX11_goesOn 121 = .ok (.aload_n 0, 1) := by decide +kernel
theorem dX11_goesOn_122 : decode cX11_goesOn 122 = .ok (.getfield 161, 3) := by decide +kernel
theorem dX11_goesOn_125 : decode cX11_goesOn 125 = .ok (.iconst 3, 1) := by decide +kernel
theorem dX11_goesOn_126 : decode cX11_goesOn 126 = .ok (.if_icmp .ne 55, 3) := by decide +kernel
theorem dX11_goesOn_129 : decode cX11_goesOn 129 = .ok (.aload_n 0, 1) := by decide +kernel
theorem dX11_goesOn_130 : decode cX11_goesOn 130 = .ok (.getfield 173, 3) := by decide +kernel
theorem dX11_goesOn_133 : decode cX11_goesOn 133 = .ok (.invokestatic 237, 3) := by decide +kernel
theorem dX11_goesOn_136 : decode cX11_goesOn 136 = .ok (.ifCond .eq 45, 3) := by decide +kernel
theorem dX11_goesOn_139 : decode cX11_goesOn 139 = .ok (.aload_n 0, 1) := by decide +kernel
theorem dX11_goesOn_140 : decode cX11_goesOn 140 = .ok (.iconst 3, 1) := by decide +kernel
theorem dX11_goesOn_141 : decode cX11_goesOn 141 = .ok (.invokevirtual 212, 3) := by decide +kernel
theorem dX11_goesOn_144 : decode cX11_goesOn 144 = .ok (.aload_n 0, 1) := by decide +kernel
theorem dX11_goesOn_145 : decode cX11_goesOn 145 = .ok (.getfield 48, 3) := by decide +kernel
theorem dX11_goesOn_148 : decode cX11_goesOn 148 = .ok (.aload_n 0, 1) := by decide +kernel
theorem dX11_goesOn_149 : decode cX11_goesOn 149 = .ok (.getfield 186, 3) := by decide +kernel
theorem dX11_goesOn_152 : decode cX11_goesOn 152 = .ok (.aload_n 0, 1) := by decide +kernel
theorem dX11_goesOn_153 : decode cX11_goesOn 153 = .ok (.getfield 173, 3) := by decide +kernel
theorem dX11_goesOn_156 : decode cX11_goesOn 156 = .ok (.iastore, 1) := by decide +kernel
theorem dX11_goesOn_157 : decode cX11_goesOn 157 = .ok (.aload_n 0, 1) := by decide +kernel
theorem dX11_goesOn_158 : decode cX11_goesOn 158 = .ok (.getfield 45, 3) := by decide +kernel
theorem dX11_goesOn_161 : decode cX11_goesOn 161 = .ok (.aload_n 0, 1) := by decide +kernel
theorem dX11_goesOn_162 : decode cX11_goesOn 162 = .ok (.getfield 186, 3) := by decide +kernel
theorem dX11_goesOn_165 : decode cX11_goesOn 165 = .ok (.iconst 1, 1) := by decide +kernel
theorem dX11_goesOn_166 : decode cX11_goesOn 166 = .ok (.isub, 1) := by decide +kernel
theorem dX11_goesOn_167 : decode cX11_goesOn 167 = .ok (.iconst 5, 1) := by decide +kernel
theorem dX11_goesOn_168 : decode cX11_goesOn 168 = .ok (.iastore, 1) := by decide +kernel
theorem dX11_goesOn_169 : decode cX11_goesOn 169 = .ok (.aload_n 0, 1) := by decide +kernel
theorem dX11_goesOn_170 : decode cX11_goesOn 170 = .ok (.invokevirtual 198, 3) := by decide +kernel
theorem dX11_goesOn_173 : decode cX11_goesOn 173 = .ok (.aload_n 0, 1) := by decide +kernel
theorem dX11_goesOn_174 : decode cX11_goesOn 174 = .ok (.iconst 1, 1) := by decide +kernel
theorem dX11_goesOn_175 : decode cX11_goesOn 175 = .ok (.putfield 221, 3) := by decide +kernel
theorem dX11_goesOn_178 : decode cX11_goesOn 178 = .ok (.goto 72, 3) := by decide +kernel
theorem dX11_goesOn_181 : decode cX11_goesOn 181 = .ok (.iload_n 1, 1) := by decide +kernel
theorem dX11_goesOn_182 : decode cX11_goesOn 182 = .ok (.iconst 5, 1) := by decide +kernel
theorem dX11_goesOn_183 : decode cX11_goesOn 183 = .ok (.if_icmp .ne 41, 3) := by decide +kernel
theorem dX11_goesOn_186 : decode cX11_goesOn 186 = .ok (.aload_n 0, 1) := by decide +kernel
theorem dX11_goesOn_187 : decode cX11_goesOn 187 = .ok (.iconst 3, 1) := by decide +kernel
theorem dX11_goesOn_188 : decode cX11_goesOn 188 = .ok (.invokevirtual 212, 3) := by decide +kernel
theorem dX11_goesOn_191 : decode cX11_goesOn 191 = .ok (.aload_n 0, 1) := by decide +kernel
theorem dX11_goesOn_192 : decode cX11_goesOn 192 = .ok (.getfield 48, 3) := by decide +kernel
theorem dX11_goesOn_195 : decode cX11_goesOn 195 = .ok (.aload_n 0, 1) := by decide +kernel
theorem dX11_goesOn_196 : decode cX11_goesOn 196 = .ok (.getfield 186, 3) := by decide +kernel
theorem dX11_goesOn_199 : decode cX11_goesOn 199 = .ok (.iaload, 1) := by decide +kernel
theorem dX11_goesOn_200 : decode cX11_goesOn 200 = .ok (.istore_n 2, 1) := by decide +kernel
theorem dX11_goesOn_201 : decode cX11_goesOn 201 = .ok (.aload_n 0, 1) := by decide +kernel
theorem dX11_goesOn_202 : decode cX11_goesOn 202 = .ok (.dup, 1) := by decide +kernel
theorem dX11_goesOn_203 : decode cX11_goesOn 203 = .ok (.getfield 186, 3) := by decide +kernel
theorem dX11_goesOn_206 : decode cX11_goesOn 206 = .ok (.iconst 1, 1) := by decide +kernel
theorem dX11_goesOn_207 : decode cX11_goesOn 207 = .ok (.isub, 1) := by decide +kernel
theorem dX11_goesOn_208 : decode cX11_goesOn 208 = .ok (.putfield 186, 3) := by decide +kernel
theorem dX11_goesOn_211 : decode cX11_goesOn 211 = .ok (.aload_n 0, 1) := by decide +kernel
theorem dX11_goesOn_212 : decode cX11_goesOn 212 = .ok (.iload_n 2, 1) := by decide +kernel
theorem dX11_goesOn_213 : decode cX11_goesOn 213 = .ok (.iconst 0, 1) := by decide +kernel
theorem dX11_goesOn_214 : decode cX11_goesOn 214 = .ok (.invokevirtual 208, 3) := by decide +kernel
theorem dX11_goesOn_217 : decode cX11_goesOn 217 = .ok (.aload_n 0, 1) := by decide +kernel
theorem dX11_goesOn_218 : decode cX11_goesOn 218 = .ok (.invokevirtual 240, 3) := by decide +kernel
theorem dX11_goesOn_221 : decode cX11_goesOn 221 = .ok (.goto 29, 3) := by decide +kernel
theorem dX11_goesOn_224 : decode cX11_goesOn 224 = .ok (.iload_n 1, 1) := by decide +kernel
theorem dX11_goesOn_225 : decode cX11_goesOn 225 = .ok (.iconst 1, 1) := by decide +kernel
theorem dX11_goesOn_226 : decode cX11_goesOn 226 = .ok (.if_icmp .ne 19, 3) := by decide +kernel
theorem dX11_goesOn_229 : decode cX11_goesOn 229 = .ok (.aload_n 0, 1) := by decide +kernel
theorem dX11_goesOn_230 : decode cX11_goesOn 230 = .ok (.bipush 59, 2) := by decide +kernel
theorem dX11_goesOn_232 : decode cX11_goesOn 232 = .ok (.invokevirtual 227, 3) := by decide +kernel
theorem dX11_goesOn_235 : decode cX11_goesOn 235 = .ok (.ifCond .eq 10, 3) := by decide +kernel
theorem dX11_goesOn_238 : decode cX11_goesOn 238 = .ok (.aload_n 0, 1) := by decide +kernel
theorem dX11_goesOn_239 : decode cX11_goesOn 239 = .ok (.invokevirtual 243, 3) := by decide +kernel
theorem dX11_goesOn_242 : decode cX11_goesOn 242 = .ok (.goto 8, 3) := by decide +kernel
theorem dX11_goesOn_245 : decode cX11_goesOn 245 = .ok (.aload_n 0, 1) := by decide +kernel
theorem dX11_goesOn_246 : decode cX11_goesOn 246 = .ok (.iconst 1, 1) := by decide +kernel
theorem dX11_goesOn_247 : decode cX11_goesOn 247 = .ok (.invokevirtual 192, 3) := by decide +kernel
theorem dX11_goesOn_250 : decode cX11_goesOn 250 = .ok (.return_, 1) := by decide +kernel
theorem dX11_asksOn_0 : decode cX11_asksOn 0 = .ok (.aload_n 0, 1) := by decide +kernel
theorem dX11_asksOn_1 : decode cX11_asksOn 1 = .ok (.iconst 2, 1) := by decide +kernel
theorem dX11_asksOn_2 : decode cX11_asksOn 2 = .ok (.invokevirtual 215, 3) := by decide +kernel
theorem dX11_asksOn_5 : decode cX11_asksOn 5 = .ok (.ifCond .ne 11, 3) := by decide +kernel
theorem dX11_asksOn_8 : decode cX11_asksOn 8 = .ok (.aload_n 0, 1) := by decide +kernel
theorem dX11_asksOn_9 : decode cX11_asksOn 9 = .ok (.iconst 3, 1) := by decide +kernel
theorem dX11_asksOn_10 : decode cX11_asksOn 10 = .ok (.invokevirtual 215, 3) := by decide +kernel
theorem dX11_asksOn_13 : decode cX11_asksOn 13 = .ok (.ifCond .eq 32, 3) := by decide +kernel
theorem dX11_asksOn_16 : decode cX11_asksOn 16 = .ok (.aload_n 0, 1) := by decide +kernel
theorem dX11_asksOn_17 : decode cX11_asksOn 17 = .ok (.aload_n 0, 1) := by decide +kernel
theorem dX11_asksOn_18 : decode cX11_asksOn 18 = .ok (.iconst 2, 1) := by decide +kernel
theorem dX11_asksOn_19 : decode cX11_asksOn 19 = .ok (.invokevirtual 215, 3) := by decide +kernel
theorem dX11_asksOn_22 : decode cX11_asksOn 22 = .ok (.ifCond .eq 9, 3) := by decide +kernel
theorem dX11_asksOn_25 : decode cX11_asksOn 25 = .ok (.sipush 407, 3) := by decide +kernel
theorem dX11_asksOn_28 : decode cX11_asksOn 28 = .ok (.goto 6, 3) := by decide +kernel
theorem dX11_asksOn_31 : decode cX11_asksOn 31 = .ok (.sipush 406, 3) := by decide +kernel
theorem dX11_asksOn_34 : decode cX11_asksOn 34 = .ok (.invokevirtual 234, 3) := by decide +kernel
theorem dX11_asksOn_37 : decode cX11_asksOn 37 = .ok (.aload_n 0, 1) := by decide +kernel
theorem dX11_asksOn_38 : decode cX11_asksOn 38 = .ok (.iconst 0, 1) := by decide +kernel
theorem dX11_asksOn_39 : decode cX11_asksOn 39 = .ok (.putfield 221, 3) := by decide +kernel
theorem dX11_asksOn_42 : decode cX11_asksOn 42 = .ok (.goto 32, 3) := by decide +kernel
theorem dX11_asksOn_45 : decode cX11_asksOn 45 = .ok (.aload_n 0, 1) := by decide +kernel
theorem dX11_asksOn_46 : decode cX11_asksOn 46 = .ok (.invokevirtual 230, 3) := by decide +kernel
theorem dX11_asksOn_49 : decode cX11_asksOn 49 = .ok (.iconst 2, 1) := by decide +kernel
theorem dX11_asksOn_50 : decode cX11_asksOn 50 = .ok (.if_icmp .ne 19, 3) := by decide +kernel
theorem dX11_asksOn_53 : decode cX11_asksOn 53 = .ok (.aload_n 0, 1) := by decide +kernel
theorem dX11_asksOn_54 : decode cX11_asksOn 54 = .ok (.bipush 59, 2) := by decide +kernel
theorem dX11_asksOn_56 : decode cX11_asksOn 56 = .ok (.invokevirtual 227, 3) := by decide +kernel
theorem dX11_asksOn_59 : decode cX11_asksOn 59 = .ok (.ifCond .eq 10, 3) := by decide +kernel
theorem dX11_asksOn_62 : decode cX11_asksOn 62 = .ok (.aload_n 0, 1) := by decide +kernel
theorem dX11_asksOn_63 : decode cX11_asksOn 63 = .ok (.invokevirtual 243, 3) := by decide +kernel
theorem dX11_asksOn_66 : decode cX11_asksOn 66 = .ok (.goto 8, 3) := by decide +kernel
theorem dX11_asksOn_69 : decode cX11_asksOn 69 = .ok (.aload_n 0, 1) := by decide +kernel
theorem dX11_asksOn_70 : decode cX11_asksOn 70 = .ok (.iconst 1, 1) := by decide +kernel
theorem dX11_asksOn_71 : decode cX11_asksOn 71 = .ok (.invokevirtual 192, 3) := by decide +kernel
theorem dX11_asksOn_74 : decode cX11_asksOn 74 = .ok (.return_, 1) := by decide +kernel
theorem dX11_clauseIsOver_0 : decode cX11_clauseIsOver 0 = .ok (.aload_n 0, 1) := by decide +kernel
theorem dX11_clauseIsOver_1 : decode cX11_clauseIsOver 1 = .ok (.iconst 1, 1) := by decide +kernel
theorem dX11_clauseIsOver_2 : decode cX11_clauseIsOver 2 = .ok (.invokevirtual 212, 3) := by decide +kernel
theorem dX11_clauseIsOver_5 : decode cX11_clauseIsOver 5 = .ok (.aload_n 0, 1) := by decide +kernel
theorem dX11_clauseIsOver_6 : decode cX11_clauseIsOver 6 = .ok (.iconst 0, 1) := by decide +kernel
theorem dX11_clauseIsOver_7 : decode cX11_clauseIsOver 7 = .ok (.putfield 186, 3) := by decide +kernel
theorem dX11_clauseIsOver_10 : decode cX11_clauseIsOver 10 = .ok (.aload_n 0, 1) := by decide +kernel
theorem dX11_clauseIsOver_11 : decode cX11_clauseIsOver 11 = .ok (.sipush 408, 3) := by decide +kernel
theorem dX11_clauseIsOver_14 : decode cX11_clauseIsOver 14 = .ok (.iconst 0, 1) := by decide +kernel
theorem dX11_clauseIsOver_15 : decode cX11_clauseIsOver 15 = .ok (.invokevirtual 208, 3) := by decide +kernel
theorem dX11_clauseIsOver_18 : decode cX11_clauseIsOver 18 = .ok (.aload_n 0, 1) := by decide +kernel
theorem dX11_clauseIsOver_19 : decode cX11_clauseIsOver 19 = .ok (.dup, 1) := by decide +kernel
theorem dX11_clauseIsOver_20 : decode cX11_clauseIsOver 20 = .ok (.getfield 246, 3) := by decide +kernel
theorem dX11_clauseIsOver_23 : decode cX11_clauseIsOver 23 = .ok (.iconst 1, 1) := by decide +kernel
theorem dX11_clauseIsOver_24 : decode cX11_clauseIsOver 24 = .ok (.iadd, 1) := by decide +kernel
theorem dX11_clauseIsOver_25 : decode cX11_clauseIsOver 25 = .ok (.putfield 246, 3) := by decide +kernel
theorem dX11_clauseIsOver_28 : decode cX11_clauseIsOver 28 = .ok (.aload_n 0, 1) := by decide +kernel
theorem dX11_clauseIsOver_29 : decode cX11_clauseIsOver 29 = .ok (.invokevirtual 198, 3) := by decide +kernel
theorem dX11_clauseIsOver_32 : decode cX11_clauseIsOver 32 = .ok (.aload_n 0, 1) := by decide +kernel
theorem dX11_clauseIsOver_33 : decode cX11_clauseIsOver 33 = .ok (.iconst 4, 1) := by decide +kernel
theorem dX11_clauseIsOver_34 : decode cX11_clauseIsOver 34 = .ok (.putfield 221, 3) := by decide +kernel
theorem dX11_clauseIsOver_37 : decode cX11_clauseIsOver 37 = .ok (.return_, 1) := by decide +kernel
theorem dX11_wasHold_0 : decode cX11_wasHold 0 = .ok (.iconst 0, 1) := by decide +kernel
theorem dX11_wasHold_1 : decode cX11_wasHold 1 = .ok (.istore_n 1, 1) := by decide +kernel
theorem dX11_wasHold_2 : decode cX11_wasHold 2 = .ok (.iconst 0, 1) := by decide +kernel
theorem dX11_wasHold_3 : decode cX11_wasHold 3 = .ok (.istore_n 2, 1) := by decide +kernel
theorem dX11_wasHold_4 : decode cX11_wasHold 4 = .ok (.iload_n 2, 1) := by decide +kernel
theorem dX11_wasHold_5 : decode cX11_wasHold 5 = .ok (.aload_n 0, 1) := by decide +kernel
theorem dX11_wasHold_6 : decode cX11_wasHold 6 = .ok (.getfield 246, 3) := by decide +kernel
theorem dX11_wasHold_9 : decode cX11_wasHold 9 = .ok (.if_icmp .ge 28, 3) := by decide +kernel
theorem dX11_wasHold_12 : decode cX11_wasHold 12 = .ok (.iload_n 1, 1) := by decide +kernel
theorem dX11_wasHold_13 : decode cX11_wasHold 13 = .ok (.ifCond .ne 12, 3) := by decide +kernel
theorem dX11_wasHold_16 : decode cX11_wasHold 16 = .ok (.aload_n 0, 1) := by decide +kernel
theorem dX11_wasHold_17 : decode cX11_wasHold 17 = .ok (.getfield 57, 3) := by decide +kernel
theorem dX11_wasHold_20 : decode cX11_wasHold 20 = .ok (.iload_n 2, 1) := by decide +kernel
theorem dX11_wasHold_21 : decode cX11_wasHold 21 = .ok (.iaload, 1) := by decide +kernel
theorem dX11_wasHold_22 : decode cX11_wasHold 22 = .ok (.ifCond .ne 7, 3) := by decide +kernel
theorem dX11_wasHold_25 : decode cX11_wasHold 25 = .ok (.iconst 1, 1) := by decide +kernel
theorem dX11_wasHold_26 : decode cX11_wasHold 26 = .ok (.goto 4, 3) := by decide +kernel
theorem dX11_wasHold_29 : decode cX11_wasHold 29 = .ok (.iconst 0, 1) := by decide +kernel
theorem dX11_wasHold_30 : decode cX11_wasHold 30 = .ok (.istore_n 1, 1) := by decide +kernel
theorem dX11_wasHold_31 : decode cX11_wasHold 31 = .ok (.iinc 2 1, 3) := by decide +kernel
theorem dX11_wasHold_34 : decode cX11_wasHold 34 = .ok (.goto (-30), 3) := by decide +kernel
theorem dX11_wasHold_37 : decode cX11_wasHold 37 = .ok (.iload_n 1, 1) := by decide +kernel
theorem dX11_wasHold_38 : decode cX11_wasHold 38 = .ok (.ireturn, 1) := by decide +kernel
theorem dX11_clause_0 : decode cX11_clause 0 = .ok (.aload_n 0, 1) := by decide +kernel
theorem dX11_clause_1 : decode cX11_clause 1 = .ok (.getfield 161, 3) := by decide +kernel
theorem dX11_clause_4 : decode cX11_clause 4 = .ok (.iconst 1, 1) := by decide +kernel
theorem dX11_clause_5 : decode cX11_clause 5 = .ok (.if_icmp .ne 11, 3) := by decide +kernel
theorem dX11_clause_8 : decode cX11_clause 8 = .ok (.aload_n 0, 1) := by decide +kernel
theorem dX11_clause_9 : decode cX11_clause 9 = .ok (.getfield 173, 3) := by decide +kernel
theorem dX11_clause_12 : decode cX11_clause 12 = .ok (.iconst 1, 1) := by decide +kernel
theorem dX11_clause_13 : decode cX11_clause 13 = .ok (.if_icmp .le 9, 3) := by decide +kernel
theorem dX11_clause_16 : decode cX11_clause 16 = .ok (.aload_n 0, 1) := by decide +kernel
theorem dX11_clause_17 : decode cX11_clause 17 = .ok (.iconst 1, 1) := by decide +kernel
theorem dX11_clause_18 : decode cX11_clause 18 = .ok (.invokevirtual 192, 3) := by decide +kernel
theorem dX11_clause_21 : decode cX11_clause 21 = .ok (.return_, 1) := by decide +kernel
theorem dX11_clause_22 : decode cX11_clause 22 = .ok (.aload_n 0, 1) := by decide +kernel
theorem dX11_clause_23 : decode cX11_clause 23 = .ok (.getfield 173, 3) := by decide +kernel
theorem dX11_clause_26 : decode cX11_clause 26 = .ok (.istore_n 1, 1) := by decide +kernel
theorem dX11_clause_27 : decode cX11_clause 27 = .ok (.iload_n 1, 1) := by decide +kernel
theorem dX11_clause_28 : decode cX11_clause 28 = .ok (.ifCond .ne 18, 3) := by decide +kernel
theorem dX11_clause_31 : decode cX11_clause 31 = .ok (.aload_n 0, 1) := by decide +kernel
theorem dX11_clause_32 : decode cX11_clause 32 = .ok (.invokevirtual 249, 3) := by decide +kernel
theorem dX11_clause_35 : decode cX11_clause 35 = .ok (.ifCond .eq 11, 3) := by decide +kernel
theorem dX11_clause_38 : decode cX11_clause 38 = .ok (.aload_n 0, 1) := by decide +kernel
theorem dX11_clause_39 : decode cX11_clause 39 = .ok (.iconst 4, 1) := by decide +kernel
theorem dX11_clause_40 : decode cX11_clause 40 = .ok (.invokevirtual 192, 3) := by decide +kernel
theorem dX11_clause_43 : decode cX11_clause 43 = .ok (.goto 17, 3) := by decide +kernel
theorem dX11_clause_46 : decode cX11_clause 46 = .ok (.aload_n 0, 1) := by decide +kernel
theorem dX11_clause_47 : decode cX11_clause 47 = .ok (.getfield 246, 3) := by decide +kernel
theorem dX11_clause_50 : decode cX11_clause 50 = .ok (.bipush 10, 2) := by decide +kernel
theorem dX11_clause_52 : decode cX11_clause 52 = .ok (.if_icmp .ne 8, 3) := by decide +kernel
theorem dX11_clause_55 : decode cX11_clause 55 = .ok (.aload_n 0, 1) := by decide +kernel
theorem dX11_clause_56 : decode cX11_clause 56 = .ok (.iconst 5, 1) := by decide +kernel
theorem dX11_clause_57 : decode cX11_clause 57 = .ok (.invokevirtual 192, 3) := by decide +kernel
theorem dX11_clause_60 : decode cX11_clause 60 = .ok (.aload_n 0, 1) := by decide +kernel
theorem dX11_clause_61 : decode cX11_clause 61 = .ok (.getfield 177, 3) := by decide +kernel
theorem dX11_clause_64 : decode cX11_clause 64 = .ok (.ifCond .le 4, 3) := by decide +kernel
theorem dX11_clause_67 : decode cX11_clause 67 = .ok (.return_, 1) := by decide +kernel
theorem dX11_clause_68 : decode cX11_clause 68 = .ok (.aload_n 0, 1) := by decide +kernel
theorem dX11_clause_69 : decode cX11_clause 69 = .ok (.getfield 57, 3) := by decide +kernel
theorem dX11_clause_72 : decode cX11_clause 72 = .ok (.aload_n 0, 1) := by decide +kernel
theorem dX11_clause_73 : decode cX11_clause 73 = .ok (.getfield 246, 3) := by decide +kernel
theorem dX11_clause_76 : decode cX11_clause 76 = .ok (.iload_n 1, 1) := by decide +kernel
theorem dX11_clause_77 : decode cX11_clause 77 = .ok (.iastore, 1) := by decide +kernel
theorem dX11_clause_78 : decode cX11_clause 78 = .ok (.aload_n 0, 1) := by decide +kernel
theorem dX11_clause_79 : decode cX11_clause 79 = .ok (.getfield 60, 3) := by decide +kernel
theorem dX11_clause_82 : decode cX11_clause 82 = .ok (.aload_n 0, 1) := by decide +kernel
theorem dX11_clause_83 : decode cX11_clause 83 = .ok (.getfield 246, 3) := by decide +kernel
theorem dX11_clause_86 : decode cX11_clause 86 = .ok (.aload_n 0, 1) := by decide +kernel
theorem dX11_clause_87 : decode cX11_clause 87 = .ok (.getfield 183, 3) := by decide +kernel
theorem dX11_clause_90 : decode cX11_clause 90 = .ok (.iastore, 1) := by decide +kernel
theorem dX11_clause_91 : decode cX11_clause 91 = .ok (.aload_n 0, 1) := by decide +kernel
theorem dX11_clause_92 : decode cX11_clause 92 = .ok (.invokevirtual 198, 3) := by decide +kernel
theorem dX11_clause_95 : decode cX11_clause 95 = .ok (.aload_n 0, 1) := by decide +kernel
theorem dX11_clause_96 : decode cX11_clause 96 = .ok (.iload_n 1, 1) := by decide +kernel
theorem dX11_clause_97 : decode cX11_clause 97 = .ok (.ifCond .ne 7, 3) := by decide +kernel
theorem dX11_clause_100 : decode cX11_clause 100 = .ok (.iconst 1, 1) := by decide +kernel
theorem dX11_clause_101 : decode cX11_clause 101 = .ok (.goto 4, 3) := by decide +kernel
theorem dX11_clause_104 : decode cX11_clause 104 = .ok (.iconst 2, 1) := by decide +kernel
theorem dX11_clause_105 : decode cX11_clause 105 = .ok (.invokevirtual 195, 3) := by decide +kernel
theorem dX11_clause_108 : decode cX11_clause 108 = .ok (.aload_n 0, 1) := by decide +kernel
theorem dX11_clause_109 : decode cX11_clause 109 = .ok (.iload_n 1, 1) := by decide +kernel
theorem dX11_clause_110 : decode cX11_clause 110 = .ok (.ifCond .ne 7, 3) := by decide +kernel
theorem dX11_clause_113 : decode cX11_clause 113 = .ok (.iconst 1, 1) := by decide +kernel
theorem dX11_clause_114 : decode cX11_clause 114 = .ok (.goto 4, 3) := by decide +kernel
theorem dX11_clause_117 : decode cX11_clause 117 = .ok (.iconst 0, 1) := by decide +kernel
theorem dX11_clause_118 : decode cX11_clause 118 = .ok (.putfield 221, 3) := by decide +kernel
theorem dX11_clause_121 : decode cX11_clause 121 = .ok (.return_, 1) := by decide +kernel
theorem dX11_text_0 : decode cX11_text 0 = .ok (.aload_n 0, 1) := by decide +kernel
theorem dX11_text_1 : decode cX11_text 1 = .ok (.getfield 7, 3) := by decide +kernel
theorem dX11_text_4 : decode cX11_text 4 = .ok (.iconst 0, 1) := by decide +kernel
theorem dX11_text_5 : decode cX11_text 5 = .ok (.iaload, 1) := by decide +kernel
theorem dX11_text_6 : decode cX11_text 6 = .ok (.iconst 4, 1) := by decide +kernel
theorem dX11_text_7 : decode cX11_text 7 = .ok (.if_icmp .ne 5, 3) := by decide +kernel
theorem dX11_text_10 : decode cX11_text 10 = .ok (.iconst (-1), 1) := by decide +kernel
theorem dX11_text_11 : decode cX11_text 11 = .ok (.ireturn, 1) := by decide +kernel
theorem dX11_text_12 : decode cX11_text 12 = .ok (.aload_n 0, 1) := by decide +kernel
theorem dX11_text_13 : decode cX11_text 13 = .ok (.aload_n 0, 1) := by decide +kernel
theorem dX11_text_14 : decode cX11_text 14 = .ok (.getfield 122, 3) := by decide +kernel
theorem dX11_text_17 : decode cX11_text 17 = .ok (.putfield 155, 3) := by decide +kernel
theorem dX11_text_20 : decode cX11_text 20 = .ok (.aload_n 0, 1) := by decide +kernel
theorem dX11_text_21 : decode cX11_text 21 = .ok (.iconst 0, 1) := by decide +kernel
theorem dX11_text_22 : decode cX11_text 22 = .ok (.putfield 122, 3) := by decide +kernel
theorem dX11_text_25 : decode cX11_text 25 = .ok (.aload_n 0, 1) := by decide +kernel
theorem dX11_text_26 : decode cX11_text 26 = .ok (.iconst 0, 1) := by decide +kernel
theorem dX11_text_27 : decode cX11_text 27 = .ok (.putfield 152, 3) := by decide +kernel
theorem dX11_text_30 : decode cX11_text 30 = .ok (.aload_n 0, 1) := by decide +kernel
theorem dX11_text_31 : decode cX11_text 31 = .ok (.iconst 0, 1) := by decide +kernel
theorem dX11_text_32 : decode cX11_text 32 = .ok (.putfield 177, 3) := by decide +kernel
theorem dX11_text_35 : decode cX11_text 35 = .ok (.aload_n 0, 1) := by decide +kernel
theorem dX11_text_36 : decode cX11_text 36 = .ok (.iconst (-1), 1) := by decide +kernel
theorem dX11_text_37 : decode cX11_text 37 = .ok (.putfield 180, 3) := by decide +kernel
theorem dX11_text_40 : decode cX11_text 40 = .ok (.aload_n 0, 1) := by decide +kernel
theorem dX11_text_41 : decode cX11_text 41 = .ok (.iconst 0, 1) := by decide +kernel
theorem dX11_text_42 : decode cX11_text 42 = .ok (.putfield 189, 3) := by decide +kernel
theorem dX11_text_45 : decode cX11_text 45 = .ok (.aload_n 0, 1) := by decide +kernel
theorem dX11_text_46 : decode cX11_text 46 = .ok (.iconst 0, 1) := by decide +kernel
theorem dX11_text_47 : decode cX11_text 47 = .ok (.putfield 186, 3) := by decide +kernel
theorem dX11_text_50 : decode cX11_text 50 = .ok (.aload_n 0, 1) := by decide +kernel
theorem dX11_text_51 : decode cX11_text 51 = .ok (.iconst 0, 1) := by decide +kernel
theorem dX11_text_52 : decode cX11_text 52 = .ok (.putfield 201, 3) := by decide +kernel
theorem dX11_text_55 : decode cX11_text 55 = .ok (.aload_n 0, 1) := by decide +kernel
theorem dX11_text_56 : decode cX11_text 56 = .ok (.iconst 4, 1) := by decide +kernel
theorem dX11_text_57 : decode cX11_text 57 = .ok (.putfield 221, 3) := by decide +kernel
theorem dX11_text_60 : decode cX11_text 60 = .ok (.aload_n 0, 1) := by decide +kernel
theorem dX11_text_61 : decode cX11_text 61 = .ok (.iconst 0, 1) := by decide +kernel
theorem dX11_text_62 : decode cX11_text 62 = .ok (.putfield 246, 3) := by decide +kernel
theorem dX11_text_65 : decode cX11_text 65 = .ok (.aload_n 0, 1) := by decide +kernel
theorem dX11_text_66 : decode cX11_text 66 = .ok (.iconst 0, 1) := by decide +kernel
theorem dX11_text_67 : decode cX11_text 67 = .ok (.putfield 183, 3) := by decide +kernel
theorem dX11_text_70 : decode cX11_text 70 = .ok (.aload_n 0, 1) := by decide +kernel
theorem dX11_text_71 : decode cX11_text 71 = .ok (.invokevirtual 198, 3) := by decide +kernel
theorem dX11_text_74 : decode cX11_text 74 = .ok (.aload_n 0, 1) := by decide +kernel
theorem dX11_text_75 : decode cX11_text 75 = .ok (.getfield 177, 3) := by decide +kernel
theorem dX11_text_78 : decode cX11_text 78 = .ok (.ifCond .ne 89, 3) := by decide +kernel
theorem dX11_text_81 : decode cX11_text 81 = .ok (.aload_n 0, 1) := by decide +kernel
theorem dX11_text_82 : decode cX11_text 82 = .ok (.getfield 221, 3) := by decide +kernel
theorem dX11_text_85 : decode cX11_text 85 = .ok (.iconst 4, 1) := by decide +kernel
theorem dX11_text_86 : decode cX11_text 86 = .ok (.if_icmp .ne 10, 3) := by decide +kernel
theorem dX11_text_89 : decode cX11_text 89 = .ok (.aload_n 0, 1) := by decide +kernel
theorem dX11_text_90 : decode cX11_text 90 = .ok (.getfield 161, 3) := by decide +kernel
theorem dX11_text_93 : decode cX11_text 93 = .ok (.ifCond .eq 74, 3) := by decide +kernel
theorem dX11_text_96 : decode cX11_text 96 = .ok (.aload_n 0, 1) := by decide +kernel
theorem dX11_text_97 : decode cX11_text 97 = .ok (.getfield 221, 3) := by decide +kernel
theorem dX11_text_100 : decode cX11_text 100 = .ok (.tableswitch 60 0 3 #[32, 39, 46, 53], 32) := by decide +kernel
theorem dX11_text_132 : decode cX11_text 132 = .ok (.aload_n 0, 1) := by decide +kernel
theorem dX11_text_133 : decode cX11_text 133 = .ok (.invokevirtual 253, 3) := by decide +kernel
theorem dX11_text_136 : decode cX11_text 136 = .ok (.goto (-62), 3) := by decide +kernel
theorem dX11_text_139 : decode cX11_text 139 = .ok (.aload_n 0, 1) := by decide +kernel
theorem dX11_text_140 : decode cX11_text 140 = .ok (.invokevirtual 256, 3) := by decide +kernel
theorem dX11_text_143 : decode cX11_text 143 = .ok (.goto (-69), 3) := by decide +kernel
theorem dX11_text_146 : decode cX11_text 146 = .ok (.aload_n 0, 1) := by decide +kernel
theorem dX11_text_147 : decode cX11_text 147 = .ok (.invokevirtual 259, 3) := by decide +kernel
theorem dX11_text_150 : decode cX11_text 150 = .ok (.goto (-76), 3) := by decide +kernel
theorem dX11_text_153 : decode cX11_text 153 = .ok (.aload_n 0, 1) := by decide +kernel
theorem dX11_text_154 : decode cX11_text 154 = .ok (.invokevirtual 262, 3) := by decide +kernel
theorem dX11_text_157 : decode cX11_text 157 = .ok (.goto (-83), 3) := by decide +kernel
theorem dX11_text_160 : decode cX11_text 160 = .ok (.aload_n 0, 1) := by decide +kernel
theorem dX11_text_161 : decode cX11_text 161 = .ok (.invokevirtual 265, 3) := by decide +kernel
theorem dX11_text_164 : decode cX11_text 164 = .ok (.goto (-90), 3) := by decide +kernel
theorem dX11_text_167 : decode cX11_text 167 = .ok (.aload_n 0, 1) := by decide +kernel
theorem dX11_text_168 : decode cX11_text 168 = .ok (.aload_n 0, 1) := by decide +kernel
theorem dX11_text_169 : decode cX11_text 169 = .ok (.getfield 177, 3) := by decide +kernel
theorem dX11_text_172 : decode cX11_text 172 = .ok (.putfield 20, 3) := by decide +kernel
theorem dX11_text_175 : decode cX11_text 175 = .ok (.aload_n 0, 1) := by decide +kernel
theorem dX11_text_176 : decode cX11_text 176 = .ok (.aload_n 0, 1) := by decide +kernel
theorem dX11_text_177 : decode cX11_text 177 = .ok (.getfield 180, 3) := by decide +kernel
theorem dX11_text_180 : decode cX11_text 180 = .ok (.putfield 24, 3) := by decide +kernel
theorem dX11_text_183 : decode cX11_text 183 = .ok (.aload_n 0, 1) := by decide +kernel
theorem dX11_text_184 : decode cX11_text 184 = .ok (.getfield 177, 3) := by decide +kernel
theorem dX11_text_187 : decode cX11_text 187 = .ok (.ifCond .le 5, 3) := by decide +kernel
theorem dX11_text_190 : decode cX11_text 190 = .ok (.iconst (-1), 1) := by decide +kernel
theorem dX11_text_191 : decode cX11_text 191 = .ok (.ireturn, 1) := by decide +kernel
theorem dX11_text_192 : decode cX11_text 192 = .ok (.aload_n 0, 1) := by decide +kernel
theorem dX11_text_193 : decode cX11_text 193 = .ok (.aload_n 0, 1) := by decide +kernel
theorem dX11_text_194 : decode cX11_text 194 = .ok (.getfield 7, 3) := by decide +kernel
theorem dX11_text_197 : decode cX11_text 197 = .ok (.iconst 0, 1) := by decide +kernel
theorem dX11_text_198 : decode cX11_text 198 = .ok (.iaload, 1) := by decide +kernel
theorem dX11_text_199 : decode cX11_text 199 = .ok (.invokevirtual 268, 3) := by decide +kernel
theorem dX11_text_202 : decode cX11_text 202 = .ok (.aload_n 0, 1) := by decide +kernel
theorem dX11_text_203 : decode cX11_text 203 = .ok (.getfield 7, 3) := by decide +kernel
theorem dX11_text_206 : decode cX11_text 206 = .ok (.iconst 0, 1) := by decide +kernel
theorem dX11_text_207 : decode cX11_text 207 = .ok (.dup2, 1) := by decide +kernel
theorem dX11_text_208 : decode cX11_text 208 = .ok (.iaload, 1) := by decide +kernel
theorem dX11_text_209 : decode cX11_text 209 = .ok (.iconst 1, 1) := by decide +kernel
theorem dX11_text_210 : decode cX11_text 210 = .ok (.iadd, 1) := by decide +kernel
theorem dX11_text_211 : decode cX11_text 211 = .ok (.iastore, 1) := by decide +kernel
theorem dX11_text_212 : decode cX11_text 212 = .ok (.aload_n 0, 1) := by decide +kernel
theorem dX11_text_213 : decode cX11_text 213 = .ok (.getfield 7, 3) := by decide +kernel
theorem dX11_text_216 : decode cX11_text 216 = .ok (.iconst 0, 1) := by decide +kernel
theorem dX11_text_217 : decode cX11_text 217 = .ok (.iaload, 1) := by decide +kernel
theorem dX11_text_218 : decode cX11_text 218 = .ok (.iconst 1, 1) := by decide +kernel
theorem dX11_text_219 : decode cX11_text 219 = .ok (.isub, 1) := by decide +kernel
theorem dX11_text_220 : decode cX11_text 220 = .ok (.ireturn, 1) := by decide +kernel
theorem dX11_keepsText_0 : decode cX11_keepsText 0 = .ok (.aload_n 0, 1) := by decide +kernel
theorem dX11_keepsText_1 : decode cX11_keepsText 1 = .ok (.getfield 27, 3) := by decide +kernel
theorem dX11_keepsText_4 : decode cX11_keepsText 4 = .ok (.iload_n 1, 1) := by decide +kernel
theorem dX11_keepsText_5 : decode cX11_keepsText 5 = .ok (.aload_n 0, 1) := by decide +kernel
theorem dX11_keepsText_6 : decode cX11_keepsText 6 = .ok (.getfield 246, 3) := by decide +kernel
theorem dX11_keepsText_9 : decode cX11_keepsText 9 = .ok (.iastore, 1) := by decide +kernel
theorem dX11_keepsText_10 : decode cX11_keepsText 10 = .ok (.iconst 0, 1) := by decide +kernel
theorem dX11_keepsText_11 : decode cX11_keepsText 11 = .ok (.istore_n 2, 1) := by decide +kernel
theorem dX11_keepsText_12 : decode cX11_keepsText 12 = .ok (.iload_n 2, 1) := by decide +kernel
theorem dX11_keepsText_13 : decode cX11_keepsText 13 = .ok (.aload_n 0, 1) := by decide +kernel
theorem dX11_keepsText_14 : decode cX11_keepsText 14 = .ok (.getfield 246, 3) := by decide +kernel
theorem dX11_keepsText_17 : decode cX11_keepsText 17 = .ok (.if_icmp .ge 49, 3) := by decide +kernel
theorem dX11_keepsText_20 : decode cX11_keepsText 20 = .ok (.aload_n 0, 1) := by decide +kernel
theorem dX11_keepsText_21 : decode cX11_keepsText 21 = .ok (.getfield 30, 3) := by decide +kernel
theorem dX11_keepsText_24 : decode cX11_keepsText 24 = .ok (.bipush 10, 2) := by decide +kernel
theorem dX11_keepsText_26 : decode cX11_keepsText 26 = .ok (.iload_n 1, 1) := by decide +kernel
theorem dX11_keepsText_27 : decode cX11_keepsText 27 = .ok (.imul, 1) := by decide +kernel
theorem dX11_keepsText_28 : decode cX11_keepsText 28 = .ok (.iload_n 2, 1) := by decide +kernel
theorem dX11_keepsText_29 : decode cX11_keepsText 29 = .ok (.iadd, 1) := by decide +kernel
theorem dX11_keepsText_30 : decode cX11_keepsText 30 = .ok (.aload_n 0, 1) := by decide +kernel
theorem dX11_keepsText_31 : decode cX11_keepsText 31 = .ok (.getfield 57, 3) := by decide +kernel
theorem dX11_keepsText_34 : decode cX11_keepsText 34 = .ok (.iload_n 2, 1) := by decide +kernel
theorem dX11_keepsText_35 : decode cX11_keepsText 35 = .ok (.iaload, 1) := by decide +kernel
theorem dX11_keepsText_36 : decode cX11_keepsText 36 = .ok (.iastore, 1) := by decide +kernel
theorem dX11_keepsText_37 : decode cX11_keepsText 37 = .ok (.aload_n 0, 1) := by decide +kernel
theorem dX11_keepsText_38 : decode cX11_keepsText 38 = .ok (.getfield 33, 3) := by decide +kernel
theorem dX11_keepsText_41 : decode cX11_keepsText 41 = .ok (.bipush 10, 2) := by decide +kernel
theorem dX11_keepsText_43 : decode cX11_keepsText 43 = .ok (.iload_n 1, 1) := by decide +kernel
theorem dX11_keepsText_44 : decode cX11_keepsText 44 = .ok (.imul, 1) := by decide +kernel
theorem dX11_keepsText_45 : decode cX11_keepsText 45 = .ok (.iload_n 2, 1) := by decide +kernel
theorem dX11_keepsText_46 : decode cX11_keepsText 46 = .ok (.iadd, 1) := by decide +kernel
theorem dX11_keepsText_47 : decode cX11_keepsText 47 = .ok (.sipush 400, 3) := by decide +kernel
theorem dX11_keepsText_50 : decode cX11_keepsText 50 = .ok (.iload_n 1, 1) := by decide +kernel
theorem dX11_keepsText_51 : decode cX11_keepsText 51 = .ok (.imul, 1) := by decide +kernel
theorem dX11_keepsText_52 : decode cX11_keepsText 52 = .ok (.aload_n 0, 1) := by decide +kernel
theorem dX11_keepsText_53 : decode cX11_keepsText 53 = .ok (.getfield 60, 3) := by decide +kernel
theorem dX11_keepsText_56 : decode cX11_keepsText 56 = .ok (.iload_n 2, 1) := by decide +kernel
theorem dX11_keepsText_57 : decode cX11_keepsText 57 = .ok (.iaload, 1) := by decide +kernel
theorem dX11_keepsText_58 : decode cX11_keepsText 58 = .ok (.iadd, 1) := by decide +kernel
theorem dX11_keepsText_59 : decode cX11_keepsText 59 = .ok (.iastore, 1) := by decide +kernel
theorem dX11_keepsText_60 : decode cX11_keepsText 60 = .ok (.iinc 2 1, 3) := by decide +kernel
theorem dX11_keepsText_63 : decode cX11_keepsText 63 = .ok (.goto (-51), 3) := by decide +kernel
theorem dX11_keepsText_66 : decode cX11_keepsText 66 = .ok (.iconst 0, 1) := by decide +kernel
theorem dX11_keepsText_67 : decode cX11_keepsText 67 = .ok (.istore_n 2, 1) := by decide +kernel
theorem dX11_keepsText_68 : decode cX11_keepsText 68 = .ok (.iload_n 2, 1) := by decide +kernel
theorem dX11_keepsText_69 : decode cX11_keepsText 69 = .ok (.aload_n 0, 1) := by decide +kernel
theorem dX11_keepsText_70 : decode cX11_keepsText 70 = .ok (.getfield 183, 3) := by decide +kernel
theorem dX11_keepsText_73 : decode cX11_keepsText 73 = .ok (.if_icmp .ge 45, 3) := by decide +kernel
theorem dX11_keepsText_76 : decode cX11_keepsText 76 = .ok (.aload_n 0, 1) := by decide +kernel
theorem dX11_keepsText_77 : decode cX11_keepsText 77 = .ok (.getfield 36, 3) := by decide +kernel
theorem dX11_keepsText_80 : decode cX11_keepsText 80 = .ok (.sipush 400, 3) := by decide +kernel
theorem dX11_keepsText_83 : decode cX11_keepsText 83 = .ok (.iload_n 1, 1) := by decide +kernel
theorem dX11_keepsText_84 : decode cX11_keepsText 84 = .ok (.imul, 1) := by decide +kernel
theorem dX11_keepsText_85 : decode cX11_keepsText 85 = .ok (.iload_n 2, 1) := by decide +kernel
theorem dX11_keepsText_86 : decode cX11_keepsText 86 = .ok (.iadd, 1) := by decide +kernel
theorem dX11_keepsText_87 : decode cX11_keepsText 87 = .ok (.aload_n 0, 1) := by decide +kernel
theorem dX11_keepsText_88 : decode cX11_keepsText 88 = .ok (.getfield 63, 3) := by decide +kernel
theorem dX11_keepsText_91 : decode cX11_keepsText 91 = .ok (.iload_n 2, 1) := by decide +kernel
theorem dX11_keepsText_92 : decode cX11_keepsText 92 = .ok (.iaload, 1) := by decide +kernel
theorem dX11_keepsText_93 : decode cX11_keepsText 93 = .ok (.iastore, 1) := by decide +kernel
theorem dX11_keepsText_94 : decode cX11_keepsText 94 = .ok (.aload_n 0, 1) := by decide +kernel
theorem dX11_keepsText_95 : decode cX11_keepsText 95 = .ok (.getfield 39, 3) := by decide +kernel
theorem dX11_keepsText_98 : decode cX11_keepsText 98 = .ok (.sipush 400, 3) := by decide +kernel
theorem dX11_keepsText_101 : decode cX11_keepsText 101 = .ok (.iload_n 1, 1) := by decide +kernel
theorem dX11_keepsText_102 : decode cX11_keepsText 102 = .ok (.imul, 1) := by decide +kernel
theorem dX11_keepsText_103 : decode cX11_keepsText 103 = .ok (.iload_n 2, 1) := by decide +kernel
theorem dX11_keepsText_104 : decode cX11_keepsText 104 = .ok (.iadd, 1) := by decide +kernel
theorem dX11_keepsText_105 : decode cX11_keepsText 105 = .ok (.aload_n 0, 1) := by decide +kernel
theorem dX11_keepsText_106 : decode cX11_keepsText 106 = .ok (.getfield 66, 3) := by decide +kernel
theorem dX11_keepsText_109 : decode cX11_keepsText 109 = .ok (.iload_n 2, 1) := by decide +kernel
theorem dX11_keepsText_110 : decode cX11_keepsText 110 = .ok (.iaload, 1) := by decide +kernel
theorem dX11_keepsText_111 : decode cX11_keepsText 111 = .ok (.iastore, 1) := by decide +kernel
theorem dX11_keepsText_112 : decode cX11_keepsText 112 = .ok (.iinc 2 1, 3) := by decide +kernel
theorem dX11_keepsText_115 : decode cX11_keepsText 115 = .ok (.goto (-47), 3) := by decide +kernel
theorem dX11_keepsText_118 : decode cX11_keepsText 118 = .ok (.return_, 1) := by decide +kernel
theorem dX11_fault_0 : decode cX11_fault 0 = .ok (.iload_n 1, 1) := by decide +kernel
theorem dX11_fault_1 : decode cX11_fault 1 = .ok (.ifCond .ne 10, 3) := by decide +kernel
theorem dX11_fault_4 : decode cX11_fault 4 = .ok (.aload_n 0, 1) := by decide +kernel
theorem dX11_fault_5 : decode cX11_fault 5 = .ok (.getfield 20, 3) := by decide +kernel
theorem dX11_fault_8 : decode cX11_fault 8 = .ok (.goto 16, 3) := by decide +kernel
theorem dX11_fault_11 : decode cX11_fault 11 = .ok (.iload_n 1, 1) := by decide +kernel
theorem dX11_fault_12 : decode cX11_fault 12 = .ok (.iconst 1, 1) := by decide +kernel
theorem dX11_fault_13 : decode cX11_fault 13 = .ok (.if_icmp .ne 10, 3) := by decide +kernel
theorem dX11_fault_16 : decode cX11_fault 16 = .ok (.aload_n 0, 1) := by decide +kernel
theorem dX11_fault_17 : decode cX11_fault 17 = .ok (.getfield 24, 3) := by decide +kernel
theorem dX11_fault_20 : decode cX11_fault 20 = .ok (.goto 4, 3) := by decide +kernel
theorem dX11_fault_23 : decode cX11_fault 23 = .ok (.iconst (-1), 1) := by decide +kernel
theorem dX11_fault_24 : decode cX11_fault 24 = .ok (.ireturn, 1) := by decide +kernel
theorem dX11_bound_0 : decode cX11_bound 0 = .ok (.lload_n 0, 1) := by decide +kernel
theorem dX11_bound_1 : decode cX11_bound 1 = .ok (.ldc2_w 271, 3) := by decide +kernel
theorem dX11_bound_4 : decode cX11_bound 4 = .ok (.lcmp, 1) := by decide +kernel
theorem dX11_bound_5 : decode cX11_bound 5 = .ok (.ifCond .le 9, 3) := by decide +kernel
theorem dX11_bound_8 : decode cX11_bound 8 = .ok (.ldc2_w 271, 3) := by decide +kernel
theorem dX11_bound_11 : decode cX11_bound 11 = .ok (.goto 18, 3) := by decide +kernel
theorem dX11_bound_14 : decode cX11_bound 14 = .ok (.lload_n 0, 1) := by decide +kernel
theorem dX11_bound_15 : decode cX11_bound 15 = .ok (.ldc2_w 273, 3) := by decide +kernel
theorem dX11_bound_18 : decode cX11_bound 18 = .ok (.lcmp, 1) := by decide +kernel
theorem dX11_bound_19 : decode cX11_bound 19 = .ok (.ifCond .ge 9, 3) := by decide +kernel
theorem dX11_bound_22 : decode cX11_bound 22 = .ok (.ldc2_w 273, 3) := by decide +kernel
theorem dX11_bound_25 : decode cX11_bound 25 = .ok (.goto 4, 3) := by decide +kernel
theorem dX11_bound_28 : decode cX11_bound 28 = .ok (.lload_n 0, 1) := by decide +kernel
theorem dX11_bound_29 : decode cX11_bound 29 = .ok (.lreturn, 1) := by decide +kernel
theorem dX11_worked_0 : decode cX11_worked 0 = .ok (.iload_n 0, 1) := by decide +kernel
theorem dX11_worked_1 : decode cX11_worked 1 = .ok (.lookupswitch 210 #[(35, 170), (42, 113), (43, 99), (45, 106), (47, 120), (60, 134), (61, 158), (62, 146), (300, 182), (301, 194), (406, 206)], 99) := by decide +kernel
theorem dX11_worked_100 : decode cX11_worked 100 = .ok (.lload_n 1, 1) := by decide +kernel
theorem dX11_worked_101 : decode cX11_worked 101 = .ok (.lload_n 3, 1) := by decide +kernel
theorem dX11_worked_102 : decode cX11_worked 102 = .ok (.ladd, 1) := by decide +kernel
theorem dX11_worked_103 : decode cX11_worked 103 = .ok (.invokestatic 275, 3) := by decide +kernel
theorem dX11_worked_106 : decode cX11_worked 106 = .ok (.lreturn, 1) := by decide +kernel
theorem dX11_worked_107 : decode cX11_worked 107 = .ok (.lload_n 1, 1) := by decide +kernel
theorem dX11_worked_108 : decode cX11_worked 108 = .ok (.lload_n 3, 1) := by decide +kernel
theorem dX11_worked_109 : decode cX11_worked 109 = .ok (.lsub, 1) := by decide +kernel
theorem dX11_worked_110 : decode cX11_worked 110 = .ok (.invokestatic 275, 3) := by decide +kernel
theorem dX11_worked_113 : decode cX11_worked 113 = .ok (.lreturn, 1) := by decide +kernel
theorem dX11_worked_114 : decode cX11_worked 114 = .ok (.lload_n 1, 1) := by decide +kernel
theorem dX11_worked_115 : decode cX11_worked 115 = .ok (.lload_n 3, 1) := by decide +kernel
theorem dX11_worked_116 : decode cX11_worked 116 = .ok (.lmul, 1) := by decide +kernel
theorem dX11_worked_117 : decode cX11_worked 117 = .ok (.invokestatic 275, 3) := by decide +kernel
theorem dX11_worked_120 : decode cX11_worked 120 = .ok (.lreturn, 1) := by decide +kernel
theorem dX11_worked_121 : decode cX11_worked 121 = .ok (.lload_n 3, 1) := by decide +kernel
theorem dX11_worked_122 : decode cX11_worked 122 = .ok (.lconst 0, 1) := by decide +kernel
theorem dX11_worked_123 : decode cX11_worked 123 = .ok (.lcmp, 1) := by decide +kernel
theorem dX11_worked_124 : decode cX11_worked 124 = .ok (.ifCond .ne 7, 3) := by decide +kernel
theorem dX11_worked_127 : decode cX11_worked 127 = .ok (.lconst 0, 1) := by decide +kernel
theorem dX11_worked_128 : decode cX11_worked 128 = .ok (.goto 6, 3) := by decide +kernel
theorem dX11_worked_131 : decode cX11_worked 131 = .ok (.lload_n 1, 1) := by decide +kernel
theorem dX11_worked_132 : decode cX11_worked 132 = .ok (.lload_n 3, 1) := by decide +kernel
theorem dX11_worked_133 : decode cX11_worked 133 = .ok (.ldiv, 1) := by decide +kernel
theorem dX11_worked_134 : decode cX11_worked 134 = .ok (.lreturn, 1) := by decide +kernel
theorem dX11_worked_135 : decode cX11_worked 135 = .ok (.lload_n 1, 1) := by decide +kernel
theorem dX11_worked_136 : decode cX11_worked 136 = .ok (.lload_n 3, 1) := by decide +kernel
theorem dX11_worked_137 : decode cX11_worked 137 = .ok (.lcmp, 1) := by decide +kernel
theorem dX11_worked_138 : decode cX11_worked 138 = .ok (.ifCond .ge 7, 3) := by decide +kernel
theorem dX11_worked_141 : decode cX11_worked 141 = .ok (.lconst 1, 1) := by decide +kernel
theorem dX11_worked_142 : decode cX11_worked 142 = .ok (.goto 4, 3) := by decide +kernel
theorem dX11_worked_145 : decode cX11_worked 145 = .ok (.lconst 0, 1) := by decide +kernel
theorem dX11_worked_146 : decode cX11_worked 146 = .ok (.lreturn, 1) := by decide +kernel
theorem dX11_worked_147 : decode cX11_worked 147 = .ok (.lload_n 1, 1) := by decide +kernel
theorem dX11_worked_148 : decode cX11_worked 148 = .ok (.lload_n 3, 1) := by decide +kernel
theorem dX11_worked_149 : decode cX11_worked 149 = .ok (.lcmp, 1) := by decide +kernel
theorem dX11_worked_150 : decode cX11_worked 150 = .ok (.ifCond .le 7, 3) := by decide +kernel
theorem dX11_worked_153 : decode cX11_worked 153 = .ok (.lconst 1, 1) := by decide +kernel
theorem dX11_worked_154 : decode cX11_worked 154 = .ok (.goto 4, 3) := by decide +kernel
theorem dX11_worked_157 : decode cX11_worked 157 = .ok (.lconst 0, 1) := by decide +kernel
theorem dX11_worked_158 : decode cX11_worked 158 = .ok (.lreturn, 1) := by decide +kernel
theorem dX11_worked_159 : decode cX11_worked 159 = .ok (.lload_n 1, 1) := by decide +kernel
theorem dX11_worked_160 : decode cX11_worked 160 = .ok (.lload_n 3, 1) := by decide +kernel
theorem dX11_worked_161 : decode cX11_worked 161 = .ok (.lcmp, 1) := by decide +kernel
theorem dX11_worked_162 : decode cX11_worked 162 = .ok (.ifCond .ne 7, 3) := by decide +kernel
theorem dX11_worked_165 : decode cX11_worked 165 = .ok (.lconst 1, 1) := by decide +kernel
theorem dX11_worked_166 : decode cX11_worked 166 = .ok (.goto 4, 3) := by decide +kernel
theorem dX11_worked_169 : decode cX11_worked 169 = .ok (.lconst 0, 1) := by decide +kernel
theorem dX11_worked_170 : decode cX11_worked 170 = .ok (.lreturn, 1) := by decide +kernel
theorem dX11_worked_171 : decode cX11_worked 171 = .ok (.lload_n 1, 1) := by decide +kernel
theorem dX11_worked_172 : decode cX11_worked 172 = .ok (.lload_n 3, 1) := by decide +kernel
theorem dX11_worked_173 : decode cX11_worked 173 = .ok (.lcmp, 1) := by decide +kernel
theorem dX11_worked_174 : decode cX11_worked 174 = .ok (.ifCond .eq 7, 3) := by decide +kernel
theorem dX11_worked_177 : decode cX11_worked 177 = .ok (.lconst 1, 1) := by decide +kernel
theorem dX11_worked_178 : decode cX11_worked 178 = .ok (.goto 4, 3) := by decide +kernel
theorem dX11_worked_181 : decode cX11_worked 181 = .ok (.lconst 0, 1) := by decide +kernel
theorem dX11_worked_182 : decode cX11_worked 182 = .ok (.lreturn, 1) := by decide +kernel
theorem dX11_worked_183 : decode cX11_worked 183 = .ok (.lload_n 1, 1) := by decide +kernel
theorem dX11_worked_184 : decode cX11_worked 184 = .ok (.lload_n 3, 1) := by decide +kernel
theorem dX11_worked_185 : decode cX11_worked 185 = .ok (.lcmp, 1) := by decide +kernel
theorem dX11_worked_186 : decode cX11_worked 186 = .ok (.ifCond .gt 7, 3) := by decide +kernel
theorem dX11_worked_189 : decode cX11_worked 189 = .ok (.lconst 1, 1) := by decide +kernel
theorem dX11_worked_190 : decode cX11_worked 190 = .ok (.goto 4, 3) := by decide +kernel
theorem dX11_worked_193 : decode cX11_worked 193 = .ok (.lconst 0, 1) := by decide +kernel
theorem dX11_worked_194 : decode cX11_worked 194 = .ok (.lreturn, 1) := by decide +kernel
theorem dX11_worked_195 : decode cX11_worked 195 = .ok (.lload_n 1, 1) := by decide +kernel
theorem dX11_worked_196 : decode cX11_worked 196 = .ok (.lload_n 3, 1) := by decide +kernel
theorem dX11_worked_197 : decode cX11_worked 197 = .ok (.lcmp, 1) := by decide +kernel
theorem dX11_worked_198 : decode cX11_worked 198 = .ok (.ifCond .lt 7, 3) := by decide +kernel
theorem dX11_worked_201 : decode cX11_worked 201 = .ok (.lconst 1, 1) := by decide +kernel
theorem dX11_worked_202 : decode cX11_worked 202 = .ok (.goto 4, 3) := by decide +kernel
theorem dX11_worked_205 : decode cX11_worked 205 = .ok (.lconst 0, 1) := by decide +kernel
theorem dX11_worked_206 : decode cX11_worked 206 = .ok (.lreturn, 1) := by decide +kernel
theorem dX11_worked_207 : decode cX11_worked 207 = .ok (.lload_n 1, 1) := by decide +kernel
theorem dX11_worked_208 : decode cX11_worked 208 = .ok (.lload_n 3, 1) := by decide +kernel
theorem dX11_worked_209 : decode cX11_worked 209 = .ok (.lmul, 1) := by decide +kernel
theorem dX11_worked_210 : decode cX11_worked 210 = .ok (.lreturn, 1) := by decide +kernel
theorem dX11_worked_211 : decode cX11_worked 211 = .ok (.lload_n 1, 1) := by decide +kernel
theorem dX11_worked_212 : decode cX11_worked 212 = .ok (.lload_n 3, 1) := by decide +kernel
theorem dX11_worked_213 : decode cX11_worked 213 = .ok (.ladd, 1) := by decide +kernel
theorem dX11_worked_214 : decode cX11_worked 214 = .ok (.lconst 0, 1) := by decide +kernel
theorem dX11_worked_215 : decode cX11_worked 215 = .ok (.lcmp, 1) := by decide +kernel
theorem dX11_worked_216 : decode cX11_worked 216 = .ok (.ifCond .le 7, 3) := by decide +kernel
theorem dX11_worked_219 : decode cX11_worked 219 = .ok (.lconst 1, 1) := by decide +kernel
theorem dX11_worked_220 : decode cX11_worked 220 = .ok (.goto 4, 3) := by decide +kernel
theorem dX11_worked_223 : decode cX11_worked 223 = .ok (.lconst 0, 1) := by decide +kernel
theorem dX11_worked_224 : decode cX11_worked 224 = .ok (.lreturn, 1) := by decide +kernel
theorem dX11_tells_0 : decode cX11_tells 0 = .ok (.iconst 0, 1) := by decide +kernel
theorem dX11_tells_1 : decode cX11_tells 1 = .ok (.istore_n 2, 1) := by decide +kernel
theorem dX11_tells_2 : decode cX11_tells 2 = .ok (.iload_n 1, 1) := by decide +kernel
theorem dX11_tells_3 : decode cX11_tells 3 = .ok (.istore_n 3, 1) := by decide +kernel
theorem dX11_tells_4 : decode cX11_tells 4 = .ok (.aload_n 0, 1) := by decide +kernel
theorem dX11_tells_5 : decode cX11_tells 5 = .ok (.getfield 36, 3) := by decide +kernel
theorem dX11_tells_8 : decode cX11_tells 8 = .ok (.iload_n 3, 1) := by decide +kernel
theorem dX11_tells_9 : decode cX11_tells 9 = .ok (.iaload, 1) := by decide +kernel
theorem dX11_tells_10 : decode cX11_tells 10 = .ok (.sipush 408, 3) := by decide +kernel
theorem dX11_tells_13 : decode cX11_tells 13 = .ok (.if_icmp .eq 162, 3) := by decide +kernel
theorem dX11_tells_16 : decode cX11_tells 16 = .ok (.aload_n 0, 1) := by decide +kernel
theorem dX11_tells_17 : decode cX11_tells 17 = .ok (.getfield 36, 3) := by decide +kernel
theorem dX11_tells_20 : decode cX11_tells 20 = .ok (.iload_n 3, 1) := by decide +kernel
theorem dX11_tells_21 : decode cX11_tells 21 = .ok (.iaload, 1) := by decide +kernel
theorem dX11_tells_22 : decode cX11_tells 22 = .ok (.istore 4, 2) := by decide +kernel
theorem dX11_tells_24 : decode cX11_tells 24 = .ok (.iload 4, 2) := by decide +kernel
theorem dX11_tells_26 : decode cX11_tells 26 = .ok (.sipush 400, 3) := by decide +kernel
theorem dX11_tells_29 : decode cX11_tells 29 = .ok (.if_icmp .eq 11, 3) := by decide +kernel
theorem dX11_tells_32 : decode cX11_tells 32 = .ok (.iload 4, 2) := by decide +kernel
theorem dX11_tells_34 : decode cX11_tells 34 = .ok (.sipush 401, 3) := by decide +kernel
theorem dX11_tells_37 : decode cX11_tells 37 = .ok (.if_icmp .ne 45, 3) := by decide +kernel
theorem dX11_tells_40 : decode cX11_tells 40 = .ok (.aload_n 0, 1) := by decide +kernel
theorem dX11_tells_41 : decode cX11_tells 41 = .ok (.getfield 72, 3) := by decide +kernel
theorem dX11_tells_44 : decode cX11_tells 44 = .ok (.iload_n 2, 1) := by decide +kernel
theorem dX11_tells_45 : decode cX11_tells 45 = .ok (.iload 4, 2) := by decide +kernel
theorem dX11_tells_47 : decode cX11_tells 47 = .ok (.sipush 400, 3) := by decide +kernel
theorem dX11_tells_50 : decode cX11_tells 50 = .ok (.if_icmp .ne 13, 3) := by decide +kernel
theorem dX11_tells_53 : decode cX11_tells 53 = .ok (.aload_n 0, 1) := by decide +kernel
theorem dX11_tells_54 : decode cX11_tells 54 = .ok (.getfield 39, 3) := by decide +kernel
theorem dX11_tells_57 : decode cX11_tells 57 = .ok (.iload_n 3, 1) := by decide +kernel
theorem dX11_tells_58 : decode cX11_tells 58 = .ok (.iaload, 1) := by decide +kernel
theorem dX11_tells_59 : decode cX11_tells 59 = .ok (.i2l, 1) := by decide +kernel
theorem dX11_tells_60 : decode cX11_tells 60 = .ok (.goto 15, 3) := by decide +kernel
theorem dX11_tells_63 : decode cX11_tells 63 = .ok (.aload_n 0, 1) := by decide +kernel
theorem dX11_tells_64 : decode cX11_tells 64 = .ok (.getfield 69, 3) := by decide +kernel
theorem dX11_tells_67 : decode cX11_tells 67 = .ok (.aload_n 0, 1) := by decide +kernel
theorem dX11_tells_68 : decode cX11_tells 68 = .ok (.getfield 39, 3) := by decide +kernel
theorem dX11_tells_71 : decode cX11_tells 71 = .ok (.iload_n 3, 1) := by decide +kernel
theorem dX11_tells_72 : decode cX11_tells 72 = .ok (.iaload, 1) := by decide +kernel
theorem dX11_tells_73 : decode cX11_tells 73 = .ok (.iaload, 1) := by decide +kernel
theorem dX11_tells_74 : decode cX11_tells 74 = .ok (.i2l, 1) := by decide +kernel
theorem dX11_tells_75 : decode cX11_tells 75 = .ok (.lastore, 1) := by decide +kernel
theorem dX11_tells_76 : decode cX11_tells 76 = .ok (.iinc 2 1, 3) := by decide +kernel
theorem dX11_tells_79 : decode cX11_tells 79 = .ok (.goto 90, 3) := by decide +kernel
theorem dX11_tells_82 : decode cX11_tells 82 = .ok (.iload 4, 2) := by decide +kernel
theorem dX11_tells_84 : decode cX11_tells 84 = .ok (.sipush 402, 3) := by decide +kernel
theorem dX11_tells_87 : decode cX11_tells 87 = .ok (.if_icmp .ne 23, 3) := by decide +kernel
theorem dX11_tells_90 : decode cX11_tells 90 = .ok (.aload_n 0, 1) := by decide +kernel
theorem dX11_tells_91 : decode cX11_tells 91 = .ok (.getfield 72, 3) := by decide +kernel
theorem dX11_tells_94 : decode cX11_tells 94 = .ok (.iload_n 2, 1) := by decide +kernel
theorem dX11_tells_95 : decode cX11_tells 95 = .ok (.iconst 1, 1) := by decide +kernel
theorem dX11_tells_96 : decode cX11_tells 96 = .ok (.isub, 1) := by decide +kernel
theorem dX11_tells_97 : decode cX11_tells 97 = .ok (.aload_n 0, 1) := by decide +kernel
theorem dX11_tells_98 : decode cX11_tells 98 = .ok (.getfield 72, 3) := by decide +kernel
theorem dX11_tells_101 : decode cX11_tells 101 = .ok (.iload_n 2, 1) := by decide +kernel
theorem dX11_tells_102 : decode cX11_tells 102 = .ok (.iconst 1, 1) := by decide +kernel
theorem dX11_tells_103 : decode cX11_tells 103 = .ok (.isub, 1) := by decide +kernel
theorem dX11_tells_104 : decode cX11_tells 104 = .ok (.laload, 1) := by decide +kernel
theorem dX11_tells_105 : decode cX11_tells 105 = .ok (.lneg, 1) := by decide +kernel
theorem dX11_tells_106 : decode cX11_tells 106 = .ok (.lastore, 1) := by decide +kernel
theorem dX11_tells_107 : decode cX11_tells 107 = .ok (.goto 62, 3) := by decide +kernel
theorem dX11_tells_110 : decode cX11_tells 110 = .ok (.iload 4, 2) := by decide +kernel
theorem dX11_tells_112 : decode cX11_tells 112 = .ok (.sipush 405, 3) := by decide +kernel
theorem dX11_tells_115 : decode cX11_tells 115 = .ok (.if_icmp .ne 24, 3) := by decide +kernel
theorem dX11_tells_118 : decode cX11_tells 118 = .ok (.aload_n 0, 1) := by decide +kernel
theorem dX11_tells_119 : decode cX11_tells 119 = .ok (.getfield 72, 3) := by decide +kernel
theorem dX11_tells_122 : decode cX11_tells 122 = .ok (.iload_n 2, 1) := by decide +kernel
theorem dX11_tells_123 : decode cX11_tells 123 = .ok (.iconst 1, 1) := by decide +kernel
theorem dX11_tells_124 : decode cX11_tells 124 = .ok (.isub, 1) := by decide +kernel
theorem dX11_tells_125 : decode cX11_tells 125 = .ok (.lconst 1, 1) := by decide +kernel
theorem dX11_tells_126 : decode cX11_tells 126 = .ok (.aload_n 0, 1) := by decide +kernel
theorem dX11_tells_127 : decode cX11_tells 127 = .ok (.getfield 72, 3) := by decide +kernel
theorem dX11_tells_130 : decode cX11_tells 130 = .ok (.iload_n 2, 1) := by decide +kernel
theorem dX11_tells_131 : decode cX11_tells 131 = .ok (.iconst 1, 1) := by decide +kernel
theorem dX11_tells_132 : decode cX11_tells 132 = .ok (.isub, 1) := by decide +kernel
theorem dX11_tells_133 : decode cX11_tells 133 = .ok (.laload, 1) := by decide +kernel
theorem dX11_tells_134 : decode cX11_tells 134 = .ok (.lsub, 1) := by decide +kernel
theorem dX11_tells_135 : decode cX11_tells 135 = .ok (.lastore, 1) := by decide +kernel
theorem dX11_tells_136 : decode cX11_tells 136 = .ok (.goto 33, 3) := by decide +kernel
theorem dX11_tells_139 : decode cX11_tells 139 = .ok (.iinc 2 (-1), 3) := by decide +kernel
theorem dX11_tells_142 : decode cX11_tells 142 = .ok (.aload_n 0, 1) := by decide +kernel
theorem dX11_tells_143 : decode cX11_tells 143 = .ok (.getfield 72, 3) := by decide +kernel
theorem dX11_tells_146 : decode cX11_tells 146 = .ok (.iload_n 2, 1) := by decide +kernel
theorem dX11_tells_147 : decode cX11_tells 147 = .ok (.iconst 1, 1) := by decide +kernel
theorem dX11_tells_148 : decode cX11_tells 148 = .ok (.isub, 1) := by decide +kernel
theorem dX11_tells_149 : decode cX11_tells 149 = .ok (.iload 4, 2) := by decide +kernel
theorem dX11_tells_151 : decode cX11_tells 151 = .ok (.aload_n 0, 1) := by decide +kernel
theorem dX11_tells_152 : decode cX11_tells 152 = .ok (.getfield 72, 3) := by decide +kernel
theorem dX11_tells_155 : decode cX11_tells 155 = .ok (.iload_n 2, 1) := by decide +kernel
theorem dX11_tells_156 : decode cX11_tells 156 = .ok (.iconst 1, 1) := by decide +kernel
theorem dX11_tells_157 : decode cX11_tells 157 = .ok (.isub, 1) := by decide +kernel
theorem dX11_tells_158 : decode cX11_tells 158 = .ok (.laload, 1) := by decide +kernel
theorem dX11_tells_159 : decode cX11_tells 159 = .ok (.aload_n 0, 1) := by decide +kernel
theorem dX11_tells_160 : decode cX11_tells 160 = .ok (.getfield 72, 3) := by decide +kernel
theorem dX11_tells_163 : decode cX11_tells 163 = .ok (.iload_n 2, 1) := by decide +kernel
theorem dX11_tells_164 : decode cX11_tells 164 = .ok (.laload, 1) := by decide +kernel
theorem dX11_tells_165 : decode cX11_tells 165 = .ok (.invokestatic 279, 3) := by decide +kernel
theorem dX11_tells_168 : decode cX11_tells 168 = .ok (.lastore, 1) := by decide +kernel
theorem dX11_tells_169 : decode cX11_tells 169 = .ok (.iinc 3 1, 3) := by decide +kernel
theorem dX11_tells_172 : decode cX11_tells 172 = .ok (.goto (-168), 3) := by decide +kernel
theorem dX11_tells_175 : decode cX11_tells 175 = .ok (.aload_n 0, 1) := by decide +kernel
theorem dX11_tells_176 : decode cX11_tells 176 = .ok (.getfield 72, 3) := by decide +kernel
theorem dX11_tells_179 : decode cX11_tells 179 = .ok (.iconst 0, 1) := by decide +kernel
theorem dX11_tells_180 : decode cX11_tells 180 = .ok (.laload, 1) := by decide +kernel
theorem dX11_tells_181 : decode cX11_tells 181 = .ok (.lreturn, 1) := by decide +kernel
theorem dX11_by_0 : decode cX11_by 0 = .ok (.iload_n 1, 1) := by decide +kernel
theorem dX11_by_1 : decode cX11_by 1 = .ok (.iconst (-1), 1) := by decide +kernel
theorem dX11_by_2 : decode cX11_by 2 = .ok (.if_icmp .eq 21, 3) := by decide +kernel
theorem dX11_by_5 : decode cX11_by 5 = .ok (.iload_n 1, 1) := by decide +kernel
theorem dX11_by_6 : decode cX11_by 6 = .ok (.iconst 0, 1) := by decide +kernel
theorem dX11_by_7 : decode cX11_by 7 = .ok (.aload_n 0, 1) := by decide +kernel
theorem dX11_by_8 : decode cX11_by 8 = .ok (.getfield 7, 3) := by decide +kernel
theorem dX11_by_11 : decode cX11_by 11 = .ok (.iconst 0, 1) := by decide +kernel
theorem dX11_by_12 : decode cX11_by 12 = .ok (.iaload, 1) := by decide +kernel
theorem dX11_by_13 : decode cX11_by 13 = .ok (.iconst 1, 1) := by decide +kernel
theorem dX11_by_14 : decode cX11_by 14 = .ok (.isub, 1) := by decide +kernel
theorem dX11_by_15 : decode cX11_by 15 = .ok (.invokestatic 97, 3) := by decide +kernel
theorem dX11_by_18 : decode cX11_by 18 = .ok (.ifCond .ne 5, 3) := by decide +kernel
theorem dX11_by_21 : decode cX11_by 21 = .ok (.iconst 0, 1) := by decide +kernel
theorem dX11_by_22 : decode cX11_by 22 = .ok (.ireturn, 1) := by decide +kernel
theorem dX11_by_23 : decode cX11_by 23 = .ok (.aload_n 0, 1) := by decide +kernel
theorem dX11_by_24 : decode cX11_by 24 = .ok (.getfield 7, 3) := by decide +kernel
theorem dX11_by_27 : decode cX11_by 27 = .ok (.iconst 1, 1) := by decide +kernel
theorem dX11_by_28 : decode cX11_by 28 = .ok (.iload_n 1, 1) := by decide +kernel
theorem dX11_by_29 : decode cX11_by 29 = .ok (.iastore, 1) := by decide +kernel
theorem dX11_by_30 : decode cX11_by 30 = .ok (.iconst 1, 1) := by decide +kernel
theorem dX11_by_31 : decode cX11_by 31 = .ok (.ireturn, 1) := by decide +kernel
theorem dX11_words_0 : decode cX11_words 0 = .ok (.aload_n 0, 1) := by decide +kernel
theorem dX11_words_1 : decode cX11_words 1 = .ok (.getfield 69, 3) := by decide +kernel
theorem dX11_words_4 : decode cX11_words 4 = .ok (.iconst 0, 1) := by decide +kernel
theorem dX11_words_5 : decode cX11_words 5 = .ok (.aload_n 0, 1) := by decide +kernel
theorem dX11_words_6 : decode cX11_words 6 = .ok (.getfield 42, 3) := by decide +kernel
theorem dX11_words_9 : decode cX11_words 9 = .ok (.iload_n 1, 1) := by decide +kernel
theorem dX11_words_10 : decode cX11_words 10 = .ok (.iaload, 1) := by decide +kernel
theorem dX11_words_11 : decode cX11_words 11 = .ok (.iastore, 1) := by decide +kernel
theorem dX11_words_12 : decode cX11_words 12 = .ok (.aload_n 0, 1) := by decide +kernel
theorem dX11_words_13 : decode cX11_words 13 = .ok (.getfield 69, 3) := by decide +kernel
theorem dX11_words_16 : decode cX11_words 16 = .ok (.iconst 1, 1) := by decide +kernel
theorem dX11_words_17 : decode cX11_words 17 = .ok (.iload_n 1, 1) := by decide +kernel
theorem dX11_words_18 : decode cX11_words 18 = .ok (.ifCond .ne 7, 3) := by decide +kernel
theorem dX11_words_21 : decode cX11_words 21 = .ok (.iconst 0, 1) := by decide +kernel
theorem dX11_words_22 : decode cX11_words 22 = .ok (.goto 11, 3) := by decide +kernel
theorem dX11_words_25 : decode cX11_words 25 = .ok (.aload_n 0, 1) := by decide +kernel
theorem dX11_words_26 : decode cX11_words 26 = .ok (.getfield 42, 3) := by decide +kernel
theorem dX11_words_29 : decode cX11_words 29 = .ok (.iload_n 1, 1) := by decide +kernel
theorem dX11_words_30 : decode cX11_words 30 = .ok (.iconst 1, 1) := by decide +kernel
theorem dX11_words_31 : decode cX11_words 31 = .ok (.isub, 1) := by decide +kernel
theorem dX11_words_32 : decode cX11_words 32 = .ok (.iaload, 1) := by decide +kernel
theorem dX11_words_33 : decode cX11_words 33 = .ok (.iastore, 1) := by decide +kernel
theorem dX11_words_34 : decode cX11_words 34 = .ok (.aload_n 0, 1) := by decide +kernel
theorem dX11_words_35 : decode cX11_words 35 = .ok (.getfield 69, 3) := by decide +kernel
theorem dX11_words_38 : decode cX11_words 38 = .ok (.iconst 2, 1) := by decide +kernel
theorem dX11_words_39 : decode cX11_words 39 = .ok (.aload_n 0, 1) := by decide +kernel
theorem dX11_words_40 : decode cX11_words 40 = .ok (.getfield 42, 3) := by decide +kernel
theorem dX11_words_43 : decode cX11_words 43 = .ok (.sipush 2000, 3) := by decide +kernel
theorem dX11_words_46 : decode cX11_words 46 = .ok (.iload_n 1, 1) := by decide +kernel
theorem dX11_words_47 : decode cX11_words 47 = .ok (.iadd, 1) := by decide +kernel
theorem dX11_words_48 : decode cX11_words 48 = .ok (.iaload, 1) := by decide +kernel
theorem dX11_words_49 : decode cX11_words 49 = .ok (.iastore, 1) := by decide +kernel
theorem dX11_words_50 : decode cX11_words 50 = .ok (.aload_n 0, 1) := by decide +kernel
theorem dX11_words_51 : decode cX11_words 51 = .ok (.getfield 69, 3) := by decide +kernel
theorem dX11_words_54 : decode cX11_words 54 = .ok (.iconst 3, 1) := by decide +kernel
theorem dX11_words_55 : decode cX11_words 55 = .ok (.iload_n 1, 1) := by decide +kernel
theorem dX11_words_56 : decode cX11_words 56 = .ok (.iastore, 1) := by decide +kernel
theorem dX11_words_57 : decode cX11_words 57 = .ok (.aload_n 0, 1) := by decide +kernel
theorem dX11_words_58 : decode cX11_words 58 = .ok (.getfield 69, 3) := by decide +kernel
theorem dX11_words_61 : decode cX11_words 61 = .ok (.iconst 4, 1) := by decide +kernel
theorem dX11_words_62 : decode cX11_words 62 = .ok (.iload_n 1, 1) := by decide +kernel
theorem dX11_words_63 : decode cX11_words 63 = .ok (.bipush 40, 2) := by decide +kernel
theorem dX11_words_65 : decode cX11_words 65 = .ok (.irem, 1) := by decide +kernel
theorem dX11_words_66 : decode cX11_words 66 = .ok (.iastore, 1) := by decide +kernel
theorem dX11_words_67 : decode cX11_words 67 = .ok (.aload_n 0, 1) := by decide +kernel
theorem dX11_words_68 : decode cX11_words 68 = .ok (.getfield 69, 3) := by decide +kernel
theorem dX11_words_71 : decode cX11_words 71 = .ok (.iconst 5, 1) := by decide +kernel
theorem dX11_words_72 : decode cX11_words 72 = .ok (.aload_n 0, 1) := by decide +kernel
theorem dX11_words_73 : decode cX11_words 73 = .ok (.getfield 283, 3) := by decide +kernel
theorem dX11_words_76 : decode cX11_words 76 = .ok (.iastore, 1) := by decide +kernel
theorem dX11_words_77 : decode cX11_words 77 = .ok (.aload_n 0, 1) := by decide +kernel
theorem dX11_words_78 : decode cX11_words 78 = .ok (.getfield 69, 3) := by decide +kernel
theorem dX11_words_81 : decode cX11_words 81 = .ok (.bipush 6, 2) := by decide +kernel
theorem dX11_words_83 : decode cX11_words 83 = .ok (.iload_n 1, 1) := by decide +kernel
theorem dX11_words_84 : decode cX11_words 84 = .ok (.iload_n 2, 1) := by decide +kernel
theorem dX11_words_85 : decode cX11_words 85 = .ok (.isub, 1) := by decide +kernel
theorem dX11_words_86 : decode cX11_words 86 = .ok (.iastore, 1) := by decide +kernel
theorem dX11_words_87 : decode cX11_words 87 = .ok (.return_, 1) := by decide +kernel
theorem dX11_triggers_0 : decode cX11_triggers 0 = .ok (.aload_n 0, 1) := by decide +kernel
theorem dX11_triggers_1 : decode cX11_triggers 1 = .ok (.getfield 7, 3) := by decide +kernel
theorem dX11_triggers_4 : decode cX11_triggers 4 = .ok (.iconst 1, 1) := by decide +kernel
theorem dX11_triggers_5 : decode cX11_triggers 5 = .ok (.iaload, 1) := by decide +kernel
theorem dX11_triggers_6 : decode cX11_triggers 6 = .ok (.istore_n 1, 1) := by decide +kernel
theorem dX11_triggers_7 : decode cX11_triggers 7 = .ok (.iconst 0, 1) := by decide +kernel
theorem dX11_triggers_8 : decode cX11_triggers 8 = .ok (.istore_n 2, 1) := by decide +kernel
theorem dX11_triggers_9 : decode cX11_triggers 9 = .ok (.iconst 0, 1) := by decide +kernel
theorem dX11_triggers_10 : decode cX11_triggers 10 = .ok (.istore_n 3, 1) := by decide +kernel
theorem dX11_triggers_11 : decode cX11_triggers 11 = .ok (.iconst 0, 1) := by decide +kernel
theorem dX11_triggers_12 : decode cX11_triggers 12 = .ok (.istore 4, 2) := by decide +kernel
theorem dX11_triggers_14 : decode cX11_triggers 14 = .ok (.iload_n 1, 1) := by decide +kernel
theorem dX11_triggers_15 : decode cX11_triggers 15 = .ok (.iconst (-1), 1) := by decide +kernel
theorem dX11_triggers_16 : decode cX11_triggers 16 = .ok (.if_icmp .eq 69, 3) := by decide +kernel
theorem dX11_triggers_19 : decode cX11_triggers 19 = .ok (.iload 4, 2) := by decide +kernel
theorem dX11_triggers_21 : decode cX11_triggers 21 = .ok (.aload_n 0, 1) := by decide +kernel
theorem dX11_triggers_22 : decode cX11_triggers 22 = .ok (.getfield 27, 3) := by decide +kernel
theorem dX11_triggers_25 : decode cX11_triggers 25 = .ok (.iload_n 1, 1) := by decide +kernel
theorem dX11_triggers_26 : decode cX11_triggers 26 = .ok (.iaload, 1) := by decide +kernel
theorem dX11_triggers_27 : decode cX11_triggers 27 = .ok (.if_icmp .ge 58, 3) := by decide +kernel
theorem dX11_triggers_30 : decode cX11_triggers 30 = .ok (.aload_n 0, 1) := by decide +kernel
theorem dX11_triggers_31 : decode cX11_triggers 31 = .ok (.getfield 30, 3) := by decide +kernel
theorem dX11_triggers_34 : decode cX11_triggers 34 = .ok (.bipush 10, 2) := by decide +kernel
theorem dX11_triggers_36 : decode cX11_triggers 36 = .ok (.iload_n 1, 1) := by decide +kernel
theorem dX11_triggers_37 : decode cX11_triggers 37 = .ok (.imul, 1) := by decide +kernel
theorem dX11_triggers_38 : decode cX11_triggers 38 = .ok (.iload 4, 2) := by decide +kernel
theorem dX11_triggers_40 : decode cX11_triggers 40 = .ok (.iadd, 1) := by decide +kernel
theorem dX11_triggers_41 : decode cX11_triggers 41 = .ok (.iaload, 1) := by decide +kernel
theorem dX11_triggers_42 : decode cX11_triggers 42 = .ok (.iconst 1, 1) := by decide +kernel
theorem dX11_triggers_43 : decode cX11_triggers 43 = .ok (.if_icmp .ne 36, 3) := by decide +kernel
theorem dX11_triggers_46 : decode cX11_triggers 46 = .ok (.iconst 1, 1) := by decide +kernel
theorem dX11_triggers_47 : decode cX11_triggers 47 = .ok (.istore_n 3, 1) := by decide +kernel
theorem dX11_triggers_48 : decode cX11_triggers 48 = .ok (.iload_n 2, 1) := by decide +kernel
theorem dX11_triggers_49 : decode cX11_triggers 49 = .ok (.ifCond .ne 24, 3) := by decide +kernel
theorem dX11_triggers_52 : decode cX11_triggers 52 = .ok (.aload_n 0, 1) := by decide +kernel
theorem dX11_triggers_53 : decode cX11_triggers 53 = .ok (.aload_n 0, 1) := by decide +kernel
theorem dX11_triggers_54 : decode cX11_triggers 54 = .ok (.getfield 33, 3) := by decide +kernel
theorem dX11_triggers_57 : decode cX11_triggers 57 = .ok (.bipush 10, 2) := by decide +kernel
theorem dX11_triggers_59 : decode cX11_triggers 59 = .ok (.iload_n 1, 1) := by decide +kernel
theorem dX11_triggers_60 : decode cX11_triggers 60 = .ok (.imul, 1) := by decide +kernel
theorem dX11_triggers_61 : decode cX11_triggers 61 = .ok (.iload 4, 2) := by decide +kernel
theorem dX11_triggers_63 : decode cX11_triggers 63 = .ok (.iadd, 1) := by decide +kernel
theorem dX11_triggers_64 : decode cX11_triggers 64 = .ok (.iaload, 1) := by decide +kernel
theorem dX11_triggers_65 : decode cX11_triggers 65 = .ok (.invokevirtual 286, 3) := by decide +kernel
theorem dX11_triggers_68 : decode cX11_triggers 68 = .ok (.lconst 0, 1) := by decide +kernel
theorem dX11_triggers_69 : decode cX11_triggers 69 = .ok (.lcmp, 1) := by decide +kernel
theorem dX11_triggers_70 : decode cX11_triggers 70 = .ok (.ifCond .le 7, 3) := by decide +kernel
theorem dX11_triggers_73 : decode cX11_triggers 73 = .ok (.iconst 1, 1) := by decide +kernel
theorem dX11_triggers_74 : decode cX11_triggers 74 = .ok (.goto 4, 3) := by decide +kernel
theorem dX11_triggers_77 : decode cX11_triggers 77 = .ok (.iconst 0, 1) := by decide +kernel
theorem dX11_triggers_78 : decode cX11_triggers 78 = .ok (.istore_n 2, 1) := by decide +kernel
theorem dX11_triggers_79 : decode cX11_triggers 79 = .ok (.iinc 4 1, 3) := by decide +kernel
theorem dX11_triggers_82 : decode cX11_triggers 82 = .ok (.goto (-68), 3) := by decide +kernel
theorem dX11_triggers_85 : decode cX11_triggers 85 = .ok (.iload_n 2, 1) := by decide +kernel
theorem dX11_triggers_86 : decode cX11_triggers 86 = .ok (.ifCond .ne 7, 3) := by decide +kernel
theorem dX11_triggers_89 : decode cX11_triggers 89 = .ok (.iload_n 3, 1) := by decide +kernel
theorem dX11_triggers_90 : decode cX11_triggers 90 = .ok (.ifCond .ne 7, 3) := by decide +kernel
theorem dX11_triggers_93 : decode cX11_triggers 93 = .ok (.iconst 1, 1) := by decide +kernel
theorem dX11_triggers_94 : decode cX11_triggers 94 = .ok (.goto 4, 3) := by decide +kernel
theorem dX11_triggers_97 : decode cX11_triggers 97 = .ok (.iconst 0, 1) := by decide +kernel
theorem dX11_triggers_98 : decode cX11_triggers 98 = .ok (.ireturn, 1) := by decide +kernel
theorem dX11_hold_0 : decode cX11_hold 0 = .ok (.aload_n 0, 1) := by decide +kernel
theorem dX11_hold_1 : decode cX11_hold 1 = .ok (.getfield 7, 3) := by decide +kernel
theorem dX11_hold_4 : decode cX11_hold 4 = .ok (.iconst 1, 1) := by decide +kernel
theorem dX11_hold_5 : decode cX11_hold 5 = .ok (.iaload, 1) := by decide +kernel
theorem dX11_hold_6 : decode cX11_hold 6 = .ok (.istore_n 1, 1) := by decide +kernel
theorem dX11_hold_7 : decode cX11_hold 7 = .ok (.lconst 0, 1) := by decide +kernel
theorem dX11_hold_8 : decode cX11_hold 8 = .ok (.lstore_n 2, 1) := by decide +kernel
theorem dX11_hold_9 : decode cX11_hold 9 = .ok (.iconst 0, 1) := by decide +kernel
theorem dX11_hold_10 : decode cX11_hold 10 = .ok (.istore 4, 2) := by decide +kernel
theorem dX11_hold_12 : decode cX11_hold 12 = .ok (.iload_n 1, 1) := by decide +kernel
theorem dX11_hold_13 : decode cX11_hold 13 = .ok (.iconst (-1), 1) := by decide +kernel
theorem dX11_hold_14 : decode cX11_hold 14 = .ok (.if_icmp .eq 56, 3) := by decide +kernel
theorem dX11_hold_17 : decode cX11_hold 17 = .ok (.iload 4, 2) := by decide +kernel
theorem dX11_hold_19 : decode cX11_hold 19 = .ok (.aload_n 0, 1) := by decide +kernel
theorem dX11_hold_20 : decode cX11_hold 20 = .ok (.getfield 27, 3) := by decide +kernel
theorem dX11_hold_23 : decode cX11_hold 23 = .ok (.iload_n 1, 1) := by decide +kernel
theorem dX11_hold_24 : decode cX11_hold 24 = .ok (.iaload, 1) := by decide +kernel
theorem dX11_hold_25 : decode cX11_hold 25 = .ok (.if_icmp .ge 45, 3) := by decide +kernel
theorem dX11_hold_28 : decode cX11_hold 28 = .ok (.aload_n 0, 1) := by decide +kernel
theorem dX11_hold_29 : decode cX11_hold 29 = .ok (.getfield 30, 3) := by decide +kernel
theorem dX11_hold_32 : decode cX11_hold 32 = .ok (.bipush 10, 2) := by decide +kernel
theorem dX11_hold_34 : decode cX11_hold 34 = .ok (.iload_n 1, 1) := by decide +kernel
theorem dX11_hold_35 : decode cX11_hold 35 = .ok (.imul, 1) := by decide +kernel
theorem dX11_hold_36 : decode cX11_hold 36 = .ok (.iload 4, 2) := by decide +kernel
theorem dX11_hold_38 : decode cX11_hold 38 = .ok (.iadd, 1) := by decide +kernel
theorem dX11_hold_39 : decode cX11_hold 39 = .ok (.iaload, 1) := by decide +kernel
theorem dX11_hold_40 : decode cX11_hold 40 = .ok (.ifCond .ne 22, 3) := by decide +kernel
theorem dX11_hold_43 : decode cX11_hold 43 = .ok (.aload_n 0, 1) := by decide +kernel
theorem dX11_hold_44 : decode cX11_hold 44 = .ok (.aload_n 0, 1) := by decide +kernel
theorem dX11_hold_45 : decode cX11_hold 45 = .ok (.getfield 33, 3) := by decide +kernel
theorem dX11_hold_48 : decode cX11_hold 48 = .ok (.bipush 10, 2) := by decide +kernel
theorem dX11_hold_50 : decode cX11_hold 50 = .ok (.iload_n 1, 1) := by decide +kernel
theorem dX11_hold_51 : decode cX11_hold 51 = .ok (.imul, 1) := by decide +kernel
theorem dX11_hold_52 : decode cX11_hold 52 = .ok (.iload 4, 2) := by decide +kernel
theorem dX11_hold_54 : decode cX11_hold 54 = .ok (.iadd, 1) := by decide +kernel
theorem dX11_hold_55 : decode cX11_hold 55 = .ok (.iaload, 1) := by decide +kernel
theorem dX11_hold_56 : decode cX11_hold 56 = .ok (.invokevirtual 286, 3) := by decide +kernel
theorem dX11_hold_59 : decode cX11_hold 59 = .ok (.goto 4, 3) := by decide +kernel
theorem dX11_hold_62 : decode cX11_hold 62 = .ok (.lload_n 2, 1) := by decide +kernel
theorem dX11_hold_63 : decode cX11_hold 63 = .ok (.lstore_n 2, 1) := by decide +kernel
theorem dX11_hold_64 : decode cX11_hold 64 = .ok (.iinc 4 1, 3) := by decide +kernel
theorem dX11_hold_67 : decode cX11_hold 67 = .ok (.goto (-55), 3) := by decide +kernel
theorem dX11_hold_70 : decode cX11_hold 70 = .ok (.lload_n 2, 1) := by decide +kernel
theorem dX11_hold_71 : decode cX11_hold 71 = .ok (.lconst 0, 1) := by decide +kernel
theorem dX11_hold_72 : decode cX11_hold 72 = .ok (.lcmp, 1) := by decide +kernel
theorem dX11_hold_73 : decode cX11_hold 73 = .ok (.ifCond .ge 7, 3) := by decide +kernel
theorem dX11_hold_76 : decode cX11_hold 76 = .ok (.iconst 0, 1) := by decide +kernel
theorem dX11_hold_77 : decode cX11_hold 77 = .ok (.goto 19, 3) := by decide +kernel
theorem dX11_hold_80 : decode cX11_hold 80 = .ok (.lload_n 2, 1) := by decide +kernel
theorem dX11_hold_81 : decode cX11_hold 81 = .ok (.ldc2_w 290, 3) := by decide +kernel
theorem dX11_hold_84 : decode cX11_hold 84 = .ok (.lcmp, 1) := by decide +kernel
theorem dX11_hold_85 : decode cX11_hold 85 = .ok (.ifCond .le 9, 3) := by decide +kernel
theorem dX11_hold_88 : decode cX11_hold 88 = .ok (.sipush 9999, 3) := by decide +kernel
theorem dX11_hold_91 : decode cX11_hold 91 = .ok (.goto 5, 3) := by decide +kernel
theorem dX11_hold_94 : decode cX11_hold 94 = .ok (.lload_n 2, 1) := by decide +kernel
theorem dX11_hold_95 : decode cX11_hold 95 = .ok (.l2i, 1) := by decide +kernel
theorem dX11_hold_96 : decode cX11_hold 96 = .ok (.ireturn, 1) := by decide +kernel
theorem dX11_sweeps_0 : decode cX11_sweeps 0 = .ok (.aload_n 0, 1) := by decide +kernel
theorem dX11_sweeps_1 : decode cX11_sweeps 1 = .ok (.iconst 0, 1) := by decide +kernel
theorem dX11_sweeps_2 : decode cX11_sweeps 2 = .ok (.putfield 283, 3) := by decide +kernel
theorem dX11_sweeps_5 : decode cX11_sweeps 5 = .ok (.iconst 0, 1) := by decide +kernel
theorem dX11_sweeps_6 : decode cX11_sweeps 6 = .ok (.istore_n 2, 1) := by decide +kernel
theorem dX11_sweeps_7 : decode cX11_sweeps 7 = .ok (.iconst 0, 1) := by decide +kernel
theorem dX11_sweeps_8 : decode cX11_sweeps 8 = .ok (.istore_n 3, 1) := by decide +kernel
theorem dX11_sweeps_9 : decode cX11_sweeps 9 = .ok (.iload_n 3, 1) := by decide +kernel
theorem dX11_sweeps_10 : decode cX11_sweeps 10 = .ok (.iload_n 1, 1) := by decide +kernel
theorem dX11_sweeps_11 : decode cX11_sweeps 11 = .ok (.if_icmp .ge 78, 3) := by decide +kernel
theorem dX11_sweeps_14 : decode cX11_sweeps 14 = .ok (.iload_n 3, 1) := by decide +kernel
theorem dX11_sweeps_15 : decode cX11_sweeps 15 = .ok (.iload_n 2, 1) := by decide +kernel
theorem dX11_sweeps_16 : decode cX11_sweeps 16 = .ok (.if_icmp .lt 67, 3) := by decide +kernel
theorem dX11_sweeps_19 : decode cX11_sweeps 19 = .ok (.aload_n 0, 1) := by decide +kernel
theorem dX11_sweeps_20 : decode cX11_sweeps 20 = .ok (.iload_n 3, 1) := by decide +kernel
theorem dX11_sweeps_21 : decode cX11_sweeps 21 = .ok (.iload_n 2, 1) := by decide +kernel
theorem dX11_sweeps_22 : decode cX11_sweeps 22 = .ok (.invokevirtual 292, 3) := by decide +kernel
theorem dX11_sweeps_25 : decode cX11_sweeps 25 = .ok (.aload_n 0, 1) := by decide +kernel
theorem dX11_sweeps_26 : decode cX11_sweeps 26 = .ok (.invokevirtual 295, 3) := by decide +kernel
theorem dX11_sweeps_29 : decode cX11_sweeps 29 = .ok (.ifCond .eq 54, 3) := by decide +kernel
theorem dX11_sweeps_32 : decode cX11_sweeps 32 = .ok (.iload_n 3, 1) := by decide +kernel
theorem dX11_sweeps_33 : decode cX11_sweeps 33 = .ok (.aload_n 0, 1) := by decide +kernel
theorem dX11_sweeps_34 : decode cX11_sweeps 34 = .ok (.getfield 7, 3) := by decide +kernel
theorem dX11_sweeps_37 : decode cX11_sweeps 37 = .ok (.iconst 3, 1) := by decide +kernel
theorem dX11_sweeps_38 : decode cX11_sweeps 38 = .ok (.iaload, 1) := by decide +kernel
theorem dX11_sweeps_39 : decode cX11_sweeps 39 = .ok (.iadd, 1) := by decide +kernel
theorem dX11_sweeps_40 : decode cX11_sweeps 40 = .ok (.bipush 20, 2) := by decide +kernel
theorem dX11_sweeps_42 : decode cX11_sweeps 42 = .ok (.aload_n 0, 1) := by decide +kernel
theorem dX11_sweeps_43 : decode cX11_sweeps 43 = .ok (.getfield 7, 3) := by decide +kernel
theorem dX11_sweeps_46 : decode cX11_sweeps 46 = .ok (.iconst 2, 1) := by decide +kernel
theorem dX11_sweeps_47 : decode cX11_sweeps 47 = .ok (.iaload, 1) := by decide +kernel
theorem dX11_sweeps_48 : decode cX11_sweeps 48 = .ok (.imul, 1) := by decide +kernel
theorem dX11_sweeps_49 : decode cX11_sweeps 49 = .ok (.iadd, 1) := by decide +kernel
theorem dX11_sweeps_50 : decode cX11_sweeps 50 = .ok (.aload_n 0, 1) := by decide +kernel
theorem dX11_sweeps_51 : decode cX11_sweeps 51 = .ok (.invokevirtual 298, 3) := by decide +kernel
theorem dX11_sweeps_54 : decode cX11_sweeps 54 = .ok (.iadd, 1) := by decide +kernel
theorem dX11_sweeps_55 : decode cX11_sweeps 55 = .ok (.istore_n 2, 1) := by decide +kernel
theorem dX11_sweeps_56 : decode cX11_sweeps 56 = .ok (.aload_n 0, 1) := by decide +kernel
theorem dX11_sweeps_57 : decode cX11_sweeps 57 = .ok (.getfield 76, 3) := by decide +kernel
theorem dX11_sweeps_60 : decode cX11_sweeps 60 = .ok (.aload_n 0, 1) := by decide +kernel
theorem dX11_sweeps_61 : decode cX11_sweeps 61 = .ok (.getfield 283, 3) := by decide +kernel
theorem dX11_sweeps_64 : decode cX11_sweeps 64 = .ok (.iload_n 3, 1) := by decide +kernel
theorem dX11_sweeps_65 : decode cX11_sweeps 65 = .ok (.aload_n 0, 1) := by decide +kernel
theorem dX11_sweeps_66 : decode cX11_sweeps 66 = .ok (.getfield 7, 3) := by decide +kernel
theorem dX11_sweeps_69 : decode cX11_sweeps 69 = .ok (.iconst 3, 1) := by decide +kernel
theorem dX11_sweeps_70 : decode cX11_sweeps 70 = .ok (.iaload, 1) := by decide +kernel
theorem dX11_sweeps_71 : decode cX11_sweeps 71 = .ok (.iadd, 1) := by decide +kernel
theorem dX11_sweeps_72 : decode cX11_sweeps 72 = .ok (.iastore, 1) := by decide +kernel
theorem dX11_sweeps_73 : decode cX11_sweeps 73 = .ok (.aload_n 0, 1) := by decide +kernel
theorem dX11_sweeps_74 : decode cX11_sweeps 74 = .ok (.dup, 1) := by decide +kernel
theorem dX11_sweeps_75 : decode cX11_sweeps 75 = .ok (.getfield 283, 3) := by decide +kernel
theorem dX11_sweeps_78 : decode cX11_sweeps 78 = .ok (.iconst 1, 1) := by decide +kernel
theorem dX11_sweeps_79 : decode cX11_sweeps 79 = .ok (.iadd, 1) := by decide +kernel
theorem dX11_sweeps_80 : decode cX11_sweeps 80 = .ok (.putfield 283, 3) := by decide +kernel
theorem dX11_sweeps_83 : decode cX11_sweeps 83 = .ok (.iinc 3 1, 3) := by decide +kernel
theorem dX11_sweeps_86 : decode cX11_sweeps 86 = .ok (.goto (-77), 3) := by decide +kernel
theorem dX11_sweeps_89 : decode cX11_sweeps 89 = .ok (.return_, 1) := by decide +kernel
theorem dX11_isEnd_0 : decode cX11_isEnd 0 = .ok (.iload_n 0, 1) := by decide +kernel
theorem dX11_isEnd_1 : decode cX11_isEnd 1 = .ok (.iconst 1, 1) := by decide +kernel
theorem dX11_isEnd_2 : decode cX11_isEnd 2 = .ok (.sipush 2000, 3) := by decide +kernel
theorem dX11_isEnd_5 : decode cX11_isEnd 5 = .ok (.invokestatic 97, 3) := by decide +kernel
theorem dX11_isEnd_8 : decode cX11_isEnd 8 = .ok (.ireturn, 1) := by decide +kernel
theorem dX11_swept_0 : decode cX11_swept 0 = .ok (.iload_n 1, 1) := by decide +kernel
theorem dX11_swept_1 : decode cX11_swept 1 = .ok (.invokestatic 301, 3) := by decide +kernel
theorem dX11_swept_4 : decode cX11_swept 4 = .ok (.ifCond .eq 8, 3) := by decide +kernel
theorem dX11_swept_7 : decode cX11_swept 7 = .ok (.iload_n 2, 1) := by decide +kernel
theorem dX11_swept_8 : decode cX11_swept 8 = .ok (.iconst (-1), 1) := by decide +kernel
theorem dX11_swept_9 : decode cX11_swept 9 = .ok (.if_icmp .ge 5, 3) := by decide +kernel
theorem dX11_swept_12 : decode cX11_swept 12 = .ok (.iconst (-1), 1) := by decide +kernel
theorem dX11_swept_13 : decode cX11_swept 13 = .ok (.ireturn, 1) := by decide +kernel
theorem dX11_swept_14 : decode cX11_swept 14 = .ok (.aload_n 0, 1) := by decide +kernel
theorem dX11_swept_15 : decode cX11_swept 15 = .ok (.invokevirtual 304, 3) := by decide +kernel
theorem dX11_swept_18 : decode cX11_swept 18 = .ok (.aload_n 0, 1) := by decide +kernel
theorem dX11_swept_19 : decode cX11_swept 19 = .ok (.iload_n 1, 1) := by decide +kernel
theorem dX11_swept_20 : decode cX11_swept 20 = .ok (.invokevirtual 307, 3) := by decide +kernel
theorem dX11_swept_23 : decode cX11_swept 23 = .ok (.iload_n 2, 1) := by decide +kernel
theorem dX11_swept_24 : decode cX11_swept 24 = .ok (.iconst (-1), 1) := by decide +kernel
theorem dX11_swept_25 : decode cX11_swept 25 = .ok (.if_icmp .ne 10, 3) := by decide +kernel
theorem dX11_swept_28 : decode cX11_swept 28 = .ok (.aload_n 0, 1) := by decide +kernel
theorem dX11_swept_29 : decode cX11_swept 29 = .ok (.getfield 283, 3) := by decide +kernel
theorem dX11_swept_32 : decode cX11_swept 32 = .ok (.goto 21, 3) := by decide +kernel
theorem dX11_swept_35 : decode cX11_swept 35 = .ok (.iload_n 2, 1) := by decide +kernel
theorem dX11_swept_36 : decode cX11_swept 36 = .ok (.aload_n 0, 1) := by decide +kernel
theorem dX11_swept_37 : decode cX11_swept 37 = .ok (.getfield 283, 3) := by decide +kernel
theorem dX11_swept_40 : decode cX11_swept 40 = .ok (.if_icmp .ge 12, 3) := by decide +kernel
theorem dX11_swept_43 : decode cX11_swept 43 = .ok (.aload_n 0, 1) := by decide +kernel
theorem dX11_swept_44 : decode cX11_swept 44 = .ok (.getfield 76, 3) := by decide +kernel
theorem dX11_swept_47 : decode cX11_swept 47 = .ok (.iload_n 2, 1) := by decide +kernel
theorem dX11_swept_48 : decode cX11_swept 48 = .ok (.iaload, 1) := by decide +kernel
theorem dX11_swept_49 : decode cX11_swept 49 = .ok (.goto 4, 3) := by decide +kernel
theorem dX11_swept_52 : decode cX11_swept 52 = .ok (.iconst (-1), 1) := by decide +kernel
theorem dX11_swept_53 : decode cX11_swept 53 = .ok (.ireturn, 1) := by decide +kernel
theorem dX11_rowOf_0 : decode cX11_rowOf 0 = .ok (.aload_n 0, 1) := by decide +kernel
theorem dX11_rowOf_1 : decode cX11_rowOf 1 = .ok (.getfield 42, 3) := by decide +kernel
theorem dX11_rowOf_4 : decode cX11_rowOf 4 = .ok (.sipush 2000, 3) := by decide +kernel
theorem dX11_rowOf_7 : decode cX11_rowOf 7 = .ok (.iload_n 1, 1) := by decide +kernel
theorem dX11_rowOf_8 : decode cX11_rowOf 8 = .ok (.imul, 1) := by decide +kernel
theorem dX11_rowOf_9 : decode cX11_rowOf 9 = .ok (.iload_n 2, 1) := by decide +kernel
theorem dX11_rowOf_10 : decode cX11_rowOf 10 = .ok (.iadd, 1) := by decide +kernel
theorem dX11_rowOf_11 : decode cX11_rowOf 11 = .ok (.iaload, 1) := by decide +kernel
theorem dX11_rowOf_12 : decode cX11_rowOf 12 = .ok (.aload_n 0, 1) := by decide +kernel
theorem dX11_rowOf_13 : decode cX11_rowOf 13 = .ok (.getfield 7, 3) := by decide +kernel
theorem dX11_rowOf_16 : decode cX11_rowOf 16 = .ok (.bipush 12, 2) := by decide +kernel
theorem dX11_rowOf_18 : decode cX11_rowOf 18 = .ok (.iload_n 1, 1) := by decide +kernel
theorem dX11_rowOf_19 : decode cX11_rowOf 19 = .ok (.iadd, 1) := by decide +kernel
theorem dX11_rowOf_20 : decode cX11_rowOf 20 = .ok (.iaload, 1) := by decide +kernel
theorem dX11_rowOf_21 : decode cX11_rowOf 21 = .ok (.invokestatic 309, 3) := by decide +kernel
theorem dX11_rowOf_24 : decode cX11_rowOf 24 = .ok (.bipush 8, 2) := by decide +kernel
theorem dX11_rowOf_26 : decode cX11_rowOf 26 = .ok (.iadd, 1) := by decide +kernel
theorem dX11_rowOf_27 : decode cX11_rowOf 27 = .ok (.aload_n 0, 1) := by decide +kernel
theorem dX11_rowOf_28 : decode cX11_rowOf 28 = .ok (.getfield 7, 3) := by decide +kernel
theorem dX11_rowOf_31 : decode cX11_rowOf 31 = .ok (.bipush 14, 2) := by decide +kernel
theorem dX11_rowOf_33 : decode cX11_rowOf 33 = .ok (.iload_n 1, 1) := by decide +kernel
theorem dX11_rowOf_34 : decode cX11_rowOf 34 = .ok (.iadd, 1) := by decide +kernel
theorem dX11_rowOf_35 : decode cX11_rowOf 35 = .ok (.iaload, 1) := by decide +kernel
theorem dX11_rowOf_36 : decode cX11_rowOf 36 = .ok (.iadd, 1) := by decide +kernel
theorem dX11_rowOf_37 : decode cX11_rowOf 37 = .ok (.istore_n 3, 1) := by decide +kernel
theorem dX11_rowOf_38 : decode cX11_rowOf 38 = .ok (.iload_n 3, 1) := by decide +kernel
theorem dX11_rowOf_39 : decode cX11_rowOf 39 = .ok (.iconst 0, 1) := by decide +kernel
theorem dX11_rowOf_40 : decode cX11_rowOf 40 = .ok (.bipush 15, 2) := by decide +kernel
theorem dX11_rowOf_42 : decode cX11_rowOf 42 = .ok (.invokestatic 97, 3) := by decide +kernel
theorem dX11_rowOf_45 : decode cX11_rowOf 45 = .ok (.ifCond .eq 7, 3) := by decide +kernel
theorem dX11_rowOf_48 : decode cX11_rowOf 48 = .ok (.iload_n 3, 1) := by decide +kernel
theorem dX11_rowOf_49 : decode cX11_rowOf 49 = .ok (.goto 4, 3) := by decide +kernel
theorem dX11_rowOf_52 : decode cX11_rowOf 52 = .ok (.iconst (-1), 1) := by decide +kernel
theorem dX11_rowOf_53 : decode cX11_rowOf 53 = .ok (.ireturn, 1) := by decide +kernel
theorem dX11_turnOf_0 : decode cX11_turnOf 0 = .ok (.aload_n 0, 1) := by decide +kernel
theorem dX11_turnOf_1 : decode cX11_turnOf 1 = .ok (.getfield 7, 3) := by decide +kernel
theorem dX11_turnOf_4 : decode cX11_turnOf 4 = .ok (.iconst 5, 1) := by decide +kernel
theorem dX11_turnOf_5 : decode cX11_turnOf 5 = .ok (.iaload, 1) := by decide +kernel
theorem dX11_turnOf_6 : decode cX11_turnOf 6 = .ok (.iconst 1, 1) := by decide +kernel
theorem dX11_turnOf_7 : decode cX11_turnOf 7 = .ok (.if_icmp .ne 9, 3) := by decide +kernel
theorem dX11_turnOf_10 : decode cX11_turnOf 10 = .ok (.iload_n 1, 1) := by decide +kernel
theorem dX11_turnOf_11 : decode cX11_turnOf 11 = .ok (.iconst 2, 1) := by decide +kernel
theorem dX11_turnOf_12 : decode cX11_turnOf 12 = .ok (.irem, 1) := by decide +kernel
theorem dX11_turnOf_13 : decode cX11_turnOf 13 = .ok (.goto 28, 3) := by decide +kernel
theorem dX11_turnOf_16 : decode cX11_turnOf 16 = .ok (.aload_n 0, 1) := by decide +kernel
theorem dX11_turnOf_17 : decode cX11_turnOf 17 = .ok (.getfield 7, 3) := by decide +kernel
theorem dX11_turnOf_20 : decode cX11_turnOf 20 = .ok (.iconst 5, 1) := by decide +kernel
theorem dX11_turnOf_21 : decode cX11_turnOf 21 = .ok (.iaload, 1) := by decide +kernel
theorem dX11_turnOf_22 : decode cX11_turnOf 22 = .ok (.iconst 2, 1) := by decide +kernel
theorem dX11_turnOf_23 : decode cX11_turnOf 23 = .ok (.if_icmp .ne 17, 3) := by decide +kernel
theorem dX11_turnOf_26 : decode cX11_turnOf 26 = .ok (.iload_n 2, 1) := by decide +kernel
theorem dX11_turnOf_27 : decode cX11_turnOf 27 = .ok (.aload_n 0, 1) := by decide +kernel
theorem dX11_turnOf_28 : decode cX11_turnOf 28 = .ok (.getfield 7, 3) := by decide +kernel
theorem dX11_turnOf_31 : decode cX11_turnOf 31 = .ok (.bipush 6, 2) := by decide +kernel
theorem dX11_turnOf_33 : decode cX11_turnOf 33 = .ok (.iaload, 1) := by decide +kernel
theorem dX11_turnOf_34 : decode cX11_turnOf 34 = .ok (.idiv, 1) := by decide +kernel
theorem dX11_turnOf_35 : decode cX11_turnOf 35 = .ok (.iconst 2, 1) := by decide +kernel
theorem dX11_turnOf_36 : decode cX11_turnOf 36 = .ok (.irem, 1) := by decide +kernel
theorem dX11_turnOf_37 : decode cX11_turnOf 37 = .ok (.goto 4, 3) := by decide +kernel
theorem dX11_turnOf_40 : decode cX11_turnOf 40 = .ok (.iconst 0, 1) := by decide +kernel
theorem dX11_turnOf_41 : decode cX11_turnOf 41 = .ok (.ireturn, 1) := by decide +kernel
theorem dX11_dotOf_0 : decode cX11_dotOf 0 = .ok (.aload_n 0, 1) := by decide +kernel
theorem dX11_dotOf_1 : decode cX11_dotOf 1 = .ok (.getfield 7, 3) := by decide +kernel
theorem dX11_dotOf_4 : decode cX11_dotOf 4 = .ok (.iconst 5, 1) := by decide +kernel
theorem dX11_dotOf_5 : decode cX11_dotOf 5 = .ok (.iaload, 1) := by decide +kernel
theorem dX11_dotOf_6 : decode cX11_dotOf 6 = .ok (.iconst 3, 1) := by decide +kernel
theorem dX11_dotOf_7 : decode cX11_dotOf 7 = .ok (.if_icmp .ne 70, 3) := by decide +kernel
theorem dX11_dotOf_10 : decode cX11_dotOf 10 = .ok (.aload_n 0, 1) := by decide +kernel
theorem dX11_dotOf_11 : decode cX11_dotOf 11 = .ok (.getfield 42, 3) := by decide +kernel
theorem dX11_dotOf_14 : decode cX11_dotOf 14 = .ok (.iload_n 3, 1) := by decide +kernel
theorem dX11_dotOf_15 : decode cX11_dotOf 15 = .ok (.iaload, 1) := by decide +kernel
theorem dX11_dotOf_16 : decode cX11_dotOf 16 = .ok (.aload_n 0, 1) := by decide +kernel
theorem dX11_dotOf_17 : decode cX11_dotOf 17 = .ok (.getfield 7, 3) := by decide +kernel
theorem dX11_dotOf_20 : decode cX11_dotOf 20 = .ok (.bipush 12, 2) := by decide +kernel
theorem dX11_dotOf_22 : decode cX11_dotOf 22 = .ok (.iaload, 1) := by decide +kernel
theorem dX11_dotOf_23 : decode cX11_dotOf 23 = .ok (.invokestatic 309, 3) := by decide +kernel
theorem dX11_dotOf_26 : decode cX11_dotOf 26 = .ok (.bipush 10, 2) := by decide +kernel
theorem dX11_dotOf_28 : decode cX11_dotOf 28 = .ok (.iadd, 1) := by decide +kernel
theorem dX11_dotOf_29 : decode cX11_dotOf 29 = .ok (.aload_n 0, 1) := by decide +kernel
theorem dX11_dotOf_30 : decode cX11_dotOf 30 = .ok (.getfield 7, 3) := by decide +kernel
theorem dX11_dotOf_33 : decode cX11_dotOf 33 = .ok (.bipush 14, 2) := by decide +kernel
theorem dX11_dotOf_35 : decode cX11_dotOf 35 = .ok (.iaload, 1) := by decide +kernel
theorem dX11_dotOf_36 : decode cX11_dotOf 36 = .ok (.iadd, 1) := by decide +kernel
theorem dX11_dotOf_37 : decode cX11_dotOf 37 = .ok (.istore 4, 2) := by decide +kernel
theorem dX11_dotOf_39 : decode cX11_dotOf 39 = .ok (.aload_n 0, 1) := by decide +kernel
theorem dX11_dotOf_40 : decode cX11_dotOf 40 = .ok (.iconst 1, 1) := by decide +kernel
theorem dX11_dotOf_41 : decode cX11_dotOf 41 = .ok (.iload_n 3, 1) := by decide +kernel
theorem dX11_dotOf_42 : decode cX11_dotOf 42 = .ok (.invokevirtual 312, 3) := by decide +kernel
theorem dX11_dotOf_45 : decode cX11_dotOf 45 = .ok (.istore 5, 2) := by decide +kernel
theorem dX11_dotOf_47 : decode cX11_dotOf 47 = .ok (.iload 4, 2) := by decide +kernel
theorem dX11_dotOf_49 : decode cX11_dotOf 49 = .ok (.iconst 0, 1) := by decide +kernel
theorem dX11_dotOf_50 : decode cX11_dotOf 50 = .ok (.bipush 19, 2) := by decide +kernel
theorem dX11_dotOf_52 : decode cX11_dotOf 52 = .ok (.invokestatic 97, 3) := by decide +kernel
theorem dX11_dotOf_55 : decode cX11_dotOf 55 = .ok (.ifCond .eq 20, 3) := by decide +kernel
theorem dX11_dotOf_58 : decode cX11_dotOf 58 = .ok (.iload 5, 2) := by decide +kernel
theorem dX11_dotOf_60 : decode cX11_dotOf 60 = .ok (.iconst (-1), 1) := by decide +kernel
theorem dX11_dotOf_61 : decode cX11_dotOf 61 = .ok (.if_icmp .eq 14, 3) := by decide +kernel
theorem dX11_dotOf_64 : decode cX11_dotOf 64 = .ok (.bipush 16, 2) := by decide +kernel
theorem dX11_dotOf_66 : decode cX11_dotOf 66 = .ok (.iload 4, 2) := by decide +kernel
theorem dX11_dotOf_68 : decode cX11_dotOf 68 = .ok (.imul, 1) := by decide +kernel
theorem dX11_dotOf_69 : decode cX11_dotOf 69 = .ok (.iload 5, 2) := by decide +kernel
theorem dX11_dotOf_71 : decode cX11_dotOf 71 = .ok (.iadd, 1) := by decide +kernel
theorem dX11_dotOf_72 : decode cX11_dotOf 72 = .ok (.goto 4, 3) := by decide +kernel
theorem dX11_dotOf_75 : decode cX11_dotOf 75 = .ok (.iconst (-1), 1) := by decide +kernel
theorem dX11_dotOf_76 : decode cX11_dotOf 76 = .ok (.ireturn, 1) := by decide +kernel
theorem dX11_dotOf_77 : decode cX11_dotOf 77 = .ok (.aload_n 0, 1) := by decide +kernel
theorem dX11_dotOf_78 : decode cX11_dotOf 78 = .ok (.aload_n 0, 1) := by decide +kernel
theorem dX11_dotOf_79 : decode cX11_dotOf 79 = .ok (.iload_n 1, 1) := by decide +kernel
theorem dX11_dotOf_80 : decode cX11_dotOf 80 = .ok (.iload_n 3, 1) := by decide +kernel
theorem dX11_dotOf_81 : decode cX11_dotOf 81 = .ok (.invokevirtual 315, 3) := by decide +kernel
theorem dX11_dotOf_84 : decode cX11_dotOf 84 = .ok (.iload_n 3, 1) := by decide +kernel
theorem dX11_dotOf_85 : decode cX11_dotOf 85 = .ok (.invokevirtual 312, 3) := by decide +kernel
theorem dX11_dotOf_88 : decode cX11_dotOf 88 = .ok (.istore 4, 2) := by decide +kernel
theorem dX11_dotOf_90 : decode cX11_dotOf 90 = .ok (.iload 4, 2) := by decide +kernel
theorem dX11_dotOf_92 : decode cX11_dotOf 92 = .ok (.iconst (-1), 1) := by decide +kernel
theorem dX11_dotOf_93 : decode cX11_dotOf 93 = .ok (.if_icmp .ne 7, 3) := by decide +kernel
theorem dX11_dotOf_96 : decode cX11_dotOf 96 = .ok (.iconst (-1), 1) := by decide +kernel
theorem dX11_dotOf_97 : decode cX11_dotOf 97 = .ok (.goto 10, 3) := by decide +kernel
theorem dX11_dotOf_100 : decode cX11_dotOf 100 = .ok (.bipush 16, 2) := by decide +kernel
theorem dX11_dotOf_102 : decode cX11_dotOf 102 = .ok (.iload_n 2, 1) := by decide +kernel
theorem dX11_dotOf_103 : decode cX11_dotOf 103 = .ok (.imul, 1) := by decide +kernel
theorem dX11_dotOf_104 : decode cX11_dotOf 104 = .ok (.iload 4, 2) := by decide +kernel
theorem dX11_dotOf_106 : decode cX11_dotOf 106 = .ok (.iadd, 1) := by decide +kernel
theorem dX11_dotOf_107 : decode cX11_dotOf 107 = .ok (.ireturn, 1) := by decide +kernel
theorem dX11_draws_0 : decode cX11_draws 0 = .ok (.iconst 0, 1) := by decide +kernel
theorem dX11_draws_1 : decode cX11_draws 1 = .ok (.istore_n 2, 1) := by decide +kernel
theorem dX11_draws_2 : decode cX11_draws 2 = .ok (.iload_n 2, 1) := by decide +kernel
theorem dX11_draws_3 : decode cX11_draws 3 = .ok (.sipush 320, 3) := by decide +kernel
theorem dX11_draws_6 : decode cX11_draws 6 = .ok (.if_icmp .ge 16, 3) := by decide +kernel
theorem dX11_draws_9 : decode cX11_draws 9 = .ok (.aload_n 0, 1) := by decide +kernel
theorem dX11_draws_10 : decode cX11_draws 10 = .ok (.getfield 79, 3) := by decide +kernel
theorem dX11_draws_13 : decode cX11_draws 13 = .ok (.iload_n 2, 1) := by decide +kernel
theorem dX11_draws_14 : decode cX11_draws 14 = .ok (.iconst 0, 1) := by decide +kernel
theorem dX11_draws_15 : decode cX11_draws 15 = .ok (.iastore, 1) := by decide +kernel
theorem dX11_draws_16 : decode cX11_draws 16 = .ok (.iinc 2 1, 3) := by decide +kernel
theorem dX11_draws_19 : decode cX11_draws 19 = .ok (.goto (-17), 3) := by decide +kernel
theorem dX11_draws_22 : decode cX11_draws 22 = .ok (.iconst 0, 1) := by decide +kernel
theorem dX11_draws_23 : decode cX11_draws 23 = .ok (.istore_n 2, 1) := by decide +kernel
theorem dX11_draws_24 : decode cX11_draws 24 = .ok (.iload_n 2, 1) := by decide +kernel
theorem dX11_draws_25 : decode cX11_draws 25 = .ok (.aload_n 0, 1) := by decide +kernel
theorem dX11_draws_26 : decode cX11_draws 26 = .ok (.getfield 283, 3) := by decide +kernel
theorem dX11_draws_29 : decode cX11_draws 29 = .ok (.if_icmp .ge 152, 3) := by decide +kernel
theorem dX11_draws_32 : decode cX11_draws 32 = .ok (.iconst 0, 1) := by decide +kernel
theorem dX11_draws_33 : decode cX11_draws 33 = .ok (.istore_n 3, 1) := by decide +kernel
theorem dX11_draws_34 : decode cX11_draws 34 = .ok (.iload_n 3, 1) := by decide +kernel
theorem dX11_draws_35 : decode cX11_draws 35 = .ok (.sipush 320, 3) := by decide +kernel
theorem dX11_draws_38 : decode cX11_draws 38 = .ok (.if_icmp .ge 41, 3) := by decide +kernel
theorem dX11_draws_41 : decode cX11_draws 41 = .ok (.aload_n 0, 1) := by decide +kernel
theorem dX11_draws_42 : decode cX11_draws 42 = .ok (.getfield 76, 3) := by decide +kernel
theorem dX11_draws_45 : decode cX11_draws 45 = .ok (.iload_n 2, 1) := by decide +kernel
theorem dX11_draws_46 : decode cX11_draws 46 = .ok (.iaload, 1) := by decide +kernel
theorem dX11_draws_47 : decode cX11_draws 47 = .ok (.iload_n 1, 1) := by decide +kernel
theorem dX11_draws_48 : decode cX11_draws 48 = .ok (.if_icmp .ge 31, 3) := by decide +kernel
theorem dX11_draws_51 : decode cX11_draws 51 = .ok (.aload_n 0, 1) := by decide +kernel
theorem dX11_draws_52 : decode cX11_draws 52 = .ok (.getfield 79, 3) := by decide +kernel
theorem dX11_draws_55 : decode cX11_draws 55 = .ok (.iload_n 3, 1) := by decide +kernel
theorem dX11_draws_56 : decode cX11_draws 56 = .ok (.aload_n 0, 1) := by decide +kernel
theorem dX11_draws_57 : decode cX11_draws 57 = .ok (.getfield 79, 3) := by decide +kernel
theorem dX11_draws_60 : decode cX11_draws 60 = .ok (.iload_n 3, 1) := by decide +kernel
theorem dX11_draws_61 : decode cX11_draws 61 = .ok (.iaload, 1) := by decide +kernel
theorem dX11_draws_62 : decode cX11_draws 62 = .ok (.aload_n 0, 1) := by decide +kernel
theorem dX11_draws_63 : decode cX11_draws 63 = .ok (.getfield 7, 3) := by decide +kernel
theorem dX11_draws_66 : decode cX11_draws 66 = .ok (.iconst 4, 1) := by decide +kernel
theorem dX11_draws_67 : decode cX11_draws 67 = .ok (.iaload, 1) := by decide +kernel
theorem dX11_draws_68 : decode cX11_draws 68 = .ok (.imul, 1) := by decide +kernel
theorem dX11_draws_69 : decode cX11_draws 69 = .ok (.bipush 16, 2) := by decide +kernel
theorem dX11_draws_71 : decode cX11_draws 71 = .ok (.idiv, 1) := by decide +kernel
theorem dX11_draws_72 : decode cX11_draws 72 = .ok (.iastore, 1) := by decide +kernel
theorem dX11_draws_73 : decode cX11_draws 73 = .ok (.iinc 3 1, 3) := by decide +kernel
theorem dX11_draws_76 : decode cX11_draws 76 = .ok (.goto (-42), 3) := by decide +kernel
theorem dX11_draws_79 : decode cX11_draws 79 = .ok (.iconst 0, 1) := by decide +kernel
theorem dX11_draws_80 : decode cX11_draws 80 = .ok (.istore_n 3, 1) := by decide +kernel
theorem dX11_draws_81 : decode cX11_draws 81 = .ok (.iload_n 3, 1) := by decide +kernel
theorem dX11_draws_82 : decode cX11_draws 82 = .ok (.bipush 20, 2) := by decide +kernel
theorem dX11_draws_84 : decode cX11_draws 84 = .ok (.if_icmp .ge 91, 3) := by decide +kernel
theorem dX11_draws_87 : decode cX11_draws 87 = .ok (.aload_n 0, 1) := by decide +kernel
theorem dX11_draws_88 : decode cX11_draws 88 = .ok (.getfield 76, 3) := by decide +kernel
theorem dX11_draws_91 : decode cX11_draws 91 = .ok (.iload_n 2, 1) := by decide +kernel
theorem dX11_draws_92 : decode cX11_draws 92 = .ok (.iaload, 1) := by decide +kernel
theorem dX11_draws_93 : decode cX11_draws 93 = .ok (.iload_n 3, 1) := by decide +kernel
theorem dX11_draws_94 : decode cX11_draws 94 = .ok (.aload_n 0, 1) := by decide +kernel
theorem dX11_draws_95 : decode cX11_draws 95 = .ok (.getfield 7, 3) := by decide +kernel
theorem dX11_draws_98 : decode cX11_draws 98 = .ok (.iconst 2, 1) := by decide +kernel
theorem dX11_draws_99 : decode cX11_draws 99 = .ok (.iaload, 1) := by decide +kernel
theorem dX11_draws_100 : decode cX11_draws 100 = .ok (.imul, 1) := by decide +kernel
theorem dX11_draws_101 : decode cX11_draws 101 = .ok (.iadd, 1) := by decide +kernel
theorem dX11_draws_102 : decode cX11_draws 102 = .ok (.istore 4, 2) := by decide +kernel
theorem dX11_draws_104 : decode cX11_draws 104 = .ok (.iload 4, 2) := by decide +kernel
theorem dX11_draws_106 : decode cX11_draws 106 = .ok (.iload_n 1, 1) := by decide +kernel
theorem dX11_draws_107 : decode cX11_draws 107 = .ok (.if_icmp .ge 14, 3) := by decide +kernel
theorem dX11_draws_110 : decode cX11_draws 110 = .ok (.aload_n 0, 1) := by decide +kernel
theorem dX11_draws_111 : decode cX11_draws 111 = .ok (.iload_n 2, 1) := by decide +kernel
theorem dX11_draws_112 : decode cX11_draws 112 = .ok (.iload_n 3, 1) := by decide +kernel
theorem dX11_draws_113 : decode cX11_draws 113 = .ok (.iload 4, 2) := by decide +kernel
theorem dX11_draws_115 : decode cX11_draws 115 = .ok (.invokevirtual 318, 3) := by decide +kernel
theorem dX11_draws_118 : decode cX11_draws 118 = .ok (.goto 4, 3) := by decide +kernel
theorem dX11_draws_121 : decode cX11_draws 121 = .ok (.iconst (-1), 1) := by decide +kernel
theorem dX11_draws_122 : decode cX11_draws 122 = .ok (.istore 5, 2) := by decide +kernel
theorem dX11_draws_124 : decode cX11_draws 124 = .ok (.iload 5, 2) := by decide +kernel
theorem dX11_draws_126 : decode cX11_draws 126 = .ok (.iconst (-1), 1) := by decide +kernel
theorem dX11_draws_127 : decode cX11_draws 127 = .ok (.if_icmp .eq 42, 3) := by decide +kernel
theorem dX11_draws_130 : decode cX11_draws 130 = .ok (.aload_n 0, 1) := by decide +kernel
theorem dX11_draws_131 : decode cX11_draws 131 = .ok (.getfield 79, 3) := by decide +kernel
theorem dX11_draws_134 : decode cX11_draws 134 = .ok (.iload 5, 2) := by decide +kernel
theorem dX11_draws_136 : decode cX11_draws 136 = .ok (.aload_n 0, 1) := by decide +kernel
theorem dX11_draws_137 : decode cX11_draws 137 = .ok (.getfield 79, 3) := by decide +kernel
theorem dX11_draws_140 : decode cX11_draws 140 = .ok (.iload 5, 2) := by decide +kernel
theorem dX11_draws_142 : decode cX11_draws 142 = .ok (.iaload, 1) := by decide +kernel
theorem dX11_draws_143 : decode cX11_draws 143 = .ok (.bipush 16, 2) := by decide +kernel
theorem dX11_draws_145 : decode cX11_draws 145 = .ok (.iadd, 1) := by decide +kernel
theorem dX11_draws_146 : decode cX11_draws 146 = .ok (.sipush 999, 3) := by decide +kernel
theorem dX11_draws_149 : decode cX11_draws 149 = .ok (.if_icmp .le 9, 3) := by decide +kernel
theorem dX11_draws_152 : decode cX11_draws 152 = .ok (.sipush 999, 3) := by decide +kernel
theorem dX11_draws_155 : decode cX11_draws 155 = .ok (.goto 13, 3) := by decide +kernel
theorem dX11_draws_158 : decode cX11_draws 158 = .ok (.aload_n 0, 1) := by decide +kernel
theorem dX11_draws_159 : decode cX11_draws 159 = .ok (.getfield 79, 3) := by decide +kernel
theorem dX11_draws_162 : decode cX11_draws 162 = .ok (.iload 5, 2) := by decide +kernel
theorem dX11_draws_164 : decode cX11_draws 164 = .ok (.iaload, 1) := by decide +kernel
theorem dX11_draws_165 : decode cX11_draws 165 = .ok (.bipush 16, 2) := by decide +kernel
theorem dX11_draws_167 : decode cX11_draws 167 = .ok (.iadd, 1) := by decide +kernel
theorem dX11_draws_168 : decode cX11_draws 168 = .ok (.iastore, 1) := by decide +kernel
theorem dX11_draws_169 : decode cX11_draws 169 = .ok (.iinc 3 1, 3) := by decide +kernel
theorem dX11_draws_172 : decode cX11_draws 172 = .ok (.goto (-91), 3) := by decide +kernel
theorem dX11_draws_175 : decode cX11_draws 175 = .ok (.iinc 2 1, 3) := by decide +kernel
theorem dX11_draws_178 : decode cX11_draws 178 = .ok (.goto (-154), 3) := by decide +kernel
theorem dX11_draws_181 : decode cX11_draws 181 = .ok (.return_, 1) := by decide +kernel
theorem dX11_shows_0 : decode cX11_shows 0 = .ok (.aload_n 0, 1) := by decide +kernel
theorem dX11_shows_1 : decode cX11_shows 1 = .ok (.invokevirtual 304, 3) := by decide +kernel
theorem dX11_shows_4 : decode cX11_shows 4 = .ok (.aload_n 0, 1) := by decide +kernel
theorem dX11_shows_5 : decode cX11_shows 5 = .ok (.iload_n 1, 1) := by decide +kernel
theorem dX11_shows_6 : decode cX11_shows 6 = .ok (.invokevirtual 307, 3) := by decide +kernel
theorem dX11_shows_9 : decode cX11_shows 9 = .ok (.aload_n 0, 1) := by decide +kernel
theorem dX11_shows_10 : decode cX11_shows 10 = .ok (.iload_n 1, 1) := by decide +kernel
theorem dX11_shows_11 : decode cX11_shows 11 = .ok (.invokevirtual 322, 3) := by decide +kernel
theorem dX11_shows_14 : decode cX11_shows 14 = .ok (.return_, 1) := by decide +kernel
theorem dX11_glow_0 : decode cX11_glow 0 = .ok (.iload_n 1, 1) := by decide +kernel
theorem dX11_glow_1 : decode cX11_glow 1 = .ok (.invokestatic 301, 3) := by decide +kernel
theorem dX11_glow_4 : decode cX11_glow 4 = .ok (.ifCond .eq 23, 3) := by decide +kernel
theorem dX11_glow_7 : decode cX11_glow 7 = .ok (.iload_n 2, 1) := by decide +kernel
theorem dX11_glow_8 : decode cX11_glow 8 = .ok (.iconst 0, 1) := by decide +kernel
theorem dX11_glow_9 : decode cX11_glow 9 = .ok (.bipush 19, 2) := by decide +kernel
theorem dX11_glow_11 : decode cX11_glow 11 = .ok (.invokestatic 97, 3) := by decide +kernel
theorem dX11_glow_14 : decode cX11_glow 14 = .ok (.ifCond .eq 13, 3) := by decide +kernel
theorem dX11_glow_17 : decode cX11_glow 17 = .ok (.iload_n 3, 1) := by decide +kernel
theorem dX11_glow_18 : decode cX11_glow 18 = .ok (.iconst 0, 1) := by decide +kernel
theorem dX11_glow_19 : decode cX11_glow 19 = .ok (.bipush 15, 2) := by decide +kernel
theorem dX11_glow_21 : decode cX11_glow 21 = .ok (.invokestatic 97, 3) := by decide +kernel
theorem dX11_glow_24 : decode cX11_glow 24 = .ok (.ifCond .ne 5, 3) := by decide +kernel
theorem dX11_glow_27 : decode cX11_glow 27 = .ok (.iconst (-1), 1) := by decide +kernel
theorem dX11_glow_28 : decode cX11_glow 28 = .ok (.ireturn, 1) := by decide +kernel
theorem dX11_glow_29 : decode cX11_glow 29 = .ok (.aload_n 0, 1) := by decide +kernel
theorem dX11_glow_30 : decode cX11_glow 30 = .ok (.iload_n 1, 1) := by decide +kernel
theorem dX11_glow_31 : decode cX11_glow 31 = .ok (.invokevirtual 325, 3) := by decide +kernel
theorem dX11_glow_34 : decode cX11_glow 34 = .ok (.aload_n 0, 1) := by decide +kernel
theorem dX11_glow_35 : decode cX11_glow 35 = .ok (.getfield 79, 3) := by decide +kernel
theorem dX11_glow_38 : decode cX11_glow 38 = .ok (.bipush 16, 2) := by decide +kernel
theorem dX11_glow_40 : decode cX11_glow 40 = .ok (.iload_n 2, 1) := by decide +kernel
theorem dX11_glow_41 : decode cX11_glow 41 = .ok (.imul, 1) := by decide +kernel
theorem dX11_glow_42 : decode cX11_glow 42 = .ok (.iload_n 3, 1) := by decide +kernel
theorem dX11_glow_43 : decode cX11_glow 43 = .ok (.iadd, 1) := by decide +kernel
theorem dX11_glow_44 : decode cX11_glow 44 = .ok (.iaload, 1) := by decide +kernel
theorem dX11_glow_45 : decode cX11_glow 45 = .ok (.ireturn, 1) := by decide +kernel
theorem dX11_rowsOf_0 : decode cX11_rowsOf 0 = .ok (.iconst 0, 1) := by decide +kernel
theorem dX11_rowsOf_1 : decode cX11_rowsOf 1 = .ok (.istore_n 3, 1) := by decide +kernel
theorem dX11_rowsOf_2 : decode cX11_rowsOf 2 = .ok (.iconst 0, 1) := by decide +kernel
theorem dX11_rowsOf_3 : decode cX11_rowsOf 3 = .ok (.istore 4, 2) := by decide +kernel
theorem dX11_rowsOf_5 : decode cX11_rowsOf 5 = .ok (.iload 4, 2) := by decide +kernel
theorem dX11_rowsOf_7 : decode cX11_rowsOf 7 = .ok (.bipush 16, 2) := by decide +kernel
theorem dX11_rowsOf_9 : decode cX11_rowsOf 9 = .ok (.if_icmp .ge 36, 3) := by decide +kernel
theorem dX11_rowsOf_12 : decode cX11_rowsOf 12 = .ok (.aload_n 0, 1) := by decide +kernel
theorem dX11_rowsOf_13 : decode cX11_rowsOf 13 = .ok (.getfield 79, 3) := by decide +kernel
theorem dX11_rowsOf_16 : decode cX11_rowsOf 16 = .ok (.bipush 16, 2) := by decide +kernel
theorem dX11_rowsOf_18 : decode cX11_rowsOf 18 = .ok (.iload_n 1, 1) := by decide +kernel
theorem dX11_rowsOf_19 : decode cX11_rowsOf 19 = .ok (.imul, 1) := by decide +kernel
theorem dX11_rowsOf_20 : decode cX11_rowsOf 20 = .ok (.iload 4, 2) := by decide +kernel
theorem dX11_rowsOf_22 : decode cX11_rowsOf 22 = .ok (.iadd, 1) := by decide +kernel
theorem dX11_rowsOf_23 : decode cX11_rowsOf 23 = .ok (.iaload, 1) := by decide +kernel
theorem dX11_rowsOf_24 : decode cX11_rowsOf 24 = .ok (.iload_n 2, 1) := by decide +kernel
theorem dX11_rowsOf_25 : decode cX11_rowsOf 25 = .ok (.if_icmp .lt 12, 3) := by decide +kernel
theorem dX11_rowsOf_28 : decode cX11_rowsOf 28 = .ok (.iload_n 3, 1) := by decide +kernel
theorem dX11_rowsOf_29 : decode cX11_rowsOf 29 = .ok (.iconst 1, 1) := by decide +kernel
theorem dX11_rowsOf_30 : decode cX11_rowsOf 30 = .ok (.iload 4, 2) := by decide +kernel
theorem dX11_rowsOf_32 : decode cX11_rowsOf 32 = .ok (.ishl, 1) := by decide +kernel
theorem dX11_rowsOf_33 : decode cX11_rowsOf 33 = .ok (.ior, 1) := by decide +kernel
theorem dX11_rowsOf_34 : decode cX11_rowsOf 34 = .ok (.goto 4, 3) := by decide +kernel
theorem dX11_rowsOf_37 : decode cX11_rowsOf 37 = .ok (.iload_n 3, 1) := by decide +kernel
theorem dX11_rowsOf_38 : decode cX11_rowsOf 38 = .ok (.istore_n 3, 1) := by decide +kernel
theorem dX11_rowsOf_39 : decode cX11_rowsOf 39 = .ok (.iinc 4 1, 3) := by decide +kernel
theorem dX11_rowsOf_42 : decode cX11_rowsOf 42 = .ok (.goto (-37), 3) := by decide +kernel
theorem dX11_rowsOf_45 : decode cX11_rowsOf 45 = .ok (.iload_n 3, 1) := by decide +kernel
theorem dX11_rowsOf_46 : decode cX11_rowsOf 46 = .ok (.ireturn, 1) := by decide +kernel
theorem dX11_dots_0 : decode cX11_dots 0 = .ok (.iconst 0, 1) := by decide +kernel
theorem dX11_dots_1 : decode cX11_dots 1 = .ok (.istore_n 2, 1) := by decide +kernel
theorem dX11_dots_2 : decode cX11_dots 2 = .ok (.iconst 0, 1) := by decide +kernel
theorem dX11_dots_3 : decode cX11_dots 3 = .ok (.istore_n 3, 1) := by decide +kernel
theorem dX11_dots_4 : decode cX11_dots 4 = .ok (.iload_n 3, 1) := by decide +kernel
theorem dX11_dots_5 : decode cX11_dots 5 = .ok (.sipush 320, 3) := by decide +kernel
theorem dX11_dots_8 : decode cX11_dots 8 = .ok (.if_icmp .ge 27, 3) := by decide +kernel
theorem dX11_dots_11 : decode cX11_dots 11 = .ok (.iload_n 2, 1) := by decide +kernel
theorem dX11_dots_12 : decode cX11_dots 12 = .ok (.aload_n 0, 1) := by decide +kernel
theorem dX11_dots_13 : decode cX11_dots 13 = .ok (.getfield 79, 3) := by decide +kernel
theorem dX11_dots_16 : decode cX11_dots 16 = .ok (.iload_n 3, 1) := by decide +kernel
theorem dX11_dots_17 : decode cX11_dots 17 = .ok (.iaload, 1) := by decide +kernel
theorem dX11_dots_18 : decode cX11_dots 18 = .ok (.iload_n 1, 1) := by decide +kernel
theorem dX11_dots_19 : decode cX11_dots 19 = .ok (.if_icmp .lt 7, 3) := by decide +kernel
end
section
theorem dX11_dots_22 : decode cX11_dots 22 = .ok (.iconst 1, 1) := by decide +kernel
theorem dX11_dots_23 : decode cX11_dots 23 = .ok (.goto 4, 3) := by decide +kernel
theorem dX11_dots_26 : decode cX11_dots 26 = .ok (.iconst 0, 1) := by decide +kernel
theorem dX11_dots_27 : decode cX11_dots 27 = .ok (.iadd, 1) := by decide +kernel
theorem dX11_dots_28 : decode cX11_dots 28 = .ok (.istore_n 2, 1) := by decide +kernel
theorem dX11_dots_29 : decode cX11_dots 29 = .ok (.iinc 3 1, 3) := by decide +kernel
theorem dX11_dots_32 : decode cX11_dots 32 = .ok (.goto (-28), 3) := by decide +kernel
theorem dX11_dots_35 : decode cX11_dots 35 = .ok (.iload_n 2, 1) := by decide +kernel
theorem dX11_dots_36 : decode cX11_dots 36 = .ok (.ireturn, 1) := by decide +kernel
theorem dX11_isLight_0 : decode cX11_isLight 0 = .ok (.iload_n 0, 1) := by decide +kernel
theorem dX11_isLight_1 : decode cX11_isLight 1 = .ok (.iconst 1, 1) := by decide +kernel
theorem dX11_isLight_2 : decode cX11_isLight 2 = .ok (.sipush 999, 3) := by decide +kernel
theorem dX11_isLight_5 : decode cX11_isLight 5 = .ok (.invokestatic 97, 3) := by decide +kernel
theorem dX11_isLight_8 : decode cX11_isLight 8 = .ok (.ireturn, 1) := by decide +kernel
theorem dX11_lit_0 : decode cX11_lit 0 = .ok (.iload_n 1, 1) := by decide +kernel
theorem dX11_lit_1 : decode cX11_lit 1 = .ok (.invokestatic 301, 3) := by decide +kernel
theorem dX11_lit_4 : decode cX11_lit 4 = .ok (.ifCond .eq 20, 3) := by decide +kernel
theorem dX11_lit_7 : decode cX11_lit 7 = .ok (.iload_n 2, 1) := by decide +kernel
theorem dX11_lit_8 : decode cX11_lit 8 = .ok (.invokestatic 328, 3) := by decide +kernel
theorem dX11_lit_11 : decode cX11_lit 11 = .ok (.ifCond .eq 13, 3) := by decide +kernel
theorem dX11_lit_14 : decode cX11_lit 14 = .ok (.iload_n 3, 1) := by decide +kernel
theorem dX11_lit_15 : decode cX11_lit 15 = .ok (.iconst (-1), 1) := by decide +kernel
theorem dX11_lit_16 : decode cX11_lit 16 = .ok (.bipush 19, 2) := by decide +kernel
theorem dX11_lit_18 : decode cX11_lit 18 = .ok (.invokestatic 97, 3) := by decide +kernel
theorem dX11_lit_21 : decode cX11_lit 21 = .ok (.ifCond .ne 5, 3) := by decide +kernel
theorem dX11_lit_24 : decode cX11_lit 24 = .ok (.iconst (-1), 1) := by decide +kernel
theorem dX11_lit_25 : decode cX11_lit 25 = .ok (.ireturn, 1) := by decide +kernel
theorem dX11_lit_26 : decode cX11_lit 26 = .ok (.aload_n 0, 1) := by decide +kernel
theorem dX11_lit_27 : decode cX11_lit 27 = .ok (.iload_n 1, 1) := by decide +kernel
theorem dX11_lit_28 : decode cX11_lit 28 = .ok (.invokevirtual 325, 3) := by decide +kernel
theorem dX11_lit_31 : decode cX11_lit 31 = .ok (.iload_n 3, 1) := by decide +kernel
theorem dX11_lit_32 : decode cX11_lit 32 = .ok (.iconst (-1), 1) := by decide +kernel
theorem dX11_lit_33 : decode cX11_lit 33 = .ok (.if_icmp .ne 11, 3) := by decide +kernel
theorem dX11_lit_36 : decode cX11_lit 36 = .ok (.aload_n 0, 1) := by decide +kernel
theorem dX11_lit_37 : decode cX11_lit 37 = .ok (.iload_n 2, 1) := by decide +kernel
theorem dX11_lit_38 : decode cX11_lit 38 = .ok (.invokevirtual 331, 3) := by decide +kernel
theorem dX11_lit_41 : decode cX11_lit 41 = .ok (.goto 9, 3) := by decide +kernel
theorem dX11_lit_44 : decode cX11_lit 44 = .ok (.aload_n 0, 1) := by decide +kernel
theorem dX11_lit_45 : decode cX11_lit 45 = .ok (.iload_n 3, 1) := by decide +kernel
theorem dX11_lit_46 : decode cX11_lit 46 = .ok (.iload_n 2, 1) := by decide +kernel
theorem dX11_lit_47 : decode cX11_lit 47 = .ok (.invokevirtual 334, 3) := by decide +kernel
theorem dX11_lit_50 : decode cX11_lit 50 = .ok (.ireturn, 1) := by decide +kernel
theorem dX11_otherwise_0 : decode cX11_otherwise 0 = .ok (.iload_n 1, 1) := by decide +kernel
theorem dX11_otherwise_1 : decode cX11_otherwise 1 = .ok (.invokestatic 115, 3) := by decide +kernel
theorem dX11_otherwise_4 : decode cX11_otherwise 4 = .ok (.ifCond .eq 19, 3) := by decide +kernel
theorem dX11_otherwise_7 : decode cX11_otherwise 7 = .ok (.iload_n 2, 1) := by decide +kernel
theorem dX11_otherwise_8 : decode cX11_otherwise 8 = .ok (.iconst 0, 1) := by decide +kernel
theorem dX11_otherwise_9 : decode cX11_otherwise 9 = .ok (.sipush 1000, 3) := by decide +kernel
theorem dX11_otherwise_12 : decode cX11_otherwise 12 = .ok (.invokestatic 97, 3) := by decide +kernel
theorem dX11_otherwise_15 : decode cX11_otherwise 15 = .ok (.ifCond .eq 8, 3) := by decide +kernel
theorem dX11_otherwise_18 : decode cX11_otherwise 18 = .ok (.iload_n 3, 1) := by decide +kernel
theorem dX11_otherwise_19 : decode cX11_otherwise 19 = .ok (.iconst (-1), 1) := by decide +kernel
theorem dX11_otherwise_20 : decode cX11_otherwise 20 = .ok (.if_icmp .ge 5, 3) := by decide +kernel
theorem dX11_otherwise_23 : decode cX11_otherwise 23 = .ok (.iconst (-1), 1) := by decide +kernel
theorem dX11_otherwise_24 : decode cX11_otherwise 24 = .ok (.ireturn, 1) := by decide +kernel
theorem dX11_otherwise_25 : decode cX11_otherwise 25 = .ok (.aload_n 0, 1) := by decide +kernel
theorem dX11_otherwise_26 : decode cX11_otherwise 26 = .ok (.iload_n 1, 1) := by decide +kernel
theorem dX11_otherwise_27 : decode cX11_otherwise 27 = .ok (.invokevirtual 118, 3) := by decide +kernel
theorem dX11_otherwise_30 : decode cX11_otherwise 30 = .ok (.iconst 0, 1) := by decide +kernel
theorem dX11_otherwise_31 : decode cX11_otherwise 31 = .ok (.istore 4, 2) := by decide +kernel
theorem dX11_otherwise_33 : decode cX11_otherwise 33 = .ok (.iconst 0, 1) := by decide +kernel
theorem dX11_otherwise_34 : decode cX11_otherwise 34 = .ok (.istore 5, 2) := by decide +kernel
theorem dX11_otherwise_36 : decode cX11_otherwise 36 = .ok (.iload 5, 2) := by decide +kernel
theorem dX11_otherwise_38 : decode cX11_otherwise 38 = .ok (.bipush 20, 2) := by decide +kernel
theorem dX11_otherwise_40 : decode cX11_otherwise 40 = .ok (.if_icmp .ge 64, 3) := by decide +kernel
theorem dX11_otherwise_43 : decode cX11_otherwise 43 = .ok (.aload_n 0, 1) := by decide +kernel
theorem dX11_otherwise_44 : decode cX11_otherwise 44 = .ok (.getfield 82, 3) := by decide +kernel
theorem dX11_otherwise_47 : decode cX11_otherwise 47 = .ok (.iload 5, 2) := by decide +kernel
theorem dX11_otherwise_49 : decode cX11_otherwise 49 = .ok (.aload_n 0, 1) := by decide +kernel
theorem dX11_otherwise_50 : decode cX11_otherwise 50 = .ok (.getfield 42, 3) := by decide +kernel
theorem dX11_otherwise_53 : decode cX11_otherwise 53 = .ok (.sipush 2000, 3) := by decide +kernel
theorem dX11_otherwise_56 : decode cX11_otherwise 56 = .ok (.iload_n 1, 1) := by decide +kernel
theorem dX11_otherwise_57 : decode cX11_otherwise 57 = .ok (.imul, 1) := by decide +kernel
theorem dX11_otherwise_58 : decode cX11_otherwise 58 = .ok (.iload_n 2, 1) := by decide +kernel
theorem dX11_otherwise_59 : decode cX11_otherwise 59 = .ok (.iadd, 1) := by decide +kernel
theorem dX11_otherwise_60 : decode cX11_otherwise 60 = .ok (.iload 5, 2) := by decide +kernel
theorem dX11_otherwise_62 : decode cX11_otherwise 62 = .ok (.aload_n 0, 1) := by decide +kernel
theorem dX11_otherwise_63 : decode cX11_otherwise 63 = .ok (.getfield 7, 3) := by decide +kernel
theorem dX11_otherwise_66 : decode cX11_otherwise 66 = .ok (.iconst 2, 1) := by decide +kernel
theorem dX11_otherwise_67 : decode cX11_otherwise 67 = .ok (.iaload, 1) := by decide +kernel
theorem dX11_otherwise_68 : decode cX11_otherwise 68 = .ok (.imul, 1) := by decide +kernel
theorem dX11_otherwise_69 : decode cX11_otherwise 69 = .ok (.iadd, 1) := by decide +kernel
theorem dX11_otherwise_70 : decode cX11_otherwise 70 = .ok (.iaload, 1) := by decide +kernel
theorem dX11_otherwise_71 : decode cX11_otherwise 71 = .ok (.iastore, 1) := by decide +kernel
theorem dX11_otherwise_72 : decode cX11_otherwise 72 = .ok (.aload_n 0, 1) := by decide +kernel
theorem dX11_otherwise_73 : decode cX11_otherwise 73 = .ok (.getfield 82, 3) := by decide +kernel
theorem dX11_otherwise_76 : decode cX11_otherwise 76 = .ok (.iload 5, 2) := by decide +kernel
theorem dX11_otherwise_78 : decode cX11_otherwise 78 = .ok (.iaload, 1) := by decide +kernel
theorem dX11_otherwise_79 : decode cX11_otherwise 79 = .ok (.iload 4, 2) := by decide +kernel
theorem dX11_otherwise_81 : decode cX11_otherwise 81 = .ok (.if_icmp .le 13, 3) := by decide +kernel
theorem dX11_otherwise_84 : decode cX11_otherwise 84 = .ok (.aload_n 0, 1) := by decide +kernel
theorem dX11_otherwise_85 : decode cX11_otherwise 85 = .ok (.getfield 82, 3) := by decide +kernel
theorem dX11_otherwise_88 : decode cX11_otherwise 88 = .ok (.iload 5, 2) := by decide +kernel
theorem dX11_otherwise_90 : decode cX11_otherwise 90 = .ok (.iaload, 1) := by decide +kernel
theorem dX11_otherwise_91 : decode cX11_otherwise 91 = .ok (.goto 5, 3) := by decide +kernel
theorem dX11_otherwise_94 : decode cX11_otherwise 94 = .ok (.iload 4, 2) := by decide +kernel
theorem dX11_otherwise_96 : decode cX11_otherwise 96 = .ok (.istore 4, 2) := by decide +kernel
theorem dX11_otherwise_98 : decode cX11_otherwise 98 = .ok (.iinc 5 1, 3) := by decide +kernel
theorem dX11_otherwise_101 : decode cX11_otherwise 101 = .ok (.goto (-65), 3) := by decide +kernel
theorem dX11_otherwise_104 : decode cX11_otherwise 104 = .ok (.iconst 0, 1) := by decide +kernel
theorem dX11_otherwise_105 : decode cX11_otherwise 105 = .ok (.istore 5, 2) := by decide +kernel
theorem dX11_otherwise_107 : decode cX11_otherwise 107 = .ok (.iconst 2, 1) := by decide +kernel
theorem dX11_otherwise_108 : decode cX11_otherwise 108 = .ok (.istore 6, 2) := by decide +kernel
theorem dX11_otherwise_110 : decode cX11_otherwise 110 = .ok (.iload 6, 2) := by decide +kernel
theorem dX11_otherwise_112 : decode cX11_otherwise 112 = .ok (.bipush 25, 2) := by decide +kernel
theorem dX11_otherwise_114 : decode cX11_otherwise 114 = .ok (.if_icmp .ge 87, 3) := by decide +kernel
theorem dX11_otherwise_117 : decode cX11_otherwise 117 = .ok (.iload 4, 2) := by decide +kernel
theorem dX11_otherwise_119 : decode cX11_otherwise 119 = .ok (.ifCond .le 82, 3) := by decide +kernel
theorem dX11_otherwise_122 : decode cX11_otherwise 122 = .ok (.iconst 1, 1) := by decide +kernel
theorem dX11_otherwise_123 : decode cX11_otherwise 123 = .ok (.istore 7, 2) := by decide +kernel
theorem dX11_otherwise_125 : decode cX11_otherwise 125 = .ok (.iload 7, 2) := by decide +kernel
theorem dX11_otherwise_127 : decode cX11_otherwise 127 = .ok (.iload 6, 2) := by decide +kernel
theorem dX11_otherwise_129 : decode cX11_otherwise 129 = .ok (.if_icmp .ge 66, 3) := by decide +kernel
theorem dX11_otherwise_132 : decode cX11_otherwise 132 = .ok (.iconst 0, 1) := by decide +kernel
theorem dX11_otherwise_133 : decode cX11_otherwise 133 = .ok (.istore 8, 2) := by decide +kernel
theorem dX11_otherwise_135 : decode cX11_otherwise 135 = .ok (.iload 8, 2) := by decide +kernel
theorem dX11_otherwise_137 : decode cX11_otherwise 137 = .ok (.iload 6, 2) := by decide +kernel
theorem dX11_otherwise_139 : decode cX11_otherwise 139 = .ok (.if_icmp .ge 50, 3) := by decide +kernel
theorem dX11_otherwise_142 : decode cX11_otherwise 142 = .ok (.aload_n 0, 1) := by decide +kernel
theorem dX11_otherwise_143 : decode cX11_otherwise 143 = .ok (.iload 6, 2) := by decide +kernel
theorem dX11_otherwise_145 : decode cX11_otherwise 145 = .ok (.iload 7, 2) := by decide +kernel
theorem dX11_otherwise_147 : decode cX11_otherwise 147 = .ok (.iload 8, 2) := by decide +kernel
theorem dX11_otherwise_149 : decode cX11_otherwise 149 = .ok (.iload 4, 2) := by decide +kernel
theorem dX11_otherwise_151 : decode cX11_otherwise 151 = .ok (.iload_n 2, 1) := by decide +kernel
theorem dX11_otherwise_152 : decode cX11_otherwise 152 = .ok (.invokevirtual 337, 3) := by decide +kernel
theorem dX11_otherwise_155 : decode cX11_otherwise 155 = .ok (.ifCond .eq 28, 3) := by decide +kernel
theorem dX11_otherwise_158 : decode cX11_otherwise 158 = .ok (.iload 5, 2) := by decide +kernel
theorem dX11_otherwise_160 : decode cX11_otherwise 160 = .ok (.iload_n 3, 1) := by decide +kernel
theorem dX11_otherwise_161 : decode cX11_otherwise 161 = .ok (.if_icmp .ne 19, 3) := by decide +kernel
theorem dX11_otherwise_164 : decode cX11_otherwise 164 = .ok (.sipush 10000, 3) := by decide +kernel
theorem dX11_otherwise_167 : decode cX11_otherwise 167 = .ok (.iload 6, 2) := by decide +kernel
theorem dX11_otherwise_169 : decode cX11_otherwise 169 = .ok (.imul, 1) := by decide +kernel
theorem dX11_otherwise_170 : decode cX11_otherwise 170 = .ok (.bipush 100, 2) := by decide +kernel
theorem dX11_otherwise_172 : decode cX11_otherwise 172 = .ok (.iload 7, 2) := by decide +kernel
theorem dX11_otherwise_174 : decode cX11_otherwise 174 = .ok (.imul, 1) := by decide +kernel
theorem dX11_otherwise_175 : decode cX11_otherwise 175 = .ok (.iadd, 1) := by decide +kernel
theorem dX11_otherwise_176 : decode cX11_otherwise 176 = .ok (.iload 8, 2) := by decide +kernel
theorem dX11_otherwise_178 : decode cX11_otherwise 178 = .ok (.iadd, 1) := by decide +kernel
theorem dX11_otherwise_179 : decode cX11_otherwise 179 = .ok (.ireturn, 1) := by decide +kernel
theorem dX11_otherwise_180 : decode cX11_otherwise 180 = .ok (.iinc 5 1, 3) := by decide +kernel
theorem dX11_otherwise_183 : decode cX11_otherwise 183 = .ok (.iinc 8 1, 3) := by decide +kernel
theorem dX11_otherwise_186 : decode cX11_otherwise 186 = .ok (.goto (-51), 3) := by decide +kernel
theorem dX11_otherwise_189 : decode cX11_otherwise 189 = .ok (.iinc 7 1, 3) := by decide +kernel
theorem dX11_otherwise_192 : decode cX11_otherwise 192 = .ok (.goto (-67), 3) := by decide +kernel
theorem dX11_otherwise_195 : decode cX11_otherwise 195 = .ok (.iinc 6 1, 3) := by decide +kernel
theorem dX11_otherwise_198 : decode cX11_otherwise 198 = .ok (.goto (-88), 3) := by decide +kernel
theorem dX11_otherwise_201 : decode cX11_otherwise 201 = .ok (.iload_n 3, 1) := by decide +kernel
theorem dX11_otherwise_202 : decode cX11_otherwise 202 = .ok (.iconst (-1), 1) := by decide +kernel
theorem dX11_otherwise_203 : decode cX11_otherwise 203 = .ok (.if_icmp .ne 8, 3) := by decide +kernel
theorem dX11_otherwise_206 : decode cX11_otherwise 206 = .ok (.iload 5, 2) := by decide +kernel
theorem dX11_otherwise_208 : decode cX11_otherwise 208 = .ok (.goto 4, 3) := by decide +kernel
theorem dX11_otherwise_211 : decode cX11_otherwise 211 = .ok (.iconst (-1), 1) := by decide +kernel
theorem dX11_otherwise_212 : decode cX11_otherwise 212 = .ok (.ireturn, 1) := by decide +kernel
theorem dX11_isAs_0 : decode cX11_isAs 0 = .ok (.iconst 1, 1) := by decide +kernel
theorem dX11_isAs_1 : decode cX11_isAs 1 = .ok (.istore 6, 2) := by decide +kernel
theorem dX11_isAs_3 : decode cX11_isAs 3 = .ok (.iconst 0, 1) := by decide +kernel
theorem dX11_isAs_4 : decode cX11_isAs 4 = .ok (.istore 7, 2) := by decide +kernel
theorem dX11_isAs_6 : decode cX11_isAs 6 = .ok (.iload 7, 2) := by decide +kernel
theorem dX11_isAs_8 : decode cX11_isAs 8 = .ok (.bipush 20, 2) := by decide +kernel
theorem dX11_isAs_10 : decode cX11_isAs 10 = .ok (.if_icmp .ge 59, 3) := by decide +kernel
theorem dX11_isAs_13 : decode cX11_isAs 13 = .ok (.iload 6, 2) := by decide +kernel
theorem dX11_isAs_15 : decode cX11_isAs 15 = .ok (.ifCond .eq 54, 3) := by decide +kernel
theorem dX11_isAs_18 : decode cX11_isAs 18 = .ok (.aload_n 0, 1) := by decide +kernel
theorem dX11_isAs_19 : decode cX11_isAs 19 = .ok (.getfield 82, 3) := by decide +kernel
theorem dX11_isAs_22 : decode cX11_isAs 22 = .ok (.iload 7, 2) := by decide +kernel
theorem dX11_isAs_24 : decode cX11_isAs 24 = .ok (.iaload, 1) := by decide +kernel
theorem dX11_isAs_25 : decode cX11_isAs 25 = .ok (.iload 5, 2) := by decide +kernel
theorem dX11_isAs_27 : decode cX11_isAs 27 = .ok (.iload 7, 2) := by decide +kernel
theorem dX11_isAs_29 : decode cX11_isAs 29 = .ok (.aload_n 0, 1) := by decide +kernel
theorem dX11_isAs_30 : decode cX11_isAs 30 = .ok (.getfield 7, 3) := by decide +kernel
theorem dX11_isAs_33 : decode cX11_isAs 33 = .ok (.iconst 2, 1) := by decide +kernel
theorem dX11_isAs_34 : decode cX11_isAs 34 = .ok (.iaload, 1) := by decide +kernel
theorem dX11_isAs_35 : decode cX11_isAs 35 = .ok (.imul, 1) := by decide +kernel
theorem dX11_isAs_36 : decode cX11_isAs 36 = .ok (.iadd, 1) := by decide +kernel
theorem dX11_isAs_37 : decode cX11_isAs 37 = .ok (.iload_n 3, 1) := by decide +kernel
theorem dX11_isAs_38 : decode cX11_isAs 38 = .ok (.isub, 1) := by decide +kernel
theorem dX11_isAs_39 : decode cX11_isAs 39 = .ok (.iload_n 1, 1) := by decide +kernel
theorem dX11_isAs_40 : decode cX11_isAs 40 = .ok (.invokestatic 93, 3) := by decide +kernel
theorem dX11_isAs_43 : decode cX11_isAs 43 = .ok (.iload_n 2, 1) := by decide +kernel
theorem dX11_isAs_44 : decode cX11_isAs 44 = .ok (.if_icmp .ge 8, 3) := by decide +kernel
theorem dX11_isAs_47 : decode cX11_isAs 47 = .ok (.iload 4, 2) := by decide +kernel
theorem dX11_isAs_49 : decode cX11_isAs 49 = .ok (.goto 4, 3) := by decide +kernel
theorem dX11_isAs_52 : decode cX11_isAs 52 = .ok (.iconst 0, 1) := by decide +kernel
theorem dX11_isAs_53 : decode cX11_isAs 53 = .ok (.if_icmp .ne 7, 3) := by decide +kernel
theorem dX11_isAs_56 : decode cX11_isAs 56 = .ok (.iconst 1, 1) := by decide +kernel
theorem dX11_isAs_57 : decode cX11_isAs 57 = .ok (.goto 4, 3) := by decide +kernel
theorem dX11_isAs_60 : decode cX11_isAs 60 = .ok (.iconst 0, 1) := by decide +kernel
theorem dX11_isAs_61 : decode cX11_isAs 61 = .ok (.istore 6, 2) := by decide +kernel
theorem dX11_isAs_63 : decode cX11_isAs 63 = .ok (.iinc 7 1, 3) := by decide +kernel
theorem dX11_isAs_66 : decode cX11_isAs 66 = .ok (.goto (-60), 3) := by decide +kernel
theorem dX11_isAs_69 : decode cX11_isAs 69 = .ok (.iload 6, 2) := by decide +kernel
theorem dX11_isAs_71 : decode cX11_isAs 71 = .ok (.ireturn, 1) := by decide +kernel
theorem dX11_catches_0 : decode cX11_catches 0 = .ok (.iconst 0, 1) := by decide +kernel
theorem dX11_catches_1 : decode cX11_catches 1 = .ok (.istore 4, 2) := by decide +kernel
theorem dX11_catches_3 : decode cX11_catches 3 = .ok (.iconst 0, 1) := by decide +kernel
theorem dX11_catches_4 : decode cX11_catches 4 = .ok (.istore 5, 2) := by decide +kernel
theorem dX11_catches_6 : decode cX11_catches 6 = .ok (.iload 5, 2) := by decide +kernel
theorem dX11_catches_8 : decode cX11_catches 8 = .ok (.aload_n 0, 1) := by decide +kernel
theorem dX11_catches_9 : decode cX11_catches 9 = .ok (.getfield 283, 3) := by decide +kernel
theorem dX11_catches_12 : decode cX11_catches 12 = .ok (.if_icmp .ge 137, 3) := by decide +kernel
theorem dX11_catches_15 : decode cX11_catches 15 = .ok (.iconst 0, 1) := by decide +kernel
theorem dX11_catches_16 : decode cX11_catches 16 = .ok (.istore 6, 2) := by decide +kernel
theorem dX11_catches_18 : decode cX11_catches 18 = .ok (.iload 6, 2) := by decide +kernel
theorem dX11_catches_20 : decode cX11_catches 20 = .ok (.bipush 20, 2) := by decide +kernel
theorem dX11_catches_22 : decode cX11_catches 22 = .ok (.if_icmp .ge 121, 3) := by decide +kernel
theorem dX11_catches_25 : decode cX11_catches 25 = .ok (.aload_n 0, 1) := by decide +kernel
theorem dX11_catches_26 : decode cX11_catches 26 = .ok (.getfield 76, 3) := by decide +kernel
theorem dX11_catches_29 : decode cX11_catches 29 = .ok (.iload 5, 2) := by decide +kernel
theorem dX11_catches_31 : decode cX11_catches 31 = .ok (.iaload, 1) := by decide +kernel
theorem dX11_catches_32 : decode cX11_catches 32 = .ok (.iload 6, 2) := by decide +kernel
theorem dX11_catches_34 : decode cX11_catches 34 = .ok (.aload_n 0, 1) := by decide +kernel
theorem dX11_catches_35 : decode cX11_catches 35 = .ok (.getfield 7, 3) := by decide +kernel
theorem dX11_catches_38 : decode cX11_catches 38 = .ok (.iconst 2, 1) := by decide +kernel
theorem dX11_catches_39 : decode cX11_catches 39 = .ok (.iaload, 1) := by decide +kernel
theorem dX11_catches_40 : decode cX11_catches 40 = .ok (.imul, 1) := by decide +kernel
theorem dX11_catches_41 : decode cX11_catches 41 = .ok (.iadd, 1) := by decide +kernel
theorem dX11_catches_42 : decode cX11_catches 42 = .ok (.istore 7, 2) := by decide +kernel
theorem dX11_catches_44 : decode cX11_catches 44 = .ok (.iload 7, 2) := by decide +kernel
theorem dX11_catches_46 : decode cX11_catches 46 = .ok (.iload_n 3, 1) := by decide +kernel
theorem dX11_catches_47 : decode cX11_catches 47 = .ok (.if_icmp .ge 90, 3) := by decide +kernel
theorem dX11_catches_50 : decode cX11_catches 50 = .ok (.aload_n 0, 1) := by decide +kernel
theorem dX11_catches_51 : decode cX11_catches 51 = .ok (.iload 5, 2) := by decide +kernel
theorem dX11_catches_53 : decode cX11_catches 53 = .ok (.iload 7, 2) := by decide +kernel
theorem dX11_catches_55 : decode cX11_catches 55 = .ok (.invokevirtual 315, 3) := by decide +kernel
theorem dX11_catches_58 : decode cX11_catches 58 = .ok (.istore 8, 2) := by decide +kernel
theorem dX11_catches_60 : decode cX11_catches 60 = .ok (.aload_n 0, 1) := by decide +kernel
theorem dX11_catches_61 : decode cX11_catches 61 = .ok (.getfield 7, 3) := by decide +kernel
theorem dX11_catches_64 : decode cX11_catches 64 = .ok (.bipush 10, 2) := by decide +kernel
theorem dX11_catches_66 : decode cX11_catches 66 = .ok (.iload 8, 2) := by decide +kernel
theorem dX11_catches_68 : decode cX11_catches 68 = .ok (.iadd, 1) := by decide +kernel
theorem dX11_catches_69 : decode cX11_catches 69 = .ok (.iaload, 1) := by decide +kernel
theorem dX11_catches_70 : decode cX11_catches 70 = .ok (.iload_n 1, 1) := by decide +kernel
theorem dX11_catches_71 : decode cX11_catches 71 = .ok (.if_icmp .eq 24, 3) := by decide +kernel
theorem dX11_catches_74 : decode cX11_catches 74 = .ok (.aload_n 0, 1) := by decide +kernel
theorem dX11_catches_75 : decode cX11_catches 75 = .ok (.getfield 7, 3) := by decide +kernel
theorem dX11_catches_78 : decode cX11_catches 78 = .ok (.iconst 5, 1) := by decide +kernel
theorem dX11_catches_79 : decode cX11_catches 79 = .ok (.iaload, 1) := by decide +kernel
theorem dX11_catches_80 : decode cX11_catches 80 = .ok (.iconst 3, 1) := by decide +kernel
theorem dX11_catches_81 : decode cX11_catches 81 = .ok (.if_icmp .ne 18, 3) := by decide +kernel
theorem dX11_catches_84 : decode cX11_catches 84 = .ok (.aload_n 0, 1) := by decide +kernel
theorem dX11_catches_85 : decode cX11_catches 85 = .ok (.getfield 7, 3) := by decide +kernel
theorem dX11_catches_88 : decode cX11_catches 88 = .ok (.bipush 11, 2) := by decide +kernel
theorem dX11_catches_90 : decode cX11_catches 90 = .ok (.iaload, 1) := by decide +kernel
theorem dX11_catches_91 : decode cX11_catches 91 = .ok (.iload_n 1, 1) := by decide +kernel
theorem dX11_catches_92 : decode cX11_catches 92 = .ok (.if_icmp .ne 7, 3) := by decide +kernel
theorem dX11_catches_95 : decode cX11_catches 95 = .ok (.iconst 1, 1) := by decide +kernel
theorem dX11_catches_96 : decode cX11_catches 96 = .ok (.goto 4, 3) := by decide +kernel
theorem dX11_catches_99 : decode cX11_catches 99 = .ok (.iconst 0, 1) := by decide +kernel
theorem dX11_catches_100 : decode cX11_catches 100 = .ok (.istore 9, 2) := by decide +kernel
theorem dX11_catches_102 : decode cX11_catches 102 = .ok (.iload 4, 2) := by decide +kernel
theorem dX11_catches_104 : decode cX11_catches 104 = .ok (.ifCond .ne 26, 3) := by decide +kernel
theorem dX11_catches_107 : decode cX11_catches 107 = .ok (.iload 9, 2) := by decide +kernel
theorem dX11_catches_109 : decode cX11_catches 109 = .ok (.ifCond .eq 25, 3) := by decide +kernel
theorem dX11_catches_112 : decode cX11_catches 112 = .ok (.aload_n 0, 1) := by decide +kernel
theorem dX11_catches_113 : decode cX11_catches 113 = .ok (.iload_n 2, 1) := by decide +kernel
theorem dX11_catches_114 : decode cX11_catches 114 = .ok (.iload 7, 2) := by decide +kernel
theorem dX11_catches_116 : decode cX11_catches 116 = .ok (.invokevirtual 105, 3) := by decide +kernel
theorem dX11_catches_119 : decode cX11_catches 119 = .ok (.aload_n 0, 1) := by decide +kernel
theorem dX11_catches_120 : decode cX11_catches 120 = .ok (.getfield 7, 3) := by decide +kernel
theorem dX11_catches_123 : decode cX11_catches 123 = .ok (.iload_n 2, 1) := by decide +kernel
theorem dX11_catches_124 : decode cX11_catches 124 = .ok (.iconst 3, 1) := by decide +kernel
theorem dX11_catches_125 : decode cX11_catches 125 = .ok (.iadd, 1) := by decide +kernel
theorem dX11_catches_126 : decode cX11_catches 126 = .ok (.iaload, 1) := by decide +kernel
theorem dX11_catches_127 : decode cX11_catches 127 = .ok (.if_icmp .ge 7, 3) := by decide +kernel
theorem dX11_catches_130 : decode cX11_catches 130 = .ok (.iconst 1, 1) := by decide +kernel
theorem dX11_catches_131 : decode cX11_catches 131 = .ok (.goto 4, 3) := by decide +kernel
theorem dX11_catches_134 : decode cX11_catches 134 = .ok (.iconst 0, 1) := by decide +kernel
theorem dX11_catches_135 : decode cX11_catches 135 = .ok (.istore 4, 2) := by decide +kernel
theorem dX11_catches_137 : decode cX11_catches 137 = .ok (.iinc 6 1, 3) := by decide +kernel
theorem dX11_catches_140 : decode cX11_catches 140 = .ok (.goto (-122), 3) := by decide +kernel
theorem dX11_catches_143 : decode cX11_catches 143 = .ok (.iinc 5 1, 3) := by decide +kernel
theorem dX11_catches_146 : decode cX11_catches 146 = .ok (.goto (-140), 3) := by decide +kernel
theorem dX11_catches_149 : decode cX11_catches 149 = .ok (.iload 4, 2) := by decide +kernel
theorem dX11_catches_151 : decode cX11_catches 151 = .ok (.ireturn, 1) := by decide +kernel
theorem dX11_caught_0 : decode cX11_caught 0 = .ok (.iload_n 1, 1) := by decide +kernel
theorem dX11_caught_1 : decode cX11_caught 1 = .ok (.invokestatic 101, 3) := by decide +kernel
theorem dX11_caught_4 : decode cX11_caught 4 = .ok (.ifCond .eq 22, 3) := by decide +kernel
theorem dX11_caught_7 : decode cX11_caught 7 = .ok (.iload_n 2, 1) := by decide +kernel
theorem dX11_caught_8 : decode cX11_caught 8 = .ok (.invokestatic 301, 3) := by decide +kernel
theorem dX11_caught_11 : decode cX11_caught 11 = .ok (.ifCond .eq 15, 3) := by decide +kernel
theorem dX11_caught_14 : decode cX11_caught 14 = .ok (.aload_n 0, 1) := by decide +kernel
theorem dX11_caught_15 : decode cX11_caught 15 = .ok (.getfield 7, 3) := by decide +kernel
theorem dX11_caught_18 : decode cX11_caught 18 = .ok (.bipush 24, 2) := by decide +kernel
theorem dX11_caught_20 : decode cX11_caught 20 = .ok (.iload_n 1, 1) := by decide +kernel
theorem dX11_caught_21 : decode cX11_caught 21 = .ok (.iadd, 1) := by decide +kernel
theorem dX11_caught_22 : decode cX11_caught 22 = .ok (.iaload, 1) := by decide +kernel
theorem dX11_caught_23 : decode cX11_caught 23 = .ok (.ifCond .ne 5, 3) := by decide +kernel
theorem dX11_caught_26 : decode cX11_caught 26 = .ok (.iconst (-1), 1) := by decide +kernel
theorem dX11_caught_27 : decode cX11_caught 27 = .ok (.ireturn, 1) := by decide +kernel
theorem dX11_caught_28 : decode cX11_caught 28 = .ok (.bipush 30, 2) := by decide +kernel
theorem dX11_caught_30 : decode cX11_caught 30 = .ok (.bipush 30, 2) := by decide +kernel
theorem dX11_caught_32 : decode cX11_caught 32 = .ok (.iload_n 1, 1) := by decide +kernel
theorem dX11_caught_33 : decode cX11_caught 33 = .ok (.imul, 1) := by decide +kernel
theorem dX11_caught_34 : decode cX11_caught 34 = .ok (.iadd, 1) := by decide +kernel
theorem dX11_caught_35 : decode cX11_caught 35 = .ok (.iconst 5, 1) := by decide +kernel
theorem dX11_caught_36 : decode cX11_caught 36 = .ok (.aload_n 0, 1) := by decide +kernel
theorem dX11_caught_37 : decode cX11_caught 37 = .ok (.getfield 7, 3) := by decide +kernel
theorem dX11_caught_40 : decode cX11_caught 40 = .ok (.bipush 24, 2) := by decide +kernel
theorem dX11_caught_42 : decode cX11_caught 42 = .ok (.iload_n 1, 1) := by decide +kernel
theorem dX11_caught_43 : decode cX11_caught 43 = .ok (.iadd, 1) := by decide +kernel
theorem dX11_caught_44 : decode cX11_caught 44 = .ok (.iaload, 1) := by decide +kernel
theorem dX11_caught_45 : decode cX11_caught 45 = .ok (.imul, 1) := by decide +kernel
theorem dX11_caught_46 : decode cX11_caught 46 = .ok (.iadd, 1) := by decide +kernel
theorem dX11_caught_47 : decode cX11_caught 47 = .ok (.iconst 5, 1) := by decide +kernel
theorem dX11_caught_48 : decode cX11_caught 48 = .ok (.isub, 1) := by decide +kernel
theorem dX11_caught_49 : decode cX11_caught 49 = .ok (.istore_n 3, 1) := by decide +kernel
theorem dX11_caught_50 : decode cX11_caught 50 = .ok (.aload_n 0, 1) := by decide +kernel
theorem dX11_caught_51 : decode cX11_caught 51 = .ok (.getfield 7, 3) := by decide +kernel
theorem dX11_caught_54 : decode cX11_caught 54 = .ok (.iload_n 3, 1) := by decide +kernel
theorem dX11_caught_55 : decode cX11_caught 55 = .ok (.iconst 0, 1) := by decide +kernel
theorem dX11_caught_56 : decode cX11_caught 56 = .ok (.iadd, 1) := by decide +kernel
theorem dX11_caught_57 : decode cX11_caught 57 = .ok (.iaload, 1) := by decide +kernel
theorem dX11_caught_58 : decode cX11_caught 58 = .ok (.iconst 1, 1) := by decide +kernel
theorem dX11_caught_59 : decode cX11_caught 59 = .ok (.if_icmp .eq 5, 3) := by decide +kernel
theorem dX11_caught_62 : decode cX11_caught 62 = .ok (.iconst (-1), 1) := by decide +kernel
theorem dX11_caught_63 : decode cX11_caught 63 = .ok (.ireturn, 1) := by decide +kernel
theorem dX11_caught_64 : decode cX11_caught 64 = .ok (.aload_n 0, 1) := by decide +kernel
theorem dX11_caught_65 : decode cX11_caught 65 = .ok (.getfield 7, 3) := by decide +kernel
theorem dX11_caught_68 : decode cX11_caught 68 = .ok (.iload_n 3, 1) := by decide +kernel
theorem dX11_caught_69 : decode cX11_caught 69 = .ok (.iconst 4, 1) := by decide +kernel
theorem dX11_caught_70 : decode cX11_caught 70 = .ok (.iadd, 1) := by decide +kernel
theorem dX11_caught_71 : decode cX11_caught 71 = .ok (.iaload, 1) := by decide +kernel
theorem dX11_caught_72 : decode cX11_caught 72 = .ok (.istore 4, 2) := by decide +kernel
theorem dX11_caught_74 : decode cX11_caught 74 = .ok (.iconst 0, 1) := by decide +kernel
theorem dX11_caught_75 : decode cX11_caught 75 = .ok (.istore 5, 2) := by decide +kernel
theorem dX11_caught_77 : decode cX11_caught 77 = .ok (.iconst 0, 1) := by decide +kernel
theorem dX11_caught_78 : decode cX11_caught 78 = .ok (.istore 6, 2) := by decide +kernel
theorem dX11_caught_80 : decode cX11_caught 80 = .ok (.iload 6, 2) := by decide +kernel
theorem dX11_caught_82 : decode cX11_caught 82 = .ok (.aload_n 0, 1) := by decide +kernel
theorem dX11_caught_83 : decode cX11_caught 83 = .ok (.getfield 7, 3) := by decide +kernel
theorem dX11_caught_86 : decode cX11_caught 86 = .ok (.iload_n 3, 1) := by decide +kernel
theorem dX11_caught_87 : decode cX11_caught 87 = .ok (.iconst 2, 1) := by decide +kernel
theorem dX11_caught_88 : decode cX11_caught 88 = .ok (.iadd, 1) := by decide +kernel
theorem dX11_caught_89 : decode cX11_caught 89 = .ok (.iaload, 1) := by decide +kernel
theorem dX11_caught_90 : decode cX11_caught 90 = .ok (.if_icmp .ge 48, 3) := by decide +kernel
theorem dX11_caught_93 : decode cX11_caught 93 = .ok (.aload_n 0, 1) := by decide +kernel
theorem dX11_caught_94 : decode cX11_caught 94 = .ok (.getfield 7, 3) := by decide +kernel
theorem dX11_caught_97 : decode cX11_caught 97 = .ok (.iload_n 3, 1) := by decide +kernel
theorem dX11_caught_98 : decode cX11_caught 98 = .ok (.iconst 4, 1) := by decide +kernel
theorem dX11_caught_99 : decode cX11_caught 99 = .ok (.iadd, 1) := by decide +kernel
theorem dX11_caught_100 : decode cX11_caught 100 = .ok (.iload 6, 2) := by decide +kernel
theorem dX11_caught_102 : decode cX11_caught 102 = .ok (.iastore, 1) := by decide +kernel
theorem dX11_caught_103 : decode cX11_caught 103 = .ok (.aload_n 0, 1) := by decide +kernel
theorem dX11_caught_104 : decode cX11_caught 104 = .ok (.invokevirtual 304, 3) := by decide +kernel
theorem dX11_caught_107 : decode cX11_caught 107 = .ok (.aload_n 0, 1) := by decide +kernel
theorem dX11_caught_108 : decode cX11_caught 108 = .ok (.iload_n 2, 1) := by decide +kernel
theorem dX11_caught_109 : decode cX11_caught 109 = .ok (.invokevirtual 307, 3) := by decide +kernel
theorem dX11_caught_112 : decode cX11_caught 112 = .ok (.iload 5, 2) := by decide +kernel
theorem dX11_caught_114 : decode cX11_caught 114 = .ok (.aload_n 0, 1) := by decide +kernel
theorem dX11_caught_115 : decode cX11_caught 115 = .ok (.iload_n 1, 1) := by decide +kernel
theorem dX11_caught_116 : decode cX11_caught 116 = .ok (.iload_n 3, 1) := by decide +kernel
theorem dX11_caught_117 : decode cX11_caught 117 = .ok (.iload_n 2, 1) := by decide +kernel
theorem dX11_caught_118 : decode cX11_caught 118 = .ok (.invokevirtual 341, 3) := by decide +kernel
theorem dX11_caught_121 : decode cX11_caught 121 = .ok (.ifCond .eq 7, 3) := by decide +kernel
theorem dX11_caught_124 : decode cX11_caught 124 = .ok (.iconst 1, 1) := by decide +kernel
theorem dX11_caught_125 : decode cX11_caught 125 = .ok (.goto 4, 3) := by decide +kernel
theorem dX11_caught_128 : decode cX11_caught 128 = .ok (.iconst 0, 1) := by decide +kernel
theorem dX11_caught_129 : decode cX11_caught 129 = .ok (.iadd, 1) := by decide +kernel
theorem dX11_caught_130 : decode cX11_caught 130 = .ok (.istore 5, 2) := by decide +kernel
theorem dX11_caught_132 : decode cX11_caught 132 = .ok (.iinc 6 1, 3) := by decide +kernel
theorem dX11_caught_135 : decode cX11_caught 135 = .ok (.goto (-55), 3) := by decide +kernel
theorem dX11_caught_138 : decode cX11_caught 138 = .ok (.aload_n 0, 1) := by decide +kernel
theorem dX11_caught_139 : decode cX11_caught 139 = .ok (.getfield 7, 3) := by decide +kernel
theorem dX11_caught_142 : decode cX11_caught 142 = .ok (.iload_n 3, 1) := by decide +kernel
theorem dX11_caught_143 : decode cX11_caught 143 = .ok (.iconst 4, 1) := by decide +kernel
theorem dX11_caught_144 : decode cX11_caught 144 = .ok (.iadd, 1) := by decide +kernel
theorem dX11_caught_145 : decode cX11_caught 145 = .ok (.iload 4, 2) := by decide +kernel
theorem dX11_caught_147 : decode cX11_caught 147 = .ok (.iastore, 1) := by decide +kernel
theorem dX11_caught_148 : decode cX11_caught 148 = .ok (.iload 5, 2) := by decide +kernel
theorem dX11_caught_150 : decode cX11_caught 150 = .ok (.ireturn, 1) := by decide +kernel
theorem dX11_photo_0 : decode cX11_photo 0 = .ok (.iload_n 1, 1) := by decide +kernel
theorem dX11_photo_1 : decode cX11_photo 1 = .ok (.iconst 0, 1) := by decide +kernel
theorem dX11_photo_2 : decode cX11_photo 2 = .ok (.bipush 19, 2) := by decide +kernel
theorem dX11_photo_4 : decode cX11_photo 4 = .ok (.invokestatic 97, 3) := by decide +kernel
theorem dX11_photo_7 : decode cX11_photo 7 = .ok (.ifCond .eq 14, 3) := by decide +kernel
theorem dX11_photo_10 : decode cX11_photo 10 = .ok (.iload_n 2, 1) := by decide +kernel
theorem dX11_photo_11 : decode cX11_photo 11 = .ok (.iconst 0, 1) := by decide +kernel
theorem dX11_photo_12 : decode cX11_photo 12 = .ok (.ldc_w 344, 3) := by decide +kernel
theorem dX11_photo_15 : decode cX11_photo 15 = .ok (.invokestatic 97, 3) := by decide +kernel
theorem dX11_photo_18 : decode cX11_photo 18 = .ok (.ifCond .ne 5, 3) := by decide +kernel
theorem dX11_photo_21 : decode cX11_photo 21 = .ok (.iconst 0, 1) := by decide +kernel
theorem dX11_photo_22 : decode cX11_photo 22 = .ok (.ireturn, 1) := by decide +kernel
theorem dX11_photo_23 : decode cX11_photo 23 = .ok (.aload_n 0, 1) := by decide +kernel
theorem dX11_photo_24 : decode cX11_photo 24 = .ok (.getfield 7, 3) := by decide +kernel
theorem dX11_photo_27 : decode cX11_photo 27 = .ok (.sipush 150, 3) := by decide +kernel
theorem dX11_photo_30 : decode cX11_photo 30 = .ok (.iload_n 1, 1) := by decide +kernel
theorem dX11_photo_31 : decode cX11_photo 31 = .ok (.iadd, 1) := by decide +kernel
theorem dX11_photo_32 : decode cX11_photo 32 = .ok (.iload_n 2, 1) := by decide +kernel
theorem dX11_photo_33 : decode cX11_photo 33 = .ok (.iastore, 1) := by decide +kernel
theorem dX11_photo_34 : decode cX11_photo 34 = .ok (.iconst 1, 1) := by decide +kernel
theorem dX11_photo_35 : decode cX11_photo 35 = .ok (.ireturn, 1) := by decide +kernel
theorem dX11_shoot_0 : decode cX11_shoot 0 = .ok (.iload_n 1, 1) := by decide +kernel
theorem dX11_shoot_1 : decode cX11_shoot 1 = .ok (.invokestatic 301, 3) := by decide +kernel
theorem dX11_shoot_4 : decode cX11_shoot 4 = .ok (.ifCond .eq 10, 3) := by decide +kernel
theorem dX11_shoot_7 : decode cX11_shoot 7 = .ok (.iload_n 2, 1) := by decide +kernel
theorem dX11_shoot_8 : decode cX11_shoot 8 = .ok (.invokestatic 328, 3) := by decide +kernel
theorem dX11_shoot_11 : decode cX11_shoot 11 = .ok (.ifCond .ne 5, 3) := by decide +kernel
theorem dX11_shoot_14 : decode cX11_shoot 14 = .ok (.iconst (-1), 1) := by decide +kernel
theorem dX11_shoot_15 : decode cX11_shoot 15 = .ok (.ireturn, 1) := by decide +kernel
theorem dX11_shoot_16 : decode cX11_shoot 16 = .ok (.aload_n 0, 1) := by decide +kernel
theorem dX11_shoot_17 : decode cX11_shoot 17 = .ok (.iload_n 1, 1) := by decide +kernel
theorem dX11_shoot_18 : decode cX11_shoot 18 = .ok (.invokevirtual 325, 3) := by decide +kernel
theorem dX11_shoot_21 : decode cX11_shoot 21 = .ok (.iconst 0, 1) := by decide +kernel
theorem dX11_shoot_22 : decode cX11_shoot 22 = .ok (.istore_n 3, 1) := by decide +kernel
theorem dX11_shoot_23 : decode cX11_shoot 23 = .ok (.iload_n 3, 1) := by decide +kernel
theorem dX11_shoot_24 : decode cX11_shoot 24 = .ok (.bipush 20, 2) := by decide +kernel
theorem dX11_shoot_26 : decode cX11_shoot 26 = .ok (.if_icmp .ge 25, 3) := by decide +kernel
theorem dX11_shoot_29 : decode cX11_shoot 29 = .ok (.aload_n 0, 1) := by decide +kernel
theorem dX11_shoot_30 : decode cX11_shoot 30 = .ok (.getfield 7, 3) := by decide +kernel
theorem dX11_shoot_33 : decode cX11_shoot 33 = .ok (.sipush 150, 3) := by decide +kernel
theorem dX11_shoot_36 : decode cX11_shoot 36 = .ok (.iload_n 3, 1) := by decide +kernel
theorem dX11_shoot_37 : decode cX11_shoot 37 = .ok (.iadd, 1) := by decide +kernel
theorem dX11_shoot_38 : decode cX11_shoot 38 = .ok (.aload_n 0, 1) := by decide +kernel
theorem dX11_shoot_39 : decode cX11_shoot 39 = .ok (.iload_n 3, 1) := by decide +kernel
theorem dX11_shoot_40 : decode cX11_shoot 40 = .ok (.iload_n 2, 1) := by decide +kernel
theorem dX11_shoot_41 : decode cX11_shoot 41 = .ok (.invokevirtual 334, 3) := by decide +kernel
theorem dX11_shoot_44 : decode cX11_shoot 44 = .ok (.iastore, 1) := by decide +kernel
theorem dX11_shoot_45 : decode cX11_shoot 45 = .ok (.iinc 3 1, 3) := by decide +kernel
theorem dX11_shoot_48 : decode cX11_shoot 48 = .ok (.goto (-25), 3) := by decide +kernel
theorem dX11_shoot_51 : decode cX11_shoot 51 = .ok (.aload_n 0, 1) := by decide +kernel
theorem dX11_shoot_52 : decode cX11_shoot 52 = .ok (.iload_n 2, 1) := by decide +kernel
theorem dX11_shoot_53 : decode cX11_shoot 53 = .ok (.invokevirtual 331, 3) := by decide +kernel
theorem dX11_shoot_56 : decode cX11_shoot 56 = .ok (.ireturn, 1) := by decide +kernel
theorem dX11_isPhoto_0 : decode cX11_isPhoto 0 = .ok (.iconst 1, 1) := by decide +kernel
theorem dX11_isPhoto_1 : decode cX11_isPhoto 1 = .ok (.istore_n 2, 1) := by decide +kernel
theorem dX11_isPhoto_2 : decode cX11_isPhoto 2 = .ok (.iconst 0, 1) := by decide +kernel
theorem dX11_isPhoto_3 : decode cX11_isPhoto 3 = .ok (.istore_n 3, 1) := by decide +kernel
theorem dX11_isPhoto_4 : decode cX11_isPhoto 4 = .ok (.iload_n 3, 1) := by decide +kernel
theorem dX11_isPhoto_5 : decode cX11_isPhoto 5 = .ok (.bipush 20, 2) := by decide +kernel
theorem dX11_isPhoto_7 : decode cX11_isPhoto 7 = .ok (.if_icmp .ge 38, 3) := by decide +kernel
theorem dX11_isPhoto_10 : decode cX11_isPhoto 10 = .ok (.iload_n 2, 1) := by decide +kernel
theorem dX11_isPhoto_11 : decode cX11_isPhoto 11 = .ok (.ifCond .eq 34, 3) := by decide +kernel
theorem dX11_isPhoto_14 : decode cX11_isPhoto 14 = .ok (.aload_n 0, 1) := by decide +kernel
theorem dX11_isPhoto_15 : decode cX11_isPhoto 15 = .ok (.iload_n 3, 1) := by decide +kernel
theorem dX11_isPhoto_16 : decode cX11_isPhoto 16 = .ok (.iload_n 1, 1) := by decide +kernel
theorem dX11_isPhoto_17 : decode cX11_isPhoto 17 = .ok (.invokevirtual 334, 3) := by decide +kernel
theorem dX11_isPhoto_20 : decode cX11_isPhoto 20 = .ok (.aload_n 0, 1) := by decide +kernel
theorem dX11_isPhoto_21 : decode cX11_isPhoto 21 = .ok (.getfield 7, 3) := by decide +kernel
theorem dX11_isPhoto_24 : decode cX11_isPhoto 24 = .ok (.sipush 150, 3) := by decide +kernel
theorem dX11_isPhoto_27 : decode cX11_isPhoto 27 = .ok (.iload_n 3, 1) := by decide +kernel
theorem dX11_isPhoto_28 : decode cX11_isPhoto 28 = .ok (.iadd, 1) := by decide +kernel
theorem dX11_isPhoto_29 : decode cX11_isPhoto 29 = .ok (.iaload, 1) := by decide +kernel
theorem dX11_isPhoto_30 : decode cX11_isPhoto 30 = .ok (.if_icmp .ne 7, 3) := by decide +kernel
theorem dX11_isPhoto_33 : decode cX11_isPhoto 33 = .ok (.iconst 1, 1) := by decide +kernel
theorem dX11_isPhoto_34 : decode cX11_isPhoto 34 = .ok (.goto 4, 3) := by decide +kernel
theorem dX11_isPhoto_37 : decode cX11_isPhoto 37 = .ok (.iconst 0, 1) := by decide +kernel
theorem dX11_isPhoto_38 : decode cX11_isPhoto 38 = .ok (.istore_n 2, 1) := by decide +kernel
theorem dX11_isPhoto_39 : decode cX11_isPhoto 39 = .ok (.iinc 3 1, 3) := by decide +kernel
theorem dX11_isPhoto_42 : decode cX11_isPhoto 42 = .ok (.goto (-38), 3) := by decide +kernel
theorem dX11_isPhoto_45 : decode cX11_isPhoto 45 = .ok (.iload_n 2, 1) := by decide +kernel
theorem dX11_isPhoto_46 : decode cX11_isPhoto 46 = .ok (.ireturn, 1) := by decide +kernel
theorem dX11_gainOf_0 : decode cX11_gainOf 0 = .ok (.iload_n 0, 1) := by decide +kernel
theorem dX11_gainOf_1 : decode cX11_gainOf 1 = .ok (.iconst 3, 1) := by decide +kernel
theorem dX11_gainOf_2 : decode cX11_gainOf 2 = .ok (.idiv, 1) := by decide +kernel
theorem dX11_gainOf_3 : decode cX11_gainOf 3 = .ok (.ifCond .ne 7, 3) := by decide +kernel
theorem dX11_gainOf_6 : decode cX11_gainOf 6 = .ok (.iconst 1, 1) := by decide +kernel
theorem dX11_gainOf_7 : decode cX11_gainOf 7 = .ok (.goto 17, 3) := by decide +kernel
theorem dX11_gainOf_10 : decode cX11_gainOf 10 = .ok (.iload_n 0, 1) := by decide +kernel
theorem dX11_gainOf_11 : decode cX11_gainOf 11 = .ok (.iconst 3, 1) := by decide +kernel
theorem dX11_gainOf_12 : decode cX11_gainOf 12 = .ok (.idiv, 1) := by decide +kernel
theorem dX11_gainOf_13 : decode cX11_gainOf 13 = .ok (.iconst 1, 1) := by decide +kernel
theorem dX11_gainOf_14 : decode cX11_gainOf 14 = .ok (.if_icmp .ne 8, 3) := by decide +kernel
theorem dX11_gainOf_17 : decode cX11_gainOf 17 = .ok (.bipush 10, 2) := by decide +kernel
theorem dX11_gainOf_19 : decode cX11_gainOf 19 = .ok (.goto 5, 3) := by decide +kernel
theorem dX11_gainOf_22 : decode cX11_gainOf 22 = .ok (.bipush 100, 2) := by decide +kernel
theorem dX11_gainOf_24 : decode cX11_gainOf 24 = .ok (.istore_n 1, 1) := by decide +kernel
theorem dX11_gainOf_25 : decode cX11_gainOf 25 = .ok (.iload_n 1, 1) := by decide +kernel
theorem dX11_gainOf_26 : decode cX11_gainOf 26 = .ok (.iload_n 0, 1) := by decide +kernel
theorem dX11_gainOf_27 : decode cX11_gainOf 27 = .ok (.iconst 3, 1) := by decide +kernel
theorem dX11_gainOf_28 : decode cX11_gainOf 28 = .ok (.irem, 1) := by decide +kernel
theorem dX11_gainOf_29 : decode cX11_gainOf 29 = .ok (.ifCond .ne 7, 3) := by decide +kernel
theorem dX11_gainOf_32 : decode cX11_gainOf 32 = .ok (.iconst 1, 1) := by decide +kernel
theorem dX11_gainOf_33 : decode cX11_gainOf 33 = .ok (.goto 15, 3) := by decide +kernel
theorem dX11_gainOf_36 : decode cX11_gainOf 36 = .ok (.iload_n 0, 1) := by decide +kernel
theorem dX11_gainOf_37 : decode cX11_gainOf 37 = .ok (.iconst 3, 1) := by decide +kernel
theorem dX11_gainOf_38 : decode cX11_gainOf 38 = .ok (.irem, 1) := by decide +kernel
theorem dX11_gainOf_39 : decode cX11_gainOf 39 = .ok (.iconst 1, 1) := by decide +kernel
theorem dX11_gainOf_40 : decode cX11_gainOf 40 = .ok (.if_icmp .ne 7, 3) := by decide +kernel
theorem dX11_gainOf_43 : decode cX11_gainOf 43 = .ok (.iconst 2, 1) := by decide +kernel
theorem dX11_gainOf_44 : decode cX11_gainOf 44 = .ok (.goto 4, 3) := by decide +kernel
theorem dX11_gainOf_47 : decode cX11_gainOf 47 = .ok (.iconst 5, 1) := by decide +kernel
theorem dX11_gainOf_48 : decode cX11_gainOf 48 = .ok (.imul, 1) := by decide +kernel
theorem dX11_gainOf_49 : decode cX11_gainOf 49 = .ok (.ireturn, 1) := by decide +kernel
theorem dX11_settings_0 : decode cX11_settings 0 = .ok (.iload_n 1, 1) := by decide +kernel
theorem dX11_settings_1 : decode cX11_settings 1 = .ok (.invokestatic 301, 3) := by decide +kernel
theorem dX11_settings_4 : decode cX11_settings 4 = .ok (.ifCond .eq 15, 3) := by decide +kernel
theorem dX11_settings_7 : decode cX11_settings 7 = .ok (.iload_n 2, 1) := by decide +kernel
theorem dX11_settings_8 : decode cX11_settings 8 = .ok (.invokestatic 328, 3) := by decide +kernel
theorem dX11_settings_11 : decode cX11_settings 11 = .ok (.ifCond .eq 8, 3) := by decide +kernel
theorem dX11_settings_14 : decode cX11_settings 14 = .ok (.iload_n 3, 1) := by decide +kernel
theorem dX11_settings_15 : decode cX11_settings 15 = .ok (.iconst (-1), 1) := by decide +kernel
theorem dX11_settings_16 : decode cX11_settings 16 = .ok (.if_icmp .ge 5, 3) := by decide +kernel
theorem dX11_settings_19 : decode cX11_settings 19 = .ok (.iconst (-1), 1) := by decide +kernel
theorem dX11_settings_20 : decode cX11_settings 20 = .ok (.ireturn, 1) := by decide +kernel
theorem dX11_settings_21 : decode cX11_settings 21 = .ok (.aload_n 0, 1) := by decide +kernel
theorem dX11_settings_22 : decode cX11_settings 22 = .ok (.getfield 7, 3) := by decide +kernel
theorem dX11_settings_25 : decode cX11_settings 25 = .ok (.iconst 2, 1) := by decide +kernel
theorem dX11_settings_26 : decode cX11_settings 26 = .ok (.iaload, 1) := by decide +kernel
theorem dX11_settings_27 : decode cX11_settings 27 = .ok (.istore 4, 2) := by decide +kernel
theorem dX11_settings_29 : decode cX11_settings 29 = .ok (.aload_n 0, 1) := by decide +kernel
theorem dX11_settings_30 : decode cX11_settings 30 = .ok (.getfield 7, 3) := by decide +kernel
theorem dX11_settings_33 : decode cX11_settings 33 = .ok (.bipush 12, 2) := by decide +kernel
theorem dX11_settings_35 : decode cX11_settings 35 = .ok (.iaload, 1) := by decide +kernel
theorem dX11_settings_36 : decode cX11_settings 36 = .ok (.istore 5, 2) := by decide +kernel
theorem dX11_settings_38 : decode cX11_settings 38 = .ok (.iconst 0, 1) := by decide +kernel
theorem dX11_settings_39 : decode cX11_settings 39 = .ok (.istore 6, 2) := by decide +kernel
theorem dX11_settings_41 : decode cX11_settings 41 = .ok (.iconst (-1), 1) := by decide +kernel
theorem dX11_settings_42 : decode cX11_settings 42 = .ok (.istore 7, 2) := by decide +kernel
theorem dX11_settings_44 : decode cX11_settings 44 = .ok (.aload_n 0, 1) := by decide +kernel
theorem dX11_settings_45 : decode cX11_settings 45 = .ok (.invokevirtual 304, 3) := by decide +kernel
theorem dX11_settings_48 : decode cX11_settings 48 = .ok (.iconst 1, 1) := by decide +kernel
theorem dX11_settings_49 : decode cX11_settings 49 = .ok (.istore 8, 2) := by decide +kernel
theorem dX11_settings_51 : decode cX11_settings 51 = .ok (.iload 8, 2) := by decide +kernel
theorem dX11_settings_53 : decode cX11_settings 53 = .ok (.bipush 21, 2) := by decide +kernel
theorem dX11_settings_55 : decode cX11_settings 55 = .ok (.if_icmp .ge 91, 3) := by decide +kernel
theorem dX11_settings_58 : decode cX11_settings 58 = .ok (.aload_n 0, 1) := by decide +kernel
theorem dX11_settings_59 : decode cX11_settings 59 = .ok (.getfield 7, 3) := by decide +kernel
theorem dX11_settings_62 : decode cX11_settings 62 = .ok (.iconst 2, 1) := by decide +kernel
theorem dX11_settings_63 : decode cX11_settings 63 = .ok (.iload 8, 2) := by decide +kernel
theorem dX11_settings_65 : decode cX11_settings 65 = .ok (.iastore, 1) := by decide +kernel
theorem dX11_settings_66 : decode cX11_settings 66 = .ok (.aload_n 0, 1) := by decide +kernel
theorem dX11_settings_67 : decode cX11_settings 67 = .ok (.iload_n 1, 1) := by decide +kernel
theorem dX11_settings_68 : decode cX11_settings 68 = .ok (.invokevirtual 307, 3) := by decide +kernel
theorem dX11_settings_71 : decode cX11_settings 71 = .ok (.iconst 0, 1) := by decide +kernel
theorem dX11_settings_72 : decode cX11_settings 72 = .ok (.istore 9, 2) := by decide +kernel
theorem dX11_settings_74 : decode cX11_settings 74 = .ok (.iload 9, 2) := by decide +kernel
theorem dX11_settings_76 : decode cX11_settings 76 = .ok (.bipush 8, 2) := by decide +kernel
theorem dX11_settings_78 : decode cX11_settings 78 = .ok (.if_icmp .ge 62, 3) := by decide +kernel
theorem dX11_settings_81 : decode cX11_settings 81 = .ok (.aload_n 0, 1) := by decide +kernel
theorem dX11_settings_82 : decode cX11_settings 82 = .ok (.getfield 7, 3) := by decide +kernel
theorem dX11_settings_85 : decode cX11_settings 85 = .ok (.bipush 12, 2) := by decide +kernel
theorem dX11_settings_87 : decode cX11_settings 87 = .ok (.iload 9, 2) := by decide +kernel
theorem dX11_settings_89 : decode cX11_settings 89 = .ok (.invokestatic 345, 3) := by decide +kernel
theorem dX11_settings_92 : decode cX11_settings 92 = .ok (.iastore, 1) := by decide +kernel
theorem dX11_settings_93 : decode cX11_settings 93 = .ok (.aload_n 0, 1) := by decide +kernel
theorem dX11_settings_94 : decode cX11_settings 94 = .ok (.iload_n 1, 1) := by decide +kernel
theorem dX11_settings_95 : decode cX11_settings 95 = .ok (.invokevirtual 322, 3) := by decide +kernel
theorem dX11_settings_98 : decode cX11_settings 98 = .ok (.aload_n 0, 1) := by decide +kernel
theorem dX11_settings_99 : decode cX11_settings 99 = .ok (.iload_n 2, 1) := by decide +kernel
theorem dX11_settings_100 : decode cX11_settings 100 = .ok (.invokevirtual 348, 3) := by decide +kernel
theorem dX11_settings_103 : decode cX11_settings 103 = .ok (.ifCond .eq 31, 3) := by decide +kernel
theorem dX11_settings_106 : decode cX11_settings 106 = .ok (.iload 6, 2) := by decide +kernel
theorem dX11_settings_108 : decode cX11_settings 108 = .ok (.iload_n 3, 1) := by decide +kernel
theorem dX11_settings_109 : decode cX11_settings 109 = .ok (.if_icmp .ne 18, 3) := by decide +kernel
theorem dX11_settings_112 : decode cX11_settings 112 = .ok (.sipush 1000, 3) := by decide +kernel
theorem dX11_settings_115 : decode cX11_settings 115 = .ok (.iload 8, 2) := by decide +kernel
theorem dX11_settings_117 : decode cX11_settings 117 = .ok (.imul, 1) := by decide +kernel
theorem dX11_settings_118 : decode cX11_settings 118 = .ok (.iload 9, 2) := by decide +kernel
theorem dX11_settings_120 : decode cX11_settings 120 = .ok (.invokestatic 345, 3) := by decide +kernel
theorem dX11_settings_123 : decode cX11_settings 123 = .ok (.iadd, 1) := by decide +kernel
theorem dX11_settings_124 : decode cX11_settings 124 = .ok (.goto 5, 3) := by decide +kernel
theorem dX11_settings_127 : decode cX11_settings 127 = .ok (.iload 7, 2) := by decide +kernel
theorem dX11_settings_129 : decode cX11_settings 129 = .ok (.istore 7, 2) := by decide +kernel
theorem dX11_settings_131 : decode cX11_settings 131 = .ok (.iinc 6 1, 3) := by decide +kernel
theorem dX11_settings_134 : decode cX11_settings 134 = .ok (.iinc 9 1, 3) := by decide +kernel
theorem dX11_settings_137 : decode cX11_settings 137 = .ok (.goto (-63), 3) := by decide +kernel
theorem dX11_settings_140 : decode cX11_settings 140 = .ok (.iinc 8 1, 3) := by decide +kernel
theorem dX11_settings_143 : decode cX11_settings 143 = .ok (.goto (-92), 3) := by decide +kernel
theorem dX11_settings_146 : decode cX11_settings 146 = .ok (.aload_n 0, 1) := by decide +kernel
theorem dX11_settings_147 : decode cX11_settings 147 = .ok (.getfield 7, 3) := by decide +kernel
theorem dX11_settings_150 : decode cX11_settings 150 = .ok (.iconst 2, 1) := by decide +kernel
theorem dX11_settings_151 : decode cX11_settings 151 = .ok (.iload 4, 2) := by decide +kernel
theorem dX11_settings_153 : decode cX11_settings 153 = .ok (.iastore, 1) := by decide +kernel
theorem dX11_settings_154 : decode cX11_settings 154 = .ok (.aload_n 0, 1) := by decide +kernel
theorem dX11_settings_155 : decode cX11_settings 155 = .ok (.getfield 7, 3) := by decide +kernel
theorem dX11_settings_158 : decode cX11_settings 158 = .ok (.bipush 12, 2) := by decide +kernel
theorem dX11_settings_160 : decode cX11_settings 160 = .ok (.iload 5, 2) := by decide +kernel
theorem dX11_settings_162 : decode cX11_settings 162 = .ok (.iastore, 1) := by decide +kernel
theorem dX11_settings_163 : decode cX11_settings 163 = .ok (.iload_n 3, 1) := by decide +kernel
theorem dX11_settings_164 : decode cX11_settings 164 = .ok (.iconst (-1), 1) := by decide +kernel
theorem dX11_settings_165 : decode cX11_settings 165 = .ok (.if_icmp .ne 8, 3) := by decide +kernel
theorem dX11_settings_168 : decode cX11_settings 168 = .ok (.iload 6, 2) := by decide +kernel
theorem dX11_settings_170 : decode cX11_settings 170 = .ok (.goto 5, 3) := by decide +kernel
theorem dX11_settings_173 : decode cX11_settings 173 = .ok (.iload 7, 2) := by decide +kernel
theorem dX11_settings_175 : decode cX11_settings 175 = .ok (.ireturn, 1) := by decide +kernel
theorem dX11_risen_0 : decode cX11_risen 0 = .ok (.iload_n 2, 1) := by decide +kernel
theorem dX11_risen_1 : decode cX11_risen 1 = .ok (.istore 6, 2) := by decide +kernel
theorem dX11_risen_3 : decode cX11_risen 3 = .ok (.iload 6, 2) := by decide +kernel
theorem dX11_risen_5 : decode cX11_risen 5 = .ok (.iload_n 3, 1) := by decide +kernel
theorem dX11_risen_6 : decode cX11_risen 6 = .ok (.if_icmp .ge 52, 3) := by decide +kernel
theorem dX11_risen_9 : decode cX11_risen 9 = .ok (.bipush 10, 2) := by decide +kernel
theorem dX11_risen_11 : decode cX11_risen 11 = .ok (.aload_n 0, 1) := by decide +kernel
theorem dX11_risen_12 : decode cX11_risen 12 = .ok (.getfield 42, 3) := by decide +kernel
theorem dX11_risen_15 : decode cX11_risen 15 = .ok (.sipush 2000, 3) := by decide +kernel
theorem dX11_risen_18 : decode cX11_risen 18 = .ok (.iload_n 1, 1) := by decide +kernel
theorem dX11_risen_19 : decode cX11_risen 19 = .ok (.imul, 1) := by decide +kernel
theorem dX11_risen_20 : decode cX11_risen 20 = .ok (.iload 6, 2) := by decide +kernel
theorem dX11_risen_22 : decode cX11_risen 22 = .ok (.iadd, 1) := by decide +kernel
theorem dX11_risen_23 : decode cX11_risen 23 = .ok (.iaload, 1) := by decide +kernel
theorem dX11_risen_24 : decode cX11_risen 24 = .ok (.aload_n 0, 1) := by decide +kernel
theorem dX11_risen_25 : decode cX11_risen 25 = .ok (.getfield 351, 3) := by decide +kernel
theorem dX11_risen_28 : decode cX11_risen 28 = .ok (.isub, 1) := by decide +kernel
theorem dX11_risen_29 : decode cX11_risen 29 = .ok (.imul, 1) := by decide +kernel
theorem dX11_risen_30 : decode cX11_risen 30 = .ok (.iload 5, 2) := by decide +kernel
theorem dX11_risen_32 : decode cX11_risen 32 = .ok (.aload_n 0, 1) := by decide +kernel
theorem dX11_risen_33 : decode cX11_risen 33 = .ok (.getfield 354, 3) := by decide +kernel
theorem dX11_risen_36 : decode cX11_risen 36 = .ok (.aload_n 0, 1) := by decide +kernel
theorem dX11_risen_37 : decode cX11_risen 37 = .ok (.getfield 351, 3) := by decide +kernel
theorem dX11_risen_40 : decode cX11_risen 40 = .ok (.isub, 1) := by decide +kernel
theorem dX11_risen_41 : decode cX11_risen 41 = .ok (.imul, 1) := by decide +kernel
theorem dX11_risen_42 : decode cX11_risen 42 = .ok (.if_icmp .lt 6, 3) := by decide +kernel
theorem dX11_risen_45 : decode cX11_risen 45 = .ok (.iload 6, 2) := by decide +kernel
theorem dX11_risen_47 : decode cX11_risen 47 = .ok (.ireturn, 1) := by decide +kernel
theorem dX11_risen_48 : decode cX11_risen 48 = .ok (.iload 6, 2) := by decide +kernel
theorem dX11_risen_50 : decode cX11_risen 50 = .ok (.iload 4, 2) := by decide +kernel
theorem dX11_risen_52 : decode cX11_risen 52 = .ok (.iadd, 1) := by decide +kernel
theorem dX11_risen_53 : decode cX11_risen 53 = .ok (.istore 6, 2) := by decide +kernel
theorem dX11_risen_55 : decode cX11_risen 55 = .ok (.goto (-52), 3) := by decide +kernel
theorem dX11_risen_58 : decode cX11_risen 58 = .ok (.iconst (-1), 1) := by decide +kernel
theorem dX11_risen_59 : decode cX11_risen 59 = .ok (.ireturn, 1) := by decide +kernel
theorem dX11_measure_0 : decode cX11_measure 0 = .ok (.iload_n 1, 1) := by decide +kernel
theorem dX11_measure_1 : decode cX11_measure 1 = .ok (.invokestatic 115, 3) := by decide +kernel
theorem dX11_measure_4 : decode cX11_measure 4 = .ok (.ifCond .eq 37, 3) := by decide +kernel
theorem dX11_measure_7 : decode cX11_measure 7 = .ok (.iload_n 2, 1) := by decide +kernel
theorem dX11_measure_8 : decode cX11_measure 8 = .ok (.iconst 0, 1) := by decide +kernel
theorem dX11_measure_9 : decode cX11_measure 9 = .ok (.sipush 1999, 3) := by decide +kernel
theorem dX11_measure_12 : decode cX11_measure 12 = .ok (.invokestatic 97, 3) := by decide +kernel
theorem dX11_measure_15 : decode cX11_measure 15 = .ok (.ifCond .eq 26, 3) := by decide +kernel
theorem dX11_measure_18 : decode cX11_measure 18 = .ok (.iload_n 3, 1) := by decide +kernel
theorem dX11_measure_19 : decode cX11_measure 19 = .ok (.iload_n 2, 1) := by decide +kernel
theorem dX11_measure_20 : decode cX11_measure 20 = .ok (.iconst 1, 1) := by decide +kernel
theorem dX11_measure_21 : decode cX11_measure 21 = .ok (.iadd, 1) := by decide +kernel
theorem dX11_measure_22 : decode cX11_measure 22 = .ok (.sipush 2000, 3) := by decide +kernel
theorem dX11_measure_25 : decode cX11_measure 25 = .ok (.invokestatic 97, 3) := by decide +kernel
theorem dX11_measure_28 : decode cX11_measure 28 = .ok (.ifCond .eq 13, 3) := by decide +kernel
theorem dX11_measure_31 : decode cX11_measure 31 = .ok (.iload 4, 2) := by decide +kernel
theorem dX11_measure_33 : decode cX11_measure 33 = .ok (.iconst 0, 1) := by decide +kernel
theorem dX11_measure_34 : decode cX11_measure 34 = .ok (.iconst 5, 1) := by decide +kernel
theorem dX11_measure_35 : decode cX11_measure 35 = .ok (.invokestatic 97, 3) := by decide +kernel
theorem dX11_measure_38 : decode cX11_measure 38 = .ok (.ifCond .ne 6, 3) := by decide +kernel
theorem dX11_measure_41 : decode cX11_measure 41 = .ok (.ldc 114, 2) := by decide +kernel
theorem dX11_measure_43 : decode cX11_measure 43 = .ok (.ireturn, 1) := by decide +kernel
theorem dX11_measure_44 : decode cX11_measure 44 = .ok (.aload_n 0, 1) := by decide +kernel
theorem dX11_measure_45 : decode cX11_measure 45 = .ok (.iload_n 1, 1) := by decide +kernel
theorem dX11_measure_46 : decode cX11_measure 46 = .ok (.invokevirtual 118, 3) := by decide +kernel
theorem dX11_measure_49 : decode cX11_measure 49 = .ok (.aload_n 0, 1) := by decide +kernel
theorem dX11_measure_50 : decode cX11_measure 50 = .ok (.aload_n 0, 1) := by decide +kernel
theorem dX11_measure_51 : decode cX11_measure 51 = .ok (.getfield 42, 3) := by decide +kernel
theorem dX11_measure_54 : decode cX11_measure 54 = .ok (.sipush 2000, 3) := by decide +kernel
theorem dX11_measure_57 : decode cX11_measure 57 = .ok (.iload_n 1, 1) := by decide +kernel
theorem dX11_measure_58 : decode cX11_measure 58 = .ok (.imul, 1) := by decide +kernel
theorem dX11_measure_59 : decode cX11_measure 59 = .ok (.iload_n 2, 1) := by decide +kernel
theorem dX11_measure_60 : decode cX11_measure 60 = .ok (.iadd, 1) := by decide +kernel
theorem dX11_measure_61 : decode cX11_measure 61 = .ok (.iaload, 1) := by decide +kernel
theorem dX11_measure_62 : decode cX11_measure 62 = .ok (.putfield 351, 3) := by decide +kernel
theorem dX11_measure_65 : decode cX11_measure 65 = .ok (.aload_n 0, 1) := by decide +kernel
theorem dX11_measure_66 : decode cX11_measure 66 = .ok (.aload_n 0, 1) := by decide +kernel
theorem dX11_measure_67 : decode cX11_measure 67 = .ok (.getfield 351, 3) := by decide +kernel
theorem dX11_measure_70 : decode cX11_measure 70 = .ok (.putfield 354, 3) := by decide +kernel
theorem dX11_measure_73 : decode cX11_measure 73 = .ok (.iload_n 2, 1) := by decide +kernel
theorem dX11_measure_74 : decode cX11_measure 74 = .ok (.istore 5, 2) := by decide +kernel
theorem dX11_measure_76 : decode cX11_measure 76 = .ok (.iload 5, 2) := by decide +kernel
theorem dX11_measure_78 : decode cX11_measure 78 = .ok (.iload_n 3, 1) := by decide +kernel
theorem dX11_measure_79 : decode cX11_measure 79 = .ok (.if_icmp .ge 68, 3) := by decide +kernel
theorem dX11_measure_82 : decode cX11_measure 82 = .ok (.aload_n 0, 1) := by decide +kernel
theorem dX11_measure_83 : decode cX11_measure 83 = .ok (.getfield 42, 3) := by decide +kernel
theorem dX11_measure_86 : decode cX11_measure 86 = .ok (.sipush 2000, 3) := by decide +kernel
theorem dX11_measure_89 : decode cX11_measure 89 = .ok (.iload_n 1, 1) := by decide +kernel
theorem dX11_measure_90 : decode cX11_measure 90 = .ok (.imul, 1) := by decide +kernel
theorem dX11_measure_91 : decode cX11_measure 91 = .ok (.iload 5, 2) := by decide +kernel
theorem dX11_measure_93 : decode cX11_measure 93 = .ok (.iadd, 1) := by decide +kernel
theorem dX11_measure_94 : decode cX11_measure 94 = .ok (.iaload, 1) := by decide +kernel
theorem dX11_measure_95 : decode cX11_measure 95 = .ok (.istore 6, 2) := by decide +kernel
theorem dX11_measure_97 : decode cX11_measure 97 = .ok (.aload_n 0, 1) := by decide +kernel
theorem dX11_measure_98 : decode cX11_measure 98 = .ok (.iload 6, 2) := by decide +kernel
theorem dX11_measure_100 : decode cX11_measure 100 = .ok (.aload_n 0, 1) := by decide +kernel
theorem dX11_measure_101 : decode cX11_measure 101 = .ok (.getfield 351, 3) := by decide +kernel
theorem dX11_measure_104 : decode cX11_measure 104 = .ok (.if_icmp .ge 8, 3) := by decide +kernel
theorem dX11_measure_107 : decode cX11_measure 107 = .ok (.iload 6, 2) := by decide +kernel
theorem dX11_measure_109 : decode cX11_measure 109 = .ok (.goto 7, 3) := by decide +kernel
theorem dX11_measure_112 : decode cX11_measure 112 = .ok (.aload_n 0, 1) := by decide +kernel
theorem dX11_measure_113 : decode cX11_measure 113 = .ok (.getfield 351, 3) := by decide +kernel
theorem dX11_measure_116 : decode cX11_measure 116 = .ok (.putfield 351, 3) := by decide +kernel
theorem dX11_measure_119 : decode cX11_measure 119 = .ok (.aload_n 0, 1) := by decide +kernel
theorem dX11_measure_120 : decode cX11_measure 120 = .ok (.iload 6, 2) := by decide +kernel
theorem dX11_measure_122 : decode cX11_measure 122 = .ok (.aload_n 0, 1) := by decide +kernel
theorem dX11_measure_123 : decode cX11_measure 123 = .ok (.getfield 354, 3) := by decide +kernel
theorem dX11_measure_126 : decode cX11_measure 126 = .ok (.if_icmp .le 8, 3) := by decide +kernel
theorem dX11_measure_129 : decode cX11_measure 129 = .ok (.iload 6, 2) := by decide +kernel
theorem dX11_measure_131 : decode cX11_measure 131 = .ok (.goto 7, 3) := by decide +kernel
theorem dX11_measure_134 : decode cX11_measure 134 = .ok (.aload_n 0, 1) := by decide +kernel
theorem dX11_measure_135 : decode cX11_measure 135 = .ok (.getfield 354, 3) := by decide +kernel
theorem dX11_measure_138 : decode cX11_measure 138 = .ok (.putfield 354, 3) := by decide +kernel
theorem dX11_measure_141 : decode cX11_measure 141 = .ok (.iinc 5 1, 3) := by decide +kernel
theorem dX11_measure_144 : decode cX11_measure 144 = .ok (.goto (-68), 3) := by decide +kernel
theorem dX11_measure_147 : decode cX11_measure 147 = .ok (.iload 4, 2) := by decide +kernel
theorem dX11_measure_149 : decode cX11_measure 149 = .ok (.iconst 2, 1) := by decide +kernel
theorem dX11_measure_150 : decode cX11_measure 150 = .ok (.if_icmp .ge 20, 3) := by decide +kernel
theorem dX11_measure_153 : decode cX11_measure 153 = .ok (.iload 4, 2) := by decide +kernel
theorem dX11_measure_155 : decode cX11_measure 155 = .ok (.ifCond .ne 10, 3) := by decide +kernel
theorem dX11_measure_158 : decode cX11_measure 158 = .ok (.aload_n 0, 1) := by decide +kernel
theorem dX11_measure_159 : decode cX11_measure 159 = .ok (.getfield 351, 3) := by decide +kernel
theorem dX11_measure_162 : decode cX11_measure 162 = .ok (.goto 7, 3) := by decide +kernel
theorem dX11_measure_165 : decode cX11_measure 165 = .ok (.aload_n 0, 1) := by decide +kernel
theorem dX11_measure_166 : decode cX11_measure 166 = .ok (.getfield 354, 3) := by decide +kernel
theorem dX11_measure_169 : decode cX11_measure 169 = .ok (.ireturn, 1) := by decide +kernel
theorem dX11_measure_170 : decode cX11_measure 170 = .ok (.iload 4, 2) := by decide +kernel
theorem dX11_measure_172 : decode cX11_measure 172 = .ok (.iconst 3, 1) := by decide +kernel
theorem dX11_measure_173 : decode cX11_measure 173 = .ok (.if_icmp .ne 61, 3) := by decide +kernel
theorem dX11_measure_176 : decode cX11_measure 176 = .ok (.iconst 0, 1) := by decide +kernel
theorem dX11_measure_177 : decode cX11_measure 177 = .ok (.istore 5, 2) := by decide +kernel
theorem dX11_measure_179 : decode cX11_measure 179 = .ok (.iload_n 2, 1) := by decide +kernel
theorem dX11_measure_180 : decode cX11_measure 180 = .ok (.istore 6, 2) := by decide +kernel
theorem dX11_measure_182 : decode cX11_measure 182 = .ok (.iload 6, 2) := by decide +kernel
theorem dX11_measure_184 : decode cX11_measure 184 = .ok (.iload_n 3, 1) := by decide +kernel
theorem dX11_measure_185 : decode cX11_measure 185 = .ok (.if_icmp .ge 46, 3) := by decide +kernel
theorem dX11_measure_188 : decode cX11_measure 188 = .ok (.iload 5, 2) := by decide +kernel
theorem dX11_measure_190 : decode cX11_measure 190 = .ok (.iconst 2, 1) := by decide +kernel
theorem dX11_measure_191 : decode cX11_measure 191 = .ok (.aload_n 0, 1) := by decide +kernel
theorem dX11_measure_192 : decode cX11_measure 192 = .ok (.getfield 42, 3) := by decide +kernel
theorem dX11_measure_195 : decode cX11_measure 195 = .ok (.sipush 2000, 3) := by decide +kernel
theorem dX11_measure_198 : decode cX11_measure 198 = .ok (.iload_n 1, 1) := by decide +kernel
theorem dX11_measure_199 : decode cX11_measure 199 = .ok (.imul, 1) := by decide +kernel
theorem dX11_measure_200 : decode cX11_measure 200 = .ok (.iload 6, 2) := by decide +kernel
theorem dX11_measure_202 : decode cX11_measure 202 = .ok (.iadd, 1) := by decide +kernel
theorem dX11_measure_203 : decode cX11_measure 203 = .ok (.iaload, 1) := by decide +kernel
theorem dX11_measure_204 : decode cX11_measure 204 = .ok (.imul, 1) := by decide +kernel
theorem dX11_measure_205 : decode cX11_measure 205 = .ok (.aload_n 0, 1) := by decide +kernel
theorem dX11_measure_206 : decode cX11_measure 206 = .ok (.getfield 351, 3) := by decide +kernel
theorem dX11_measure_209 : decode cX11_measure 209 = .ok (.aload_n 0, 1) := by decide +kernel
theorem dX11_measure_210 : decode cX11_measure 210 = .ok (.getfield 354, 3) := by decide +kernel
theorem dX11_measure_213 : decode cX11_measure 213 = .ok (.iadd, 1) := by decide +kernel
theorem dX11_measure_214 : decode cX11_measure 214 = .ok (.if_icmp .lt 7, 3) := by decide +kernel
theorem dX11_measure_217 : decode cX11_measure 217 = .ok (.iconst 1, 1) := by decide +kernel
theorem dX11_measure_218 : decode cX11_measure 218 = .ok (.goto 4, 3) := by decide +kernel
theorem dX11_measure_221 : decode cX11_measure 221 = .ok (.iconst 0, 1) := by decide +kernel
theorem dX11_measure_222 : decode cX11_measure 222 = .ok (.iadd, 1) := by decide +kernel
theorem dX11_measure_223 : decode cX11_measure 223 = .ok (.istore 5, 2) := by decide +kernel
theorem dX11_measure_225 : decode cX11_measure 225 = .ok (.iinc 6 1, 3) := by decide +kernel
theorem dX11_measure_228 : decode cX11_measure 228 = .ok (.goto (-46), 3) := by decide +kernel
theorem dX11_measure_231 : decode cX11_measure 231 = .ok (.iload 5, 2) := by decide +kernel
theorem dX11_measure_233 : decode cX11_measure 233 = .ok (.ireturn, 1) := by decide +kernel
theorem dX11_measure_234 : decode cX11_measure 234 = .ok (.iload 4, 2) := by decide +kernel
theorem dX11_measure_236 : decode cX11_measure 236 = .ok (.iconst 2, 1) := by decide +kernel
theorem dX11_measure_237 : decode cX11_measure 237 = .ok (.if_icmp .ne 7, 3) := by decide +kernel
theorem dX11_measure_240 : decode cX11_measure 240 = .ok (.iconst 1, 1) := by decide +kernel
theorem dX11_measure_241 : decode cX11_measure 241 = .ok (.goto 9, 3) := by decide +kernel
theorem dX11_measure_244 : decode cX11_measure 244 = .ok (.aload_n 0, 1) := by decide +kernel
theorem dX11_measure_245 : decode cX11_measure 245 = .ok (.getfield 7, 3) := by decide +kernel
theorem dX11_measure_248 : decode cX11_measure 248 = .ok (.iconst 2, 1) := by decide +kernel
theorem dX11_measure_249 : decode cX11_measure 249 = .ok (.iaload, 1) := by decide +kernel
theorem dX11_measure_250 : decode cX11_measure 250 = .ok (.istore 5, 2) := by decide +kernel
theorem dX11_measure_252 : decode cX11_measure 252 = .ok (.aload_n 0, 1) := by decide +kernel
theorem dX11_measure_253 : decode cX11_measure 253 = .ok (.iload_n 1, 1) := by decide +kernel
theorem dX11_measure_254 : decode cX11_measure 254 = .ok (.iload_n 2, 1) := by decide +kernel
theorem dX11_measure_255 : decode cX11_measure 255 = .ok (.iload_n 3, 1) := by decide +kernel
theorem dX11_measure_256 : decode cX11_measure 256 = .ok (.iload 5, 2) := by decide +kernel
theorem dX11_measure_258 : decode cX11_measure 258 = .ok (.iconst 1, 1) := by decide +kernel
theorem dX11_measure_259 : decode cX11_measure 259 = .ok (.invokevirtual 357, 3) := by decide +kernel
theorem dX11_measure_262 : decode cX11_measure 262 = .ok (.istore 6, 2) := by decide +kernel
theorem dX11_measure_264 : decode cX11_measure 264 = .ok (.aload_n 0, 1) := by decide +kernel
theorem dX11_measure_265 : decode cX11_measure 265 = .ok (.iload_n 1, 1) := by decide +kernel
theorem dX11_measure_266 : decode cX11_measure 266 = .ok (.iload_n 2, 1) := by decide +kernel
theorem dX11_measure_267 : decode cX11_measure 267 = .ok (.iload_n 3, 1) := by decide +kernel
theorem dX11_measure_268 : decode cX11_measure 268 = .ok (.iload 5, 2) := by decide +kernel
theorem dX11_measure_270 : decode cX11_measure 270 = .ok (.bipush 9, 2) := by decide +kernel
theorem dX11_measure_272 : decode cX11_measure 272 = .ok (.invokevirtual 357, 3) := by decide +kernel
theorem dX11_measure_275 : decode cX11_measure 275 = .ok (.istore 7, 2) := by decide +kernel
theorem dX11_measure_277 : decode cX11_measure 277 = .ok (.iload 6, 2) := by decide +kernel
theorem dX11_measure_279 : decode cX11_measure 279 = .ok (.iconst (-1), 1) := by decide +kernel
theorem dX11_measure_280 : decode cX11_measure 280 = .ok (.if_icmp .eq 9, 3) := by decide +kernel
theorem dX11_measure_283 : decode cX11_measure 283 = .ok (.iload 7, 2) := by decide +kernel
theorem dX11_measure_285 : decode cX11_measure 285 = .ok (.iconst (-1), 1) := by decide +kernel
theorem dX11_measure_286 : decode cX11_measure 286 = .ok (.if_icmp .ne 6, 3) := by decide +kernel
theorem dX11_measure_289 : decode cX11_measure 289 = .ok (.ldc 114, 2) := by decide +kernel
theorem dX11_measure_291 : decode cX11_measure 291 = .ok (.ireturn, 1) := by decide +kernel
theorem dX11_measure_292 : decode cX11_measure 292 = .ok (.iload 7, 2) := by decide +kernel
theorem dX11_measure_294 : decode cX11_measure 294 = .ok (.iload 6, 2) := by decide +kernel
theorem dX11_measure_296 : decode cX11_measure 296 = .ok (.isub, 1) := by decide +kernel
theorem dX11_measure_297 : decode cX11_measure 297 = .ok (.istore 8, 2) := by decide +kernel
theorem dX11_measure_299 : decode cX11_measure 299 = .ok (.iload 8, 2) := by decide +kernel
theorem dX11_measure_301 : decode cX11_measure 301 = .ok (.iload 5, 2) := by decide +kernel
theorem dX11_measure_303 : decode cX11_measure 303 = .ok (.isub, 1) := by decide +kernel
theorem dX11_measure_304 : decode cX11_measure 304 = .ok (.iconst 1, 1) := by decide +kernel
theorem dX11_measure_305 : decode cX11_measure 305 = .ok (.iadd, 1) := by decide +kernel
theorem dX11_measure_306 : decode cX11_measure 306 = .ok (.istore 9, 2) := by decide +kernel
theorem dX11_measure_308 : decode cX11_measure 308 = .ok (.iload 4, 2) := by decide +kernel
theorem dX11_measure_310 : decode cX11_measure 310 = .ok (.iconst 2, 1) := by decide +kernel
theorem dX11_measure_311 : decode cX11_measure 311 = .ok (.if_icmp .ne 8, 3) := by decide +kernel
theorem dX11_measure_314 : decode cX11_measure 314 = .ok (.iload 8, 2) := by decide +kernel
theorem dX11_measure_316 : decode cX11_measure 316 = .ok (.goto 30, 3) := by decide +kernel
theorem dX11_measure_319 : decode cX11_measure 319 = .ok (.iload 4, 2) := by decide +kernel
theorem dX11_measure_321 : decode cX11_measure 321 = .ok (.iconst 4, 1) := by decide +kernel
theorem dX11_measure_322 : decode cX11_measure 322 = .ok (.if_icmp .ne 17, 3) := by decide +kernel
theorem dX11_measure_325 : decode cX11_measure 325 = .ok (.iload 9, 2) := by decide +kernel
theorem dX11_measure_327 : decode cX11_measure 327 = .ok (.ifCond .ge 7, 3) := by decide +kernel
theorem dX11_measure_330 : decode cX11_measure 330 = .ok (.iconst 0, 1) := by decide +kernel
theorem dX11_measure_331 : decode cX11_measure 331 = .ok (.goto 15, 3) := by decide +kernel
theorem dX11_measure_334 : decode cX11_measure 334 = .ok (.iload 9, 2) := by decide +kernel
theorem dX11_measure_336 : decode cX11_measure 336 = .ok (.goto 10, 3) := by decide +kernel
theorem dX11_measure_339 : decode cX11_measure 339 = .ok (.iload 8, 2) := by decide +kernel
theorem dX11_measure_341 : decode cX11_measure 341 = .ok (.iload 5, 2) := by decide +kernel
theorem dX11_measure_343 : decode cX11_measure 343 = .ok (.iadd, 1) := by decide +kernel
theorem dX11_measure_344 : decode cX11_measure 344 = .ok (.iconst 1, 1) := by decide +kernel
theorem dX11_measure_345 : decode cX11_measure 345 = .ok (.isub, 1) := by decide +kernel
theorem dX11_measure_346 : decode cX11_measure 346 = .ok (.ireturn, 1) := by decide +kernel
theorem dX11_parting_0 : decode cX11_parting 0 = .ok (.iload_n 1, 1) := by decide +kernel
theorem dX11_parting_1 : decode cX11_parting 1 = .ok (.invokestatic 101, 3) := by decide +kernel
theorem dX11_parting_4 : decode cX11_parting 4 = .ok (.ifCond .eq 27, 3) := by decide +kernel
theorem dX11_parting_7 : decode cX11_parting 7 = .ok (.iload_n 2, 1) := by decide +kernel
theorem dX11_parting_8 : decode cX11_parting 8 = .ok (.invokestatic 101, 3) := by decide +kernel
theorem dX11_parting_11 : decode cX11_parting 11 = .ok (.ifCond .eq 20, 3) := by decide +kernel
theorem dX11_parting_14 : decode cX11_parting 14 = .ok (.iload_n 3, 1) := by decide +kernel
theorem dX11_parting_15 : decode cX11_parting 15 = .ok (.invokestatic 301, 3) := by decide +kernel
theorem dX11_parting_18 : decode cX11_parting 18 = .ok (.ifCond .eq 13, 3) := by decide +kernel
theorem dX11_parting_21 : decode cX11_parting 21 = .ok (.iload 4, 2) := by decide +kernel
theorem dX11_parting_23 : decode cX11_parting 23 = .ok (.iconst 0, 1) := by decide +kernel
theorem dX11_parting_24 : decode cX11_parting 24 = .ok (.iconst 1, 1) := by decide +kernel
theorem dX11_parting_25 : decode cX11_parting 25 = .ok (.invokestatic 97, 3) := by decide +kernel
theorem dX11_parting_28 : decode cX11_parting 28 = .ok (.ifCond .ne 5, 3) := by decide +kernel
theorem dX11_parting_31 : decode cX11_parting 31 = .ok (.iconst (-1), 1) := by decide +kernel
theorem dX11_parting_32 : decode cX11_parting 32 = .ok (.ireturn, 1) := by decide +kernel
theorem dX11_parting_33 : decode cX11_parting 33 = .ok (.aload_n 0, 1) := by decide +kernel
theorem dX11_parting_34 : decode cX11_parting 34 = .ok (.getfield 7, 3) := by decide +kernel
theorem dX11_parting_37 : decode cX11_parting 37 = .ok (.iconst 2, 1) := by decide +kernel
theorem dX11_parting_38 : decode cX11_parting 38 = .ok (.iaload, 1) := by decide +kernel
theorem dX11_parting_39 : decode cX11_parting 39 = .ok (.istore 5, 2) := by decide +kernel
theorem dX11_parting_41 : decode cX11_parting 41 = .ok (.aload_n 0, 1) := by decide +kernel
theorem dX11_parting_42 : decode cX11_parting 42 = .ok (.getfield 7, 3) := by decide +kernel
theorem dX11_parting_45 : decode cX11_parting 45 = .ok (.bipush 10, 2) := by decide +kernel
theorem dX11_parting_47 : decode cX11_parting 47 = .ok (.iaload, 1) := by decide +kernel
theorem dX11_parting_48 : decode cX11_parting 48 = .ok (.istore 6, 2) := by decide +kernel
theorem dX11_parting_50 : decode cX11_parting 50 = .ok (.iconst (-1), 1) := by decide +kernel
theorem dX11_parting_51 : decode cX11_parting 51 = .ok (.istore 7, 2) := by decide +kernel
theorem dX11_parting_53 : decode cX11_parting 53 = .ok (.iconst (-1), 1) := by decide +kernel
theorem dX11_parting_54 : decode cX11_parting 54 = .ok (.istore 8, 2) := by decide +kernel
theorem dX11_parting_56 : decode cX11_parting 56 = .ok (.iconst 1, 1) := by decide +kernel
theorem dX11_parting_57 : decode cX11_parting 57 = .ok (.istore 9, 2) := by decide +kernel
theorem dX11_parting_59 : decode cX11_parting 59 = .ok (.iload 9, 2) := by decide +kernel
theorem dX11_parting_61 : decode cX11_parting 61 = .ok (.bipush 21, 2) := by decide +kernel
theorem dX11_parting_63 : decode cX11_parting 63 = .ok (.if_icmp .ge 152, 3) := by decide +kernel
theorem dX11_parting_66 : decode cX11_parting 66 = .ok (.aload_n 0, 1) := by decide +kernel
theorem dX11_parting_67 : decode cX11_parting 67 = .ok (.getfield 7, 3) := by decide +kernel
theorem dX11_parting_70 : decode cX11_parting 70 = .ok (.iconst 2, 1) := by decide +kernel
theorem dX11_parting_71 : decode cX11_parting 71 = .ok (.iload 9, 2) := by decide +kernel
theorem dX11_parting_73 : decode cX11_parting 73 = .ok (.iastore, 1) := by decide +kernel
theorem dX11_parting_74 : decode cX11_parting 74 = .ok (.aload_n 0, 1) := by decide +kernel
theorem dX11_parting_75 : decode cX11_parting 75 = .ok (.getfield 7, 3) := by decide +kernel
theorem dX11_parting_78 : decode cX11_parting 78 = .ok (.bipush 10, 2) := by decide +kernel
theorem dX11_parting_80 : decode cX11_parting 80 = .ok (.iload_n 1, 1) := by decide +kernel
theorem dX11_parting_81 : decode cX11_parting 81 = .ok (.iastore, 1) := by decide +kernel
theorem dX11_parting_82 : decode cX11_parting 82 = .ok (.aload_n 0, 1) := by decide +kernel
theorem dX11_parting_83 : decode cX11_parting 83 = .ok (.iload_n 3, 1) := by decide +kernel
theorem dX11_parting_84 : decode cX11_parting 84 = .ok (.invokevirtual 325, 3) := by decide +kernel
theorem dX11_parting_87 : decode cX11_parting 87 = .ok (.iconst 0, 1) := by decide +kernel
theorem dX11_parting_88 : decode cX11_parting 88 = .ok (.istore 10, 2) := by decide +kernel
theorem dX11_parting_90 : decode cX11_parting 90 = .ok (.iload 10, 2) := by decide +kernel
theorem dX11_parting_92 : decode cX11_parting 92 = .ok (.sipush 320, 3) := by decide +kernel
theorem dX11_parting_95 : decode cX11_parting 95 = .ok (.if_icmp .ge 31, 3) := by decide +kernel
theorem dX11_parting_98 : decode cX11_parting 98 = .ok (.aload_n 0, 1) := by decide +kernel
theorem dX11_parting_99 : decode cX11_parting 99 = .ok (.getfield 85, 3) := by decide +kernel
theorem dX11_parting_102 : decode cX11_parting 102 = .ok (.iload 10, 2) := by decide +kernel
theorem dX11_parting_104 : decode cX11_parting 104 = .ok (.aload_n 0, 1) := by decide +kernel
theorem dX11_parting_105 : decode cX11_parting 105 = .ok (.getfield 79, 3) := by decide +kernel
theorem dX11_parting_108 : decode cX11_parting 108 = .ok (.iload 10, 2) := by decide +kernel
theorem dX11_parting_110 : decode cX11_parting 110 = .ok (.iaload, 1) := by decide +kernel
theorem dX11_parting_111 : decode cX11_parting 111 = .ok (.ifCond .le 7, 3) := by decide +kernel
theorem dX11_parting_114 : decode cX11_parting 114 = .ok (.iconst 1, 1) := by decide +kernel
theorem dX11_parting_115 : decode cX11_parting 115 = .ok (.goto 4, 3) := by decide +kernel
theorem dX11_parting_118 : decode cX11_parting 118 = .ok (.iconst 0, 1) := by decide +kernel
theorem dX11_parting_119 : decode cX11_parting 119 = .ok (.bastore, 1) := by decide +kernel
theorem dX11_parting_120 : decode cX11_parting 120 = .ok (.iinc 10 1, 3) := by decide +kernel
theorem dX11_parting_123 : decode cX11_parting 123 = .ok (.goto (-33), 3) := by decide +kernel
theorem dX11_parting_126 : decode cX11_parting 126 = .ok (.aload_n 0, 1) := by decide +kernel
theorem dX11_parting_127 : decode cX11_parting 127 = .ok (.getfield 7, 3) := by decide +kernel
theorem dX11_parting_130 : decode cX11_parting 130 = .ok (.bipush 10, 2) := by decide +kernel
theorem dX11_parting_132 : decode cX11_parting 132 = .ok (.iload_n 2, 1) := by decide +kernel
theorem dX11_parting_133 : decode cX11_parting 133 = .ok (.iastore, 1) := by decide +kernel
theorem dX11_parting_134 : decode cX11_parting 134 = .ok (.aload_n 0, 1) := by decide +kernel
theorem dX11_parting_135 : decode cX11_parting 135 = .ok (.iload_n 3, 1) := by decide +kernel
theorem dX11_parting_136 : decode cX11_parting 136 = .ok (.invokevirtual 325, 3) := by decide +kernel
theorem dX11_parting_139 : decode cX11_parting 139 = .ok (.iconst 0, 1) := by decide +kernel
theorem dX11_parting_140 : decode cX11_parting 140 = .ok (.istore 10, 2) := by decide +kernel
theorem dX11_parting_142 : decode cX11_parting 142 = .ok (.iconst 0, 1) := by decide +kernel
theorem dX11_parting_143 : decode cX11_parting 143 = .ok (.istore 11, 2) := by decide +kernel
theorem dX11_parting_145 : decode cX11_parting 145 = .ok (.iload 11, 2) := by decide +kernel
theorem dX11_parting_147 : decode cX11_parting 147 = .ok (.sipush 320, 3) := by decide +kernel
theorem dX11_parting_150 : decode cX11_parting 150 = .ok (.if_icmp .ge 44, 3) := by decide +kernel
theorem dX11_parting_153 : decode cX11_parting 153 = .ok (.iload 10, 2) := by decide +kernel
theorem dX11_parting_155 : decode cX11_parting 155 = .ok (.aload_n 0, 1) := by decide +kernel
theorem dX11_parting_156 : decode cX11_parting 156 = .ok (.getfield 85, 3) := by decide +kernel
theorem dX11_parting_159 : decode cX11_parting 159 = .ok (.iload 11, 2) := by decide +kernel
theorem dX11_parting_161 : decode cX11_parting 161 = .ok (.baload, 1) := by decide +kernel
theorem dX11_parting_162 : decode cX11_parting 162 = .ok (.aload_n 0, 1) := by decide +kernel
theorem dX11_parting_163 : decode cX11_parting 163 = .ok (.getfield 79, 3) := by decide +kernel
theorem dX11_parting_166 : decode cX11_parting 166 = .ok (.iload 11, 2) := by decide +kernel
theorem dX11_parting_168 : decode cX11_parting 168 = .ok (.iaload, 1) := by decide +kernel
theorem dX11_parting_169 : decode cX11_parting 169 = .ok (.ifCond .le 7, 3) := by decide +kernel
theorem dX11_parting_172 : decode cX11_parting 172 = .ok (.iconst 1, 1) := by decide +kernel
theorem dX11_parting_173 : decode cX11_parting 173 = .ok (.goto 4, 3) := by decide +kernel
theorem dX11_parting_176 : decode cX11_parting 176 = .ok (.iconst 0, 1) := by decide +kernel
theorem dX11_parting_177 : decode cX11_parting 177 = .ok (.if_icmp .eq 7, 3) := by decide +kernel
theorem dX11_parting_180 : decode cX11_parting 180 = .ok (.iconst 1, 1) := by decide +kernel
theorem dX11_parting_181 : decode cX11_parting 181 = .ok (.goto 4, 3) := by decide +kernel
theorem dX11_parting_184 : decode cX11_parting 184 = .ok (.iconst 0, 1) := by decide +kernel
theorem dX11_parting_185 : decode cX11_parting 185 = .ok (.iadd, 1) := by decide +kernel
theorem dX11_parting_186 : decode cX11_parting 186 = .ok (.istore 10, 2) := by decide +kernel
theorem dX11_parting_188 : decode cX11_parting 188 = .ok (.iinc 11 1, 3) := by decide +kernel
theorem dX11_parting_191 : decode cX11_parting 191 = .ok (.goto (-46), 3) := by decide +kernel
theorem dX11_parting_194 : decode cX11_parting 194 = .ok (.iload 10, 2) := by decide +kernel
theorem dX11_parting_196 : decode cX11_parting 196 = .ok (.iload 8, 2) := by decide +kernel
theorem dX11_parting_198 : decode cX11_parting 198 = .ok (.if_icmp .le 11, 3) := by decide +kernel
theorem dX11_parting_201 : decode cX11_parting 201 = .ok (.iload 10, 2) := by decide +kernel
theorem dX11_parting_203 : decode cX11_parting 203 = .ok (.istore 8, 2) := by decide +kernel
theorem dX11_parting_205 : decode cX11_parting 205 = .ok (.iload 9, 2) := by decide +kernel
theorem dX11_parting_207 : decode cX11_parting 207 = .ok (.istore 7, 2) := by decide +kernel
theorem dX11_parting_209 : decode cX11_parting 209 = .ok (.iinc 9 1, 3) := by decide +kernel
theorem dX11_parting_212 : decode cX11_parting 212 = .ok (.goto (-153), 3) := by decide +kernel
theorem dX11_parting_215 : decode cX11_parting 215 = .ok (.aload_n 0, 1) := by decide +kernel
theorem dX11_parting_216 : decode cX11_parting 216 = .ok (.getfield 7, 3) := by decide +kernel
theorem dX11_parting_219 : decode cX11_parting 219 = .ok (.iconst 2, 1) := by decide +kernel
theorem dX11_parting_220 : decode cX11_parting 220 = .ok (.iload 5, 2) := by decide +kernel
theorem dX11_parting_222 : decode cX11_parting 222 = .ok (.iastore, 1) := by decide +kernel
theorem dX11_parting_223 : decode cX11_parting 223 = .ok (.aload_n 0, 1) := by decide +kernel
theorem dX11_parting_224 : decode cX11_parting 224 = .ok (.getfield 7, 3) := by decide +kernel
theorem dX11_parting_227 : decode cX11_parting 227 = .ok (.bipush 10, 2) := by decide +kernel
theorem dX11_parting_229 : decode cX11_parting 229 = .ok (.iload 6, 2) := by decide +kernel
theorem dX11_parting_231 : decode cX11_parting 231 = .ok (.iastore, 1) := by decide +kernel
theorem dX11_parting_232 : decode cX11_parting 232 = .ok (.iload 4, 2) := by decide +kernel
theorem dX11_parting_234 : decode cX11_parting 234 = .ok (.ifCond .ne 8, 3) := by decide +kernel
theorem dX11_parting_237 : decode cX11_parting 237 = .ok (.iload 7, 2) := by decide +kernel
theorem dX11_parting_239 : decode cX11_parting 239 = .ok (.goto 5, 3) := by decide +kernel
theorem dX11_parting_242 : decode cX11_parting 242 = .ok (.iload 8, 2) := by decide +kernel
theorem dX11_parting_244 : decode cX11_parting 244 = .ok (.ireturn, 1) := by decide +kernel
theorem dX11_image_0 : decode cX11_image 0 = .ok (.aload_n 0, 1) := by decide +kernel
theorem dX11_image_1 : decode cX11_image 1 = .ok (.iconst 1, 1) := by decide +kernel
theorem dX11_image_2 : decode cX11_image 2 = .ok (.invokevirtual 89, 3) := by decide +kernel
theorem dX11_image_5 : decode cX11_image 5 = .ok (.aload_n 0, 1) := by decide +kernel
theorem dX11_image_6 : decode cX11_image 6 = .ok (.getfield 7, 3) := by decide +kernel
theorem dX11_image_9 : decode cX11_image 9 = .ok (.iconst 0, 1) := by decide +kernel
theorem dX11_image_10 : decode cX11_image 10 = .ok (.iaload, 1) := by decide +kernel
theorem dX11_image_11 : decode cX11_image 11 = .ok (.ireturn, 1) := by decide +kernel
theorem dX11_back_0 : decode cX11_back 0 = .ok (.aload_n 0, 1) := by decide +kernel
theorem dX11_back_1 : decode cX11_back 1 = .ok (.iconst 0, 1) := by decide +kernel
theorem dX11_back_2 : decode cX11_back 2 = .ok (.invokevirtual 89, 3) := by decide +kernel
theorem dX11_back_5 : decode cX11_back 5 = .ok (.aload_n 0, 1) := by decide +kernel
theorem dX11_back_6 : decode cX11_back 6 = .ok (.getfield 7, 3) := by decide +kernel
theorem dX11_back_9 : decode cX11_back 9 = .ok (.iconst 0, 1) := by decide +kernel
theorem dX11_back_10 : decode cX11_back 10 = .ok (.iaload, 1) := by decide +kernel
theorem dX11_back_11 : decode cX11_back 11 = .ok (.ireturn, 1) := by decide +kernel
theorem dX11_about_0 : decode cX11_about 0 = .ok (.iload_n 1, 1) := by decide +kernel
theorem dX11_about_1 : decode cX11_about 1 = .ok (.iconst 0, 1) := by decide +kernel
theorem dX11_about_2 : decode cX11_about 2 = .ok (.bipush 6, 2) := by decide +kernel
theorem dX11_about_4 : decode cX11_about 4 = .ok (.invokestatic 97, 3) := by decide +kernel
theorem dX11_about_7 : decode cX11_about 7 = .ok (.ifCond .eq 10, 3) := by decide +kernel
theorem dX11_about_10 : decode cX11_about 10 = .ok (.aload_n 0, 1) := by decide +kernel
theorem dX11_about_11 : decode cX11_about 11 = .ok (.getfield 7, 3) := by decide +kernel
theorem dX11_about_14 : decode cX11_about 14 = .ok (.iload_n 1, 1) := by decide +kernel
theorem dX11_about_15 : decode cX11_about 15 = .ok (.iaload, 1) := by decide +kernel
theorem dX11_about_16 : decode cX11_about 16 = .ok (.ireturn, 1) := by decide +kernel
theorem dX11_about_17 : decode cX11_about 17 = .ok (.iload_n 1, 1) := by decide +kernel
theorem dX11_about_18 : decode cX11_about 18 = .ok (.bipush 7, 2) := by decide +kernel
theorem dX11_about_20 : decode cX11_about 20 = .ok (.if_icmp .ne 10, 3) := by decide +kernel
theorem dX11_about_23 : decode cX11_about 23 = .ok (.aload_n 0, 1) := by decide +kernel
theorem dX11_about_24 : decode cX11_about 24 = .ok (.getfield 122, 3) := by decide +kernel
theorem dX11_about_27 : decode cX11_about 27 = .ok (.goto 50, 3) := by decide +kernel
theorem dX11_about_30 : decode cX11_about 30 = .ok (.iload_n 1, 1) := by decide +kernel
theorem dX11_about_31 : decode cX11_about 31 = .ok (.bipush 10, 2) := by decide +kernel
theorem dX11_about_33 : decode cX11_about 33 = .ok (.bipush 15, 2) := by decide +kernel
theorem dX11_about_35 : decode cX11_about 35 = .ok (.invokestatic 97, 3) := by decide +kernel
theorem dX11_about_38 : decode cX11_about 38 = .ok (.ifCond .eq 12, 3) := by decide +kernel
theorem dX11_about_41 : decode cX11_about 41 = .ok (.aload_n 0, 1) := by decide +kernel
theorem dX11_about_42 : decode cX11_about 42 = .ok (.getfield 7, 3) := by decide +kernel
theorem dX11_about_45 : decode cX11_about 45 = .ok (.iload_n 1, 1) := by decide +kernel
theorem dX11_about_46 : decode cX11_about 46 = .ok (.iaload, 1) := by decide +kernel
theorem dX11_about_47 : decode cX11_about 47 = .ok (.goto 30, 3) := by decide +kernel
theorem dX11_about_50 : decode cX11_about 50 = .ok (.iload_n 1, 1) := by decide +kernel
theorem dX11_about_51 : decode cX11_about 51 = .ok (.bipush 20, 2) := by decide +kernel
theorem dX11_about_53 : decode cX11_about 53 = .ok (.bipush 23, 2) := by decide +kernel
theorem dX11_about_55 : decode cX11_about 55 = .ok (.invokestatic 97, 3) := by decide +kernel
theorem dX11_about_58 : decode cX11_about 58 = .ok (.ifCond .eq 18, 3) := by decide +kernel
theorem dX11_about_61 : decode cX11_about 61 = .ok (.aload_n 0, 1) := by decide +kernel
theorem dX11_about_62 : decode cX11_about 62 = .ok (.getfield 7, 3) := by decide +kernel
theorem dX11_about_65 : decode cX11_about 65 = .ok (.bipush 24, 2) := by decide +kernel
theorem dX11_about_67 : decode cX11_about 67 = .ok (.iload_n 1, 1) := by decide +kernel
theorem dX11_about_68 : decode cX11_about 68 = .ok (.iadd, 1) := by decide +kernel
theorem dX11_about_69 : decode cX11_about 69 = .ok (.bipush 20, 2) := by decide +kernel
theorem dX11_about_71 : decode cX11_about 71 = .ok (.isub, 1) := by decide +kernel
theorem dX11_about_72 : decode cX11_about 72 = .ok (.iaload, 1) := by decide +kernel
theorem dX11_about_73 : decode cX11_about 73 = .ok (.goto 4, 3) := by decide +kernel
theorem dX11_about_76 : decode cX11_about 76 = .ok (.iconst (-1), 1) := by decide +kernel
theorem dX11_about_77 : decode cX11_about 77 = .ok (.ireturn, 1) := by decide +kernel
theorem dJ6_bitCount_0f7a4_0 : decode cJ6_bitCount_0f7a4 0 = .ok (.iload_n 0, 1) := by decide +kernel
theorem dJ6_bitCount_0f7a4_1 : decode cJ6_bitCount_0f7a4 1 = .ok (.iload_n 0, 1) := by decide +kernel
theorem dJ6_bitCount_0f7a4_2 : decode cJ6_bitCount_0f7a4 2 = .ok (.iconst 1, 1) := by decide +kernel
theorem dJ6_bitCount_0f7a4_3 : decode cJ6_bitCount_0f7a4 3 = .ok (.iushr, 1) := by decide +kernel
theorem dJ6_bitCount_0f7a4_4 : decode cJ6_bitCount_0f7a4 4 = .ok (.ldc_w 265, 3) := by decide +kernel
theorem dJ6_bitCount_0f7a4_7 : decode cJ6_bitCount_0f7a4 7 = .ok (.iand, 1) := by decide +kernel
theorem dJ6_bitCount_0f7a4_8 : decode cJ6_bitCount_0f7a4 8 = .ok (.isub, 1) := by decide +kernel
theorem dJ6_bitCount_0f7a4_9 : decode cJ6_bitCount_0f7a4 9 = .ok (.istore_n 0, 1) := by decide +kernel
theorem dJ6_bitCount_0f7a4_10 : decode cJ6_bitCount_0f7a4 10 = .ok (.iload_n 0, 1) := by decide +kernel
theorem dJ6_bitCount_0f7a4_11 : decode cJ6_bitCount_0f7a4 11 = .ok (.ldc_w 266, 3) := by decide +kernel
theorem dJ6_bitCount_0f7a4_14 : decode cJ6_bitCount_0f7a4 14 = .ok (.iand, 1) := by decide +kernel
theorem dJ6_bitCount_0f7a4_15 : decode cJ6_bitCount_0f7a4 15 = .ok (.iload_n 0, 1) := by decide +kernel
theorem dJ6_bitCount_0f7a4_16 : decode cJ6_bitCount_0f7a4 16 = .ok (.iconst 2, 1) := by decide +kernel
theorem dJ6_bitCount_0f7a4_17 : decode cJ6_bitCount_0f7a4 17 = .ok (.iushr, 1) := by decide +kernel
theorem dJ6_bitCount_0f7a4_18 : decode cJ6_bitCount_0f7a4 18 = .ok (.ldc_w 266, 3) := by decide +kernel
theorem dJ6_bitCount_0f7a4_21 : decode cJ6_bitCount_0f7a4 21 = .ok (.iand, 1) := by decide +kernel
theorem dJ6_bitCount_0f7a4_22 : decode cJ6_bitCount_0f7a4 22 = .ok (.iadd, 1) := by decide +kernel
theorem dJ6_bitCount_0f7a4_23 : decode cJ6_bitCount_0f7a4 23 = .ok (.istore_n 0, 1) := by decide +kernel
theorem dJ6_bitCount_0f7a4_24 : decode cJ6_bitCount_0f7a4 24 = .ok (.iload_n 0, 1) := by decide +kernel
theorem dJ6_bitCount_0f7a4_25 : decode cJ6_bitCount_0f7a4 25 = .ok (.iload_n 0, 1) := by decide +kernel
theorem dJ6_bitCount_0f7a4_26 : decode cJ6_bitCount_0f7a4 26 = .ok (.iconst 4, 1) := by decide +kernel
theorem dJ6_bitCount_0f7a4_27 : decode cJ6_bitCount_0f7a4 27 = .ok (.iushr, 1) := by decide +kernel
theorem dJ6_bitCount_0f7a4_28 : decode cJ6_bitCount_0f7a4 28 = .ok (.iadd, 1) := by decide +kernel
theorem dJ6_bitCount_0f7a4_29 : decode cJ6_bitCount_0f7a4 29 = .ok (.ldc_w 267, 3) := by decide +kernel
theorem dJ6_bitCount_0f7a4_32 : decode cJ6_bitCount_0f7a4 32 = .ok (.iand, 1) := by decide +kernel
theorem dJ6_bitCount_0f7a4_33 : decode cJ6_bitCount_0f7a4 33 = .ok (.istore_n 0, 1) := by decide +kernel
theorem dJ6_bitCount_0f7a4_34 : decode cJ6_bitCount_0f7a4 34 = .ok (.iload_n 0, 1) := by decide +kernel
theorem dJ6_bitCount_0f7a4_35 : decode cJ6_bitCount_0f7a4 35 = .ok (.iload_n 0, 1) := by decide +kernel
theorem dJ6_bitCount_0f7a4_36 : decode cJ6_bitCount_0f7a4 36 = .ok (.bipush 8, 2) := by decide +kernel
theorem dJ6_bitCount_0f7a4_38 : decode cJ6_bitCount_0f7a4 38 = .ok (.iushr, 1) := by decide +kernel
theorem dJ6_bitCount_0f7a4_39 : decode cJ6_bitCount_0f7a4 39 = .ok (.iadd, 1) := by decide +kernel
theorem dJ6_bitCount_0f7a4_40 : decode cJ6_bitCount_0f7a4 40 = .ok (.istore_n 0, 1) := by decide +kernel
theorem dJ6_bitCount_0f7a4_41 : decode cJ6_bitCount_0f7a4 41 = .ok (.iload_n 0, 1) := by decide +kernel
theorem dJ6_bitCount_0f7a4_42 : decode cJ6_bitCount_0f7a4 42 = .ok (.iload_n 0, 1) := by decide +kernel
theorem dJ6_bitCount_0f7a4_43 : decode cJ6_bitCount_0f7a4 43 = .ok (.bipush 16, 2) := by decide +kernel
theorem dJ6_bitCount_0f7a4_45 : decode cJ6_bitCount_0f7a4 45 = .ok (.iushr, 1) := by decide +kernel
theorem dJ6_bitCount_0f7a4_46 : decode cJ6_bitCount_0f7a4 46 = .ok (.iadd, 1) := by decide +kernel
theorem dJ6_bitCount_0f7a4_47 : decode cJ6_bitCount_0f7a4 47 = .ok (.istore_n 0, 1) := by decide +kernel
theorem dJ6_bitCount_0f7a4_48 : decode cJ6_bitCount_0f7a4 48 = .ok (.iload_n 0, 1) := by decide +kernel
theorem dJ6_bitCount_0f7a4_49 : decode cJ6_bitCount_0f7a4 49 = .ok (.bipush 63, 2) := by decide +kernel
theorem dJ6_bitCount_0f7a4_51 : decode cJ6_bitCount_0f7a4 51 = .ok (.iand, 1) := by decide +kernel
theorem dJ6_bitCount_0f7a4_52 : decode cJ6_bitCount_0f7a4 52 = .ok (.ireturn, 1) := by decide +kernel
theorem dJ9_floorDiv_7cf53_0 : decode cJ9_floorDiv_7cf53 0 = .ok (.iload_n 0, 1) := by decide +kernel
theorem dJ9_floorDiv_7cf53_1 : decode cJ9_floorDiv_7cf53 1 = .ok (.iload_n 1, 1) := by decide +kernel
theorem dJ9_floorDiv_7cf53_2 : decode cJ9_floorDiv_7cf53 2 = .ok (.idiv, 1) := by decide +kernel
theorem dJ9_floorDiv_7cf53_3 : decode cJ9_floorDiv_7cf53 3 = .ok (.istore_n 2, 1) := by decide +kernel
theorem dJ9_floorDiv_7cf53_4 : decode cJ9_floorDiv_7cf53 4 = .ok (.iload_n 0, 1) := by decide +kernel
theorem dJ9_floorDiv_7cf53_5 : decode cJ9_floorDiv_7cf53 5 = .ok (.iload_n 1, 1) := by decide +kernel
theorem dJ9_floorDiv_7cf53_6 : decode cJ9_floorDiv_7cf53 6 = .ok (.ixor, 1) := by decide +kernel
theorem dJ9_floorDiv_7cf53_7 : decode cJ9_floorDiv_7cf53 7 = .ok (.ifCond .ge 14, 3) := by decide +kernel
theorem dJ9_floorDiv_7cf53_10 : decode cJ9_floorDiv_7cf53 10 = .ok (.iload_n 2, 1) := by decide +kernel
theorem dJ9_floorDiv_7cf53_11 : decode cJ9_floorDiv_7cf53 11 = .ok (.iload_n 1, 1) := by decide +kernel
theorem dJ9_floorDiv_7cf53_12 : decode cJ9_floorDiv_7cf53 12 = .ok (.imul, 1) := by decide +kernel
theorem dJ9_floorDiv_7cf53_13 : decode cJ9_floorDiv_7cf53 13 = .ok (.iload_n 0, 1) := by decide +kernel
theorem dJ9_floorDiv_7cf53_14 : decode cJ9_floorDiv_7cf53 14 = .ok (.if_icmp .eq 7, 3) := by decide +kernel
theorem dJ9_floorDiv_7cf53_17 : decode cJ9_floorDiv_7cf53 17 = .ok (.iload_n 2, 1) := by decide +kernel
theorem dJ9_floorDiv_7cf53_18 : decode cJ9_floorDiv_7cf53 18 = .ok (.iconst 1, 1) := by decide +kernel
theorem dJ9_floorDiv_7cf53_19 : decode cJ9_floorDiv_7cf53 19 = .ok (.isub, 1) := by decide +kernel
theorem dJ9_floorDiv_7cf53_20 : decode cJ9_floorDiv_7cf53 20 = .ok (.ireturn, 1) := by decide +kernel
theorem dJ9_floorDiv_7cf53_21 : decode cJ9_floorDiv_7cf53 21 = .ok (.iload_n 2, 1) := by decide +kernel
theorem dJ9_floorDiv_7cf53_22 : decode cJ9_floorDiv_7cf53 22 = .ok (.ireturn, 1) := by decide +kernel
theorem dJ9_max_7cf53_0 : decode cJ9_max_7cf53 0 = .ok (.iload_n 0, 1) := by decide +kernel
theorem dJ9_max_7cf53_1 : decode cJ9_max_7cf53 1 = .ok (.iload_n 1, 1) := by decide +kernel
theorem dJ9_max_7cf53_2 : decode cJ9_max_7cf53 2 = .ok (.if_icmp .lt 7, 3) := by decide +kernel
theorem dJ9_max_7cf53_5 : decode cJ9_max_7cf53 5 = .ok (.iload_n 0, 1) := by decide +kernel
theorem dJ9_max_7cf53_6 : decode cJ9_max_7cf53 6 = .ok (.goto 4, 3) := by decide +kernel
theorem dJ9_max_7cf53_9 : decode cJ9_max_7cf53 9 = .ok (.iload_n 1, 1) := by decide +kernel
theorem dJ9_max_7cf53_10 : decode cJ9_max_7cf53 10 = .ok (.ireturn, 1) := by decide +kernel
theorem dJ9_min_7cf53_0 : decode cJ9_min_7cf53 0 = .ok (.iload_n 0, 1) := by decide +kernel
theorem dJ9_min_7cf53_1 : decode cJ9_min_7cf53 1 = .ok (.iload_n 1, 1) := by decide +kernel
theorem dJ9_min_7cf53_2 : decode cJ9_min_7cf53 2 = .ok (.if_icmp .gt 7, 3) := by decide +kernel
theorem dJ9_min_7cf53_5 : decode cJ9_min_7cf53 5 = .ok (.iload_n 0, 1) := by decide +kernel
theorem dJ9_min_7cf53_6 : decode cJ9_min_7cf53 6 = .ok (.goto 4, 3) := by decide +kernel
theorem dJ9_min_7cf53_9 : decode cJ9_min_7cf53 9 = .ok (.iload_n 1, 1) := by decide +kernel
theorem dJ9_min_7cf53_10 : decode cJ9_min_7cf53 10 = .ok (.ireturn, 1) := by decide +kernel
theorem dJ0_length_8abf5_0 : decode cJ0_length_8abf5 0 = .ok (.aload_n 0, 1) := by decide +kernel
theorem dJ0_length_8abf5_1 : decode cJ0_length_8abf5 1 = .ok (.getfield 9, 3) := by decide +kernel
theorem dJ0_length_8abf5_4 : decode cJ0_length_8abf5 4 = .ok (.arraylength, 1) := by decide +kernel
theorem dJ0_length_8abf5_5 : decode cJ0_length_8abf5 5 = .ok (.aload_n 0, 1) := by decide +kernel
theorem dJ0_length_8abf5_6 : decode cJ0_length_8abf5 6 = .ok (.invokevirtual 335, 3) := by decide +kernel
theorem dJ0_length_8abf5_9 : decode cJ0_length_8abf5 9 = .ok (.ishr, 1) := by decide +kernel
theorem dJ0_length_8abf5_10 : decode cJ0_length_8abf5 10 = .ok (.ireturn, 1) := by decide +kernel
theorem dJ0_charAt_5068e_0 : decode cJ0_charAt_5068e 0 = .ok (.aload_n 0, 1) := by decide +kernel
theorem dJ0_charAt_5068e_1 : decode cJ0_charAt_5068e 1 = .ok (.invokevirtual 492, 3) := by decide +kernel
theorem dJ0_charAt_5068e_4 : decode cJ0_charAt_5068e 4 = .ok (.ifCond .eq 12, 3) := by decide +kernel
theorem dJ0_charAt_5068e_7 : decode cJ0_charAt_5068e 7 = .ok (.aload_n 0, 1) := by decide +kernel
theorem dJ0_charAt_5068e_8 : decode cJ0_charAt_5068e 8 = .ok (.getfield 9, 3) := by decide +kernel
theorem dJ0_charAt_5068e_11 : decode cJ0_charAt_5068e 11 = .ok (.iload_n 1, 1) := by decide +kernel
theorem dJ0_charAt_5068e_12 : decode cJ0_charAt_5068e 12 = .ok (.invokestatic 495, 3) := by decide +kernel
theorem dJ0_charAt_5068e_15 : decode cJ0_charAt_5068e 15 = .ok (.ireturn, 1) := by decide +kernel
theorem dJ0_charAt_5068e_16 : decode cJ0_charAt_5068e 16 = .ok (.aload_n 0, 1) := by decide +kernel
theorem dJ0_charAt_5068e_17 : decode cJ0_charAt_5068e 17 = .ok (.getfield 9, 3) := by decide +kernel
theorem dJ0_charAt_5068e_20 : decode cJ0_charAt_5068e 20 = .ok (.iload_n 1, 1) := by decide +kernel
theorem dJ0_charAt_5068e_21 : decode cJ0_charAt_5068e 21 = .ok (.invokestatic 498, 3) := by decide +kernel
theorem dJ0_charAt_5068e_24 : decode cJ0_charAt_5068e 24 = .ok (.ireturn, 1) := by decide +kernel
theorem dJ0_coder_7d493_0 : decode cJ0_coder_7d493 0 = .ok (.getstatic 38, 3) := by decide +kernel
theorem dJ0_coder_7d493_3 : decode cJ0_coder_7d493 3 = .ok (.ifCond .eq 10, 3) := by decide +kernel
theorem dJ0_coder_7d493_6 : decode cJ0_coder_7d493 6 = .ok (.aload_n 0, 1) := by decide +kernel
theorem dJ0_coder_7d493_7 : decode cJ0_coder_7d493 7 = .ok (.getfield 15, 3) := by decide +kernel
theorem dJ0_coder_7d493_10 : decode cJ0_coder_7d493 10 = .ok (.goto 4, 3) := by decide +kernel
theorem dJ0_coder_7d493_13 : decode cJ0_coder_7d493 13 = .ok (.iconst 1, 1) := by decide +kernel
theorem dJ0_coder_7d493_14 : decode cJ0_coder_7d493 14 = .ok (.ireturn, 1) := by decide +kernel
theorem dJ0_isLatin1_aae02_0 : decode cJ0_isLatin1_aae02 0 = .ok (.getstatic 38, 3) := by decide +kernel
theorem dJ0_isLatin1_aae02_3 : decode cJ0_isLatin1_aae02 3 = .ok (.ifCond .eq 14, 3) := by decide +kernel
theorem dJ0_isLatin1_aae02_6 : decode cJ0_isLatin1_aae02 6 = .ok (.aload_n 0, 1) := by decide +kernel
theorem dJ0_isLatin1_aae02_7 : decode cJ0_isLatin1_aae02 7 = .ok (.getfield 15, 3) := by decide +kernel
theorem dJ0_isLatin1_aae02_10 : decode cJ0_isLatin1_aae02 10 = .ok (.ifCond .ne 7, 3) := by decide +kernel
theorem dJ0_isLatin1_aae02_13 : decode cJ0_isLatin1_aae02 13 = .ok (.iconst 1, 1) := by decide +kernel
theorem dJ0_isLatin1_aae02_14 : decode cJ0_isLatin1_aae02 14 = .ok (.goto 4, 3) := by decide +kernel
theorem dJ0_isLatin1_aae02_17 : decode cJ0_isLatin1_aae02 17 = .ok (.iconst 0, 1) := by decide +kernel
theorem dJ0_isLatin1_aae02_18 : decode cJ0_isLatin1_aae02 18 = .ok (.ireturn, 1) := by decide +kernel
theorem dJ0_checkIndex_df160_0 : decode cJ0_checkIndex_df160 0 = .ok (.iload_n 0, 1) := by decide +kernel
theorem dJ0_checkIndex_df160_1 : decode cJ0_checkIndex_df160 1 = .ok (.iload_n 1, 1) := by decide +kernel
theorem dJ0_checkIndex_df160_2 : decode cJ0_checkIndex_df160 2 = .ok (.getstatic 1053, 3) := by decide +kernel
theorem dJ0_checkIndex_df160_5 : decode cJ0_checkIndex_df160 5 = .ok (.invokestatic 1059, 3) := by decide +kernel
theorem dJ0_checkIndex_df160_8 : decode cJ0_checkIndex_df160 8 = .ok (.pop, 1) := by decide +kernel
theorem dJ0_checkIndex_df160_9 : decode cJ0_checkIndex_df160 9 = .ok (.return_, 1) := by decide +kernel
theorem dJ1_charAt_3b067_0 : decode cJ1_charAt_3b067 0 = .ok (.iload_n 1, 1) := by decide +kernel
theorem dJ1_charAt_3b067_1 : decode cJ1_charAt_3b067 1 = .ok (.aload_n 0, 1) := by decide +kernel
theorem dJ1_charAt_3b067_2 : decode cJ1_charAt_3b067 2 = .ok (.arraylength, 1) := by decide +kernel
theorem dJ1_charAt_3b067_3 : decode cJ1_charAt_3b067 3 = .ok (.invokestatic 9, 3) := by decide +kernel
theorem dJ1_charAt_3b067_6 : decode cJ1_charAt_3b067 6 = .ok (.aload_n 0, 1) := by decide +kernel
theorem dJ1_charAt_3b067_7 : decode cJ1_charAt_3b067 7 = .ok (.iload_n 1, 1) := by decide +kernel
theorem dJ1_charAt_3b067_8 : decode cJ1_charAt_3b067 8 = .ok (.baload, 1) := by decide +kernel
theorem dJ1_charAt_3b067_9 : decode cJ1_charAt_3b067 9 = .ok (.sipush 255, 3) := by decide +kernel
theorem dJ1_charAt_3b067_12 : decode cJ1_charAt_3b067 12 = .ok (.iand, 1) := by decide +kernel
theorem dJ1_charAt_3b067_13 : decode cJ1_charAt_3b067 13 = .ok (.i2c, 1) := by decide +kernel
theorem dJ1_charAt_3b067_14 : decode cJ1_charAt_3b067 14 = .ok (.ireturn, 1) := by decide +kernel
theorem dJ2_getChar_3b067_0 : decode cJ2_getChar_3b067 0 = .ok (.getstatic 44, 3) := by decide +kernel
theorem dJ2_getChar_3b067_3 : decode cJ2_getChar_3b067 3 = .ok (.ifCond .ne 25, 3) := by decide +kernel
theorem dJ2_getChar_3b067_6 : decode cJ2_getChar_3b067 6 = .ok (.iload_n 1, 1) := by decide +kernel
theorem dJ2_getChar_3b067_7 : decode cJ2_getChar_3b067 7 = .ok (.ifCond .lt 11, 3) := by decide +kernel
theorem dJ2_getChar_3b067_10 : decode cJ2_getChar_3b067 10 = .ok (.iload_n 1, 1) := by decide +kernel
theorem dJ2_getChar_3b067_11 : decode cJ2_getChar_3b067 11 = .ok (.aload_n 0, 1) := by decide +kernel
theorem dJ2_getChar_3b067_12 : decode cJ2_getChar_3b067 12 = .ok (.invokestatic 48, 3) := by decide +kernel
theorem dJ2_getChar_3b067_15 : decode cJ2_getChar_3b067 15 = .ok (.if_icmp .lt 13, 3) := by decide +kernel
theorem dJ2_getChar_3b067_18 : decode cJ2_getChar_3b067 18 = .ok (.new 52, 3) := by decide +kernel
theorem dJ2_getChar_3b067_21 : decode cJ2_getChar_3b067 21 = .ok (.dup, 1) := by decide +kernel
theorem dJ2_getChar_3b067_22 : decode cJ2_getChar_3b067 22 = .ok (.ldc 54, 2) := by decide +kernel
theorem dJ2_getChar_3b067_24 : decode cJ2_getChar_3b067 24 = .ok (.invokespecial 56, 3) := by decide +kernel
theorem dJ2_getChar_3b067_27 : decode cJ2_getChar_3b067 27 = .ok (.athrow, 1) := by decide +kernel
theorem dJ2_getChar_3b067_28 : decode cJ2_getChar_3b067 28 = .ok (.iload_n 1, 1) := by decide +kernel
theorem dJ2_getChar_3b067_29 : decode cJ2_getChar_3b067 29 = .ok (.iconst 1, 1) := by decide +kernel
theorem dJ2_getChar_3b067_30 : decode cJ2_getChar_3b067 30 = .ok (.ishl, 1) := by decide +kernel
theorem dJ2_getChar_3b067_31 : decode cJ2_getChar_3b067 31 = .ok (.istore_n 1, 1) := by decide +kernel
theorem dJ2_getChar_3b067_32 : decode cJ2_getChar_3b067 32 = .ok (.aload_n 0, 1) := by decide +kernel
theorem dJ2_getChar_3b067_33 : decode cJ2_getChar_3b067 33 = .ok (.iload_n 1, 1) := by decide +kernel
theorem dJ2_getChar_3b067_34 : decode cJ2_getChar_3b067 34 = .ok (.iinc 1 1, 3) := by decide +kernel
theorem dJ2_getChar_3b067_37 : decode cJ2_getChar_3b067 37 = .ok (.baload, 1) := by decide +kernel
theorem dJ2_getChar_3b067_38 : decode cJ2_getChar_3b067 38 = .ok (.sipush 255, 3) := by decide +kernel
theorem dJ2_getChar_3b067_41 : decode cJ2_getChar_3b067 41 = .ok (.iand, 1) := by decide +kernel
theorem dJ2_getChar_3b067_42 : decode cJ2_getChar_3b067 42 = .ok (.getstatic 59, 3) := by decide +kernel
theorem dJ2_getChar_3b067_45 : decode cJ2_getChar_3b067 45 = .ok (.ishl, 1) := by decide +kernel
theorem dJ2_getChar_3b067_46 : decode cJ2_getChar_3b067 46 = .ok (.aload_n 0, 1) := by decide +kernel
theorem dJ2_getChar_3b067_47 : decode cJ2_getChar_3b067 47 = .ok (.iload_n 1, 1) := by decide +kernel
theorem dJ2_getChar_3b067_48 : decode cJ2_getChar_3b067 48 = .ok (.baload, 1) := by decide +kernel
theorem dJ2_getChar_3b067_49 : decode cJ2_getChar_3b067 49 = .ok (.sipush 255, 3) := by decide +kernel
theorem dJ2_getChar_3b067_52 : decode cJ2_getChar_3b067 52 = .ok (.iand, 1) := by decide +kernel
theorem dJ2_getChar_3b067_53 : decode cJ2_getChar_3b067 53 = .ok (.getstatic 63, 3) := by decide +kernel
theorem dJ2_getChar_3b067_56 : decode cJ2_getChar_3b067 56 = .ok (.ishl, 1) := by decide +kernel
theorem dJ2_getChar_3b067_57 : decode cJ2_getChar_3b067 57 = .ok (.ior, 1) := by decide +kernel
theorem dJ2_getChar_3b067_58 : decode cJ2_getChar_3b067 58 = .ok (.i2c, 1) := by decide +kernel
theorem dJ2_getChar_3b067_59 : decode cJ2_getChar_3b067 59 = .ok (.ireturn, 1) := by decide +kernel
theorem dJ2_length_9d52b_0 : decode cJ2_length_9d52b 0 = .ok (.aload_n 0, 1) := by decide +kernel
theorem dJ2_length_9d52b_1 : decode cJ2_length_9d52b 1 = .ok (.arraylength, 1) := by decide +kernel
theorem dJ2_length_9d52b_2 : decode cJ2_length_9d52b 2 = .ok (.iconst 1, 1) := by decide +kernel
theorem dJ2_length_9d52b_3 : decode cJ2_length_9d52b 3 = .ok (.ishr, 1) := by decide +kernel
theorem dJ2_length_9d52b_4 : decode cJ2_length_9d52b 4 = .ok (.ireturn, 1) := by decide +kernel
theorem dJ2_charAt_3b067_0 : decode cJ2_charAt_3b067 0 = .ok (.iload_n 1, 1) := by decide +kernel
theorem dJ2_charAt_3b067_1 : decode cJ2_charAt_3b067 1 = .ok (.aload_n 0, 1) := by decide +kernel
theorem dJ2_charAt_3b067_2 : decode cJ2_charAt_3b067 2 = .ok (.invokestatic 67, 3) := by decide +kernel
theorem dJ2_charAt_3b067_5 : decode cJ2_charAt_3b067 5 = .ok (.aload_n 0, 1) := by decide +kernel
theorem dJ2_charAt_3b067_6 : decode cJ2_charAt_3b067 6 = .ok (.iload_n 1, 1) := by decide +kernel
theorem dJ2_charAt_3b067_7 : decode cJ2_charAt_3b067 7 = .ok (.invokestatic 71, 3) := by decide +kernel
theorem dJ2_charAt_3b067_10 : decode cJ2_charAt_3b067 10 = .ok (.ireturn, 1) := by decide +kernel
theorem dJ2_checkIndex_2214a_0 : decode cJ2_checkIndex_2214a 0 = .ok (.iload_n 0, 1) := by decide +kernel
theorem dJ2_checkIndex_2214a_1 : decode cJ2_checkIndex_2214a 1 = .ok (.aload_n 1, 1) := by decide +kernel
theorem dJ2_checkIndex_2214a_2 : decode cJ2_checkIndex_2214a 2 = .ok (.invokestatic 48, 3) := by decide +kernel
theorem dJ2_checkIndex_2214a_5 : decode cJ2_checkIndex_2214a 5 = .ok (.invokestatic 414, 3) := by decide +kernel
theorem dJ2_checkIndex_2214a_8 : decode cJ2_checkIndex_2214a 8 = .ok (.return_, 1) := by decide +kernel
theorem dJ3_checkIndex_8e157_0 : decode cJ3_checkIndex_8e157 0 = .ok (.iload_n 0, 1) := by decide +kernel
theorem dJ3_checkIndex_8e157_1 : decode cJ3_checkIndex_8e157 1 = .ok (.ifCond .lt 8, 3) := by decide +kernel
theorem dJ3_checkIndex_8e157_4 : decode cJ3_checkIndex_8e157 4 = .ok (.iload_n 0, 1) := by decide +kernel
theorem dJ3_checkIndex_8e157_5 : decode cJ3_checkIndex_8e157 5 = .ok (.iload_n 1, 1) := by decide +kernel
theorem dJ3_checkIndex_8e157_6 : decode cJ3_checkIndex_8e157 6 = .ok (.if_icmp .lt 10, 3) := by decide +kernel
theorem dJ3_checkIndex_8e157_9 : decode cJ3_checkIndex_8e157 9 = .ok (.aload_n 2, 1) := by decide +kernel
theorem dJ3_checkIndex_8e157_10 : decode cJ3_checkIndex_8e157 10 = .ok (.iload_n 0, 1) := by decide +kernel
theorem dJ3_checkIndex_8e157_11 : decode cJ3_checkIndex_8e157 11 = .ok (.iload_n 1, 1) := by decide +kernel
theorem dJ3_checkIndex_8e157_12 : decode cJ3_checkIndex_8e157 12 = .ok (.invokestatic 95, 3) := by decide +kernel
theorem dJ3_checkIndex_8e157_15 : decode cJ3_checkIndex_8e157 15 = .ok (.athrow, 1) := by decide +kernel
theorem dJ3_checkIndex_8e157_16 : decode cJ3_checkIndex_8e157 16 = .ok (.iload_n 0, 1) := by decide +kernel
theorem dJ3_checkIndex_8e157_17 : decode cJ3_checkIndex_8e157 17 = .ok (.ireturn, 1) := by decide +kernel
theorem dL_law_0 : decode cL_law 0 = .ok (.new 7, 3) := by decide +kernel
theorem dL_law_3 : decode cL_law 3 = .ok (.dup, 1) := by decide +kernel
theorem dL_law_4 : decode cL_law 4 = .ok (.invokespecial 9, 3) := by decide +kernel
theorem dL_law_7 : decode cL_law 7 = .ok (.astore_n 1, 1) := by decide +kernel
theorem dL_law_8 : decode cL_law 8 = .ok (.new 10, 3) := by decide +kernel
theorem dL_law_11 : decode cL_law 11 = .ok (.dup, 1) := by decide +kernel
theorem dL_law_12 : decode cL_law 12 = .ok (.invokespecial 12, 3) := by decide +kernel
theorem dL_law_15 : decode cL_law 15 = .ok (.astore_n 2, 1) := by decide +kernel
theorem dL_law_16 : decode cL_law 16 = .ok (.iconst 0, 1) := by decide +kernel
theorem dL_law_17 : decode cL_law 17 = .ok (.istore_n 3, 1) := by decide +kernel
theorem dL_law_18 : decode cL_law 18 = .ok (.iload_n 3, 1) := by decide +kernel
theorem dL_law_19 : decode cL_law 19 = .ok (.aload_n 0, 1) := by decide +kernel
theorem dL_law_20 : decode cL_law 20 = .ok (.arraylength, 1) := by decide +kernel
theorem dL_law_21 : decode cL_law 21 = .ok (.bipush 7, 2) := by decide +kernel
theorem dL_law_23 : decode cL_law 23 = .ok (.isub, 1) := by decide +kernel
theorem dL_law_24 : decode cL_law 24 = .ok (.if_icmp .gt 1084, 3) := by decide +kernel
theorem dL_law_27 : decode cL_law 27 = .ok (.aload_n 0, 1) := by decide +kernel
theorem dL_law_28 : decode cL_law 28 = .ok (.iload_n 3, 1) := by decide +kernel
theorem dL_law_29 : decode cL_law 29 = .ok (.iaload, 1) := by decide +kernel
theorem dL_law_30 : decode cL_law 30 = .ok (.bipush 31, 2) := by decide +kernel
theorem dL_law_32 : decode cL_law 32 = .ok (.iand, 1) := by decide +kernel
theorem dL_law_33 : decode cL_law 33 = .ok (.tableswitch 1069 0 25 #[119, 194, 217, 250, 303, 356, 389, 432, 465, 528, 551, 564, 587, 610, 643, 686, 729, 772, 805, 838, 871, 914, 967, 1020, 1033, 1046], 119) := by decide +kernel
theorem dL_law_152 : decode cL_law 152 = .ok (.aload_n 1, 1) := by decide +kernel
theorem dL_law_153 : decode cL_law 153 = .ok (.aload_n 0, 1) := by decide +kernel
theorem dL_law_154 : decode cL_law 154 = .ok (.iload_n 3, 1) := by decide +kernel
theorem dL_law_155 : decode cL_law 155 = .ok (.iconst 1, 1) := by decide +kernel
theorem dL_law_156 : decode cL_law 156 = .ok (.iadd, 1) := by decide +kernel
theorem dL_law_157 : decode cL_law 157 = .ok (.iaload, 1) := by decide +kernel
theorem dL_law_158 : decode cL_law 158 = .ok (.aload_n 0, 1) := by decide +kernel
theorem dL_law_159 : decode cL_law 159 = .ok (.iload_n 3, 1) := by decide +kernel
theorem dL_law_160 : decode cL_law 160 = .ok (.iconst 2, 1) := by decide +kernel
theorem dL_law_161 : decode cL_law 161 = .ok (.iadd, 1) := by decide +kernel
theorem dL_law_162 : decode cL_law 162 = .ok (.iaload, 1) := by decide +kernel
theorem dL_law_163 : decode cL_law 163 = .ok (.aload_n 0, 1) := by decide +kernel
theorem dL_law_164 : decode cL_law 164 = .ok (.iload_n 3, 1) := by decide +kernel
theorem dL_law_165 : decode cL_law 165 = .ok (.iconst 3, 1) := by decide +kernel
theorem dL_law_166 : decode cL_law 166 = .ok (.iadd, 1) := by decide +kernel
theorem dL_law_167 : decode cL_law 167 = .ok (.iaload, 1) := by decide +kernel
theorem dL_law_168 : decode cL_law 168 = .ok (.aload_n 0, 1) := by decide +kernel
theorem dL_law_169 : decode cL_law 169 = .ok (.iload_n 3, 1) := by decide +kernel
theorem dL_law_170 : decode cL_law 170 = .ok (.iconst 4, 1) := by decide +kernel
theorem dL_law_171 : decode cL_law 171 = .ok (.iadd, 1) := by decide +kernel
theorem dL_law_172 : decode cL_law 172 = .ok (.iaload, 1) := by decide +kernel
theorem dL_law_173 : decode cL_law 173 = .ok (.aload_n 0, 1) := by decide +kernel
theorem dL_law_174 : decode cL_law 174 = .ok (.iload_n 3, 1) := by decide +kernel
theorem dL_law_175 : decode cL_law 175 = .ok (.iconst 5, 1) := by decide +kernel
theorem dL_law_176 : decode cL_law 176 = .ok (.iadd, 1) := by decide +kernel
theorem dL_law_177 : decode cL_law 177 = .ok (.iaload, 1) := by decide +kernel
theorem dL_law_178 : decode cL_law 178 = .ok (.aload_n 0, 1) := by decide +kernel
theorem dL_law_179 : decode cL_law 179 = .ok (.iload_n 3, 1) := by decide +kernel
theorem dL_law_180 : decode cL_law 180 = .ok (.bipush 6, 2) := by decide +kernel
theorem dL_law_182 : decode cL_law 182 = .ok (.iadd, 1) := by decide +kernel
theorem dL_law_183 : decode cL_law 183 = .ok (.iaload, 1) := by decide +kernel
theorem dL_law_184 : decode cL_law 184 = .ok (.invokevirtual 13, 3) := by decide +kernel
theorem dL_law_187 : decode cL_law 187 = .ok (.aload_n 2, 1) := by decide +kernel
theorem dL_law_188 : decode cL_law 188 = .ok (.aload_n 0, 1) := by decide +kernel
theorem dL_law_189 : decode cL_law 189 = .ok (.iload_n 3, 1) := by decide +kernel
theorem dL_law_190 : decode cL_law 190 = .ok (.iconst 1, 1) := by decide +kernel
theorem dL_law_191 : decode cL_law 191 = .ok (.iadd, 1) := by decide +kernel
theorem dL_law_192 : decode cL_law 192 = .ok (.iaload, 1) := by decide +kernel
theorem dL_law_193 : decode cL_law 193 = .ok (.aload_n 0, 1) := by decide +kernel
theorem dL_law_194 : decode cL_law 194 = .ok (.iload_n 3, 1) := by decide +kernel
theorem dL_law_195 : decode cL_law 195 = .ok (.iconst 2, 1) := by decide +kernel
theorem dL_law_196 : decode cL_law 196 = .ok (.iadd, 1) := by decide +kernel
theorem dL_law_197 : decode cL_law 197 = .ok (.iaload, 1) := by decide +kernel
theorem dL_law_198 : decode cL_law 198 = .ok (.aload_n 0, 1) := by decide +kernel
theorem dL_law_199 : decode cL_law 199 = .ok (.iload_n 3, 1) := by decide +kernel
theorem dL_law_200 : decode cL_law 200 = .ok (.iconst 3, 1) := by decide +kernel
theorem dL_law_201 : decode cL_law 201 = .ok (.iadd, 1) := by decide +kernel
theorem dL_law_202 : decode cL_law 202 = .ok (.iaload, 1) := by decide +kernel
theorem dL_law_203 : decode cL_law 203 = .ok (.aload_n 0, 1) := by decide +kernel
theorem dL_law_204 : decode cL_law 204 = .ok (.iload_n 3, 1) := by decide +kernel
theorem dL_law_205 : decode cL_law 205 = .ok (.iconst 4, 1) := by decide +kernel
theorem dL_law_206 : decode cL_law 206 = .ok (.iadd, 1) := by decide +kernel
theorem dL_law_207 : decode cL_law 207 = .ok (.iaload, 1) := by decide +kernel
theorem dL_law_208 : decode cL_law 208 = .ok (.aload_n 0, 1) := by decide +kernel
theorem dL_law_209 : decode cL_law 209 = .ok (.iload_n 3, 1) := by decide +kernel
theorem dL_law_210 : decode cL_law 210 = .ok (.iconst 5, 1) := by decide +kernel
theorem dL_law_211 : decode cL_law 211 = .ok (.iadd, 1) := by decide +kernel
theorem dL_law_212 : decode cL_law 212 = .ok (.iaload, 1) := by decide +kernel
theorem dL_law_213 : decode cL_law 213 = .ok (.aload_n 0, 1) := by decide +kernel
theorem dL_law_214 : decode cL_law 214 = .ok (.iload_n 3, 1) := by decide +kernel
theorem dL_law_215 : decode cL_law 215 = .ok (.bipush 6, 2) := by decide +kernel
theorem dL_law_217 : decode cL_law 217 = .ok (.iadd, 1) := by decide +kernel
theorem dL_law_218 : decode cL_law 218 = .ok (.iaload, 1) := by decide +kernel
theorem dL_law_219 : decode cL_law 219 = .ok (.invokevirtual 17, 3) := by decide +kernel
theorem dL_law_222 : decode cL_law 222 = .ok (.if_icmp .eq 880, 3) := by decide +kernel
theorem dL_law_225 : decode cL_law 225 = .ok (.iconst 0, 1) := by decide +kernel
theorem dL_law_226 : decode cL_law 226 = .ok (.ireturn, 1) := by decide +kernel
theorem dL_law_227 : decode cL_law 227 = .ok (.aload_n 1, 1) := by decide +kernel
theorem dL_law_228 : decode cL_law 228 = .ok (.aload_n 0, 1) := by decide +kernel
theorem dL_law_229 : decode cL_law 229 = .ok (.iload_n 3, 1) := by decide +kernel
theorem dL_law_230 : decode cL_law 230 = .ok (.iconst 1, 1) := by decide +kernel
theorem dL_law_231 : decode cL_law 231 = .ok (.iadd, 1) := by decide +kernel
theorem dL_law_232 : decode cL_law 232 = .ok (.iaload, 1) := by decide +kernel
theorem dL_law_233 : decode cL_law 233 = .ok (.invokevirtual 18, 3) := by decide +kernel
theorem dL_law_236 : decode cL_law 236 = .ok (.aload_n 2, 1) := by decide +kernel
theorem dL_law_237 : decode cL_law 237 = .ok (.aload_n 0, 1) := by decide +kernel
theorem dL_law_238 : decode cL_law 238 = .ok (.iload_n 3, 1) := by decide +kernel
theorem dL_law_239 : decode cL_law 239 = .ok (.iconst 1, 1) := by decide +kernel
theorem dL_law_240 : decode cL_law 240 = .ok (.iadd, 1) := by decide +kernel
theorem dL_law_241 : decode cL_law 241 = .ok (.iaload, 1) := by decide +kernel
theorem dL_law_242 : decode cL_law 242 = .ok (.invokevirtual 22, 3) := by decide +kernel
theorem dL_law_245 : decode cL_law 245 = .ok (.if_icmp .eq 857, 3) := by decide +kernel
theorem dL_law_248 : decode cL_law 248 = .ok (.iconst 0, 1) := by decide +kernel
theorem dL_law_249 : decode cL_law 249 = .ok (.ireturn, 1) := by decide +kernel
theorem dL_law_250 : decode cL_law 250 = .ok (.aload_n 1, 1) := by decide +kernel
theorem dL_law_251 : decode cL_law 251 = .ok (.aload_n 0, 1) := by decide +kernel
theorem dL_law_252 : decode cL_law 252 = .ok (.iload_n 3, 1) := by decide +kernel
theorem dL_law_253 : decode cL_law 253 = .ok (.iconst 1, 1) := by decide +kernel
theorem dL_law_254 : decode cL_law 254 = .ok (.iadd, 1) := by decide +kernel
theorem dL_law_255 : decode cL_law 255 = .ok (.iaload, 1) := by decide +kernel
theorem dL_law_256 : decode cL_law 256 = .ok (.aload_n 0, 1) := by decide +kernel
theorem dL_law_257 : decode cL_law 257 = .ok (.iload_n 3, 1) := by decide +kernel
theorem dL_law_258 : decode cL_law 258 = .ok (.iconst 2, 1) := by decide +kernel
theorem dL_law_259 : decode cL_law 259 = .ok (.iadd, 1) := by decide +kernel
theorem dL_law_260 : decode cL_law 260 = .ok (.iaload, 1) := by decide +kernel
theorem dL_law_261 : decode cL_law 261 = .ok (.invokevirtual 23, 3) := by decide +kernel
theorem dL_law_264 : decode cL_law 264 = .ok (.aload_n 2, 1) := by decide +kernel
theorem dL_law_265 : decode cL_law 265 = .ok (.aload_n 0, 1) := by decide +kernel
theorem dL_law_266 : decode cL_law 266 = .ok (.iload_n 3, 1) := by decide +kernel
theorem dL_law_267 : decode cL_law 267 = .ok (.iconst 1, 1) := by decide +kernel
theorem dL_law_268 : decode cL_law 268 = .ok (.iadd, 1) := by decide +kernel
theorem dL_law_269 : decode cL_law 269 = .ok (.iaload, 1) := by decide +kernel
theorem dL_law_270 : decode cL_law 270 = .ok (.aload_n 0, 1) := by decide +kernel
theorem dL_law_271 : decode cL_law 271 = .ok (.iload_n 3, 1) := by decide +kernel
theorem dL_law_272 : decode cL_law 272 = .ok (.iconst 2, 1) := by decide +kernel
theorem dL_law_273 : decode cL_law 273 = .ok (.iadd, 1) := by decide +kernel
theorem dL_law_274 : decode cL_law 274 = .ok (.iaload, 1) := by decide +kernel
theorem dL_law_275 : decode cL_law 275 = .ok (.invokevirtual 27, 3) := by decide +kernel
theorem dL_law_278 : decode cL_law 278 = .ok (.if_icmp .eq 824, 3) := by decide +kernel
theorem dL_law_281 : decode cL_law 281 = .ok (.iconst 0, 1) := by decide +kernel
theorem dL_law_282 : decode cL_law 282 = .ok (.ireturn, 1) := by decide +kernel
theorem dL_law_283 : decode cL_law 283 = .ok (.aload_n 1, 1) := by decide +kernel
theorem dL_law_284 : decode cL_law 284 = .ok (.aload_n 0, 1) := by decide +kernel
theorem dL_law_285 : decode cL_law 285 = .ok (.iload_n 3, 1) := by decide +kernel
theorem dL_law_286 : decode cL_law 286 = .ok (.iconst 1, 1) := by decide +kernel
theorem dL_law_287 : decode cL_law 287 = .ok (.iadd, 1) := by decide +kernel
theorem dL_law_288 : decode cL_law 288 = .ok (.iaload, 1) := by decide +kernel
theorem dL_law_289 : decode cL_law 289 = .ok (.aload_n 0, 1) := by decide +kernel
theorem dL_law_290 : decode cL_law 290 = .ok (.iload_n 3, 1) := by decide +kernel
theorem dL_law_291 : decode cL_law 291 = .ok (.iconst 2, 1) := by decide +kernel
theorem dL_law_292 : decode cL_law 292 = .ok (.iadd, 1) := by decide +kernel
theorem dL_law_293 : decode cL_law 293 = .ok (.iaload, 1) := by decide +kernel
theorem dL_law_294 : decode cL_law 294 = .ok (.aload_n 0, 1) := by decide +kernel
theorem dL_law_295 : decode cL_law 295 = .ok (.iload_n 3, 1) := by decide +kernel
theorem dL_law_296 : decode cL_law 296 = .ok (.iconst 3, 1) := by decide +kernel
theorem dL_law_297 : decode cL_law 297 = .ok (.iadd, 1) := by decide +kernel
theorem dL_law_298 : decode cL_law 298 = .ok (.iaload, 1) := by decide +kernel
theorem dL_law_299 : decode cL_law 299 = .ok (.aload_n 0, 1) := by decide +kernel
theorem dL_law_300 : decode cL_law 300 = .ok (.iload_n 3, 1) := by decide +kernel
theorem dL_law_301 : decode cL_law 301 = .ok (.iconst 4, 1) := by decide +kernel
theorem dL_law_302 : decode cL_law 302 = .ok (.iadd, 1) := by decide +kernel
theorem dL_law_303 : decode cL_law 303 = .ok (.iaload, 1) := by decide +kernel
theorem dL_law_304 : decode cL_law 304 = .ok (.invokevirtual 28, 3) := by decide +kernel
theorem dL_law_307 : decode cL_law 307 = .ok (.aload_n 2, 1) := by decide +kernel
theorem dL_law_308 : decode cL_law 308 = .ok (.aload_n 0, 1) := by decide +kernel
theorem dL_law_309 : decode cL_law 309 = .ok (.iload_n 3, 1) := by decide +kernel
theorem dL_law_310 : decode cL_law 310 = .ok (.iconst 1, 1) := by decide +kernel
theorem dL_law_311 : decode cL_law 311 = .ok (.iadd, 1) := by decide +kernel
theorem dL_law_312 : decode cL_law 312 = .ok (.iaload, 1) := by decide +kernel
theorem dL_law_313 : decode cL_law 313 = .ok (.aload_n 0, 1) := by decide +kernel
theorem dL_law_314 : decode cL_law 314 = .ok (.iload_n 3, 1) := by decide +kernel
theorem dL_law_315 : decode cL_law 315 = .ok (.iconst 2, 1) := by decide +kernel
theorem dL_law_316 : decode cL_law 316 = .ok (.iadd, 1) := by decide +kernel
theorem dL_law_317 : decode cL_law 317 = .ok (.iaload, 1) := by decide +kernel
theorem dL_law_318 : decode cL_law 318 = .ok (.aload_n 0, 1) := by decide +kernel
theorem dL_law_319 : decode cL_law 319 = .ok (.iload_n 3, 1) := by decide +kernel
theorem dL_law_320 : decode cL_law 320 = .ok (.iconst 3, 1) := by decide +kernel
theorem dL_law_321 : decode cL_law 321 = .ok (.iadd, 1) := by decide +kernel
theorem dL_law_322 : decode cL_law 322 = .ok (.iaload, 1) := by decide +kernel
theorem dL_law_323 : decode cL_law 323 = .ok (.aload_n 0, 1) := by decide +kernel
theorem dL_law_324 : decode cL_law 324 = .ok (.iload_n 3, 1) := by decide +kernel
theorem dL_law_325 : decode cL_law 325 = .ok (.iconst 4, 1) := by decide +kernel
theorem dL_law_326 : decode cL_law 326 = .ok (.iadd, 1) := by decide +kernel
theorem dL_law_327 : decode cL_law 327 = .ok (.iaload, 1) := by decide +kernel
theorem dL_law_328 : decode cL_law 328 = .ok (.invokevirtual 32, 3) := by decide +kernel
theorem dL_law_331 : decode cL_law 331 = .ok (.if_icmp .eq 771, 3) := by decide +kernel
theorem dL_law_334 : decode cL_law 334 = .ok (.iconst 0, 1) := by decide +kernel
theorem dL_law_335 : decode cL_law 335 = .ok (.ireturn, 1) := by decide +kernel
theorem dL_law_336 : decode cL_law 336 = .ok (.aload_n 1, 1) := by decide +kernel
theorem dL_law_337 : decode cL_law 337 = .ok (.aload_n 0, 1) := by decide +kernel
theorem dL_law_338 : decode cL_law 338 = .ok (.iload_n 3, 1) := by decide +kernel
theorem dL_law_339 : decode cL_law 339 = .ok (.iconst 1, 1) := by decide +kernel
theorem dL_law_340 : decode cL_law 340 = .ok (.iadd, 1) := by decide +kernel
theorem dL_law_341 : decode cL_law 341 = .ok (.iaload, 1) := by decide +kernel
theorem dL_law_342 : decode cL_law 342 = .ok (.aload_n 0, 1) := by decide +kernel
theorem dL_law_343 : decode cL_law 343 = .ok (.iload_n 3, 1) := by decide +kernel
theorem dL_law_344 : decode cL_law 344 = .ok (.iconst 2, 1) := by decide +kernel
theorem dL_law_345 : decode cL_law 345 = .ok (.iadd, 1) := by decide +kernel
theorem dL_law_346 : decode cL_law 346 = .ok (.iaload, 1) := by decide +kernel
theorem dL_law_347 : decode cL_law 347 = .ok (.aload_n 0, 1) := by decide +kernel
theorem dL_law_348 : decode cL_law 348 = .ok (.iload_n 3, 1) := by decide +kernel
theorem dL_law_349 : decode cL_law 349 = .ok (.iconst 3, 1) := by decide +kernel
theorem dL_law_350 : decode cL_law 350 = .ok (.iadd, 1) := by decide +kernel
theorem dL_law_351 : decode cL_law 351 = .ok (.iaload, 1) := by decide +kernel
theorem dL_law_352 : decode cL_law 352 = .ok (.aload_n 0, 1) := by decide +kernel
theorem dL_law_353 : decode cL_law 353 = .ok (.iload_n 3, 1) := by decide +kernel
theorem dL_law_354 : decode cL_law 354 = .ok (.iconst 4, 1) := by decide +kernel
theorem dL_law_355 : decode cL_law 355 = .ok (.iadd, 1) := by decide +kernel
theorem dL_law_356 : decode cL_law 356 = .ok (.iaload, 1) := by decide +kernel
theorem dL_law_357 : decode cL_law 357 = .ok (.invokevirtual 33, 3) := by decide +kernel
theorem dL_law_360 : decode cL_law 360 = .ok (.aload_n 2, 1) := by decide +kernel
theorem dL_law_361 : decode cL_law 361 = .ok (.aload_n 0, 1) := by decide +kernel
theorem dL_law_362 : decode cL_law 362 = .ok (.iload_n 3, 1) := by decide +kernel
theorem dL_law_363 : decode cL_law 363 = .ok (.iconst 1, 1) := by decide +kernel
theorem dL_law_364 : decode cL_law 364 = .ok (.iadd, 1) := by decide +kernel
theorem dL_law_365 : decode cL_law 365 = .ok (.iaload, 1) := by decide +kernel
theorem dL_law_366 : decode cL_law 366 = .ok (.aload_n 0, 1) := by decide +kernel
theorem dL_law_367 : decode cL_law 367 = .ok (.iload_n 3, 1) := by decide +kernel
theorem dL_law_368 : decode cL_law 368 = .ok (.iconst 2, 1) := by decide +kernel
theorem dL_law_369 : decode cL_law 369 = .ok (.iadd, 1) := by decide +kernel
theorem dL_law_370 : decode cL_law 370 = .ok (.iaload, 1) := by decide +kernel
theorem dL_law_371 : decode cL_law 371 = .ok (.aload_n 0, 1) := by decide +kernel
theorem dL_law_372 : decode cL_law 372 = .ok (.iload_n 3, 1) := by decide +kernel
theorem dL_law_373 : decode cL_law 373 = .ok (.iconst 3, 1) := by decide +kernel
theorem dL_law_374 : decode cL_law 374 = .ok (.iadd, 1) := by decide +kernel
theorem dL_law_375 : decode cL_law 375 = .ok (.iaload, 1) := by decide +kernel
theorem dL_law_376 : decode cL_law 376 = .ok (.aload_n 0, 1) := by decide +kernel
theorem dL_law_377 : decode cL_law 377 = .ok (.iload_n 3, 1) := by decide +kernel
theorem dL_law_378 : decode cL_law 378 = .ok (.iconst 4, 1) := by decide +kernel
theorem dL_law_379 : decode cL_law 379 = .ok (.iadd, 1) := by decide +kernel
theorem dL_law_380 : decode cL_law 380 = .ok (.iaload, 1) := by decide +kernel
theorem dL_law_381 : decode cL_law 381 = .ok (.invokevirtual 36, 3) := by decide +kernel
theorem dL_law_384 : decode cL_law 384 = .ok (.if_icmp .eq 718, 3) := by decide +kernel
theorem dL_law_387 : decode cL_law 387 = .ok (.iconst 0, 1) := by decide +kernel
theorem dL_law_388 : decode cL_law 388 = .ok (.ireturn, 1) := by decide +kernel
theorem dL_law_389 : decode cL_law 389 = .ok (.aload_n 1, 1) := by decide +kernel
theorem dL_law_390 : decode cL_law 390 = .ok (.aload_n 0, 1) := by decide +kernel
theorem dL_law_391 : decode cL_law 391 = .ok (.iload_n 3, 1) := by decide +kernel
theorem dL_law_392 : decode cL_law 392 = .ok (.iconst 1, 1) := by decide +kernel
theorem dL_law_393 : decode cL_law 393 = .ok (.iadd, 1) := by decide +kernel
theorem dL_law_394 : decode cL_law 394 = .ok (.iaload, 1) := by decide +kernel
theorem dL_law_395 : decode cL_law 395 = .ok (.aload_n 0, 1) := by decide +kernel
theorem dL_law_396 : decode cL_law 396 = .ok (.iload_n 3, 1) := by decide +kernel
theorem dL_law_397 : decode cL_law 397 = .ok (.iconst 2, 1) := by decide +kernel
theorem dL_law_398 : decode cL_law 398 = .ok (.iadd, 1) := by decide +kernel
theorem dL_law_399 : decode cL_law 399 = .ok (.iaload, 1) := by decide +kernel
theorem dL_law_400 : decode cL_law 400 = .ok (.invokevirtual 37, 3) := by decide +kernel
theorem dL_law_403 : decode cL_law 403 = .ok (.aload_n 2, 1) := by decide +kernel
theorem dL_law_404 : decode cL_law 404 = .ok (.aload_n 0, 1) := by decide +kernel
theorem dL_law_405 : decode cL_law 405 = .ok (.iload_n 3, 1) := by decide +kernel
theorem dL_law_406 : decode cL_law 406 = .ok (.iconst 1, 1) := by decide +kernel
theorem dL_law_407 : decode cL_law 407 = .ok (.iadd, 1) := by decide +kernel
theorem dL_law_408 : decode cL_law 408 = .ok (.iaload, 1) := by decide +kernel
theorem dL_law_409 : decode cL_law 409 = .ok (.aload_n 0, 1) := by decide +kernel
theorem dL_law_410 : decode cL_law 410 = .ok (.iload_n 3, 1) := by decide +kernel
theorem dL_law_411 : decode cL_law 411 = .ok (.iconst 2, 1) := by decide +kernel
theorem dL_law_412 : decode cL_law 412 = .ok (.iadd, 1) := by decide +kernel
theorem dL_law_413 : decode cL_law 413 = .ok (.iaload, 1) := by decide +kernel
theorem dL_law_414 : decode cL_law 414 = .ok (.invokevirtual 40, 3) := by decide +kernel
theorem dL_law_417 : decode cL_law 417 = .ok (.if_icmp .eq 685, 3) := by decide +kernel
theorem dL_law_420 : decode cL_law 420 = .ok (.iconst 0, 1) := by decide +kernel
theorem dL_law_421 : decode cL_law 421 = .ok (.ireturn, 1) := by decide +kernel
theorem dL_law_422 : decode cL_law 422 = .ok (.aload_n 1, 1) := by decide +kernel
theorem dL_law_423 : decode cL_law 423 = .ok (.aload_n 0, 1) := by decide +kernel
theorem dL_law_424 : decode cL_law 424 = .ok (.iload_n 3, 1) := by decide +kernel
theorem dL_law_425 : decode cL_law 425 = .ok (.iconst 1, 1) := by decide +kernel
theorem dL_law_426 : decode cL_law 426 = .ok (.iadd, 1) := by decide +kernel
theorem dL_law_427 : decode cL_law 427 = .ok (.iaload, 1) := by decide +kernel
theorem dL_law_428 : decode cL_law 428 = .ok (.aload_n 0, 1) := by decide +kernel
theorem dL_law_429 : decode cL_law 429 = .ok (.iload_n 3, 1) := by decide +kernel
theorem dL_law_430 : decode cL_law 430 = .ok (.iconst 2, 1) := by decide +kernel
theorem dL_law_431 : decode cL_law 431 = .ok (.iadd, 1) := by decide +kernel
theorem dL_law_432 : decode cL_law 432 = .ok (.iaload, 1) := by decide +kernel
theorem dL_law_433 : decode cL_law 433 = .ok (.aload_n 0, 1) := by decide +kernel
theorem dL_law_434 : decode cL_law 434 = .ok (.iload_n 3, 1) := by decide +kernel
theorem dL_law_435 : decode cL_law 435 = .ok (.iconst 3, 1) := by decide +kernel
theorem dL_law_436 : decode cL_law 436 = .ok (.iadd, 1) := by decide +kernel
theorem dL_law_437 : decode cL_law 437 = .ok (.iaload, 1) := by decide +kernel
theorem dL_law_438 : decode cL_law 438 = .ok (.invokevirtual 41, 3) := by decide +kernel
theorem dL_law_441 : decode cL_law 441 = .ok (.aload_n 2, 1) := by decide +kernel
theorem dL_law_442 : decode cL_law 442 = .ok (.aload_n 0, 1) := by decide +kernel
theorem dL_law_443 : decode cL_law 443 = .ok (.iload_n 3, 1) := by decide +kernel
theorem dL_law_444 : decode cL_law 444 = .ok (.iconst 1, 1) := by decide +kernel
theorem dL_law_445 : decode cL_law 445 = .ok (.iadd, 1) := by decide +kernel
theorem dL_law_446 : decode cL_law 446 = .ok (.iaload, 1) := by decide +kernel
theorem dL_law_447 : decode cL_law 447 = .ok (.aload_n 0, 1) := by decide +kernel
theorem dL_law_448 : decode cL_law 448 = .ok (.iload_n 3, 1) := by decide +kernel
theorem dL_law_449 : decode cL_law 449 = .ok (.iconst 2, 1) := by decide +kernel
theorem dL_law_450 : decode cL_law 450 = .ok (.iadd, 1) := by decide +kernel
theorem dL_law_451 : decode cL_law 451 = .ok (.iaload, 1) := by decide +kernel
theorem dL_law_452 : decode cL_law 452 = .ok (.aload_n 0, 1) := by decide +kernel
theorem dL_law_453 : decode cL_law 453 = .ok (.iload_n 3, 1) := by decide +kernel
theorem dL_law_454 : decode cL_law 454 = .ok (.iconst 3, 1) := by decide +kernel
theorem dL_law_455 : decode cL_law 455 = .ok (.iadd, 1) := by decide +kernel
theorem dL_law_456 : decode cL_law 456 = .ok (.iaload, 1) := by decide +kernel
theorem dL_law_457 : decode cL_law 457 = .ok (.invokevirtual 45, 3) := by decide +kernel
theorem dL_law_460 : decode cL_law 460 = .ok (.if_icmp .eq 642, 3) := by decide +kernel
theorem dL_law_463 : decode cL_law 463 = .ok (.iconst 0, 1) := by decide +kernel
theorem dL_law_464 : decode cL_law 464 = .ok (.ireturn, 1) := by decide +kernel
theorem dL_law_465 : decode cL_law 465 = .ok (.aload_n 1, 1) := by decide +kernel
theorem dL_law_466 : decode cL_law 466 = .ok (.aload_n 0, 1) := by decide +kernel
theorem dL_law_467 : decode cL_law 467 = .ok (.iload_n 3, 1) := by decide +kernel
theorem dL_law_468 : decode cL_law 468 = .ok (.iconst 1, 1) := by decide +kernel
theorem dL_law_469 : decode cL_law 469 = .ok (.iadd, 1) := by decide +kernel
theorem dL_law_470 : decode cL_law 470 = .ok (.iaload, 1) := by decide +kernel
theorem dL_law_471 : decode cL_law 471 = .ok (.aload_n 0, 1) := by decide +kernel
theorem dL_law_472 : decode cL_law 472 = .ok (.iload_n 3, 1) := by decide +kernel
theorem dL_law_473 : decode cL_law 473 = .ok (.iconst 2, 1) := by decide +kernel
theorem dL_law_474 : decode cL_law 474 = .ok (.iadd, 1) := by decide +kernel
theorem dL_law_475 : decode cL_law 475 = .ok (.iaload, 1) := by decide +kernel
theorem dL_law_476 : decode cL_law 476 = .ok (.invokevirtual 46, 3) := by decide +kernel
theorem dL_law_479 : decode cL_law 479 = .ok (.aload_n 2, 1) := by decide +kernel
theorem dL_law_480 : decode cL_law 480 = .ok (.aload_n 0, 1) := by decide +kernel
theorem dL_law_481 : decode cL_law 481 = .ok (.iload_n 3, 1) := by decide +kernel
theorem dL_law_482 : decode cL_law 482 = .ok (.iconst 1, 1) := by decide +kernel
theorem dL_law_483 : decode cL_law 483 = .ok (.iadd, 1) := by decide +kernel
theorem dL_law_484 : decode cL_law 484 = .ok (.iaload, 1) := by decide +kernel
theorem dL_law_485 : decode cL_law 485 = .ok (.aload_n 0, 1) := by decide +kernel
theorem dL_law_486 : decode cL_law 486 = .ok (.iload_n 3, 1) := by decide +kernel
theorem dL_law_487 : decode cL_law 487 = .ok (.iconst 2, 1) := by decide +kernel
theorem dL_law_488 : decode cL_law 488 = .ok (.iadd, 1) := by decide +kernel
theorem dL_law_489 : decode cL_law 489 = .ok (.iaload, 1) := by decide +kernel
theorem dL_law_490 : decode cL_law 490 = .ok (.invokevirtual 50, 3) := by decide +kernel
theorem dL_law_493 : decode cL_law 493 = .ok (.if_icmp .eq 609, 3) := by decide +kernel
theorem dL_law_496 : decode cL_law 496 = .ok (.iconst 0, 1) := by decide +kernel
theorem dL_law_497 : decode cL_law 497 = .ok (.ireturn, 1) := by decide +kernel
theorem dL_law_498 : decode cL_law 498 = .ok (.aload_n 1, 1) := by decide +kernel
theorem dL_law_499 : decode cL_law 499 = .ok (.aload_n 0, 1) := by decide +kernel
theorem dL_law_500 : decode cL_law 500 = .ok (.iload_n 3, 1) := by decide +kernel
theorem dL_law_501 : decode cL_law 501 = .ok (.iconst 1, 1) := by decide +kernel
theorem dL_law_502 : decode cL_law 502 = .ok (.iadd, 1) := by decide +kernel
theorem dL_law_503 : decode cL_law 503 = .ok (.iaload, 1) := by decide +kernel
theorem dL_law_504 : decode cL_law 504 = .ok (.aload_n 0, 1) := by decide +kernel
theorem dL_law_505 : decode cL_law 505 = .ok (.iload_n 3, 1) := by decide +kernel
theorem dL_law_506 : decode cL_law 506 = .ok (.iconst 2, 1) := by decide +kernel
theorem dL_law_507 : decode cL_law 507 = .ok (.iadd, 1) := by decide +kernel
theorem dL_law_508 : decode cL_law 508 = .ok (.iaload, 1) := by decide +kernel
theorem dL_law_509 : decode cL_law 509 = .ok (.aload_n 0, 1) := by decide +kernel
theorem dL_law_510 : decode cL_law 510 = .ok (.iload_n 3, 1) := by decide +kernel
theorem dL_law_511 : decode cL_law 511 = .ok (.iconst 3, 1) := by decide +kernel
theorem dL_law_512 : decode cL_law 512 = .ok (.iadd, 1) := by decide +kernel
theorem dL_law_513 : decode cL_law 513 = .ok (.iaload, 1) := by decide +kernel
theorem dL_law_514 : decode cL_law 514 = .ok (.aload_n 0, 1) := by decide +kernel
theorem dL_law_515 : decode cL_law 515 = .ok (.iload_n 3, 1) := by decide +kernel
theorem dL_law_516 : decode cL_law 516 = .ok (.iconst 4, 1) := by decide +kernel
theorem dL_law_517 : decode cL_law 517 = .ok (.iadd, 1) := by decide +kernel
theorem dL_law_518 : decode cL_law 518 = .ok (.iaload, 1) := by decide +kernel
theorem dL_law_519 : decode cL_law 519 = .ok (.aload_n 0, 1) := by decide +kernel
theorem dL_law_520 : decode cL_law 520 = .ok (.iload_n 3, 1) := by decide +kernel
theorem dL_law_521 : decode cL_law 521 = .ok (.iconst 5, 1) := by decide +kernel
theorem dL_law_522 : decode cL_law 522 = .ok (.iadd, 1) := by decide +kernel
theorem dL_law_523 : decode cL_law 523 = .ok (.iaload, 1) := by decide +kernel
theorem dL_law_524 : decode cL_law 524 = .ok (.invokevirtual 51, 3) := by decide +kernel
theorem dL_law_527 : decode cL_law 527 = .ok (.aload_n 2, 1) := by decide +kernel
theorem dL_law_528 : decode cL_law 528 = .ok (.aload_n 0, 1) := by decide +kernel
theorem dL_law_529 : decode cL_law 529 = .ok (.iload_n 3, 1) := by decide +kernel
theorem dL_law_530 : decode cL_law 530 = .ok (.iconst 1, 1) := by decide +kernel
theorem dL_law_531 : decode cL_law 531 = .ok (.iadd, 1) := by decide +kernel
theorem dL_law_532 : decode cL_law 532 = .ok (.iaload, 1) := by decide +kernel
theorem dL_law_533 : decode cL_law 533 = .ok (.aload_n 0, 1) := by decide +kernel
theorem dL_law_534 : decode cL_law 534 = .ok (.iload_n 3, 1) := by decide +kernel
theorem dL_law_535 : decode cL_law 535 = .ok (.iconst 2, 1) := by decide +kernel
theorem dL_law_536 : decode cL_law 536 = .ok (.iadd, 1) := by decide +kernel
theorem dL_law_537 : decode cL_law 537 = .ok (.iaload, 1) := by decide +kernel
theorem dL_law_538 : decode cL_law 538 = .ok (.aload_n 0, 1) := by decide +kernel
theorem dL_law_539 : decode cL_law 539 = .ok (.iload_n 3, 1) := by decide +kernel
theorem dL_law_540 : decode cL_law 540 = .ok (.iconst 3, 1) := by decide +kernel
theorem dL_law_541 : decode cL_law 541 = .ok (.iadd, 1) := by decide +kernel
theorem dL_law_542 : decode cL_law 542 = .ok (.iaload, 1) := by decide +kernel
theorem dL_law_543 : decode cL_law 543 = .ok (.aload_n 0, 1) := by decide +kernel
theorem dL_law_544 : decode cL_law 544 = .ok (.iload_n 3, 1) := by decide +kernel
theorem dL_law_545 : decode cL_law 545 = .ok (.iconst 4, 1) := by decide +kernel
theorem dL_law_546 : decode cL_law 546 = .ok (.iadd, 1) := by decide +kernel
theorem dL_law_547 : decode cL_law 547 = .ok (.iaload, 1) := by decide +kernel
theorem dL_law_548 : decode cL_law 548 = .ok (.aload_n 0, 1) := by decide +kernel
theorem dL_law_549 : decode cL_law 549 = .ok (.iload_n 3, 1) := by decide +kernel
theorem dL_law_550 : decode cL_law 550 = .ok (.iconst 5, 1) := by decide +kernel
theorem dL_law_551 : decode cL_law 551 = .ok (.iadd, 1) := by decide +kernel
theorem dL_law_552 : decode cL_law 552 = .ok (.iaload, 1) := by decide +kernel
theorem dL_law_553 : decode cL_law 553 = .ok (.invokevirtual 55, 3) := by decide +kernel
theorem dL_law_556 : decode cL_law 556 = .ok (.if_icmp .eq 546, 3) := by decide +kernel
theorem dL_law_559 : decode cL_law 559 = .ok (.iconst 0, 1) := by decide +kernel
theorem dL_law_560 : decode cL_law 560 = .ok (.ireturn, 1) := by decide +kernel
theorem dL_law_561 : decode cL_law 561 = .ok (.aload_n 1, 1) := by decide +kernel
theorem dL_law_562 : decode cL_law 562 = .ok (.aload_n 0, 1) := by decide +kernel
theorem dL_law_563 : decode cL_law 563 = .ok (.iload_n 3, 1) := by decide +kernel
theorem dL_law_564 : decode cL_law 564 = .ok (.iconst 1, 1) := by decide +kernel
theorem dL_law_565 : decode cL_law 565 = .ok (.iadd, 1) := by decide +kernel
theorem dL_law_566 : decode cL_law 566 = .ok (.iaload, 1) := by decide +kernel
theorem dL_law_567 : decode cL_law 567 = .ok (.invokevirtual 56, 3) := by decide +kernel
theorem dL_law_570 : decode cL_law 570 = .ok (.aload_n 2, 1) := by decide +kernel
theorem dL_law_571 : decode cL_law 571 = .ok (.aload_n 0, 1) := by decide +kernel
theorem dL_law_572 : decode cL_law 572 = .ok (.iload_n 3, 1) := by decide +kernel
theorem dL_law_573 : decode cL_law 573 = .ok (.iconst 1, 1) := by decide +kernel
theorem dL_law_574 : decode cL_law 574 = .ok (.iadd, 1) := by decide +kernel
theorem dL_law_575 : decode cL_law 575 = .ok (.iaload, 1) := by decide +kernel
theorem dL_law_576 : decode cL_law 576 = .ok (.invokevirtual 59, 3) := by decide +kernel
theorem dL_law_579 : decode cL_law 579 = .ok (.if_icmp .eq 523, 3) := by decide +kernel
theorem dL_law_582 : decode cL_law 582 = .ok (.iconst 0, 1) := by decide +kernel
theorem dL_law_583 : decode cL_law 583 = .ok (.ireturn, 1) := by decide +kernel
theorem dL_law_584 : decode cL_law 584 = .ok (.aload_n 1, 1) := by decide +kernel
theorem dL_law_585 : decode cL_law 585 = .ok (.invokevirtual 60, 3) := by decide +kernel
theorem dL_law_588 : decode cL_law 588 = .ok (.aload_n 2, 1) := by decide +kernel
theorem dL_law_589 : decode cL_law 589 = .ok (.invokevirtual 64, 3) := by decide +kernel
theorem dL_law_592 : decode cL_law 592 = .ok (.if_icmp .eq 510, 3) := by decide +kernel
theorem dL_law_595 : decode cL_law 595 = .ok (.iconst 0, 1) := by decide +kernel
theorem dL_law_596 : decode cL_law 596 = .ok (.ireturn, 1) := by decide +kernel
theorem dL_law_597 : decode cL_law 597 = .ok (.aload_n 1, 1) := by decide +kernel
theorem dL_law_598 : decode cL_law 598 = .ok (.aload_n 0, 1) := by decide +kernel
theorem dL_law_599 : decode cL_law 599 = .ok (.iload_n 3, 1) := by decide +kernel
theorem dL_law_600 : decode cL_law 600 = .ok (.iconst 1, 1) := by decide +kernel
theorem dL_law_601 : decode cL_law 601 = .ok (.iadd, 1) := by decide +kernel
theorem dL_law_602 : decode cL_law 602 = .ok (.iaload, 1) := by decide +kernel
theorem dL_law_603 : decode cL_law 603 = .ok (.invokevirtual 65, 3) := by decide +kernel
theorem dL_law_606 : decode cL_law 606 = .ok (.aload_n 2, 1) := by decide +kernel
theorem dL_law_607 : decode cL_law 607 = .ok (.aload_n 0, 1) := by decide +kernel
theorem dL_law_608 : decode cL_law 608 = .ok (.iload_n 3, 1) := by decide +kernel
theorem dL_law_609 : decode cL_law 609 = .ok (.iconst 1, 1) := by decide +kernel
theorem dL_law_610 : decode cL_law 610 = .ok (.iadd, 1) := by decide +kernel
theorem dL_law_611 : decode cL_law 611 = .ok (.iaload, 1) := by decide +kernel
theorem dL_law_612 : decode cL_law 612 = .ok (.invokevirtual 68, 3) := by decide +kernel
theorem dL_law_615 : decode cL_law 615 = .ok (.if_icmp .eq 487, 3) := by decide +kernel
theorem dL_law_618 : decode cL_law 618 = .ok (.iconst 0, 1) := by decide +kernel
theorem dL_law_619 : decode cL_law 619 = .ok (.ireturn, 1) := by decide +kernel
theorem dL_law_620 : decode cL_law 620 = .ok (.aload_n 1, 1) := by decide +kernel
theorem dL_law_621 : decode cL_law 621 = .ok (.aload_n 0, 1) := by decide +kernel
theorem dL_law_622 : decode cL_law 622 = .ok (.iload_n 3, 1) := by decide +kernel
theorem dL_law_623 : decode cL_law 623 = .ok (.iconst 1, 1) := by decide +kernel
theorem dL_law_624 : decode cL_law 624 = .ok (.iadd, 1) := by decide +kernel
theorem dL_law_625 : decode cL_law 625 = .ok (.iaload, 1) := by decide +kernel
theorem dL_law_626 : decode cL_law 626 = .ok (.invokevirtual 69, 3) := by decide +kernel
theorem dL_law_629 : decode cL_law 629 = .ok (.aload_n 2, 1) := by decide +kernel
theorem dL_law_630 : decode cL_law 630 = .ok (.aload_n 0, 1) := by decide +kernel
theorem dL_law_631 : decode cL_law 631 = .ok (.iload_n 3, 1) := by decide +kernel
theorem dL_law_632 : decode cL_law 632 = .ok (.iconst 1, 1) := by decide +kernel
theorem dL_law_633 : decode cL_law 633 = .ok (.iadd, 1) := by decide +kernel
theorem dL_law_634 : decode cL_law 634 = .ok (.iaload, 1) := by decide +kernel
theorem dL_law_635 : decode cL_law 635 = .ok (.invokevirtual 73, 3) := by decide +kernel
theorem dL_law_638 : decode cL_law 638 = .ok (.if_icmp .eq 464, 3) := by decide +kernel
theorem dL_law_641 : decode cL_law 641 = .ok (.iconst 0, 1) := by decide +kernel
theorem dL_law_642 : decode cL_law 642 = .ok (.ireturn, 1) := by decide +kernel
theorem dL_law_643 : decode cL_law 643 = .ok (.aload_n 1, 1) := by decide +kernel
theorem dL_law_644 : decode cL_law 644 = .ok (.aload_n 0, 1) := by decide +kernel
theorem dL_law_645 : decode cL_law 645 = .ok (.iload_n 3, 1) := by decide +kernel
theorem dL_law_646 : decode cL_law 646 = .ok (.iconst 1, 1) := by decide +kernel
theorem dL_law_647 : decode cL_law 647 = .ok (.iadd, 1) := by decide +kernel
theorem dL_law_648 : decode cL_law 648 = .ok (.iaload, 1) := by decide +kernel
theorem dL_law_649 : decode cL_law 649 = .ok (.aload_n 0, 1) := by decide +kernel
theorem dL_law_650 : decode cL_law 650 = .ok (.iload_n 3, 1) := by decide +kernel
theorem dL_law_651 : decode cL_law 651 = .ok (.iconst 2, 1) := by decide +kernel
theorem dL_law_652 : decode cL_law 652 = .ok (.iadd, 1) := by decide +kernel
theorem dL_law_653 : decode cL_law 653 = .ok (.iaload, 1) := by decide +kernel
theorem dL_law_654 : decode cL_law 654 = .ok (.invokevirtual 74, 3) := by decide +kernel
theorem dL_law_657 : decode cL_law 657 = .ok (.aload_n 2, 1) := by decide +kernel
theorem dL_law_658 : decode cL_law 658 = .ok (.aload_n 0, 1) := by decide +kernel
theorem dL_law_659 : decode cL_law 659 = .ok (.iload_n 3, 1) := by decide +kernel
theorem dL_law_660 : decode cL_law 660 = .ok (.iconst 1, 1) := by decide +kernel
theorem dL_law_661 : decode cL_law 661 = .ok (.iadd, 1) := by decide +kernel
theorem dL_law_662 : decode cL_law 662 = .ok (.iaload, 1) := by decide +kernel
theorem dL_law_663 : decode cL_law 663 = .ok (.aload_n 0, 1) := by decide +kernel
theorem dL_law_664 : decode cL_law 664 = .ok (.iload_n 3, 1) := by decide +kernel
theorem dL_law_665 : decode cL_law 665 = .ok (.iconst 2, 1) := by decide +kernel
theorem dL_law_666 : decode cL_law 666 = .ok (.iadd, 1) := by decide +kernel
theorem dL_law_667 : decode cL_law 667 = .ok (.iaload, 1) := by decide +kernel
theorem dL_law_668 : decode cL_law 668 = .ok (.invokevirtual 77, 3) := by decide +kernel
theorem dL_law_671 : decode cL_law 671 = .ok (.if_icmp .eq 431, 3) := by decide +kernel
theorem dL_law_674 : decode cL_law 674 = .ok (.iconst 0, 1) := by decide +kernel
theorem dL_law_675 : decode cL_law 675 = .ok (.ireturn, 1) := by decide +kernel
theorem dL_law_676 : decode cL_law 676 = .ok (.aload_n 1, 1) := by decide +kernel
theorem dL_law_677 : decode cL_law 677 = .ok (.aload_n 0, 1) := by decide +kernel
theorem dL_law_678 : decode cL_law 678 = .ok (.iload_n 3, 1) := by decide +kernel
theorem dL_law_679 : decode cL_law 679 = .ok (.iconst 1, 1) := by decide +kernel
theorem dL_law_680 : decode cL_law 680 = .ok (.iadd, 1) := by decide +kernel
theorem dL_law_681 : decode cL_law 681 = .ok (.iaload, 1) := by decide +kernel
theorem dL_law_682 : decode cL_law 682 = .ok (.aload_n 0, 1) := by decide +kernel
theorem dL_law_683 : decode cL_law 683 = .ok (.iload_n 3, 1) := by decide +kernel
theorem dL_law_684 : decode cL_law 684 = .ok (.iconst 2, 1) := by decide +kernel
theorem dL_law_685 : decode cL_law 685 = .ok (.iadd, 1) := by decide +kernel
theorem dL_law_686 : decode cL_law 686 = .ok (.iaload, 1) := by decide +kernel
theorem dL_law_687 : decode cL_law 687 = .ok (.aload_n 0, 1) := by decide +kernel
theorem dL_law_688 : decode cL_law 688 = .ok (.iload_n 3, 1) := by decide +kernel
theorem dL_law_689 : decode cL_law 689 = .ok (.iconst 3, 1) := by decide +kernel
theorem dL_law_690 : decode cL_law 690 = .ok (.iadd, 1) := by decide +kernel
theorem dL_law_691 : decode cL_law 691 = .ok (.iaload, 1) := by decide +kernel
theorem dL_law_692 : decode cL_law 692 = .ok (.invokevirtual 78, 3) := by decide +kernel
theorem dL_law_695 : decode cL_law 695 = .ok (.aload_n 2, 1) := by decide +kernel
theorem dL_law_696 : decode cL_law 696 = .ok (.aload_n 0, 1) := by decide +kernel
theorem dL_law_697 : decode cL_law 697 = .ok (.iload_n 3, 1) := by decide +kernel
theorem dL_law_698 : decode cL_law 698 = .ok (.iconst 1, 1) := by decide +kernel
theorem dL_law_699 : decode cL_law 699 = .ok (.iadd, 1) := by decide +kernel
theorem dL_law_700 : decode cL_law 700 = .ok (.iaload, 1) := by decide +kernel
theorem dL_law_701 : decode cL_law 701 = .ok (.aload_n 0, 1) := by decide +kernel
theorem dL_law_702 : decode cL_law 702 = .ok (.iload_n 3, 1) := by decide +kernel
theorem dL_law_703 : decode cL_law 703 = .ok (.iconst 2, 1) := by decide +kernel
theorem dL_law_704 : decode cL_law 704 = .ok (.iadd, 1) := by decide +kernel
theorem dL_law_705 : decode cL_law 705 = .ok (.iaload, 1) := by decide +kernel
theorem dL_law_706 : decode cL_law 706 = .ok (.aload_n 0, 1) := by decide +kernel
theorem dL_law_707 : decode cL_law 707 = .ok (.iload_n 3, 1) := by decide +kernel
theorem dL_law_708 : decode cL_law 708 = .ok (.iconst 3, 1) := by decide +kernel
theorem dL_law_709 : decode cL_law 709 = .ok (.iadd, 1) := by decide +kernel
theorem dL_law_710 : decode cL_law 710 = .ok (.iaload, 1) := by decide +kernel
theorem dL_law_711 : decode cL_law 711 = .ok (.invokevirtual 82, 3) := by decide +kernel
theorem dL_law_714 : decode cL_law 714 = .ok (.if_icmp .eq 388, 3) := by decide +kernel
theorem dL_law_717 : decode cL_law 717 = .ok (.iconst 0, 1) := by decide +kernel
theorem dL_law_718 : decode cL_law 718 = .ok (.ireturn, 1) := by decide +kernel
theorem dL_law_719 : decode cL_law 719 = .ok (.aload_n 1, 1) := by decide +kernel
theorem dL_law_720 : decode cL_law 720 = .ok (.aload_n 0, 1) := by decide +kernel
theorem dL_law_721 : decode cL_law 721 = .ok (.iload_n 3, 1) := by decide +kernel
theorem dL_law_722 : decode cL_law 722 = .ok (.iconst 1, 1) := by decide +kernel
theorem dL_law_723 : decode cL_law 723 = .ok (.iadd, 1) := by decide +kernel
theorem dL_law_724 : decode cL_law 724 = .ok (.iaload, 1) := by decide +kernel
theorem dL_law_725 : decode cL_law 725 = .ok (.aload_n 0, 1) := by decide +kernel
theorem dL_law_726 : decode cL_law 726 = .ok (.iload_n 3, 1) := by decide +kernel
theorem dL_law_727 : decode cL_law 727 = .ok (.iconst 2, 1) := by decide +kernel
theorem dL_law_728 : decode cL_law 728 = .ok (.iadd, 1) := by decide +kernel
theorem dL_law_729 : decode cL_law 729 = .ok (.iaload, 1) := by decide +kernel
theorem dL_law_730 : decode cL_law 730 = .ok (.aload_n 0, 1) := by decide +kernel
theorem dL_law_731 : decode cL_law 731 = .ok (.iload_n 3, 1) := by decide +kernel
theorem dL_law_732 : decode cL_law 732 = .ok (.iconst 3, 1) := by decide +kernel
theorem dL_law_733 : decode cL_law 733 = .ok (.iadd, 1) := by decide +kernel
theorem dL_law_734 : decode cL_law 734 = .ok (.iaload, 1) := by decide +kernel
theorem dL_law_735 : decode cL_law 735 = .ok (.invokevirtual 83, 3) := by decide +kernel
theorem dL_law_738 : decode cL_law 738 = .ok (.aload_n 2, 1) := by decide +kernel
theorem dL_law_739 : decode cL_law 739 = .ok (.aload_n 0, 1) := by decide +kernel
theorem dL_law_740 : decode cL_law 740 = .ok (.iload_n 3, 1) := by decide +kernel
theorem dL_law_741 : decode cL_law 741 = .ok (.iconst 1, 1) := by decide +kernel
theorem dL_law_742 : decode cL_law 742 = .ok (.iadd, 1) := by decide +kernel
theorem dL_law_743 : decode cL_law 743 = .ok (.iaload, 1) := by decide +kernel
theorem dL_law_744 : decode cL_law 744 = .ok (.aload_n 0, 1) := by decide +kernel
theorem dL_law_745 : decode cL_law 745 = .ok (.iload_n 3, 1) := by decide +kernel
theorem dL_law_746 : decode cL_law 746 = .ok (.iconst 2, 1) := by decide +kernel
theorem dL_law_747 : decode cL_law 747 = .ok (.iadd, 1) := by decide +kernel
theorem dL_law_748 : decode cL_law 748 = .ok (.iaload, 1) := by decide +kernel
theorem dL_law_749 : decode cL_law 749 = .ok (.aload_n 0, 1) := by decide +kernel
theorem dL_law_750 : decode cL_law 750 = .ok (.iload_n 3, 1) := by decide +kernel
theorem dL_law_751 : decode cL_law 751 = .ok (.iconst 3, 1) := by decide +kernel
theorem dL_law_752 : decode cL_law 752 = .ok (.iadd, 1) := by decide +kernel
theorem dL_law_753 : decode cL_law 753 = .ok (.iaload, 1) := by decide +kernel
theorem dL_law_754 : decode cL_law 754 = .ok (.invokevirtual 86, 3) := by decide +kernel
theorem dL_law_757 : decode cL_law 757 = .ok (.if_icmp .eq 345, 3) := by decide +kernel
theorem dL_law_760 : decode cL_law 760 = .ok (.iconst 0, 1) := by decide +kernel
theorem dL_law_761 : decode cL_law 761 = .ok (.ireturn, 1) := by decide +kernel
theorem dL_law_762 : decode cL_law 762 = .ok (.aload_n 1, 1) := by decide +kernel
theorem dL_law_763 : decode cL_law 763 = .ok (.aload_n 0, 1) := by decide +kernel
theorem dL_law_764 : decode cL_law 764 = .ok (.iload_n 3, 1) := by decide +kernel
theorem dL_law_765 : decode cL_law 765 = .ok (.iconst 1, 1) := by decide +kernel
theorem dL_law_766 : decode cL_law 766 = .ok (.iadd, 1) := by decide +kernel
theorem dL_law_767 : decode cL_law 767 = .ok (.iaload, 1) := by decide +kernel
theorem dL_law_768 : decode cL_law 768 = .ok (.aload_n 0, 1) := by decide +kernel
theorem dL_law_769 : decode cL_law 769 = .ok (.iload_n 3, 1) := by decide +kernel
theorem dL_law_770 : decode cL_law 770 = .ok (.iconst 2, 1) := by decide +kernel
theorem dL_law_771 : decode cL_law 771 = .ok (.iadd, 1) := by decide +kernel
theorem dL_law_772 : decode cL_law 772 = .ok (.iaload, 1) := by decide +kernel
theorem dL_law_773 : decode cL_law 773 = .ok (.aload_n 0, 1) := by decide +kernel
theorem dL_law_774 : decode cL_law 774 = .ok (.iload_n 3, 1) := by decide +kernel
theorem dL_law_775 : decode cL_law 775 = .ok (.iconst 3, 1) := by decide +kernel
theorem dL_law_776 : decode cL_law 776 = .ok (.iadd, 1) := by decide +kernel
theorem dL_law_777 : decode cL_law 777 = .ok (.iaload, 1) := by decide +kernel
theorem dL_law_778 : decode cL_law 778 = .ok (.invokevirtual 87, 3) := by decide +kernel
theorem dL_law_781 : decode cL_law 781 = .ok (.aload_n 2, 1) := by decide +kernel
theorem dL_law_782 : decode cL_law 782 = .ok (.aload_n 0, 1) := by decide +kernel
theorem dL_law_783 : decode cL_law 783 = .ok (.iload_n 3, 1) := by decide +kernel
theorem dL_law_784 : decode cL_law 784 = .ok (.iconst 1, 1) := by decide +kernel
theorem dL_law_785 : decode cL_law 785 = .ok (.iadd, 1) := by decide +kernel
theorem dL_law_786 : decode cL_law 786 = .ok (.iaload, 1) := by decide +kernel
theorem dL_law_787 : decode cL_law 787 = .ok (.aload_n 0, 1) := by decide +kernel
theorem dL_law_788 : decode cL_law 788 = .ok (.iload_n 3, 1) := by decide +kernel
theorem dL_law_789 : decode cL_law 789 = .ok (.iconst 2, 1) := by decide +kernel
theorem dL_law_790 : decode cL_law 790 = .ok (.iadd, 1) := by decide +kernel
theorem dL_law_791 : decode cL_law 791 = .ok (.iaload, 1) := by decide +kernel
theorem dL_law_792 : decode cL_law 792 = .ok (.aload_n 0, 1) := by decide +kernel
theorem dL_law_793 : decode cL_law 793 = .ok (.iload_n 3, 1) := by decide +kernel
theorem dL_law_794 : decode cL_law 794 = .ok (.iconst 3, 1) := by decide +kernel
theorem dL_law_795 : decode cL_law 795 = .ok (.iadd, 1) := by decide +kernel
theorem dL_law_796 : decode cL_law 796 = .ok (.iaload, 1) := by decide +kernel
theorem dL_law_797 : decode cL_law 797 = .ok (.invokevirtual 90, 3) := by decide +kernel
theorem dL_law_800 : decode cL_law 800 = .ok (.if_icmp .eq 302, 3) := by decide +kernel
theorem dL_law_803 : decode cL_law 803 = .ok (.iconst 0, 1) := by decide +kernel
theorem dL_law_804 : decode cL_law 804 = .ok (.ireturn, 1) := by decide +kernel
theorem dL_law_805 : decode cL_law 805 = .ok (.aload_n 1, 1) := by decide +kernel
theorem dL_law_806 : decode cL_law 806 = .ok (.aload_n 0, 1) := by decide +kernel
theorem dL_law_807 : decode cL_law 807 = .ok (.iload_n 3, 1) := by decide +kernel
theorem dL_law_808 : decode cL_law 808 = .ok (.iconst 1, 1) := by decide +kernel
theorem dL_law_809 : decode cL_law 809 = .ok (.iadd, 1) := by decide +kernel
theorem dL_law_810 : decode cL_law 810 = .ok (.iaload, 1) := by decide +kernel
theorem dL_law_811 : decode cL_law 811 = .ok (.aload_n 0, 1) := by decide +kernel
theorem dL_law_812 : decode cL_law 812 = .ok (.iload_n 3, 1) := by decide +kernel
theorem dL_law_813 : decode cL_law 813 = .ok (.iconst 2, 1) := by decide +kernel
theorem dL_law_814 : decode cL_law 814 = .ok (.iadd, 1) := by decide +kernel
theorem dL_law_815 : decode cL_law 815 = .ok (.iaload, 1) := by decide +kernel
theorem dL_law_816 : decode cL_law 816 = .ok (.invokevirtual 91, 3) := by decide +kernel
theorem dL_law_819 : decode cL_law 819 = .ok (.aload_n 2, 1) := by decide +kernel
theorem dL_law_820 : decode cL_law 820 = .ok (.aload_n 0, 1) := by decide +kernel
theorem dL_law_821 : decode cL_law 821 = .ok (.iload_n 3, 1) := by decide +kernel
theorem dL_law_822 : decode cL_law 822 = .ok (.iconst 1, 1) := by decide +kernel
theorem dL_law_823 : decode cL_law 823 = .ok (.iadd, 1) := by decide +kernel
theorem dL_law_824 : decode cL_law 824 = .ok (.iaload, 1) := by decide +kernel
theorem dL_law_825 : decode cL_law 825 = .ok (.aload_n 0, 1) := by decide +kernel
theorem dL_law_826 : decode cL_law 826 = .ok (.iload_n 3, 1) := by decide +kernel
theorem dL_law_827 : decode cL_law 827 = .ok (.iconst 2, 1) := by decide +kernel
theorem dL_law_828 : decode cL_law 828 = .ok (.iadd, 1) := by decide +kernel
theorem dL_law_829 : decode cL_law 829 = .ok (.iaload, 1) := by decide +kernel
theorem dL_law_830 : decode cL_law 830 = .ok (.invokevirtual 94, 3) := by decide +kernel
theorem dL_law_833 : decode cL_law 833 = .ok (.if_icmp .eq 269, 3) := by decide +kernel
theorem dL_law_836 : decode cL_law 836 = .ok (.iconst 0, 1) := by decide +kernel
theorem dL_law_837 : decode cL_law 837 = .ok (.ireturn, 1) := by decide +kernel
theorem dL_law_838 : decode cL_law 838 = .ok (.aload_n 1, 1) := by decide +kernel
theorem dL_law_839 : decode cL_law 839 = .ok (.aload_n 0, 1) := by decide +kernel
theorem dL_law_840 : decode cL_law 840 = .ok (.iload_n 3, 1) := by decide +kernel
theorem dL_law_841 : decode cL_law 841 = .ok (.iconst 1, 1) := by decide +kernel
theorem dL_law_842 : decode cL_law 842 = .ok (.iadd, 1) := by decide +kernel
theorem dL_law_843 : decode cL_law 843 = .ok (.iaload, 1) := by decide +kernel
theorem dL_law_844 : decode cL_law 844 = .ok (.aload_n 0, 1) := by decide +kernel
theorem dL_law_845 : decode cL_law 845 = .ok (.iload_n 3, 1) := by decide +kernel
theorem dL_law_846 : decode cL_law 846 = .ok (.iconst 2, 1) := by decide +kernel
theorem dL_law_847 : decode cL_law 847 = .ok (.iadd, 1) := by decide +kernel
theorem dL_law_848 : decode cL_law 848 = .ok (.iaload, 1) := by decide +kernel
theorem dL_law_849 : decode cL_law 849 = .ok (.invokevirtual 95, 3) := by decide +kernel
theorem dL_law_852 : decode cL_law 852 = .ok (.aload_n 2, 1) := by decide +kernel
theorem dL_law_853 : decode cL_law 853 = .ok (.aload_n 0, 1) := by decide +kernel
theorem dL_law_854 : decode cL_law 854 = .ok (.iload_n 3, 1) := by decide +kernel
theorem dL_law_855 : decode cL_law 855 = .ok (.iconst 1, 1) := by decide +kernel
theorem dL_law_856 : decode cL_law 856 = .ok (.iadd, 1) := by decide +kernel
theorem dL_law_857 : decode cL_law 857 = .ok (.iaload, 1) := by decide +kernel
theorem dL_law_858 : decode cL_law 858 = .ok (.aload_n 0, 1) := by decide +kernel
theorem dL_law_859 : decode cL_law 859 = .ok (.iload_n 3, 1) := by decide +kernel
theorem dL_law_860 : decode cL_law 860 = .ok (.iconst 2, 1) := by decide +kernel
theorem dL_law_861 : decode cL_law 861 = .ok (.iadd, 1) := by decide +kernel
theorem dL_law_862 : decode cL_law 862 = .ok (.iaload, 1) := by decide +kernel
theorem dL_law_863 : decode cL_law 863 = .ok (.invokevirtual 98, 3) := by decide +kernel
theorem dL_law_866 : decode cL_law 866 = .ok (.if_icmp .eq 236, 3) := by decide +kernel
theorem dL_law_869 : decode cL_law 869 = .ok (.iconst 0, 1) := by decide +kernel
theorem dL_law_870 : decode cL_law 870 = .ok (.ireturn, 1) := by decide +kernel
theorem dL_law_871 : decode cL_law 871 = .ok (.aload_n 1, 1) := by decide +kernel
theorem dL_law_872 : decode cL_law 872 = .ok (.aload_n 0, 1) := by decide +kernel
theorem dL_law_873 : decode cL_law 873 = .ok (.iload_n 3, 1) := by decide +kernel
theorem dL_law_874 : decode cL_law 874 = .ok (.iconst 1, 1) := by decide +kernel
theorem dL_law_875 : decode cL_law 875 = .ok (.iadd, 1) := by decide +kernel
theorem dL_law_876 : decode cL_law 876 = .ok (.iaload, 1) := by decide +kernel
theorem dL_law_877 : decode cL_law 877 = .ok (.aload_n 0, 1) := by decide +kernel
theorem dL_law_878 : decode cL_law 878 = .ok (.iload_n 3, 1) := by decide +kernel
theorem dL_law_879 : decode cL_law 879 = .ok (.iconst 2, 1) := by decide +kernel
theorem dL_law_880 : decode cL_law 880 = .ok (.iadd, 1) := by decide +kernel
theorem dL_law_881 : decode cL_law 881 = .ok (.iaload, 1) := by decide +kernel
theorem dL_law_882 : decode cL_law 882 = .ok (.invokevirtual 99, 3) := by decide +kernel
theorem dL_law_885 : decode cL_law 885 = .ok (.aload_n 2, 1) := by decide +kernel
theorem dL_law_886 : decode cL_law 886 = .ok (.aload_n 0, 1) := by decide +kernel
theorem dL_law_887 : decode cL_law 887 = .ok (.iload_n 3, 1) := by decide +kernel
theorem dL_law_888 : decode cL_law 888 = .ok (.iconst 1, 1) := by decide +kernel
theorem dL_law_889 : decode cL_law 889 = .ok (.iadd, 1) := by decide +kernel
theorem dL_law_890 : decode cL_law 890 = .ok (.iaload, 1) := by decide +kernel
theorem dL_law_891 : decode cL_law 891 = .ok (.aload_n 0, 1) := by decide +kernel
theorem dL_law_892 : decode cL_law 892 = .ok (.iload_n 3, 1) := by decide +kernel
theorem dL_law_893 : decode cL_law 893 = .ok (.iconst 2, 1) := by decide +kernel
theorem dL_law_894 : decode cL_law 894 = .ok (.iadd, 1) := by decide +kernel
theorem dL_law_895 : decode cL_law 895 = .ok (.iaload, 1) := by decide +kernel
theorem dL_law_896 : decode cL_law 896 = .ok (.invokevirtual 102, 3) := by decide +kernel
theorem dL_law_899 : decode cL_law 899 = .ok (.if_icmp .eq 203, 3) := by decide +kernel
theorem dL_law_902 : decode cL_law 902 = .ok (.iconst 0, 1) := by decide +kernel
theorem dL_law_903 : decode cL_law 903 = .ok (.ireturn, 1) := by decide +kernel
theorem dL_law_904 : decode cL_law 904 = .ok (.aload_n 1, 1) := by decide +kernel
theorem dL_law_905 : decode cL_law 905 = .ok (.aload_n 0, 1) := by decide +kernel
theorem dL_law_906 : decode cL_law 906 = .ok (.iload_n 3, 1) := by decide +kernel
theorem dL_law_907 : decode cL_law 907 = .ok (.iconst 1, 1) := by decide +kernel
theorem dL_law_908 : decode cL_law 908 = .ok (.iadd, 1) := by decide +kernel
theorem dL_law_909 : decode cL_law 909 = .ok (.iaload, 1) := by decide +kernel
theorem dL_law_910 : decode cL_law 910 = .ok (.aload_n 0, 1) := by decide +kernel
theorem dL_law_911 : decode cL_law 911 = .ok (.iload_n 3, 1) := by decide +kernel
theorem dL_law_912 : decode cL_law 912 = .ok (.iconst 2, 1) := by decide +kernel
theorem dL_law_913 : decode cL_law 913 = .ok (.iadd, 1) := by decide +kernel
theorem dL_law_914 : decode cL_law 914 = .ok (.iaload, 1) := by decide +kernel
theorem dL_law_915 : decode cL_law 915 = .ok (.aload_n 0, 1) := by decide +kernel
theorem dL_law_916 : decode cL_law 916 = .ok (.iload_n 3, 1) := by decide +kernel
theorem dL_law_917 : decode cL_law 917 = .ok (.iconst 3, 1) := by decide +kernel
theorem dL_law_918 : decode cL_law 918 = .ok (.iadd, 1) := by decide +kernel
theorem dL_law_919 : decode cL_law 919 = .ok (.iaload, 1) := by decide +kernel
theorem dL_law_920 : decode cL_law 920 = .ok (.invokevirtual 103, 3) := by decide +kernel
theorem dL_law_923 : decode cL_law 923 = .ok (.aload_n 2, 1) := by decide +kernel
theorem dL_law_924 : decode cL_law 924 = .ok (.aload_n 0, 1) := by decide +kernel
theorem dL_law_925 : decode cL_law 925 = .ok (.iload_n 3, 1) := by decide +kernel
theorem dL_law_926 : decode cL_law 926 = .ok (.iconst 1, 1) := by decide +kernel
theorem dL_law_927 : decode cL_law 927 = .ok (.iadd, 1) := by decide +kernel
theorem dL_law_928 : decode cL_law 928 = .ok (.iaload, 1) := by decide +kernel
theorem dL_law_929 : decode cL_law 929 = .ok (.aload_n 0, 1) := by decide +kernel
theorem dL_law_930 : decode cL_law 930 = .ok (.iload_n 3, 1) := by decide +kernel
theorem dL_law_931 : decode cL_law 931 = .ok (.iconst 2, 1) := by decide +kernel
theorem dL_law_932 : decode cL_law 932 = .ok (.iadd, 1) := by decide +kernel
theorem dL_law_933 : decode cL_law 933 = .ok (.iaload, 1) := by decide +kernel
theorem dL_law_934 : decode cL_law 934 = .ok (.aload_n 0, 1) := by decide +kernel
theorem dL_law_935 : decode cL_law 935 = .ok (.iload_n 3, 1) := by decide +kernel
theorem dL_law_936 : decode cL_law 936 = .ok (.iconst 3, 1) := by decide +kernel
theorem dL_law_937 : decode cL_law 937 = .ok (.iadd, 1) := by decide +kernel
theorem dL_law_938 : decode cL_law 938 = .ok (.iaload, 1) := by decide +kernel
theorem dL_law_939 : decode cL_law 939 = .ok (.invokevirtual 106, 3) := by decide +kernel
theorem dL_law_942 : decode cL_law 942 = .ok (.if_icmp .eq 160, 3) := by decide +kernel
theorem dL_law_945 : decode cL_law 945 = .ok (.iconst 0, 1) := by decide +kernel
theorem dL_law_946 : decode cL_law 946 = .ok (.ireturn, 1) := by decide +kernel
theorem dL_law_947 : decode cL_law 947 = .ok (.aload_n 1, 1) := by decide +kernel
theorem dL_law_948 : decode cL_law 948 = .ok (.aload_n 0, 1) := by decide +kernel
theorem dL_law_949 : decode cL_law 949 = .ok (.iload_n 3, 1) := by decide +kernel
theorem dL_law_950 : decode cL_law 950 = .ok (.iconst 1, 1) := by decide +kernel
theorem dL_law_951 : decode cL_law 951 = .ok (.iadd, 1) := by decide +kernel
theorem dL_law_952 : decode cL_law 952 = .ok (.iaload, 1) := by decide +kernel
theorem dL_law_953 : decode cL_law 953 = .ok (.aload_n 0, 1) := by decide +kernel
theorem dL_law_954 : decode cL_law 954 = .ok (.iload_n 3, 1) := by decide +kernel
theorem dL_law_955 : decode cL_law 955 = .ok (.iconst 2, 1) := by decide +kernel
theorem dL_law_956 : decode cL_law 956 = .ok (.iadd, 1) := by decide +kernel
theorem dL_law_957 : decode cL_law 957 = .ok (.iaload, 1) := by decide +kernel
theorem dL_law_958 : decode cL_law 958 = .ok (.aload_n 0, 1) := by decide +kernel
theorem dL_law_959 : decode cL_law 959 = .ok (.iload_n 3, 1) := by decide +kernel
theorem dL_law_960 : decode cL_law 960 = .ok (.iconst 3, 1) := by decide +kernel
theorem dL_law_961 : decode cL_law 961 = .ok (.iadd, 1) := by decide +kernel
theorem dL_law_962 : decode cL_law 962 = .ok (.iaload, 1) := by decide +kernel
theorem dL_law_963 : decode cL_law 963 = .ok (.aload_n 0, 1) := by decide +kernel
theorem dL_law_964 : decode cL_law 964 = .ok (.iload_n 3, 1) := by decide +kernel
theorem dL_law_965 : decode cL_law 965 = .ok (.iconst 4, 1) := by decide +kernel
theorem dL_law_966 : decode cL_law 966 = .ok (.iadd, 1) := by decide +kernel
theorem dL_law_967 : decode cL_law 967 = .ok (.iaload, 1) := by decide +kernel
theorem dL_law_968 : decode cL_law 968 = .ok (.invokevirtual 107, 3) := by decide +kernel
theorem dL_law_971 : decode cL_law 971 = .ok (.aload_n 2, 1) := by decide +kernel
theorem dL_law_972 : decode cL_law 972 = .ok (.aload_n 0, 1) := by decide +kernel
theorem dL_law_973 : decode cL_law 973 = .ok (.iload_n 3, 1) := by decide +kernel
theorem dL_law_974 : decode cL_law 974 = .ok (.iconst 1, 1) := by decide +kernel
theorem dL_law_975 : decode cL_law 975 = .ok (.iadd, 1) := by decide +kernel
theorem dL_law_976 : decode cL_law 976 = .ok (.iaload, 1) := by decide +kernel
theorem dL_law_977 : decode cL_law 977 = .ok (.aload_n 0, 1) := by decide +kernel
theorem dL_law_978 : decode cL_law 978 = .ok (.iload_n 3, 1) := by decide +kernel
theorem dL_law_979 : decode cL_law 979 = .ok (.iconst 2, 1) := by decide +kernel
theorem dL_law_980 : decode cL_law 980 = .ok (.iadd, 1) := by decide +kernel
theorem dL_law_981 : decode cL_law 981 = .ok (.iaload, 1) := by decide +kernel
theorem dL_law_982 : decode cL_law 982 = .ok (.aload_n 0, 1) := by decide +kernel
theorem dL_law_983 : decode cL_law 983 = .ok (.iload_n 3, 1) := by decide +kernel
theorem dL_law_984 : decode cL_law 984 = .ok (.iconst 3, 1) := by decide +kernel
theorem dL_law_985 : decode cL_law 985 = .ok (.iadd, 1) := by decide +kernel
theorem dL_law_986 : decode cL_law 986 = .ok (.iaload, 1) := by decide +kernel
theorem dL_law_987 : decode cL_law 987 = .ok (.aload_n 0, 1) := by decide +kernel
theorem dL_law_988 : decode cL_law 988 = .ok (.iload_n 3, 1) := by decide +kernel
theorem dL_law_989 : decode cL_law 989 = .ok (.iconst 4, 1) := by decide +kernel
theorem dL_law_990 : decode cL_law 990 = .ok (.iadd, 1) := by decide +kernel
theorem dL_law_991 : decode cL_law 991 = .ok (.iaload, 1) := by decide +kernel
theorem dL_law_992 : decode cL_law 992 = .ok (.invokevirtual 111, 3) := by decide +kernel
theorem dL_law_995 : decode cL_law 995 = .ok (.if_icmp .eq 107, 3) := by decide +kernel
theorem dL_law_998 : decode cL_law 998 = .ok (.iconst 0, 1) := by decide +kernel
theorem dL_law_999 : decode cL_law 999 = .ok (.ireturn, 1) := by decide +kernel
theorem dL_law_1000 : decode cL_law 1000 = .ok (.aload_n 1, 1) := by decide +kernel
theorem dL_law_1001 : decode cL_law 1001 = .ok (.aload_n 0, 1) := by decide +kernel
theorem dL_law_1002 : decode cL_law 1002 = .ok (.iload_n 3, 1) := by decide +kernel
theorem dL_law_1003 : decode cL_law 1003 = .ok (.iconst 1, 1) := by decide +kernel
theorem dL_law_1004 : decode cL_law 1004 = .ok (.iadd, 1) := by decide +kernel
theorem dL_law_1005 : decode cL_law 1005 = .ok (.iaload, 1) := by decide +kernel
theorem dL_law_1006 : decode cL_law 1006 = .ok (.aload_n 0, 1) := by decide +kernel
theorem dL_law_1007 : decode cL_law 1007 = .ok (.iload_n 3, 1) := by decide +kernel
theorem dL_law_1008 : decode cL_law 1008 = .ok (.iconst 2, 1) := by decide +kernel
theorem dL_law_1009 : decode cL_law 1009 = .ok (.iadd, 1) := by decide +kernel
theorem dL_law_1010 : decode cL_law 1010 = .ok (.iaload, 1) := by decide +kernel
theorem dL_law_1011 : decode cL_law 1011 = .ok (.aload_n 0, 1) := by decide +kernel
theorem dL_law_1012 : decode cL_law 1012 = .ok (.iload_n 3, 1) := by decide +kernel
theorem dL_law_1013 : decode cL_law 1013 = .ok (.iconst 3, 1) := by decide +kernel
theorem dL_law_1014 : decode cL_law 1014 = .ok (.iadd, 1) := by decide +kernel
theorem dL_law_1015 : decode cL_law 1015 = .ok (.iaload, 1) := by decide +kernel
theorem dL_law_1016 : decode cL_law 1016 = .ok (.aload_n 0, 1) := by decide +kernel
theorem dL_law_1017 : decode cL_law 1017 = .ok (.iload_n 3, 1) := by decide +kernel
theorem dL_law_1018 : decode cL_law 1018 = .ok (.iconst 4, 1) := by decide +kernel
theorem dL_law_1019 : decode cL_law 1019 = .ok (.iadd, 1) := by decide +kernel
theorem dL_law_1020 : decode cL_law 1020 = .ok (.iaload, 1) := by decide +kernel
theorem dL_law_1021 : decode cL_law 1021 = .ok (.invokevirtual 112, 3) := by decide +kernel
theorem dL_law_1024 : decode cL_law 1024 = .ok (.aload_n 2, 1) := by decide +kernel
theorem dL_law_1025 : decode cL_law 1025 = .ok (.aload_n 0, 1) := by decide +kernel
theorem dL_law_1026 : decode cL_law 1026 = .ok (.iload_n 3, 1) := by decide +kernel
theorem dL_law_1027 : decode cL_law 1027 = .ok (.iconst 1, 1) := by decide +kernel
theorem dL_law_1028 : decode cL_law 1028 = .ok (.iadd, 1) := by decide +kernel
theorem dL_law_1029 : decode cL_law 1029 = .ok (.iaload, 1) := by decide +kernel
theorem dL_law_1030 : decode cL_law 1030 = .ok (.aload_n 0, 1) := by decide +kernel
theorem dL_law_1031 : decode cL_law 1031 = .ok (.iload_n 3, 1) := by decide +kernel
theorem dL_law_1032 : decode cL_law 1032 = .ok (.iconst 2, 1) := by decide +kernel
theorem dL_law_1033 : decode cL_law 1033 = .ok (.iadd, 1) := by decide +kernel
theorem dL_law_1034 : decode cL_law 1034 = .ok (.iaload, 1) := by decide +kernel
theorem dL_law_1035 : decode cL_law 1035 = .ok (.aload_n 0, 1) := by decide +kernel
theorem dL_law_1036 : decode cL_law 1036 = .ok (.iload_n 3, 1) := by decide +kernel
theorem dL_law_1037 : decode cL_law 1037 = .ok (.iconst 3, 1) := by decide +kernel
theorem dL_law_1038 : decode cL_law 1038 = .ok (.iadd, 1) := by decide +kernel
theorem dL_law_1039 : decode cL_law 1039 = .ok (.iaload, 1) := by decide +kernel
theorem dL_law_1040 : decode cL_law 1040 = .ok (.aload_n 0, 1) := by decide +kernel
theorem dL_law_1041 : decode cL_law 1041 = .ok (.iload_n 3, 1) := by decide +kernel
theorem dL_law_1042 : decode cL_law 1042 = .ok (.iconst 4, 1) := by decide +kernel
theorem dL_law_1043 : decode cL_law 1043 = .ok (.iadd, 1) := by decide +kernel
theorem dL_law_1044 : decode cL_law 1044 = .ok (.iaload, 1) := by decide +kernel
theorem dL_law_1045 : decode cL_law 1045 = .ok (.invokevirtual 115, 3) := by decide +kernel
theorem dL_law_1048 : decode cL_law 1048 = .ok (.if_icmp .eq 54, 3) := by decide +kernel
theorem dL_law_1051 : decode cL_law 1051 = .ok (.iconst 0, 1) := by decide +kernel
theorem dL_law_1052 : decode cL_law 1052 = .ok (.ireturn, 1) := by decide +kernel
theorem dL_law_1053 : decode cL_law 1053 = .ok (.aload_n 1, 1) := by decide +kernel
theorem dL_law_1054 : decode cL_law 1054 = .ok (.invokevirtual 116, 3) := by decide +kernel
theorem dL_law_1057 : decode cL_law 1057 = .ok (.aload_n 2, 1) := by decide +kernel
theorem dL_law_1058 : decode cL_law 1058 = .ok (.invokevirtual 119, 3) := by decide +kernel
theorem dL_law_1061 : decode cL_law 1061 = .ok (.if_icmp .eq 41, 3) := by decide +kernel
theorem dL_law_1064 : decode cL_law 1064 = .ok (.iconst 0, 1) := by decide +kernel
theorem dL_law_1065 : decode cL_law 1065 = .ok (.ireturn, 1) := by decide +kernel
theorem dL_law_1066 : decode cL_law 1066 = .ok (.aload_n 1, 1) := by decide +kernel
theorem dL_law_1067 : decode cL_law 1067 = .ok (.invokevirtual 120, 3) := by decide +kernel
theorem dL_law_1070 : decode cL_law 1070 = .ok (.aload_n 2, 1) := by decide +kernel
theorem dL_law_1071 : decode cL_law 1071 = .ok (.invokevirtual 123, 3) := by decide +kernel
theorem dL_law_1074 : decode cL_law 1074 = .ok (.if_icmp .eq 28, 3) := by decide +kernel
theorem dL_law_1077 : decode cL_law 1077 = .ok (.iconst 0, 1) := by decide +kernel
theorem dL_law_1078 : decode cL_law 1078 = .ok (.ireturn, 1) := by decide +kernel
theorem dL_law_1079 : decode cL_law 1079 = .ok (.aload_n 1, 1) := by decide +kernel
theorem dL_law_1080 : decode cL_law 1080 = .ok (.aload_n 0, 1) := by decide +kernel
theorem dL_law_1081 : decode cL_law 1081 = .ok (.iload_n 3, 1) := by decide +kernel
theorem dL_law_1082 : decode cL_law 1082 = .ok (.iconst 1, 1) := by decide +kernel
theorem dL_law_1083 : decode cL_law 1083 = .ok (.iadd, 1) := by decide +kernel
theorem dL_law_1084 : decode cL_law 1084 = .ok (.iaload, 1) := by decide +kernel
theorem dL_law_1085 : decode cL_law 1085 = .ok (.invokevirtual 124, 3) := by decide +kernel
theorem dL_law_1088 : decode cL_law 1088 = .ok (.aload_n 2, 1) := by decide +kernel
theorem dL_law_1089 : decode cL_law 1089 = .ok (.aload_n 0, 1) := by decide +kernel
theorem dL_law_1090 : decode cL_law 1090 = .ok (.iload_n 3, 1) := by decide +kernel
theorem dL_law_1091 : decode cL_law 1091 = .ok (.iconst 1, 1) := by decide +kernel
theorem dL_law_1092 : decode cL_law 1092 = .ok (.iadd, 1) := by decide +kernel
theorem dL_law_1093 : decode cL_law 1093 = .ok (.iaload, 1) := by decide +kernel
theorem dL_law_1094 : decode cL_law 1094 = .ok (.invokevirtual 127, 3) := by decide +kernel
theorem dL_law_1097 : decode cL_law 1097 = .ok (.if_icmp .eq 5, 3) := by decide +kernel
theorem dL_law_1100 : decode cL_law 1100 = .ok (.iconst 0, 1) := by decide +kernel
theorem dL_law_1101 : decode cL_law 1101 = .ok (.ireturn, 1) := by decide +kernel
theorem dL_law_1102 : decode cL_law 1102 = .ok (.iinc 3 7, 3) := by decide +kernel
theorem dL_law_1105 : decode cL_law 1105 = .ok (.goto (-1087), 3) := by decide +kernel
theorem dL_law_1108 : decode cL_law 1108 = .ok (.iconst 1, 1) := by decide +kernel
theorem dL_law_1109 : decode cL_law 1109 = .ok (.ireturn, 1) := by decide +kernel
end
section
/-! THE LAYER OVER THE KIT: a world of numbered cells (ad: number to address; cf: what a cell is, by its number and its row of ints), the judgement GW (any heap that holds the world of memory M, any locals array that holds the listed values), contracts gx_M* over memories. -/
theorem gx_inU1 {w : Cond} (i : Nat) (h : lw_tbl[i]? = some w) (hg : goodWord w = true) : w ∈ lw_tbl.filter goodWord := List.mem_filter.mpr ⟨List.mem_of_getElem? h, hg⟩
/-- the words that every method takes -/
def gx_U : List Cond := lw_tbl.filter goodWord
theorem gx_in {w : Cond} (i : Nat) (h : lw_tbl[i]? = some w) (hg : goodWord w = true) : w ∈ gx_U := gx_inU1 i h hg
theorem gx_good {w : Cond} (h : w ∈ gx_U) : (w.onTables && w.keeps) = true ∨ ∃ ty, w = .arrayClass ty := good_of_word (List.mem_filter.mp h).2
theorem gx_ins (ws : List Cond) (ps : List Nat) (hp : ws = ps.filterMap (fun i => lw_tbl[i]?)) (h : ws.all goodWord = true) : ∀ w ∈ ws, w ∈ gx_U := by
  intro w hw
  have h1 := List.all_eq_true.mp h w hw
  rw [hp] at hw
  obtain ⟨i, -, hi⟩ := List.mem_filterMap.mp hw
  exact List.mem_filter.mpr ⟨List.mem_of_getElem? hi, h1⟩
abbrev gx_M : Type := Nat → Nat → Int32
def gx_up (M : gx_M) (o j : Nat) (x : Int32) : gx_M := fun q => if q = o then upd (M o) j x else M q
/-- the machine that runs a method: program, launch, environment, room, state at the entry, method, arguments, frames below, method, code -/
abbrev gx_X : Type := Program × Launch × Env × Room × State × MethodId × Array Value × List Frame × Method × Code
/-- a side's world: class numbers and slots, array classes, addresses, cells, how many -/
abbrev gx_V : Type := va_G × List (ClassId × FieldType) × (Nat → Nat) × (Nat → (Nat → Int32) → va_E) × Nat
/-- what both sides share: addresses of the text constants and their bytes, of GAINS -/
abbrev gx_D : Type := (Nat → Nat) × (Nat → Nat) × Nat
abbrev gx_l (x : gx_X) : Launch := x.2.1
abbrev gx_R (x : gx_X) : Room := x.2.2.2.1
abbrev gx_s (x : gx_X) : State := x.2.2.2.2.1
abbrev gx_m (x : gx_X) : MethodId := x.2.2.2.2.2.1
abbrev gx_a (x : gx_X) : Array Value := x.2.2.2.2.2.2.1
abbrev gx_me (x : gx_X) : Method := x.2.2.2.2.2.2.2.2.1
abbrev gx_c (x : gx_X) : Code := x.2.2.2.2.2.2.2.2.2
abbrev gx_tys (w : gx_V) : List (ClassId × FieldType) := w.2.1
abbrev gx_ad (w : gx_V) : Nat → Nat := w.2.2.1
abbrev gx_cf (w : gx_V) : Nat → (Nat → Int32) → va_E := w.2.2.2.1
abbrev gx_N (w : gx_V) : Nat := w.2.2.2.2
def gx_w (w : gx_V) (M : gx_M) : va_W := (List.range (gx_N w)).map (fun k => (gx_ad w k, gx_cf w k (M k)))
def gx_A (w : gx_V) (sz : Nat) : Nat → Prop := fun q => (∃ k, k < gx_N w ∧ q = gx_ad w k) ∨ sz ≤ q
def gx_inj (w : gx_V) : Prop := ∀ i j, i < gx_N w → j < gx_N w → gx_ad w i = gx_ad w j → i = j
theorem gx_at {w : gx_V} {M : gx_M} {k : Nat} (h : k < gx_N w) : (gx_w w M)[k]? = some (gx_ad w k, gx_cf w k (M k)) := by
  simp [gx_w, List.getElem?_map, List.getElem?_range h]
theorem gx_len {w : gx_V} {M : gx_M} : (gx_w w M).length = gx_N w := by simp [gx_w]
theorem gx_setr {w : gx_V} {M : gx_M} {k : Nat} (h : k < gx_N w) (r : Nat → Int32) : (gx_w w M).set k (gx_ad w k, gx_cf w k r) = gx_w w (fun q => if q = k then r else M q) := by
  apply List.ext_getElem?
  intro i
  by_cases hi : i < gx_N w
  · by_cases hk : k = i
    · subst hk
      rw [List.getElem?_set_self (by rw [gx_len]; exact h), gx_at h]
      simp
    · rw [List.getElem?_set_ne hk, gx_at hi, gx_at hi, if_neg (Ne.symm hk)]
  · rw [List.getElem?_eq_none (by rw [List.length_set, gx_len]; omega), List.getElem?_eq_none (by rw [gx_len]; omega)]
theorem gx_set {w : gx_V} {M : gx_M} {k j : Nat} {x : Int32} (h : k < gx_N w) : (gx_w w M).set k (gx_ad w k, gx_cf w k (upd (M k) j x)) = gx_w w (gx_up M k j x) := gx_setr h _
theorem gx_Dw {w : gx_V} {M : gx_M} (hi : gx_inj w) (sz : Nat) : va_D (gx_A w sz) (gx_w w M) := by
  have key : ∀ (k : Nat) (q : Nat × va_E), (gx_w w M)[k]? = some q → k < gx_N w ∧ q.1 = gx_ad w k := by
    intro k q hk
    have hl : k < gx_N w := by
      have := (List.getElem?_eq_some_iff.mp hk).1
      rwa [gx_len] at this
    rw [gx_at hl] at hk
    cases hk
    exact ⟨hl, rfl⟩
  refine ⟨fun i j p q hp hq hpq => ?_, fun k q hk => ?_⟩
  · obtain ⟨h1, h2⟩ := key i p hp
    obtain ⟨h3, h4⟩ := key j q hq
    exact hi i j h1 h3 (by rw [← h2, ← h4, hpq])
  · obtain ⟨h1, h2⟩ := key k q hk
    exact Or.inl ⟨k, h1, h2⟩
theorem gx_Asub {w : gx_V} {sz sz' : Nat} (h : sz ≤ sz') {q : Nat} (hq : gx_A w sz' q) : gx_A w sz q := hq.elim Or.inl (fun h1 => Or.inr (Nat.le_trans h h1))
-- the constants that methods read
def gx_sx : List (Nat × String) := [(68, "hold"), (74, "begin"), (76, "or"), (78, "and"), (80, "not"), (85, "now"), (87, "ahead"), (89, "other"), (91, "tick"), (93, "line"), (95, "sweeps"), (97, "since")]
def gx_sl : List Nat := [4, 5, 2, 3, 3, 3, 5, 5, 4, 4, 6, 5]
def gx_sb : List (List Int32) := [[104, 111, 108, 100], [98, 101, 103, 105, 110], [111, 114], [97, 110, 100], [110, 111, 116], [110, 111, 119], [97, 104, 101, 97, 100], [111, 116, 104, 101, 114], [116, 105, 99, 107], [108, 105, 110, 101], [115, 119, 101, 101, 112, 115], [115, 105, 110, 99, 101]]
def gx_gains : Nat → Int32 := fun j => [(1 : Int32), 2, 5, 10, 20, 50, 100, 200].getD j 0
def gx_nest : List (String × Nat × MethodName × String) := [("GreenLine$Signal", 22, yX10_within, "GreenLine"), ("GreenLine$Beam", 77, yX10_isChannel, "GreenLine"), ("GreenLine$Beam", 81, yX10_within, "GreenLine"), ("GreenLine$Scanner", 107, yX10_within, "GreenLine"), ("GreenLine$Reader", 110, yX10_within, "GreenLine"), ("GreenLine$Screen", 15, yX10_within, "GreenLine")]
def gx_F (d : gx_D) (A : Nat → Prop) (U : State) (H : Heap) : Prop :=
  (∀ q ∈ gx_nest, va_Nw (.methodLinkNest q.1 q.2.1 q.2.2.1 q.2.2.2) U) ∧
  va_Z "java/lang/String" "COMPACT_STRINGS" "Z" (.int 1) A U H ∧
  va_Zq "jdk/internal/util/Preconditions" "SIOOBE_FORMATTER" "Ljava/util/function/BiFunction;" A U H ∧
  va_Z "GreenLine" "GAINS" "[I" (.ref d.2.2) A U H ∧
  va_T .int d.2.2 8 (fun j => .int (gx_gains j)) A U H ∧
  (∀ i : Nat, i < 12 → vk_R "GreenLine$Scanner" ((gx_sx.getD i (0, "")).1) ((gx_sx.getD i (0, "")).2) (d.1 i) U) ∧
  vk_S 12 gx_sl gx_sb d.1 d.2.1 A U H
theorem gx_F.kept {d : gx_D} {A : Nat → Prop} {U : State} {H H1 : Heap} (h : gx_F d A U H) (hq : ∀ a : Nat, a < H.size → ¬ A a → H1[a]? = H[a]?) : gx_F d A U H1 :=
  ⟨h.1, h.2.1.kept hq, h.2.2.1.kept hq, h.2.2.2.1.kept hq, h.2.2.2.2.1.kept hq, h.2.2.2.2.2.1, h.2.2.2.2.2.2.kept hq⟩
theorem gx_F.narrow {d : gx_D} {A B : Nat → Prop} {U : State} {H : Heap} (h : gx_F d A U H) (hAB : ∀ q, B q → A q) : gx_F d B U H :=
  ⟨h.1, h.2.1.narrow hAB, h.2.2.1.narrow hAB, h.2.2.2.1.narrow hAB, h.2.2.2.2.1.narrow hAB, h.2.2.2.2.2.1, h.2.2.2.2.2.2.narrow hAB⟩
theorem gx_F.warm {d : gx_D} {A : Nat → Prop} {s U : State} {H : Heap} (hW : s.WarmedH U.vm) (h : gx_F d A s H) : gx_F d A U H :=
  ⟨fun q hq => va_Nw.warmM hW (h.1 q hq), h.2.1.moved hW.alike, h.2.2.1.moved hW.alike, h.2.2.2.1.moved hW.alike, h.2.2.2.2.1.moved hW.alike, fun i hi => vk_R.warm hW (h.2.2.2.2.2.1 i hi), h.2.2.2.2.2.2.moved hW.alike⟩
theorem gx_F.same {d : gx_D} {A : Nat → Prop} {u U : State} {H : Heap} (hv : U.vm = u.vm) (h : gx_F d A u H) : gx_F d A U H := by
  have ha : u.vm.Alike U.vm := by rw [hv]; exact Vm.Alike.refl u.vm
  exact ⟨fun q hq => va_Nw.same rfl hv.symm (h.1 q hq), h.2.1.moved ha, h.2.2.1.moved ha, h.2.2.2.1.moved ha, h.2.2.2.2.1.moved ha, fun i hi => vk_R.same hv (h.2.2.2.2.2.1 i hi), h.2.2.2.2.2.2.moved ha⟩
-- what holds all along a method's body
def gx_C (x : gx_X) (d : gx_D) (w : gx_V) (cc : ByteArray) (nL : Nat) (own : String) : Prop :=
  CallFix x.1 (gx_m x) (gx_c x) cc nL (gx_s x) (gx_a x) gx_U own ∧ (gx_me x).locks = false ∧ va_K w.1 vwCl (gx_tys w) (gx_s x) ∧ gx_F d (gx_A w (gx_s x).heap.size) (gx_s x) (gx_s x).heap ∧ gx_inj w
abbrev gx_QT : Type := Array Value → State → Outcome → State → Prop
def GW (x : gx_X) (w : gx_V) (nL : Nat) (Qc : gx_QT) (M : gx_M) (pc : Nat) (lv : List (Nat × Value)) (st : List Value) : Prop :=
  ∀ (H : Heap) (locs : List Loc) (ls : Array Slot), va_P w.1 vwCl (gx_w w M) H → va_S (gx_A w (gx_s x).heap.size) (gx_s x).heap H locs → lv_has ls nL lv →
    W x.1 (gx_l x) x.2.2.1 (gx_R x) (gx_s x) (gx_m x) (gx_a x) x.2.2.2.2.2.2.2.1 (gx_me x) (gx_c x) H locs 0 0 (MQ x.2.2.2.2.2.2.2.1 Qc (gx_a x) (gx_s x) 0 0 (gx_A w (gx_s x).heap.size)) (F0 (gx_m x) pc ls st)
-- contracts
def gx_Pc (d : gx_D) (w : gx_V) (av : List Value) (M : gx_M) (sz : Nat) : Array Value → State → Prop :=
  va_Pc av (fun U => U.heap.size = sz ∧ va_P w.1 vwCl (gx_w w M) U.heap ∧ va_K w.1 vwCl (gx_tys w) U ∧ gx_F d (gx_A w sz) U U.heap ∧ gx_inj w)
def gx_Qi (w : gx_V) (Q : Int32 → gx_M → Prop) (sz : Nat) : gx_QT := va_Qi (S := gx_M) Q (fun M t => va_P w.1 vwCl (gx_w w M) t.heap) (gx_A w sz)
def gx_Ql (w : gx_V) (Q : Int64 → gx_M → Prop) (sz : Nat) : gx_QT := va_Ql (S := gx_M) Q (fun M t => va_P w.1 vwCl (gx_w w M) t.heap) (gx_A w sz)
def gx_Qv (w : gx_V) (Q : gx_M → Prop) (sz : Nat) : gx_QT := va_Qv (S := gx_M) Q (fun M t => va_P w.1 vwCl (gx_w w M) t.heap) (gx_A w sz)
def gx_Qr (w : gx_V) (Q : Nat → gx_M → Prop) (sz : Nat) : gx_QT := va_Qr (S := Nat × gx_M) (fun u => Q u.1 u.2) (fun u a t => a = gx_ad w u.1 ∧ va_P w.1 vwCl (gx_w w u.2) t.heap) (gx_A w sz)
def gx_Mi (l : Launch) (d : gx_D) (w : gx_V) (y : MethodName) (b : ByteArray) (nL : Nat) (rt : FieldType) (rm : Room) (av : List Value) (M : gx_M) (Q : Int32 → gx_M → Prop) : Prop := ∀ sz : Nat, Met l y (.code y b nL (some rt) :: gx_U) rm (gx_Pc d w av M sz) (gx_Qi w Q sz) 0 0 (gx_A w sz)
def gx_Ml (l : Launch) (d : gx_D) (w : gx_V) (y : MethodName) (b : ByteArray) (nL : Nat) (rt : FieldType) (rm : Room) (av : List Value) (M : gx_M) (Q : Int64 → gx_M → Prop) : Prop := ∀ sz : Nat, Met l y (.code y b nL (some rt) :: gx_U) rm (gx_Pc d w av M sz) (gx_Ql w Q sz) 0 0 (gx_A w sz)
def gx_Mv (l : Launch) (d : gx_D) (w : gx_V) (y : MethodName) (b : ByteArray) (nL : Nat) (rm : Room) (av : List Value) (M : gx_M) (Q : gx_M → Prop) : Prop := ∀ sz : Nat, Met l y (.code y b nL none :: gx_U) rm (gx_Pc d w av M sz) (gx_Qv w Q sz) 0 0 (gx_A w sz)
def gx_Mr (l : Launch) (d : gx_D) (w : gx_V) (y : MethodName) (b : ByteArray) (nL : Nat) (rt : FieldType) (rm : Room) (av : List Value) (M : gx_M) (Q : Nat → gx_M → Prop) : Prop := ∀ sz : Nat, Met l y (.code y b nL (some rt) :: gx_U) rm (gx_Pc d w av M sz) (gx_Qr w Q sz) 0 0 (gx_A w sz)
/-- a method's contract out of a walk of its body -/
theorem gx_of {l : Launch} {d : gx_D} {w : gx_V} {y : MethodName} {b : ByteArray} {nL : Nat} {ret : Option FieldType} {rm : Room} {av : List Value} {M : gx_M} {own : String} {Qc : gx_QT} {sz : Nat} (hy : plainName y.cls = true) (ho : own = y.cls) (hlen : (lg_sl av).length ≤ nL)
    (body : ∀ x : gx_X, gx_C x d w b nL own → gx_l x = l → gx_R x = rm → (gx_s x).heap.size = sz → (gx_me x).sig.returnType = ret → GW x w nL Qc M 0 (lv_args 0 av) []) (hcells : rm = { rm with cells := 0, slots := 0 }) : Met l y (.code y b nL ret :: gx_U) rm (gx_Pc d w av M sz) Qc 0 0 (gx_A w sz) := by
  refine Met.ofW (cc := b) (maxL := nL) (ret := ret) hy rfl ?_
  intro p e s m args below meth c s₁ B hml hv
  obtain ⟨rfl, hsz, hP, hK, hF, hI⟩ := hv
  have hts := atoms_spec (ws := .code y b nL ret :: gx_U) B.pre
  have hown : s.vm.findClass own = some m.cls := by rw [ho]; exact findClass_of_methodNamed B.named
  subst hsz
  rw [lg_entry_eq]
  exact body (p, l, e, rm, s, m, av.toArray, below, meth, c) ⟨⟨B.exec, B.bytes, hml, hown, fun w h => hts w (List.mem_cons_of_mem _ h)⟩, B.notSynchronized, hK, hF, hI⟩ rfl rfl rfl B.returns s.heap [] _ hP va_S.rf (lv_entry av hlen)
end
section
section GWR
variable {z : gx_X} {d : gx_D} {w : gx_V} {cc : ByteArray} {nL : Nat} {own : String} {Qc : gx_QT} {M : gx_M} {pc : Nat} {lv : List (Nat × Value)} {rest : List Value}
theorem gw_iconst (hC : gx_C z d w cc nL own) {n : Int} {v : Int32} (hdg : decode cc pc = .ok (.iconst n, 1)) (hv : Int32.ofInt n = v) (k : GW z w nL Qc M (pc + 1) lv (.int v :: rest)) : GW z w nL Qc M pc lv ((rest)) := fun H locs ls hP hS hL => lv_iconst hC.1.1 hC.1.2.1 hdg hv (k H locs ls hP hS hL)
theorem gw_bipush (hC : gx_C z d w cc nL own) {n : Int} {v : Int32} (hdg : decode cc pc = .ok (.bipush n, 2)) (hv : (Int8.ofInt n).toInt32 = v) (k : GW z w nL Qc M (pc + 2) lv (.int v :: rest)) : GW z w nL Qc M pc lv ((rest)) := fun H locs ls hP hS hL => lv_bipush hC.1.1 hC.1.2.1 hdg hv (k H locs ls hP hS hL)
theorem gw_sipush (hC : gx_C z d w cc nL own) {n : Int} {v : Int32} (hdg : decode cc pc = .ok (.sipush n, 3)) (hv : (Int16.ofInt n).toInt32 = v) (k : GW z w nL Qc M (pc + 3) lv (.int v :: rest)) : GW z w nL Qc M pc lv ((rest)) := fun H locs ls hP hS hL => lv_sipush hC.1.1 hC.1.2.1 hdg hv (k H locs ls hP hS hL)
theorem gw_lconst (hC : gx_C z d w cc nL own) {n : Fin 2} {v : Int64} (hdg : decode cc pc = .ok (.lconst n, 1)) (hv : Int64.ofNat (n : Nat) = v) (k : GW z w nL Qc M (pc + 1) lv (.long v :: rest)) : GW z w nL Qc M pc lv ((rest)) := fun H locs ls hP hS hL => lv_lconst hC.1.1 hC.1.2.1 hdg hv (k H locs ls hP hS hL)
theorem gw_iload_n (hC : gx_C z d w cc nL own) {k0 : Fin 4} {i : Nat} {x : Int32} (hdg : decode cc pc = .ok (.iload_n k0, 1)) (hi : (k0 : Nat) = i) (kx : Nat) (hl : lv[kx]? = some (i, .int x)) (k : GW z w nL Qc M (pc + 1) lv (.int x :: rest)) : GW z w nL Qc M pc lv ((rest)) := fun H locs ls hP hS hL => lv_iload_n hC.1.1 hC.1.2.1 hdg hi (lv_at hL kx hl) (k H locs ls hP hS hL)
theorem gw_iload (hC : gx_C z d w cc nL own) {i : Nat} {x : Int32} (hdg : decode cc pc = .ok (.iload i, 2)) (kx : Nat) (hl : lv[kx]? = some (i, .int x)) (k : GW z w nL Qc M (pc + 2) lv (.int x :: rest)) : GW z w nL Qc M pc lv ((rest)) := fun H locs ls hP hS hL => lv_iload hC.1.1 hC.1.2.1 hdg (lv_at hL kx hl) (k H locs ls hP hS hL)
theorem gw_lload_n (hC : gx_C z d w cc nL own) {k0 : Fin 4} {i : Nat} {x : Int64} (hdg : decode cc pc = .ok (.lload_n k0, 1)) (hi : (k0 : Nat) = i) (kx : Nat) (hl : lv[kx]? = some (i, .long x)) (k : GW z w nL Qc M (pc + 1) lv (.long x :: rest)) : GW z w nL Qc M pc lv ((rest)) := fun H locs ls hP hS hL => lv_lload_n hC.1.1 hC.1.2.1 hdg hi (lv_at hL kx hl) (k H locs ls hP hS hL)
theorem gw_lload (hC : gx_C z d w cc nL own) {i : Nat} {x : Int64} (hdg : decode cc pc = .ok (.lload i, 2)) (kx : Nat) (hl : lv[kx]? = some (i, .long x)) (k : GW z w nL Qc M (pc + 2) lv (.long x :: rest)) : GW z w nL Qc M pc lv ((rest)) := fun H locs ls hP hS hL => lv_lload hC.1.1 hC.1.2.1 hdg (lv_at hL kx hl) (k H locs ls hP hS hL)
theorem gw_aload_n (hC : gx_C z d w cc nL own) {k0 : Fin 4} {i : Nat} {x : Nat} (hdg : decode cc pc = .ok (.aload_n k0, 1)) (hi : (k0 : Nat) = i) (kx : Nat) (hl : lv[kx]? = some (i, .ref x)) (k : GW z w nL Qc M (pc + 1) lv (.ref x :: rest)) : GW z w nL Qc M pc lv ((rest)) := fun H locs ls hP hS hL => lv_aload_n hC.1.1 hC.1.2.1 hdg hi (lv_at hL kx hl) (k H locs ls hP hS hL)
theorem gw_aload (hC : gx_C z d w cc nL own) {i : Nat} {x : Nat} (hdg : decode cc pc = .ok (.aload i, 2)) (kx : Nat) (hl : lv[kx]? = some (i, .ref x)) (k : GW z w nL Qc M (pc + 2) lv (.ref x :: rest)) : GW z w nL Qc M pc lv ((rest)) := fun H locs ls hP hS hL => lv_aload hC.1.1 hC.1.2.1 hdg (lv_at hL kx hl) (k H locs ls hP hS hL)
theorem gw_istore_n (hC : gx_C z d w cc nL own) {k0 : Fin 4} {i  : Nat} {x : Int32} {lv' : List (Nat × Value)} (hdg : decode cc pc = .ok (.istore_n k0, 1)) (hi : (k0 : Nat) = i) (hn : i < nL) (hl : (i, Value.int x) :: lv.filter (fun q => !(q.1 == i) && !(q.1 + 1 == i && q.2.category == 2)) = lv') (k : GW z w nL Qc M (pc + 1) lv' (rest)) : GW z w nL Qc M pc lv ((.int x :: rest)) := fun H locs ls hP hS hL => lv_istore_n hC.1.1 hC.1.2.1 hdg hi hL hn hl (fun ls' hl' => k H locs ls' hP hS hl')
theorem gw_istore (hC : gx_C z d w cc nL own) {i  : Nat} {x : Int32} {lv' : List (Nat × Value)} (hdg : decode cc pc = .ok (.istore i, 2)) (hn : i < nL) (hl : (i, Value.int x) :: lv.filter (fun q => !(q.1 == i) && !(q.1 + 1 == i && q.2.category == 2)) = lv') (k : GW z w nL Qc M (pc + 2) lv' (rest)) : GW z w nL Qc M pc lv ((.int x :: rest)) := fun H locs ls hP hS hL => lv_istore hC.1.1 hC.1.2.1 hdg hL hn hl (fun ls' hl' => k H locs ls' hP hS hl')
theorem gw_lstore_n (hC : gx_C z d w cc nL own) {k0 : Fin 4} {i  : Nat} {x : Int64} {lv' : List (Nat × Value)} (hdg : decode cc pc = .ok (.lstore_n k0, 1)) (hi : (k0 : Nat) = i) (hn : i + 1 < nL) (hl : (i, Value.long x) :: lv.filter (fun q => !(q.1 == i) && (!(q.1 == i + 1) && !(q.1 + 1 == i && q.2.category == 2))) = lv') (k : GW z w nL Qc M (pc + 1) lv' (rest)) : GW z w nL Qc M pc lv ((.long x :: rest)) := fun H locs ls hP hS hL => lv_lstore_n hC.1.1 hC.1.2.1 hdg hi hL hn hl (fun ls' hl' => k H locs ls' hP hS hl')
theorem gw_lstore (hC : gx_C z d w cc nL own) {i  : Nat} {x : Int64} {lv' : List (Nat × Value)} (hdg : decode cc pc = .ok (.lstore i, 2)) (hn : i + 1 < nL) (hl : (i, Value.long x) :: lv.filter (fun q => !(q.1 == i) && (!(q.1 == i + 1) && !(q.1 + 1 == i && q.2.category == 2))) = lv') (k : GW z w nL Qc M (pc + 2) lv' (rest)) : GW z w nL Qc M pc lv ((.long x :: rest)) := fun H locs ls hP hS hL => lv_lstore hC.1.1 hC.1.2.1 hdg hL hn hl (fun ls' hl' => k H locs ls' hP hS hl')
theorem gw_astore_n (hC : gx_C z d w cc nL own) {k0 : Fin 4} {i  : Nat} {x : Nat} {lv' : List (Nat × Value)} (hdg : decode cc pc = .ok (.astore_n k0, 1)) (hi : (k0 : Nat) = i) (hn : i < nL) (hl : (i, Value.ref x) :: lv.filter (fun q => !(q.1 == i) && !(q.1 + 1 == i && q.2.category == 2)) = lv') (k : GW z w nL Qc M (pc + 1) lv' (rest)) : GW z w nL Qc M pc lv ((.ref x :: rest)) := fun H locs ls hP hS hL => lv_astore_n hC.1.1 hC.1.2.1 hdg hi hL hn hl (fun ls' hl' => k H locs ls' hP hS hl')
theorem gw_astore (hC : gx_C z d w cc nL own) {i  : Nat} {x : Nat} {lv' : List (Nat × Value)} (hdg : decode cc pc = .ok (.astore i, 2)) (hn : i < nL) (hl : (i, Value.ref x) :: lv.filter (fun q => !(q.1 == i) && !(q.1 + 1 == i && q.2.category == 2)) = lv') (k : GW z w nL Qc M (pc + 2) lv' (rest)) : GW z w nL Qc M pc lv ((.ref x :: rest)) := fun H locs ls hP hS hL => lv_astore hC.1.1 hC.1.2.1 hdg hL hn hl (fun ls' hl' => k H locs ls' hP hS hl')
theorem gw_iinc (hC : gx_C z d w cc nL own) {i  k : Nat} {n : Int} {x v : Int32} {lv' : List (Nat × Value)} (hdg : decode cc pc = .ok (.iinc i n, 3)) (hk : lv[k]? = some (i, .int x)) (hv : x + Int32.ofInt n = v) (hn : i < nL) (hl : (i, Value.int v) :: lv.filter (fun q => !(q.1 == i) && !(q.1 + 1 == i && q.2.category == 2)) = lv') (k : GW z w nL Qc M (pc + 3) lv' (rest)) : GW z w nL Qc M pc lv (rest) := fun H locs ls hP hS hL => lv_iinc hC.1.1 hC.1.2.1 hdg hL hk hv hn hl (fun ls' hl' => k H locs ls' hP hS hl')
theorem gw_iadd (hC : gx_C z d w cc nL own) {x y : Int32} (hdg : decode cc pc = .ok (.iadd, 1)) (k : GW z w nL Qc M (pc + 1) lv (.int (x + y) :: rest)) : GW z w nL Qc M pc lv ((.int y :: .int x :: rest)) := fun H locs ls hP hS hL => lv_iadd hC.1.1 hC.1.2.1 hdg (k H locs ls hP hS hL)
theorem gw_isub (hC : gx_C z d w cc nL own) {x y : Int32} (hdg : decode cc pc = .ok (.isub, 1)) (k : GW z w nL Qc M (pc + 1) lv (.int (x - y) :: rest)) : GW z w nL Qc M pc lv ((.int y :: .int x :: rest)) := fun H locs ls hP hS hL => lv_isub hC.1.1 hC.1.2.1 hdg (k H locs ls hP hS hL)
theorem gw_imul (hC : gx_C z d w cc nL own) {x y : Int32} (hdg : decode cc pc = .ok (.imul, 1)) (k : GW z w nL Qc M (pc + 1) lv (.int (x * y) :: rest)) : GW z w nL Qc M pc lv ((.int y :: .int x :: rest)) := fun H locs ls hP hS hL => lv_imul hC.1.1 hC.1.2.1 hdg (k H locs ls hP hS hL)
theorem gw_iand (hC : gx_C z d w cc nL own) {x y : Int32} (hdg : decode cc pc = .ok (.iand, 1)) (k : GW z w nL Qc M (pc + 1) lv (.int (x &&& y) :: rest)) : GW z w nL Qc M pc lv ((.int y :: .int x :: rest)) := fun H locs ls hP hS hL => lv_iand hC.1.1 hC.1.2.1 hdg (k H locs ls hP hS hL)
theorem gw_ior (hC : gx_C z d w cc nL own) {x y : Int32} (hdg : decode cc pc = .ok (.ior, 1)) (k : GW z w nL Qc M (pc + 1) lv (.int (x ||| y) :: rest)) : GW z w nL Qc M pc lv ((.int y :: .int x :: rest)) := fun H locs ls hP hS hL => lv_ior hC.1.1 hC.1.2.1 hdg (k H locs ls hP hS hL)
theorem gw_ixor (hC : gx_C z d w cc nL own) {x y : Int32} (hdg : decode cc pc = .ok (.ixor, 1)) (k : GW z w nL Qc M (pc + 1) lv (.int (x ^^^ y) :: rest)) : GW z w nL Qc M pc lv ((.int y :: .int x :: rest)) := fun H locs ls hP hS hL => lv_ixor hC.1.1 hC.1.2.1 hdg (k H locs ls hP hS hL)
theorem gw_idiv (hC : gx_C z d w cc nL own) {x y : Int32} (hdg : decode cc pc = .ok (.idiv, 1)) (hne : ¬ y = 0) (k : GW z w nL Qc M (pc + 1) lv (.int (x / y) :: rest)) : GW z w nL Qc M pc lv ((.int y :: .int x :: rest)) := fun H locs ls hP hS hL => lv_idiv hC.1.1 hC.1.2.1 hdg hne (k H locs ls hP hS hL)
theorem gw_irem (hC : gx_C z d w cc nL own) {x y : Int32} (hdg : decode cc pc = .ok (.irem, 1)) (hne : ¬ y = 0) (k : GW z w nL Qc M (pc + 1) lv (.int (x - x / y * y) :: rest)) : GW z w nL Qc M pc lv ((.int y :: .int x :: rest)) := fun H locs ls hP hS hL => lv_irem hC.1.1 hC.1.2.1 hdg hne (k H locs ls hP hS hL)
theorem gw_ineg (hC : gx_C z d w cc nL own) {x : Int32} (hdg : decode cc pc = .ok (.ineg, 1)) (k : GW z w nL Qc M (pc + 1) lv (.int (-x) :: rest)) : GW z w nL Qc M pc lv ((.int x :: rest)) := fun H locs ls hP hS hL => lv_ineg hC.1.1 hC.1.2.1 hdg (k H locs ls hP hS hL)
theorem gw_ladd (hC : gx_C z d w cc nL own) {x y : Int64} (hdg : decode cc pc = .ok (.ladd, 1)) (k : GW z w nL Qc M (pc + 1) lv (.long (x + y) :: rest)) : GW z w nL Qc M pc lv ((.long y :: .long x :: rest)) := fun H locs ls hP hS hL => lv_ladd hC.1.1 hC.1.2.1 hdg (k H locs ls hP hS hL)
theorem gw_lsub (hC : gx_C z d w cc nL own) {x y : Int64} (hdg : decode cc pc = .ok (.lsub, 1)) (k : GW z w nL Qc M (pc + 1) lv (.long (x - y) :: rest)) : GW z w nL Qc M pc lv ((.long y :: .long x :: rest)) := fun H locs ls hP hS hL => lv_lsub hC.1.1 hC.1.2.1 hdg (k H locs ls hP hS hL)
theorem gw_lmul (hC : gx_C z d w cc nL own) {x y : Int64} (hdg : decode cc pc = .ok (.lmul, 1)) (k : GW z w nL Qc M (pc + 1) lv (.long (x * y) :: rest)) : GW z w nL Qc M pc lv ((.long y :: .long x :: rest)) := fun H locs ls hP hS hL => lv_lmul hC.1.1 hC.1.2.1 hdg (k H locs ls hP hS hL)
theorem gw_land (hC : gx_C z d w cc nL own) {x y : Int64} (hdg : decode cc pc = .ok (.land, 1)) (k : GW z w nL Qc M (pc + 1) lv (.long (x &&& y) :: rest)) : GW z w nL Qc M pc lv ((.long y :: .long x :: rest)) := fun H locs ls hP hS hL => lv_land hC.1.1 hC.1.2.1 hdg (k H locs ls hP hS hL)
theorem gw_lor (hC : gx_C z d w cc nL own) {x y : Int64} (hdg : decode cc pc = .ok (.lor, 1)) (k : GW z w nL Qc M (pc + 1) lv (.long (x ||| y) :: rest)) : GW z w nL Qc M pc lv ((.long y :: .long x :: rest)) := fun H locs ls hP hS hL => lv_lor hC.1.1 hC.1.2.1 hdg (k H locs ls hP hS hL)
theorem gw_ldiv (hC : gx_C z d w cc nL own) {x y : Int64} (hdg : decode cc pc = .ok (.ldiv, 1)) (hne : ¬ y = 0) (k : GW z w nL Qc M (pc + 1) lv (.long (x / y) :: rest)) : GW z w nL Qc M pc lv ((.long y :: .long x :: rest)) := fun H locs ls hP hS hL => lv_ldiv hC.1.1 hC.1.2.1 hdg hne (k H locs ls hP hS hL)
theorem gw_lneg (hC : gx_C z d w cc nL own) {x : Int64} (hdg : decode cc pc = .ok (.lneg, 1)) (k : GW z w nL Qc M (pc + 1) lv (.long (-x) :: rest)) : GW z w nL Qc M pc lv ((.long x :: rest)) := fun H locs ls hP hS hL => lv_lneg hC.1.1 hC.1.2.1 hdg (k H locs ls hP hS hL)
theorem gw_ishl (hC : gx_C z d w cc nL own) {x y : Int32} (hdg : decode cc pc = .ok (.ishl, 1)) (k : GW z w nL Qc M (pc + 1) lv (.int (x <<< (y &&& 31)) :: rest)) : GW z w nL Qc M pc lv ((.int y :: .int x :: rest)) := fun H locs ls hP hS hL => lv_ishl hC.1.1 hC.1.2.1 hdg (k H locs ls hP hS hL)
theorem gw_ishr (hC : gx_C z d w cc nL own) {x y : Int32} (hdg : decode cc pc = .ok (.ishr, 1)) (k : GW z w nL Qc M (pc + 1) lv (.int (x >>> (y &&& 31)) :: rest)) : GW z w nL Qc M pc lv ((.int y :: .int x :: rest)) := fun H locs ls hP hS hL => lv_ishr hC.1.1 hC.1.2.1 hdg (k H locs ls hP hS hL)
theorem gw_iushr (hC : gx_C z d w cc nL own) {x y v : Int32} (hdg : decode cc pc = .ok (.iushr, 1)) (hv : (x.toUInt32 >>> (y.toUInt32 &&& Int32.toUInt32 31)).toInt32 = v) (k : GW z w nL Qc M (pc + 1) lv (.int v :: rest)) : GW z w nL Qc M pc lv ((.int y :: .int x :: rest)) := fun H locs ls hP hS hL => lv_iushr hC.1.1 hC.1.2.1 hdg hv (k H locs ls hP hS hL)
theorem gw_i2l (hC : gx_C z d w cc nL own) {x : Int32} {v : Int64} (hdg : decode cc pc = .ok (.i2l, 1)) (hv : x.toInt64 = v) (k : GW z w nL Qc M (pc + 1) lv (.long v :: rest)) : GW z w nL Qc M pc lv ((.int x :: rest)) := fun H locs ls hP hS hL => lv_i2l hC.1.1 hC.1.2.1 hdg hv (k H locs ls hP hS hL)
theorem gw_l2i (hC : gx_C z d w cc nL own) {x : Int64} {v : Int32} (hdg : decode cc pc = .ok (.l2i, 1)) (hv : x.toInt32 = v) (k : GW z w nL Qc M (pc + 1) lv (.int v :: rest)) : GW z w nL Qc M pc lv ((.long x :: rest)) := fun H locs ls hP hS hL => lv_l2i hC.1.1 hC.1.2.1 hdg hv (k H locs ls hP hS hL)
theorem gw_i2b (hC : gx_C z d w cc nL own) {x : Int32} {v : Int32} (hdg : decode cc pc = .ok (.i2b, 1)) (hv : x.toInt8.toInt32 = v) (k : GW z w nL Qc M (pc + 1) lv (.int v :: rest)) : GW z w nL Qc M pc lv ((.int x :: rest)) := fun H locs ls hP hS hL => lv_i2b hC.1.1 hC.1.2.1 hdg hv (k H locs ls hP hS hL)
theorem gw_dup (hC : gx_C z d w cc nL own) {va : Value} (hdg : decode cc pc = .ok (.dup, 1)) (hva : va.category = 1) (k : GW z w nL Qc M (pc + 1) lv (va :: va :: rest)) : GW z w nL Qc M pc lv ((va :: rest)) := fun H locs ls hP hS hL => lv_dup hC.1.1 hC.1.2.1 hdg hva (k H locs ls hP hS hL)
theorem gw_dup2_11 (hC : gx_C z d w cc nL own) {va vb : Value} (hdg : decode cc pc = .ok (.dup2, 1)) (hva : va.category = 1) (hvb : vb.category = 1) (k : GW z w nL Qc M (pc + 1) lv (va :: vb :: va :: vb :: rest)) : GW z w nL Qc M pc lv ((va :: vb :: rest)) := fun H locs ls hP hS hL => lv_dup2_11 hC.1.1 hC.1.2.1 hdg hva hvb (k H locs ls hP hS hL)
theorem gw_pop (hC : gx_C z d w cc nL own) {va : Value} (hdg : decode cc pc = .ok (.pop, 1)) (hva : va.category = 1) (k : GW z w nL Qc M (pc + 1) lv (rest)) : GW z w nL Qc M pc lv ((va :: rest)) := fun H locs ls hP hS hL => lv_pop hC.1.1 hC.1.2.1 hdg hva (k H locs ls hP hS hL)
theorem gw_if_eq (hC : gx_C z d w cc nL own) {x : Int32} {off : Int} {tgt : Nat} (hdg : decode cc pc = .ok (.ifCond .eq off, 3)) (ht : (pc : Int) + off = (tgt : Int)) (kt : x = 0 → GW z w nL Qc M tgt lv (rest)) (kf : ¬ x = 0 → GW z w nL Qc M (pc + 3) lv (rest)) : GW z w nL Qc M pc lv ((.int x :: rest)) := fun H locs ls hP hS hL => lv_if_eq hC.1.1 hC.1.2.1 hdg ht (fun hc => kt hc H locs ls hP hS hL) (fun hc => kf hc H locs ls hP hS hL)
theorem gw_icmp_eq (hC : gx_C z d w cc nL own) {x y : Int32} {off : Int} {tgt : Nat} (hdg : decode cc pc = .ok (.if_icmp .eq off, 3)) (ht : (pc : Int) + off = (tgt : Int)) (kt : x = y → GW z w nL Qc M tgt lv (rest)) (kf : ¬ x = y → GW z w nL Qc M (pc + 3) lv (rest)) : GW z w nL Qc M pc lv ((.int y :: .int x :: rest)) := fun H locs ls hP hS hL => lv_icmp_eq hC.1.1 hC.1.2.1 hdg ht (fun hc => kt hc H locs ls hP hS hL) (fun hc => kf hc H locs ls hP hS hL)
theorem gw_if_ne (hC : gx_C z d w cc nL own) {x : Int32} {off : Int} {tgt : Nat} (hdg : decode cc pc = .ok (.ifCond .ne off, 3)) (ht : (pc : Int) + off = (tgt : Int)) (kt : ¬ x = 0 → GW z w nL Qc M tgt lv (rest)) (kf : x = 0 → GW z w nL Qc M (pc + 3) lv (rest)) : GW z w nL Qc M pc lv ((.int x :: rest)) := fun H locs ls hP hS hL => lv_if_ne hC.1.1 hC.1.2.1 hdg ht (fun hc => kt hc H locs ls hP hS hL) (fun hc => kf hc H locs ls hP hS hL)
theorem gw_icmp_ne (hC : gx_C z d w cc nL own) {x y : Int32} {off : Int} {tgt : Nat} (hdg : decode cc pc = .ok (.if_icmp .ne off, 3)) (ht : (pc : Int) + off = (tgt : Int)) (kt : ¬ x = y → GW z w nL Qc M tgt lv (rest)) (kf : x = y → GW z w nL Qc M (pc + 3) lv (rest)) : GW z w nL Qc M pc lv ((.int y :: .int x :: rest)) := fun H locs ls hP hS hL => lv_icmp_ne hC.1.1 hC.1.2.1 hdg ht (fun hc => kt hc H locs ls hP hS hL) (fun hc => kf hc H locs ls hP hS hL)
theorem gw_if_lt (hC : gx_C z d w cc nL own) {x : Int32} {off : Int} {tgt : Nat} (hdg : decode cc pc = .ok (.ifCond .lt off, 3)) (ht : (pc : Int) + off = (tgt : Int)) (kt : x < 0 → GW z w nL Qc M tgt lv (rest)) (kf : ¬ x < 0 → GW z w nL Qc M (pc + 3) lv (rest)) : GW z w nL Qc M pc lv ((.int x :: rest)) := fun H locs ls hP hS hL => lv_if_lt hC.1.1 hC.1.2.1 hdg ht (fun hc => kt hc H locs ls hP hS hL) (fun hc => kf hc H locs ls hP hS hL)
theorem gw_icmp_lt (hC : gx_C z d w cc nL own) {x y : Int32} {off : Int} {tgt : Nat} (hdg : decode cc pc = .ok (.if_icmp .lt off, 3)) (ht : (pc : Int) + off = (tgt : Int)) (kt : x < y → GW z w nL Qc M tgt lv (rest)) (kf : ¬ x < y → GW z w nL Qc M (pc + 3) lv (rest)) : GW z w nL Qc M pc lv ((.int y :: .int x :: rest)) := fun H locs ls hP hS hL => lv_icmp_lt hC.1.1 hC.1.2.1 hdg ht (fun hc => kt hc H locs ls hP hS hL) (fun hc => kf hc H locs ls hP hS hL)
theorem gw_if_ge (hC : gx_C z d w cc nL own) {x : Int32} {off : Int} {tgt : Nat} (hdg : decode cc pc = .ok (.ifCond .ge off, 3)) (ht : (pc : Int) + off = (tgt : Int)) (kt : 0 ≤ x → GW z w nL Qc M tgt lv (rest)) (kf : ¬ 0 ≤ x → GW z w nL Qc M (pc + 3) lv (rest)) : GW z w nL Qc M pc lv ((.int x :: rest)) := fun H locs ls hP hS hL => lv_if_ge hC.1.1 hC.1.2.1 hdg ht (fun hc => kt hc H locs ls hP hS hL) (fun hc => kf hc H locs ls hP hS hL)
theorem gw_icmp_ge (hC : gx_C z d w cc nL own) {x y : Int32} {off : Int} {tgt : Nat} (hdg : decode cc pc = .ok (.if_icmp .ge off, 3)) (ht : (pc : Int) + off = (tgt : Int)) (kt : y ≤ x → GW z w nL Qc M tgt lv (rest)) (kf : ¬ y ≤ x → GW z w nL Qc M (pc + 3) lv (rest)) : GW z w nL Qc M pc lv ((.int y :: .int x :: rest)) := fun H locs ls hP hS hL => lv_icmp_ge hC.1.1 hC.1.2.1 hdg ht (fun hc => kt hc H locs ls hP hS hL) (fun hc => kf hc H locs ls hP hS hL)
theorem gw_if_gt (hC : gx_C z d w cc nL own) {x : Int32} {off : Int} {tgt : Nat} (hdg : decode cc pc = .ok (.ifCond .gt off, 3)) (ht : (pc : Int) + off = (tgt : Int)) (kt : 0 < x → GW z w nL Qc M tgt lv (rest)) (kf : ¬ 0 < x → GW z w nL Qc M (pc + 3) lv (rest)) : GW z w nL Qc M pc lv ((.int x :: rest)) := fun H locs ls hP hS hL => lv_if_gt hC.1.1 hC.1.2.1 hdg ht (fun hc => kt hc H locs ls hP hS hL) (fun hc => kf hc H locs ls hP hS hL)
theorem gw_icmp_gt (hC : gx_C z d w cc nL own) {x y : Int32} {off : Int} {tgt : Nat} (hdg : decode cc pc = .ok (.if_icmp .gt off, 3)) (ht : (pc : Int) + off = (tgt : Int)) (kt : y < x → GW z w nL Qc M tgt lv (rest)) (kf : ¬ y < x → GW z w nL Qc M (pc + 3) lv (rest)) : GW z w nL Qc M pc lv ((.int y :: .int x :: rest)) := fun H locs ls hP hS hL => lv_icmp_gt hC.1.1 hC.1.2.1 hdg ht (fun hc => kt hc H locs ls hP hS hL) (fun hc => kf hc H locs ls hP hS hL)
theorem gw_if_le (hC : gx_C z d w cc nL own) {x : Int32} {off : Int} {tgt : Nat} (hdg : decode cc pc = .ok (.ifCond .le off, 3)) (ht : (pc : Int) + off = (tgt : Int)) (kt : x ≤ 0 → GW z w nL Qc M tgt lv (rest)) (kf : ¬ x ≤ 0 → GW z w nL Qc M (pc + 3) lv (rest)) : GW z w nL Qc M pc lv ((.int x :: rest)) := fun H locs ls hP hS hL => lv_if_le hC.1.1 hC.1.2.1 hdg ht (fun hc => kt hc H locs ls hP hS hL) (fun hc => kf hc H locs ls hP hS hL)
theorem gw_icmp_le (hC : gx_C z d w cc nL own) {x y : Int32} {off : Int} {tgt : Nat} (hdg : decode cc pc = .ok (.if_icmp .le off, 3)) (ht : (pc : Int) + off = (tgt : Int)) (kt : x ≤ y → GW z w nL Qc M tgt lv (rest)) (kf : ¬ x ≤ y → GW z w nL Qc M (pc + 3) lv (rest)) : GW z w nL Qc M pc lv ((.int y :: .int x :: rest)) := fun H locs ls hP hS hL => lv_icmp_le hC.1.1 hC.1.2.1 hdg ht (fun hc => kt hc H locs ls hP hS hL) (fun hc => kf hc H locs ls hP hS hL)
theorem gw_goto (hC : gx_C z d w cc nL own) {off : Int} {tgt : Nat} (hdg : decode cc pc = .ok (.goto off, 3)) (ht : (pc : Int) + off = (tgt : Int)) (k : GW z w nL Qc M tgt lv (rest)) : GW z w nL Qc M pc lv (rest) := fun H locs ls hP hS hL => lv_goto hC.1.1 hC.1.2.1 hdg ht (k H locs ls hP hS hL)
theorem gw_tableIn (hC : gx_C z d w cc nL own) {dflt lo hi : Int} {offs : Array Int} {len : Nat} {x : Int32} {off : Int} {tgt : Nat} (hdg : decode cc pc = .ok (.tableswitch dflt lo hi offs, len)) (h1 : ¬ x.toInt < lo) (h2 : ¬ hi < x.toInt) (ho : offs[(x.toInt - lo).toNat]? = some off) (ht : (pc : Int) + off = (tgt : Int)) (k : GW z w nL Qc M tgt lv (rest)) : GW z w nL Qc M pc lv ((.int x :: rest)) := fun H locs ls hP hS hL => lv_tableIn hC.1.1 hC.1.2.1 hdg h1 h2 ho ht (k H locs ls hP hS hL)
theorem gw_tableOut (hC : gx_C z d w cc nL own) {dflt lo hi : Int} {offs : Array Int} {len : Nat} {x : Int32} {tgt : Nat} (hdg : decode cc pc = .ok (.tableswitch dflt lo hi offs, len)) (h : x.toInt < lo ∨ hi < x.toInt) (ht : (pc : Int) + dflt = (tgt : Int)) (k : GW z w nL Qc M tgt lv (rest)) : GW z w nL Qc M pc lv ((.int x :: rest)) := fun H locs ls hP hS hL => lv_tableOut hC.1.1 hC.1.2.1 hdg h ht (k H locs ls hP hS hL)
theorem gw_lookup (hC : gx_C z d w cc nL own) {dflt : Int} {ps : Array (Int × Int)} {len : Nat} {x : Int32} {off : Int} {tgt : Nat} (hdg : decode cc pc = .ok (.lookupswitch dflt ps, len)) (hp : (ps.toList.zip (ps.toList.drop 1)).all (fun (a, next) => a.1 < next.1) = true) (ho : Op.lookupswitch.offset ps.toList dflt x.toInt = off) (ht : (pc : Int) + off = (tgt : Int)) (k : GW z w nL Qc M tgt lv (rest)) : GW z w nL Qc M pc lv ((.int x :: rest)) := fun H locs ls hP hS hL => lv_lookup hC.1.1 hC.1.2.1 hdg hp ho ht (k H locs ls hP hS hL)
theorem gw_ldc (hC : gx_C z d w cc nL own) {index : Nat} {v : Int32} (hconst : Jvm.Cond.constant own index v ∈ gx_U) (hdg : decode cc pc = .ok (.ldc index, 2)) (k : GW z w nL Qc M (pc + 2) lv (.int v :: rest)) : GW z w nL Qc M pc lv (rest) := fun H locs ls hP hS hL => lv_ldc hC.1.1 hC.1.2.1 hC.1.2.2.2.1 (hC.1.2.2.2.2 _ hconst) hdg (k H locs ls hP hS hL)
theorem gw_ldcw (hC : gx_C z d w cc nL own) {index : Nat} {v : Int32} (hconst : Jvm.Cond.constant own index v ∈ gx_U) (hdg : decode cc pc = .ok (.ldc_w index, 3)) (k : GW z w nL Qc M (pc + 3) lv (.int v :: rest)) : GW z w nL Qc M pc lv (rest) := fun H locs ls hP hS hL => lv_ldcw hC.1.1 hC.1.2.1 hC.1.2.2.2.1 (hC.1.2.2.2.2 _ hconst) hdg (k H locs ls hP hS hL)
theorem gw_ldc2 (hC : gx_C z d w cc nL own) {index : Nat} {v : Int64} (hconst : Jvm.Cond.constantLong own index v ∈ gx_U) (hdg : decode cc pc = .ok (.ldc2_w index, 3)) (k : GW z w nL Qc M (pc + 3) lv (.long v :: rest)) : GW z w nL Qc M pc lv (rest) := fun H locs ls hP hS hL => lv_ldc2 hC.1.1 hC.1.2.1 hC.1.2.2.2.1 (hC.1.2.2.2.2 _ hconst) hdg (k H locs ls hP hS hL)
end GWR
end
section
section GWH
variable {z : gx_X} {d : gx_D} {w : gx_V} {cc : ByteArray} {nL : Nat} {own : String} {Qc : gx_QT} {M : gx_M} {pc : Nat} {lv : List (Nat × Value)} {rest st : List Value}
theorem gw_lcmp (hC : gx_C z d w cc nL own) {x y : Int64} (hdg : decode cc pc = .ok (.lcmp, 1)) (k : GW z w nL Qc M (pc + 1) lv (.int (lg_cmp x y) :: rest)) : GW z w nL Qc M pc lv (.long y :: .long x :: rest) := fun H locs ls hP hS hL => W.lcmp hC.1.1 hC.1.2.1 hdg (k H locs ls hP hS hL)
theorem gw_nm {x : Int32} (k : ∀ y : Int32, y = x → GW z w nL Qc M pc lv (.int y :: rest)) : GW z w nL Qc M pc lv (.int x :: rest) := k x rfl
theorem gw_nml {x : Int64} (k : ∀ y : Int64, y = x → GW z w nL Qc M pc lv (.long y :: rest)) : GW z w nL Qc M pc lv (.long x :: rest) := k x rfl
theorem gw_nmM (k : ∀ M' : gx_M, M' = M → GW z w nL Qc M' pc lv st) : GW z w nL Qc M pc lv st := k M rfl
theorem gw_sub {lv' : List (Nat × Value)} (ks : List Nat) (hl : lv_pick lv ks = lv') (k : GW z w nL Qc M pc lv' st) : GW z w nL Qc M pc lv st := fun H locs ls hP hS hL => k H locs ls hP hS (lv_sub hL ks hl)
-- a class as the tables have it; a field of it as a class's code names it
def gx_cl (ci : Nat) (C : String) (T : u_T) (N : Nat) (ty : Nat → FieldType) : Prop := vwCl[ci]? = some (C, T, N) ∧ (∀ c ∈ u_ws C T N, c ∈ gx_U) ∧ (∀ k, k < N → parseFieldDescriptor (T k).2.2.1 = some (ty k)) ∧ ∀ a, a < N → ∀ b, b < N → a ≠ b → (T a).2.1 ≠ (T b).2.1
def gx_fl (own : String) (index : Nat) (T : u_T) (N k : Nat) : Prop := k < N ∧ Cond.fieldLink own index (T k).1 (T k).2.1 (T k).2.2.1 ∈ gx_U
def gx_fp (own : String) (index : Nat) (T : u_T) (N k : Nat) (ty : Nat → FieldType) (t : FieldType) : Prop := gx_fl own index T N k ∧ ty k = t ∧ (T k).2.2.2 = false
theorem gw_get (hC : gx_C z d w cc nL own) {ci N k index o : Nat} {C : String} {T : u_T} {ty : Nat → FieldType} {fs : List Value} {v : Value} (hcl : gx_cl ci C T N ty) (hf : gx_fl own index T N k) (ho : o < gx_N w) (he : gx_cf w o (M o) = .inr (ci, fs)) (hv : fs[k]? = some v) (hdg : decode cc pc = .ok (.getfield index, 3))
    (kk : GW z w nL Qc M (pc + 3) lv (v :: rest)) : GW z w nL Qc M pc lv (.ref (gx_ad w o) :: rest) := fun H locs ls hP hS hL =>
  va_get (cl := vwCl) (ref := (T k).1) hC.1.1 hC.1.2.1 hC.1.2.2.2.2 hcl.2.1 hC.1.2.2.2.1 hC.2.2.1 hP o (by rw [gx_at ho, he]) hcl.1 k hf.1 (hC.1.2.2.2.2 _ hf.2) (fun _ h => h) hv hdg (kk H locs ls hP hS hL)
theorem gw_put (hC : gx_C z d w cc nL own) {ci N k index o : Nat} {C : String} {T : u_T} {ty : Nat → FieldType} {t : FieldType} {fs : List Value} {v : Value} {x : Int32} (hcl : gx_cl ci C T N ty) (hf : gx_fp own index T N k ty t) (ho : o < gx_N w) (he : gx_cf w o (M o) = .inr (ci, fs)) (hs : gx_cf w o (upd (M o) k x) = .inr (ci, fs.set k v)) (hn : narrow t v = v) (hfit : fits t v = true) (hl : k < fs.length) (hdg : decode cc pc = .ok (.putfield index, 3))
    (kk : GW z w nL Qc (gx_up M o k x) (pc + 3) lv rest) : GW z w nL Qc M pc lv (v :: .ref (gx_ad w o) :: rest) := fun H locs ls hP hS hL =>
  va_put (cl := vwCl) (ref := (T k).1) hC.1.1 hC.1.2.1 hC.1.2.2.2.2 hcl.2.1 ty hcl.2.2.1 hcl.2.2.2 hC.1.2.2.2.1 hC.2.2.1 hP (gx_Dw hC.2.2.2.2 _) hS o (by rw [gx_at ho, he]) hcl.1 k hf.1.1 (hC.1.2.2.2.2 _ hf.1.2) (fun _ h => h) hf.2.2 (by rw [hcl.2.2.1 k hf.1.1, hf.2.1]) hn hfit hl hdg
    (fun H1 locs1 hP1 _ hS1 => kk H1 locs1 ls (by rw [← gx_set ho, hs]; exact hP1) hS1 hL)
theorem gw_iald (hC : gx_C z d w cc nL own) {o n t0 : Nat} {cA : ClassId} {f : Nat → Int32} (ho : o < gx_N w) (he : gx_cf w o (M o) = .inl (cA, n, .inl f)) (ht : (gx_tys w)[t0]? = some (cA, .int)) {i : Int32} (hin : vp_in i n) (hdg : decode cc pc = .ok (.iaload, 1))
    (kk : GW z w nL Qc M (pc + 1) lv (.int (f i.toNatClampNeg) :: rest)) : GW z w nL Qc M pc lv (.int i :: .ref (gx_ad w o) :: rest) := fun H locs ls hP hS hL =>
  va_iald (cl := vwCl) hC.1.1 hC.1.2.1 hC.2.2.1 hP o t0 (by rw [gx_at ho, he]) ht hin hdg (kk H locs ls hP hS hL)
theorem gw_bald (hC : gx_C z d w cc nL own) {o n t0 : Nat} {cA : ClassId} {f : Nat → Int32} (ho : o < gx_N w) (he : gx_cf w o (M o) = .inl (cA, n, .inl f)) (ht : (gx_tys w)[t0]? = some (cA, .byte)) {i : Int32} (hin : vp_in i n) (hdg : decode cc pc = .ok (.baload, 1))
    (kk : GW z w nL Qc M (pc + 1) lv (.int (f i.toNatClampNeg) :: rest)) : GW z w nL Qc M pc lv (.int i :: .ref (gx_ad w o) :: rest) := fun H locs ls hP hS hL =>
  va_bald (cl := vwCl) hC.1.1 hC.1.2.1 hC.2.2.1 hP o t0 (by rw [gx_at ho, he]) ht hin hdg (kk H locs ls hP hS hL)
theorem gw_zald (hC : gx_C z d w cc nL own) {o n t0 : Nat} {cA : ClassId} {f : Nat → Int32} (ho : o < gx_N w) (he : gx_cf w o (M o) = .inl (cA, n, .inl f)) (ht : (gx_tys w)[t0]? = some (cA, .boolean)) {i : Int32} (hin : vp_in i n) (hdg : decode cc pc = .ok (.baload, 1))
    (kk : GW z w nL Qc M (pc + 1) lv (.int (f i.toNatClampNeg) :: rest)) : GW z w nL Qc M pc lv (.int i :: .ref (gx_ad w o) :: rest) := fun H locs ls hP hS hL =>
  va_zald (cl := vwCl) hC.1.1 hC.1.2.1 hC.2.2.1 hP o t0 (by rw [gx_at ho, he]) ht hin hdg (kk H locs ls hP hS hL)
theorem gw_lald (hC : gx_C z d w cc nL own) {o n t0 : Nat} {cA : ClassId} {f : Nat → Int64} (ho : o < gx_N w) (he : gx_cf w o (M o) = .inl (cA, n, .inr (.inl f))) (ht : (gx_tys w)[t0]? = some (cA, .long)) {i : Int32} (hin : vp_in i n) (hdg : decode cc pc = .ok (.laload, 1))
    (kk : GW z w nL Qc M (pc + 1) lv (.long (f i.toNatClampNeg) :: rest)) : GW z w nL Qc M pc lv (.int i :: .ref (gx_ad w o) :: rest) := fun H locs ls hP hS hL =>
  va_lald (cl := vwCl) hC.1.1 hC.1.2.1 hC.2.2.1 hP o t0 (by rw [gx_at ho, he]) ht hin hdg (kk H locs ls hP hS hL)
theorem gw_iast (hC : gx_C z d w cc nL own) {o n t0 : Nat} {cA : ClassId} (ho : o < gx_N w) (he : ∀ r : Nat → Int32, gx_cf w o r = .inl (cA, n, .inl r)) (ht : (gx_tys w)[t0]? = some (cA, .int)) {i x : Int32} (hin : vp_in i n) (hdg : decode cc pc = .ok (.iastore, 1))
    (kk : GW z w nL Qc (gx_up M o i.toNatClampNeg x) (pc + 1) lv rest) : GW z w nL Qc M pc lv (.int x :: .int i :: .ref (gx_ad w o) :: rest) := fun H locs ls hP hS hL =>
  va_iast (cl := vwCl) hC.1.1 hC.1.2.1 hC.2.2.1 hP (gx_Dw hC.2.2.2.2 _) hS o t0 (by rw [gx_at ho, he]) ht hin hdg (fun H1 locs1 hP1 _ hS1 => kk H1 locs1 ls (by rw [← gx_set ho, he]; exact hP1) hS1 hL)
theorem gw_bast (hC : gx_C z d w cc nL own) {o n t0 : Nat} {cA : ClassId} (ho : o < gx_N w) (he : ∀ r : Nat → Int32, gx_cf w o r = .inl (cA, n, .inl r)) (ht : (gx_tys w)[t0]? = some (cA, .byte)) {i x : Int32} (hin : vp_in i n) (hdg : decode cc pc = .ok (.bastore, 1))
    (kk : GW z w nL Qc (gx_up M o i.toNatClampNeg (vp_nar .byte x)) (pc + 1) lv rest) : GW z w nL Qc M pc lv (.int x :: .int i :: .ref (gx_ad w o) :: rest) := fun H locs ls hP hS hL =>
  va_bast (cl := vwCl) hC.1.1 hC.1.2.1 hC.2.2.1 hP (gx_Dw hC.2.2.2.2 _) hS o t0 (by rw [gx_at ho, he]) ht hin hdg (fun H1 locs1 hP1 _ hS1 => kk H1 locs1 ls (by rw [← gx_set ho, he]; exact hP1) hS1 hL)
theorem gw_zast (hC : gx_C z d w cc nL own) {o n t0 : Nat} {cA : ClassId} (ho : o < gx_N w) (he : ∀ r : Nat → Int32, gx_cf w o r = .inl (cA, n, .inl r)) (ht : (gx_tys w)[t0]? = some (cA, .boolean)) {i x : Int32} (hin : vp_in i n) (hdg : decode cc pc = .ok (.bastore, 1))
    (kk : GW z w nL Qc (gx_up M o i.toNatClampNeg (vp_nar .boolean x)) (pc + 1) lv rest) : GW z w nL Qc M pc lv (.int x :: .int i :: .ref (gx_ad w o) :: rest) := fun H locs ls hP hS hL =>
  va_zast (cl := vwCl) hC.1.1 hC.1.2.1 hC.2.2.1 hP (gx_Dw hC.2.2.2.2 _) hS o t0 (by rw [gx_at ho, he]) ht hin hdg (fun H1 locs1 hP1 _ hS1 => kk H1 locs1 ls (by rw [← gx_set ho, he]; exact hP1) hS1 hL)
def gx_lg (lo hi : Int32) : Int64 := Int64.ofBitVec (hi.toBitVec ++ lo.toBitVec)
def gx_lo (v : Int64) : Int32 := Int32.ofBitVec (v.toBitVec.extractLsb' 0 32)
def gx_hi (v : Int64) : Int32 := Int32.ofBitVec (v.toBitVec.extractLsb' 32 32)
theorem gx_lg_eq (v : Int64) : gx_lg (gx_lo v) (gx_hi v) = v := by
  apply Int64.toBitVec_inj.mp
  show (v.toBitVec.extractLsb' 32 32 ++ v.toBitVec.extractLsb' 0 32) = v.toBitVec
  apply BitVec.eq_of_getLsbD_eq
  intro i hi
  rw [BitVec.getLsbD_append]
  by_cases h : i < 32
  · simp [h]
  · simp [h, show 32 + (i - 32) = i by omega, show i - 32 < 32 by omega]
def gx_rl (r : Nat → Int32) : Nat → Int64 := fun j => gx_lg (r (2 * j)) (r (2 * j + 1))
def gx_ul (M : gx_M) (o j : Nat) (v : Int64) : gx_M := gx_up (gx_up M o (2 * j) (gx_lo v)) o (2 * j + 1) (gx_hi v)
theorem gx_rl_up (r : Nat → Int32) (j : Nat) (v : Int64) : gx_rl (upd (upd r (2 * j) (gx_lo v)) (2 * j + 1) (gx_hi v)) = vp_updL (gx_rl r) j v := by
  funext k
  unfold gx_rl vp_updL upd
  by_cases h : k = j
  · subst h
    rw [if_neg (by omega), if_pos rfl, if_pos rfl, if_pos rfl, gx_lg_eq]
  · rw [if_neg (by omega), if_neg (by omega), if_neg (by omega), if_neg (by omega), if_neg h]
theorem gx_upup (M : gx_M) (o j k : Nat) (x y : Int32) : gx_up (gx_up M o j x) o k y = (fun q => if q = o then upd (upd (M o) j x) k y else M q) := by
  funext q
  unfold gx_up
  by_cases h : q = o
  · subst h
    simp
  · simp [h]
theorem gw_last (hC : gx_C z d w cc nL own) {o n t0 : Nat} {cA : ClassId} (ho : o < gx_N w) (he : ∀ r : Nat → Int32, gx_cf w o r = .inl (cA, n, .inr (.inl (gx_rl r)))) (ht : (gx_tys w)[t0]? = some (cA, .long)) {i : Int32} {x : Int64} (hin : vp_in i n) (hdg : decode cc pc = .ok (.lastore, 1))
    (kk : GW z w nL Qc (gx_ul M o i.toNatClampNeg x) (pc + 1) lv rest) : GW z w nL Qc M pc lv (.long x :: .int i :: .ref (gx_ad w o) :: rest) := fun H locs ls hP hS hL =>
  va_last (cl := vwCl) hC.1.1 hC.1.2.1 hC.2.2.1 hP (gx_Dw hC.2.2.2.2 _) hS o t0 (by rw [gx_at ho, he]) ht hin hdg (fun H1 locs1 hP1 _ hS1 => kk H1 locs1 ls (by unfold gx_ul; rw [gx_upup, ← gx_setr ho, he, gx_rl_up]; exact hP1) hS1 hL)
theorem gw_alen (hC : gx_C z d w cc nL own) {o t0 : Nat} {cA : ClassId} {x : vp_A} {ty : FieldType} {v : Int32} (ho : o < gx_N w) (he : gx_cf w o (M o) = .inl (cA, x)) (ht : (gx_tys w)[t0]? = some (cA, ty)) (hv : Int32.ofNat x.1 = v) (hdg : decode cc pc = .ok (.arraylength, 1))
    (kk : GW z w nL Qc M (pc + 1) lv (.int v :: rest)) : GW z w nL Qc M pc lv (.ref (gx_ad w o) :: rest) := fun H locs ls hP hS hL =>
  va_alen (cl := vwCl) hC.1.1 hC.1.2.1 hC.2.2.1 hP o t0 (by rw [gx_at ho, he]) ht hv hdg (kk H locs ls hP hS hL)
theorem gw_aald (hC : gx_C z d w cc nL own) {o n t0 : Nat} {cA : ClassId} {ty : FieldType} {f : Nat → Nat} (ho : o < gx_N w) (he : gx_cf w o (M o) = .inl (cA, n, .inr (.inr (.inr (.inr (fun j => some (gx_ad w (f j)))))))) (ht : (gx_tys w)[t0]? = some (cA, ty)) (hty : ty.isReference = true) {i : Int32} (hin : vp_in i n) (hdg : decode cc pc = .ok (.aaload, 1))
    (kk : GW z w nL Qc M (pc + 1) lv (.ref (gx_ad w (f i.toNatClampNeg)) :: rest)) : GW z w nL Qc M pc lv (.int i :: .ref (gx_ad w o) :: rest) := fun H locs ls hP hS hL => by
  have hlt : i.toNatClampNeg < n := Nat.not_le.mp fun q => hin (Or.inr q)
  have ha : (gx_w w M)[o]? = some (gx_ad w o, .inl (cA, n, .inr (.inr (.inr (.inr (fun j => some (gx_ad w (f j)))))))) := by rw [gx_at ho, he]
  exact W.aald (v := va_rf (some (gx_ad w (f i.toNatClampNeg)))) (ty := ty) hC.1.1 hC.1.2.1 (hP o _ ha) ((hC.2.2.1.2 t0 _ ht).1 n (fun j => va_rf (some (gx_ad w (f j))))) hty (fun q => by cases q) (by show ¬ (i < 0 ∨ (arrV _ _ _).slots.size ≤ _); rw [arrV_size]; exact hin) (by show (arrV _ _ _).slots[_]? = _; rw [arrV_read _ _ hlt]) rfl rfl hdg (kk H locs ls hP hS hL)
theorem gw_mmax (hC : gx_C z d w cc nL own) {index : Nat} (hlink : Cond.methodLink own index Lib.Math.max.name ∈ gx_U) (hstat : Cond.static Lib.Math.max.name ∈ gx_U) (hini : Cond.initialized "java/lang/Math" ∈ gx_U) (hcode : Cond.code Lib.Math.max.name Lib.Math.max.code 2 (some .int) ∈ gx_U) (hR : 1 ≤ (gx_R z).frames) (hlo : (rest.map fun v => v.category).sum + 13 ≤ (gx_R z).locals) {x y : Int32} (hdg : decode cc pc = .ok (.invokestatic index, 3))
    (kk : GW z w nL Qc M (pc + 3) lv (.int (if x < y then y else x) :: rest)) : GW z w nL Qc M pc lv (.int y :: .int x :: rest) := fun H locs ls hP hS hL =>
  va_mmax hC.1.1 hC.1.2.1 (hC.1.2.2.1.trans hL.1.symm) hC.1.2.2.2.1 (hC.1.2.2.2.2 _ hlink) (hC.1.2.2.2.2 _ hstat) (hC.1.2.2.2.2 _ hini) (hC.1.2.2.2.2 _ hcode) hR hlo (Nat.zero_le _) (Nat.zero_le _) hdg (kk H locs ls hP hS hL)
theorem gw_mmin (hC : gx_C z d w cc nL own) {index : Nat} (hlink : Cond.methodLink own index Lib.Math.min.name ∈ gx_U) (hstat : Cond.static Lib.Math.min.name ∈ gx_U) (hini : Cond.initialized "java/lang/Math" ∈ gx_U) (hcode : Cond.code Lib.Math.min.name Lib.Math.min.code 2 (some .int) ∈ gx_U) (hR : 1 ≤ (gx_R z).frames) (hlo : (rest.map fun v => v.category).sum + 13 ≤ (gx_R z).locals) {x y : Int32} (hdg : decode cc pc = .ok (.invokestatic index, 3))
    (kk : GW z w nL Qc M (pc + 3) lv (.int (if y < x then y else x) :: rest)) : GW z w nL Qc M pc lv (.int y :: .int x :: rest) := fun H locs ls hP hS hL =>
  va_mmin hC.1.1 hC.1.2.1 (hC.1.2.2.1.trans hL.1.symm) hC.1.2.2.2.1 (hC.1.2.2.2.2 _ hlink) (hC.1.2.2.2.2 _ hstat) (hC.1.2.2.2.2 _ hini) (hC.1.2.2.2.2 _ hcode) hR hlo (Nat.zero_le _) (Nat.zero_le _) hdg (kk H locs ls hP hS hL)
-- returns
theorem gx_Aeq {H : Heap} {locs : List Loc} (hS : va_S (gx_A w (gx_s z).heap.size) (gx_s z).heap H locs) : ∀ q ∈ locs, gx_A w (gx_s z).heap.size q.base := hS.2.2
theorem gw_iret (hC : gx_C z d w cc nL own) {Q : Int32 → gx_M → Prop} {v : Int32} (hr : (gx_me z).sig.returnType = some .int) (hdg : decode cc pc = .ok (.ireturn, 1)) (h : Q v M) : GW z w nL (gx_Qi w Q (gx_s z).heap.size) M pc lv [.int v] := fun H locs ls hP hS hL =>
  W.iret hC.1.1 hC.1.2.1 hr (fun t ht _ => ⟨⟨v, M, rfl, h, by show va_P _ _ _ t.heap; rw [ht]; exact hP⟩, hS.F ht⟩) hS.2.2 hdg hC.2.1
theorem gw_zret (hC : gx_C z d w cc nL own) {Q : Int32 → gx_M → Prop} {v : Int32} {ty : FieldType} (hr : (gx_me z).sig.returnType = some ty) (hn : narrow ty (.int v) = .int v) (hdg : decode cc pc = .ok (.ireturn, 1)) (h : Q v M) : GW z w nL (gx_Qi w Q (gx_s z).heap.size) M pc lv [.int v] := fun H locs ls hP hS hL =>
  W.zret hC.1.1 hC.1.2.1 hr hn (fun t ht _ => ⟨⟨v, M, rfl, h, by show va_P _ _ _ t.heap; rw [ht]; exact hP⟩, hS.F ht⟩) hS.2.2 hdg hC.2.1
theorem gw_lret (hC : gx_C z d w cc nL own) {Q : Int64 → gx_M → Prop} {v : Int64} (hr : (gx_me z).sig.returnType = some .long) (hdg : decode cc pc = .ok (.lreturn, 1)) (h : Q v M) : GW z w nL (gx_Ql w Q (gx_s z).heap.size) M pc lv [.long v] := fun H locs ls hP hS hL =>
  W.lret hC.1.1 hC.1.2.1 hr (fun t ht _ => ⟨⟨v, M, rfl, h, by show va_P _ _ _ t.heap; rw [ht]; exact hP⟩, hS.F ht⟩) hS.2.2 hdg hC.2.1
theorem gw_vret (hC : gx_C z d w cc nL own) {Q : gx_M → Prop} (hr : (gx_me z).sig.returnType = none) (hdg : decode cc pc = .ok (.return_, 1)) (h : Q M) : GW z w nL (gx_Qv w Q (gx_s z).heap.size) M pc lv [] := fun H locs ls hP hS hL =>
  W.vret hC.1.1 hC.1.2.1 hr (fun t ht _ => ⟨⟨M, rfl, h, by show va_P _ _ _ t.heap; rw [ht]; exact hP⟩, hS.F ht⟩) hS.2.2 hdg hC.2.1
theorem gw_aret (hC : gx_C z d w cc nL own) {Q : Nat → gx_M → Prop} {o : Nat} {n : String} (hr : (gx_me z).sig.returnType = some (.object n)) (hdg : decode cc pc = .ok (.areturn, 1)) (h : Q o M) : GW z w nL (gx_Qr w Q (gx_s z).heap.size) M pc lv [.ref (gx_ad w o)] := fun H locs ls hP hS hL =>
  W.aret hC.1.1 hC.1.2.1 hr (Or.inl ⟨n, rfl⟩) (Or.inr ⟨_, rfl⟩) (fun t ht _ => ⟨⟨(o, M), _, rfl, h, rfl, by show va_P _ _ _ t.heap; rw [ht]; exact hP⟩, hS.F ht⟩) hS.2.2 hdg hC.2.1
-- calls
theorem gx_pre (hC : gx_C z d w cc nL own) {av : List Value} {H : Heap} {locs : List Loc} (hP : va_P w.1 vwCl (gx_w w M) H) (hS : va_S (gx_A w (gx_s z).heap.size) (gx_s z).heap H locs) : ∀ U : State, U.heap = H → (gx_s z).WarmedH U.vm → gx_Pc d w av M H.size av.toArray U := fun U hU hW =>
  ⟨rfl, by rw [hU], by rw [hU]; exact hP, va_K.moved hW.alike hC.2.2.1, by rw [hU]; exact ((hC.2.2.2.1.warm hW).kept (fun a h1 h2 => hS.2.1 a h1 h2)).narrow (fun q hq => gx_Asub hS.1 hq), hC.2.2.2.2⟩
theorem gx_blind {av : List Value} {sz : Nat} : FrameBlind (gx_Pc d w av M sz) := fun a U g mk q => by
  obtain ⟨q1, q2, q3, q4, q5, q6⟩ := q
  exact ⟨q1, q2, q3, va_K.moved (u := U) (U := U.calling g mk a) (Vm.Alike.refl U.vm) q4, gx_F.same (u := U) (U := U.calling g mk a) rfl q5, q6⟩
def gx_rm (R rm : Room) (mL : Nat) : Prop := rm.cells = 0 ∧ rm.slots = 0 ∧ rm.frames + 1 ≤ R.frames ∧ 8 + (mL + 11) + rm.locals ≤ R.locals
/-- a call's words: by invokevirtual -/
def gx_cV (own : String) (idx : Nat) (C : String) (y : MethodName) (b : ByteArray) (mL n : Nat) (ret : Option FieldType) : Prop :=
  (Cond.methodLink own idx y ∈ gx_U ∧ Cond.instanceMethod y ∈ gx_U ∧ Cond.selects C y y ∈ gx_U ∧ Cond.initialized C ∈ gx_U ∧ Cond.code y b mL ret ∈ gx_U) ∧ y.cls = C ∧ y.cls ≠ "java/lang/invoke/MethodHandle" ∧ y.cls ≠ "java/lang/invoke/VarHandle" ∧ (parseMethodDescriptor y.desc).map (fun d => d.parameters.length) = some n
/-- by invokestatic -/
def gx_cS (own : String) (idx : Nat) (y : MethodName) (b : ByteArray) (mL n : Nat) (ret : Option FieldType) : Prop :=
  (Cond.methodLink own idx y ∈ gx_U ∧ Cond.static y ∈ gx_U ∧ Cond.initialized y.cls ∈ gx_U ∧ Cond.code y b mL ret ∈ gx_U) ∧ y.cls ≠ "java/lang/invoke/MethodHandle" ∧ y.cls ≠ "java/lang/invoke/VarHandle" ∧ (parseMethodDescriptor y.desc).map (fun d => d.parameters.length) = some n
/-- by invokestatic, of a nest mate's private method -/
def gx_cN (own : String) (idx : Nat) (host : String) (y : MethodName) (b : ByteArray) (mL n : Nat) (ret : Option FieldType) : Prop :=
  ((own, idx, y, host) ∈ gx_nest ∧ Cond.static y ∈ gx_U ∧ Cond.initialized y.cls ∈ gx_U ∧ Cond.code y b mL ret ∈ gx_U) ∧ y.cls ≠ "java/lang/invoke/MethodHandle" ∧ y.cls ≠ "java/lang/invoke/VarHandle" ∧ (parseMethodDescriptor y.desc).map (fun d => d.parameters.length) = some n
theorem gx_gd {c : Cond} (h : c ∈ gx_U) : c ∈ gx_U ∧ ((c.onTables && c.keeps) = true ∨ ∃ ty, c = .arrayClass ty) := ⟨h, gx_good h⟩
theorem gx_gV {idx n mL : Nat} {C : String} {y : MethodName} {b : ByteArray} {ret : Option FieldType} (h : gx_cV own idx C y b mL n ret) : GoodIn gx_U (wsV own idx C y (.code y b mL ret :: gx_U)) := by
  obtain ⟨⟨h1, h2, h3, h4, h5⟩, -⟩ := h
  intro c hc
  unfold wsV at hc
  simp only [List.cons_append, List.nil_append, List.mem_cons] at hc
  rcases hc with rfl | rfl | rfl | rfl | rfl | hc
  · exact gx_gd h1
  · exact gx_gd h2
  · exact gx_gd h3
  · exact gx_gd h4
  · exact gx_gd h5
  · exact gx_gd hc
theorem gx_gS {idx n mL : Nat} {y : MethodName} {b : ByteArray} {ret : Option FieldType} (h : gx_cS own idx y b mL n ret) : GoodIn gx_U (va_wsS own idx y (.code y b mL ret :: gx_U)) := by
  obtain ⟨⟨h1, h2, h3, h5⟩, -⟩ := h
  intro c hc
  unfold va_wsS at hc
  simp only [List.cons_append, List.nil_append, List.mem_cons] at hc
  rcases hc with rfl | rfl | rfl | rfl | hc
  · exact gx_gd h1
  · exact gx_gd h2
  · exact gx_gd h3
  · exact gx_gd h5
  · exact gx_gd hc
theorem gx_gN {idx n mL : Nat} {host : String} {y : MethodName} {b : ByteArray} {ret : Option FieldType} (h : gx_cN own idx host y b mL n ret) : GoodIn gx_U (.code y b mL ret :: gx_U) := by
  intro c hc
  simp only [List.mem_cons] at hc
  rcases hc with rfl | hc
  · exact gx_gd h.1.2.2.2
  · exact gx_gd hc
/-- a receiver: an object of class C -/
def gx_rc (w : gx_V) (M : gx_M) (o : Nat) (C : String) : Prop := o < gx_N w ∧ ∃ (ci : Nat) (fs : List Value) (T : u_T) (N : Nat), gx_cf w o (M o) = .inr (ci, fs) ∧ vwCl[ci]? = some (C, T, N)
theorem gx_recv (hC : gx_C z d w cc nL own) {o : Nat} {C : String} {H : Heap} (h : gx_rc w M o C) (hP : va_P w.1 vwCl (gx_w w M) H) : ∃ cell : Cell, H[gx_ad w o]? = some cell ∧ cell.vm.isStatics = false ∧ (gx_s z).vm.findClass C = some cell.cls := by
  obtain ⟨ho, ci, fs, T, N, h1, h2⟩ := h
  exact va_recv (cl := vwCl) hC.2.2.1 hP h2 (q0 := o) (by rw [gx_at ho, h1])
theorem gx_runV (hC : gx_C z d w cc nL own) {idx n mL o : Nat} {C : String} {y : MethodName} {b : ByteArray} {ret : Option FieldType} {rm : Room} {As : List Value} {Qq : gx_QT} {H : Heap} {locs : List Loc} {ls : Array Slot} (hP : va_P w.1 vwCl (gx_w w M) H) (hS : va_S (gx_A w (gx_s z).heap.size) (gx_s z).heap H locs) (hL : lv_has ls nL lv)
    (hM : Met (gx_l z) y (.code y b mL ret :: gx_U) rm (gx_Pc d w (.ref (gx_ad w o) :: As) M H.size) Qq 0 0 (gx_A w H.size)) (hcv : gx_cV own idx C y b mL n ret) (hrm : gx_rm (gx_R z) rm mL) (hrc : gx_rc w M o C) (hn : As.length = n) (hst : st = As.reverse ++ .ref (gx_ad w o) :: rest) (hcat : (rest.map fun v => v.category).sum ≤ 8) (hdg : decode cc pc = .ok (.invokevirtual idx, 3)) :
    va_Run z.1 (gx_l z) z.2.2.1 (gx_R z) (gx_s z) (gx_m z) (gx_a z) z.2.2.2.2.2.2.2.1 (gx_me z) (gx_c z) H locs 0 0 0 0 (F0 (gx_m z) pc ls st) rest (Qq (Value.ref (gx_ad w o) :: As).toArray) (gx_A w H.size) :=
  va_runV (own := own) (C := C) (bytes := b) (maxL := mL) (ret := ret) hC.1 hM (cwV n hC.1.2.2.2.2 (gx_gV hcv) rfl hrm.1 hrm.2.1 ⟨hcv.2.1, hcv.2.2.1, hcv.2.2.2.1, hcv.2.2.2.2⟩ hrm.2.2) ⟨gx_blind, gx_recv hC hrc hP, gx_pre hC hP hS⟩ rfl hn hL.1 hst (lv_room hcat) hdg ⟨Nat.zero_le _, Nat.zero_le _⟩
theorem gx_runS (hC : gx_C z d w cc nL own) {idx n mL : Nat} {y : MethodName} {b : ByteArray} {ret : Option FieldType} {rm : Room} {As : List Value} {Qq : gx_QT} {H : Heap} {locs : List Loc} {ls : Array Slot} (hP : va_P w.1 vwCl (gx_w w M) H) (hS : va_S (gx_A w (gx_s z).heap.size) (gx_s z).heap H locs) (hL : lv_has ls nL lv)
    (hM : Met (gx_l z) y (.code y b mL ret :: gx_U) rm (gx_Pc d w As M H.size) Qq 0 0 (gx_A w H.size)) (hcv : gx_cS own idx y b mL n ret) (hrm : gx_rm (gx_R z) rm mL) (hn : As.length = n) (hst : st = As.reverse ++ rest) (hcat : (rest.map fun v => v.category).sum ≤ 8) (hdg : decode cc pc = .ok (.invokestatic idx, 3)) :
    va_Run z.1 (gx_l z) z.2.2.1 (gx_R z) (gx_s z) (gx_m z) (gx_a z) z.2.2.2.2.2.2.2.1 (gx_me z) (gx_c z) H locs 0 0 0 0 (F0 (gx_m z) pc ls st) rest (Qq As.toArray) (gx_A w H.size) :=
  va_runS (own := own) (bytes := b) (maxL := mL) (ret := ret) hC.1 hM (va_cwS n hC.1.2.2.2.2 (gx_gS hcv) rfl hrm.1 hrm.2.1 hcv.2 hrm.2.2) ⟨gx_blind, gx_pre hC hP hS⟩ rfl hn hL.1 hst (lv_room hcat) hdg ⟨Nat.zero_le _, Nat.zero_le _⟩
theorem gx_runN (hC : gx_C z d w cc nL own) {idx n mL : Nat} {host : String} {y : MethodName} {b : ByteArray} {ret : Option FieldType} {rm : Room} {As : List Value} {Qq : gx_QT} {H : Heap} {locs : List Loc} {ls : Array Slot} (hP : va_P w.1 vwCl (gx_w w M) H) (hS : va_S (gx_A w (gx_s z).heap.size) (gx_s z).heap H locs) (hL : lv_has ls nL lv)
    (hM : Met (gx_l z) y (.code y b mL ret :: gx_U) rm (gx_Pc d w As M H.size) Qq 0 0 (gx_A w H.size)) (hcv : gx_cN own idx host y b mL n ret) (hrm : gx_rm (gx_R z) rm mL) (hn : As.length = n) (hst : st = As.reverse ++ rest) (hcat : (rest.map fun v => v.category).sum ≤ 8) (hdg : decode cc pc = .ok (.invokestatic idx, 3)) :
    va_Run z.1 (gx_l z) z.2.2.1 (gx_R z) (gx_s z) (gx_m z) (gx_a z) z.2.2.2.2.2.2.2.1 (gx_me z) (gx_c z) H locs 0 0 0 0 (F0 (gx_m z) pc ls st) rest (Qq As.toArray) (gx_A w H.size) :=
  va_runSN (own := own) (host := host) (bytes := b) (maxL := mL) (ret := ret) hC.1 hM ⟨va_cnB n hC.1.2.2.2.2 (gx_gN hcv) rfl hrm.1 hrm.2.1 (hC.2.2.2.1.1 (own, idx, y, host) hcv.1.1) (hC.1.2.2.2.2 _ hcv.1.2.2.1) hcv.2 hrm.2.2, hC.1.2.2.2.2 _ hcv.1.2.1, trivial⟩ ⟨gx_blind, gx_pre hC hP hS⟩ rfl hn hL.1 hst (lv_room hcat) hdg ⟨Nat.zero_le _, Nat.zero_le _⟩
/-- a run of a call is at hand over any heap and locals of the world -/
def gx_Rn (z : gx_X) (w : gx_V) (nL : Nat) (M : gx_M) (pc : Nat) (lv : List (Nat × Value)) (st rest : List Value) (Qq : Nat → gx_QT) : Prop := ∀ (H : Heap) (locs : List Loc) (ls : Array Slot), va_P w.1 vwCl (gx_w w M) H → va_S (gx_A w (gx_s z).heap.size) (gx_s z).heap H locs → lv_has ls nL lv → ∃ a, va_Run z.1 (gx_l z) z.2.2.1 (gx_R z) (gx_s z) (gx_m z) (gx_a z) z.2.2.2.2.2.2.2.1 (gx_me z) (gx_c z) H locs 0 0 0 0 (F0 (gx_m z) pc ls st) rest (Qq H.size a) (gx_A w H.size)
theorem gx_Asz {H : Heap} {locs : List Loc} (hS : va_S (gx_A w (gx_s z).heap.size) (gx_s z).heap H locs) : ∀ q, gx_A w H.size q → gx_A w (gx_s z).heap.size q := fun q hq => gx_Asub hS.1 hq
theorem gw_calli {Q : Int32 → gx_M → Prop} (hr : gx_Rn z w nL M pc lv st rest (fun n => gx_Qi w Q n)) (k : ∀ r M', Q r M' → GW z w nL Qc M' (pc + 3) lv (.int r :: rest)) : GW z w nL Qc M pc lv st := fun H locs ls hP hS hL => by
  obtain ⟨a, ha⟩ := hr H locs ls hP hS hL
  exact va_calli ha hS (fun q _ hq => gx_Asz hS q hq) (gx_Asz hS) (fun r u t H1 locs1 ht _ hw hB _ _ hS1 => k r u hw H1 locs1 ls (by rw [← ht]; exact hB) hS1 hL)
theorem gw_calll {Q : Int64 → gx_M → Prop} (hr : gx_Rn z w nL M pc lv st rest (fun n => gx_Ql w Q n)) (k : ∀ r M', Q r M' → GW z w nL Qc M' (pc + 3) lv (.long r :: rest)) : GW z w nL Qc M pc lv st := fun H locs ls hP hS hL => by
  obtain ⟨a, ha⟩ := hr H locs ls hP hS hL
  exact va_calll ha hS (fun q _ hq => gx_Asz hS q hq) (gx_Asz hS) (fun r u t H1 locs1 ht _ hw hB _ _ hS1 => k r u hw H1 locs1 ls (by rw [← ht]; exact hB) hS1 hL)
theorem gw_callv {Q : gx_M → Prop} (hr : gx_Rn z w nL M pc lv st rest (fun n => gx_Qv w Q n)) (k : ∀ M', Q M' → GW z w nL Qc M' (pc + 3) lv rest) : GW z w nL Qc M pc lv st := fun H locs ls hP hS hL => by
  obtain ⟨a, ha⟩ := hr H locs ls hP hS hL
  exact va_callv ha hS (fun q _ hq => gx_Asz hS q hq) (gx_Asz hS) (fun u t H1 locs1 ht _ hw hB _ _ hS1 => k u hw H1 locs1 ls (by rw [← ht]; exact hB) hS1 hL)
theorem gw_callr {Q : Nat → gx_M → Prop} (hr : gx_Rn z w nL M pc lv st rest (fun n => gx_Qr w Q n)) (k : ∀ o M', Q o M' → GW z w nL Qc M' (pc + 3) lv (.ref (gx_ad w o) :: rest)) : GW z w nL Qc M pc lv st := fun H locs ls hP hS hL => by
  obtain ⟨a, ha⟩ := hr H locs ls hP hS hL
  exact va_callr ha hS (fun q _ hq => gx_Asz hS q hq) (gx_Asz hS) (fun u ra t H1 locs1 ht _ hw hB _ _ hS1 => by rw [hB.1]; exact k u.1 u.2 hw H1 locs1 ls (by rw [← ht]; exact hB.2) hS1 hL)
theorem gx_rV (hC : gx_C z d w cc nL own) {idx n mL o : Nat} {C : String} {y : MethodName} {b : ByteArray} {ret : Option FieldType} {rm : Room} {As : List Value} {Qq : Nat → gx_QT} (hM : ∀ sz, Met (gx_l z) y (.code y b mL ret :: gx_U) rm (gx_Pc d w (.ref (gx_ad w o) :: As) M sz) (Qq sz) 0 0 (gx_A w sz)) (hcv : gx_cV own idx C y b mL n ret) (hrm : gx_rm (gx_R z) rm mL) (hrc : gx_rc w M o C) (hn : As.length = n) (hst : st = As.reverse ++ .ref (gx_ad w o) :: rest) (hcat : (rest.map fun v => v.category).sum ≤ 8) (hdg : decode cc pc = .ok (.invokevirtual idx, 3)) : gx_Rn z w nL M pc lv st rest Qq :=
  fun H locs ls hP hS hL => ⟨_, gx_runV hC hP hS hL (hM H.size) hcv hrm hrc hn hst hcat hdg⟩
theorem gx_rS (hC : gx_C z d w cc nL own) {idx n mL : Nat} {y : MethodName} {b : ByteArray} {ret : Option FieldType} {rm : Room} {As : List Value} {Qq : Nat → gx_QT} (hM : ∀ sz, Met (gx_l z) y (.code y b mL ret :: gx_U) rm (gx_Pc d w As M sz) (Qq sz) 0 0 (gx_A w sz)) (hcv : gx_cS own idx y b mL n ret) (hrm : gx_rm (gx_R z) rm mL) (hn : As.length = n) (hst : st = As.reverse ++ rest) (hcat : (rest.map fun v => v.category).sum ≤ 8) (hdg : decode cc pc = .ok (.invokestatic idx, 3)) : gx_Rn z w nL M pc lv st rest Qq :=
  fun H locs ls hP hS hL => ⟨_, gx_runS hC hP hS hL (hM H.size) hcv hrm hn hst hcat hdg⟩
theorem gx_rN (hC : gx_C z d w cc nL own) {idx n mL : Nat} {host : String} {y : MethodName} {b : ByteArray} {ret : Option FieldType} {rm : Room} {As : List Value} {Qq : Nat → gx_QT} (hM : ∀ sz, Met (gx_l z) y (.code y b mL ret :: gx_U) rm (gx_Pc d w As M sz) (Qq sz) 0 0 (gx_A w sz)) (hcv : gx_cN own idx host y b mL n ret) (hrm : gx_rm (gx_R z) rm mL) (hn : As.length = n) (hst : st = As.reverse ++ rest) (hcat : (rest.map fun v => v.category).sum ≤ 8) (hdg : decode cc pc = .ok (.invokestatic idx, 3)) : gx_Rn z w nL M pc lv st rest Qq :=
  fun H locs ls hP hS hL => ⟨_, gx_runN hC hP hS hL (hM H.size) hcv hrm hn hst hcat hdg⟩
end GWH
theorem gx_t {c A B : Prop} {hd : Decidable c} (h : if c then A else B) (hc : c) : A := by rwa [if_pos hc] at h
theorem gx_f {c A B : Prop} {hd : Decidable c} (h : if c then A else B) (hc : ¬ c) : B := by rwa [if_neg hc] at h
end
section
def gx_ty (ca : Nat → ClassId) : List (ClassId × FieldType) := [(ca 0, .int), (ca 1, .array .int), (ca 2, .object "GreenLine$Part"), (ca 3, .object "GreenLine$Signal"), (ca 4, .object "GreenLine$Channel"), (ca 5, .object "GreenLine$Program"), (ca 6, .byte), (ca 7, .boolean), (ca 8, .long)]
def fs_X0 (ad : Nat → Nat) (o : Nat) (r : Nat → Int32) : List Value := [.ref (ad 3), .int (r 1), .int (r 2), .int (r 3), .int (r 4), .int (r 5), .int (r 6)]
def fs_X1 (ad : Nat → Nat) (o : Nat) (r : Nat → Int32) : List Value := [.ref (ad 34), .ref (ad 15), .ref (ad 20), .ref (ad 2), .ref (ad 12), .int (r 5), .int (r 6), .int (r 7), .int (r 8)]
def fs_X2 (ad : Nat → Nat) (o : Nat) (r : Nat → Int32) : List Value := [.int (r 0), .int (r 1), .int (r 2), .int (r 3), .int (r 4), .int (r 5)]
def fs_X3 (ad : Nat → Nat) (o : Nat) (r : Nat → Int32) : List Value := [.int (r 0), .int (r 1), .int (r 2), .int (r 3), .int (r 4)]
def fs_X4 (ad : Nat → Nat) (o : Nat) (r : Nat → Int32) : List Value := [.ref (ad (o + 6)), .ref (ad (o + 12)), .int (r 2), .int (r 3)]
def fs_X5 (ad : Nat → Nat) (o : Nat) (r : Nat → Int32) : List Value := [.ref (ad 5), .ref (ad 7), .int (r 2), .int (r 3), .int (r 4), .int (r 5), .int (r 6), .int (r 7), .int (r 8), .int (r 9), .int (r 10), .int (r 11), .int (r 12), .int (r 13), .int (r 14), .int (r 15), .ref (ad (r 16).toNatClampNeg)]
def fs_X6 (ad : Nat → Nat) (o : Nat) (r : Nat → Int32) : List Value := [.ref (ad 6), .int (r 1), .int (r 2), .int (r 3), .int (r 4), .int (r 5)]
def fs_X7 (ad : Nat → Nat) (o : Nat) (r : Nat → Int32) : List Value := [.ref (ad 9)]
def fs_X8 (ad : Nat → Nat) (o : Nat) (r : Nat → Int32) : List Value := [.ref (ad (o + 2)), .ref (ad (o + 4)), .ref (ad (o + 6)), .int (r 3), .int (r 4), .int (r 5), .int (r 6), .int (r 7), .int (r 8), .int (r 9)]
def fs_X9 (ad : Nat → Nat) (o : Nat) (r : Nat → Int32) : List Value := [.ref (ad (o + 8)), .int (r 1)]
def fs_X10 (ad : Nat → Nat) (o : Nat) (r : Nat → Int32) : List Value := [.ref (ad 1), .ref (ad 34), .ref (ad 35), .ref (ad 4), .ref (ad 6), .ref (ad 8), .ref (ad 110), .ref (ad 10), .ref (ad 11), .int (r 9), .int (r 10), .int (r 11)]
def fs_X11 (ad : Nat → Nat) (o : Nat) (r : Nat → Int32) : List Value := [.ref (ad 1), .ref (ad 2), .ref (ad 3), .int (r 3), .int (r 4), .int (r 5), .ref (ad 4), .ref (ad 5), .ref (ad 6), .ref (ad 7), .ref (ad 8), .ref (ad 9), .int (r 12), .int (r 13), .int (r 14), .int (r 15), .int (r 16), .int (r 17), .int (r 18), .int (r 19), .int (r 20), .ref (ad 10), .ref (ad 11), .int (r 23), .ref (ad 12), .ref (ad 13), .int (r 26), .int (r 27), .ref (ad 14), .ref (ad 15), .int (r 30), .ref (ad 16), .ref (ad 17), .ref (ad 18), .ref (ad 19), .int (r 35), .ref (ad 20), .ref (ad 21), .ref (ad 22), .int (r 39), .int (r 40), .ref (ad 23)]
def gx_cC (ca : Nat → ClassId) (ad : Nat → Nat) (o : Nat) (r : Nat → Int32) : va_E :=
  if o < 16 then (match o with
    | 0 => .inr (10, fs_X10 ad o r)
    | 1 => .inr (1, fs_X1 ad o r)
    | 2 => .inr (0, fs_X0 ad o r)
    | 3 => .inl (ca 0, 300, .inl r)
    | 4 => .inr (5, fs_X5 ad o r)
    | 5 => .inr (6, fs_X6 ad o r)
    | 6 => .inl (ca 0, 300, .inl r)
    | 7 => .inl (ca 0, 300, .inl r)
    | 8 => .inr (7, fs_X7 ad o r)
    | 9 => .inl (ca 0, 320, .inl r)
    | 10 => .inl (ca 0, 20, .inl r)
    | 11 => .inl (ca 0, 20, .inl r)
    | 12 => .inl (ca 1, 2, .inr (.inr (.inr (.inr (fun j => some (ad (13 + j)))))))
    | 13 => .inl (ca 0, 2000, .inl r)
    | 14 => .inl (ca 0, 2000, .inl r)
    | _ => .inl (ca 5, 4, .inr (.inr (.inr (.inr (fun j => some (ad (16 + j))))))))
  else if o < 22 then .inr (4, fs_X4 ad o r)
  else if o < 34 then .inl (ca 0, 300, .inl r)
  else if o < 36 then .inr (8, fs_X8 ad o r)
  else if o < 38 then .inl (ca 3, 4, .inr (.inr (.inr (.inr (fun j => some (ad (4 * o + j - 102)))))))
  else if o < 40 then .inl (ca 4, 2, .inr (.inr (.inr (.inr (fun j => some (ad (2 * o + j - 18)))))))
  else if o < 42 then .inl (ca 0, 20, .inl r)
  else if o < 50 then .inr (9, fs_X9 ad o r)
  else if o < 58 then .inl (ca 2, 6, .inr (.inr (.inr (.inr (fun j => some (ad (6 * o + j - 238)))))))
  else if o < 62 then .inr (2, fs_X2 ad o r)
  else .inr (3, fs_X3 ad o r)
def gx_cR (ca : Nat → ClassId) (ad : Nat → Nat) (o : Nat) (r : Nat → Int32) : va_E := match o with
  | 0 => .inr (11, fs_X11 ad o r)
  | 1 => .inl (ca 0, 170, .inl r)
  | 2 => .inl (ca 0, 170, .inl r)
  | 3 => .inl (ca 6, 300, .inl r)
  | 4 => .inl (ca 0, 4, .inl r)
  | 5 => .inl (ca 0, 40, .inl r)
  | 6 => .inl (ca 0, 40, .inl r)
  | 7 => .inl (ca 0, 1600, .inl r)
  | 8 => .inl (ca 0, 1600, .inl r)
  | 9 => .inl (ca 0, 4000, .inl r)
  | 10 => .inl (ca 0, 40, .inl r)
  | 11 => .inl (ca 0, 41, .inl r)
  | 12 => .inl (ca 0, 80, .inl r)
  | 13 => .inl (ca 0, 80, .inl r)
  | 14 => .inl (ca 0, 10, .inl r)
  | 15 => .inl (ca 0, 10, .inl r)
  | 16 => .inl (ca 0, 400, .inl r)
  | 17 => .inl (ca 0, 400, .inl r)
  | 18 => .inl (ca 0, 7, .inl r)
  | 19 => .inl (ca 8, 200, .inr (.inl (gx_rl r)))
  | 20 => .inl (ca 0, 120, .inl r)
  | 21 => .inl (ca 0, 320, .inl r)
  | 22 => .inl (ca 0, 20, .inl r)
  | _ => .inl (ca 7, 320, .inl r)
def gx_isC (ca : Nat → ClassId) (w : gx_V) : Prop := gx_tys w = gx_ty ca ∧ gx_N w = 111 ∧ gx_cf w = gx_cC ca (gx_ad w)
def gx_isR (ca : Nat → ClassId) (w : gx_V) : Prop := gx_tys w = gx_ty ca ∧ gx_N w = 24 ∧ gx_cf w = gx_cR ca (gx_ad w)
abbrev pk_Pr (o : Nat) : Prop := 16 ≤ o ∧ o < 22
abbrev pk_Se (o : Nat) : Prop := 34 ≤ o ∧ o < 36
abbrev pk_SA (o : Nat) : Prop := 36 ≤ o ∧ o < 38
abbrev pk_CA (o : Nat) : Prop := 38 ≤ o ∧ o < 40
abbrev pk_Si (o : Nat) : Prop := 42 ≤ o ∧ o < 50
abbrev pk_PA (o : Nat) : Prop := 50 ≤ o ∧ o < 58
abbrev pk_Ch (o : Nat) : Prop := 58 ≤ o ∧ o < 62
abbrev pk_Pt (o : Nat) : Prop := 62 ≤ o ∧ o < 111
abbrev pk_a3 (o : Nat) : Prop := o = 3 ∨ o = 6 ∨ o = 7 ∨ (22 ≤ o ∧ o < 34)
abbrev pk_a2 (o : Nat) : Prop := o = 10 ∨ o = 11 ∨ o = 40 ∨ o = 41
abbrev pk_a20 (o : Nat) : Prop := o = 13 ∨ o = 14
section WORLDS
variable {ca : Nat → ClassId} {w : gx_V} {o : Nat}
theorem gx_isC.lt (hw : gx_isC ca w) (h : o < 111) : o < gx_N w := by rw [hw.2.1]; exact h
theorem gx_isR.lt (hw : gx_isR ca w) (h : o < 24) : o < gx_N w := by rw [hw.2.1]; exact h
theorem gt_0 (hw : gx_isC ca w) : (gx_tys w)[0]? = some (ca 0, .int) := by rw [hw.1]; rfl
theorem gu_0 (hw : gx_isR ca w) : (gx_tys w)[0]? = some (ca 0, .int) := by rw [hw.1]; rfl
theorem gt_1 (hw : gx_isC ca w) : (gx_tys w)[1]? = some (ca 1, .array .int) := by rw [hw.1]; rfl
theorem gu_1 (hw : gx_isR ca w) : (gx_tys w)[1]? = some (ca 1, .array .int) := by rw [hw.1]; rfl
theorem gt_2 (hw : gx_isC ca w) : (gx_tys w)[2]? = some (ca 2, .object "GreenLine$Part") := by rw [hw.1]; rfl
theorem gu_2 (hw : gx_isR ca w) : (gx_tys w)[2]? = some (ca 2, .object "GreenLine$Part") := by rw [hw.1]; rfl
theorem gt_3 (hw : gx_isC ca w) : (gx_tys w)[3]? = some (ca 3, .object "GreenLine$Signal") := by rw [hw.1]; rfl
theorem gu_3 (hw : gx_isR ca w) : (gx_tys w)[3]? = some (ca 3, .object "GreenLine$Signal") := by rw [hw.1]; rfl
theorem gt_4 (hw : gx_isC ca w) : (gx_tys w)[4]? = some (ca 4, .object "GreenLine$Channel") := by rw [hw.1]; rfl
theorem gu_4 (hw : gx_isR ca w) : (gx_tys w)[4]? = some (ca 4, .object "GreenLine$Channel") := by rw [hw.1]; rfl
theorem gt_5 (hw : gx_isC ca w) : (gx_tys w)[5]? = some (ca 5, .object "GreenLine$Program") := by rw [hw.1]; rfl
theorem gu_5 (hw : gx_isR ca w) : (gx_tys w)[5]? = some (ca 5, .object "GreenLine$Program") := by rw [hw.1]; rfl
theorem gt_6 (hw : gx_isC ca w) : (gx_tys w)[6]? = some (ca 6, .byte) := by rw [hw.1]; rfl
theorem gu_6 (hw : gx_isR ca w) : (gx_tys w)[6]? = some (ca 6, .byte) := by rw [hw.1]; rfl
theorem gt_7 (hw : gx_isC ca w) : (gx_tys w)[7]? = some (ca 7, .boolean) := by rw [hw.1]; rfl
theorem gu_7 (hw : gx_isR ca w) : (gx_tys w)[7]? = some (ca 7, .boolean) := by rw [hw.1]; rfl
theorem gt_8 (hw : gx_isC ca w) : (gx_tys w)[8]? = some (ca 8, .long) := by rw [hw.1]; rfl
theorem gu_8 (hw : gx_isR ca w) : (gx_tys w)[8]? = some (ca 8, .long) := by rw [hw.1]; rfl
theorem gc_0 (hw : gx_isC ca w) (r : Nat → Int32) : gx_cf w 0 r = .inr (10, fs_X10 (gx_ad w) 0 r) := by rw [hw.2.2]; rfl
theorem gc_1 (hw : gx_isC ca w) (r : Nat → Int32) : gx_cf w 1 r = .inr (1, fs_X1 (gx_ad w) 1 r) := by rw [hw.2.2]; rfl
theorem gc_2 (hw : gx_isC ca w) (r : Nat → Int32) : gx_cf w 2 r = .inr (0, fs_X0 (gx_ad w) 2 r) := by rw [hw.2.2]; rfl
theorem gc_3 (hw : gx_isC ca w) (r : Nat → Int32) : gx_cf w 3 r = .inl (ca 0, 300, .inl r) := by rw [hw.2.2]; rfl
theorem gc_4 (hw : gx_isC ca w) (r : Nat → Int32) : gx_cf w 4 r = .inr (5, fs_X5 (gx_ad w) 4 r) := by rw [hw.2.2]; rfl
theorem gc_5 (hw : gx_isC ca w) (r : Nat → Int32) : gx_cf w 5 r = .inr (6, fs_X6 (gx_ad w) 5 r) := by rw [hw.2.2]; rfl
theorem gc_6 (hw : gx_isC ca w) (r : Nat → Int32) : gx_cf w 6 r = .inl (ca 0, 300, .inl r) := by rw [hw.2.2]; rfl
theorem gc_7 (hw : gx_isC ca w) (r : Nat → Int32) : gx_cf w 7 r = .inl (ca 0, 300, .inl r) := by rw [hw.2.2]; rfl
theorem gc_8 (hw : gx_isC ca w) (r : Nat → Int32) : gx_cf w 8 r = .inr (7, fs_X7 (gx_ad w) 8 r) := by rw [hw.2.2]; rfl
theorem gc_9 (hw : gx_isC ca w) (r : Nat → Int32) : gx_cf w 9 r = .inl (ca 0, 320, .inl r) := by rw [hw.2.2]; rfl
theorem gc_10 (hw : gx_isC ca w) (r : Nat → Int32) : gx_cf w 10 r = .inl (ca 0, 20, .inl r) := by rw [hw.2.2]; rfl
theorem gc_11 (hw : gx_isC ca w) (r : Nat → Int32) : gx_cf w 11 r = .inl (ca 0, 20, .inl r) := by rw [hw.2.2]; rfl
theorem gc_12 (hw : gx_isC ca w) (r : Nat → Int32) : gx_cf w 12 r = .inl (ca 1, 2, .inr (.inr (.inr (.inr (fun j => some ((gx_ad w) (13 + j))))))) := by rw [hw.2.2]; rfl
theorem gc_13 (hw : gx_isC ca w) (r : Nat → Int32) : gx_cf w 13 r = .inl (ca 0, 2000, .inl r) := by rw [hw.2.2]; rfl
theorem gc_14 (hw : gx_isC ca w) (r : Nat → Int32) : gx_cf w 14 r = .inl (ca 0, 2000, .inl r) := by rw [hw.2.2]; rfl
theorem gc_15 (hw : gx_isC ca w) (r : Nat → Int32) : gx_cf w 15 r = .inl (ca 5, 4, .inr (.inr (.inr (.inr (fun j => some ((gx_ad w) (16 + j))))))) := by rw [hw.2.2]; rfl
theorem gc_Pr (hw : gx_isC ca w) (h : pk_Pr o) (r : Nat → Int32) : gx_cf w o r = .inr (4, fs_X4 (gx_ad w) o r) := by
  obtain ⟨h1, h2⟩ := h
  rw [hw.2.2]
  show (if o < 16 then _ else _) = _
  rw [if_neg (show ¬ o < 16 by omega), if_pos (show o < 22 by omega)]
theorem gc_Se (hw : gx_isC ca w) (h : pk_Se o) (r : Nat → Int32) : gx_cf w o r = .inr (8, fs_X8 (gx_ad w) o r) := by
  obtain ⟨h1, h2⟩ := h
  rw [hw.2.2]
  show (if o < 16 then _ else _) = _
  rw [if_neg (show ¬ o < 16 by omega), if_neg (show ¬ o < 22 by omega), if_neg (show ¬ o < 34 by omega), if_pos (show o < 36 by omega)]
theorem gc_SA (hw : gx_isC ca w) (h : pk_SA o) (r : Nat → Int32) : gx_cf w o r = .inl (ca 3, 4, .inr (.inr (.inr (.inr (fun j => some ((gx_ad w) (4 * o + j - 102))))))) := by
  obtain ⟨h1, h2⟩ := h
  rw [hw.2.2]
  show (if o < 16 then _ else _) = _
  rw [if_neg (show ¬ o < 16 by omega), if_neg (show ¬ o < 22 by omega), if_neg (show ¬ o < 34 by omega), if_neg (show ¬ o < 36 by omega), if_pos (show o < 38 by omega)]
theorem gc_CA (hw : gx_isC ca w) (h : pk_CA o) (r : Nat → Int32) : gx_cf w o r = .inl (ca 4, 2, .inr (.inr (.inr (.inr (fun j => some ((gx_ad w) (2 * o + j - 18))))))) := by
  obtain ⟨h1, h2⟩ := h
  rw [hw.2.2]
  show (if o < 16 then _ else _) = _
  rw [if_neg (show ¬ o < 16 by omega), if_neg (show ¬ o < 22 by omega), if_neg (show ¬ o < 34 by omega), if_neg (show ¬ o < 36 by omega), if_neg (show ¬ o < 38 by omega), if_pos (show o < 40 by omega)]
theorem gc_Si (hw : gx_isC ca w) (h : pk_Si o) (r : Nat → Int32) : gx_cf w o r = .inr (9, fs_X9 (gx_ad w) o r) := by
  obtain ⟨h1, h2⟩ := h
  rw [hw.2.2]
  show (if o < 16 then _ else _) = _
  rw [if_neg (show ¬ o < 16 by omega), if_neg (show ¬ o < 22 by omega), if_neg (show ¬ o < 34 by omega), if_neg (show ¬ o < 36 by omega), if_neg (show ¬ o < 38 by omega), if_neg (show ¬ o < 40 by omega), if_neg (show ¬ o < 42 by omega), if_pos (show o < 50 by omega)]
theorem gc_PA (hw : gx_isC ca w) (h : pk_PA o) (r : Nat → Int32) : gx_cf w o r = .inl (ca 2, 6, .inr (.inr (.inr (.inr (fun j => some ((gx_ad w) (6 * o + j - 238))))))) := by
  obtain ⟨h1, h2⟩ := h
  rw [hw.2.2]
  show (if o < 16 then _ else _) = _
  rw [if_neg (show ¬ o < 16 by omega), if_neg (show ¬ o < 22 by omega), if_neg (show ¬ o < 34 by omega), if_neg (show ¬ o < 36 by omega), if_neg (show ¬ o < 38 by omega), if_neg (show ¬ o < 40 by omega), if_neg (show ¬ o < 42 by omega), if_neg (show ¬ o < 50 by omega), if_pos (show o < 58 by omega)]
theorem gc_Ch (hw : gx_isC ca w) (h : pk_Ch o) (r : Nat → Int32) : gx_cf w o r = .inr (2, fs_X2 (gx_ad w) o r) := by
  obtain ⟨h1, h2⟩ := h
  rw [hw.2.2]
  show (if o < 16 then _ else _) = _
  rw [if_neg (show ¬ o < 16 by omega), if_neg (show ¬ o < 22 by omega), if_neg (show ¬ o < 34 by omega), if_neg (show ¬ o < 36 by omega), if_neg (show ¬ o < 38 by omega), if_neg (show ¬ o < 40 by omega), if_neg (show ¬ o < 42 by omega), if_neg (show ¬ o < 50 by omega), if_neg (show ¬ o < 58 by omega), if_pos (show o < 62 by omega)]
theorem gc_Pt (hw : gx_isC ca w) (h : pk_Pt o) (r : Nat → Int32) : gx_cf w o r = .inr (3, fs_X3 (gx_ad w) o r) := by
  obtain ⟨h1, h2⟩ := h
  rw [hw.2.2]
  show (if o < 16 then _ else _) = _
  rw [if_neg (show ¬ o < 16 by omega), if_neg (show ¬ o < 22 by omega), if_neg (show ¬ o < 34 by omega), if_neg (show ¬ o < 36 by omega), if_neg (show ¬ o < 38 by omega), if_neg (show ¬ o < 40 by omega), if_neg (show ¬ o < 42 by omega), if_neg (show ¬ o < 50 by omega), if_neg (show ¬ o < 58 by omega), if_neg (show ¬ o < 62 by omega)]
theorem gc_a3 (hw : gx_isC ca w) (h : pk_a3 o) (r : Nat → Int32) : gx_cf w o r = .inl (ca 0, 300, .inl r) := by
  rcases h with rfl | rfl | rfl | ⟨h1, h2⟩
  · exact gc_3 hw r
  · exact gc_6 hw r
  · exact gc_7 hw r
  · rw [hw.2.2]
    show (if o < 16 then _ else _) = _
    rw [if_neg (show ¬ o < 16 by omega), if_neg (show ¬ o < 22 by omega), if_pos (show o < 34 by omega)]
theorem gc_a2 (hw : gx_isC ca w) (h : pk_a2 o) (r : Nat → Int32) : gx_cf w o r = .inl (ca 0, 20, .inl r) := by
  rcases h with rfl | rfl | rfl | rfl <;> (rw [hw.2.2]; rfl)
theorem gc_a20 (hw : gx_isC ca w) (h : pk_a20 o) (r : Nat → Int32) : gx_cf w o r = .inl (ca 0, 2000, .inl r) := by
  rcases h with rfl | rfl <;> (rw [hw.2.2]; rfl)
theorem gn_Pr (hw : gx_isC ca w) (h : pk_Pr o) : o < gx_N w := by rw [hw.2.1]; exact Nat.lt_of_lt_of_le h.2 (by decide)
theorem gn_Se (hw : gx_isC ca w) (h : pk_Se o) : o < gx_N w := by rw [hw.2.1]; exact Nat.lt_of_lt_of_le h.2 (by decide)
theorem gn_SA (hw : gx_isC ca w) (h : pk_SA o) : o < gx_N w := by rw [hw.2.1]; exact Nat.lt_of_lt_of_le h.2 (by decide)
theorem gn_CA (hw : gx_isC ca w) (h : pk_CA o) : o < gx_N w := by rw [hw.2.1]; exact Nat.lt_of_lt_of_le h.2 (by decide)
theorem gn_Si (hw : gx_isC ca w) (h : pk_Si o) : o < gx_N w := by rw [hw.2.1]; exact Nat.lt_of_lt_of_le h.2 (by decide)
theorem gn_PA (hw : gx_isC ca w) (h : pk_PA o) : o < gx_N w := by rw [hw.2.1]; exact Nat.lt_of_lt_of_le h.2 (by decide)
theorem gn_Ch (hw : gx_isC ca w) (h : pk_Ch o) : o < gx_N w := by rw [hw.2.1]; exact Nat.lt_of_lt_of_le h.2 (by decide)
theorem gn_Pt (hw : gx_isC ca w) (h : pk_Pt o) : o < gx_N w := by rw [hw.2.1]; exact Nat.lt_of_lt_of_le h.2 (by decide)
theorem gn_a3 (hw : gx_isC ca w) (h : pk_a3 o) : o < gx_N w := by rw [hw.2.1]; rcases h with rfl | rfl | rfl | ⟨h1, h2⟩ <;> omega
theorem gn_a2 (hw : gx_isC ca w) (h : pk_a2 o) : o < gx_N w := by rw [hw.2.1]; rcases h with rfl | rfl | rfl | rfl <;> omega
theorem gn_a20 (hw : gx_isC ca w) (h : pk_a20 o) : o < gx_N w := by rw [hw.2.1]; rcases h with rfl | rfl <;> omega
theorem gd_0 (hw : gx_isR ca w) (r : Nat → Int32) : gx_cf w 0 r = .inr (11, fs_X11 (gx_ad w) 0 r) := by rw [hw.2.2]; rfl
theorem gd_1 (hw : gx_isR ca w) (r : Nat → Int32) : gx_cf w 1 r = .inl (ca 0, 170, .inl r) := by rw [hw.2.2]; rfl
theorem gd_2 (hw : gx_isR ca w) (r : Nat → Int32) : gx_cf w 2 r = .inl (ca 0, 170, .inl r) := by rw [hw.2.2]; rfl
theorem gd_3 (hw : gx_isR ca w) (r : Nat → Int32) : gx_cf w 3 r = .inl (ca 6, 300, .inl r) := by rw [hw.2.2]; rfl
theorem gd_4 (hw : gx_isR ca w) (r : Nat → Int32) : gx_cf w 4 r = .inl (ca 0, 4, .inl r) := by rw [hw.2.2]; rfl
theorem gd_5 (hw : gx_isR ca w) (r : Nat → Int32) : gx_cf w 5 r = .inl (ca 0, 40, .inl r) := by rw [hw.2.2]; rfl
theorem gd_6 (hw : gx_isR ca w) (r : Nat → Int32) : gx_cf w 6 r = .inl (ca 0, 40, .inl r) := by rw [hw.2.2]; rfl
theorem gd_7 (hw : gx_isR ca w) (r : Nat → Int32) : gx_cf w 7 r = .inl (ca 0, 1600, .inl r) := by rw [hw.2.2]; rfl
theorem gd_8 (hw : gx_isR ca w) (r : Nat → Int32) : gx_cf w 8 r = .inl (ca 0, 1600, .inl r) := by rw [hw.2.2]; rfl
theorem gd_9 (hw : gx_isR ca w) (r : Nat → Int32) : gx_cf w 9 r = .inl (ca 0, 4000, .inl r) := by rw [hw.2.2]; rfl
theorem gd_10 (hw : gx_isR ca w) (r : Nat → Int32) : gx_cf w 10 r = .inl (ca 0, 40, .inl r) := by rw [hw.2.2]; rfl
theorem gd_11 (hw : gx_isR ca w) (r : Nat → Int32) : gx_cf w 11 r = .inl (ca 0, 41, .inl r) := by rw [hw.2.2]; rfl
theorem gd_12 (hw : gx_isR ca w) (r : Nat → Int32) : gx_cf w 12 r = .inl (ca 0, 80, .inl r) := by rw [hw.2.2]; rfl
theorem gd_13 (hw : gx_isR ca w) (r : Nat → Int32) : gx_cf w 13 r = .inl (ca 0, 80, .inl r) := by rw [hw.2.2]; rfl
theorem gd_14 (hw : gx_isR ca w) (r : Nat → Int32) : gx_cf w 14 r = .inl (ca 0, 10, .inl r) := by rw [hw.2.2]; rfl
theorem gd_15 (hw : gx_isR ca w) (r : Nat → Int32) : gx_cf w 15 r = .inl (ca 0, 10, .inl r) := by rw [hw.2.2]; rfl
theorem gd_16 (hw : gx_isR ca w) (r : Nat → Int32) : gx_cf w 16 r = .inl (ca 0, 400, .inl r) := by rw [hw.2.2]; rfl
theorem gd_17 (hw : gx_isR ca w) (r : Nat → Int32) : gx_cf w 17 r = .inl (ca 0, 400, .inl r) := by rw [hw.2.2]; rfl
theorem gd_18 (hw : gx_isR ca w) (r : Nat → Int32) : gx_cf w 18 r = .inl (ca 0, 7, .inl r) := by rw [hw.2.2]; rfl
theorem gd_19 (hw : gx_isR ca w) (r : Nat → Int32) : gx_cf w 19 r = .inl (ca 8, 200, .inr (.inl (gx_rl r))) := by rw [hw.2.2]; rfl
theorem gd_20 (hw : gx_isR ca w) (r : Nat → Int32) : gx_cf w 20 r = .inl (ca 0, 120, .inl r) := by rw [hw.2.2]; rfl
theorem gd_21 (hw : gx_isR ca w) (r : Nat → Int32) : gx_cf w 21 r = .inl (ca 0, 320, .inl r) := by rw [hw.2.2]; rfl
theorem gd_22 (hw : gx_isR ca w) (r : Nat → Int32) : gx_cf w 22 r = .inl (ca 0, 20, .inl r) := by rw [hw.2.2]; rfl
theorem gd_23 (hw : gx_isR ca w) (r : Nat → Int32) : gx_cf w 23 r = .inl (ca 7, 320, .inl r) := by rw [hw.2.2]; rfl
theorem vp_lt {i : Int32} {n : Nat} (h : vp_in i n) : i.toNatClampNeg < n := Nat.not_le.mp fun q => h (Or.inr q)
end WORLDS
theorem cl_X0 : gx_cl 0 RX0 TX0 7 tyX0 := ⟨rfl, gx_ins _ [268, 270, 272, 274, 276, 278, 280] (by decide +kernel) (by decide +kernel), tyX0_ok, nmX0⟩
theorem gv_X0_0 (ad : Nat → Nat) (o : Nat) (r : Nat → Int32) : (fs_X0 ad o r)[0]? = some (.ref (ad 3)) := rfl
theorem gv_X0_1 (ad : Nat → Nat) (o : Nat) (r : Nat → Int32) : (fs_X0 ad o r)[1]? = some (.int (r 1)) := rfl
theorem gs_X0_1 (ad : Nat → Nat) (o : Nat) (r : Nat → Int32) (x : Int32) : (Sum.inr (0, fs_X0 ad o (upd r 1 x)) : va_E) = .inr (0, (fs_X0 ad o r).set 1 (.int x)) := rfl
theorem gv_X0_2 (ad : Nat → Nat) (o : Nat) (r : Nat → Int32) : (fs_X0 ad o r)[2]? = some (.int (r 2)) := rfl
theorem gs_X0_2 (ad : Nat → Nat) (o : Nat) (r : Nat → Int32) (x : Int32) : (Sum.inr (0, fs_X0 ad o (upd r 2 x)) : va_E) = .inr (0, (fs_X0 ad o r).set 2 (.int x)) := rfl
theorem gv_X0_3 (ad : Nat → Nat) (o : Nat) (r : Nat → Int32) : (fs_X0 ad o r)[3]? = some (.int (r 3)) := rfl
theorem gs_X0_3 (ad : Nat → Nat) (o : Nat) (r : Nat → Int32) (x : Int32) : (Sum.inr (0, fs_X0 ad o (upd r 3 x)) : va_E) = .inr (0, (fs_X0 ad o r).set 3 (.int x)) := rfl
theorem gv_X0_4 (ad : Nat → Nat) (o : Nat) (r : Nat → Int32) : (fs_X0 ad o r)[4]? = some (.int (r 4)) := rfl
theorem gs_X0_4 (ad : Nat → Nat) (o : Nat) (r : Nat → Int32) (x : Int32) : (Sum.inr (0, fs_X0 ad o (upd r 4 x)) : va_E) = .inr (0, (fs_X0 ad o r).set 4 (.int x)) := rfl
theorem gv_X0_5 (ad : Nat → Nat) (o : Nat) (r : Nat → Int32) : (fs_X0 ad o r)[5]? = some (.int (r 5)) := rfl
theorem gs_X0_5 (ad : Nat → Nat) (o : Nat) (r : Nat → Int32) (x : Int32) : (Sum.inr (0, fs_X0 ad o (upd r 5 x)) : va_E) = .inr (0, (fs_X0 ad o r).set 5 (.int x)) := rfl
theorem gv_X0_6 (ad : Nat → Nat) (o : Nat) (r : Nat → Int32) : (fs_X0 ad o r)[6]? = some (.int (r 6)) := rfl
theorem gs_X0_6 (ad : Nat → Nat) (o : Nat) (r : Nat → Int32) (x : Int32) : (Sum.inr (0, fs_X0 ad o (upd r 6 x)) : va_E) = .inr (0, (fs_X0 ad o r).set 6 (.int x)) := rfl
theorem cl_X1 : gx_cl 1 RX1 TX1 9 tyX1 := ⟨rfl, gx_ins _ [298, 300, 302, 304, 306, 308, 310, 312, 314] (by decide +kernel) (by decide +kernel), tyX1_ok, nmX1⟩
theorem gv_X1_0 (ad : Nat → Nat) (o : Nat) (r : Nat → Int32) : (fs_X1 ad o r)[0]? = some (.ref (ad 34)) := rfl
theorem gv_X1_1 (ad : Nat → Nat) (o : Nat) (r : Nat → Int32) : (fs_X1 ad o r)[1]? = some (.ref (ad 15)) := rfl
theorem gv_X1_2 (ad : Nat → Nat) (o : Nat) (r : Nat → Int32) : (fs_X1 ad o r)[2]? = some (.ref (ad 20)) := rfl
theorem gv_X1_3 (ad : Nat → Nat) (o : Nat) (r : Nat → Int32) : (fs_X1 ad o r)[3]? = some (.ref (ad 2)) := rfl
theorem gv_X1_4 (ad : Nat → Nat) (o : Nat) (r : Nat → Int32) : (fs_X1 ad o r)[4]? = some (.ref (ad 12)) := rfl
theorem gv_X1_5 (ad : Nat → Nat) (o : Nat) (r : Nat → Int32) : (fs_X1 ad o r)[5]? = some (.int (r 5)) := rfl
theorem gs_X1_5 (ad : Nat → Nat) (o : Nat) (r : Nat → Int32) (x : Int32) : (Sum.inr (1, fs_X1 ad o (upd r 5 x)) : va_E) = .inr (1, (fs_X1 ad o r).set 5 (.int x)) := rfl
theorem gv_X1_6 (ad : Nat → Nat) (o : Nat) (r : Nat → Int32) : (fs_X1 ad o r)[6]? = some (.int (r 6)) := rfl
theorem gs_X1_6 (ad : Nat → Nat) (o : Nat) (r : Nat → Int32) (x : Int32) : (Sum.inr (1, fs_X1 ad o (upd r 6 x)) : va_E) = .inr (1, (fs_X1 ad o r).set 6 (.int x)) := rfl
theorem gv_X1_7 (ad : Nat → Nat) (o : Nat) (r : Nat → Int32) : (fs_X1 ad o r)[7]? = some (.int (r 7)) := rfl
theorem gs_X1_7 (ad : Nat → Nat) (o : Nat) (r : Nat → Int32) (x : Int32) : (Sum.inr (1, fs_X1 ad o (upd r 7 x)) : va_E) = .inr (1, (fs_X1 ad o r).set 7 (.int x)) := rfl
theorem gv_X1_8 (ad : Nat → Nat) (o : Nat) (r : Nat → Int32) : (fs_X1 ad o r)[8]? = some (.int (r 8)) := rfl
theorem gs_X1_8 (ad : Nat → Nat) (o : Nat) (r : Nat → Int32) (x : Int32) : (Sum.inr (1, fs_X1 ad o (upd r 8 x)) : va_E) = .inr (1, (fs_X1 ad o r).set 8 (.int x)) := rfl
theorem cl_X2 : gx_cl 2 RX2 TX2 6 tyX2 := ⟨rfl, gx_ins _ [159, 161, 163, 165, 167, 169] (by decide +kernel) (by decide +kernel), tyX2_ok, nmX2⟩
theorem gv_X2_0 (ad : Nat → Nat) (o : Nat) (r : Nat → Int32) : (fs_X2 ad o r)[0]? = some (.int (r 0)) := rfl
theorem gs_X2_0 (ad : Nat → Nat) (o : Nat) (r : Nat → Int32) (x : Int32) : (Sum.inr (2, fs_X2 ad o (upd r 0 x)) : va_E) = .inr (2, (fs_X2 ad o r).set 0 (.int x)) := rfl
theorem gv_X2_1 (ad : Nat → Nat) (o : Nat) (r : Nat → Int32) : (fs_X2 ad o r)[1]? = some (.int (r 1)) := rfl
theorem gs_X2_1 (ad : Nat → Nat) (o : Nat) (r : Nat → Int32) (x : Int32) : (Sum.inr (2, fs_X2 ad o (upd r 1 x)) : va_E) = .inr (2, (fs_X2 ad o r).set 1 (.int x)) := rfl
theorem gv_X2_2 (ad : Nat → Nat) (o : Nat) (r : Nat → Int32) : (fs_X2 ad o r)[2]? = some (.int (r 2)) := rfl
theorem gs_X2_2 (ad : Nat → Nat) (o : Nat) (r : Nat → Int32) (x : Int32) : (Sum.inr (2, fs_X2 ad o (upd r 2 x)) : va_E) = .inr (2, (fs_X2 ad o r).set 2 (.int x)) := rfl
theorem gv_X2_3 (ad : Nat → Nat) (o : Nat) (r : Nat → Int32) : (fs_X2 ad o r)[3]? = some (.int (r 3)) := rfl
theorem gs_X2_3 (ad : Nat → Nat) (o : Nat) (r : Nat → Int32) (x : Int32) : (Sum.inr (2, fs_X2 ad o (upd r 3 x)) : va_E) = .inr (2, (fs_X2 ad o r).set 3 (.int x)) := rfl
theorem gv_X2_4 (ad : Nat → Nat) (o : Nat) (r : Nat → Int32) : (fs_X2 ad o r)[4]? = some (.int (r 4)) := rfl
theorem gs_X2_4 (ad : Nat → Nat) (o : Nat) (r : Nat → Int32) (x : Int32) : (Sum.inr (2, fs_X2 ad o (upd r 4 x)) : va_E) = .inr (2, (fs_X2 ad o r).set 4 (.int x)) := rfl
theorem gv_X2_5 (ad : Nat → Nat) (o : Nat) (r : Nat → Int32) : (fs_X2 ad o r)[5]? = some (.int (r 5)) := rfl
theorem gs_X2_5 (ad : Nat → Nat) (o : Nat) (r : Nat → Int32) (x : Int32) : (Sum.inr (2, fs_X2 ad o (upd r 5 x)) : va_E) = .inr (2, (fs_X2 ad o r).set 5 (.int x)) := rfl
theorem cl_X3 : gx_cl 3 RX3 TX3 5 tyX3 := ⟨rfl, gx_ins _ [123, 125, 127, 129, 131] (by decide +kernel) (by decide +kernel), tyX3_ok, nmX3⟩
theorem gv_X3_0 (ad : Nat → Nat) (o : Nat) (r : Nat → Int32) : (fs_X3 ad o r)[0]? = some (.int (r 0)) := rfl
theorem gs_X3_0 (ad : Nat → Nat) (o : Nat) (r : Nat → Int32) (x : Int32) : (Sum.inr (3, fs_X3 ad o (upd r 0 x)) : va_E) = .inr (3, (fs_X3 ad o r).set 0 (.int x)) := rfl
theorem gv_X3_1 (ad : Nat → Nat) (o : Nat) (r : Nat → Int32) : (fs_X3 ad o r)[1]? = some (.int (r 1)) := rfl
theorem gs_X3_1 (ad : Nat → Nat) (o : Nat) (r : Nat → Int32) (x : Int32) : (Sum.inr (3, fs_X3 ad o (upd r 1 x)) : va_E) = .inr (3, (fs_X3 ad o r).set 1 (.int x)) := rfl
theorem gv_X3_2 (ad : Nat → Nat) (o : Nat) (r : Nat → Int32) : (fs_X3 ad o r)[2]? = some (.int (r 2)) := rfl
theorem gs_X3_2 (ad : Nat → Nat) (o : Nat) (r : Nat → Int32) (x : Int32) : (Sum.inr (3, fs_X3 ad o (upd r 2 x)) : va_E) = .inr (3, (fs_X3 ad o r).set 2 (.int x)) := rfl
theorem gv_X3_3 (ad : Nat → Nat) (o : Nat) (r : Nat → Int32) : (fs_X3 ad o r)[3]? = some (.int (r 3)) := rfl
theorem gs_X3_3 (ad : Nat → Nat) (o : Nat) (r : Nat → Int32) (x : Int32) : (Sum.inr (3, fs_X3 ad o (upd r 3 x)) : va_E) = .inr (3, (fs_X3 ad o r).set 3 (.int x)) := rfl
theorem gv_X3_4 (ad : Nat → Nat) (o : Nat) (r : Nat → Int32) : (fs_X3 ad o r)[4]? = some (.int (r 4)) := rfl
theorem gs_X3_4 (ad : Nat → Nat) (o : Nat) (r : Nat → Int32) (x : Int32) : (Sum.inr (3, fs_X3 ad o (upd r 4 x)) : va_E) = .inr (3, (fs_X3 ad o r).set 4 (.int x)) := rfl
theorem cl_X4 : gx_cl 4 RX4 TX4 4 tyX4 := ⟨rfl, gx_ins _ [240, 242, 244, 246] (by decide +kernel) (by decide +kernel), tyX4_ok, nmX4⟩
theorem gv_X4_0 (ad : Nat → Nat) (o : Nat) (r : Nat → Int32) : (fs_X4 ad o r)[0]? = some (.ref (ad (o + 6))) := rfl
theorem gv_X4_1 (ad : Nat → Nat) (o : Nat) (r : Nat → Int32) : (fs_X4 ad o r)[1]? = some (.ref (ad (o + 12))) := rfl
theorem gv_X4_2 (ad : Nat → Nat) (o : Nat) (r : Nat → Int32) : (fs_X4 ad o r)[2]? = some (.int (r 2)) := rfl
theorem gs_X4_2 (ad : Nat → Nat) (o : Nat) (r : Nat → Int32) (x : Int32) : (Sum.inr (4, fs_X4 ad o (upd r 2 x)) : va_E) = .inr (4, (fs_X4 ad o r).set 2 (.int x)) := rfl
theorem gv_X4_3 (ad : Nat → Nat) (o : Nat) (r : Nat → Int32) : (fs_X4 ad o r)[3]? = some (.int (r 3)) := rfl
theorem gs_X4_3 (ad : Nat → Nat) (o : Nat) (r : Nat → Int32) (x : Int32) : (Sum.inr (4, fs_X4 ad o (upd r 3 x)) : va_E) = .inr (4, (fs_X4 ad o r).set 3 (.int x)) := rfl
theorem cl_X5 : gx_cl 5 RX5 TX5 17 tyX5 := ⟨rfl, gx_ins _ [376, 378, 380, 382, 384, 386, 388, 390, 392, 394, 396, 398, 400, 402, 404, 406, 408] (by decide +kernel) (by decide +kernel), tyX5_ok, nmX5⟩
theorem gv_X5_0 (ad : Nat → Nat) (o : Nat) (r : Nat → Int32) : (fs_X5 ad o r)[0]? = some (.ref (ad 5)) := rfl
theorem gv_X5_1 (ad : Nat → Nat) (o : Nat) (r : Nat → Int32) : (fs_X5 ad o r)[1]? = some (.ref (ad 7)) := rfl
theorem gv_X5_2 (ad : Nat → Nat) (o : Nat) (r : Nat → Int32) : (fs_X5 ad o r)[2]? = some (.int (r 2)) := rfl
theorem gs_X5_2 (ad : Nat → Nat) (o : Nat) (r : Nat → Int32) (x : Int32) : (Sum.inr (5, fs_X5 ad o (upd r 2 x)) : va_E) = .inr (5, (fs_X5 ad o r).set 2 (.int x)) := rfl
theorem gv_X5_3 (ad : Nat → Nat) (o : Nat) (r : Nat → Int32) : (fs_X5 ad o r)[3]? = some (.int (r 3)) := rfl
theorem gs_X5_3 (ad : Nat → Nat) (o : Nat) (r : Nat → Int32) (x : Int32) : (Sum.inr (5, fs_X5 ad o (upd r 3 x)) : va_E) = .inr (5, (fs_X5 ad o r).set 3 (.int x)) := rfl
theorem gv_X5_4 (ad : Nat → Nat) (o : Nat) (r : Nat → Int32) : (fs_X5 ad o r)[4]? = some (.int (r 4)) := rfl
theorem gs_X5_4 (ad : Nat → Nat) (o : Nat) (r : Nat → Int32) (x : Int32) : (Sum.inr (5, fs_X5 ad o (upd r 4 x)) : va_E) = .inr (5, (fs_X5 ad o r).set 4 (.int x)) := rfl
theorem gv_X5_5 (ad : Nat → Nat) (o : Nat) (r : Nat → Int32) : (fs_X5 ad o r)[5]? = some (.int (r 5)) := rfl
theorem gs_X5_5 (ad : Nat → Nat) (o : Nat) (r : Nat → Int32) (x : Int32) : (Sum.inr (5, fs_X5 ad o (upd r 5 x)) : va_E) = .inr (5, (fs_X5 ad o r).set 5 (.int x)) := rfl
theorem gv_X5_6 (ad : Nat → Nat) (o : Nat) (r : Nat → Int32) : (fs_X5 ad o r)[6]? = some (.int (r 6)) := rfl
theorem gs_X5_6 (ad : Nat → Nat) (o : Nat) (r : Nat → Int32) (x : Int32) : (Sum.inr (5, fs_X5 ad o (upd r 6 x)) : va_E) = .inr (5, (fs_X5 ad o r).set 6 (.int x)) := rfl
theorem gv_X5_7 (ad : Nat → Nat) (o : Nat) (r : Nat → Int32) : (fs_X5 ad o r)[7]? = some (.int (r 7)) := rfl
theorem gs_X5_7 (ad : Nat → Nat) (o : Nat) (r : Nat → Int32) (x : Int32) : (Sum.inr (5, fs_X5 ad o (upd r 7 x)) : va_E) = .inr (5, (fs_X5 ad o r).set 7 (.int x)) := rfl
theorem gv_X5_8 (ad : Nat → Nat) (o : Nat) (r : Nat → Int32) : (fs_X5 ad o r)[8]? = some (.int (r 8)) := rfl
theorem gs_X5_8 (ad : Nat → Nat) (o : Nat) (r : Nat → Int32) (x : Int32) : (Sum.inr (5, fs_X5 ad o (upd r 8 x)) : va_E) = .inr (5, (fs_X5 ad o r).set 8 (.int x)) := rfl
theorem gv_X5_9 (ad : Nat → Nat) (o : Nat) (r : Nat → Int32) : (fs_X5 ad o r)[9]? = some (.int (r 9)) := rfl
theorem gs_X5_9 (ad : Nat → Nat) (o : Nat) (r : Nat → Int32) (x : Int32) : (Sum.inr (5, fs_X5 ad o (upd r 9 x)) : va_E) = .inr (5, (fs_X5 ad o r).set 9 (.int x)) := rfl
theorem gv_X5_10 (ad : Nat → Nat) (o : Nat) (r : Nat → Int32) : (fs_X5 ad o r)[10]? = some (.int (r 10)) := rfl
theorem gs_X5_10 (ad : Nat → Nat) (o : Nat) (r : Nat → Int32) (x : Int32) : (Sum.inr (5, fs_X5 ad o (upd r 10 x)) : va_E) = .inr (5, (fs_X5 ad o r).set 10 (.int x)) := rfl
theorem gv_X5_11 (ad : Nat → Nat) (o : Nat) (r : Nat → Int32) : (fs_X5 ad o r)[11]? = some (.int (r 11)) := rfl
theorem gs_X5_11 (ad : Nat → Nat) (o : Nat) (r : Nat → Int32) (x : Int32) : (Sum.inr (5, fs_X5 ad o (upd r 11 x)) : va_E) = .inr (5, (fs_X5 ad o r).set 11 (.int x)) := rfl
theorem gv_X5_12 (ad : Nat → Nat) (o : Nat) (r : Nat → Int32) : (fs_X5 ad o r)[12]? = some (.int (r 12)) := rfl
theorem gs_X5_12 (ad : Nat → Nat) (o : Nat) (r : Nat → Int32) (x : Int32) : (Sum.inr (5, fs_X5 ad o (upd r 12 x)) : va_E) = .inr (5, (fs_X5 ad o r).set 12 (.int x)) := rfl
theorem gv_X5_13 (ad : Nat → Nat) (o : Nat) (r : Nat → Int32) : (fs_X5 ad o r)[13]? = some (.int (r 13)) := rfl
theorem gs_X5_13 (ad : Nat → Nat) (o : Nat) (r : Nat → Int32) (x : Int32) : (Sum.inr (5, fs_X5 ad o (upd r 13 x)) : va_E) = .inr (5, (fs_X5 ad o r).set 13 (.int x)) := rfl
theorem gv_X5_14 (ad : Nat → Nat) (o : Nat) (r : Nat → Int32) : (fs_X5 ad o r)[14]? = some (.int (r 14)) := rfl
theorem gs_X5_14 (ad : Nat → Nat) (o : Nat) (r : Nat → Int32) (x : Int32) : (Sum.inr (5, fs_X5 ad o (upd r 14 x)) : va_E) = .inr (5, (fs_X5 ad o r).set 14 (.int x)) := rfl
theorem gv_X5_15 (ad : Nat → Nat) (o : Nat) (r : Nat → Int32) : (fs_X5 ad o r)[15]? = some (.int (r 15)) := rfl
theorem gs_X5_15 (ad : Nat → Nat) (o : Nat) (r : Nat → Int32) (x : Int32) : (Sum.inr (5, fs_X5 ad o (upd r 15 x)) : va_E) = .inr (5, (fs_X5 ad o r).set 15 (.int x)) := rfl
theorem gv_X5_16 (ad : Nat → Nat) (o : Nat) (r : Nat → Int32) : (fs_X5 ad o r)[16]? = some (.ref (ad (r 16).toNatClampNeg)) := rfl
theorem cl_X6 : gx_cl 6 RX6 TX6 6 tyX6 := ⟨rfl, gx_ins _ [341, 343, 345, 347, 349, 351] (by decide +kernel) (by decide +kernel), tyX6_ok, nmX6⟩
theorem gv_X6_0 (ad : Nat → Nat) (o : Nat) (r : Nat → Int32) : (fs_X6 ad o r)[0]? = some (.ref (ad 6)) := rfl
theorem gv_X6_1 (ad : Nat → Nat) (o : Nat) (r : Nat → Int32) : (fs_X6 ad o r)[1]? = some (.int (r 1)) := rfl
theorem gs_X6_1 (ad : Nat → Nat) (o : Nat) (r : Nat → Int32) (x : Int32) : (Sum.inr (6, fs_X6 ad o (upd r 1 x)) : va_E) = .inr (6, (fs_X6 ad o r).set 1 (.int x)) := rfl
theorem gv_X6_2 (ad : Nat → Nat) (o : Nat) (r : Nat → Int32) : (fs_X6 ad o r)[2]? = some (.int (r 2)) := rfl
theorem gs_X6_2 (ad : Nat → Nat) (o : Nat) (r : Nat → Int32) (x : Int32) : (Sum.inr (6, fs_X6 ad o (upd r 2 x)) : va_E) = .inr (6, (fs_X6 ad o r).set 2 (.int x)) := rfl
theorem gv_X6_3 (ad : Nat → Nat) (o : Nat) (r : Nat → Int32) : (fs_X6 ad o r)[3]? = some (.int (r 3)) := rfl
theorem gs_X6_3 (ad : Nat → Nat) (o : Nat) (r : Nat → Int32) (x : Int32) : (Sum.inr (6, fs_X6 ad o (upd r 3 x)) : va_E) = .inr (6, (fs_X6 ad o r).set 3 (.int x)) := rfl
theorem gv_X6_4 (ad : Nat → Nat) (o : Nat) (r : Nat → Int32) : (fs_X6 ad o r)[4]? = some (.int (r 4)) := rfl
theorem gs_X6_4 (ad : Nat → Nat) (o : Nat) (r : Nat → Int32) (x : Int32) : (Sum.inr (6, fs_X6 ad o (upd r 4 x)) : va_E) = .inr (6, (fs_X6 ad o r).set 4 (.int x)) := rfl
theorem gv_X6_5 (ad : Nat → Nat) (o : Nat) (r : Nat → Int32) : (fs_X6 ad o r)[5]? = some (.int (r 5)) := rfl
theorem gs_X6_5 (ad : Nat → Nat) (o : Nat) (r : Nat → Int32) (x : Int32) : (Sum.inr (6, fs_X6 ad o (upd r 5 x)) : va_E) = .inr (6, (fs_X6 ad o r).set 5 (.int x)) := rfl
theorem cl_X7 : gx_cl 7 RX7 TX7 1 tyX7 := ⟨rfl, gx_ins _ [418] (by decide +kernel) (by decide +kernel), tyX7_ok, nmX7⟩
theorem gv_X7_0 (ad : Nat → Nat) (o : Nat) (r : Nat → Int32) : (fs_X7 ad o r)[0]? = some (.ref (ad 9)) := rfl
theorem cl_X8 : gx_cl 8 RX8 TX8 10 tyX8 := ⟨rfl, gx_ins _ [200, 202, 204, 206, 208, 210, 212, 214, 216, 218] (by decide +kernel) (by decide +kernel), tyX8_ok, nmX8⟩
theorem gv_X8_0 (ad : Nat → Nat) (o : Nat) (r : Nat → Int32) : (fs_X8 ad o r)[0]? = some (.ref (ad (o + 2))) := rfl
theorem gv_X8_1 (ad : Nat → Nat) (o : Nat) (r : Nat → Int32) : (fs_X8 ad o r)[1]? = some (.ref (ad (o + 4))) := rfl
theorem gv_X8_2 (ad : Nat → Nat) (o : Nat) (r : Nat → Int32) : (fs_X8 ad o r)[2]? = some (.ref (ad (o + 6))) := rfl
theorem gv_X8_3 (ad : Nat → Nat) (o : Nat) (r : Nat → Int32) : (fs_X8 ad o r)[3]? = some (.int (r 3)) := rfl
theorem gs_X8_3 (ad : Nat → Nat) (o : Nat) (r : Nat → Int32) (x : Int32) : (Sum.inr (8, fs_X8 ad o (upd r 3 x)) : va_E) = .inr (8, (fs_X8 ad o r).set 3 (.int x)) := rfl
theorem gv_X8_4 (ad : Nat → Nat) (o : Nat) (r : Nat → Int32) : (fs_X8 ad o r)[4]? = some (.int (r 4)) := rfl
theorem gs_X8_4 (ad : Nat → Nat) (o : Nat) (r : Nat → Int32) (x : Int32) : (Sum.inr (8, fs_X8 ad o (upd r 4 x)) : va_E) = .inr (8, (fs_X8 ad o r).set 4 (.int x)) := rfl
theorem gv_X8_5 (ad : Nat → Nat) (o : Nat) (r : Nat → Int32) : (fs_X8 ad o r)[5]? = some (.int (r 5)) := rfl
theorem gs_X8_5 (ad : Nat → Nat) (o : Nat) (r : Nat → Int32) (x : Int32) : (Sum.inr (8, fs_X8 ad o (upd r 5 x)) : va_E) = .inr (8, (fs_X8 ad o r).set 5 (.int x)) := rfl
theorem gv_X8_6 (ad : Nat → Nat) (o : Nat) (r : Nat → Int32) : (fs_X8 ad o r)[6]? = some (.int (r 6)) := rfl
theorem gs_X8_6 (ad : Nat → Nat) (o : Nat) (r : Nat → Int32) (x : Int32) : (Sum.inr (8, fs_X8 ad o (upd r 6 x)) : va_E) = .inr (8, (fs_X8 ad o r).set 6 (.int x)) := rfl
theorem gv_X8_7 (ad : Nat → Nat) (o : Nat) (r : Nat → Int32) : (fs_X8 ad o r)[7]? = some (.int (r 7)) := rfl
theorem gs_X8_7 (ad : Nat → Nat) (o : Nat) (r : Nat → Int32) (x : Int32) : (Sum.inr (8, fs_X8 ad o (upd r 7 x)) : va_E) = .inr (8, (fs_X8 ad o r).set 7 (.int x)) := rfl
theorem gv_X8_8 (ad : Nat → Nat) (o : Nat) (r : Nat → Int32) : (fs_X8 ad o r)[8]? = some (.int (r 8)) := rfl
theorem gs_X8_8 (ad : Nat → Nat) (o : Nat) (r : Nat → Int32) (x : Int32) : (Sum.inr (8, fs_X8 ad o (upd r 8 x)) : va_E) = .inr (8, (fs_X8 ad o r).set 8 (.int x)) := rfl
theorem gv_X8_9 (ad : Nat → Nat) (o : Nat) (r : Nat → Int32) : (fs_X8 ad o r)[9]? = some (.int (r 9)) := rfl
theorem gs_X8_9 (ad : Nat → Nat) (o : Nat) (r : Nat → Int32) (x : Int32) : (Sum.inr (8, fs_X8 ad o (upd r 9 x)) : va_E) = .inr (8, (fs_X8 ad o r).set 9 (.int x)) := rfl
theorem cl_X9 : gx_cl 9 RX9 TX9 2 tyX9 := ⟨rfl, gx_ins _ [139, 141] (by decide +kernel) (by decide +kernel), tyX9_ok, nmX9⟩
theorem gv_X9_0 (ad : Nat → Nat) (o : Nat) (r : Nat → Int32) : (fs_X9 ad o r)[0]? = some (.ref (ad (o + 8))) := rfl
theorem gv_X9_1 (ad : Nat → Nat) (o : Nat) (r : Nat → Int32) : (fs_X9 ad o r)[1]? = some (.int (r 1)) := rfl
theorem gs_X9_1 (ad : Nat → Nat) (o : Nat) (r : Nat → Int32) (x : Int32) : (Sum.inr (9, fs_X9 ad o (upd r 1 x)) : va_E) = .inr (9, (fs_X9 ad o r).set 1 (.int x)) := rfl
theorem cl_X10 : gx_cl 10 RX10 TX10 12 tyX10 := ⟨rfl, gx_ins _ [435, 437, 439, 441, 443, 445, 447, 449, 451, 453, 455, 457] (by decide +kernel) (by decide +kernel), tyX10_ok, nmX10⟩
theorem gv_X10_0 (ad : Nat → Nat) (o : Nat) (r : Nat → Int32) : (fs_X10 ad o r)[0]? = some (.ref (ad 1)) := rfl
theorem gv_X10_1 (ad : Nat → Nat) (o : Nat) (r : Nat → Int32) : (fs_X10 ad o r)[1]? = some (.ref (ad 34)) := rfl
theorem gv_X10_2 (ad : Nat → Nat) (o : Nat) (r : Nat → Int32) : (fs_X10 ad o r)[2]? = some (.ref (ad 35)) := rfl
theorem gv_X10_3 (ad : Nat → Nat) (o : Nat) (r : Nat → Int32) : (fs_X10 ad o r)[3]? = some (.ref (ad 4)) := rfl
theorem gv_X10_4 (ad : Nat → Nat) (o : Nat) (r : Nat → Int32) : (fs_X10 ad o r)[4]? = some (.ref (ad 6)) := rfl
theorem gv_X10_5 (ad : Nat → Nat) (o : Nat) (r : Nat → Int32) : (fs_X10 ad o r)[5]? = some (.ref (ad 8)) := rfl
theorem gv_X10_6 (ad : Nat → Nat) (o : Nat) (r : Nat → Int32) : (fs_X10 ad o r)[6]? = some (.ref (ad 110)) := rfl
theorem gv_X10_7 (ad : Nat → Nat) (o : Nat) (r : Nat → Int32) : (fs_X10 ad o r)[7]? = some (.ref (ad 10)) := rfl
theorem gv_X10_8 (ad : Nat → Nat) (o : Nat) (r : Nat → Int32) : (fs_X10 ad o r)[8]? = some (.ref (ad 11)) := rfl
theorem gv_X10_9 (ad : Nat → Nat) (o : Nat) (r : Nat → Int32) : (fs_X10 ad o r)[9]? = some (.int (r 9)) := rfl
theorem gs_X10_9 (ad : Nat → Nat) (o : Nat) (r : Nat → Int32) (x : Int32) : (Sum.inr (10, fs_X10 ad o (upd r 9 x)) : va_E) = .inr (10, (fs_X10 ad o r).set 9 (.int x)) := rfl
theorem gv_X10_10 (ad : Nat → Nat) (o : Nat) (r : Nat → Int32) : (fs_X10 ad o r)[10]? = some (.int (r 10)) := rfl
theorem gs_X10_10 (ad : Nat → Nat) (o : Nat) (r : Nat → Int32) (x : Int32) : (Sum.inr (10, fs_X10 ad o (upd r 10 x)) : va_E) = .inr (10, (fs_X10 ad o r).set 10 (.int x)) := rfl
theorem gv_X10_11 (ad : Nat → Nat) (o : Nat) (r : Nat → Int32) : (fs_X10 ad o r)[11]? = some (.int (r 11)) := rfl
theorem gs_X10_11 (ad : Nat → Nat) (o : Nat) (r : Nat → Int32) (x : Int32) : (Sum.inr (10, fs_X10 ad o (upd r 11 x)) : va_E) = .inr (10, (fs_X10 ad o r).set 11 (.int x)) := rfl
theorem cl_X11 : gx_cl 11 RX11 TX11 42 tyX11 := ⟨rfl, gx_ins _ [1044, 1046, 1048, 1050, 1052, 1054, 1056, 1058, 1060, 1062, 1064, 1066, 1068, 1070, 1072, 1074, 1076, 1078, 1080, 1082, 1084, 1086, 1088, 1090, 1092, 1094, 1096, 1098, 1100, 1102, 1104, 1106, 1108, 1110, 1112, 1114, 1116, 1118, 1120, 1122, 1124, 1126] (by decide +kernel) (by decide +kernel), tyX11_ok, nmX11⟩
theorem gv_X11_0 (ad : Nat → Nat) (o : Nat) (r : Nat → Int32) : (fs_X11 ad o r)[0]? = some (.ref (ad 1)) := rfl
theorem gv_X11_1 (ad : Nat → Nat) (o : Nat) (r : Nat → Int32) : (fs_X11 ad o r)[1]? = some (.ref (ad 2)) := rfl
theorem gv_X11_2 (ad : Nat → Nat) (o : Nat) (r : Nat → Int32) : (fs_X11 ad o r)[2]? = some (.ref (ad 3)) := rfl
theorem gv_X11_3 (ad : Nat → Nat) (o : Nat) (r : Nat → Int32) : (fs_X11 ad o r)[3]? = some (.int (r 3)) := rfl
theorem gs_X11_3 (ad : Nat → Nat) (o : Nat) (r : Nat → Int32) (x : Int32) : (Sum.inr (11, fs_X11 ad o (upd r 3 x)) : va_E) = .inr (11, (fs_X11 ad o r).set 3 (.int x)) := rfl
theorem gv_X11_4 (ad : Nat → Nat) (o : Nat) (r : Nat → Int32) : (fs_X11 ad o r)[4]? = some (.int (r 4)) := rfl
theorem gs_X11_4 (ad : Nat → Nat) (o : Nat) (r : Nat → Int32) (x : Int32) : (Sum.inr (11, fs_X11 ad o (upd r 4 x)) : va_E) = .inr (11, (fs_X11 ad o r).set 4 (.int x)) := rfl
theorem gv_X11_5 (ad : Nat → Nat) (o : Nat) (r : Nat → Int32) : (fs_X11 ad o r)[5]? = some (.int (r 5)) := rfl
theorem gs_X11_5 (ad : Nat → Nat) (o : Nat) (r : Nat → Int32) (x : Int32) : (Sum.inr (11, fs_X11 ad o (upd r 5 x)) : va_E) = .inr (11, (fs_X11 ad o r).set 5 (.int x)) := rfl
theorem gv_X11_6 (ad : Nat → Nat) (o : Nat) (r : Nat → Int32) : (fs_X11 ad o r)[6]? = some (.ref (ad 4)) := rfl
theorem gv_X11_7 (ad : Nat → Nat) (o : Nat) (r : Nat → Int32) : (fs_X11 ad o r)[7]? = some (.ref (ad 5)) := rfl
theorem gv_X11_8 (ad : Nat → Nat) (o : Nat) (r : Nat → Int32) : (fs_X11 ad o r)[8]? = some (.ref (ad 6)) := rfl
theorem gv_X11_9 (ad : Nat → Nat) (o : Nat) (r : Nat → Int32) : (fs_X11 ad o r)[9]? = some (.ref (ad 7)) := rfl
theorem gv_X11_10 (ad : Nat → Nat) (o : Nat) (r : Nat → Int32) : (fs_X11 ad o r)[10]? = some (.ref (ad 8)) := rfl
theorem gv_X11_11 (ad : Nat → Nat) (o : Nat) (r : Nat → Int32) : (fs_X11 ad o r)[11]? = some (.ref (ad 9)) := rfl
theorem gv_X11_12 (ad : Nat → Nat) (o : Nat) (r : Nat → Int32) : (fs_X11 ad o r)[12]? = some (.int (r 12)) := rfl
theorem gs_X11_12 (ad : Nat → Nat) (o : Nat) (r : Nat → Int32) (x : Int32) : (Sum.inr (11, fs_X11 ad o (upd r 12 x)) : va_E) = .inr (11, (fs_X11 ad o r).set 12 (.int x)) := rfl
theorem gv_X11_13 (ad : Nat → Nat) (o : Nat) (r : Nat → Int32) : (fs_X11 ad o r)[13]? = some (.int (r 13)) := rfl
theorem gs_X11_13 (ad : Nat → Nat) (o : Nat) (r : Nat → Int32) (x : Int32) : (Sum.inr (11, fs_X11 ad o (upd r 13 x)) : va_E) = .inr (11, (fs_X11 ad o r).set 13 (.int x)) := rfl
theorem gv_X11_14 (ad : Nat → Nat) (o : Nat) (r : Nat → Int32) : (fs_X11 ad o r)[14]? = some (.int (r 14)) := rfl
theorem gs_X11_14 (ad : Nat → Nat) (o : Nat) (r : Nat → Int32) (x : Int32) : (Sum.inr (11, fs_X11 ad o (upd r 14 x)) : va_E) = .inr (11, (fs_X11 ad o r).set 14 (.int x)) := rfl
theorem gv_X11_15 (ad : Nat → Nat) (o : Nat) (r : Nat → Int32) : (fs_X11 ad o r)[15]? = some (.int (r 15)) := rfl
theorem gs_X11_15 (ad : Nat → Nat) (o : Nat) (r : Nat → Int32) (x : Int32) : (Sum.inr (11, fs_X11 ad o (upd r 15 x)) : va_E) = .inr (11, (fs_X11 ad o r).set 15 (.int x)) := rfl
theorem gv_X11_16 (ad : Nat → Nat) (o : Nat) (r : Nat → Int32) : (fs_X11 ad o r)[16]? = some (.int (r 16)) := rfl
theorem gs_X11_16 (ad : Nat → Nat) (o : Nat) (r : Nat → Int32) (x : Int32) : (Sum.inr (11, fs_X11 ad o (upd r 16 x)) : va_E) = .inr (11, (fs_X11 ad o r).set 16 (.int x)) := rfl
theorem gv_X11_17 (ad : Nat → Nat) (o : Nat) (r : Nat → Int32) : (fs_X11 ad o r)[17]? = some (.int (r 17)) := rfl
theorem gs_X11_17 (ad : Nat → Nat) (o : Nat) (r : Nat → Int32) (x : Int32) : (Sum.inr (11, fs_X11 ad o (upd r 17 x)) : va_E) = .inr (11, (fs_X11 ad o r).set 17 (.int x)) := rfl
theorem gv_X11_18 (ad : Nat → Nat) (o : Nat) (r : Nat → Int32) : (fs_X11 ad o r)[18]? = some (.int (r 18)) := rfl
theorem gs_X11_18 (ad : Nat → Nat) (o : Nat) (r : Nat → Int32) (x : Int32) : (Sum.inr (11, fs_X11 ad o (upd r 18 x)) : va_E) = .inr (11, (fs_X11 ad o r).set 18 (.int x)) := rfl
theorem gv_X11_19 (ad : Nat → Nat) (o : Nat) (r : Nat → Int32) : (fs_X11 ad o r)[19]? = some (.int (r 19)) := rfl
theorem gs_X11_19 (ad : Nat → Nat) (o : Nat) (r : Nat → Int32) (x : Int32) : (Sum.inr (11, fs_X11 ad o (upd r 19 x)) : va_E) = .inr (11, (fs_X11 ad o r).set 19 (.int x)) := rfl
theorem gv_X11_20 (ad : Nat → Nat) (o : Nat) (r : Nat → Int32) : (fs_X11 ad o r)[20]? = some (.int (r 20)) := rfl
theorem gs_X11_20 (ad : Nat → Nat) (o : Nat) (r : Nat → Int32) (x : Int32) : (Sum.inr (11, fs_X11 ad o (upd r 20 x)) : va_E) = .inr (11, (fs_X11 ad o r).set 20 (.int x)) := rfl
theorem gv_X11_21 (ad : Nat → Nat) (o : Nat) (r : Nat → Int32) : (fs_X11 ad o r)[21]? = some (.ref (ad 10)) := rfl
theorem gv_X11_22 (ad : Nat → Nat) (o : Nat) (r : Nat → Int32) : (fs_X11 ad o r)[22]? = some (.ref (ad 11)) := rfl
theorem gv_X11_23 (ad : Nat → Nat) (o : Nat) (r : Nat → Int32) : (fs_X11 ad o r)[23]? = some (.int (r 23)) := rfl
theorem gs_X11_23 (ad : Nat → Nat) (o : Nat) (r : Nat → Int32) (x : Int32) : (Sum.inr (11, fs_X11 ad o (upd r 23 x)) : va_E) = .inr (11, (fs_X11 ad o r).set 23 (.int x)) := rfl
theorem gv_X11_24 (ad : Nat → Nat) (o : Nat) (r : Nat → Int32) : (fs_X11 ad o r)[24]? = some (.ref (ad 12)) := rfl
theorem gv_X11_25 (ad : Nat → Nat) (o : Nat) (r : Nat → Int32) : (fs_X11 ad o r)[25]? = some (.ref (ad 13)) := rfl
theorem gv_X11_26 (ad : Nat → Nat) (o : Nat) (r : Nat → Int32) : (fs_X11 ad o r)[26]? = some (.int (r 26)) := rfl
theorem gs_X11_26 (ad : Nat → Nat) (o : Nat) (r : Nat → Int32) (x : Int32) : (Sum.inr (11, fs_X11 ad o (upd r 26 x)) : va_E) = .inr (11, (fs_X11 ad o r).set 26 (.int x)) := rfl
theorem gv_X11_27 (ad : Nat → Nat) (o : Nat) (r : Nat → Int32) : (fs_X11 ad o r)[27]? = some (.int (r 27)) := rfl
theorem gs_X11_27 (ad : Nat → Nat) (o : Nat) (r : Nat → Int32) (x : Int32) : (Sum.inr (11, fs_X11 ad o (upd r 27 x)) : va_E) = .inr (11, (fs_X11 ad o r).set 27 (.int x)) := rfl
theorem gv_X11_28 (ad : Nat → Nat) (o : Nat) (r : Nat → Int32) : (fs_X11 ad o r)[28]? = some (.ref (ad 14)) := rfl
theorem gv_X11_29 (ad : Nat → Nat) (o : Nat) (r : Nat → Int32) : (fs_X11 ad o r)[29]? = some (.ref (ad 15)) := rfl
theorem gv_X11_30 (ad : Nat → Nat) (o : Nat) (r : Nat → Int32) : (fs_X11 ad o r)[30]? = some (.int (r 30)) := rfl
theorem gs_X11_30 (ad : Nat → Nat) (o : Nat) (r : Nat → Int32) (x : Int32) : (Sum.inr (11, fs_X11 ad o (upd r 30 x)) : va_E) = .inr (11, (fs_X11 ad o r).set 30 (.int x)) := rfl
theorem gv_X11_31 (ad : Nat → Nat) (o : Nat) (r : Nat → Int32) : (fs_X11 ad o r)[31]? = some (.ref (ad 16)) := rfl
theorem gv_X11_32 (ad : Nat → Nat) (o : Nat) (r : Nat → Int32) : (fs_X11 ad o r)[32]? = some (.ref (ad 17)) := rfl
theorem gv_X11_33 (ad : Nat → Nat) (o : Nat) (r : Nat → Int32) : (fs_X11 ad o r)[33]? = some (.ref (ad 18)) := rfl
theorem gv_X11_34 (ad : Nat → Nat) (o : Nat) (r : Nat → Int32) : (fs_X11 ad o r)[34]? = some (.ref (ad 19)) := rfl
theorem gv_X11_35 (ad : Nat → Nat) (o : Nat) (r : Nat → Int32) : (fs_X11 ad o r)[35]? = some (.int (r 35)) := rfl
theorem gs_X11_35 (ad : Nat → Nat) (o : Nat) (r : Nat → Int32) (x : Int32) : (Sum.inr (11, fs_X11 ad o (upd r 35 x)) : va_E) = .inr (11, (fs_X11 ad o r).set 35 (.int x)) := rfl
theorem gv_X11_36 (ad : Nat → Nat) (o : Nat) (r : Nat → Int32) : (fs_X11 ad o r)[36]? = some (.ref (ad 20)) := rfl
theorem gv_X11_37 (ad : Nat → Nat) (o : Nat) (r : Nat → Int32) : (fs_X11 ad o r)[37]? = some (.ref (ad 21)) := rfl
theorem gv_X11_38 (ad : Nat → Nat) (o : Nat) (r : Nat → Int32) : (fs_X11 ad o r)[38]? = some (.ref (ad 22)) := rfl
theorem gv_X11_39 (ad : Nat → Nat) (o : Nat) (r : Nat → Int32) : (fs_X11 ad o r)[39]? = some (.int (r 39)) := rfl
theorem gs_X11_39 (ad : Nat → Nat) (o : Nat) (r : Nat → Int32) (x : Int32) : (Sum.inr (11, fs_X11 ad o (upd r 39 x)) : va_E) = .inr (11, (fs_X11 ad o r).set 39 (.int x)) := rfl
theorem gv_X11_40 (ad : Nat → Nat) (o : Nat) (r : Nat → Int32) : (fs_X11 ad o r)[40]? = some (.int (r 40)) := rfl
theorem gs_X11_40 (ad : Nat → Nat) (o : Nat) (r : Nat → Int32) (x : Int32) : (Sum.inr (11, fs_X11 ad o (upd r 40 x)) : va_E) = .inr (11, (fs_X11 ad o r).set 40 (.int x)) := rfl
theorem gv_X11_41 (ad : Nat → Nat) (o : Nat) (r : Nat → Int32) : (fs_X11 ad o r)[41]? = some (.ref (ad 23)) := rfl
theorem gs_X5_16 (ad : Nat → Nat) (o q : Nat) (r : Nat → Int32) (hq : (nI q).toNatClampNeg = q) : (Sum.inr (5, fs_X5 ad o (upd r 16 (nI q))) : va_E) = .inr (5, (fs_X5 ad o r).set 16 (.ref (ad q))) := by
  have e : fs_X5 ad o (upd r 16 (nI q)) = (fs_X5 ad o r).set 16 (.ref (ad q)) := by
    unfold fs_X5
    simp [upd, hq]
  rw [e]
end
section
def va_AOA (ty : FieldType) (U : State) : Prop := (Cond.arrayOver (.array ty)).before #[] U = true
theorem va_AOA.use {ty : FieldType} {A : Array Value} {U : State} (h : va_AOA ty U) : (Cond.arrayOver (.array ty)).before A U = true := h
/-! ===== BEGIN new T[n][m]: the outer array a place, the inner ones among the pooled ===== -/
/-- f, but v at every address of l -/
def vr_up {α : Type} (f : Nat → α) (l : List Nat) (v : α) : Nat → α := fun a => if a ∈ l then v else f a
theorem vr_up_in {α : Type} {f : Nat → α} {l : List Nat} {v : α} {a : Nat} (h : a ∈ l) : vr_up f l v a = v := if_pos h
theorem vr_up_ne {α : Type} {f : Nat → α} {l : List Nat} {v : α} {a : Nat} (h : a ∉ l) : vr_up f l v a = f a := if_neg h
theorem vr_rows {L l : List Nat} {f : Nat → va_E} {e : va_E} (h : ∀ a, a ∈ l → a ∉ L) : va_pl L f ++ l.map (fun a => (a, e)) = va_pl (L ++ l) (vr_up f l e) := by
  unfold va_pl
  rw [List.map_append]
  congr 1
  · apply List.map_congr_left
    intro a ha
    rw [vr_up_ne (fun q => h a q ha)]
  · apply List.map_congr_left
    intro a ha
    rw [vr_up_in ha]
theorem vr_lay {X rows : va_W} {x : Nat × va_E} {pl : va_W} {D : va_G} {cl : List vw_C} {H : Heap} (hP : va_P D cl (((X ++ pl) ++ [x]) ++ rows) H) : va_P D cl ((X ++ [x]) ++ (pl ++ rows)) H := by
  rw [List.append_assoc (X ++ pl)] at hP
  have h := va_P.swap hP
  rw [← List.append_assoc X] at h
  have h2 := va_P.swap h
  rw [List.append_assoc (X ++ [x])] at h2
  exact h2
theorem vr_layD {X rows : va_W} {x : Nat × va_E} {pl : va_W} {A : Nat → Prop} (hD : va_D A (((X ++ pl) ++ [x]) ++ rows)) : va_D A ((X ++ [x]) ++ (pl ++ rows)) := by
  rw [List.append_assoc (X ++ pl)] at hD
  have h := va_D.swap hD
  rw [← List.append_assoc X] at h
  have h2 := va_D.swap h
  rw [List.append_assoc (X ++ [x])] at h2
  exact h2
theorem vr_outer (c : ClassId) (N h0 : Nat) : ∀ i : Nat, Jvm.Free.Multi.outerC c N h0 i = arrV c N (fun j => va_rf (if j < i then some (h0 + 1 + j) else none))
  | 0 => by
    show ({ cls := c, slots := Array.replicate N .null, vm := .none } : Cell) = _
    rw [arrV_new]
    refine congrArg (arrV c N) (funext fun j => ?_)
    simp [va_rf]
  | i + 1 => by
    show (Jvm.Free.Multi.outerC c N h0 i).setSlot i (.ref (h0 + 1 + i)) = _
    rw [vr_outer c N h0 i, arrV_store]
    refine congrArg (arrV c N) (funext fun j => ?_)
    by_cases e : j = i
    · subst e
      simp [updV, va_rf]
    · by_cases h : j < i
      · simp [updV, e, h, Nat.lt_succ_of_lt h]
      · simp [updV, e, h, show ¬ j < i + 1 by omega]
section VGM
variable {p : Program} {l : Launch} {e : Env} {R : Room} {s : State} {m : MethodId} {args : Array Value} {below : List Frame} {meth : Method} {c : Code} {H : Heap} {locs : List Loc} {cells slots : Nat} {Q : State → Prop}
variable {cc : ByteArray} {pc : Nat} {ls : Array Slot} {rest : List Value} {D : va_G} {cl : List vw_C} {A : Nat → Prop} {a : Nat} {tys : List (ClassId × FieldType)} {ws : va_W} {H0 : Heap}
theorem va_mna {X : va_W} {L : List Nat} {f : Nat → va_E} {cc : ByteArray} (hexec : p.tables.exec = Jvm.exec) (hb : c.code = cc) {own : String} {index : Nat} {ty : FieldType} {cy : ClassId} (hown : s.vm.findClass own = some m.cls) (hclink : (Cond.classLink own index ("[" ++ (FieldType.array ty).toString)).before args s = true) (hover : va_AOA ty s) (harr : (Cond.arrayClass ty).before args s = true) (hcy : s.vm.findClass (FieldType.array ty).toString = some cy)
    (hK : va_K D cl tys s) (hP : va_P D cl (X ++ va_pl L f) H) (hD : va_D A (X ++ va_pl L f)) (hS : va_S A H0 H locs) (hA : ∀ q, H0.size ≤ q → A q) {n k : Int32} {N' K' : Nat} {z : vp_A} (hn : ¬ n < 0) (hk : ¬ k < 0) (hN : n.toNatClampNeg = N') (hM : k.toNatClampNeg = K')
    (hb1 : N' * 4 ≤ 536870912) (hb2 : K' * componentBytes ty ≤ 536870912) (hb3 : K' ≤ 536870912) (hdf : fits ty (defaultValue ty) = true) (hdd : (defaultValue ty).isDefault = true) (hcells : cells + (1 + N') ≤ R.cells) (hslots : slots + (N' + N' * K') ≤ R.slots) (hz : ∀ c : ClassId, Jvm.Free.Multi.innerC c K' (defaultValue ty) = vp_cell c z) (hdg : decode cc pc = .ok (.multianewarray index 2, 4))
    (kk : ∀ (q : Nat) (r : Nat → Nat) (cA : ClassId) (H1 : Heap), (∀ i j : Nat, i < N' → j < N' → r i = r j → i = j) → (∀ i : Nat, i < N' → r i ∉ L) → va_K D cl (tys ++ [(cA, .array ty)]) s →
      va_P D cl ((X ++ [(q, .inl (cA, N', .inr (.inr (.inr (.inr (fun i => if i < N' then some (r i) else none))))))]) ++ va_pl (L ++ (List.range N').map r) (vr_up f ((List.range N').map r) (.inl (cy, z)))) H1 → va_D A ((X ++ [(q, .inl (cA, N', .inr (.inr (.inr (.inr (fun i => if i < N' then some (r i) else none))))))]) ++ va_pl (L ++ (List.range N').map r) (vr_up f ((List.range N').map r) (.inl (cy, z)))) → va_S A H0 H1 locs →
      W p l e R s m args below meth c H1 locs (cells + 1 + N') (slots + N' + N' * K') Q (F0 m (pc + 4) ls (.ref q :: rest))) : W p l e R s m args below meth c H locs cells slots Q (F0 m pc ls (.int k :: .int n :: rest)) := by
  subst hN
  subst hM
  intro T hT Xs
  obtain ⟨vm₁, cA, comp, -, fA, fC, hO, -, X', step⟩ := Xs.multianewarray2F hexec hown hclink (va_AOA.use hover) harr (g := F0 m pc ls (.int k :: .int n :: rest)) rfl (by rw [hb]; exact hdg) rfl hn hk hb1 hb2 hb3 hdf hdd hcells hslots
  have ec : some cy = some comp := hcy.symm.trans fC
  cases ec
  generalize hF : Jvm.Free.Multi.fill (T.setVm vm₁) cA cy n.toNatClampNeg k.toNatClampNeg (defaultValue ty) n.toNatClampNeg = F at X' step
  have hTh : (T.setVm vm₁).heap = H := hT
  obtain ⟨f1, f2, -, -⟩ := Jvm.Free.Multi.fill_facts (T.setVm vm₁) cA cy n.toNatClampNeg k.toNatClampNeg (defaultValue ty) n.toNatClampNeg
  rw [hF, hTh] at f1 f2
  have hold : ∀ x : Nat, x < H.size → F.heap[x]? = H[x]? := fun x hx => by
    have := Jvm.Free.Multi.fill_old (T.setVm vm₁) cA cy n.toNatClampNeg k.toNatClampNeg (defaultValue ty) (a := x) (by rw [hTh]; exact hx) n.toNatClampNeg
    rw [hF, hTh] at this
    exact this
  have hrow : ∀ j : Nat, j < n.toNatClampNeg → F.heap[H.size + 1 + j]? = some (vp_cell cy z) := fun j hj => by
    have := Jvm.Free.Multi.fill_inner (T.setVm vm₁) cA cy n.toNatClampNeg k.toNatClampNeg (defaultValue ty) n.toNatClampNeg j hj
    rw [hF, hTh, hz] at this
    exact this
  have hout : Jvm.Free.Multi.outerC cA n.toNatClampNeg H.size n.toNatClampNeg = vp_cell cA (n.toNatClampNeg, .inr (.inr (.inr (.inr (fun i => if i < n.toNatClampNeg then some (H.size + 1 + i) else none))))) := by
    rw [vp_cell_q]
    exact vr_outer cA n.toNatClampNeg H.size n.toNatClampNeg
  rw [hout] at f2
  have hlt : ∀ a, a ∈ L → a < H.size := fun a ha => by
    obtain ⟨k9, hk9⟩ := va_pl_get (X := X) (f := f) ha
    exact (hP k9 _ hk9).lt
  have hnl : ∀ i : Nat, i < n.toNatClampNeg → H.size + 1 + i ∉ L := fun i _ h => by
    have := hlt _ h
    omega
  have hnm : ∀ a, a ∈ (List.range n.toNatClampNeg).map (fun i => H.size + 1 + i) → a ∉ L := fun a ha h => by
    obtain ⟨i, -, rfl⟩ := List.mem_map.mp ha
    have := hlt _ h
    omega
  have hP0 : va_P D cl (X ++ va_pl L f) F.heap := hP.kept (fun k9 x hx => hold x.1 ((hP k9 x hx).lt))
  have hP1 : va_P D cl ((X ++ va_pl L f) ++ [(H.size, .inl (cA, n.toNatClampNeg, .inr (.inr (.inr (.inr (fun i => if i < n.toNatClampNeg then some (H.size + 1 + i) else none))))))]) F.heap := hP0.app (fun k9 x hx => by
    have h0 : k9 < 1 := (List.getElem?_eq_some_iff.mp hx).1
    rw [show k9 = 0 by omega] at hx
    cases hx
    exact f2)
  have hP2 : va_P D cl (((X ++ va_pl L f) ++ [(H.size, .inl (cA, n.toNatClampNeg, .inr (.inr (.inr (.inr (fun i => if i < n.toNatClampNeg then some (H.size + 1 + i) else none))))))]) ++ ((List.range n.toNatClampNeg).map (fun i => H.size + 1 + i)).map (fun a => (a, .inl (cy, z)))) F.heap := hP1.app (fun k9 x hx => by
    obtain ⟨a, ha, rfl⟩ := List.mem_map.mp (List.mem_of_getElem? hx)
    obtain ⟨i, hi, rfl⟩ := List.mem_map.mp ha
    exact hrow i (List.mem_range.mp hi))
  have hD2 : va_D A (((X ++ va_pl L f) ++ [(H.size, .inl (cA, n.toNatClampNeg, .inr (.inr (.inr (.inr (fun i => if i < n.toNatClampNeg then some (H.size + 1 + i) else none))))))]) ++ ((List.range n.toNatClampNeg).map (fun i => H.size + 1 + i)).map (fun a => (a, .inl (cy, z)))) := by
    have hD1 := hD.push (e := .inl (cA, n.toNatClampNeg, .inr (.inr (.inr (.inr (fun i => if i < n.toNatClampNeg then some (H.size + 1 + i) else none)))))) hP rfl (hA _ hS.1)
    generalize hW1 : (X ++ va_pl L f) ++ [(H.size, .inl (cA, n.toNatClampNeg, .inr (.inr (.inr (.inr (fun i => if i < n.toNatClampNeg then some (H.size + 1 + i) else none))))))] = W1 at hD1 hP1 ⊢
    have hle : ∀ (k9 : Nat) (x : Nat × va_E), W1[k9]? = some x → x.1 ≤ H.size := fun k9 x hx => by
      rw [← hW1] at hx
      by_cases hl : k9 < (X ++ va_pl L f).length
      · rw [List.getElem?_append_left hl] at hx
        exact Nat.le_of_lt ((hP k9 x hx).lt)
      · rw [List.getElem?_append_right (by omega)] at hx
        have h0 : k9 - (X ++ va_pl L f).length < 1 := (List.getElem?_eq_some_iff.mp hx).1
        rw [show k9 - (X ++ va_pl L f).length = 0 by omega] at hx
        cases hx
        exact Nat.le_refl _
    have hr : ∀ (k9 : Nat) (x : Nat × va_E), (((List.range n.toNatClampNeg).map (fun i => H.size + 1 + i)).map (fun a => ((a, .inl (cy, z)) : Nat × va_E)))[k9]? = some x → x.1 = H.size + 1 + k9 := fun k9 x hx => by
      rw [List.getElem?_map, List.getElem?_map] at hx
      by_cases h9 : k9 < n.toNatClampNeg
      · rw [List.getElem?_range h9] at hx
        cases hx
        rfl
      · have hn0 : (List.range n.toNatClampNeg)[k9]? = none := List.getElem?_eq_none (by rw [List.length_range]; omega)
        rw [hn0] at hx
        cases hx
    refine ⟨fun i j x y hi hj hxy => ?_, fun k9 x hx => ?_⟩
    · by_cases h1 : i < W1.length <;> by_cases h2 : j < W1.length
      · rw [List.getElem?_append_left h1] at hi
        rw [List.getElem?_append_left h2] at hj
        exact hD1.1 i j x y hi hj hxy
      · rw [List.getElem?_append_left h1] at hi
        rw [List.getElem?_append_right (by omega)] at hj
        have := hle _ _ hi
        have := hr _ _ hj
        omega
      · rw [List.getElem?_append_right (by omega)] at hi
        rw [List.getElem?_append_left h2] at hj
        have := hle _ _ hj
        have := hr _ _ hi
        omega
      · rw [List.getElem?_append_right (by omega)] at hi hj
        have := hr _ _ hi
        have := hr _ _ hj
        omega
    · by_cases h1 : k9 < W1.length
      · rw [List.getElem?_append_left h1] at hx
        exact hD1.2 k9 x hx
      · rw [List.getElem?_append_right (by omega)] at hx
        have := hr _ _ hx
        exact hA _ (by have := hS.1; omega)
  have hAr : ArrOfT s cA (.array ty) := fun N9 z9 => by
    obtain ⟨-, k9, hk9, cm9, hkk9⟩ := (hO 0 0 0).1
    exact ⟨(fun q hq => by cases hq), k9, hk9, cm9, hkk9⟩
  have hK2 : va_K D cl (tys ++ [(cA, .array ty)]) s := ⟨hK.1, fun k9 x hx => by
    by_cases hl : k9 < tys.length
    · rw [List.getElem?_append_left hl] at hx
      exact hK.2 k9 x hx
    · rw [List.getElem?_append_right (by omega)] at hx
      have h0 : k9 - tys.length < 1 := (List.getElem?_eq_some_iff.mp hx).1
      rw [show k9 - tys.length = 0 by omega] at hx
      cases hx
      exact ⟨hAr, fA⟩⟩
  obtain ⟨t, a1, b1⟩ := kk H.size (fun i => H.size + 1 + i) cA F.heap (fun i j _ _ h => by have h9 : H.size + 1 + i = H.size + 1 + j := h; omega) hnl hK2 (by rw [← vr_rows hnm]; exact vr_lay hP2) (by rw [← vr_rows hnm]; exact vr_layD hD2) ⟨by rw [f1]; have := hS.1; omega, fun x h1 h2 => (hold x (Nat.lt_of_lt_of_le h1 hS.1)).trans (hS.2.1 x h1 h2), hS.2.2⟩ F rfl X'
  refine ⟨t, step t ?_, b1⟩
  have e : T.heap.size = H.size := by rw [hT]
  rw [e]
  exact a1
end VGM
/-! ===== END ===== -/
end
