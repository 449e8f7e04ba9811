-- ===== PART A: goes FIRST, ahead of the names: the tables' words, and 'selects' of the private methods out of them =====
/-- a private method of a class that the tables say can be made, by its rows of tables_1 -/
def lw_okq (q : MethodName × Nat) : Prop := (q.1.cls ≠ "java/lang/invoke/MethodHandle" ∧ q.1.cls ≠ "java/lang/invoke/VarHandle") ∧ Cond.instantiable q.1.cls q.2 ∈ tables_1 ∧ Cond.privateMethod q.1 ∈ tables_1 ∧ Cond.instanceMethod q.1 ∈ tables_1
theorem lw_p0 : lw_okq (⟨"GreenLine", "feedNumber", "(I)V"⟩, 12) := ⟨⟨by decide +kernel, by decide +kernel⟩, List.mem_of_getElem? (i := 20) (by decide +kernel), List.mem_of_getElem? (i := 501) (by decide +kernel), List.mem_of_getElem? (i := 502) (by decide +kernel)⟩
theorem lw_p1 : lw_okq (⟨"GreenLine", "takeSamples", "(II)I"⟩, 12) := ⟨⟨by decide +kernel, by decide +kernel⟩, List.mem_of_getElem? (i := 20) (by decide +kernel), List.mem_of_getElem? (i := 824) (by decide +kernel), List.mem_of_getElem? (i := 825) (by decide +kernel)⟩
theorem lw_p2 : lw_okq (⟨"GreenLine", "guessFits", "(I)Z"⟩, 12) := ⟨⟨by decide +kernel, by decide +kernel⟩, List.mem_of_getElem? (i := 20) (by decide +kernel), List.mem_of_getElem? (i := 830) (by decide +kernel), List.mem_of_getElem? (i := 831) (by decide +kernel)⟩
theorem lw_p3 : lw_okq (⟨"GreenLine", "copyBits", "(I[I)V"⟩, 12) := ⟨⟨by decide +kernel, by decide +kernel⟩, List.mem_of_getElem? (i := 20) (by decide +kernel), List.mem_of_getElem? (i := 860) (by decide +kernel), List.mem_of_getElem? (i := 861) (by decide +kernel)⟩
theorem lw_p4 : lw_okq (⟨"GreenLine", "unlike", "([II)I"⟩, 12) := ⟨⟨by decide +kernel, by decide +kernel⟩, List.mem_of_getElem? (i := 20) (by decide +kernel), List.mem_of_getElem? (i := 870) (by decide +kernel), List.mem_of_getElem? (i := 871) (by decide +kernel)⟩
theorem lw_p5 : lw_okq (⟨"GreenLine", "lowest", "(III)I"⟩, 12) := ⟨⟨by decide +kernel, by decide +kernel⟩, List.mem_of_getElem? (i := 20) (by decide +kernel), List.mem_of_getElem? (i := 879) (by decide +kernel), List.mem_of_getElem? (i := 880) (by decide +kernel)⟩
theorem lw_p6 : lw_okq (⟨"GreenLine", "highest", "(III)I"⟩, 12) := ⟨⟨by decide +kernel, by decide +kernel⟩, List.mem_of_getElem? (i := 20) (by decide +kernel), List.mem_of_getElem? (i := 884) (by decide +kernel), List.mem_of_getElem? (i := 885) (by decide +kernel)⟩
theorem lw_p7 : lw_okq (⟨"GreenLine", "rise", "(IIIIII)I"⟩, 12) := ⟨⟨by decide +kernel, by decide +kernel⟩, List.mem_of_getElem? (i := 20) (by decide +kernel), List.mem_of_getElem? (i := 888) (by decide +kernel), List.mem_of_getElem? (i := 889) (by decide +kernel)⟩
theorem lw_p8 : lw_okq (⟨"GreenLine", "wide", "(IIII)I"⟩, 12) := ⟨⟨by decide +kernel, by decide +kernel⟩, List.mem_of_getElem? (i := 20) (by decide +kernel), List.mem_of_getElem? (i := 892) (by decide +kernel), List.mem_of_getElem? (i := 893) (by decide +kernel)⟩
theorem lw_p9 : lw_okq (⟨"GreenLine", "leastRise", "(I)I"⟩, 12) := ⟨⟨by decide +kernel, by decide +kernel⟩, List.mem_of_getElem? (i := 20) (by decide +kernel), List.mem_of_getElem? (i := 896) (by decide +kernel), List.mem_of_getElem? (i := 897) (by decide +kernel)⟩
theorem lw_p10 : lw_okq (⟨"GreenLine", "greatestRise", "(I)I"⟩, 12) := ⟨⟨by decide +kernel, by decide +kernel⟩, List.mem_of_getElem? (i := 20) (by decide +kernel), List.mem_of_getElem? (i := 900) (by decide +kernel), List.mem_of_getElem? (i := 901) (by decide +kernel)⟩
theorem lw_p11 : lw_okq (⟨"GreenLine", "aboutInputs", "(I)I"⟩, 12) := ⟨⟨by decide +kernel, by decide +kernel⟩, List.mem_of_getElem? (i := 20) (by decide +kernel), List.mem_of_getElem? (i := 935) (by decide +kernel), List.mem_of_getElem? (i := 936) (by decide +kernel)⟩
theorem lw_p12 : lw_okq (⟨"GreenLineModel", "copies", "(Z)V"⟩, 42) := ⟨⟨by decide +kernel, by decide +kernel⟩, List.mem_of_getElem? (i := 939) (by decide +kernel), List.mem_of_getElem? (i := 945) (by decide +kernel), List.mem_of_getElem? (i := 946) (by decide +kernel)⟩
theorem lw_p13 : lw_okq (⟨"GreenLineModel", "rawAt", "(II)I"⟩, 42) := ⟨⟨by decide +kernel, by decide +kernel⟩, List.mem_of_getElem? (i := 939) (by decide +kernel), List.mem_of_getElem? (i := 1096) (by decide +kernel), List.mem_of_getElem? (i := 1097) (by decide +kernel)⟩
theorem lw_p14 : lw_okq (⟨"GreenLineModel", "partAt", "(II)I"⟩, 42) := ⟨⟨by decide +kernel, by decide +kernel⟩, List.mem_of_getElem? (i := 939) (by decide +kernel), List.mem_of_getElem? (i := 1100) (by decide +kernel), List.mem_of_getElem? (i := 1101) (by decide +kernel)⟩
theorem lw_p15 : lw_okq (⟨"GreenLineModel", "phase", "(II)I"⟩, 42) := ⟨⟨by decide +kernel, by decide +kernel⟩, List.mem_of_getElem? (i := 939) (by decide +kernel), List.mem_of_getElem? (i := 1104) (by decide +kernel), List.mem_of_getElem? (i := 1105) (by decide +kernel)⟩
def lw_privs_1 : List (MethodName × Nat) := [(⟨"GreenLine", "feedNumber", "(I)V"⟩, 12), (⟨"GreenLine", "takeSamples", "(II)I"⟩, 12), (⟨"GreenLine", "guessFits", "(I)Z"⟩, 12), (⟨"GreenLine", "copyBits", "(I[I)V"⟩, 12), (⟨"GreenLine", "unlike", "([II)I"⟩, 12), (⟨"GreenLine", "lowest", "(III)I"⟩, 12), (⟨"GreenLine", "highest", "(III)I"⟩, 12), (⟨"GreenLine", "rise", "(IIIIII)I"⟩, 12), (⟨"GreenLine", "wide", "(IIII)I"⟩, 12), (⟨"GreenLine", "leastRise", "(I)I"⟩, 12), (⟨"GreenLine", "greatestRise", "(I)I"⟩, 12), (⟨"GreenLine", "aboutInputs", "(I)I"⟩, 12), (⟨"GreenLineModel", "copies", "(Z)V"⟩, 42), (⟨"GreenLineModel", "rawAt", "(II)I"⟩, 42), (⟨"GreenLineModel", "partAt", "(II)I"⟩, 42), (⟨"GreenLineModel", "phase", "(II)I"⟩, 42)]
theorem lw_r1 : ∀ q ∈ lw_privs_1, lw_okq q := List.forall_mem_cons.mpr ⟨lw_p0, List.forall_mem_cons.mpr ⟨lw_p1, List.forall_mem_cons.mpr ⟨lw_p2, List.forall_mem_cons.mpr ⟨lw_p3, List.forall_mem_cons.mpr ⟨lw_p4, List.forall_mem_cons.mpr ⟨lw_p5, List.forall_mem_cons.mpr ⟨lw_p6, List.forall_mem_cons.mpr ⟨lw_p7, List.forall_mem_cons.mpr ⟨lw_p8, List.forall_mem_cons.mpr ⟨lw_p9, List.forall_mem_cons.mpr ⟨lw_p10, List.forall_mem_cons.mpr ⟨lw_p11, List.forall_mem_cons.mpr ⟨lw_p12, List.forall_mem_cons.mpr ⟨lw_p13, List.forall_mem_cons.mpr ⟨lw_p14, List.forall_mem_cons.mpr ⟨lw_p15, fun _ h => absurd h List.not_mem_nil⟩⟩⟩⟩⟩⟩⟩⟩⟩⟩⟩⟩⟩⟩⟩⟩
theorem lw_p16 : lw_okq (⟨"GreenLineModel", "laysOut", "(I)V"⟩, 42) := ⟨⟨by decide +kernel, by decide +kernel⟩, List.mem_of_getElem? (i := 939) (by decide +kernel), List.mem_of_getElem? (i := 1127) (by decide +kernel), List.mem_of_getElem? (i := 1128) (by decide +kernel)⟩
theorem lw_p17 : lw_okq (⟨"GreenLineModel", "put", "(I)V"⟩, 42) := ⟨⟨by decide +kernel, by decide +kernel⟩, List.mem_of_getElem? (i := 939) (by decide +kernel), List.mem_of_getElem? (i := 1143) (by decide +kernel), List.mem_of_getElem? (i := 1144) (by decide +kernel)⟩
theorem lw_p18 : lw_okq (⟨"GreenLineModel", "next", "()V"⟩, 42) := ⟨⟨by decide +kernel, by decide +kernel⟩, List.mem_of_getElem? (i := 939) (by decide +kernel), List.mem_of_getElem? (i := 1155) (by decide +kernel), List.mem_of_getElem? (i := 1156) (by decide +kernel)⟩
theorem lw_p19 : lw_okq (⟨"GreenLineModel", "asks", "()V"⟩, 42) := ⟨⟨by decide +kernel, by decide +kernel⟩, List.mem_of_getElem? (i := 939) (by decide +kernel), List.mem_of_getElem? (i := 1179) (by decide +kernel), List.mem_of_getElem? (i := 1180) (by decide +kernel)⟩
theorem lw_p20 : lw_okq (⟨"GreenLineModel", "isWord", "(I)Z"⟩, 42) := ⟨⟨by decide +kernel, by decide +kernel⟩, List.mem_of_getElem? (i := 939) (by decide +kernel), List.mem_of_getElem? (i := 1183) (by decide +kernel), List.mem_of_getElem? (i := 1184) (by decide +kernel)⟩
theorem lw_p21 : lw_okq (⟨"GreenLineModel", "opensSign", "(I)Z"⟩, 42) := ⟨⟨by decide +kernel, by decide +kernel⟩, List.mem_of_getElem? (i := 939) (by decide +kernel), List.mem_of_getElem? (i := 1187) (by decide +kernel), List.mem_of_getElem? (i := 1188) (by decide +kernel)⟩
theorem lw_p22 : lw_okq (⟨"GreenLineModel", "errs", "(I)V"⟩, 42) := ⟨⟨by decide +kernel, by decide +kernel⟩, List.mem_of_getElem? (i := 939) (by decide +kernel), List.mem_of_getElem? (i := 1191) (by decide +kernel), List.mem_of_getElem? (i := 1192) (by decide +kernel)⟩
theorem lw_p23 : lw_okq (⟨"GreenLineModel", "opensFrame", "(I)V"⟩, 42) := ⟨⟨by decide +kernel, by decide +kernel⟩, List.mem_of_getElem? (i := 939) (by decide +kernel), List.mem_of_getElem? (i := 1195) (by decide +kernel), List.mem_of_getElem? (i := 1196) (by decide +kernel)⟩
theorem lw_p24 : lw_okq (⟨"GreenLineModel", "begins", "()V"⟩, 42) := ⟨⟨by decide +kernel, by decide +kernel⟩, List.mem_of_getElem? (i := 939) (by decide +kernel), List.mem_of_getElem? (i := 1199) (by decide +kernel), List.mem_of_getElem? (i := 1200) (by decide +kernel)⟩
theorem lw_p25 : lw_okq (⟨"GreenLineModel", "emits", "(II)V"⟩, 42) := ⟨⟨by decide +kernel, by decide +kernel⟩, List.mem_of_getElem? (i := 939) (by decide +kernel), List.mem_of_getElem? (i := 1203) (by decide +kernel), List.mem_of_getElem? (i := 1204) (by decide +kernel)⟩
theorem lw_p26 : lw_okq (⟨"GreenLineModel", "oneIsOver", "()V"⟩, 42) := ⟨⟨by decide +kernel, by decide +kernel⟩, List.mem_of_getElem? (i := 939) (by decide +kernel), List.mem_of_getElem? (i := 1207) (by decide +kernel), List.mem_of_getElem? (i := 1208) (by decide +kernel)⟩
theorem lw_p27 : lw_okq (⟨"GreenLineModel", "top", "()I"⟩, 42) := ⟨⟨by decide +kernel, by decide +kernel⟩, List.mem_of_getElem? (i := 939) (by decide +kernel), List.mem_of_getElem? (i := 1211) (by decide +kernel), List.mem_of_getElem? (i := 1212) (by decide +kernel)⟩
theorem lw_p28 : lw_okq (⟨"GreenLineModel", "isSign", "(I)Z"⟩, 42) := ⟨⟨by decide +kernel, by decide +kernel⟩, List.mem_of_getElem? (i := 939) (by decide +kernel), List.mem_of_getElem? (i := 1215) (by decide +kernel), List.mem_of_getElem? (i := 1216) (by decide +kernel)⟩
theorem lw_p29 : lw_okq (⟨"GreenLineModel", "goesOn", "()V"⟩, 42) := ⟨⟨by decide +kernel, by decide +kernel⟩, List.mem_of_getElem? (i := 939) (by decide +kernel), List.mem_of_getElem? (i := 1219) (by decide +kernel), List.mem_of_getElem? (i := 1220) (by decide +kernel)⟩
theorem lw_p30 : lw_okq (⟨"GreenLineModel", "waitsFor", "(I)V"⟩, 42) := ⟨⟨by decide +kernel, by decide +kernel⟩, List.mem_of_getElem? (i := 939) (by decide +kernel), List.mem_of_getElem? (i := 1223) (by decide +kernel), List.mem_of_getElem? (i := 1224) (by decide +kernel)⟩
theorem lw_p31 : lw_okq (⟨"GreenLineModel", "works", "(I)V"⟩, 42) := ⟨⟨by decide +kernel, by decide +kernel⟩, List.mem_of_getElem? (i := 939) (by decide +kernel), List.mem_of_getElem? (i := 1230) (by decide +kernel), List.mem_of_getElem? (i := 1231) (by decide +kernel)⟩
def lw_privs_2 : List (MethodName × Nat) := [(⟨"GreenLineModel", "laysOut", "(I)V"⟩, 42), (⟨"GreenLineModel", "put", "(I)V"⟩, 42), (⟨"GreenLineModel", "next", "()V"⟩, 42), (⟨"GreenLineModel", "asks", "()V"⟩, 42), (⟨"GreenLineModel", "isWord", "(I)Z"⟩, 42), (⟨"GreenLineModel", "opensSign", "(I)Z"⟩, 42), (⟨"GreenLineModel", "errs", "(I)V"⟩, 42), (⟨"GreenLineModel", "opensFrame", "(I)V"⟩, 42), (⟨"GreenLineModel", "begins", "()V"⟩, 42), (⟨"GreenLineModel", "emits", "(II)V"⟩, 42), (⟨"GreenLineModel", "oneIsOver", "()V"⟩, 42), (⟨"GreenLineModel", "top", "()I"⟩, 42), (⟨"GreenLineModel", "isSign", "(I)Z"⟩, 42), (⟨"GreenLineModel", "goesOn", "()V"⟩, 42), (⟨"GreenLineModel", "waitsFor", "(I)V"⟩, 42), (⟨"GreenLineModel", "works", "(I)V"⟩, 42)]
theorem lw_r2 : ∀ q ∈ lw_privs_2, lw_okq q := List.forall_mem_cons.mpr ⟨lw_p16, List.forall_mem_cons.mpr ⟨lw_p17, List.forall_mem_cons.mpr ⟨lw_p18, List.forall_mem_cons.mpr ⟨lw_p19, List.forall_mem_cons.mpr ⟨lw_p20, List.forall_mem_cons.mpr ⟨lw_p21, List.forall_mem_cons.mpr ⟨lw_p22, List.forall_mem_cons.mpr ⟨lw_p23, List.forall_mem_cons.mpr ⟨lw_p24, List.forall_mem_cons.mpr ⟨lw_p25, List.forall_mem_cons.mpr ⟨lw_p26, List.forall_mem_cons.mpr ⟨lw_p27, List.forall_mem_cons.mpr ⟨lw_p28, List.forall_mem_cons.mpr ⟨lw_p29, List.forall_mem_cons.mpr ⟨lw_p30, List.forall_mem_cons.mpr ⟨lw_p31, fun _ h => absurd h List.not_mem_nil⟩⟩⟩⟩⟩⟩⟩⟩⟩⟩⟩⟩⟩⟩⟩⟩
theorem lw_p32 : lw_okq (⟨"GreenLineModel", "askIsOver", "()V"⟩, 42) := ⟨⟨by decide +kernel, by decide +kernel⟩, List.mem_of_getElem? (i := 939) (by decide +kernel), List.mem_of_getElem? (i := 1237) (by decide +kernel), List.mem_of_getElem? (i := 1238) (by decide +kernel)⟩
theorem lw_p33 : lw_okq (⟨"GreenLineModel", "clauseIsOver", "()V"⟩, 42) := ⟨⟨by decide +kernel, by decide +kernel⟩, List.mem_of_getElem? (i := 939) (by decide +kernel), List.mem_of_getElem? (i := 1241) (by decide +kernel), List.mem_of_getElem? (i := 1242) (by decide +kernel)⟩
theorem lw_p34 : lw_okq (⟨"GreenLineModel", "asksOn", "()V"⟩, 42) := ⟨⟨by decide +kernel, by decide +kernel⟩, List.mem_of_getElem? (i := 939) (by decide +kernel), List.mem_of_getElem? (i := 1245) (by decide +kernel), List.mem_of_getElem? (i := 1246) (by decide +kernel)⟩
theorem lw_p35 : lw_okq (⟨"GreenLineModel", "clause", "()V"⟩, 42) := ⟨⟨by decide +kernel, by decide +kernel⟩, List.mem_of_getElem? (i := 939) (by decide +kernel), List.mem_of_getElem? (i := 1249) (by decide +kernel), List.mem_of_getElem? (i := 1250) (by decide +kernel)⟩
theorem lw_p36 : lw_okq (⟨"GreenLineModel", "wasHold", "()Z"⟩, 42) := ⟨⟨by decide +kernel, by decide +kernel⟩, List.mem_of_getElem? (i := 939) (by decide +kernel), List.mem_of_getElem? (i := 1253) (by decide +kernel), List.mem_of_getElem? (i := 1254) (by decide +kernel)⟩
theorem lw_p37 : lw_okq (⟨"GreenLineModel", "keepsText", "(I)V"⟩, 42) := ⟨⟨by decide +kernel, by decide +kernel⟩, List.mem_of_getElem? (i := 939) (by decide +kernel), List.mem_of_getElem? (i := 1257) (by decide +kernel), List.mem_of_getElem? (i := 1258) (by decide +kernel)⟩
theorem lw_p38 : lw_okq (⟨"GreenLineModel", "laysBoth", "()V"⟩, 42) := ⟨⟨by decide +kernel, by decide +kernel⟩, List.mem_of_getElem? (i := 939) (by decide +kernel), List.mem_of_getElem? (i := 1276) (by decide +kernel), List.mem_of_getElem? (i := 1277) (by decide +kernel)⟩
theorem lw_p39 : lw_okq (⟨"GreenLineModel", "sweeps", "(I)V"⟩, 42) := ⟨⟨by decide +kernel, by decide +kernel⟩, List.mem_of_getElem? (i := 939) (by decide +kernel), List.mem_of_getElem? (i := 1280) (by decide +kernel), List.mem_of_getElem? (i := 1281) (by decide +kernel)⟩
theorem lw_p40 : lw_okq (⟨"GreenLineModel", "words", "(II)V"⟩, 42) := ⟨⟨by decide +kernel, by decide +kernel⟩, List.mem_of_getElem? (i := 939) (by decide +kernel), List.mem_of_getElem? (i := 1284) (by decide +kernel), List.mem_of_getElem? (i := 1285) (by decide +kernel)⟩
theorem lw_p41 : lw_okq (⟨"GreenLineModel", "triggers", "()Z"⟩, 42) := ⟨⟨by decide +kernel, by decide +kernel⟩, List.mem_of_getElem? (i := 939) (by decide +kernel), List.mem_of_getElem? (i := 1288) (by decide +kernel), List.mem_of_getElem? (i := 1289) (by decide +kernel)⟩
theorem lw_p42 : lw_okq (⟨"GreenLineModel", "tells", "(I)J"⟩, 42) := ⟨⟨by decide +kernel, by decide +kernel⟩, List.mem_of_getElem? (i := 939) (by decide +kernel), List.mem_of_getElem? (i := 1292) (by decide +kernel), List.mem_of_getElem? (i := 1293) (by decide +kernel)⟩
theorem lw_p43 : lw_okq (⟨"GreenLineModel", "hold", "()I"⟩, 42) := ⟨⟨by decide +kernel, by decide +kernel⟩, List.mem_of_getElem? (i := 939) (by decide +kernel), List.mem_of_getElem? (i := 1304) (by decide +kernel), List.mem_of_getElem? (i := 1305) (by decide +kernel)⟩
theorem lw_p44 : lw_okq (⟨"GreenLineModel", "shows", "(I)V"⟩, 42) := ⟨⟨by decide +kernel, by decide +kernel⟩, List.mem_of_getElem? (i := 939) (by decide +kernel), List.mem_of_getElem? (i := 1313) (by decide +kernel), List.mem_of_getElem? (i := 1314) (by decide +kernel)⟩
theorem lw_p45 : lw_okq (⟨"GreenLineModel", "draws", "(I)V"⟩, 42) := ⟨⟨by decide +kernel, by decide +kernel⟩, List.mem_of_getElem? (i := 939) (by decide +kernel), List.mem_of_getElem? (i := 1317) (by decide +kernel), List.mem_of_getElem? (i := 1318) (by decide +kernel)⟩
theorem lw_p46 : lw_okq (⟨"GreenLineModel", "dotOf", "(III)I"⟩, 42) := ⟨⟨by decide +kernel, by decide +kernel⟩, List.mem_of_getElem? (i := 939) (by decide +kernel), List.mem_of_getElem? (i := 1321) (by decide +kernel), List.mem_of_getElem? (i := 1322) (by decide +kernel)⟩
theorem lw_p47 : lw_okq (⟨"GreenLineModel", "rowOf", "(II)I"⟩, 42) := ⟨⟨by decide +kernel, by decide +kernel⟩, List.mem_of_getElem? (i := 939) (by decide +kernel), List.mem_of_getElem? (i := 1328) (by decide +kernel), List.mem_of_getElem? (i := 1329) (by decide +kernel)⟩
def lw_privs_3 : List (MethodName × Nat) := [(⟨"GreenLineModel", "askIsOver", "()V"⟩, 42), (⟨"GreenLineModel", "clauseIsOver", "()V"⟩, 42), (⟨"GreenLineModel", "asksOn", "()V"⟩, 42), (⟨"GreenLineModel", "clause", "()V"⟩, 42), (⟨"GreenLineModel", "wasHold", "()Z"⟩, 42), (⟨"GreenLineModel", "keepsText", "(I)V"⟩, 42), (⟨"GreenLineModel", "laysBoth", "()V"⟩, 42), (⟨"GreenLineModel", "sweeps", "(I)V"⟩, 42), (⟨"GreenLineModel", "words", "(II)V"⟩, 42), (⟨"GreenLineModel", "triggers", "()Z"⟩, 42), (⟨"GreenLineModel", "tells", "(I)J"⟩, 42), (⟨"GreenLineModel", "hold", "()I"⟩, 42), (⟨"GreenLineModel", "shows", "(I)V"⟩, 42), (⟨"GreenLineModel", "draws", "(I)V"⟩, 42), (⟨"GreenLineModel", "dotOf", "(III)I"⟩, 42), (⟨"GreenLineModel", "rowOf", "(II)I"⟩, 42)]
theorem lw_r3 : ∀ q ∈ lw_privs_3, lw_okq q := List.forall_mem_cons.mpr ⟨lw_p32, List.forall_mem_cons.mpr ⟨lw_p33, List.forall_mem_cons.mpr ⟨lw_p34, List.forall_mem_cons.mpr ⟨lw_p35, List.forall_mem_cons.mpr ⟨lw_p36, List.forall_mem_cons.mpr ⟨lw_p37, List.forall_mem_cons.mpr ⟨lw_p38, List.forall_mem_cons.mpr ⟨lw_p39, List.forall_mem_cons.mpr ⟨lw_p40, List.forall_mem_cons.mpr ⟨lw_p41, List.forall_mem_cons.mpr ⟨lw_p42, List.forall_mem_cons.mpr ⟨lw_p43, List.forall_mem_cons.mpr ⟨lw_p44, List.forall_mem_cons.mpr ⟨lw_p45, List.forall_mem_cons.mpr ⟨lw_p46, List.forall_mem_cons.mpr ⟨lw_p47, fun _ h => absurd h List.not_mem_nil⟩⟩⟩⟩⟩⟩⟩⟩⟩⟩⟩⟩⟩⟩⟩⟩
theorem lw_p48 : lw_okq (⟨"GreenLineModel", "turnOf", "(II)I"⟩, 42) := ⟨⟨by decide +kernel, by decide +kernel⟩, List.mem_of_getElem? (i := 939) (by decide +kernel), List.mem_of_getElem? (i := 1332) (by decide +kernel), List.mem_of_getElem? (i := 1333) (by decide +kernel)⟩
theorem lw_p49 : lw_okq (⟨"GreenLineModel", "dots", "(I)I"⟩, 42) := ⟨⟨by decide +kernel, by decide +kernel⟩, List.mem_of_getElem? (i := 939) (by decide +kernel), List.mem_of_getElem? (i := 1343) (by decide +kernel), List.mem_of_getElem? (i := 1344) (by decide +kernel)⟩
theorem lw_p50 : lw_okq (⟨"GreenLineModel", "rowsOf", "(II)I"⟩, 42) := ⟨⟨by decide +kernel, by decide +kernel⟩, List.mem_of_getElem? (i := 939) (by decide +kernel), List.mem_of_getElem? (i := 1347) (by decide +kernel), List.mem_of_getElem? (i := 1348) (by decide +kernel)⟩
theorem lw_p51 : lw_okq (⟨"GreenLineModel", "isAs", "(IIIII)Z"⟩, 42) := ⟨⟨by decide +kernel, by decide +kernel⟩, List.mem_of_getElem? (i := 939) (by decide +kernel), List.mem_of_getElem? (i := 1355) (by decide +kernel), List.mem_of_getElem? (i := 1356) (by decide +kernel)⟩
theorem lw_p52 : lw_okq (⟨"GreenLineModel", "catches", "(III)Z"⟩, 42) := ⟨⟨by decide +kernel, by decide +kernel⟩, List.mem_of_getElem? (i := 939) (by decide +kernel), List.mem_of_getElem? (i := 1363) (by decide +kernel), List.mem_of_getElem? (i := 1364) (by decide +kernel)⟩
theorem lw_p53 : lw_okq (⟨"GreenLineModel", "isPhoto", "(I)Z"⟩, 42) := ⟨⟨by decide +kernel, by decide +kernel⟩, List.mem_of_getElem? (i := 939) (by decide +kernel), List.mem_of_getElem? (i := 1383) (by decide +kernel), List.mem_of_getElem? (i := 1384) (by decide +kernel)⟩
theorem lw_p54 : lw_okq (⟨"GreenLineModel", "risen", "(IIIII)I"⟩, 42) := ⟨⟨by decide +kernel, by decide +kernel⟩, List.mem_of_getElem? (i := 939) (by decide +kernel), List.mem_of_getElem? (i := 1391) (by decide +kernel), List.mem_of_getElem? (i := 1392) (by decide +kernel)⟩
def lw_privs_4 : List (MethodName × Nat) := [(⟨"GreenLineModel", "turnOf", "(II)I"⟩, 42), (⟨"GreenLineModel", "dots", "(I)I"⟩, 42), (⟨"GreenLineModel", "rowsOf", "(II)I"⟩, 42), (⟨"GreenLineModel", "isAs", "(IIIII)Z"⟩, 42), (⟨"GreenLineModel", "catches", "(III)Z"⟩, 42), (⟨"GreenLineModel", "isPhoto", "(I)Z"⟩, 42), (⟨"GreenLineModel", "risen", "(IIIII)I"⟩, 42)]
theorem lw_r4 : ∀ q ∈ lw_privs_4, lw_okq q := List.forall_mem_cons.mpr ⟨lw_p48, List.forall_mem_cons.mpr ⟨lw_p49, List.forall_mem_cons.mpr ⟨lw_p50, List.forall_mem_cons.mpr ⟨lw_p51, List.forall_mem_cons.mpr ⟨lw_p52, List.forall_mem_cons.mpr ⟨lw_p53, List.forall_mem_cons.mpr ⟨lw_p54, fun _ h => absurd h List.not_mem_nil⟩⟩⟩⟩⟩⟩⟩
def lw_privs : List (MethodName × Nat) := lw_privs_1 ++ (lw_privs_2 ++ (lw_privs_3 ++ (lw_privs_4)))
def lw_tbl : List Cond := k2_sels lw_privs ++ tables_1
theorem lw_privs_ok : ∀ q ∈ lw_privs, lw_okq q := by
  show ∀ q ∈ lw_privs_1 ++ (lw_privs_2 ++ (lw_privs_3 ++ (lw_privs_4))), lw_okq q
  exact List.forall_mem_append.mpr ⟨lw_r1, List.forall_mem_append.mpr ⟨lw_r2, List.forall_mem_append.mpr ⟨lw_r3, lw_r4⟩⟩⟩
/-! ===== BEGIN printed: names, fields, word lists, decode rows ===== -/
def RX0 : String := "GreenLine$Asker"
def TX0 : u_T := fun k => match k with
  | 0 => ("GreenLine$Asker", "values", "[I", true)
  | 1 => ("GreenLine$Asker", "now", "I", false)
  | 2 => ("GreenLine$Asker", "ahead", "I", false)
  | 3 => ("GreenLine$Asker", "other", "I", false)
  | 4 => ("GreenLine$Asker", "tick", "I", false)
  | 5 => ("GreenLine$Asker", "sweeps", "I", false)
  | _ => ("GreenLine$Asker", "since", "I", false)
def tyX0 : Nat → FieldType := fun k => match k with
  | 0 => .array .int
  | 1 => .int
  | 2 => .int
  | 3 => .int
  | 4 => .int
  | 5 => .int
  | _ => .int
abbrev wsX00 : List Cond := u_ws RX0 TX0 7
theorem nmX0 : ∀ a, a < 7 → ∀ b, b < 7 → a ≠ b → (TX0 a).2.1 ≠ (TX0 b).2.1 := by decide +kernel
theorem tyX0_ok : ∀ k, k < 7 → parseFieldDescriptor (TX0 k).2.2.1 = some (tyX0 k) := by decide +kernel
abbrev cX0_init : ByteArray := prog_2_method_1_code
def yX0_init : MethodName := ⟨RX0, "<init>", "()V"⟩
abbrev cX0_answer : ByteArray := prog_2_method_2_code
def yX0_answer : MethodName := ⟨RX0, "answer", "([II)I"⟩
abbrev cX0_word : ByteArray := prog_2_method_3_code
def yX0_word : MethodName := ⟨RX0, "word", "(I)I"⟩
abbrev cX0_joined : ByteArray := prog_2_method_4_code
def yX0_joined : MethodName := ⟨RX0, "joined", "(IJJ)I"⟩
abbrev cX0_isSo : ByteArray := prog_2_method_5_code
def yX0_isSo : MethodName := ⟨RX0, "isSo", "(IJJ)Z"⟩
abbrev cX0_bounded : ByteArray := prog_2_method_6_code
def yX0_bounded : MethodName := ⟨RX0, "bounded", "(J)I"⟩
def RX1 : String := "GreenLine$Beam"
def TX1 : u_T := fun k => match k with
  | 0 => ("GreenLine$Beam", "setup", "LGreenLine$Setup;", true)
  | 1 => ("GreenLine$Beam", "programs", "[LGreenLine$Program;", true)
  | 2 => ("GreenLine$Beam", "untold", "LGreenLine$Program;", true)
  | 3 => ("GreenLine$Beam", "asker", "LGreenLine$Asker;", true)
  | 4 => ("GreenLine$Beam", "outs", "[[I", true)
  | 5 => ("GreenLine$Beam", "traced", "I", false)
  | 6 => ("GreenLine$Beam", "ready", "I", false)
  | 7 => ("GreenLine$Beam", "sweeps", "I", false)
  | _ => ("GreenLine$Beam", "begin", "I", false)
def tyX1 : Nat → FieldType := fun k => match k with
  | 0 => .object "GreenLine$Setup"
  | 1 => .array (.object "GreenLine$Program")
  | 2 => .object "GreenLine$Program"
  | 3 => .object "GreenLine$Asker"
  | 4 => .array (.array .int)
  | 5 => .int
  | 6 => .int
  | 7 => .int
  | _ => .int
abbrev wsX10 : List Cond := u_ws RX1 TX1 9
theorem nmX1 : ∀ a, a < 9 → ∀ b, b < 9 → a ≠ b → (TX1 a).2.1 ≠ (TX1 b).2.1 := by decide +kernel
theorem tyX1_ok : ∀ k, k < 9 → parseFieldDescriptor (TX1 k).2.2.1 = some (tyX1 k) := by decide +kernel
abbrev cX1_init : ByteArray := prog_3_method_1_code
def yX1_init : MethodName := ⟨RX1, "<init>", "()V"⟩
abbrev cX1_forget : ByteArray := prog_3_method_2_code
def yX1_forget : MethodName := ⟨RX1, "forget", "()V"⟩
abbrev cX1_traceTo : ByteArray := prog_3_method_3_code
def yX1_traceTo : MethodName := ⟨RX1, "traceTo", "(I)V"⟩
abbrev cX1_outAt : ByteArray := prog_3_method_4_code
def yX1_outAt : MethodName := ⟨RX1, "outAt", "(II)I"⟩
abbrev cX1_restart : ByteArray := prog_3_method_5_code
def yX1_restart : MethodName := ⟨RX1, "restart", "()V"⟩
abbrev cX1_told : ByteArray := prog_3_method_6_code
def yX1_told : MethodName := ⟨RX1, "told", "()LGreenLine$Program;"⟩
abbrev cX1_next : ByteArray := prog_3_method_7_code
def yX1_next : MethodName := ⟨RX1, "next", "(I)Z"⟩
abbrev cX1_look : ByteArray := prog_3_method_8_code
def yX1_look : MethodName := ⟨RX1, "look", "(I)V"⟩
abbrev cX1_heldBy : ByteArray := prog_3_method_9_code
def yX1_heldBy : MethodName := ⟨RX1, "heldBy", "(LGreenLine$Program;)I"⟩
abbrev cX1_draw : ByteArray := prog_3_method_10_code
def yX1_draw : MethodName := ⟨RX1, "draw", "(LGreenLine$Screen;I)V"⟩
abbrev cX1_drawSweep : ByteArray := prog_3_method_11_code
def yX1_drawSweep : MethodName := ⟨RX1, "drawSweep", "(LGreenLine$Screen;I)V"⟩
abbrev cX1_drawDot : ByteArray := prog_3_method_12_code
def yX1_drawDot : MethodName := ⟨RX1, "drawDot", "(LGreenLine$Screen;II)V"⟩
abbrev cX1_turnAt : ByteArray := prog_3_method_13_code
def yX1_turnAt : MethodName := ⟨RX1, "turnAt", "(I)I"⟩
abbrev cX1_catches : ByteArray := prog_3_method_14_code
def yX1_catches : MethodName := ⟨RX1, "catches", "(ILGreenLine$Part;I)Z"⟩
abbrev cX1_isShown : ByteArray := prog_3_method_15_code
def yX1_isShown : MethodName := ⟨RX1, "isShown", "(II)Z"⟩
def RX2 : String := "GreenLine$Channel"
def TX2 : u_T := fun k => match k with
  | 0 => ("GreenLine$Channel", "signal", "I", false)
  | 1 => ("GreenLine$Channel", "up", "I", false)
  | 2 => ("GreenLine$Channel", "down", "I", false)
  | 3 => ("GreenLine$Channel", "slow", "I", false)
  | 4 => ("GreenLine$Channel", "gain", "I", false)
  | _ => ("GreenLine$Channel", "position", "I", false)
def tyX2 : Nat → FieldType := fun k => match k with
  | 0 => .int
  | 1 => .int
  | 2 => .int
  | 3 => .int
  | 4 => .int
  | _ => .int
abbrev wsX20 : List Cond := u_ws RX2 TX2 6
theorem nmX2 : ∀ a, a < 6 → ∀ b, b < 6 → a ≠ b → (TX2 a).2.1 ≠ (TX2 b).2.1 := by decide +kernel
theorem tyX2_ok : ∀ k, k < 6 → parseFieldDescriptor (TX2 k).2.2.1 = some (tyX2 k) := by decide +kernel
abbrev cX2_init : ByteArray := prog_4_method_1_code
def yX2_init : MethodName := ⟨RX2, "<init>", "(I)V"⟩
abbrev cX2_setProbe : ByteArray := prog_4_method_2_code
def yX2_setProbe : MethodName := ⟨RX2, "setProbe", "(III)V"⟩
abbrev cX2_setView : ByteArray := prog_4_method_3_code
def yX2_setView : MethodName := ⟨RX2, "setView", "(III)V"⟩
abbrev cX2_copyFrom : ByteArray := prog_4_method_4_code
def yX2_copyFrom : MethodName := ⟨RX2, "copyFrom", "(LGreenLine$Channel;)V"⟩
abbrev cX2_outBehind : ByteArray := prog_4_method_5_code
def yX2_outBehind : MethodName := ⟨RX2, "outBehind", "(II)I"⟩
abbrev cX2_dotsFrom : ByteArray := prog_4_method_6_code
def yX2_dotsFrom : MethodName := ⟨RX2, "dotsFrom", "(II)I"⟩
def RX3 : String := "GreenLine$Part"
def TX3 : u_T := fun k => match k with
  | 0 => ("GreenLine$Part", "kind", "I", false)
  | 1 => ("GreenLine$Part", "height", "I", false)
  | 2 => ("GreenLine$Part", "period", "I", false)
  | 3 => ("GreenLine$Part", "width", "I", false)
  | _ => ("GreenLine$Part", "from", "I", false)
def tyX3 : Nat → FieldType := fun k => match k with
  | 0 => .int
  | 1 => .int
  | 2 => .int
  | 3 => .int
  | _ => .int
abbrev wsX30 : List Cond := u_ws RX3 TX3 5
theorem nmX3 : ∀ a, a < 5 → ∀ b, b < 5 → a ≠ b → (TX3 a).2.1 ≠ (TX3 b).2.1 := by decide +kernel
theorem tyX3_ok : ∀ k, k < 5 → parseFieldDescriptor (TX3 k).2.2.1 = some (tyX3 k) := by decide +kernel
abbrev cX3_init : ByteArray := prog_5_method_1_code
def yX3_init : MethodName := ⟨RX3, "<init>", "()V"⟩
abbrev cX3_set : ByteArray := prog_5_method_2_code
def yX3_set : MethodName := ⟨RX3, "set", "(IIIII)V"⟩
abbrev cX3_phase : ByteArray := prog_5_method_3_code
def yX3_phase : MethodName := ⟨RX3, "phase", "(I)I"⟩
abbrev cX3_isOn : ByteArray := prog_5_method_4_code
def yX3_isOn : MethodName := ⟨RX3, "isOn", "(I)Z"⟩
abbrev cX3_heightAt : ByteArray := prog_5_method_5_code
def yX3_heightAt : MethodName := ⟨RX3, "heightAt", "(I)I"⟩
def RX4 : String := "GreenLine$Program"
def TX4 : u_T := fun k => match k with
  | 0 => ("GreenLine$Program", "begins", "[I", true)
  | 1 => ("GreenLine$Program", "holds", "[I", true)
  | 2 => ("GreenLine$Program", "beginLength", "I", false)
  | _ => ("GreenLine$Program", "holdLength", "I", false)
def tyX4 : Nat → FieldType := fun k => match k with
  | 0 => .array .int
  | 1 => .array .int
  | 2 => .int
  | _ => .int
abbrev wsX40 : List Cond := u_ws RX4 TX4 4
theorem nmX4 : ∀ a, a < 4 → ∀ b, b < 4 → a ≠ b → (TX4 a).2.1 ≠ (TX4 b).2.1 := by decide +kernel
theorem tyX4_ok : ∀ k, k < 4 → parseFieldDescriptor (TX4 k).2.2.1 = some (tyX4 k) := by decide +kernel
abbrev cX4_init : ByteArray := prog_6_method_1_code
def yX4_init : MethodName := ⟨RX4, "<init>", "()V"⟩
abbrev cX4_empty : ByteArray := prog_6_method_2_code
def yX4_empty : MethodName := ⟨RX4, "empty", "()V"⟩
abbrev cX4_isEmpty : ByteArray := prog_6_method_3_code
def yX4_isEmpty : MethodName := ⟨RX4, "isEmpty", "()Z"⟩
def RX5 : String := "GreenLine$Reader"
def TX5 : u_T := fun k => match k with
  | 0 => ("GreenLine$Reader", "scanner", "LGreenLine$Scanner;", true)
  | 1 => ("GreenLine$Reader", "waiting", "[I", true)
  | 2 => ("GreenLine$Reader", "waits", "I", false)
  | 3 => ("GreenLine$Reader", "opened", "I", false)
  | 4 => ("GreenLine$Reader", "brackets", "I", false)
  | 5 => ("GreenLine$Reader", "clauses", "I", false)
  | 6 => ("GreenLine$Reader", "held", "Z", false)
  | 7 => ("GreenLine$Reader", "inClause", "Z", false)
  | 8 => ("GreenLine$Reader", "inBegin", "Z", false)
  | 9 => ("GreenLine$Reader", "wantsOne", "Z", false)
  | 10 => ("GreenLine$Reader", "mayNot", "Z", false)
  | 11 => ("GreenLine$Reader", "compared", "Z", false)
  | 12 => ("GreenLine$Reader", "begun", "Z", false)
  | 13 => ("GreenLine$Reader", "ended", "Z", false)
  | 14 => ("GreenLine$Reader", "fault", "I", false)
  | 15 => ("GreenLine$Reader", "place", "I", false)
  | _ => ("GreenLine$Reader", "program", "LGreenLine$Program;", false)
def tyX5 : Nat → FieldType := fun k => match k with
  | 0 => .object "GreenLine$Scanner"
  | 1 => .array .int
  | 2 => .int
  | 3 => .int
  | 4 => .int
  | 5 => .int
  | 6 => .boolean
  | 7 => .boolean
  | 8 => .boolean
  | 9 => .boolean
  | 10 => .boolean
  | 11 => .boolean
  | 12 => .boolean
  | 13 => .boolean
  | 14 => .int
  | 15 => .int
  | _ => .object "GreenLine$Program"
abbrev wsX50 : List Cond := u_ws RX5 TX5 17
theorem nmX5 : ∀ a, a < 17 → ∀ b, b < 17 → a ≠ b → (TX5 a).2.1 ≠ (TX5 b).2.1 := by decide +kernel
theorem tyX5_ok : ∀ k, k < 17 → parseFieldDescriptor (TX5 k).2.2.1 = some (tyX5 k) := by decide +kernel
abbrev cX5_init : ByteArray := prog_7_method_1_code
def yX5_init : MethodName := ⟨RX5, "<init>", "()V"⟩
abbrev cX5_read : ByteArray := prog_7_method_2_code
def yX5_read : MethodName := ⟨RX5, "read", "(LGreenLine$Program;I)V"⟩
abbrev cX5_fail : ByteArray := prog_7_method_3_code
def yX5_fail : MethodName := ⟨RX5, "fail", "(I)V"⟩
abbrev cX5_take : ByteArray := prog_7_method_4_code
def yX5_take : MethodName := ⟨RX5, "take", "(I)V"⟩
abbrev cX5_takeFirst : ByteArray := prog_7_method_5_code
def yX5_takeFirst : MethodName := ⟨RX5, "takeFirst", "(I)V"⟩
abbrev cX5_takeOne : ByteArray := prog_7_method_6_code
def yX5_takeOne : MethodName := ⟨RX5, "takeOne", "(I)V"⟩
abbrev cX5_openUp : ByteArray := prog_7_method_7_code
def yX5_openUp : MethodName := ⟨RX5, "openUp", "(I)V"⟩
abbrev cX5_takeBehindOne : ByteArray := prog_7_method_8_code
def yX5_takeBehindOne : MethodName := ⟨RX5, "takeBehindOne", "(I)V"⟩
abbrev cX5_awaitNext : ByteArray := prog_7_method_9_code
def yX5_awaitNext : MethodName := ⟨RX5, "awaitNext", "(I)V"⟩
abbrev cX5_closeBracket : ByteArray := prog_7_method_10_code
def yX5_closeBracket : MethodName := ⟨RX5, "closeBracket", "()V"⟩
abbrev cX5_endClause : ByteArray := prog_7_method_11_code
def yX5_endClause : MethodName := ⟨RX5, "endClause", "()V"⟩
abbrev cX5_await : ByteArray := prog_7_method_12_code
def yX5_await : MethodName := ⟨RX5, "await", "(I)V"⟩
abbrev cX5_unwind : ByteArray := prog_7_method_13_code
def yX5_unwind : MethodName := ⟨RX5, "unwind", "(I)V"⟩
abbrev cX5_emit : ByteArray := prog_7_method_14_code
def yX5_emit : MethodName := ⟨RX5, "emit", "(I)V"⟩
abbrev cX5_strength : ByteArray := prog_7_method_15_code
def yX5_strength : MethodName := ⟨RX5, "strength", "(I)I"⟩
def RX6 : String := "GreenLine$Scanner"
def TX6 : u_T := fun k => match k with
  | 0 => ("GreenLine$Scanner", "bytes", "[I", true)
  | 1 => ("GreenLine$Scanner", "length", "I", false)
  | 2 => ("GreenLine$Scanner", "at", "I", false)
  | 3 => ("GreenLine$Scanner", "start", "I", false)
  | 4 => ("GreenLine$Scanner", "sign", "I", false)
  | _ => ("GreenLine$Scanner", "number", "I", false)
def tyX6 : Nat → FieldType := fun k => match k with
  | 0 => .array .int
  | 1 => .int
  | 2 => .int
  | 3 => .int
  | 4 => .int
  | _ => .int
abbrev wsX60 : List Cond := u_ws RX6 TX6 6
theorem nmX6 : ∀ a, a < 6 → ∀ b, b < 6 → a ≠ b → (TX6 a).2.1 ≠ (TX6 b).2.1 := by decide +kernel
theorem tyX6_ok : ∀ k, k < 6 → parseFieldDescriptor (TX6 k).2.2.1 = some (tyX6 k) := by decide +kernel
abbrev cX6_init : ByteArray := prog_8_method_1_code
def yX6_init : MethodName := ⟨RX6, "<init>", "()V"⟩
abbrev cX6_restart : ByteArray := prog_8_method_2_code
def yX6_restart : MethodName := ⟨RX6, "restart", "(I)V"⟩
abbrev cX6_next : ByteArray := prog_8_method_3_code
def yX6_next : MethodName := ⟨RX6, "next", "()V"⟩
abbrev cX6_byteAt : ByteArray := prog_8_method_4_code
def yX6_byteAt : MethodName := ⟨RX6, "byteAt", "(I)I"⟩
abbrev cX6_passLetters : ByteArray := prog_8_method_5_code
def yX6_passLetters : MethodName := ⟨RX6, "passLetters", "()V"⟩
abbrev cX6_readNumber : ByteArray := prog_8_method_6_code
def yX6_readNumber : MethodName := ⟨RX6, "readNumber", "()V"⟩
abbrev cX6_signOf : ByteArray := prog_8_method_7_code
def yX6_signOf : MethodName := ⟨RX6, "signOf", "(I)I"⟩
abbrev cX6_passesEqual : ByteArray := prog_8_method_8_code
def yX6_passesEqual : MethodName := ⟨RX6, "passesEqual", "()Z"⟩
abbrev cX6_wordSign : ByteArray := prog_8_method_9_code
def yX6_wordSign : MethodName := ⟨RX6, "wordSign", "()I"⟩
abbrev cX6_valueSign : ByteArray := prog_8_method_10_code
def yX6_valueSign : MethodName := ⟨RX6, "valueSign", "()I"⟩
abbrev cX6_spells : ByteArray := prog_8_method_11_code
def yX6_spells : MethodName := ⟨RX6, "spells", "(Ljava/lang/String;)Z"⟩
abbrev cX6_isBlank : ByteArray := prog_8_method_12_code
def yX6_isBlank : MethodName := ⟨RX6, "isBlank", "(I)Z"⟩
abbrev cX6_isLetter : ByteArray := prog_8_method_13_code
def yX6_isLetter : MethodName := ⟨RX6, "isLetter", "(I)Z"⟩
abbrev cX6_isDigit : ByteArray := prog_8_method_14_code
def yX6_isDigit : MethodName := ⟨RX6, "isDigit", "(I)Z"⟩
def RX7 : String := "GreenLine$Screen"
def TX7 : u_T := fun k => match k with
  | _ => ("GreenLine$Screen", "glows", "[I", true)
def tyX7 : Nat → FieldType := fun k => match k with
  | _ => .array .int
abbrev wsX70 : List Cond := u_ws RX7 TX7 1
theorem nmX7 : ∀ a, a < 1 → ∀ b, b < 1 → a ≠ b → (TX7 a).2.1 ≠ (TX7 b).2.1 := by decide +kernel
theorem tyX7_ok : ∀ k, k < 1 → parseFieldDescriptor (TX7 k).2.2.1 = some (tyX7 k) := by decide +kernel
abbrev cX7_init : ByteArray := prog_9_method_1_code
def yX7_init : MethodName := ⟨RX7, "<init>", "()V"⟩
abbrev cX7_darken : ByteArray := prog_9_method_2_code
def yX7_darken : MethodName := ⟨RX7, "darken", "()V"⟩
abbrev cX7_dim : ByteArray := prog_9_method_3_code
def yX7_dim : MethodName := ⟨RX7, "dim", "(I)V"⟩
abbrev cX7_brighten : ByteArray := prog_9_method_4_code
def yX7_brighten : MethodName := ⟨RX7, "brighten", "(II)V"⟩
abbrev cX7_glowOf : ByteArray := prog_9_method_5_code
def yX7_glowOf : MethodName := ⟨RX7, "glowOf", "(II)I"⟩
abbrev cX7_bits : ByteArray := prog_9_method_6_code
def yX7_bits : MethodName := ⟨RX7, "bits", "(II)I"⟩
abbrev cX7_dots : ByteArray := prog_9_method_7_code
def yX7_dots : MethodName := ⟨RX7, "dots", "(I)I"⟩
def RX8 : String := "GreenLine$Setup"
def TX8 : u_T := fun k => match k with
  | 0 => ("GreenLine$Setup", "signals", "[LGreenLine$Signal;", true)
  | 1 => ("GreenLine$Setup", "channels", "[LGreenLine$Channel;", true)
  | 2 => ("GreenLine$Setup", "photo", "[I", true)
  | 3 => ("GreenLine$Setup", "pace", "I", false)
  | 4 => ("GreenLine$Setup", "delay", "I", false)
  | 5 => ("GreenLine$Setup", "fade", "I", false)
  | 6 => ("GreenLine$Setup", "mode", "I", false)
  | 7 => ("GreenLine$Setup", "chop", "I", false)
  | 8 => ("GreenLine$Setup", "texts", "I", false)
  | _ => ("GreenLine$Setup", "text", "I", false)
def tyX8 : Nat → FieldType := fun k => match k with
  | 0 => .array (.object "GreenLine$Signal")
  | 1 => .array (.object "GreenLine$Channel")
  | 2 => .array .int
  | 3 => .int
  | 4 => .int
  | 5 => .int
  | 6 => .int
  | 7 => .int
  | 8 => .int
  | _ => .int
abbrev wsX80 : List Cond := u_ws RX8 TX8 10
theorem nmX8 : ∀ a, a < 10 → ∀ b, b < 10 → a ≠ b → (TX8 a).2.1 ≠ (TX8 b).2.1 := by decide +kernel
theorem tyX8_ok : ∀ k, k < 10 → parseFieldDescriptor (TX8 k).2.2.1 = some (tyX8 k) := by decide +kernel
abbrev cX8_init : ByteArray := prog_10_method_1_code
def yX8_init : MethodName := ⟨RX8, "<init>", "()V"⟩
abbrev cX8_copyFrom : ByteArray := prog_10_method_2_code
def yX8_copyFrom : MethodName := ⟨RX8, "copyFrom", "(LGreenLine$Setup;)V"⟩
def RX9 : String := "GreenLine$Signal"
def TX9 : u_T := fun k => match k with
  | 0 => ("GreenLine$Signal", "parts", "[LGreenLine$Part;", true)
  | _ => ("GreenLine$Signal", "count", "I", false)
def tyX9 : Nat → FieldType := fun k => match k with
  | 0 => .array (.object "GreenLine$Part")
  | _ => .int
abbrev wsX90 : List Cond := u_ws RX9 TX9 2
theorem nmX9 : ∀ a, a < 2 → ∀ b, b < 2 → a ≠ b → (TX9 a).2.1 ≠ (TX9 b).2.1 := by decide +kernel
theorem tyX9_ok : ∀ k, k < 2 → parseFieldDescriptor (TX9 k).2.2.1 = some (tyX9 k) := by decide +kernel
abbrev cX9_init : ByteArray := prog_11_method_1_code
def yX9_init : MethodName := ⟨RX9, "<init>", "()V"⟩
abbrev cX9_add : ByteArray := prog_11_method_2_code
def yX9_add : MethodName := ⟨RX9, "add", "(IIIII)V"⟩
abbrev cX9_heightAt : ByteArray := prog_11_method_3_code
def yX9_heightAt : MethodName := ⟨RX9, "heightAt", "(I)I"⟩
abbrev cX9_copyFrom : ByteArray := prog_11_method_4_code
def yX9_copyFrom : MethodName := ⟨RX9, "copyFrom", "(LGreenLine$Signal;)V"⟩
def RX10 : String := "GreenLine"
def TX10 : u_T := fun k => match k with
  | 0 => ("GreenLine", "beam", "LGreenLine$Beam;", true)
  | 1 => ("GreenLine", "setup", "LGreenLine$Setup;", true)
  | 2 => ("GreenLine", "saved", "LGreenLine$Setup;", true)
  | 3 => ("GreenLine", "reader", "LGreenLine$Reader;", true)
  | 4 => ("GreenLine", "tape", "[I", true)
  | 5 => ("GreenLine", "screen", "LGreenLine$Screen;", true)
  | 6 => ("GreenLine", "guess", "LGreenLine$Part;", true)
  | 7 => ("GreenLine", "samples", "[I", true)
  | 8 => ("GreenLine", "earlier", "[I", true)
  | 9 => ("GreenLine", "tapeLength", "I", false)
  | 10 => ("GreenLine", "latestFault", "I", false)
  | _ => ("GreenLine", "latestPlace", "I", false)
def tyX10 : Nat → FieldType := fun k => match k with
  | 0 => .object "GreenLine$Beam"
  | 1 => .object "GreenLine$Setup"
  | 2 => .object "GreenLine$Setup"
  | 3 => .object "GreenLine$Reader"
  | 4 => .array .int
  | 5 => .object "GreenLine$Screen"
  | 6 => .object "GreenLine$Part"
  | 7 => .array .int
  | 8 => .array .int
  | 9 => .int
  | 10 => .int
  | _ => .int
abbrev wsX100 : List Cond := u_ws RX10 TX10 12
theorem nmX10 : ∀ a, a < 12 → ∀ b, b < 12 → a ≠ b → (TX10 a).2.1 ≠ (TX10 b).2.1 := by decide +kernel
theorem tyX10_ok : ∀ k, k < 12 → parseFieldDescriptor (TX10 k).2.2.1 = some (tyX10 k) := by decide +kernel
abbrev cX10_init : ByteArray := prog_1_method_1_code
def yX10_init : MethodName := ⟨RX10, "<init>", "()V"⟩
abbrev cX10_part : ByteArray := prog_1_method_2_code
def yX10_part : MethodName := ⟨RX10, "part", "(IIIIII)I"⟩
abbrev cX10_clear : ByteArray := prog_1_method_3_code
def yX10_clear : MethodName := ⟨RX10, "clear", "(I)I"⟩
abbrev cX10_raw : ByteArray := prog_1_method_4_code
def yX10_raw : MethodName := ⟨RX10, "raw", "(II)I"⟩
abbrev cX10_probe : ByteArray := prog_1_method_5_code
def yX10_probe : MethodName := ⟨RX10, "probe", "(IIII)Z"⟩
abbrev cX10_channel : ByteArray := prog_1_method_6_code
def yX10_channel : MethodName := ⟨RX10, "channel", "(IIII)Z"⟩
abbrev cX10_out : ByteArray := prog_1_method_7_code
def yX10_out : MethodName := ⟨RX10, "out", "(II)I"⟩
abbrev cX10_base : ByteArray := prog_1_method_8_code
def yX10_base : MethodName := ⟨RX10, "base", "(III)Z"⟩
abbrev cX10_mode : ByteArray := prog_1_method_9_code
def yX10_mode : MethodName := ⟨RX10, "mode", "(II)Z"⟩
abbrev cX10_feed : ByteArray := prog_1_method_10_code
def yX10_feed : MethodName := ⟨RX10, "feed", "(IIIII)I"⟩
abbrev cX10_feedNumber : ByteArray := prog_1_method_11_code
def yX10_feedNumber : MethodName := ⟨RX10, "feedNumber", "(I)V"⟩
abbrev cX10_end : ByteArray := prog_1_method_12_code
def yX10_end : MethodName := ⟨RX10, "end", "(I)I"⟩
abbrev cX10_text : ByteArray := prog_1_method_13_code
def yX10_text : MethodName := ⟨RX10, "text", "()I"⟩
abbrev cX10_fault : ByteArray := prog_1_method_14_code
def yX10_fault : MethodName := ⟨RX10, "fault", "(I)I"⟩
abbrev cX10_by : ByteArray := prog_1_method_15_code
def yX10_by : MethodName := ⟨RX10, "by", "(I)Z"⟩
abbrev cX10_swept : ByteArray := prog_1_method_16_code
def yX10_swept : MethodName := ⟨RX10, "swept", "(II)I"⟩
abbrev cX10_glow : ByteArray := prog_1_method_17_code
def yX10_glow : MethodName := ⟨RX10, "glow", "(III)I"⟩
abbrev cX10_lit : ByteArray := prog_1_method_18_code
def yX10_lit : MethodName := ⟨RX10, "lit", "(III)I"⟩
abbrev cX10_otherwise : ByteArray := prog_1_method_19_code
def yX10_otherwise : MethodName := ⟨RX10, "otherwise", "(III)I"⟩
abbrev cX10_takeSamples : ByteArray := prog_1_method_20_code
def yX10_takeSamples : MethodName := ⟨RX10, "takeSamples", "(II)I"⟩
abbrev cX10_guessFits : ByteArray := prog_1_method_21_code
def yX10_guessFits : MethodName := ⟨RX10, "guessFits", "(I)Z"⟩
abbrev cX10_caught : ByteArray := prog_1_method_22_code
def yX10_caught : MethodName := ⟨RX10, "caught", "(II)I"⟩
abbrev cX10_photo : ByteArray := prog_1_method_23_code
def yX10_photo : MethodName := ⟨RX10, "photo", "(II)Z"⟩
abbrev cX10_shoot : ByteArray := prog_1_method_24_code
def yX10_shoot : MethodName := ⟨RX10, "shoot", "(II)I"⟩
abbrev cX10_copyBits : ByteArray := prog_1_method_25_code
def yX10_copyBits : MethodName := ⟨RX10, "copyBits", "(I[I)V"⟩
abbrev cX10_settings : ByteArray := prog_1_method_26_code
def yX10_settings : MethodName := ⟨RX10, "settings", "(III)I"⟩
abbrev cX10_unlike : ByteArray := prog_1_method_27_code
def yX10_unlike : MethodName := ⟨RX10, "unlike", "([II)I"⟩
abbrev cX10_measure : ByteArray := prog_1_method_28_code
def yX10_measure : MethodName := ⟨RX10, "measure", "(IIII)I"⟩
abbrev cX10_lowest : ByteArray := prog_1_method_29_code
def yX10_lowest : MethodName := ⟨RX10, "lowest", "(III)I"⟩
abbrev cX10_highest : ByteArray := prog_1_method_30_code
def yX10_highest : MethodName := ⟨RX10, "highest", "(III)I"⟩
abbrev cX10_wide : ByteArray := prog_1_method_31_code
def yX10_wide : MethodName := ⟨RX10, "wide", "(IIII)I"⟩
abbrev cX10_rise : ByteArray := prog_1_method_32_code
def yX10_rise : MethodName := ⟨RX10, "rise", "(IIIIII)I"⟩
abbrev cX10_leastRise : ByteArray := prog_1_method_33_code
def yX10_leastRise : MethodName := ⟨RX10, "leastRise", "(I)I"⟩
abbrev cX10_greatestRise : ByteArray := prog_1_method_34_code
def yX10_greatestRise : MethodName := ⟨RX10, "greatestRise", "(I)I"⟩
abbrev cX10_parting : ByteArray := prog_1_method_35_code
def yX10_parting : MethodName := ⟨RX10, "parting", "(IIII)I"⟩
abbrev cX10_image : ByteArray := prog_1_method_36_code
def yX10_image : MethodName := ⟨RX10, "image", "()I"⟩
abbrev cX10_back : ByteArray := prog_1_method_37_code
def yX10_back : MethodName := ⟨RX10, "back", "()I"⟩
abbrev cX10_about : ByteArray := prog_1_method_38_code
def yX10_about : MethodName := ⟨RX10, "about", "(I)I"⟩
abbrev cX10_aboutInputs : ByteArray := prog_1_method_39_code
def yX10_aboutInputs : MethodName := ⟨RX10, "aboutInputs", "(I)I"⟩
abbrev cX10_within : ByteArray := prog_1_method_40_code
def yX10_within : MethodName := ⟨RX10, "within", "(III)Z"⟩
abbrev cX10_isSignal : ByteArray := prog_1_method_41_code
def yX10_isSignal : MethodName := ⟨RX10, "isSignal", "(I)Z"⟩
abbrev cX10_isChannel : ByteArray := prog_1_method_42_code
def yX10_isChannel : MethodName := ⟨RX10, "isChannel", "(I)Z"⟩
abbrev cX10_isSpan : ByteArray := prog_1_method_43_code
def yX10_isSpan : MethodName := ⟨RX10, "isSpan", "(I)Z"⟩
def RX11 : String := "GreenLineModel"
def TX11 : u_T := fun k => match k with
  | 0 => ("GreenLineModel", "a", "[I", true)
  | 1 => ("GreenLineModel", "image", "[I", true)
  | 2 => ("GreenLineModel", "tape", "[B", true)
  | 3 => ("GreenLineModel", "taped", "I", false)
  | 4 => ("GreenLineModel", "fault", "I", false)
  | 5 => ("GreenLineModel", "faultAt", "I", false)
  | 6 => ("GreenLineModel", "clauses", "[I", true)
  | 7 => ("GreenLineModel", "clauseWord", "[I", true)
  | 8 => ("GreenLineModel", "clauseAt", "[I", true)
  | 9 => ("GreenLineModel", "order", "[I", true)
  | 10 => ("GreenLineModel", "value", "[I", true)
  | 11 => ("GreenLineModel", "out", "[I", true)
  | 12 => ("GreenLineModel", "length", "I", false)
  | 13 => ("GreenLineModel", "at", "I", false)
  | 14 => ("GreenLineModel", "token", "I", false)
  | 15 => ("GreenLineModel", "sort", "I", false)
  | 16 => ("GreenLineModel", "told", "I", false)
  | 17 => ("GreenLineModel", "wrong", "I", false)
  | 18 => ("GreenLineModel", "wrongAt", "I", false)
  | 19 => ("GreenLineModel", "open", "I", false)
  | 20 => ("GreenLineModel", "frames", "I", false)
  | 21 => ("GreenLineModel", "frame", "[I", true)
  | 22 => ("GreenLineModel", "compare", "[I", true)
  | 23 => ("GreenLineModel", "waits", "I", false)
  | 24 => ("GreenLineModel", "wait", "[I", true)
  | 25 => ("GreenLineModel", "waitFrame", "[I", true)
  | 26 => ("GreenLineModel", "state", "I", false)
  | 27 => ("GreenLineModel", "newClauses", "I", false)
  | 28 => ("GreenLineModel", "newWord", "[I", true)
  | 29 => ("GreenLineModel", "newAt", "[I", true)
  | 30 => ("GreenLineModel", "newOrders", "I", false)
  | 31 => ("GreenLineModel", "newOrder", "[I", true)
  | 32 => ("GreenLineModel", "newValue", "[I", true)
  | 33 => ("GreenLineModel", "name", "[I", true)
  | 34 => ("GreenLineModel", "pile", "[J", true)
  | 35 => ("GreenLineModel", "sweeps", "I", false)
  | 36 => ("GreenLineModel", "begun", "[I", true)
  | 37 => ("GreenLineModel", "glow", "[I", true)
  | 38 => ("GreenLineModel", "sample", "[I", true)
  | 39 => ("GreenLineModel", "low", "I", false)
  | 40 => ("GreenLineModel", "high", "I", false)
  | _ => ("GreenLineModel", "lit", "[Z", true)
def tyX11 : Nat → FieldType := fun k => match k with
  | 0 => .array .int
  | 1 => .array .int
  | 2 => .array .byte
  | 3 => .int
  | 4 => .int
  | 5 => .int
  | 6 => .array .int
  | 7 => .array .int
  | 8 => .array .int
  | 9 => .array .int
  | 10 => .array .int
  | 11 => .array .int
  | 12 => .int
  | 13 => .int
  | 14 => .int
  | 15 => .int
  | 16 => .int
  | 17 => .int
  | 18 => .int
  | 19 => .int
  | 20 => .int
  | 21 => .array .int
  | 22 => .array .int
  | 23 => .int
  | 24 => .array .int
  | 25 => .array .int
  | 26 => .int
  | 27 => .int
  | 28 => .array .int
  | 29 => .array .int
  | 30 => .int
  | 31 => .array .int
  | 32 => .array .int
  | 33 => .array .int
  | 34 => .array .long
  | 35 => .int
  | 36 => .array .int
  | 37 => .array .int
  | 38 => .array .int
  | 39 => .int
  | 40 => .int
  | _ => .array .boolean
abbrev wsX110 : List Cond := u_ws RX11 TX11 42
theorem nmX11 : ∀ a, a < 42 → ∀ b, b < 42 → a ≠ b → (TX11 a).2.1 ≠ (TX11 b).2.1 := by decide +kernel
theorem tyX11_ok : ∀ k, k < 42 → parseFieldDescriptor (TX11 k).2.2.1 = some (tyX11 k) := by decide +kernel
abbrev cX11_init : ByteArray := prog_13_method_1_code
def yX11_init : MethodName := ⟨RX11, "<init>", "()V"⟩
abbrev cX11_in : ByteArray := prog_13_method_2_code
def yX11_in : MethodName := ⟨RX11, "in", "(III)Z"⟩
abbrev cX11_rest : ByteArray := prog_13_method_3_code
def yX11_rest : MethodName := ⟨RX11, "rest", "(II)I"⟩
abbrev cX11_down : ByteArray := prog_13_method_4_code
def yX11_down : MethodName := ⟨RX11, "down", "(II)I"⟩
abbrev cX11_copies : ByteArray := prog_13_method_5_code
def yX11_copies : MethodName := ⟨RX11, "copies", "(Z)V"⟩
abbrev cX11_isSignal : ByteArray := prog_13_method_6_code
def yX11_isSignal : MethodName := ⟨RX11, "isSignal", "(I)Z"⟩
abbrev cX11_isChannel : ByteArray := prog_13_method_7_code
def yX11_isChannel : MethodName := ⟨RX11, "isChannel", "(I)Z"⟩
abbrev cX11_part : ByteArray := prog_13_method_8_code
def yX11_part : MethodName := ⟨RX11, "part", "(IIIIII)I"⟩
abbrev cX11_clear : ByteArray := prog_13_method_9_code
def yX11_clear : MethodName := ⟨RX11, "clear", "(I)I"⟩
abbrev cX11_phase : ByteArray := prog_13_method_10_code
def yX11_phase : MethodName := ⟨RX11, "phase", "(II)I"⟩
abbrev cX11_partAt : ByteArray := prog_13_method_11_code
def yX11_partAt : MethodName := ⟨RX11, "partAt", "(II)I"⟩
abbrev cX11_rawAt : ByteArray := prog_13_method_12_code
def yX11_rawAt : MethodName := ⟨RX11, "rawAt", "(II)I"⟩
abbrev cX11_raw : ByteArray := prog_13_method_13_code
def yX11_raw : MethodName := ⟨RX11, "raw", "(II)I"⟩
abbrev cX11_probe : ByteArray := prog_13_method_14_code
def yX11_probe : MethodName := ⟨RX11, "probe", "(IIII)Z"⟩
abbrev cX11_channel : ByteArray := prog_13_method_15_code
def yX11_channel : MethodName := ⟨RX11, "channel", "(IIII)Z"⟩
abbrev cX11_laysOut : ByteArray := prog_13_method_16_code
def yX11_laysOut : MethodName := ⟨RX11, "laysOut", "(I)V"⟩
abbrev cX11_laysBoth : ByteArray := prog_13_method_17_code
def yX11_laysBoth : MethodName := ⟨RX11, "laysBoth", "()V"⟩
abbrev cX11_out : ByteArray := prog_13_method_18_code
def yX11_out : MethodName := ⟨RX11, "out", "(II)I"⟩
abbrev cX11_base : ByteArray := prog_13_method_19_code
def yX11_base : MethodName := ⟨RX11, "base", "(III)Z"⟩
abbrev cX11_mode : ByteArray := prog_13_method_20_code
def yX11_mode : MethodName := ⟨RX11, "mode", "(II)Z"⟩
abbrev cX11_put : ByteArray := prog_13_method_21_code
def yX11_put : MethodName := ⟨RX11, "put", "(I)V"⟩
abbrev cX11_feed : ByteArray := prog_13_method_22_code
def yX11_feed : MethodName := ⟨RX11, "feed", "(IIIII)I"⟩
abbrev cX11_end : ByteArray := prog_13_method_23_code
def yX11_end : MethodName := ⟨RX11, "end", "(I)I"⟩
abbrev cX11_isLetter : ByteArray := prog_13_method_24_code
def yX11_isLetter : MethodName := ⟨RX11, "isLetter", "(I)Z"⟩
abbrev cX11_wordOf : ByteArray := prog_13_method_25_code
def yX11_wordOf : MethodName := ⟨RX11, "wordOf", "(J)I"⟩
abbrev cX11_next : ByteArray := prog_13_method_26_code
def yX11_next : MethodName := ⟨RX11, "next", "()V"⟩
abbrev cX11_isSign : ByteArray := prog_13_method_27_code
def yX11_isSign : MethodName := ⟨RX11, "isSign", "(I)Z"⟩
abbrev cX11_isWord : ByteArray := prog_13_method_28_code
def yX11_isWord : MethodName := ⟨RX11, "isWord", "(I)Z"⟩
abbrev cX11_errs : ByteArray := prog_13_method_29_code
def yX11_errs : MethodName := ⟨RX11, "errs", "(I)V"⟩
abbrev cX11_emits : ByteArray := prog_13_method_30_code
def yX11_emits : MethodName := ⟨RX11, "emits", "(II)V"⟩
abbrev cX11_opensFrame : ByteArray := prog_13_method_31_code
def yX11_opensFrame : MethodName := ⟨RX11, "opensFrame", "(I)V"⟩
abbrev cX11_top : ByteArray := prog_13_method_32_code
def yX11_top : MethodName := ⟨RX11, "top", "()I"⟩
abbrev cX11_opensSign : ByteArray := prog_13_method_33_code
def yX11_opensSign : MethodName := ⟨RX11, "opensSign", "(I)Z"⟩
abbrev cX11_rank : ByteArray := prog_13_method_34_code
def yX11_rank : MethodName := ⟨RX11, "rank", "(I)I"⟩
abbrev cX11_works : ByteArray := prog_13_method_35_code
def yX11_works : MethodName := ⟨RX11, "works", "(I)V"⟩
abbrev cX11_waitsFor : ByteArray := prog_13_method_36_code
def yX11_waitsFor : MethodName := ⟨RX11, "waitsFor", "(I)V"⟩
abbrev cX11_asks : ByteArray := prog_13_method_37_code
def yX11_asks : MethodName := ⟨RX11, "asks", "()V"⟩
abbrev cX11_begins : ByteArray := prog_13_method_38_code
def yX11_begins : MethodName := ⟨RX11, "begins", "()V"⟩
abbrev cX11_oneIsOver : ByteArray := prog_13_method_39_code
def yX11_oneIsOver : MethodName := ⟨RX11, "oneIsOver", "()V"⟩
abbrev cX11_askIsOver : ByteArray := prog_13_method_40_code
def yX11_askIsOver : MethodName := ⟨RX11, "askIsOver", "()V"⟩
abbrev cX11_isAsking : ByteArray := prog_13_method_41_code
def yX11_isAsking : MethodName := ⟨RX11, "isAsking", "(I)Z"⟩
abbrev cX11_goesOn : ByteArray := prog_13_method_42_code
def yX11_goesOn : MethodName := ⟨RX11, "goesOn", "()V"⟩
abbrev cX11_asksOn : ByteArray := prog_13_method_43_code
def yX11_asksOn : MethodName := ⟨RX11, "asksOn", "()V"⟩
abbrev cX11_clauseIsOver : ByteArray := prog_13_method_44_code
def yX11_clauseIsOver : MethodName := ⟨RX11, "clauseIsOver", "()V"⟩
abbrev cX11_wasHold : ByteArray := prog_13_method_45_code
def yX11_wasHold : MethodName := ⟨RX11, "wasHold", "()Z"⟩
abbrev cX11_clause : ByteArray := prog_13_method_46_code
def yX11_clause : MethodName := ⟨RX11, "clause", "()V"⟩
abbrev cX11_text : ByteArray := prog_13_method_47_code
def yX11_text : MethodName := ⟨RX11, "text", "()I"⟩
abbrev cX11_keepsText : ByteArray := prog_13_method_48_code
def yX11_keepsText : MethodName := ⟨RX11, "keepsText", "(I)V"⟩
abbrev cX11_fault : ByteArray := prog_13_method_49_code
def yX11_fault : MethodName := ⟨RX11, "fault", "(I)I"⟩
abbrev cX11_bound : ByteArray := prog_13_method_50_code
def yX11_bound : MethodName := ⟨RX11, "bound", "(J)J"⟩
abbrev cX11_worked : ByteArray := prog_13_method_51_code
def yX11_worked : MethodName := ⟨RX11, "worked", "(IJJ)J"⟩
abbrev cX11_tells : ByteArray := prog_13_method_52_code
def yX11_tells : MethodName := ⟨RX11, "tells", "(I)J"⟩
abbrev cX11_by : ByteArray := prog_13_method_53_code
def yX11_by : MethodName := ⟨RX11, "by", "(I)Z"⟩
abbrev cX11_words : ByteArray := prog_13_method_54_code
def yX11_words : MethodName := ⟨RX11, "words", "(II)V"⟩
abbrev cX11_triggers : ByteArray := prog_13_method_55_code
def yX11_triggers : MethodName := ⟨RX11, "triggers", "()Z"⟩
abbrev cX11_hold : ByteArray := prog_13_method_56_code
def yX11_hold : MethodName := ⟨RX11, "hold", "()I"⟩
abbrev cX11_sweeps : ByteArray := prog_13_method_57_code
def yX11_sweeps : MethodName := ⟨RX11, "sweeps", "(I)V"⟩
abbrev cX11_isEnd : ByteArray := prog_13_method_58_code
def yX11_isEnd : MethodName := ⟨RX11, "isEnd", "(I)Z"⟩
abbrev cX11_swept : ByteArray := prog_13_method_59_code
def yX11_swept : MethodName := ⟨RX11, "swept", "(II)I"⟩
abbrev cX11_rowOf : ByteArray := prog_13_method_60_code
def yX11_rowOf : MethodName := ⟨RX11, "rowOf", "(II)I"⟩
abbrev cX11_turnOf : ByteArray := prog_13_method_61_code
def yX11_turnOf : MethodName := ⟨RX11, "turnOf", "(II)I"⟩
abbrev cX11_dotOf : ByteArray := prog_13_method_62_code
def yX11_dotOf : MethodName := ⟨RX11, "dotOf", "(III)I"⟩
abbrev cX11_draws : ByteArray := prog_13_method_63_code
def yX11_draws : MethodName := ⟨RX11, "draws", "(I)V"⟩
abbrev cX11_shows : ByteArray := prog_13_method_64_code
def yX11_shows : MethodName := ⟨RX11, "shows", "(I)V"⟩
abbrev cX11_glow : ByteArray := prog_13_method_65_code
def yX11_glow : MethodName := ⟨RX11, "glow", "(III)I"⟩
abbrev cX11_rowsOf : ByteArray := prog_13_method_66_code
def yX11_rowsOf : MethodName := ⟨RX11, "rowsOf", "(II)I"⟩
abbrev cX11_dots : ByteArray := prog_13_method_67_code
def yX11_dots : MethodName := ⟨RX11, "dots", "(I)I"⟩
abbrev cX11_isLight : ByteArray := prog_13_method_68_code
def yX11_isLight : MethodName := ⟨RX11, "isLight", "(I)Z"⟩
abbrev cX11_lit : ByteArray := prog_13_method_69_code
def yX11_lit : MethodName := ⟨RX11, "lit", "(III)I"⟩
abbrev cX11_otherwise : ByteArray := prog_13_method_70_code
def yX11_otherwise : MethodName := ⟨RX11, "otherwise", "(III)I"⟩
abbrev cX11_isAs : ByteArray := prog_13_method_71_code
def yX11_isAs : MethodName := ⟨RX11, "isAs", "(IIIII)Z"⟩
abbrev cX11_catches : ByteArray := prog_13_method_72_code
def yX11_catches : MethodName := ⟨RX11, "catches", "(III)Z"⟩
abbrev cX11_caught : ByteArray := prog_13_method_73_code
def yX11_caught : MethodName := ⟨RX11, "caught", "(II)I"⟩
abbrev cX11_photo : ByteArray := prog_13_method_74_code
def yX11_photo : MethodName := ⟨RX11, "photo", "(II)Z"⟩
abbrev cX11_shoot : ByteArray := prog_13_method_75_code
def yX11_shoot : MethodName := ⟨RX11, "shoot", "(II)I"⟩
abbrev cX11_isPhoto : ByteArray := prog_13_method_76_code
def yX11_isPhoto : MethodName := ⟨RX11, "isPhoto", "(I)Z"⟩
abbrev cX11_gainOf : ByteArray := prog_13_method_77_code
def yX11_gainOf : MethodName := ⟨RX11, "gainOf", "(I)I"⟩
abbrev cX11_settings : ByteArray := prog_13_method_78_code
def yX11_settings : MethodName := ⟨RX11, "settings", "(III)I"⟩
abbrev cX11_risen : ByteArray := prog_13_method_79_code
def yX11_risen : MethodName := ⟨RX11, "risen", "(IIIII)I"⟩
abbrev cX11_measure : ByteArray := prog_13_method_80_code
def yX11_measure : MethodName := ⟨RX11, "measure", "(IIII)I"⟩
abbrev cX11_parting : ByteArray := prog_13_method_81_code
def yX11_parting : MethodName := ⟨RX11, "parting", "(IIII)I"⟩
abbrev cX11_image : ByteArray := prog_13_method_82_code
def yX11_image : MethodName := ⟨RX11, "image", "()I"⟩
abbrev cX11_back : ByteArray := prog_13_method_83_code
def yX11_back : MethodName := ⟨RX11, "back", "()I"⟩
abbrev cX11_about : ByteArray := prog_13_method_84_code
def yX11_about : MethodName := ⟨RX11, "about", "(I)I"⟩
def RJ6 : String := "java/lang/Integer"
def TJ6 : u_T := fun k => match k with
  | _ => ("", "", "", false)
def tyJ6 : Nat → FieldType := fun k => match k with
  | _ => .int
theorem nmJ6 : ∀ a, a < 0 → ∀ b, b < 0 → a ≠ b → (TJ6 a).2.1 ≠ (TJ6 b).2.1 := by decide +kernel
theorem tyJ6_ok : ∀ k, k < 0 → parseFieldDescriptor (TJ6 k).2.2.1 = some (tyJ6 k) := by decide +kernel
abbrev cJ6_bitCount_0f7a4 : ByteArray := prog_14_method_49_code
def yJ6_bitCount_0f7a4 : MethodName := ⟨RJ6, "bitCount", "(I)I"⟩
def RJ9 : String := "java/lang/Math"
def TJ9 : u_T := fun k => match k with
  | _ => ("", "", "", false)
def tyJ9 : Nat → FieldType := fun k => match k with
  | _ => .int
theorem nmJ9 : ∀ a, a < 0 → ∀ b, b < 0 → a ≠ b → (TJ9 a).2.1 ≠ (TJ9 b).2.1 := by decide +kernel
theorem tyJ9_ok : ∀ k, k < 0 → parseFieldDescriptor (TJ9 k).2.2.1 = some (tyJ9 k) := by decide +kernel
abbrev cJ9_floorDiv_7cf53 : ByteArray := prog_15_method_47_code
def yJ9_floorDiv_7cf53 : MethodName := ⟨RJ9, "floorDiv", "(II)I"⟩
abbrev cJ9_max_7cf53 : ByteArray := prog_15_method_65_code
def yJ9_max_7cf53 : MethodName := ⟨RJ9, "max", "(II)I"⟩
abbrev cJ9_min_7cf53 : ByteArray := prog_15_method_69_code
def yJ9_min_7cf53 : MethodName := ⟨RJ9, "min", "(II)I"⟩
def RJ0 : String := "java/lang/String"
def TJ0 : u_T := fun k => match k with
  | _ => ("", "", "", false)
def tyJ0 : Nat → FieldType := fun k => match k with
  | _ => .int
theorem nmJ0 : ∀ a, a < 0 → ∀ b, b < 0 → a ≠ b → (TJ0 a).2.1 ≠ (TJ0 b).2.1 := by decide +kernel
theorem tyJ0_ok : ∀ k, k < 0 → parseFieldDescriptor (TJ0 k).2.2.1 = some (tyJ0 k) := by decide +kernel
abbrev cJ0_length_8abf5 : ByteArray := prog_16_method_54_code
def yJ0_length_8abf5 : MethodName := ⟨RJ0, "length", "()I"⟩
abbrev cJ0_charAt_5068e : ByteArray := prog_16_method_56_code
def yJ0_charAt_5068e : MethodName := ⟨RJ0, "charAt", "(I)C"⟩
abbrev cJ0_coder_7d493 : ByteArray := prog_16_method_152_code
def yJ0_coder_7d493 : MethodName := ⟨RJ0, "coder", "()B"⟩
abbrev cJ0_isLatin1_aae02 : ByteArray := prog_16_method_154_code
def yJ0_isLatin1_aae02 : MethodName := ⟨RJ0, "isLatin1", "()Z"⟩
abbrev cJ0_checkIndex_df160 : ByteArray := prog_16_method_155_code
def yJ0_checkIndex_df160 : MethodName := ⟨RJ0, "checkIndex", "(II)V"⟩
def RJ1 : String := "java/lang/StringLatin1"
def TJ1 : u_T := fun k => match k with
  | _ => ("", "", "", false)
def tyJ1 : Nat → FieldType := fun k => match k with
  | _ => .int
theorem nmJ1 : ∀ a, a < 0 → ∀ b, b < 0 → a ≠ b → (TJ1 a).2.1 ≠ (TJ1 b).2.1 := by decide +kernel
theorem tyJ1_ok : ∀ k, k < 0 → parseFieldDescriptor (TJ1 k).2.2.1 = some (tyJ1 k) := by decide +kernel
abbrev cJ1_charAt_3b067 : ByteArray := prog_17_method_2_code
def yJ1_charAt_3b067 : MethodName := ⟨RJ1, "charAt", "([BI)C"⟩
def RJ2 : String := "java/lang/StringUTF16"
def TJ2 : u_T := fun k => match k with
  | _ => ("", "", "", false)
def tyJ2 : Nat → FieldType := fun k => match k with
  | _ => .int
theorem nmJ2 : ∀ a, a < 0 → ∀ b, b < 0 → a ≠ b → (TJ2 a).2.1 ≠ (TJ2 b).2.1 := by decide +kernel
theorem tyJ2_ok : ∀ k, k < 0 → parseFieldDescriptor (TJ2 k).2.2.1 = some (tyJ2 k) := by decide +kernel
abbrev cJ2_getChar_3b067 : ByteArray := prog_18_method_5_code
def yJ2_getChar_3b067 : MethodName := ⟨RJ2, "getChar", "([BI)C"⟩
abbrev cJ2_length_9d52b : ByteArray := prog_18_method_6_code
def yJ2_length_9d52b : MethodName := ⟨RJ2, "length", "([B)I"⟩
abbrev cJ2_charAt_3b067 : ByteArray := prog_18_method_83_code
def yJ2_charAt_3b067 : MethodName := ⟨RJ2, "charAt", "([BI)C"⟩
abbrev cJ2_checkIndex_2214a : ByteArray := prog_18_method_91_code
def yJ2_checkIndex_2214a : MethodName := ⟨RJ2, "checkIndex", "(I[B)V"⟩
def RJ3 : String := "jdk/internal/util/Preconditions"
def TJ3 : u_T := fun k => match k with
  | _ => ("", "", "", false)
def tyJ3 : Nat → FieldType := fun k => match k with
  | _ => .int
theorem nmJ3 : ∀ a, a < 0 → ∀ b, b < 0 → a ≠ b → (TJ3 a).2.1 ≠ (TJ3 b).2.1 := by decide +kernel
theorem tyJ3_ok : ∀ k, k < 0 → parseFieldDescriptor (TJ3 k).2.2.1 = some (tyJ3 k) := by decide +kernel
abbrev cJ3_checkIndex_8e157 : ByteArray := prog_19_method_11_code
def yJ3_checkIndex_8e157 : MethodName := ⟨RJ3, "checkIndex", "(IILjava/util/function/BiFunction;)I"⟩
def RL : String := "GreenLineLaw"
abbrev cL_law : ByteArray := code
def yL_law : MethodName := ⟨RL, "law", "([I)Z"⟩
abbrev vwCl : List vw_C := [(RX0, TX0, 7), (RX1, TX1, 9), (RX2, TX2, 6), (RX3, TX3, 5), (RX4, TX4, 4), (RX5, TX5, 17), (RX6, TX6, 6), (RX7, TX7, 1), (RX8, TX8, 10), (RX9, TX9, 2), (RX10, TX10, 12), (RX11, TX11, 42)]
