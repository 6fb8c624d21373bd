section
-- ===== PART A: goes FIRST, ahead of the names: the tables' words, and 'selects' of the private methods out of them =====
/-- a private method of a class that the tables say can be made, by its rows of tables_1 -/
def lw_okq (q : MethodName × Nat) : Prop := (q.1.cls ≠ "java/lang/invoke/MethodHandle" ∧ q.1.cls ≠ "java/lang/invoke/VarHandle") ∧ Cond.instantiable q.1.cls q.2 ∈ tables_1 ∧ Cond.privateMethod q.1 ∈ tables_1 ∧ Cond.instanceMethod q.1 ∈ tables_1
theorem lw_p0 : lw_okq (⟨"RunsBack$Log", "add", "(IIIII)V"⟩, 6) := ⟨⟨by decide +kernel, by decide +kernel⟩, List.mem_of_getElem? (i := 184) (by decide +kernel), List.mem_of_getElem? (i := 426) (by decide +kernel), List.mem_of_getElem? (i := 427) (by decide +kernel)⟩
theorem lw_p1 : lw_okq (⟨"RunsBack$Puts", "has", "(I)Z"⟩, 12) := ⟨⟨by decide +kernel, by decide +kernel⟩, List.mem_of_getElem? (i := 211) (by decide +kernel), List.mem_of_getElem? (i := 451) (by decide +kernel), List.mem_of_getElem? (i := 452) (by decide +kernel)⟩
theorem lw_p2 : lw_okq (⟨"RunsBack$Run", "topAt", "(I)I"⟩, 15) := ⟨⟨by decide +kernel, by decide +kernel⟩, List.mem_of_getElem? (i := 176) (by decide +kernel), List.mem_of_getElem? (i := 573) (by decide +kernel), List.mem_of_getElem? (i := 574) (by decide +kernel)⟩
theorem lw_p3 : lw_okq (⟨"RunsBack$Holding", "dropWhatGoesBy", "(I)V"⟩, 5) := ⟨⟨by decide +kernel, by decide +kernel⟩, List.mem_of_getElem? (i := 278) (by decide +kernel), List.mem_of_getElem? (i := 608) (by decide +kernel), List.mem_of_getElem? (i := 609) (by decide +kernel)⟩
theorem lw_p4 : lw_okq (⟨"RunsBack$Holding", "has", "(I)Z"⟩, 5) := ⟨⟨by decide +kernel, by decide +kernel⟩, List.mem_of_getElem? (i := 278) (by decide +kernel), List.mem_of_getElem? (i := 616) (by decide +kernel), List.mem_of_getElem? (i := 617) (by decide +kernel)⟩
theorem lw_p5 : lw_okq (⟨"RunsBack", "isWatched", "(I)Z"⟩, 13) := ⟨⟨by decide +kernel, by decide +kernel⟩, List.mem_of_getElem? (i := 15) (by decide +kernel), List.mem_of_getElem? (i := 626) (by decide +kernel), List.mem_of_getElem? (i := 627) (by decide +kernel)⟩
theorem lw_p6 : lw_okq (⟨"RunsBack", "replay", "(LRunsBack$Run;I)V"⟩, 13) := ⟨⟨by decide +kernel, by decide +kernel⟩, List.mem_of_getElem? (i := 15) (by decide +kernel), List.mem_of_getElem? (i := 638) (by decide +kernel), List.mem_of_getElem? (i := 639) (by decide +kernel)⟩
theorem lw_p7 : lw_okq (⟨"RunsBack", "count", "(LRunsBack$Run;I)V"⟩, 13) := ⟨⟨by decide +kernel, by decide +kernel⟩, List.mem_of_getElem? (i := 15) (by decide +kernel), List.mem_of_getElem? (i := 650) (by decide +kernel), List.mem_of_getElem? (i := 651) (by decide +kernel)⟩
theorem lw_p8 : lw_okq (⟨"RunsBack$Log", "isBehind", "(II)Z"⟩, 6) := ⟨⟨by decide +kernel, by decide +kernel⟩, List.mem_of_getElem? (i := 184) (by decide +kernel), List.mem_of_getElem? (i := 662) (by decide +kernel), List.mem_of_getElem? (i := 663) (by decide +kernel)⟩
theorem lw_p9 : lw_okq (⟨"RunsBack$Calls", "has", "(I)Z"⟩, 4) := ⟨⟨by decide +kernel, by decide +kernel⟩, List.mem_of_getElem? (i := 256) (by decide +kernel), List.mem_of_getElem? (i := 686) (by decide +kernel), List.mem_of_getElem? (i := 687) (by decide +kernel)⟩
theorem lw_p10 : lw_okq (⟨"RunsBack", "isKept", "(I)Z"⟩, 13) := ⟨⟨by decide +kernel, by decide +kernel⟩, List.mem_of_getElem? (i := 15) (by decide +kernel), List.mem_of_getElem? (i := 733) (by decide +kernel), List.mem_of_getElem? (i := 734) (by decide +kernel)⟩
theorem lw_p11 : lw_okq (⟨"RunsBack", "numbered", "(I)LRunsBack$Run;"⟩, 13) := ⟨⟨by decide +kernel, by decide +kernel⟩, List.mem_of_getElem? (i := 15) (by decide +kernel), List.mem_of_getElem? (i := 741) (by decide +kernel), List.mem_of_getElem? (i := 742) (by decide +kernel)⟩
theorem lw_p12 : lw_okq (⟨"RunsBack$Puts", "aheadOf", "(I)I"⟩, 12) := ⟨⟨by decide +kernel, by decide +kernel⟩, List.mem_of_getElem? (i := 211) (by decide +kernel), List.mem_of_getElem? (i := 752) (by decide +kernel), List.mem_of_getElem? (i := 753) (by decide +kernel)⟩
theorem lw_p13 : lw_okq (⟨"RunsBack", "lastChange", "(LRunsBack$Run;II)I"⟩, 13) := ⟨⟨by decide +kernel, by decide +kernel⟩, List.mem_of_getElem? (i := 15) (by decide +kernel), List.mem_of_getElem? (i := 782) (by decide +kernel), List.mem_of_getElem? (i := 783) (by decide +kernel)⟩
theorem lw_p14 : lw_okq (⟨"RunsBack$Puts", "mark", "([ZI)V"⟩, 12) := ⟨⟨by decide +kernel, by decide +kernel⟩, List.mem_of_getElem? (i := 211) (by decide +kernel), List.mem_of_getElem? (i := 831) (by decide +kernel), List.mem_of_getElem? (i := 832) (by decide +kernel)⟩
theorem lw_p15 : lw_okq (⟨"RunsBack$Beside", "countPairs", "(LRunsBack$Calls;ILRunsBack$Calls;I)V"⟩, 6) := ⟨⟨by decide +kernel, by decide +kernel⟩, List.mem_of_getElem? (i := 68) (by decide +kernel), List.mem_of_getElem? (i := 918) (by decide +kernel), List.mem_of_getElem? (i := 919) (by decide +kernel)⟩
def lw_privs_1 : List (MethodName × Nat) := [(⟨"RunsBack$Log", "add", "(IIIII)V"⟩, 6), (⟨"RunsBack$Puts", "has", "(I)Z"⟩, 12), (⟨"RunsBack$Run", "topAt", "(I)I"⟩, 15), (⟨"RunsBack$Holding", "dropWhatGoesBy", "(I)V"⟩, 5), (⟨"RunsBack$Holding", "has", "(I)Z"⟩, 5), (⟨"RunsBack", "isWatched", "(I)Z"⟩, 13), (⟨"RunsBack", "replay", "(LRunsBack$Run;I)V"⟩, 13), (⟨"RunsBack", "count", "(LRunsBack$Run;I)V"⟩, 13), (⟨"RunsBack$Log", "isBehind", "(II)Z"⟩, 6), (⟨"RunsBack$Calls", "has", "(I)Z"⟩, 4), (⟨"RunsBack", "isKept", "(I)Z"⟩, 13), (⟨"RunsBack", "numbered", "(I)LRunsBack$Run;"⟩, 13), (⟨"RunsBack$Puts", "aheadOf", "(I)I"⟩, 12), (⟨"RunsBack", "lastChange", "(LRunsBack$Run;II)I"⟩, 13), (⟨"RunsBack$Puts", "mark", "([ZI)V"⟩, 12), (⟨"RunsBack$Beside", "countPairs", "(LRunsBack$Calls;ILRunsBack$Calls;I)V"⟩, 6)]
theorem lw_r1 : ∀ q ∈ lw_privs_1, lw_okq q := List.forall_mem_cons.mpr ⟨lw_p0, List.forall_mem_cons.mpr ⟨lw_p1, List.forall_mem_cons.mpr ⟨lw_p2, List.forall_mem_cons.mpr ⟨lw_p3, List.forall_mem_cons.mpr ⟨lw_p4, List.forall_mem_cons.mpr ⟨lw_p5, List.forall_mem_cons.mpr ⟨lw_p6, List.forall_mem_cons.mpr ⟨lw_p7, List.forall_mem_cons.mpr ⟨lw_p8, List.forall_mem_cons.mpr ⟨lw_p9, List.forall_mem_cons.mpr ⟨lw_p10, List.forall_mem_cons.mpr ⟨lw_p11, List.forall_mem_cons.mpr ⟨lw_p12, List.forall_mem_cons.mpr ⟨lw_p13, List.forall_mem_cons.mpr ⟨lw_p14, List.forall_mem_cons.mpr ⟨lw_p15, fun _ h => absurd h List.not_mem_nil⟩⟩⟩⟩⟩⟩⟩⟩⟩⟩⟩⟩⟩⟩⟩⟩
theorem lw_p16 : lw_okq (⟨"RunsBack$Beside", "choosePairs", "(LRunsBack$Calls;ILRunsBack$Calls;I)V"⟩, 6) := ⟨⟨by decide +kernel, by decide +kernel⟩, List.mem_of_getElem? (i := 68) (by decide +kernel), List.mem_of_getElem? (i := 928) (by decide +kernel), List.mem_of_getElem? (i := 929) (by decide +kernel)⟩
theorem lw_p17 : lw_okq (⟨"RunsBack$Beside", "areUnlike", "(LRunsBack$Puts;IILRunsBack$Puts;LRunsBack$Puts;)Z"⟩, 6) := ⟨⟨by decide +kernel, by decide +kernel⟩, List.mem_of_getElem? (i := 68) (by decide +kernel), List.mem_of_getElem? (i := 975) (by decide +kernel), List.mem_of_getElem? (i := 976) (by decide +kernel)⟩
theorem lw_p18 : lw_okq (⟨"RunsBack", "lookAtRun", "(LRunsBack$Run;I)I"⟩, 13) := ⟨⟨by decide +kernel, by decide +kernel⟩, List.mem_of_getElem? (i := 15) (by decide +kernel), List.mem_of_getElem? (i := 987) (by decide +kernel), List.mem_of_getElem? (i := 988) (by decide +kernel)⟩
theorem lw_p19 : lw_okq (⟨"RunsBackModel", "clears", "([I)V"⟩, 55) := ⟨⟨by decide +kernel, by decide +kernel⟩, List.mem_of_getElem? (i := 991) (by decide +kernel), List.mem_of_getElem? (i := 1193) (by decide +kernel), List.mem_of_getElem? (i := 1194) (by decide +kernel)⟩
theorem lw_p20 : lw_okq (⟨"RunsBackModel", "notes", "(IIII)V"⟩, 55) := ⟨⟨by decide +kernel, by decide +kernel⟩, List.mem_of_getElem? (i := 991) (by decide +kernel), List.mem_of_getElem? (i := 1215) (by decide +kernel), List.mem_of_getElem? (i := 1216) (by decide +kernel)⟩
theorem lw_p21 : lw_okq (⟨"RunsBackModel", "watchedChanges", "()I"⟩, 55) := ⟨⟨by decide +kernel, by decide +kernel⟩, List.mem_of_getElem? (i := 991) (by decide +kernel), List.mem_of_getElem? (i := 1226) (by decide +kernel), List.mem_of_getElem? (i := 1227) (by decide +kernel)⟩
theorem lw_p22 : lw_okq (⟨"RunsBackModel", "status", "()I"⟩, 55) := ⟨⟨by decide +kernel, by decide +kernel⟩, List.mem_of_getElem? (i := 991) (by decide +kernel), List.mem_of_getElem? (i := 1230) (by decide +kernel), List.mem_of_getElem? (i := 1231) (by decide +kernel)⟩
theorem lw_p23 : lw_okq (⟨"RunsBackModel", "kindAt", "(II)I"⟩, 55) := ⟨⟨by decide +kernel, by decide +kernel⟩, List.mem_of_getElem? (i := 991) (by decide +kernel), List.mem_of_getElem? (i := 1234) (by decide +kernel), List.mem_of_getElem? (i := 1235) (by decide +kernel)⟩
theorem lw_p24 : lw_okq (⟨"RunsBackModel", "goesOn", "()V"⟩, 55) := ⟨⟨by decide +kernel, by decide +kernel⟩, List.mem_of_getElem? (i := 991) (by decide +kernel), List.mem_of_getElem? (i := 1238) (by decide +kernel), List.mem_of_getElem? (i := 1239) (by decide +kernel)⟩
theorem lw_p25 : lw_okq (⟨"RunsBackModel", "takesInput", "()V"⟩, 55) := ⟨⟨by decide +kernel, by decide +kernel⟩, List.mem_of_getElem? (i := 991) (by decide +kernel), List.mem_of_getElem? (i := 1242) (by decide +kernel), List.mem_of_getElem? (i := 1243) (by decide +kernel)⟩
theorem lw_p26 : lw_okq (⟨"RunsBackModel", "draws", "(I)V"⟩, 55) := ⟨⟨by decide +kernel, by decide +kernel⟩, List.mem_of_getElem? (i := 991) (by decide +kernel), List.mem_of_getElem? (i := 1246) (by decide +kernel), List.mem_of_getElem? (i := 1247) (by decide +kernel)⟩
theorem lw_p27 : lw_okq (⟨"RunsBackModel", "steps", "([III)V"⟩, 55) := ⟨⟨by decide +kernel, by decide +kernel⟩, List.mem_of_getElem? (i := 991) (by decide +kernel), List.mem_of_getElem? (i := 1252) (by decide +kernel), List.mem_of_getElem? (i := 1253) (by decide +kernel)⟩
theorem lw_p28 : lw_okq (⟨"RunsBackModel", "traps", "([II)V"⟩, 55) := ⟨⟨by decide +kernel, by decide +kernel⟩, List.mem_of_getElem? (i := 991) (by decide +kernel), List.mem_of_getElem? (i := 1257) (by decide +kernel), List.mem_of_getElem? (i := 1258) (by decide +kernel)⟩
theorem lw_p29 : lw_okq (⟨"RunsBackModel", "does", "([IIIIIII)V"⟩, 55) := ⟨⟨by decide +kernel, by decide +kernel⟩, List.mem_of_getElem? (i := 991) (by decide +kernel), List.mem_of_getElem? (i := 1261) (by decide +kernel), List.mem_of_getElem? (i := 1262) (by decide +kernel)⟩
theorem lw_p30 : lw_okq (⟨"RunsBackModel", "gives", "([IIII)V"⟩, 55) := ⟨⟨by decide +kernel, by decide +kernel⟩, List.mem_of_getElem? (i := 991) (by decide +kernel), List.mem_of_getElem? (i := 1265) (by decide +kernel), List.mem_of_getElem? (i := 1266) (by decide +kernel)⟩
theorem lw_p31 : lw_okq (⟨"RunsBackModel", "cells", "([IIII)V"⟩, 55) := ⟨⟨by decide +kernel, by decide +kernel⟩, List.mem_of_getElem? (i := 991) (by decide +kernel), List.mem_of_getElem? (i := 1272) (by decide +kernel), List.mem_of_getElem? (i := 1273) (by decide +kernel)⟩
def lw_privs_2 : List (MethodName × Nat) := [(⟨"RunsBack$Beside", "choosePairs", "(LRunsBack$Calls;ILRunsBack$Calls;I)V"⟩, 6), (⟨"RunsBack$Beside", "areUnlike", "(LRunsBack$Puts;IILRunsBack$Puts;LRunsBack$Puts;)Z"⟩, 6), (⟨"RunsBack", "lookAtRun", "(LRunsBack$Run;I)I"⟩, 13), (⟨"RunsBackModel", "clears", "([I)V"⟩, 55), (⟨"RunsBackModel", "notes", "(IIII)V"⟩, 55), (⟨"RunsBackModel", "watchedChanges", "()I"⟩, 55), (⟨"RunsBackModel", "status", "()I"⟩, 55), (⟨"RunsBackModel", "kindAt", "(II)I"⟩, 55), (⟨"RunsBackModel", "goesOn", "()V"⟩, 55), (⟨"RunsBackModel", "takesInput", "()V"⟩, 55), (⟨"RunsBackModel", "draws", "(I)V"⟩, 55), (⟨"RunsBackModel", "steps", "([III)V"⟩, 55), (⟨"RunsBackModel", "traps", "([II)V"⟩, 55), (⟨"RunsBackModel", "does", "([IIIIIII)V"⟩, 55), (⟨"RunsBackModel", "gives", "([IIII)V"⟩, 55), (⟨"RunsBackModel", "cells", "([IIII)V"⟩, 55)]
theorem lw_r2 : ∀ q ∈ lw_privs_2, lw_okq q := List.forall_mem_cons.mpr ⟨lw_p16, List.forall_mem_cons.mpr ⟨lw_p17, List.forall_mem_cons.mpr ⟨lw_p18, List.forall_mem_cons.mpr ⟨lw_p19, List.forall_mem_cons.mpr ⟨lw_p20, List.forall_mem_cons.mpr ⟨lw_p21, List.forall_mem_cons.mpr ⟨lw_p22, List.forall_mem_cons.mpr ⟨lw_p23, List.forall_mem_cons.mpr ⟨lw_p24, List.forall_mem_cons.mpr ⟨lw_p25, List.forall_mem_cons.mpr ⟨lw_p26, List.forall_mem_cons.mpr ⟨lw_p27, List.forall_mem_cons.mpr ⟨lw_p28, List.forall_mem_cons.mpr ⟨lw_p29, List.forall_mem_cons.mpr ⟨lw_p30, List.forall_mem_cons.mpr ⟨lw_p31, fun _ h => absurd h List.not_mem_nil⟩⟩⟩⟩⟩⟩⟩⟩⟩⟩⟩⟩⟩⟩⟩⟩
theorem lw_p32 : lw_okq (⟨"RunsBackModel", "goes", "([IIII)V"⟩, 55) := ⟨⟨by decide +kernel, by decide +kernel⟩, List.mem_of_getElem? (i := 991) (by decide +kernel), List.mem_of_getElem? (i := 1276) (by decide +kernel), List.mem_of_getElem? (i := 1277) (by decide +kernel)⟩
theorem lw_p33 : lw_okq (⟨"RunsBackModel", "reckons", "([IIIII)V"⟩, 55) := ⟨⟨by decide +kernel, by decide +kernel⟩, List.mem_of_getElem? (i := 991) (by decide +kernel), List.mem_of_getElem? (i := 1280) (by decide +kernel), List.mem_of_getElem? (i := 1281) (by decide +kernel)⟩
theorem lw_p34 : lw_okq (⟨"RunsBackModel", "comes", "()V"⟩, 55) := ⟨⟨by decide +kernel, by decide +kernel⟩, List.mem_of_getElem? (i := 991) (by decide +kernel), List.mem_of_getElem? (i := 1284) (by decide +kernel), List.mem_of_getElem? (i := 1285) (by decide +kernel)⟩
theorem lw_p35 : lw_okq (⟨"RunsBackModel", "goesWith", "(II)I"⟩, 55) := ⟨⟨by decide +kernel, by decide +kernel⟩, List.mem_of_getElem? (i := 991) (by decide +kernel), List.mem_of_getElem? (i := 1288) (by decide +kernel), List.mem_of_getElem? (i := 1289) (by decide +kernel)⟩
theorem lw_p36 : lw_okq (⟨"RunsBackModel", "halvings", "(I)I"⟩, 55) := ⟨⟨by decide +kernel, by decide +kernel⟩, List.mem_of_getElem? (i := 991) (by decide +kernel), List.mem_of_getElem? (i := 1292) (by decide +kernel), List.mem_of_getElem? (i := 1293) (by decide +kernel)⟩
theorem lw_p37 : lw_okq (⟨"RunsBackModel", "heldMany", "(I)I"⟩, 55) := ⟨⟨by decide +kernel, by decide +kernel⟩, List.mem_of_getElem? (i := 991) (by decide +kernel), List.mem_of_getElem? (i := 1296) (by decide +kernel), List.mem_of_getElem? (i := 1297) (by decide +kernel)⟩
theorem lw_p38 : lw_okq (⟨"RunsBackModel", "replays", "(II)V"⟩, 55) := ⟨⟨by decide +kernel, by decide +kernel⟩, List.mem_of_getElem? (i := 991) (by decide +kernel), List.mem_of_getElem? (i := 1309) (by decide +kernel), List.mem_of_getElem? (i := 1310) (by decide +kernel)⟩
theorem lw_p39 : lw_okq (⟨"RunsBackModel", "heldBy", "(II)I"⟩, 55) := ⟨⟨by decide +kernel, by decide +kernel⟩, List.mem_of_getElem? (i := 991) (by decide +kernel), List.mem_of_getElem? (i := 1313) (by decide +kernel), List.mem_of_getElem? (i := 1314) (by decide +kernel)⟩
theorem lw_p40 : lw_okq (⟨"RunsBackModel", "counts", "(II)V"⟩, 55) := ⟨⟨by decide +kernel, by decide +kernel⟩, List.mem_of_getElem? (i := 991) (by decide +kernel), List.mem_of_getElem? (i := 1317) (by decide +kernel), List.mem_of_getElem? (i := 1318) (by decide +kernel)⟩
theorem lw_p41 : lw_okq (⟨"RunsBackModel", "lays", "(II)V"⟩, 55) := ⟨⟨by decide +kernel, by decide +kernel⟩, List.mem_of_getElem? (i := 991) (by decide +kernel), List.mem_of_getElem? (i := 1321) (by decide +kernel), List.mem_of_getElem? (i := 1322) (by decide +kernel)⟩
theorem lw_p42 : lw_okq (⟨"RunsBackModel", "simBegins", "(I)V"⟩, 55) := ⟨⟨by decide +kernel, by decide +kernel⟩, List.mem_of_getElem? (i := 991) (by decide +kernel), List.mem_of_getElem? (i := 1325) (by decide +kernel), List.mem_of_getElem? (i := 1326) (by decide +kernel)⟩
theorem lw_p43 : lw_okq (⟨"RunsBackModel", "simPokes", "()V"⟩, 55) := ⟨⟨by decide +kernel, by decide +kernel⟩, List.mem_of_getElem? (i := 991) (by decide +kernel), List.mem_of_getElem? (i := 1329) (by decide +kernel), List.mem_of_getElem? (i := 1330) (by decide +kernel)⟩
theorem lw_p44 : lw_okq (⟨"RunsBackModel", "simStep", "()V"⟩, 55) := ⟨⟨by decide +kernel, by decide +kernel⟩, List.mem_of_getElem? (i := 991) (by decide +kernel), List.mem_of_getElem? (i := 1333) (by decide +kernel), List.mem_of_getElem? (i := 1334) (by decide +kernel)⟩
theorem lw_p45 : lw_okq (⟨"RunsBackModel", "isTime", "(I)Z"⟩, 55) := ⟨⟨by decide +kernel, by decide +kernel⟩, List.mem_of_getElem? (i := 991) (by decide +kernel), List.mem_of_getElem? (i := 1352) (by decide +kernel), List.mem_of_getElem? (i := 1353) (by decide +kernel)⟩
theorem lw_p46 : lw_okq (⟨"RunsBackModel", "runAsked", "()I"⟩, 55) := ⟨⟨by decide +kernel, by decide +kernel⟩, List.mem_of_getElem? (i := 991) (by decide +kernel), List.mem_of_getElem? (i := 1356) (by decide +kernel), List.mem_of_getElem? (i := 1357) (by decide +kernel)⟩
theorem lw_p47 : lw_okq (⟨"RunsBackModel", "lastOf", "(II)I"⟩, 55) := ⟨⟨by decide +kernel, by decide +kernel⟩, List.mem_of_getElem? (i := 991) (by decide +kernel), List.mem_of_getElem? (i := 1369) (by decide +kernel), List.mem_of_getElem? (i := 1370) (by decide +kernel)⟩
def lw_privs_3 : List (MethodName × Nat) := [(⟨"RunsBackModel", "goes", "([IIII)V"⟩, 55), (⟨"RunsBackModel", "reckons", "([IIIII)V"⟩, 55), (⟨"RunsBackModel", "comes", "()V"⟩, 55), (⟨"RunsBackModel", "goesWith", "(II)I"⟩, 55), (⟨"RunsBackModel", "halvings", "(I)I"⟩, 55), (⟨"RunsBackModel", "heldMany", "(I)I"⟩, 55), (⟨"RunsBackModel", "replays", "(II)V"⟩, 55), (⟨"RunsBackModel", "heldBy", "(II)I"⟩, 55), (⟨"RunsBackModel", "counts", "(II)V"⟩, 55), (⟨"RunsBackModel", "lays", "(II)V"⟩, 55), (⟨"RunsBackModel", "simBegins", "(I)V"⟩, 55), (⟨"RunsBackModel", "simPokes", "()V"⟩, 55), (⟨"RunsBackModel", "simStep", "()V"⟩, 55), (⟨"RunsBackModel", "isTime", "(I)Z"⟩, 55), (⟨"RunsBackModel", "runAsked", "()I"⟩, 55), (⟨"RunsBackModel", "lastOf", "(II)I"⟩, 55)]
theorem lw_r3 : ∀ q ∈ lw_privs_3, lw_okq q := List.forall_mem_cons.mpr ⟨lw_p32, List.forall_mem_cons.mpr ⟨lw_p33, List.forall_mem_cons.mpr ⟨lw_p34, List.forall_mem_cons.mpr ⟨lw_p35, List.forall_mem_cons.mpr ⟨lw_p36, List.forall_mem_cons.mpr ⟨lw_p37, List.forall_mem_cons.mpr ⟨lw_p38, List.forall_mem_cons.mpr ⟨lw_p39, List.forall_mem_cons.mpr ⟨lw_p40, List.forall_mem_cons.mpr ⟨lw_p41, List.forall_mem_cons.mpr ⟨lw_p42, List.forall_mem_cons.mpr ⟨lw_p43, List.forall_mem_cons.mpr ⟨lw_p44, List.forall_mem_cons.mpr ⟨lw_p45, List.forall_mem_cons.mpr ⟨lw_p46, List.forall_mem_cons.mpr ⟨lw_p47, fun _ h => absurd h List.not_mem_nil⟩⟩⟩⟩⟩⟩⟩⟩⟩⟩⟩⟩⟩⟩⟩⟩
theorem lw_p48 : lw_okq (⟨"RunsBackModel", "hadIn", "(IIIIII)I"⟩, 55) := ⟨⟨by decide +kernel, by decide +kernel⟩, List.mem_of_getElem? (i := 991) (by decide +kernel), List.mem_of_getElem? (i := 1377) (by decide +kernel), List.mem_of_getElem? (i := 1378) (by decide +kernel)⟩
theorem lw_p49 : lw_okq (⟨"RunsBackModel", "laysRests", "(II)V"⟩, 55) := ⟨⟨by decide +kernel, by decide +kernel⟩, List.mem_of_getElem? (i := 991) (by decide +kernel), List.mem_of_getElem? (i := 1393) (by decide +kernel), List.mem_of_getElem? (i := 1394) (by decide +kernel)⟩
theorem lw_p50 : lw_okq (⟨"RunsBackModel", "restPokes", "()V"⟩, 55) := ⟨⟨by decide +kernel, by decide +kernel⟩, List.mem_of_getElem? (i := 991) (by decide +kernel), List.mem_of_getElem? (i := 1397) (by decide +kernel), List.mem_of_getElem? (i := 1398) (by decide +kernel)⟩
theorem lw_p51 : lw_okq (⟨"RunsBackModel", "clearsLooked", "()V"⟩, 55) := ⟨⟨by decide +kernel, by decide +kernel⟩, List.mem_of_getElem? (i := 991) (by decide +kernel), List.mem_of_getElem? (i := 1401) (by decide +kernel), List.mem_of_getElem? (i := 1402) (by decide +kernel)⟩
theorem lw_p52 : lw_okq (⟨"RunsBackModel", "adds", "(I)V"⟩, 55) := ⟨⟨by decide +kernel, by decide +kernel⟩, List.mem_of_getElem? (i := 991) (by decide +kernel), List.mem_of_getElem? (i := 1405) (by decide +kernel), List.mem_of_getElem? (i := 1406) (by decide +kernel)⟩
theorem lw_p53 : lw_okq (⟨"RunsBackModel", "restsOn", "(I)V"⟩, 55) := ⟨⟨by decide +kernel, by decide +kernel⟩, List.mem_of_getElem? (i := 991) (by decide +kernel), List.mem_of_getElem? (i := 1409) (by decide +kernel), List.mem_of_getElem? (i := 1410) (by decide +kernel)⟩
theorem lw_p54 : lw_okq (⟨"RunsBackModel", "looks", "()V"⟩, 55) := ⟨⟨by decide +kernel, by decide +kernel⟩, List.mem_of_getElem? (i := 991) (by decide +kernel), List.mem_of_getElem? (i := 1413) (by decide +kernel), List.mem_of_getElem? (i := 1414) (by decide +kernel)⟩
theorem lw_p55 : lw_okq (⟨"RunsBackModel", "looksAt", "(I)V"⟩, 55) := ⟨⟨by decide +kernel, by decide +kernel⟩, List.mem_of_getElem? (i := 991) (by decide +kernel), List.mem_of_getElem? (i := 1417) (by decide +kernel), List.mem_of_getElem? (i := 1418) (by decide +kernel)⟩
theorem lw_p56 : lw_okq (⟨"RunsBackModel", "restsOnBit", "(II)Z"⟩, 55) := ⟨⟨by decide +kernel, by decide +kernel⟩, List.mem_of_getElem? (i := 991) (by decide +kernel), List.mem_of_getElem? (i := 1421) (by decide +kernel), List.mem_of_getElem? (i := 1422) (by decide +kernel)⟩
theorem lw_p57 : lw_okq (⟨"RunsBackModel", "wouldOf", "(III)I"⟩, 55) := ⟨⟨by decide +kernel, by decide +kernel⟩, List.mem_of_getElem? (i := 991) (by decide +kernel), List.mem_of_getElem? (i := 1453) (by decide +kernel), List.mem_of_getElem? (i := 1454) (by decide +kernel)⟩
theorem lw_p58 : lw_okq (⟨"RunsBackModel", "wouldBe", "(III)Z"⟩, 55) := ⟨⟨by decide +kernel, by decide +kernel⟩, List.mem_of_getElem? (i := 991) (by decide +kernel), List.mem_of_getElem? (i := 1457) (by decide +kernel), List.mem_of_getElem? (i := 1458) (by decide +kernel)⟩
theorem lw_p59 : lw_okq (⟨"RunsBackModel", "isThere", "(I)Z"⟩, 55) := ⟨⟨by decide +kernel, by decide +kernel⟩, List.mem_of_getElem? (i := 991) (by decide +kernel), List.mem_of_getElem? (i := 1473) (by decide +kernel), List.mem_of_getElem? (i := 1474) (by decide +kernel)⟩
theorem lw_p60 : lw_okq (⟨"RunsBackModel", "laysPairs", "(II)V"⟩, 55) := ⟨⟨by decide +kernel, by decide +kernel⟩, List.mem_of_getElem? (i := 991) (by decide +kernel), List.mem_of_getElem? (i := 1477) (by decide +kernel), List.mem_of_getElem? (i := 1478) (by decide +kernel)⟩
theorem lw_p61 : lw_okq (⟨"RunsBackModel", "areLike", "(II)Z"⟩, 55) := ⟨⟨by decide +kernel, by decide +kernel⟩, List.mem_of_getElem? (i := 991) (by decide +kernel), List.mem_of_getElem? (i := 1481) (by decide +kernel), List.mem_of_getElem? (i := 1482) (by decide +kernel)⟩
theorem lw_p62 : lw_okq (⟨"RunsBackModel", "finds", "(I)V"⟩, 55) := ⟨⟨by decide +kernel, by decide +kernel⟩, List.mem_of_getElem? (i := 991) (by decide +kernel), List.mem_of_getElem? (i := 1489) (by decide +kernel), List.mem_of_getElem? (i := 1490) (by decide +kernel)⟩
theorem lw_p63 : lw_okq (⟨"RunsBackModel", "swaps", "()V"⟩, 55) := ⟨⟨by decide +kernel, by decide +kernel⟩, List.mem_of_getElem? (i := 991) (by decide +kernel), List.mem_of_getElem? (i := 1497) (by decide +kernel), List.mem_of_getElem? (i := 1498) (by decide +kernel)⟩
def lw_privs_4 : List (MethodName × Nat) := [(⟨"RunsBackModel", "hadIn", "(IIIIII)I"⟩, 55), (⟨"RunsBackModel", "laysRests", "(II)V"⟩, 55), (⟨"RunsBackModel", "restPokes", "()V"⟩, 55), (⟨"RunsBackModel", "clearsLooked", "()V"⟩, 55), (⟨"RunsBackModel", "adds", "(I)V"⟩, 55), (⟨"RunsBackModel", "restsOn", "(I)V"⟩, 55), (⟨"RunsBackModel", "looks", "()V"⟩, 55), (⟨"RunsBackModel", "looksAt", "(I)V"⟩, 55), (⟨"RunsBackModel", "restsOnBit", "(II)Z"⟩, 55), (⟨"RunsBackModel", "wouldOf", "(III)I"⟩, 55), (⟨"RunsBackModel", "wouldBe", "(III)Z"⟩, 55), (⟨"RunsBackModel", "isThere", "(I)Z"⟩, 55), (⟨"RunsBackModel", "laysPairs", "(II)V"⟩, 55), (⟨"RunsBackModel", "areLike", "(II)Z"⟩, 55), (⟨"RunsBackModel", "finds", "(I)V"⟩, 55), (⟨"RunsBackModel", "swaps", "()V"⟩, 55)]
theorem lw_r4 : ∀ q ∈ lw_privs_4, lw_okq q := List.forall_mem_cons.mpr ⟨lw_p48, List.forall_mem_cons.mpr ⟨lw_p49, List.forall_mem_cons.mpr ⟨lw_p50, List.forall_mem_cons.mpr ⟨lw_p51, List.forall_mem_cons.mpr ⟨lw_p52, List.forall_mem_cons.mpr ⟨lw_p53, List.forall_mem_cons.mpr ⟨lw_p54, List.forall_mem_cons.mpr ⟨lw_p55, List.forall_mem_cons.mpr ⟨lw_p56, List.forall_mem_cons.mpr ⟨lw_p57, List.forall_mem_cons.mpr ⟨lw_p58, List.forall_mem_cons.mpr ⟨lw_p59, List.forall_mem_cons.mpr ⟨lw_p60, List.forall_mem_cons.mpr ⟨lw_p61, List.forall_mem_cons.mpr ⟨lw_p62, List.forall_mem_cons.mpr ⟨lw_p63, fun _ h => absurd h List.not_mem_nil⟩⟩⟩⟩⟩⟩⟩⟩⟩⟩⟩⟩⟩⟩⟩⟩
theorem lw_p64 : lw_okq (⟨"RunsBackModel", "areStatesLike", "()Z"⟩, 55) := ⟨⟨by decide +kernel, by decide +kernel⟩, List.mem_of_getElem? (i := 991) (by decide +kernel), List.mem_of_getElem? (i := 1501) (by decide +kernel), List.mem_of_getElem? (i := 1502) (by decide +kernel)⟩
theorem lw_p65 : lw_okq (⟨"RunsBackModel", "ofRun", "(II)I"⟩, 55) := ⟨⟨by decide +kernel, by decide +kernel⟩, List.mem_of_getElem? (i := 991) (by decide +kernel), List.mem_of_getElem? (i := 1509) (by decide +kernel), List.mem_of_getElem? (i := 1510) (by decide +kernel)⟩
theorem lw_p66 : lw_okq (⟨"RunsBackModel", "watchedOf", "(II)I"⟩, 55) := ⟨⟨by decide +kernel, by decide +kernel⟩, List.mem_of_getElem? (i := 991) (by decide +kernel), List.mem_of_getElem? (i := 1513) (by decide +kernel), List.mem_of_getElem? (i := 1514) (by decide +kernel)⟩
def lw_privs_5 : List (MethodName × Nat) := [(⟨"RunsBackModel", "areStatesLike", "()Z"⟩, 55), (⟨"RunsBackModel", "ofRun", "(II)I"⟩, 55), (⟨"RunsBackModel", "watchedOf", "(II)I"⟩, 55)]
theorem lw_r5 : ∀ q ∈ lw_privs_5, lw_okq q := List.forall_mem_cons.mpr ⟨lw_p64, List.forall_mem_cons.mpr ⟨lw_p65, List.forall_mem_cons.mpr ⟨lw_p66, fun _ h => absurd h List.not_mem_nil⟩⟩⟩
def lw_privs : List (MethodName × Nat) := lw_privs_1 ++ (lw_privs_2 ++ (lw_privs_3 ++ (lw_privs_4 ++ (lw_privs_5))))
def lw_tbl : List Cond := k2_sels lw_privs ++ tables_1
theorem lw_privs_ok : ∀ q ∈ lw_privs, lw_okq q := by
  show ∀ q ∈ lw_privs_1 ++ (lw_privs_2 ++ (lw_privs_3 ++ (lw_privs_4 ++ (lw_privs_5)))), lw_okq q
  exact List.forall_mem_append.mpr ⟨lw_r1, List.forall_mem_append.mpr ⟨lw_r2, List.forall_mem_append.mpr ⟨lw_r3, List.forall_mem_append.mpr ⟨lw_r4, lw_r5⟩⟩⟩⟩
end
section
def RX0 : String := "RunsBack$Beside"
def TX0 : u_T := fun k => match k with
  | 0 => ("RunsBack$Beside", "most", "[[I", true)
  | 1 => ("RunsBack$Beside", "callOne", "[I", true)
  | 2 => ("RunsBack$Beside", "callOther", "[I", true)
  | 3 => ("RunsBack$Beside", "pairs", "I", false)
  | 4 => ("RunsBack$Beside", "putOne", "[I", true)
  | _ => ("RunsBack$Beside", "putOther", "[I", true)
def tyX0 : Nat → FieldType := fun k => match k with
  | 0 => .array (.array .int)
  | 1 => .array .int
  | 2 => .array .int
  | 3 => .int
  | 4 => .array .int
  | _ => .array .int
abbrev wsX00 : List Cond := u_ws RX0 TX0 6
theorem nmX0 : ∀ a, a < 6 → ∀ b, b < 6 → a ≠ b → (TX0 a).2.1 ≠ (TX0 b).2.1 := by decide +kernel
theorem tyX0_ok : ∀ k, k < 6 → parseFieldDescriptor (TX0 k).2.2.1 = some (tyX0 k) := by decide +kernel
abbrev cX0_init : ByteArray := prog_2_method_1_code
def yX0_init : MethodName := ⟨RX0, "<init>", "()V"⟩
abbrev cX0_has : ByteArray := prog_2_method_2_code
def yX0_has : MethodName := ⟨RX0, "has", "(I)Z"⟩
abbrev cX0_callOfOne : ByteArray := prog_2_method_3_code
def yX0_callOfOne : MethodName := ⟨RX0, "callOfOne", "(I)I"⟩
abbrev cX0_callOfOther : ByteArray := prog_2_method_4_code
def yX0_callOfOther : MethodName := ⟨RX0, "callOfOther", "(I)I"⟩
abbrev cX0_lay : ByteArray := prog_2_method_5_code
def yX0_lay : MethodName := ⟨RX0, "lay", "(LRunsBack$Calls;LRunsBack$Calls;)V"⟩
abbrev cX0_countPairs : ByteArray := prog_2_method_6_code
def yX0_countPairs : MethodName := ⟨RX0, "countPairs", "(LRunsBack$Calls;ILRunsBack$Calls;I)V"⟩
abbrev cX0_choosePairs : ByteArray := prog_2_method_7_code
def yX0_choosePairs : MethodName := ⟨RX0, "choosePairs", "(LRunsBack$Calls;ILRunsBack$Calls;I)V"⟩
abbrev cX0_firstUnlike : ByteArray := prog_2_method_8_code
def yX0_firstUnlike : MethodName := ⟨RX0, "firstUnlike", "(LRunsBack$Run;LRunsBack$Run;)I"⟩
abbrev cX0_goThrough : ByteArray := prog_2_method_9_code
def yX0_goThrough : MethodName := ⟨RX0, "goThrough", "(LRunsBack$Puts;II[I)I"⟩
abbrev cX0_areUnlike : ByteArray := prog_2_method_10_code
def yX0_areUnlike : MethodName := ⟨RX0, "areUnlike", "(LRunsBack$Puts;IILRunsBack$Puts;LRunsBack$Puts;)Z"⟩
def RX1 : String := "RunsBack$Calls"
def TX1 : u_T := fun k => match k with
  | 0 => ("RunsBack$Calls", "time", "[I", true)
  | 1 => ("RunsBack$Calls", "target", "[I", true)
  | 2 => ("RunsBack$Calls", "stacked", "[I", true)
  | _ => ("RunsBack$Calls", "count", "I", false)
def tyX1 : Nat → FieldType := fun k => match k with
  | 0 => .array .int
  | 1 => .array .int
  | 2 => .array .int
  | _ => .int
abbrev wsX10 : List Cond := u_ws RX1 TX1 4
theorem nmX1 : ∀ a, a < 4 → ∀ b, b < 4 → a ≠ b → (TX1 a).2.1 ≠ (TX1 b).2.1 := by decide +kernel
theorem tyX1_ok : ∀ k, k < 4 → parseFieldDescriptor (TX1 k).2.2.1 = some (tyX1 k) := by decide +kernel
abbrev cX1_init : ByteArray := prog_3_method_1_code
def yX1_init : MethodName := ⟨RX1, "<init>", "()V"⟩
abbrev cX1_init_ : ByteArray := prog_3_method_2_code
def yX1_init_ : MethodName := ⟨RX1, "<init>", "(LRunsBack$Calls;)V"⟩
abbrev cX1_has : ByteArray := prog_3_method_3_code
def yX1_has : MethodName := ⟨RX1, "has", "(I)Z"⟩
abbrev cX1_add : ByteArray := prog_3_method_4_code
def yX1_add : MethodName := ⟨RX1, "add", "(III)V"⟩
abbrev cX1_read : ByteArray := prog_3_method_5_code
def yX1_read : MethodName := ⟨RX1, "read", "(II)I"⟩
abbrev cX1_dropFrom : ByteArray := prog_3_method_6_code
def yX1_dropFrom : MethodName := ⟨RX1, "dropFrom", "(I)V"⟩
abbrev cX1_isLike : ByteArray := prog_3_method_7_code
def yX1_isLike : MethodName := ⟨RX1, "isLike", "(ILRunsBack$Calls;I)Z"⟩
def RX2 : String := "RunsBack$Holding"
def TX2 : u_T := fun k => match k with
  | 0 => ("RunsBack$Holding", "times", "[I", true)
  | 1 => ("RunsBack$Holding", "count", "I", false)
  | 2 => ("RunsBack$Holding", "most", "I", false)
  | 3 => ("RunsBack$Holding", "unit", "I", false)
  | _ => ("RunsBack$Holding", "depth", "I", false)
def tyX2 : Nat → FieldType := fun k => match k with
  | 0 => .array .int
  | 1 => .int
  | 2 => .int
  | 3 => .int
  | _ => .int
abbrev wsX20 : List Cond := u_ws RX2 TX2 5
theorem nmX2 : ∀ a, a < 5 → ∀ b, b < 5 → a ≠ b → (TX2 a).2.1 ≠ (TX2 b).2.1 := by decide +kernel
theorem tyX2_ok : ∀ k, k < 5 → parseFieldDescriptor (TX2 k).2.2.1 = some (tyX2 k) := by decide +kernel
abbrev cX2_init : ByteArray := prog_4_method_1_code
def yX2_init : MethodName := ⟨RX2, "<init>", "()V"⟩
abbrev cX2_init_ : ByteArray := prog_4_method_2_code
def yX2_init_ : MethodName := ⟨RX2, "<init>", "(LRunsBack$Holding;)V"⟩
abbrev cX2_start : ByteArray := prog_4_method_3_code
def yX2_start : MethodName := ⟨RX2, "start", "(II)V"⟩
abbrev cX2_goesWith : ByteArray := prog_4_method_4_code
def yX2_goesWith : MethodName := ⟨RX2, "goesWith", "(II)I"⟩
abbrev cX2_isHeldStill : ByteArray := prog_4_method_5_code
def yX2_isHeldStill : MethodName := ⟨RX2, "isHeldStill", "(III)Z"⟩
abbrev cX2_has : ByteArray := prog_4_method_6_code
def yX2_has : MethodName := ⟨RX2, "has", "(I)Z"⟩
abbrev cX2_timeOf : ByteArray := prog_4_method_7_code
def yX2_timeOf : MethodName := ⟨RX2, "timeOf", "(I)I"⟩
abbrev cX2_goesAt : ByteArray := prog_4_method_8_code
def yX2_goesAt : MethodName := ⟨RX2, "goesAt", "(I)I"⟩
abbrev cX2_timeComes : ByteArray := prog_4_method_9_code
def yX2_timeComes : MethodName := ⟨RX2, "timeComes", "(I)V"⟩
abbrev cX2_dropWhatGoesBy : ByteArray := prog_4_method_10_code
def yX2_dropWhatGoesBy : MethodName := ⟨RX2, "dropWhatGoesBy", "(I)V"⟩
abbrev cX2_dropAbove : ByteArray := prog_4_method_11_code
def yX2_dropAbove : MethodName := ⟨RX2, "dropAbove", "(I)V"⟩
abbrev cX2_latestBy : ByteArray := prog_4_method_12_code
def yX2_latestBy : MethodName := ⟨RX2, "latestBy", "(I)I"⟩
abbrev cX2_stepsToFind : ByteArray := prog_4_method_13_code
def yX2_stepsToFind : MethodName := ⟨RX2, "stepsToFind", "(II)I"⟩
def RX3 : String := "RunsBack$Log"
def TX3 : u_T := fun k => match k with
  | 0 => ("RunsBack$Log", "time", "[I", true)
  | 1 => ("RunsBack$Log", "origin", "[I", true)
  | 2 => ("RunsBack$Log", "number", "[I", true)
  | 3 => ("RunsBack$Log", "place", "[I", true)
  | 4 => ("RunsBack$Log", "sort", "[I", true)
  | _ => ("RunsBack$Log", "count", "I", false)
def tyX3 : Nat → FieldType := fun k => match k with
  | 0 => .array .int
  | 1 => .array .int
  | 2 => .array .int
  | 3 => .array .int
  | 4 => .array .int
  | _ => .int
abbrev wsX30 : List Cond := u_ws RX3 TX3 6
theorem nmX3 : ∀ a, a < 6 → ∀ b, b < 6 → a ≠ b → (TX3 a).2.1 ≠ (TX3 b).2.1 := by decide +kernel
theorem tyX3_ok : ∀ k, k < 6 → parseFieldDescriptor (TX3 k).2.2.1 = some (tyX3 k) := by decide +kernel
abbrev cX3_init : ByteArray := prog_5_method_1_code
def yX3_init : MethodName := ⟨RX3, "<init>", "()V"⟩
abbrev cX3_init_ : ByteArray := prog_5_method_2_code
def yX3_init_ : MethodName := ⟨RX3, "<init>", "(LRunsBack$Log;)V"⟩
abbrev cX3_has : ByteArray := prog_5_method_3_code
def yX3_has : MethodName := ⟨RX3, "has", "(I)Z"⟩
abbrev cX3_isFull : ByteArray := prog_5_method_4_code
def yX3_isFull : MethodName := ⟨RX3, "isFull", "()Z"⟩
abbrev cX3_addWhole : ByteArray := prog_5_method_5_code
def yX3_addWhole : MethodName := ⟨RX3, "addWhole", "(III)V"⟩
abbrev cX3_addPoke : ByteArray := prog_5_method_6_code
def yX3_addPoke : MethodName := ⟨RX3, "addPoke", "(IIII)V"⟩
abbrev cX3_add : ByteArray := prog_5_method_7_code
def yX3_add : MethodName := ⟨RX3, "add", "(IIIII)V"⟩
abbrev cX3_read : ByteArray := prog_5_method_8_code
def yX3_read : MethodName := ⟨RX3, "read", "(II)I"⟩
abbrev cX3_dropBehind : ByteArray := prog_5_method_9_code
def yX3_dropBehind : MethodName := ⟨RX3, "dropBehind", "(ILRunsBack$Outside;)V"⟩
abbrev cX3_isBehind : ByteArray := prog_5_method_10_code
def yX3_isBehind : MethodName := ⟨RX3, "isBehind", "(II)Z"⟩
def RX4 : String := "RunsBack$Outside"
def TX4 : u_T := fun k => match k with
  | 0 => ("RunsBack$Outside", "ring", "[I", true)
  | 1 => ("RunsBack$Outside", "first", "I", false)
  | 2 => ("RunsBack$Outside", "waiting", "I", false)
  | _ => ("RunsBack$Outside", "x", "I", false)
def tyX4 : Nat → FieldType := fun k => match k with
  | 0 => .array .int
  | 1 => .int
  | 2 => .int
  | _ => .int
abbrev wsX40 : List Cond := u_ws RX4 TX4 4
theorem nmX4 : ∀ a, a < 4 → ∀ b, b < 4 → a ≠ b → (TX4 a).2.1 ≠ (TX4 b).2.1 := by decide +kernel
theorem tyX4_ok : ∀ k, k < 4 → parseFieldDescriptor (TX4 k).2.2.1 = some (tyX4 k) := by decide +kernel
abbrev cX4_init : ByteArray := prog_6_method_1_code
def yX4_init : MethodName := ⟨RX4, "<init>", "()V"⟩
abbrev cX4_clearInputs : ByteArray := prog_6_method_2_code
def yX4_clearInputs : MethodName := ⟨RX4, "clearInputs", "()V"⟩
abbrev cX4_addLast : ByteArray := prog_6_method_3_code
def yX4_addLast : MethodName := ⟨RX4, "addLast", "(I)V"⟩
abbrev cX4_addFirst : ByteArray := prog_6_method_4_code
def yX4_addFirst : MethodName := ⟨RX4, "addFirst", "(I)V"⟩
abbrev cX4_takeFirst : ByteArray := prog_6_method_5_code
def yX4_takeFirst : MethodName := ⟨RX4, "takeFirst", "()I"⟩
abbrev cX4_draw : ByteArray := prog_6_method_6_code
def yX4_draw : MethodName := ⟨RX4, "draw", "(I)I"⟩
def RX5 : String := "RunsBack$Program"
def TX5 : u_T := fun k => match k with
  | 0 => ("RunsBack$Program", "kind", "[I", true)
  | 1 => ("RunsBack$Program", "a", "[I", true)
  | 2 => ("RunsBack$Program", "b", "[I", true)
  | _ => ("RunsBack$Program", "c", "[I", true)
def tyX5 : Nat → FieldType := fun k => match k with
  | 0 => .array .int
  | 1 => .array .int
  | 2 => .array .int
  | _ => .array .int
abbrev wsX50 : List Cond := u_ws RX5 TX5 4
theorem nmX5 : ∀ a, a < 4 → ∀ b, b < 4 → a ≠ b → (TX5 a).2.1 ≠ (TX5 b).2.1 := by decide +kernel
theorem tyX5_ok : ∀ k, k < 4 → parseFieldDescriptor (TX5 k).2.2.1 = some (tyX5 k) := by decide +kernel
abbrev cX5_init : ByteArray := prog_7_method_1_code
def yX5_init : MethodName := ⟨RX5, "<init>", "()V"⟩
abbrev cX5_write : ByteArray := prog_7_method_2_code
def yX5_write : MethodName := ⟨RX5, "write", "(IIIII)V"⟩
abbrev cX5_takeFrom : ByteArray := prog_7_method_3_code
def yX5_takeFrom : MethodName := ⟨RX5, "takeFrom", "(LRunsBack$Program;)V"⟩
abbrev cX5_size : ByteArray := prog_7_method_4_code
def yX5_size : MethodName := ⟨RX5, "size", "()I"⟩
abbrev cX5_kindAt : ByteArray := prog_7_method_5_code
def yX5_kindAt : MethodName := ⟨RX5, "kindAt", "(I)I"⟩
abbrev cX5_firstAt : ByteArray := prog_7_method_6_code
def yX5_firstAt : MethodName := ⟨RX5, "firstAt", "(I)I"⟩
abbrev cX5_secondAt : ByteArray := prog_7_method_7_code
def yX5_secondAt : MethodName := ⟨RX5, "secondAt", "(I)I"⟩
abbrev cX5_thirdAt : ByteArray := prog_7_method_8_code
def yX5_thirdAt : MethodName := ⟨RX5, "thirdAt", "(I)I"⟩
def RX6 : String := "RunsBack$Puts"
def TX6 : u_T := fun k => match k with
  | 0 => ("RunsBack$Puts", "time", "[I", true)
  | 1 => ("RunsBack$Puts", "place", "[I", true)
  | 2 => ("RunsBack$Puts", "sort", "[I", true)
  | 3 => ("RunsBack$Puts", "number", "[I", true)
  | 4 => ("RunsBack$Puts", "changes", "[I", true)
  | 5 => ("RunsBack$Puts", "ahead", "[I", true)
  | 6 => ("RunsBack$Puts", "began", "[I", true)
  | 7 => ("RunsBack$Puts", "entry", "[I", true)
  | 8 => ("RunsBack$Puts", "lookedOne", "[I", true)
  | 9 => ("RunsBack$Puts", "lookedTwo", "[I", true)
  | 10 => ("RunsBack$Puts", "latest", "[I", true)
  | _ => ("RunsBack$Puts", "count", "I", false)
def tyX6 : Nat → FieldType := fun k => match k with
  | 0 => .array .int
  | 1 => .array .int
  | 2 => .array .int
  | 3 => .array .int
  | 4 => .array .int
  | 5 => .array .int
  | 6 => .array .int
  | 7 => .array .int
  | 8 => .array .int
  | 9 => .array .int
  | 10 => .array .int
  | _ => .int
abbrev wsX60 : List Cond := u_ws RX6 TX6 12
theorem nmX6 : ∀ a, a < 12 → ∀ b, b < 12 → a ≠ b → (TX6 a).2.1 ≠ (TX6 b).2.1 := by decide +kernel
theorem tyX6_ok : ∀ k, k < 12 → parseFieldDescriptor (TX6 k).2.2.1 = some (tyX6 k) := by decide +kernel
abbrev cX6_init : ByteArray := prog_8_method_1_code
def yX6_init : MethodName := ⟨RX6, "<init>", "()V"⟩
abbrev cX6_init_ : ByteArray := prog_8_method_2_code
def yX6_init_ : MethodName := ⟨RX6, "<init>", "(LRunsBack$Puts;)V"⟩
abbrev cX6_clear : ByteArray := prog_8_method_3_code
def yX6_clear : MethodName := ⟨RX6, "clear", "()V"⟩
abbrev cX6_has : ByteArray := prog_8_method_4_code
def yX6_has : MethodName := ⟨RX6, "has", "(I)Z"⟩
abbrev cX6_timeOf : ByteArray := prog_8_method_5_code
def yX6_timeOf : MethodName := ⟨RX6, "timeOf", "(I)I"⟩
abbrev cX6_placeOf : ByteArray := prog_8_method_6_code
def yX6_placeOf : MethodName := ⟨RX6, "placeOf", "(I)I"⟩
abbrev cX6_sortOf : ByteArray := prog_8_method_7_code
def yX6_sortOf : MethodName := ⟨RX6, "sortOf", "(I)I"⟩
abbrev cX6_numberOf : ByteArray := prog_8_method_8_code
def yX6_numberOf : MethodName := ⟨RX6, "numberOf", "(I)I"⟩
abbrev cX6_changesOf : ByteArray := prog_8_method_9_code
def yX6_changesOf : MethodName := ⟨RX6, "changesOf", "(I)I"⟩
abbrev cX6_aheadOf : ByteArray := prog_8_method_10_code
def yX6_aheadOf : MethodName := ⟨RX6, "aheadOf", "(I)I"⟩
abbrev cX6_latestOf : ByteArray := prog_8_method_11_code
def yX6_latestOf : MethodName := ⟨RX6, "latestOf", "(I)I"⟩
abbrev cX6_hasValue : ByteArray := prog_8_method_12_code
def yX6_hasValue : MethodName := ⟨RX6, "hasValue", "(III)Z"⟩
abbrev cX6_add : ByteArray := prog_8_method_13_code
def yX6_add : MethodName := ⟨RX6, "add", "(IIII)Z"⟩
abbrev cX6_restLatestOn : ByteArray := prog_8_method_14_code
def yX6_restLatestOn : MethodName := ⟨RX6, "restLatestOn", "(IIII)V"⟩
abbrev cX6_dropBehind : ByteArray := prog_8_method_15_code
def yX6_dropBehind : MethodName := ⟨RX6, "dropBehind", "(I)V"⟩
abbrev cX6_putBy : ByteArray := prog_8_method_16_code
def yX6_putBy : MethodName := ⟨RX6, "putBy", "(II)I"⟩
abbrev cX6_changedSince : ByteArray := prog_8_method_17_code
def yX6_changedSince : MethodName := ⟨RX6, "changedSince", "(I)I"⟩
abbrev cX6_hadBy : ByteArray := prog_8_method_18_code
def yX6_hadBy : MethodName := ⟨RX6, "hadBy", "(IIII)I"⟩
abbrev cX6_changeTimes : ByteArray := prog_8_method_19_code
def yX6_changeTimes : MethodName := ⟨RX6, "changeTimes", "(II)I"⟩
abbrev cX6_markAllBelow : ByteArray := prog_8_method_20_code
def yX6_markAllBelow : MethodName := ⟨RX6, "markAllBelow", "(I[Z)V"⟩
abbrev cX6_mark : ByteArray := prog_8_method_21_code
def yX6_mark : MethodName := ⟨RX6, "mark", "([ZI)V"⟩
abbrev cX6_markedStep : ByteArray := prog_8_method_22_code
def yX6_markedStep : MethodName := ⟨RX6, "markedStep", "(I[Z)I"⟩
abbrev cX6_markAllAbove : ByteArray := prog_8_method_23_code
def yX6_markAllAbove : MethodName := ⟨RX6, "markAllAbove", "(I[Z)V"⟩
def RX7 : String := "RunsBack$Run"
def TX7 : u_T := fun k => match k with
  | 0 => ("RunsBack$Run", "program", "LRunsBack$Program;", true)
  | 1 => ("RunsBack$Run", "log", "LRunsBack$Log;", true)
  | 2 => ("RunsBack$Run", "puts", "LRunsBack$Puts;", true)
  | 3 => ("RunsBack$Run", "calls", "LRunsBack$Calls;", true)
  | 4 => ("RunsBack$Run", "holding", "LRunsBack$Holding;", true)
  | 5 => ("RunsBack$Run", "counter", "[I", true)
  | 6 => ("RunsBack$Run", "outs", "[I", true)
  | 7 => ("RunsBack$Run", "check", "[I", true)
  | 8 => ("RunsBack$Run", "top", "[I", true)
  | 9 => ("RunsBack$Run", "time", "I", false)
  | 10 => ("RunsBack$Run", "end", "I", false)
  | 11 => ("RunsBack$Run", "changedPlace", "I", false)
  | 12 => ("RunsBack$Run", "replayed", "I", false)
  | 13 => ("RunsBack$Run", "backs", "I", false)
  | _ => ("RunsBack$Run", "statusKept", "I", false)
def tyX7 : Nat → FieldType := fun k => match k with
  | 0 => .object "RunsBack$Program"
  | 1 => .object "RunsBack$Log"
  | 2 => .object "RunsBack$Puts"
  | 3 => .object "RunsBack$Calls"
  | 4 => .object "RunsBack$Holding"
  | 5 => .array .int
  | 6 => .array .int
  | 7 => .array .int
  | 8 => .array .int
  | 9 => .int
  | 10 => .int
  | 11 => .int
  | 12 => .int
  | 13 => .int
  | _ => .int
abbrev wsX70 : List Cond := u_ws RX7 TX7 15
theorem nmX7 : ∀ a, a < 15 → ∀ b, b < 15 → a ≠ b → (TX7 a).2.1 ≠ (TX7 b).2.1 := by decide +kernel
theorem tyX7_ok : ∀ k, k < 15 → parseFieldDescriptor (TX7 k).2.2.1 = some (tyX7 k) := by decide +kernel
abbrev cX7_init : ByteArray := prog_9_method_1_code
def yX7_init : MethodName := ⟨RX7, "<init>", "()V"⟩
abbrev cX7_init_ : ByteArray := prog_9_method_2_code
def yX7_init_ : MethodName := ⟨RX7, "<init>", "(LRunsBack$Run;I)V"⟩
abbrev cX7_start : ByteArray := prog_9_method_3_code
def yX7_start : MethodName := ⟨RX7, "start", "(LRunsBack$Program;II)V"⟩
abbrev cX7_hasTime : ByteArray := prog_9_method_4_code
def yX7_hasTime : MethodName := ⟨RX7, "hasTime", "(I)Z"⟩
abbrev cX7_counterAt : ByteArray := prog_9_method_5_code
def yX7_counterAt : MethodName := ⟨RX7, "counterAt", "(I)I"⟩
abbrev cX7_outsAt : ByteArray := prog_9_method_6_code
def yX7_outsAt : MethodName := ⟨RX7, "outsAt", "(I)I"⟩
abbrev cX7_checkAt : ByteArray := prog_9_method_7_code
def yX7_checkAt : MethodName := ⟨RX7, "checkAt", "(I)I"⟩
abbrev cX7_topAt : ByteArray := prog_9_method_8_code
def yX7_topAt : MethodName := ⟨RX7, "topAt", "(I)I"⟩
abbrev cX7_stackSizeAt : ByteArray := prog_9_method_9_code
def yX7_stackSizeAt : MethodName := ⟨RX7, "stackSizeAt", "(I)I"⟩
abbrev cX7_stackedAt : ByteArray := prog_9_method_10_code
def yX7_stackedAt : MethodName := ⟨RX7, "stackedAt", "(II)I"⟩
abbrev cX7_hasStackLike : ByteArray := prog_9_method_11_code
def yX7_hasStackLike : MethodName := ⟨RX7, "hasStackLike", "(ILRunsBack$Run;)Z"⟩
abbrev cX7_statusWith : ByteArray := prog_9_method_12_code
def yX7_statusWith : MethodName := ⟨RX7, "statusWith", "(LRunsBack$Outside;)I"⟩
abbrev cX7_canStep : ByteArray := prog_9_method_13_code
def yX7_canStep : MethodName := ⟨RX7, "canStep", "(LRunsBack$Outside;)Z"⟩
abbrev cX7_step : ByteArray := prog_9_method_14_code
def yX7_step : MethodName := ⟨RX7, "step", "(LRunsBack$Outside;)V"⟩
abbrev cX7_putByPoke : ByteArray := prog_9_method_15_code
def yX7_putByPoke : MethodName := ⟨RX7, "putByPoke", "(III)Z"⟩
abbrev cX7_putByStep : ByteArray := prog_9_method_16_code
def yX7_putByStep : MethodName := ⟨RX7, "putByStep", "(IIIII)V"⟩
abbrev cX7_putFromOutside : ByteArray := prog_9_method_17_code
def yX7_putFromOutside : MethodName := ⟨RX7, "putFromOutside", "(III)V"⟩
abbrev cX7_goOnAt : ByteArray := prog_9_method_18_code
def yX7_goOnAt : MethodName := ⟨RX7, "goOnAt", "(I)V"⟩
abbrev cX7_addOut : ByteArray := prog_9_method_19_code
def yX7_addOut : MethodName := ⟨RX7, "addOut", "(II)V"⟩
abbrev cX7_stackUp : ByteArray := prog_9_method_20_code
def yX7_stackUp : MethodName := ⟨RX7, "stackUp", "()V"⟩
abbrev cX7_stackDown : ByteArray := prog_9_method_21_code
def yX7_stackDown : MethodName := ⟨RX7, "stackDown", "()V"⟩
abbrev cX7_goBack : ByteArray := prog_9_method_22_code
def yX7_goBack : MethodName := ⟨RX7, "goBack", "(ILRunsBack$Outside;)V"⟩
def RX8 : String := "RunsBack$Stepping"
def TX8 : u_T := fun k => match k with
  | _ => ("", "", "", false)
def tyX8 : Nat → FieldType := fun k => match k with
  | _ => .int
abbrev wsX80 : List Cond := u_ws RX8 TX8 0
theorem nmX8 : ∀ a, a < 0 → ∀ b, b < 0 → a ≠ b → (TX8 a).2.1 ≠ (TX8 b).2.1 := by decide +kernel
theorem tyX8_ok : ∀ k, k < 0 → parseFieldDescriptor (TX8 k).2.2.1 = some (tyX8 k) := by decide +kernel
abbrev cX8_perform : ByteArray := prog_10_method_2_code
def yX8_perform : MethodName := ⟨RX8, "perform", "(LRunsBack$Run;ILRunsBack$Outside;)I"⟩
abbrev cX8_putOut : ByteArray := prog_10_method_3_code
def yX8_putOut : MethodName := ⟨RX8, "putOut", "(LRunsBack$Run;I)V"⟩
abbrev cX8_copy : ByteArray := prog_10_method_4_code
def yX8_copy : MethodName := ⟨RX8, "copy", "(LRunsBack$Run;II)V"⟩
abbrev cX8_compare : ByteArray := prog_10_method_5_code
def yX8_compare : MethodName := ⟨RX8, "compare", "(LRunsBack$Run;III)V"⟩
abbrev cX8_combine : ByteArray := prog_10_method_6_code
def yX8_combine : MethodName := ⟨RX8, "combine", "(LRunsBack$Run;IIII)I"⟩
abbrev cX8_fromCell : ByteArray := prog_10_method_7_code
def yX8_fromCell : MethodName := ⟨RX8, "fromCell", "(LRunsBack$Run;II)I"⟩
abbrev cX8_toCell : ByteArray := prog_10_method_8_code
def yX8_toCell : MethodName := ⟨RX8, "toCell", "(LRunsBack$Run;II)I"⟩
abbrev cX8_goOnIf : ByteArray := prog_10_method_9_code
def yX8_goOnIf : MethodName := ⟨RX8, "goOnIf", "(LRunsBack$Run;II)I"⟩
abbrev cX8_goDown : ByteArray := prog_10_method_10_code
def yX8_goDown : MethodName := ⟨RX8, "goDown", "(LRunsBack$Run;I)I"⟩
abbrev cX8_goUp : ByteArray := prog_10_method_11_code
def yX8_goUp : MethodName := ⟨RX8, "goUp", "(LRunsBack$Run;)V"⟩
abbrev cX8_reckon : ByteArray := prog_10_method_12_code
def yX8_reckon : MethodName := ⟨RX8, "reckon", "(LRunsBack$Run;IIII)I"⟩
abbrev cX8_reckoned : ByteArray := prog_10_method_13_code
def yX8_reckoned : MethodName := ⟨RX8, "reckoned", "(III)I"⟩
def RX9 : String := "RunsBack"
def TX9 : u_T := fun k => match k with
  | 0 => ("RunsBack", "program", "LRunsBack$Program;", true)
  | 1 => ("RunsBack", "outside", "LRunsBack$Outside;", true)
  | 2 => ("RunsBack", "beside", "LRunsBack$Beside;", true)
  | 3 => ("RunsBack", "marks", "[Z", true)
  | 4 => ("RunsBack", "kept", "[LRunsBack$Run;", true)
  | 5 => ("RunsBack", "keptCount", "I", false)
  | 6 => ("RunsBack", "now", "LRunsBack$Run;", false)
  | 7 => ("RunsBack", "askedNumber", "I", false)
  | 8 => ("RunsBack", "unitToCome", "I", false)
  | 9 => ("RunsBack", "depthToCome", "I", false)
  | 10 => ("RunsBack", "watchedRegisters", "I", false)
  | 11 => ("RunsBack", "watchedCells", "I", false)
  | _ => ("RunsBack", "latestReplayed", "I", false)
def tyX9 : Nat → FieldType := fun k => match k with
  | 0 => .object "RunsBack$Program"
  | 1 => .object "RunsBack$Outside"
  | 2 => .object "RunsBack$Beside"
  | 3 => .array .boolean
  | 4 => .array (.object "RunsBack$Run")
  | 5 => .int
  | 6 => .object "RunsBack$Run"
  | 7 => .int
  | 8 => .int
  | 9 => .int
  | 10 => .int
  | 11 => .int
  | _ => .int
abbrev wsX90 : List Cond := u_ws RX9 TX9 13
theorem nmX9 : ∀ a, a < 13 → ∀ b, b < 13 → a ≠ b → (TX9 a).2.1 ≠ (TX9 b).2.1 := by decide +kernel
theorem tyX9_ok : ∀ k, k < 13 → parseFieldDescriptor (TX9 k).2.2.1 = some (tyX9 k) := by decide +kernel
abbrev cX9_init : ByteArray := prog_1_method_1_code
def yX9_init : MethodName := ⟨RX9, "<init>", "()V"⟩
abbrev cX9_code : ByteArray := prog_1_method_2_code
def yX9_code : MethodName := ⟨RX9, "code", "(IIIII)Z"⟩
abbrev cX9_spacing : ByteArray := prog_1_method_3_code
def yX9_spacing : MethodName := ⟨RX9, "spacing", "(II)Z"⟩
abbrev cX9_begin : ByteArray := prog_1_method_4_code
def yX9_begin : MethodName := ⟨RX9, "begin", "()I"⟩
abbrev cX9_give : ByteArray := prog_1_method_5_code
def yX9_give : MethodName := ⟨RX9, "give", "(I)I"⟩
abbrev cX9_seed : ByteArray := prog_1_method_6_code
def yX9_seed : MethodName := ⟨RX9, "seed", "(I)I"⟩
abbrev cX9_poke : ByteArray := prog_1_method_7_code
def yX9_poke : MethodName := ⟨RX9, "poke", "(III)I"⟩
abbrev cX9_run : ByteArray := prog_1_method_8_code
def yX9_run : MethodName := ⟨RX9, "run", "(I)I"⟩
abbrev cX9_watch : ByteArray := prog_1_method_9_code
def yX9_watch : MethodName := ⟨RX9, "watch", "(IZ)Z"⟩
abbrev cX9_back : ByteArray := prog_1_method_10_code
def yX9_back : MethodName := ⟨RX9, "back", "(I)I"⟩
abbrev cX9_keep : ByteArray := prog_1_method_11_code
def yX9_keep : MethodName := ⟨RX9, "keep", "()I"⟩
abbrev cX9_use : ByteArray := prog_1_method_12_code
def yX9_use : MethodName := ⟨RX9, "use", "(I)Z"⟩
abbrev cX9_at : ByteArray := prog_1_method_13_code
def yX9_at : MethodName := ⟨RX9, "at", "(III)I"⟩
abbrev cX9_state : ByteArray := prog_1_method_14_code
def yX9_state : MethodName := ⟨RX9, "state", "(II)I"⟩
abbrev cX9_last : ByteArray := prog_1_method_15_code
def yX9_last : MethodName := ⟨RX9, "last", "(II)I"⟩
abbrev cX9_when : ByteArray := prog_1_method_16_code
def yX9_when : MethodName := ⟨RX9, "when", "(IIII)I"⟩
abbrev cX9_changed : ByteArray := prog_1_method_17_code
def yX9_changed : MethodName := ⟨RX9, "changed", "(II)I"⟩
abbrev cX9_watched : ByteArray := prog_1_method_18_code
def yX9_watched : MethodName := ⟨RX9, "watched", "(I)I"⟩
abbrev cX9_rests : ByteArray := prog_1_method_19_code
def yX9_rests : MethodName := ⟨RX9, "rests", "(III)I"⟩
abbrev cX9_hangs : ByteArray := prog_1_method_20_code
def yX9_hangs : MethodName := ⟨RX9, "hangs", "(III)I"⟩
abbrev cX9_history : ByteArray := prog_1_method_21_code
def yX9_history : MethodName := ⟨RX9, "history", "(III)I"⟩
abbrev cX9_done : ByteArray := prog_1_method_22_code
def yX9_done : MethodName := ⟨RX9, "done", "(II)I"⟩
abbrev cX9_call : ByteArray := prog_1_method_23_code
def yX9_call : MethodName := ⟨RX9, "call", "(II)I"⟩
abbrev cX9_log : ByteArray := prog_1_method_24_code
def yX9_log : MethodName := ⟨RX9, "log", "(II)I"⟩
abbrev cX9_held : ByteArray := prog_1_method_25_code
def yX9_held : MethodName := ⟨RX9, "held", "(II)I"⟩
abbrev cX9_would : ByteArray := prog_1_method_26_code
def yX9_would : MethodName := ⟨RX9, "would", "(III)I"⟩
abbrev cX9_gap : ByteArray := prog_1_method_27_code
def yX9_gap : MethodName := ⟨RX9, "gap", "(III)I"⟩
abbrev cX9_sparing : ByteArray := prog_1_method_28_code
def yX9_sparing : MethodName := ⟨RX9, "sparing", "(III)I"⟩
abbrev cX9_align : ByteArray := prog_1_method_29_code
def yX9_align : MethodName := ⟨RX9, "align", "(II)I"⟩
abbrev cX9_pair : ByteArray := prog_1_method_30_code
def yX9_pair : MethodName := ⟨RX9, "pair", "(IIII)I"⟩
abbrev cX9_parts : ByteArray := prog_1_method_31_code
def yX9_parts : MethodName := ⟨RX9, "parts", "(II)I"⟩
abbrev cX9_look : ByteArray := prog_1_method_32_code
def yX9_look : MethodName := ⟨RX9, "look", "(I)I"⟩
abbrev cX9_lookAtRun : ByteArray := prog_1_method_33_code
def yX9_lookAtRun : MethodName := ⟨RX9, "lookAtRun", "(LRunsBack$Run;I)I"⟩
abbrev cX9_isKept : ByteArray := prog_1_method_34_code
def yX9_isKept : MethodName := ⟨RX9, "isKept", "(I)Z"⟩
abbrev cX9_numbered : ByteArray := prog_1_method_35_code
def yX9_numbered : MethodName := ⟨RX9, "numbered", "(I)LRunsBack$Run;"⟩
abbrev cX9_isWatched : ByteArray := prog_1_method_36_code
def yX9_isWatched : MethodName := ⟨RX9, "isWatched", "(I)Z"⟩
abbrev cX9_replay : ByteArray := prog_1_method_37_code
def yX9_replay : MethodName := ⟨RX9, "replay", "(LRunsBack$Run;I)V"⟩
abbrev cX9_count : ByteArray := prog_1_method_38_code
def yX9_count : MethodName := ⟨RX9, "count", "(LRunsBack$Run;I)V"⟩
abbrev cX9_lastChange : ByteArray := prog_1_method_39_code
def yX9_lastChange : MethodName := ⟨RX9, "lastChange", "(LRunsBack$Run;II)I"⟩
abbrev cX9_unlike : ByteArray := prog_1_method_40_code
def yX9_unlike : MethodName := ⟨RX9, "unlike", "(LRunsBack$Puts;ILRunsBack$Puts;II)I"⟩
abbrev cX9_wouldBeHeld : ByteArray := prog_1_method_41_code
def yX9_wouldBeHeld : MethodName := ⟨RX9, "wouldBeHeld", "(III)I"⟩
abbrev cX9_isPlace : ByteArray := prog_1_method_42_code
def yX9_isPlace : MethodName := ⟨RX9, "isPlace", "(I)Z"⟩
abbrev cX9_isInstructionPlace : ByteArray := prog_1_method_43_code
def yX9_isInstructionPlace : MethodName := ⟨RX9, "isInstructionPlace", "(I)Z"⟩
abbrev cX9_isUnit : ByteArray := prog_1_method_44_code
def yX9_isUnit : MethodName := ⟨RX9, "isUnit", "(I)Z"⟩
abbrev cX9_isDepth : ByteArray := prog_1_method_45_code
def yX9_isDepth : MethodName := ⟨RX9, "isDepth", "(I)Z"⟩
abbrev cX9_isAnyTime : ByteArray := prog_1_method_46_code
def yX9_isAnyTime : MethodName := ⟨RX9, "isAnyTime", "(I)Z"⟩
abbrev cX9_isStateWhat : ByteArray := prog_1_method_47_code
def yX9_isStateWhat : MethodName := ⟨RX9, "isStateWhat", "(I)Z"⟩
abbrev cX9_isPlacesWhat : ByteArray := prog_1_method_48_code
def yX9_isPlacesWhat : MethodName := ⟨RX9, "isPlacesWhat", "(I)Z"⟩
abbrev cX9_firstPlaceOf : ByteArray := prog_1_method_49_code
def yX9_firstPlaceOf : MethodName := ⟨RX9, "firstPlaceOf", "(I)I"⟩
abbrev cX9_placesOf : ByteArray := prog_1_method_50_code
def yX9_placesOf : MethodName := ⟨RX9, "placesOf", "(I)I"⟩
abbrev cX9_isMarked : ByteArray := prog_1_method_51_code
def yX9_isMarked : MethodName := ⟨RX9, "isMarked", "([ZI)Z"⟩
abbrev cX9_isValue : ByteArray := prog_1_method_52_code
def yX9_isValue : MethodName := ⟨RX9, "isValue", "(II)Z"⟩
abbrev cX9_isInstruction : ByteArray := prog_1_method_53_code
def yX9_isInstruction : MethodName := ⟨RX9, "isInstruction", "(IIII)Z"⟩
abbrev cX9_fits : ByteArray := prog_1_method_54_code
def yX9_fits : MethodName := ⟨RX9, "fits", "(II)Z"⟩
def RX10 : String := "RunsBackModel"
def TX10 : u_T := fun k => match k with
  | 0 => ("RunsBackModel", "kinds", "[I", true)
  | 1 => ("RunsBackModel", "as", "[I", true)
  | 2 => ("RunsBackModel", "bs", "[I", true)
  | 3 => ("RunsBackModel", "cs", "[I", true)
  | 4 => ("RunsBackModel", "unit", "I", false)
  | 5 => ("RunsBackModel", "depth", "I", false)
  | 6 => ("RunsBackModel", "isRun", "[Z", true)
  | 7 => ("RunsBackModel", "runKind", "[I", true)
  | 8 => ("RunsBackModel", "runA", "[I", true)
  | 9 => ("RunsBackModel", "runB", "[I", true)
  | 10 => ("RunsBackModel", "runC", "[I", true)
  | 11 => ("RunsBackModel", "logTime", "[I", true)
  | 12 => ("RunsBackModel", "logSort", "[I", true)
  | 13 => ("RunsBackModel", "logNumber", "[I", true)
  | 14 => ("RunsBackModel", "logPlace", "[I", true)
  | 15 => ("RunsBackModel", "logValue", "[I", true)
  | 16 => ("RunsBackModel", "logs", "[I", true)
  | 17 => ("RunsBackModel", "callTime", "[I", true)
  | 18 => ("RunsBackModel", "callTo", "[I", true)
  | 19 => ("RunsBackModel", "callDeep", "[I", true)
  | 20 => ("RunsBackModel", "calls", "[I", true)
  | 21 => ("RunsBackModel", "isHeld", "[Z", true)
  | 22 => ("RunsBackModel", "times", "[I", true)
  | 23 => ("RunsBackModel", "statuses", "[I", true)
  | 24 => ("RunsBackModel", "units", "[I", true)
  | 25 => ("RunsBackModel", "depths", "[I", true)
  | 26 => ("RunsBackModel", "replayed", "[I", true)
  | 27 => ("RunsBackModel", "mostHeld", "[I", true)
  | 28 => ("RunsBackModel", "backs", "[I", true)
  | 29 => ("RunsBackModel", "kept", "I", false)
  | 30 => ("RunsBackModel", "asked", "I", false)
  | 31 => ("RunsBackModel", "live", "[I", true)
  | 32 => ("RunsBackModel", "inputs", "[I", true)
  | 33 => ("RunsBackModel", "waiting", "I", false)
  | 34 => ("RunsBackModel", "x", "I", false)
  | 35 => ("RunsBackModel", "latest", "I", false)
  | 36 => ("RunsBackModel", "isWatched", "[Z", true)
  | 37 => ("RunsBackModel", "trap", "I", false)
  | 38 => ("RunsBackModel", "took", "I", false)
  | 39 => ("RunsBackModel", "put", "I", false)
  | 40 => ("RunsBackModel", "sim", "[I", true)
  | 41 => ("RunsBackModel", "simRun", "I", false)
  | 42 => ("RunsBackModel", "simLog", "I", false)
  | 43 => ("RunsBackModel", "changesWere", "[I", true)
  | 44 => ("RunsBackModel", "rest", "[I", true)
  | 45 => ("RunsBackModel", "looked", "[I", true)
  | 46 => ("RunsBackModel", "pairs", "[I", true)
  | 47 => ("RunsBackModel", "oneRun", "I", false)
  | 48 => ("RunsBackModel", "otherRun", "I", false)
  | 49 => ("RunsBackModel", "pairOne", "I", false)
  | 50 => ("RunsBackModel", "pairOther", "I", false)
  | 51 => ("RunsBackModel", "aside", "[I", true)
  | 52 => ("RunsBackModel", "before", "[I", true)
  | 53 => ("RunsBackModel", "beforeRun", "I", false)
  | _ => ("RunsBackModel", "beforeLog", "I", false)
def tyX10 : Nat → FieldType := fun k => match k with
  | 0 => .array .int
  | 1 => .array .int
  | 2 => .array .int
  | 3 => .array .int
  | 4 => .int
  | 5 => .int
  | 6 => .array .boolean
  | 7 => .array .int
  | 8 => .array .int
  | 9 => .array .int
  | 10 => .array .int
  | 11 => .array .int
  | 12 => .array .int
  | 13 => .array .int
  | 14 => .array .int
  | 15 => .array .int
  | 16 => .array .int
  | 17 => .array .int
  | 18 => .array .int
  | 19 => .array .int
  | 20 => .array .int
  | 21 => .array .boolean
  | 22 => .array .int
  | 23 => .array .int
  | 24 => .array .int
  | 25 => .array .int
  | 26 => .array .int
  | 27 => .array .int
  | 28 => .array .int
  | 29 => .int
  | 30 => .int
  | 31 => .array .int
  | 32 => .array .int
  | 33 => .int
  | 34 => .int
  | 35 => .int
  | 36 => .array .boolean
  | 37 => .int
  | 38 => .int
  | 39 => .int
  | 40 => .array .int
  | 41 => .int
  | 42 => .int
  | 43 => .array .int
  | 44 => .array .int
  | 45 => .array .int
  | 46 => .array .int
  | 47 => .int
  | 48 => .int
  | 49 => .int
  | 50 => .int
  | 51 => .array .int
  | 52 => .array .int
  | 53 => .int
  | _ => .int
abbrev wsX100 : List Cond := u_ws RX10 TX10 55
theorem nmX10 : ∀ a, a < 55 → ∀ b, b < 55 → a ≠ b → (TX10 a).2.1 ≠ (TX10 b).2.1 := by decide +kernel
theorem tyX10_ok : ∀ k, k < 55 → parseFieldDescriptor (TX10 k).2.2.1 = some (tyX10 k) := by decide +kernel
abbrev cX10_isIn : ByteArray := prog_12_method_1_code
def yX10_isIn : MethodName := ⟨RX10, "isIn", "(III)Z"⟩
abbrev cX10_one : ByteArray := prog_12_method_2_code
def yX10_one : MethodName := ⟨RX10, "one", "(Z)I"⟩
abbrev cX10_init : ByteArray := prog_12_method_3_code
def yX10_init : MethodName := ⟨RX10, "<init>", "()V"⟩
abbrev cX10_isRegister : ByteArray := prog_12_method_4_code
def yX10_isRegister : MethodName := ⟨RX10, "isRegister", "(I)Z"⟩
abbrev cX10_isFine : ByteArray := prog_12_method_5_code
def yX10_isFine : MethodName := ⟨RX10, "isFine", "(IIII)Z"⟩
abbrev cX10_code : ByteArray := prog_12_method_6_code
def yX10_code : MethodName := ⟨RX10, "code", "(IIIII)Z"⟩
abbrev cX10_isSpacing : ByteArray := prog_12_method_7_code
def yX10_isSpacing : MethodName := ⟨RX10, "isSpacing", "(II)Z"⟩
abbrev cX10_spacing : ByteArray := prog_12_method_8_code
def yX10_spacing : MethodName := ⟨RX10, "spacing", "(II)Z"⟩
abbrev cX10_heldAt : ByteArray := prog_12_method_9_code
def yX10_heldAt : MethodName := ⟨RX10, "heldAt", "(II)I"⟩
abbrev cX10_clears : ByteArray := prog_12_method_10_code
def yX10_clears : MethodName := ⟨RX10, "clears", "([I)V"⟩
abbrev cX10_begin : ByteArray := prog_12_method_11_code
def yX10_begin : MethodName := ⟨RX10, "begin", "()I"⟩
abbrev cX10_give : ByteArray := prog_12_method_12_code
def yX10_give : MethodName := ⟨RX10, "give", "(I)I"⟩
abbrev cX10_seed : ByteArray := prog_12_method_13_code
def yX10_seed : MethodName := ⟨RX10, "seed", "(I)I"⟩
abbrev cX10_isValue : ByteArray := prog_12_method_14_code
def yX10_isValue : MethodName := ⟨RX10, "isValue", "(II)Z"⟩
abbrev cX10_isPlace : ByteArray := prog_12_method_15_code
def yX10_isPlace : MethodName := ⟨RX10, "isPlace", "(I)Z"⟩
abbrev cX10_puts : ByteArray := prog_12_method_16_code
def yX10_puts : MethodName := ⟨RX10, "puts", "([IIII)V"⟩
abbrev cX10_notes : ByteArray := prog_12_method_17_code
def yX10_notes : MethodName := ⟨RX10, "notes", "(IIII)V"⟩
abbrev cX10_poke : ByteArray := prog_12_method_18_code
def yX10_poke : MethodName := ⟨RX10, "poke", "(III)I"⟩
abbrev cX10_kindAt : ByteArray := prog_12_method_19_code
def yX10_kindAt : MethodName := ⟨RX10, "kindAt", "(II)I"⟩
abbrev cX10_isOf : ByteArray := prog_12_method_20_code
def yX10_isOf : MethodName := ⟨RX10, "isOf", "([III)Z"⟩
abbrev cX10_traps : ByteArray := prog_12_method_21_code
def yX10_traps : MethodName := ⟨RX10, "traps", "([II)V"⟩
abbrev cX10_gives : ByteArray := prog_12_method_22_code
def yX10_gives : MethodName := ⟨RX10, "gives", "([IIII)V"⟩
abbrev cX10_steps : ByteArray := prog_12_method_23_code
def yX10_steps : MethodName := ⟨RX10, "steps", "([III)V"⟩
abbrev cX10_does : ByteArray := prog_12_method_24_code
def yX10_does : MethodName := ⟨RX10, "does", "([IIIIIII)V"⟩
abbrev cX10_reckons : ByteArray := prog_12_method_25_code
def yX10_reckons : MethodName := ⟨RX10, "reckons", "([IIIII)V"⟩
abbrev cX10_cells : ByteArray := prog_12_method_26_code
def yX10_cells : MethodName := ⟨RX10, "cells", "([IIII)V"⟩
abbrev cX10_goes : ByteArray := prog_12_method_27_code
def yX10_goes : MethodName := ⟨RX10, "goes", "([IIII)V"⟩
abbrev cX10_status : ByteArray := prog_12_method_28_code
def yX10_status : MethodName := ⟨RX10, "status", "()I"⟩
abbrev cX10_halvings : ByteArray := prog_12_method_29_code
def yX10_halvings : MethodName := ⟨RX10, "halvings", "(I)I"⟩
abbrev cX10_goesWith : ByteArray := prog_12_method_30_code
def yX10_goesWith : MethodName := ⟨RX10, "goesWith", "(II)I"⟩
abbrev cX10_heldMany : ByteArray := prog_12_method_31_code
def yX10_heldMany : MethodName := ⟨RX10, "heldMany", "(I)I"⟩
abbrev cX10_comes : ByteArray := prog_12_method_32_code
def yX10_comes : MethodName := ⟨RX10, "comes", "()V"⟩
abbrev cX10_takesInput : ByteArray := prog_12_method_33_code
def yX10_takesInput : MethodName := ⟨RX10, "takesInput", "()V"⟩
abbrev cX10_draws : ByteArray := prog_12_method_34_code
def yX10_draws : MethodName := ⟨RX10, "draws", "(I)V"⟩
abbrev cX10_goesOn : ByteArray := prog_12_method_35_code
def yX10_goesOn : MethodName := ⟨RX10, "goesOn", "()V"⟩
abbrev cX10_watchedChanges : ByteArray := prog_12_method_36_code
def yX10_watchedChanges : MethodName := ⟨RX10, "watchedChanges", "()I"⟩
abbrev cX10_run : ByteArray := prog_12_method_37_code
def yX10_run : MethodName := ⟨RX10, "run", "(I)I"⟩
abbrev cX10_watch : ByteArray := prog_12_method_38_code
def yX10_watch : MethodName := ⟨RX10, "watch", "(IZ)Z"⟩
abbrev cX10_simPokes : ByteArray := prog_12_method_39_code
def yX10_simPokes : MethodName := ⟨RX10, "simPokes", "()V"⟩
abbrev cX10_simBegins : ByteArray := prog_12_method_40_code
def yX10_simBegins : MethodName := ⟨RX10, "simBegins", "(I)V"⟩
abbrev cX10_simStep : ByteArray := prog_12_method_41_code
def yX10_simStep : MethodName := ⟨RX10, "simStep", "()V"⟩
abbrev cX10_lays : ByteArray := prog_12_method_42_code
def yX10_lays : MethodName := ⟨RX10, "lays", "(II)V"⟩
abbrev cX10_heldBy : ByteArray := prog_12_method_43_code
def yX10_heldBy : MethodName := ⟨RX10, "heldBy", "(II)I"⟩
abbrev cX10_counts : ByteArray := prog_12_method_44_code
def yX10_counts : MethodName := ⟨RX10, "counts", "(II)V"⟩
abbrev cX10_replays : ByteArray := prog_12_method_45_code
def yX10_replays : MethodName := ⟨RX10, "replays", "(II)V"⟩
abbrev cX10_runAsked : ByteArray := prog_12_method_46_code
def yX10_runAsked : MethodName := ⟨RX10, "runAsked", "()I"⟩
abbrev cX10_isTime : ByteArray := prog_12_method_47_code
def yX10_isTime : MethodName := ⟨RX10, "isTime", "(I)Z"⟩
abbrev cX10_back : ByteArray := prog_12_method_48_code
def yX10_back : MethodName := ⟨RX10, "back", "(I)I"⟩
abbrev cX10_copies : ByteArray := prog_12_method_49_code
def yX10_copies : MethodName := ⟨RX10, "copies", "([IIII)V"⟩
abbrev cX10_keep : ByteArray := prog_12_method_50_code
def yX10_keep : MethodName := ⟨RX10, "keep", "()I"⟩
abbrev cX10_use : ByteArray := prog_12_method_51_code
def yX10_use : MethodName := ⟨RX10, "use", "(I)Z"⟩
abbrev cX10_at : ByteArray := prog_12_method_52_code
def yX10_at : MethodName := ⟨RX10, "at", "(III)I"⟩
abbrev cX10_state : ByteArray := prog_12_method_53_code
def yX10_state : MethodName := ⟨RX10, "state", "(II)I"⟩
abbrev cX10_lastOf : ByteArray := prog_12_method_54_code
def yX10_lastOf : MethodName := ⟨RX10, "lastOf", "(II)I"⟩
abbrev cX10_last : ByteArray := prog_12_method_55_code
def yX10_last : MethodName := ⟨RX10, "last", "(II)I"⟩
abbrev cX10_hadIn : ByteArray := prog_12_method_56_code
def yX10_hadIn : MethodName := ⟨RX10, "hadIn", "(IIIIII)I"⟩
abbrev cX10_when : ByteArray := prog_12_method_57_code
def yX10_when : MethodName := ⟨RX10, "when", "(IIII)I"⟩
abbrev cX10_changed : ByteArray := prog_12_method_58_code
def yX10_changed : MethodName := ⟨RX10, "changed", "(II)I"⟩
abbrev cX10_watched : ByteArray := prog_12_method_59_code
def yX10_watched : MethodName := ⟨RX10, "watched", "(I)I"⟩
abbrev cX10_clearsLooked : ByteArray := prog_12_method_60_code
def yX10_clearsLooked : MethodName := ⟨RX10, "clearsLooked", "()V"⟩
abbrev cX10_looksAt : ByteArray := prog_12_method_61_code
def yX10_looksAt : MethodName := ⟨RX10, "looksAt", "(I)V"⟩
abbrev cX10_adds : ByteArray := prog_12_method_62_code
def yX10_adds : MethodName := ⟨RX10, "adds", "(I)V"⟩
abbrev cX10_restsOn : ByteArray := prog_12_method_63_code
def yX10_restsOn : MethodName := ⟨RX10, "restsOn", "(I)V"⟩
abbrev cX10_restPokes : ByteArray := prog_12_method_64_code
def yX10_restPokes : MethodName := ⟨RX10, "restPokes", "()V"⟩
abbrev cX10_looks : ByteArray := prog_12_method_65_code
def yX10_looks : MethodName := ⟨RX10, "looks", "()V"⟩
abbrev cX10_laysRests : ByteArray := prog_12_method_66_code
def yX10_laysRests : MethodName := ⟨RX10, "laysRests", "(II)V"⟩
abbrev cX10_restsOnBit : ByteArray := prog_12_method_67_code
def yX10_restsOnBit : MethodName := ⟨RX10, "restsOnBit", "(II)Z"⟩
abbrev cX10_rests : ByteArray := prog_12_method_68_code
def yX10_rests : MethodName := ⟨RX10, "rests", "(III)I"⟩
abbrev cX10_hangs : ByteArray := prog_12_method_69_code
def yX10_hangs : MethodName := ⟨RX10, "hangs", "(III)I"⟩
abbrev cX10_history : ByteArray := prog_12_method_70_code
def yX10_history : MethodName := ⟨RX10, "history", "(III)I"⟩
abbrev cX10_done : ByteArray := prog_12_method_71_code
def yX10_done : MethodName := ⟨RX10, "done", "(II)I"⟩
abbrev cX10_call : ByteArray := prog_12_method_72_code
def yX10_call : MethodName := ⟨RX10, "call", "(II)I"⟩
abbrev cX10_log : ByteArray := prog_12_method_73_code
def yX10_log : MethodName := ⟨RX10, "log", "(II)I"⟩
abbrev cX10_held : ByteArray := prog_12_method_74_code
def yX10_held : MethodName := ⟨RX10, "held", "(II)I"⟩
abbrev cX10_wouldBe : ByteArray := prog_12_method_75_code
def yX10_wouldBe : MethodName := ⟨RX10, "wouldBe", "(III)Z"⟩
abbrev cX10_wouldOf : ByteArray := prog_12_method_76_code
def yX10_wouldOf : MethodName := ⟨RX10, "wouldOf", "(III)I"⟩
abbrev cX10_would : ByteArray := prog_12_method_77_code
def yX10_would : MethodName := ⟨RX10, "would", "(III)I"⟩
abbrev cX10_gap : ByteArray := prog_12_method_78_code
def yX10_gap : MethodName := ⟨RX10, "gap", "(III)I"⟩
abbrev cX10_sparing : ByteArray := prog_12_method_79_code
def yX10_sparing : MethodName := ⟨RX10, "sparing", "(III)I"⟩
abbrev cX10_isThere : ByteArray := prog_12_method_80_code
def yX10_isThere : MethodName := ⟨RX10, "isThere", "(I)Z"⟩
abbrev cX10_areLike : ByteArray := prog_12_method_81_code
def yX10_areLike : MethodName := ⟨RX10, "areLike", "(II)Z"⟩
abbrev cX10_laysPairs : ByteArray := prog_12_method_82_code
def yX10_laysPairs : MethodName := ⟨RX10, "laysPairs", "(II)V"⟩
abbrev cX10_align : ByteArray := prog_12_method_83_code
def yX10_align : MethodName := ⟨RX10, "align", "(II)I"⟩
abbrev cX10_finds : ByteArray := prog_12_method_84_code
def yX10_finds : MethodName := ⟨RX10, "finds", "(I)V"⟩
abbrev cX10_pair : ByteArray := prog_12_method_85_code
def yX10_pair : MethodName := ⟨RX10, "pair", "(IIII)I"⟩
abbrev cX10_swaps : ByteArray := prog_12_method_86_code
def yX10_swaps : MethodName := ⟨RX10, "swaps", "()V"⟩
abbrev cX10_areStatesLike : ByteArray := prog_12_method_87_code
def yX10_areStatesLike : MethodName := ⟨RX10, "areStatesLike", "()Z"⟩
abbrev cX10_parts : ByteArray := prog_12_method_88_code
def yX10_parts : MethodName := ⟨RX10, "parts", "(II)I"⟩
abbrev cX10_watchedOf : ByteArray := prog_12_method_89_code
def yX10_watchedOf : MethodName := ⟨RX10, "watchedOf", "(II)I"⟩
abbrev cX10_ofRun : ByteArray := prog_12_method_90_code
def yX10_ofRun : MethodName := ⟨RX10, "ofRun", "(II)I"⟩
abbrev cX10_look : ByteArray := prog_12_method_91_code
def yX10_look : MethodName := ⟨RX10, "look", "(I)I"⟩
def RJx8e188 : String := "java/lang/Cloneable"
def TJx8e188 : u_T := fun k => match k with
  | _ => ("", "", "", false)
def tyJx8e188 : Nat → FieldType := fun k => match k with
  | _ => .int
abbrev wsJx8e1880 : List Cond := u_ws RJx8e188 TJx8e188 0
theorem nmJx8e188 : ∀ a, a < 0 → ∀ b, b < 0 → a ≠ b → (TJx8e188 a).2.1 ≠ (TJx8e188 b).2.1 := by decide +kernel
theorem tyJx8e188_ok : ∀ k, k < 0 → parseFieldDescriptor (TJx8e188 k).2.2.1 = some (tyJx8e188 k) := by decide +kernel
def RJ9 : String := "java/lang/Math"
def TJ9 : u_T := fun k => match k with
  | _ => ("", "", "", false)
def tyJ9 : Nat → FieldType := fun k => match k with
  | _ => .int
abbrev wsJ90 : List Cond := u_ws RJ9 TJ9 0
theorem nmJ9 : ∀ a, a < 0 → ∀ b, b < 0 → a ≠ b → (TJ9 a).2.1 ≠ (TJ9 b).2.1 := by decide +kernel
theorem tyJ9_ok : ∀ k, k < 0 → parseFieldDescriptor (TJ9 k).2.2.1 = some (tyJ9 k) := by decide +kernel
abbrev cJ9_max_7cf53 : ByteArray := prog_14_method_65_code
def yJ9_max_7cf53 : MethodName := ⟨RJ9, "max", "(II)I"⟩
abbrev cJ9_min_7cf53 : ByteArray := prog_14_method_69_code
def yJ9_min_7cf53 : MethodName := ⟨RJ9, "min", "(II)I"⟩
def RJ7 : String := "java/util/Arrays"
def TJ7 : u_T := fun k => match k with
  | _ => ("", "", "", false)
def tyJ7 : Nat → FieldType := fun k => match k with
  | _ => .int
abbrev wsJ70 : List Cond := u_ws RJ7 TJ7 0
theorem nmJ7 : ∀ a, a < 0 → ∀ b, b < 0 → a ≠ b → (TJ7 a).2.1 ≠ (TJ7 b).2.1 := by decide +kernel
theorem tyJ7_ok : ∀ k, k < 0 → parseFieldDescriptor (TJ7 k).2.2.1 = some (tyJ7 k) := by decide +kernel
abbrev cJ7_fill_53178 : ByteArray := prog_15_method_103_code
def yJ7_fill_53178 : MethodName := ⟨RJ7, "fill", "([II)V"⟩
abbrev cJ7_fill_49daa : ByteArray := prog_15_method_111_code
def yJ7_fill_49daa : MethodName := ⟨RJ7, "fill", "([ZZ)V"⟩
def RL : String := "RunsBackLaw"
abbrev cL_law : ByteArray := code
def yL_law : MethodName := ⟨RL, "law", "([I)Z"⟩
abbrev vwCl : List vw_C := [(RX0, TX0, 6), (RX1, TX1, 4), (RX2, TX2, 5), (RX3, TX3, 6), (RX4, TX4, 4), (RX5, TX5, 4), (RX6, TX6, 12), (RX7, TX7, 15), (RX9, TX9, 13), (RX10, TX10, 55)]
end
section
/-! A LAYER OVER THE KIT'S ROWS: the machine seen purely. A world is a function from places (numbers) to cells, whose references are places again; where the places lie in the heap (ad), the regions, the words, the room are hidden in pm_X. -/
def pm_v (ad : Nat → Nat) (v : Value) : Value := match v with
  | .ref k => .ref (ad k)
  | v => v
theorem pm_v_cat (ad : Nat → Nat) (v : Value) : (pm_v ad v).category = v.category := by cases v <;> rfl
abbrev pm_A : Type := (Nat → Int32) ⊕ (Nat → Int64) ⊕ (Nat → UInt32) ⊕ (Nat → UInt64) ⊕ (Nat → Option Nat)
def pm_x (ad : Nat → Nat) (x : pm_A) : pm_A := match x with
  | .inr (.inr (.inr (.inr g))) => .inr (.inr (.inr (.inr (fun i => (g i).map ad))))
  | x => x
def pm_e (cA : Nat → ClassId) (ad : Nat → Nat) (e : va_E) : va_E := match e with
  | .inl (t, N, x) => .inl (cA t, N, pm_x ad x)
  | .inr (ci, fs) => .inr (ci, fs.map (pm_v ad))
def pm_W (cA : Nat → ClassId) (ad : Nat → Nat) (n : Nat) (w : Nat → va_E) : va_W := (List.range n).map (fun k => (ad k, pm_e cA ad (w k)))
theorem pm_W_len {cA : Nat → ClassId} {ad : Nat → Nat} {n : Nat} {w : Nat → va_E} : (pm_W cA ad n w).length = n := by simp [pm_W]
theorem pm_W_get {cA : Nat → ClassId} {ad : Nat → Nat} {n k : Nat} {w : Nat → va_E} (h : k < n) : (pm_W cA ad n w)[k]? = some (ad k, pm_e cA ad (w k)) := by
  simp [pm_W, h]
theorem pm_W_inv {cA : Nat → ClassId} {ad : Nat → Nat} {n k : Nat} {w : Nat → va_E} {q : Nat × va_E} (h : (pm_W cA ad n w)[k]? = some q) : k < n ∧ q = (ad k, pm_e cA ad (w k)) := by
  have hk : k < n := by
    have := (List.getElem?_eq_some_iff.mp h).1
    rwa [pm_W_len] at this
  rw [pm_W_get hk] at h
  exact ⟨hk, (Option.some.inj h).symm⟩
theorem pm_up_s {α : Type} {f : Nat → α} {k : Nat} {v : α} : va_up f k v k = v := by simp [va_up]
theorem pm_up_n {α : Type} {f : Nat → α} {k j : Nat} {v : α} (h : j ≠ k) : va_up f k v j = f j := by simp [va_up, h]
theorem pm_W_set {cA : Nat → ClassId} {ad : Nat → Nat} {n k : Nat} {w : Nat → va_E} (e : va_E) : (pm_W cA ad n w).set k (ad k, pm_e cA ad e) = pm_W cA ad n (va_up w k e) := by
  apply List.ext_getElem?
  intro j
  rw [List.getElem?_set, pm_W_len]
  by_cases hj : k = j
  · subst hj
    by_cases hk : k < n
    · rw [if_pos rfl, if_pos hk, pm_W_get hk, pm_up_s]
    · rw [if_pos rfl, if_neg hk, eq_comm, List.getElem?_eq_none_iff, pm_W_len]
      omega
  · rw [if_neg hj]
    by_cases hk : j < n
    · rw [pm_W_get hk, pm_W_get hk, pm_up_n (fun q => hj q.symm)]
    · rw [List.getElem?_eq_none_iff.mpr (by rw [pm_W_len]; omega), List.getElem?_eq_none_iff.mpr (by rw [pm_W_len]; omega)]
/-- a value, a cell, a world whose references are places of the world (or of the read-only arrays) -/
def pm_ok (n : Nat) (v : Value) : Prop := ∀ k, v = .ref k → k < n ∨ 1000000 ≤ k
def pm_ek (n : Nat) (e : va_E) : Prop := (∀ t N g, e = .inl (t, N, .inr (.inr (.inr (.inr g)))) → ∀ i k, g i = some k → k < n) ∧ ∀ ci fs, e = .inr (ci, fs) → ∀ v ∈ fs, pm_ok n v
def pm_wk (n : Nat) (w : Nat → va_E) : Prop := ∀ k, k < n → pm_ek n (w k)
theorem pm_oki {n : Nat} {x : Int32} : pm_ok n (.int x) := fun k h => by cases h
theorem pm_okn {n : Nat} : pm_ok n .null := fun k h => by cases h
theorem pm_okr {n k : Nat} (h : k < n) : pm_ok n (.ref k) := fun j e => by cases e; exact Or.inl h
theorem pm_okm {n n' : Nat} {v : Value} (h : n ≤ n') (hv : pm_ok n v) : pm_ok n' v := fun k e => (hv k e).imp (fun q => Nat.lt_of_lt_of_le q h) id
theorem pm_ekm {n n' : Nat} {e : va_E} (h : n ≤ n') (hv : pm_ek n e) : pm_ek n' e := ⟨fun t N g q i k z => Nat.lt_of_lt_of_le (hv.1 t N g q i k z) h, fun ci fs q v z => pm_okm h (hv.2 ci fs q v z)⟩
theorem pm_eki {n t N : Nat} {f : Nat → Int32} : pm_ek n (.inl (t, N, .inl f)) := ⟨fun t N g q => (by simp at q), fun ci fs q => (by cases q)⟩
theorem pm_eko {n ci : Nat} {fs : List Value} (h : ∀ v ∈ fs, pm_ok n v) : pm_ek n (.inr (ci, fs)) := ⟨fun t N g q => (by cases q), fun ci' fs' q => (by cases q; exact h)⟩
theorem pm_ekq {n t N : Nat} {g : Nat → Option Nat} (h : ∀ i k, g i = some k → k < n) : pm_ek n (.inl (t, N, .inr (.inr (.inr (.inr g))))) := ⟨fun t N g' q => (by simp at q; obtain ⟨-, -, rfl⟩ := q; exact h), fun ci fs q => (by cases q)⟩
theorem pm_wku {n k : Nat} {w : Nat → va_E} {e : va_E} (h : pm_wk n w) (he : pm_ek n e) : pm_wk n (va_up w k e) := fun j hj => by
  by_cases q : j = k
  · subst q; rw [pm_up_s]; exact he
  · rw [pm_up_n q]; exact h j hj
/-- two layings that agree on the world's places agree on all that it holds -/
def pm_ag (n : Nat) (ad ad' : Nat → Nat) : Prop := ∀ k, k < n ∨ 1000000 ≤ k → ad' k = ad k
theorem pm_v_ag {n : Nat} {ad ad' : Nat → Nat} (h : pm_ag n ad ad') {v : Value} (hv : pm_ok n v) : pm_v ad' v = pm_v ad v := by
  cases v with
  | ref k => exact congrArg Value.ref (h k (hv k rfl))
  | _ => rfl
theorem pm_vs_ag {n : Nat} {ad ad' : Nat → Nat} (h : pm_ag n ad ad') {vs : List Value} (hv : ∀ v ∈ vs, pm_ok n v) : vs.map (pm_v ad') = vs.map (pm_v ad) := List.map_congr_left fun v q => pm_v_ag h (hv v q)
theorem pm_e_ag {n : Nat} {cA : Nat → ClassId} {ad ad' : Nat → Nat} (h : pm_ag n ad ad') {e : va_E} (he : pm_ek n e) : pm_e cA ad' e = pm_e cA ad e := by
  rcases e with ⟨t, N, f | f | f | f | g⟩ | ⟨ci, fs⟩
  · rfl
  · rfl
  · rfl
  · rfl
  · have hg : (fun i => (g i).map ad') = fun i => (g i).map ad := funext fun i => by
      cases hi : g i with
      | none => rfl
      | some k => exact congrArg some (h k (Or.inl (he.1 t N g rfl i k hi)))
    show Sum.inl (cA t, N, Sum.inr (Sum.inr (Sum.inr (Sum.inr (fun i => (g i).map ad'))))) = Sum.inl (cA t, N, Sum.inr (Sum.inr (Sum.inr (Sum.inr (fun i => (g i).map ad)))))
    rw [hg]
  · show Sum.inr (ci, fs.map (pm_v ad')) = Sum.inr (ci, fs.map (pm_v ad))
    rw [pm_vs_ag h (he.2 ci fs rfl)]
theorem pm_W_ag {n : Nat} {cA : Nat → ClassId} {ad ad' : Nat → Nat} (h : pm_ag n ad ad') {w : Nat → va_E} (hw : pm_wk n w) : pm_W cA ad' n w = pm_W cA ad n w := by
  apply List.ext_getElem?
  intro j
  by_cases hj : j < n
  · rw [pm_W_get hj, pm_W_get hj, h j (Or.inl hj), pm_e_ag h (hw j hj)]
  · rw [List.getElem?_eq_none_iff.mpr (by rw [pm_W_len]; omega), List.getElem?_eq_none_iff.mpr (by rw [pm_W_len]; omega)]
theorem pm_W_push {n q : Nat} {cA : Nat → ClassId} {ad : Nat → Nat} {w : Nat → va_E} {e : va_E} (hn : n < 1000000) (hw : pm_wk n w) (he : pm_ek n e) : pm_W cA ad n w ++ [(q, pm_e cA ad e)] = pm_W cA (va_up ad n q) (n + 1) (va_up w n e) := by
  have hag : pm_ag n ad (va_up ad n q) := fun k hk => pm_up_n (by omega)
  apply List.ext_getElem?
  intro j
  by_cases hj : j < n
  · rw [List.getElem?_append_left (by rw [pm_W_len]; exact hj), pm_W_get hj, pm_W_get (Nat.lt_succ_of_lt hj), pm_up_n (Nat.ne_of_lt hj), pm_up_n (Nat.ne_of_lt hj), pm_e_ag hag (hw j hj)]
  · by_cases hj2 : j = n
    · subst hj2
      rw [List.getElem?_append_right (by rw [pm_W_len]; exact Nat.le_refl _), pm_W_len, Nat.sub_self, pm_W_get (Nat.lt_succ_self _), pm_up_s, pm_up_s, pm_e_ag hag he]
      rfl
    · rw [List.getElem?_eq_none_iff.mpr (by rw [List.length_append, pm_W_len]; simp; omega), List.getElem?_eq_none_iff.mpr (by rw [pm_W_len]; omega)]
end
section
/-- a method: its name, its bytes, its locals, what it returns -/
abbrev pm_M : Type := MethodName × ByteArray × Nat × Option FieldType
/-- the tables' words that stay true while the machine warms up; the others (nest mates, arrays of references) are kept as facts: pm_N -/
def lw_g : List Cond := lw_tbl.filter goodWord
abbrev pm_ws (M : pm_M) : List Cond := .code M.1 M.2.1 M.2.2.1 M.2.2.2 :: lw_g
def pm_N (U : State) : Prop := (∀ own idx y host, Cond.methodLinkNest own idx y host ∈ lw_tbl → va_Nw (.methodLinkNest own idx y host) U) ∧ ∀ C, Cond.arrayOver (.object C) ∈ lw_tbl → va_AO C U
def pm_rm (d mc ms : Nat) : Room := { frames := d, cells := mc, slots := ms, locals := 40 * d }
def pm_tys (cA : Nat → ClassId) : List (ClassId × FieldType) := [(cA 0, .int), (cA 1, .boolean), (cA 2, .object RX7), (cA 3, .array .int)]
/-- arrays that nobody writes, by their places (1000000 and on): statics, and the script of the law -/
abbrev pm_RO : Type := Nat → Option (Nat × (Nat → Int32))
def pm_R (ro : pm_RO) (ad : Nat → Nat) (A : Nat → Prop) (U : State) : Prop := ∀ k N f, ro k = some (N, f) → 1000000 ≤ k ∧ va_T .int (ad k) N (fun i => .int (f i)) A U U.heap
/-- the static fields of RunsBack that hold such arrays -/
def pm_Z (gs : List String) (ad : Nat → Nat) (A : Nat → Prop) (U : State) : Prop := ∀ (j : Nat) (nm : String), gs[j]? = some nm → va_Z "RunsBack" nm "[I" (.ref (ad (1000000 + j))) A U U.heap
def pm_Q (D : va_G) (cA : Nat → ClassId) (ad0 : Nat → Nat) (n0 : Nat) (A : Nat → Prop) (Q : Option Value → Nat → (Nat → va_E) → Prop) : Array Value → State → Outcome → State → Prop := fun _ st o t =>
  (∃ (r : Option Value) (n' : Nat) (w' : Nat → va_E) (ad' : Nat → Nat), o = .returned (r.map (pm_v ad')) ∧ Q r n' w' ∧ n0 ≤ n' ∧ n' < 1000000 ∧ pm_ag n0 ad0 ad' ∧ pm_wk n' w' ∧ (∀ v, r = some v → pm_ok n' v) ∧ va_P D vwCl (pm_W cA ad' n' w') t.heap ∧ va_K D vwCl (pm_tys cA) t ∧ va_D A (pm_W cA ad' n' w')) ∧ va_F A st t
/-- what stays through a method's walk -/
def pm_F (gs : List String) (ro : pm_RO) (M : pm_M) (p : Program) (s : State) (m : MethodId) (args : Array Value) (meth : Method) (c : Code) (D : va_G) (cA : Nat → ClassId) (ad0 : Nat → Nat) (A : Nat → Prop) : Prop :=
  p.tables.exec = Jvm.exec ∧ c.code = M.2.1 ∧ c.maxLocals = M.2.2.1 ∧ meth.sig.returnType = M.2.2.2 ∧ meth.locks = false ∧ meth.name = M.1.name ∧ s.vm.findClass M.1.cls = some m.cls ∧ (∀ w ∈ pm_ws M, w.before args s = true) ∧ va_K D vwCl (pm_tys cA) s ∧ (∀ q, s.heap.size ≤ q → A q) ∧ pm_R ro ad0 A s ∧ pm_Z gs ad0 A s ∧ pm_N s
/-- the heap holds the world -/
def pm_G (s : State) (D : va_G) (cA : Nat → ClassId) (ad0 : Nat → Nat) (n0 : Nat) (A : Nat → Prop) (H : Heap) (locs : List Loc) (ad : Nat → Nat) (n : Nat) (w : Nat → va_E) : Prop :=
  va_P D vwCl (pm_W cA ad n w) H ∧ va_D A (pm_W cA ad n w) ∧ va_S A s.heap H locs ∧ n0 ≤ n ∧ n < 1000000 ∧ pm_ag n0 ad0 ad ∧ pm_wk n w
/-- the locals -/
def pm_L (nL : Nat) (ls : Array Slot) (ad : Nat → Nat) (n : Nat) (L : List (Option Value)) : Prop := ls.size = nL ∧ lv_wf ls ∧ ∀ (i : Nat) (v : Value), L[i]? = some (some v) → ls[i]? = some (Slot.val (pm_v ad v)) ∧ pm_ok n v
def pm_S (n : Nat) (st : List Value) : Prop := ∀ v ∈ st, pm_ok n v
/-- THE JUDGEMENT: method M, at pc, with these locals, this stack, this world: it returns, and Q holds of its answer and the world then. d: how many frames may lie above; mc, ms: cells and slots that it makes at most in all, c0, s0: made already -/
def pm_X (gs : List String) (ro : pm_RO) (M : pm_M) (d mc ms c0 s0 pc : Nat) (L : List (Option Value)) (st : List Value) (n : Nat) (w : Nat → va_E) (Q : Option Value → Nat → (Nat → va_E) → Prop) : Prop :=
  ∀ (p : Program) (l : Launch) (e : Env) (s : State) (m : MethodId) (args : Array Value) (below : List Frame) (meth : Method) (c : Code) (H : Heap) (locs : List Loc) (ls : Array Slot) (D : va_G) (cA : Nat → ClassId) (ad ad0 : Nat → Nat) (n0 : Nat) (A : Nat → Prop),
    pm_F gs ro M p s m args meth c D cA ad0 A → pm_G s D cA ad0 n0 A H locs ad n w → pm_L M.2.2.1 ls ad n L → pm_S n st →
    W p l e (pm_rm d mc ms) s m args below meth c H locs c0 s0 (MQ below (pm_Q D cA ad0 n0 A Q) args s mc ms A) (F0 m pc ls (st.map (pm_v ad)))
theorem pm_S0 {n : Nat} : pm_S n [] := fun v h => by cases h
theorem pm_Sc {n : Nat} {v : Value} {st : List Value} (h : pm_ok n v) (hs : pm_S n st) : pm_S n (v :: st) := fun u hu => by
  rcases List.mem_cons.mp hu with q | q
  · rw [q]; exact h
  · exact hs u q
theorem pm_Si {n : Nat} {x : Int32} {st : List Value} (hs : pm_S n st) : pm_S n (.int x :: st) := pm_Sc pm_oki hs
theorem pm_St {n : Nat} {v : Value} {st : List Value} (hs : pm_S n (v :: st)) : pm_S n st := fun u hu => hs u (List.mem_cons_of_mem _ hu)
theorem pm_Sh {n : Nat} {v : Value} {st : List Value} (hs : pm_S n (v :: st)) : pm_ok n v := hs v List.mem_cons_self
end
section
section PMR
variable {gs : List String} {ro : pm_RO} {M : pm_M} {d mc ms c0 s0 pc : Nat} {L : List (Option Value)} {st : List Value} {n : Nat} {w : Nat → va_E} {Q : Option Value → Nat → (Nat → va_E) → Prop}
theorem pm_iconst {k : Int} {v : Int32} (h : decode M.2.1 pc = .ok (.iconst k, 1)) (hv : Int32.ofInt k = v) (kk : pm_X gs ro M d mc ms c0 s0 (pc + 1) L (.int v :: st) n w Q) : pm_X gs ro M d mc ms c0 s0 pc L (st) n w Q := by
  intro p l e s m args below meth c H locs ls D cA ad ad0 n0 A F G LL SS
  exact lv_iconst F.1 F.2.1 h hv (kk p l e s m args below meth c H locs ls D cA ad ad0 n0 A F G LL (pm_Si SS))
theorem pm_bipush {k : Int} {v : Int32} (h : decode M.2.1 pc = .ok (.bipush k, 2)) (hv : (Int8.ofInt k).toInt32 = v) (kk : pm_X gs ro M d mc ms c0 s0 (pc + 2) L (.int v :: st) n w Q) : pm_X gs ro M d mc ms c0 s0 pc L (st) n w Q := by
  intro p l e s m args below meth c H locs ls D cA ad ad0 n0 A F G LL SS
  exact lv_bipush F.1 F.2.1 h hv (kk p l e s m args below meth c H locs ls D cA ad ad0 n0 A F G LL (pm_Si SS))
theorem pm_sipush {k : Int} {v : Int32} (h : decode M.2.1 pc = .ok (.sipush k, 3)) (hv : (Int16.ofInt k).toInt32 = v) (kk : pm_X gs ro M d mc ms c0 s0 (pc + 3) L (.int v :: st) n w Q) : pm_X gs ro M d mc ms c0 s0 pc L (st) n w Q := by
  intro p l e s m args below meth c H locs ls D cA ad ad0 n0 A F G LL SS
  exact lv_sipush F.1 F.2.1 h hv (kk p l e s m args below meth c H locs ls D cA ad ad0 n0 A F G LL (pm_Si SS))
theorem pm_null  (h : decode M.2.1 pc = .ok (.aconst_null, 1)) (kk : pm_X gs ro M d mc ms c0 s0 (pc + 1) L (.null :: st) n w Q) : pm_X gs ro M d mc ms c0 s0 pc L (st) n w Q := by
  intro p l e s m args below meth c H locs ls D cA ad ad0 n0 A F G LL SS
  exact lv_null F.1 F.2.1 h (kk p l e s m args below meth c H locs ls D cA ad ad0 n0 A F G LL (pm_Sc pm_okn SS))
theorem pm_ldc {k : Nat} {v : Int32} (h : decode M.2.1 pc = .ok (.ldc k, 2)) (hm : Cond.constant M.1.cls k v ∈ lw_g) (kk : pm_X gs ro M d mc ms c0 s0 (pc + 2) L (.int v :: st) n w Q) : pm_X gs ro M d mc ms c0 s0 pc L (st) n w Q := by
  intro p l e s m args below meth c H locs ls D cA ad ad0 n0 A F G LL SS
  exact lv_ldc F.1 F.2.1 F.2.2.2.2.2.2.1 (F.2.2.2.2.2.2.2.1 _ (List.mem_cons_of_mem _ hm)) h (kk p l e s m args below meth c H locs ls D cA ad ad0 n0 A F G LL (pm_Si SS))
theorem pm_iadd {x y : Int32} (h : decode M.2.1 pc = .ok (.iadd, 1)) (kk : pm_X gs ro M d mc ms c0 s0 (pc + 1) L (.int (x + y) :: st) n w Q) : pm_X gs ro M d mc ms c0 s0 pc L (.int y :: .int x :: st) n w Q := by
  intro p l e s m args below meth c H locs ls D cA ad ad0 n0 A F G LL SS
  exact lv_iadd F.1 F.2.1 h (kk p l e s m args below meth c H locs ls D cA ad ad0 n0 A F G LL (pm_Si (pm_St (pm_St SS))))
theorem pm_isub {x y : Int32} (h : decode M.2.1 pc = .ok (.isub, 1)) (kk : pm_X gs ro M d mc ms c0 s0 (pc + 1) L (.int (x - y) :: st) n w Q) : pm_X gs ro M d mc ms c0 s0 pc L (.int y :: .int x :: st) n w Q := by
  intro p l e s m args below meth c H locs ls D cA ad ad0 n0 A F G LL SS
  exact lv_isub F.1 F.2.1 h (kk p l e s m args below meth c H locs ls D cA ad ad0 n0 A F G LL (pm_Si (pm_St (pm_St SS))))
theorem pm_imul {x y : Int32} (h : decode M.2.1 pc = .ok (.imul, 1)) (kk : pm_X gs ro M d mc ms c0 s0 (pc + 1) L (.int (x * y) :: st) n w Q) : pm_X gs ro M d mc ms c0 s0 pc L (.int y :: .int x :: st) n w Q := by
  intro p l e s m args below meth c H locs ls D cA ad ad0 n0 A F G LL SS
  exact lv_imul F.1 F.2.1 h (kk p l e s m args below meth c H locs ls D cA ad ad0 n0 A F G LL (pm_Si (pm_St (pm_St SS))))
theorem pm_iand {x y : Int32} (h : decode M.2.1 pc = .ok (.iand, 1)) (kk : pm_X gs ro M d mc ms c0 s0 (pc + 1) L (.int (x &&& y) :: st) n w Q) : pm_X gs ro M d mc ms c0 s0 pc L (.int y :: .int x :: st) n w Q := by
  intro p l e s m args below meth c H locs ls D cA ad ad0 n0 A F G LL SS
  exact lv_iand F.1 F.2.1 h (kk p l e s m args below meth c H locs ls D cA ad ad0 n0 A F G LL (pm_Si (pm_St (pm_St SS))))
theorem pm_ior {x y : Int32} (h : decode M.2.1 pc = .ok (.ior, 1)) (kk : pm_X gs ro M d mc ms c0 s0 (pc + 1) L (.int (x ||| y) :: st) n w Q) : pm_X gs ro M d mc ms c0 s0 pc L (.int y :: .int x :: st) n w Q := by
  intro p l e s m args below meth c H locs ls D cA ad ad0 n0 A F G LL SS
  exact lv_ior F.1 F.2.1 h (kk p l e s m args below meth c H locs ls D cA ad ad0 n0 A F G LL (pm_Si (pm_St (pm_St SS))))
theorem pm_ixor {x y : Int32} (h : decode M.2.1 pc = .ok (.ixor, 1)) (kk : pm_X gs ro M d mc ms c0 s0 (pc + 1) L (.int (x ^^^ y) :: st) n w Q) : pm_X gs ro M d mc ms c0 s0 pc L (.int y :: .int x :: st) n w Q := by
  intro p l e s m args below meth c H locs ls D cA ad ad0 n0 A F G LL SS
  exact lv_ixor F.1 F.2.1 h (kk p l e s m args below meth c H locs ls D cA ad ad0 n0 A F G LL (pm_Si (pm_St (pm_St SS))))
theorem pm_ishl {x y : Int32} (h : decode M.2.1 pc = .ok (.ishl, 1)) (kk : pm_X gs ro M d mc ms c0 s0 (pc + 1) L (.int (x <<< (y &&& 31)) :: st) n w Q) : pm_X gs ro M d mc ms c0 s0 pc L (.int y :: .int x :: st) n w Q := by
  intro p l e s m args below meth c H locs ls D cA ad ad0 n0 A F G LL SS
  exact lv_ishl F.1 F.2.1 h (kk p l e s m args below meth c H locs ls D cA ad ad0 n0 A F G LL (pm_Si (pm_St (pm_St SS))))
theorem pm_ishr {x y : Int32} (h : decode M.2.1 pc = .ok (.ishr, 1)) (kk : pm_X gs ro M d mc ms c0 s0 (pc + 1) L (.int (x >>> (y &&& 31)) :: st) n w Q) : pm_X gs ro M d mc ms c0 s0 pc L (.int y :: .int x :: st) n w Q := by
  intro p l e s m args below meth c H locs ls D cA ad ad0 n0 A F G LL SS
  exact lv_ishr F.1 F.2.1 h (kk p l e s m args below meth c H locs ls D cA ad ad0 n0 A F G LL (pm_Si (pm_St (pm_St SS))))
theorem pm_iushr {x y : Int32} (h : decode M.2.1 pc = .ok (.iushr, 1)) (kk : pm_X gs ro M d mc ms c0 s0 (pc + 1) L (.int ((x.toUInt32 >>> (y.toUInt32 &&& Int32.toUInt32 31)).toInt32) :: st) n w Q) : pm_X gs ro M d mc ms c0 s0 pc L (.int y :: .int x :: st) n w Q := by
  intro p l e s m args below meth c H locs ls D cA ad ad0 n0 A F G LL SS
  exact lv_iushr F.1 F.2.1 h rfl (kk p l e s m args below meth c H locs ls D cA ad ad0 n0 A F G LL (pm_Si (pm_St (pm_St SS))))
theorem pm_ineg {x : Int32} (h : decode M.2.1 pc = .ok (.ineg, 1)) (kk : pm_X gs ro M d mc ms c0 s0 (pc + 1) L (.int (-x) :: st) n w Q) : pm_X gs ro M d mc ms c0 s0 pc L (.int x :: st) n w Q := by
  intro p l e s m args below meth c H locs ls D cA ad ad0 n0 A F G LL SS
  exact lv_ineg F.1 F.2.1 h (kk p l e s m args below meth c H locs ls D cA ad ad0 n0 A F G LL (pm_Si (pm_St SS)))
theorem pm_idiv {x y : Int32} (h : decode M.2.1 pc = .ok (.idiv, 1)) (hy : ¬ y = 0) (kk : pm_X gs ro M d mc ms c0 s0 (pc + 1) L (.int (x / y) :: st) n w Q) : pm_X gs ro M d mc ms c0 s0 pc L (.int y :: .int x :: st) n w Q := by
  intro p l e s m args below meth c H locs ls D cA ad ad0 n0 A F G LL SS
  exact lv_idiv F.1 F.2.1 h hy (kk p l e s m args below meth c H locs ls D cA ad ad0 n0 A F G LL (pm_Si (pm_St (pm_St SS))))
theorem pm_irem {x y : Int32} (h : decode M.2.1 pc = .ok (.irem, 1)) (hy : ¬ y = 0) (kk : pm_X gs ro M d mc ms c0 s0 (pc + 1) L (.int (x - x / y * y) :: st) n w Q) : pm_X gs ro M d mc ms c0 s0 pc L (.int y :: .int x :: st) n w Q := by
  intro p l e s m args below meth c H locs ls D cA ad ad0 n0 A F G LL SS
  exact lv_irem F.1 F.2.1 h hy (kk p l e s m args below meth c H locs ls D cA ad ad0 n0 A F G LL (pm_Si (pm_St (pm_St SS))))
theorem pm_dup {v : Value} (h : decode M.2.1 pc = .ok (.dup, 1)) (hc : v.category = 1) (kk : pm_X gs ro M d mc ms c0 s0 (pc + 1) L (v :: v :: st) n w Q) : pm_X gs ro M d mc ms c0 s0 pc L (v :: st) n w Q := by
  intro p l e s m args below meth c H locs ls D cA ad ad0 n0 A F G LL SS
  exact lv_dup F.1 F.2.1 h (by rw [pm_v_cat]; exact hc) (kk p l e s m args below meth c H locs ls D cA ad ad0 n0 A F G LL (pm_Sc (pm_Sh SS) SS))
theorem pm_pop {v : Value} (h : decode M.2.1 pc = .ok (.pop, 1)) (hc : v.category = 1) (kk : pm_X gs ro M d mc ms c0 s0 (pc + 1) L (st) n w Q) : pm_X gs ro M d mc ms c0 s0 pc L (v :: st) n w Q := by
  intro p l e s m args below meth c H locs ls D cA ad ad0 n0 A F G LL SS
  exact lv_pop F.1 F.2.1 h (by rw [pm_v_cat]; exact hc) (kk p l e s m args below meth c H locs ls D cA ad ad0 n0 A F G LL (pm_St SS))
theorem pm_dup2 {v u : Value} (h : decode M.2.1 pc = .ok (.dup2, 1)) (hc : v.category = 1) (hu : u.category = 1) (kk : pm_X gs ro M d mc ms c0 s0 (pc + 1) L (v :: u :: v :: u :: st) n w Q) : pm_X gs ro M d mc ms c0 s0 pc L (v :: u :: st) n w Q := by
  intro p l e s m args below meth c H locs ls D cA ad ad0 n0 A F G LL SS
  exact lv_dup2_11 F.1 F.2.1 h (by rw [pm_v_cat]; exact hc) (by rw [pm_v_cat]; exact hu) (kk p l e s m args below meth c H locs ls D cA ad ad0 n0 A F G LL (pm_Sc (pm_Sh SS) (pm_Sc (pm_Sh (pm_St SS)) SS)))
theorem pm_dup_x1 {v u : Value} (h : decode M.2.1 pc = .ok (.dup_x1, 1)) (hc : v.category = 1) (hu : u.category = 1) (kk : pm_X gs ro M d mc ms c0 s0 (pc + 1) L (v :: u :: v :: st) n w Q) : pm_X gs ro M d mc ms c0 s0 pc L (v :: u :: st) n w Q := by
  intro p l e s m args below meth c H locs ls D cA ad ad0 n0 A F G LL SS
  exact lv_dup_x1 F.1 F.2.1 h (by rw [pm_v_cat]; exact hc) (by rw [pm_v_cat]; exact hu) (kk p l e s m args below meth c H locs ls D cA ad ad0 n0 A F G LL (pm_Sc (pm_Sh SS) (pm_Sc (pm_Sh (pm_St SS)) (pm_Sc (pm_Sh SS) (pm_St (pm_St SS))))))
theorem pm_iload {i : Nat} {x : Int32} (h : decode M.2.1 pc = .ok (.iload i, 2)) (hl : L[i]? = some (some (.int x))) (kk : pm_X gs ro M d mc ms c0 s0 (pc + 2) L (.int x :: st) n w Q) : pm_X gs ro M d mc ms c0 s0 pc L (st) n w Q := by
  intro p l e s m args below meth c H locs ls D cA ad ad0 n0 A F G LL SS
  exact lv_iload F.1 F.2.1 h (LL.2.2 i _ hl).1 (kk p l e s m args below meth c H locs ls D cA ad ad0 n0 A F G LL (pm_Si SS))
theorem pm_iload_n {k : Fin 4} {x : Int32} (h : decode M.2.1 pc = .ok (.iload_n k, 1)) (hl : L[(k : Nat)]? = some (some (.int x))) (kk : pm_X gs ro M d mc ms c0 s0 (pc + 1) L (.int x :: st) n w Q) : pm_X gs ro M d mc ms c0 s0 pc L (st) n w Q := by
  intro p l e s m args below meth c H locs ls D cA ad ad0 n0 A F G LL SS
  exact lv_iload_n F.1 F.2.1 h rfl (LL.2.2 k _ hl).1 (kk p l e s m args below meth c H locs ls D cA ad ad0 n0 A F G LL (pm_Si SS))
theorem pm_aload {i : Nat} {x : Nat} (h : decode M.2.1 pc = .ok (.aload i, 2)) (hl : L[i]? = some (some (.ref x))) (kk : pm_X gs ro M d mc ms c0 s0 (pc + 2) L (.ref x :: st) n w Q) : pm_X gs ro M d mc ms c0 s0 pc L (st) n w Q := by
  intro p l e s m args below meth c H locs ls D cA ad ad0 n0 A F G LL SS
  exact lv_aload F.1 F.2.1 h (LL.2.2 i _ hl).1 (kk p l e s m args below meth c H locs ls D cA ad ad0 n0 A F G LL (pm_Sc (LL.2.2 i _ hl).2 SS))
theorem pm_aload_n {k : Fin 4} {x : Nat} (h : decode M.2.1 pc = .ok (.aload_n k, 1)) (hl : L[(k : Nat)]? = some (some (.ref x))) (kk : pm_X gs ro M d mc ms c0 s0 (pc + 1) L (.ref x :: st) n w Q) : pm_X gs ro M d mc ms c0 s0 pc L (st) n w Q := by
  intro p l e s m args below meth c H locs ls D cA ad ad0 n0 A F G LL SS
  exact lv_aload_n F.1 F.2.1 h rfl (LL.2.2 k _ hl).1 (kk p l e s m args below meth c H locs ls D cA ad ad0 n0 A F G LL (pm_Sc (LL.2.2 k _ hl).2 SS))
theorem pm_aloadN {i : Nat} (h : decode M.2.1 pc = .ok (.aload i, 2)) (hl : L[i]? = some (some .null)) (kk : pm_X gs ro M d mc ms c0 s0 (pc + 2) L (.null :: st) n w Q) : pm_X gs ro M d mc ms c0 s0 pc L (st) n w Q := by
  intro p l e s m args below meth c H locs ls D cA ad ad0 n0 A F G LL SS
  exact lv_aloadN F.1 F.2.1 h (LL.2.2 i _ hl).1 (kk p l e s m args below meth c H locs ls D cA ad ad0 n0 A F G LL (pm_Sc pm_okn SS))
theorem pm_aload_nN {k : Fin 4} (h : decode M.2.1 pc = .ok (.aload_n k, 1)) (hl : L[(k : Nat)]? = some (some .null)) (kk : pm_X gs ro M d mc ms c0 s0 (pc + 1) L (.null :: st) n w Q) : pm_X gs ro M d mc ms c0 s0 pc L (st) n w Q := by
  intro p l e s m args below meth c H locs ls D cA ad ad0 n0 A F G LL SS
  exact lv_aload_nN F.1 F.2.1 h rfl (LL.2.2 k _ hl).1 (kk p l e s m args below meth c H locs ls D cA ad ad0 n0 A F G LL (pm_Sc pm_okn SS))
theorem pm_if_eq {x : Int32} {off : Int} {tgt : Nat} (h : decode M.2.1 pc = .ok (.ifCond .eq off, 3)) (ht : (pc : Int) + off = (tgt : Int)) (kt : x = 0 → pm_X gs ro M d mc ms c0 s0 tgt L st n w Q) (kf : ¬ x = 0 → pm_X gs ro M d mc ms c0 s0 (pc + 3) L st n w Q) : pm_X gs ro M d mc ms c0 s0 pc L (.int x :: st) n w Q := by
  intro p l e s m args below meth c H locs ls D cA ad ad0 n0 A F G LL SS
  exact lv_if_eq F.1 F.2.1 h ht (fun q => kt q p l e s m args below meth c H locs ls D cA ad ad0 n0 A F G LL (pm_St SS)) (fun q => kf q p l e s m args below meth c H locs ls D cA ad ad0 n0 A F G LL (pm_St SS))
theorem pm_icmp_eq {x y : Int32} {off : Int} {tgt : Nat} (h : decode M.2.1 pc = .ok (.if_icmp .eq off, 3)) (ht : (pc : Int) + off = (tgt : Int)) (kt : x = y → pm_X gs ro M d mc ms c0 s0 tgt L st n w Q) (kf : ¬ x = y → pm_X gs ro M d mc ms c0 s0 (pc + 3) L st n w Q) : pm_X gs ro M d mc ms c0 s0 pc L (.int y :: .int x :: st) n w Q := by
  intro p l e s m args below meth c H locs ls D cA ad ad0 n0 A F G LL SS
  exact lv_icmp_eq F.1 F.2.1 h ht (fun q => kt q p l e s m args below meth c H locs ls D cA ad ad0 n0 A F G LL (pm_St (pm_St SS))) (fun q => kf q p l e s m args below meth c H locs ls D cA ad ad0 n0 A F G LL (pm_St (pm_St SS)))
theorem pm_if_ne {x : Int32} {off : Int} {tgt : Nat} (h : decode M.2.1 pc = .ok (.ifCond .ne off, 3)) (ht : (pc : Int) + off = (tgt : Int)) (kt : ¬ x = 0 → pm_X gs ro M d mc ms c0 s0 tgt L st n w Q) (kf : x = 0 → pm_X gs ro M d mc ms c0 s0 (pc + 3) L st n w Q) : pm_X gs ro M d mc ms c0 s0 pc L (.int x :: st) n w Q := by
  intro p l e s m args below meth c H locs ls D cA ad ad0 n0 A F G LL SS
  exact lv_if_ne F.1 F.2.1 h ht (fun q => kt q p l e s m args below meth c H locs ls D cA ad ad0 n0 A F G LL (pm_St SS)) (fun q => kf q p l e s m args below meth c H locs ls D cA ad ad0 n0 A F G LL (pm_St SS))
theorem pm_icmp_ne {x y : Int32} {off : Int} {tgt : Nat} (h : decode M.2.1 pc = .ok (.if_icmp .ne off, 3)) (ht : (pc : Int) + off = (tgt : Int)) (kt : ¬ x = y → pm_X gs ro M d mc ms c0 s0 tgt L st n w Q) (kf : x = y → pm_X gs ro M d mc ms c0 s0 (pc + 3) L st n w Q) : pm_X gs ro M d mc ms c0 s0 pc L (.int y :: .int x :: st) n w Q := by
  intro p l e s m args below meth c H locs ls D cA ad ad0 n0 A F G LL SS
  exact lv_icmp_ne F.1 F.2.1 h ht (fun q => kt q p l e s m args below meth c H locs ls D cA ad ad0 n0 A F G LL (pm_St (pm_St SS))) (fun q => kf q p l e s m args below meth c H locs ls D cA ad ad0 n0 A F G LL (pm_St (pm_St SS)))
theorem pm_if_lt {x : Int32} {off : Int} {tgt : Nat} (h : decode M.2.1 pc = .ok (.ifCond .lt off, 3)) (ht : (pc : Int) + off = (tgt : Int)) (kt : x < 0 → pm_X gs ro M d mc ms c0 s0 tgt L st n w Q) (kf : ¬ x < 0 → pm_X gs ro M d mc ms c0 s0 (pc + 3) L st n w Q) : pm_X gs ro M d mc ms c0 s0 pc L (.int x :: st) n w Q := by
  intro p l e s m args below meth c H locs ls D cA ad ad0 n0 A F G LL SS
  exact lv_if_lt F.1 F.2.1 h ht (fun q => kt q p l e s m args below meth c H locs ls D cA ad ad0 n0 A F G LL (pm_St SS)) (fun q => kf q p l e s m args below meth c H locs ls D cA ad ad0 n0 A F G LL (pm_St SS))
theorem pm_icmp_lt {x y : Int32} {off : Int} {tgt : Nat} (h : decode M.2.1 pc = .ok (.if_icmp .lt off, 3)) (ht : (pc : Int) + off = (tgt : Int)) (kt : x < y → pm_X gs ro M d mc ms c0 s0 tgt L st n w Q) (kf : ¬ x < y → pm_X gs ro M d mc ms c0 s0 (pc + 3) L st n w Q) : pm_X gs ro M d mc ms c0 s0 pc L (.int y :: .int x :: st) n w Q := by
  intro p l e s m args below meth c H locs ls D cA ad ad0 n0 A F G LL SS
  exact lv_icmp_lt F.1 F.2.1 h ht (fun q => kt q p l e s m args below meth c H locs ls D cA ad ad0 n0 A F G LL (pm_St (pm_St SS))) (fun q => kf q p l e s m args below meth c H locs ls D cA ad ad0 n0 A F G LL (pm_St (pm_St SS)))
theorem pm_if_ge {x : Int32} {off : Int} {tgt : Nat} (h : decode M.2.1 pc = .ok (.ifCond .ge off, 3)) (ht : (pc : Int) + off = (tgt : Int)) (kt : 0 ≤ x → pm_X gs ro M d mc ms c0 s0 tgt L st n w Q) (kf : ¬ 0 ≤ x → pm_X gs ro M d mc ms c0 s0 (pc + 3) L st n w Q) : pm_X gs ro M d mc ms c0 s0 pc L (.int x :: st) n w Q := by
  intro p l e s m args below meth c H locs ls D cA ad ad0 n0 A F G LL SS
  exact lv_if_ge F.1 F.2.1 h ht (fun q => kt q p l e s m args below meth c H locs ls D cA ad ad0 n0 A F G LL (pm_St SS)) (fun q => kf q p l e s m args below meth c H locs ls D cA ad ad0 n0 A F G LL (pm_St SS))
theorem pm_icmp_ge {x y : Int32} {off : Int} {tgt : Nat} (h : decode M.2.1 pc = .ok (.if_icmp .ge off, 3)) (ht : (pc : Int) + off = (tgt : Int)) (kt : y ≤ x → pm_X gs ro M d mc ms c0 s0 tgt L st n w Q) (kf : ¬ y ≤ x → pm_X gs ro M d mc ms c0 s0 (pc + 3) L st n w Q) : pm_X gs ro M d mc ms c0 s0 pc L (.int y :: .int x :: st) n w Q := by
  intro p l e s m args below meth c H locs ls D cA ad ad0 n0 A F G LL SS
  exact lv_icmp_ge F.1 F.2.1 h ht (fun q => kt q p l e s m args below meth c H locs ls D cA ad ad0 n0 A F G LL (pm_St (pm_St SS))) (fun q => kf q p l e s m args below meth c H locs ls D cA ad ad0 n0 A F G LL (pm_St (pm_St SS)))
theorem pm_if_gt {x : Int32} {off : Int} {tgt : Nat} (h : decode M.2.1 pc = .ok (.ifCond .gt off, 3)) (ht : (pc : Int) + off = (tgt : Int)) (kt : 0 < x → pm_X gs ro M d mc ms c0 s0 tgt L st n w Q) (kf : ¬ 0 < x → pm_X gs ro M d mc ms c0 s0 (pc + 3) L st n w Q) : pm_X gs ro M d mc ms c0 s0 pc L (.int x :: st) n w Q := by
  intro p l e s m args below meth c H locs ls D cA ad ad0 n0 A F G LL SS
  exact lv_if_gt F.1 F.2.1 h ht (fun q => kt q p l e s m args below meth c H locs ls D cA ad ad0 n0 A F G LL (pm_St SS)) (fun q => kf q p l e s m args below meth c H locs ls D cA ad ad0 n0 A F G LL (pm_St SS))
theorem pm_icmp_gt {x y : Int32} {off : Int} {tgt : Nat} (h : decode M.2.1 pc = .ok (.if_icmp .gt off, 3)) (ht : (pc : Int) + off = (tgt : Int)) (kt : y < x → pm_X gs ro M d mc ms c0 s0 tgt L st n w Q) (kf : ¬ y < x → pm_X gs ro M d mc ms c0 s0 (pc + 3) L st n w Q) : pm_X gs ro M d mc ms c0 s0 pc L (.int y :: .int x :: st) n w Q := by
  intro p l e s m args below meth c H locs ls D cA ad ad0 n0 A F G LL SS
  exact lv_icmp_gt F.1 F.2.1 h ht (fun q => kt q p l e s m args below meth c H locs ls D cA ad ad0 n0 A F G LL (pm_St (pm_St SS))) (fun q => kf q p l e s m args below meth c H locs ls D cA ad ad0 n0 A F G LL (pm_St (pm_St SS)))
theorem pm_if_le {x : Int32} {off : Int} {tgt : Nat} (h : decode M.2.1 pc = .ok (.ifCond .le off, 3)) (ht : (pc : Int) + off = (tgt : Int)) (kt : x ≤ 0 → pm_X gs ro M d mc ms c0 s0 tgt L st n w Q) (kf : ¬ x ≤ 0 → pm_X gs ro M d mc ms c0 s0 (pc + 3) L st n w Q) : pm_X gs ro M d mc ms c0 s0 pc L (.int x :: st) n w Q := by
  intro p l e s m args below meth c H locs ls D cA ad ad0 n0 A F G LL SS
  exact lv_if_le F.1 F.2.1 h ht (fun q => kt q p l e s m args below meth c H locs ls D cA ad ad0 n0 A F G LL (pm_St SS)) (fun q => kf q p l e s m args below meth c H locs ls D cA ad ad0 n0 A F G LL (pm_St SS))
theorem pm_icmp_le {x y : Int32} {off : Int} {tgt : Nat} (h : decode M.2.1 pc = .ok (.if_icmp .le off, 3)) (ht : (pc : Int) + off = (tgt : Int)) (kt : x ≤ y → pm_X gs ro M d mc ms c0 s0 tgt L st n w Q) (kf : ¬ x ≤ y → pm_X gs ro M d mc ms c0 s0 (pc + 3) L st n w Q) : pm_X gs ro M d mc ms c0 s0 pc L (.int y :: .int x :: st) n w Q := by
  intro p l e s m args below meth c H locs ls D cA ad ad0 n0 A F G LL SS
  exact lv_icmp_le F.1 F.2.1 h ht (fun q => kt q p l e s m args below meth c H locs ls D cA ad ad0 n0 A F G LL (pm_St (pm_St SS))) (fun q => kf q p l e s m args below meth c H locs ls D cA ad ad0 n0 A F G LL (pm_St (pm_St SS)))
theorem pm_goto {off : Int} {tgt : Nat} (h : decode M.2.1 pc = .ok (.goto off, 3)) (ht : (pc : Int) + off = (tgt : Int)) (kk : pm_X gs ro M d mc ms c0 s0 tgt L st n w Q) : pm_X gs ro M d mc ms c0 s0 pc L st n w Q := by
  intro p l e s m args below meth c H locs ls D cA ad ad0 n0 A F G LL SS
  exact lv_goto F.1 F.2.1 h ht (kk p l e s m args below meth c H locs ls D cA ad ad0 n0 A F G LL SS)
theorem pm_ifnull {x : Nat} {off : Int} (h : decode M.2.1 pc = .ok (.ifnull off, 3)) (kk : pm_X gs ro M d mc ms c0 s0 (pc + 3) L st n w Q) : pm_X gs ro M d mc ms c0 s0 pc L (.ref x :: st) n w Q := by
  intro p l e s m args below meth c H locs ls D cA ad ad0 n0 A F G LL SS
  exact lv_ifnull F.1 F.2.1 h (kk p l e s m args below meth c H locs ls D cA ad ad0 n0 A F G LL (pm_St SS))
theorem pm_ifnullN {x : Nat} {off : Int} {tgt : Nat} (h : decode M.2.1 pc = .ok (.ifnull off, 3)) (ht : (pc : Int) + off = (tgt : Int)) (kk : pm_X gs ro M d mc ms c0 s0 tgt L st n w Q) : pm_X gs ro M d mc ms c0 s0 pc L (.null :: st) n w Q := by
  intro p l e s m args below meth c H locs ls D cA ad ad0 n0 A F G LL SS
  exact lv_ifnullN F.1 F.2.1 h ht (kk p l e s m args below meth c H locs ls D cA ad ad0 n0 A F G LL (pm_St SS))
theorem pm_ifnonnull {x : Nat} {off : Int} {tgt : Nat} (h : decode M.2.1 pc = .ok (.ifnonnull off, 3)) (ht : (pc : Int) + off = (tgt : Int)) (kk : pm_X gs ro M d mc ms c0 s0 tgt L st n w Q) : pm_X gs ro M d mc ms c0 s0 pc L (.ref x :: st) n w Q := by
  intro p l e s m args below meth c H locs ls D cA ad ad0 n0 A F G LL SS
  exact lv_ifnonnull F.1 F.2.1 h ht (kk p l e s m args below meth c H locs ls D cA ad ad0 n0 A F G LL (pm_St SS))
theorem pm_ifnonnullN {x : Nat} {off : Int} (h : decode M.2.1 pc = .ok (.ifnonnull off, 3)) (kk : pm_X gs ro M d mc ms c0 s0 (pc + 3) L st n w Q) : pm_X gs ro M d mc ms c0 s0 pc L (.null :: st) n w Q := by
  intro p l e s m args below meth c H locs ls D cA ad ad0 n0 A F G LL SS
  exact lv_ifnonnullN F.1 F.2.1 h (kk p l e s m args below meth c H locs ls D cA ad ad0 n0 A F G LL (pm_St SS))
theorem pm_lookup {dflt : Int} {ps : Array (Int × Int)} {len : Nat} {x : Int32} {off : Int} {tgt : Nat} (h : decode M.2.1 pc = .ok (.lookupswitch dflt ps, len)) (hp : (ps.toList.zip (ps.toList.drop 1)).all (fun (a, next) => a.1 < next.1) = true) (ho : Op.lookupswitch.offset ps.toList dflt x.toInt = off) (ht : (pc : Int) + off = (tgt : Int)) (kk : pm_X gs ro M d mc ms c0 s0 tgt L st n w Q) : pm_X gs ro M d mc ms c0 s0 pc L (.int x :: st) n w Q := by
  intro p l e s m args below meth c H locs ls D cA ad ad0 n0 A F G LL SS
  exact lv_lookup F.1 F.2.1 h hp ho ht (kk p l e s m args below meth c H locs ls D cA ad ad0 n0 A F G LL (pm_St SS))
theorem pm_tableOut {dflt lo hi : Int} {offs : Array Int} {len : Nat} {x : Int32} {tgt : Nat} (h : decode M.2.1 pc = .ok (.tableswitch dflt lo hi offs, len)) (hx : x.toInt < lo ∨ hi < x.toInt) (ht : (pc : Int) + dflt = (tgt : Int)) (kk : pm_X gs ro M d mc ms c0 s0 tgt L st n w Q) : pm_X gs ro M d mc ms c0 s0 pc L (.int x :: st) n w Q := by
  intro p l e s m args below meth c H locs ls D cA ad ad0 n0 A F G LL SS
  exact lv_tableOut F.1 F.2.1 h hx ht (kk p l e s m args below meth c H locs ls D cA ad ad0 n0 A F G LL (pm_St SS))
theorem pm_tableIn {dflt lo hi : Int} {offs : Array Int} {len : Nat} {x : Int32} {off : Int} {tgt : Nat} (h : decode M.2.1 pc = .ok (.tableswitch dflt lo hi offs, len)) (h1 : ¬ x.toInt < lo) (h2 : ¬ hi < x.toInt) (ho : offs[(x.toInt - lo).toNat]? = some off) (ht : (pc : Int) + off = (tgt : Int)) (kk : pm_X gs ro M d mc ms c0 s0 tgt L st n w Q) : pm_X gs ro M d mc ms c0 s0 pc L (.int x :: st) n w Q := by
  intro p l e s m args below meth c H locs ls D cA ad ad0 n0 A F G LL SS
  exact lv_tableIn F.1 F.2.1 h h1 h2 ho ht (kk p l e s m args below meth c H locs ls D cA ad ad0 n0 A F G LL (pm_St SS))
theorem pm_L_store {nL i n : Nat} {ls : Array Slot} {ad : Nat → Nat} {L : List (Option Value)} {v : Value} (h : pm_L nL ls ad n L) (hi : i < nL) (hc : v.category = 1) (hv : pm_ok n v) (h2 : ∀ (j : Nat) (u : Value), L[j]? = some (some u) → u.category = 1) : ∃ ls', storeLocals ls i (pm_v ad v) = some ls' ∧ pm_L nL ls' ad n (L.set i (some v)) := by
  have hh : lv_has ls nL ((List.range L.length).filterMap (fun j => match L[j]? with | some (some u) => some (j, pm_v ad u) | _ => none)) := by
    refine ⟨h.1, h.2.1, fun q hq => ?_⟩
    obtain ⟨j, -, hj⟩ := List.mem_filterMap.mp hq
    cases hL : L[j]? with
    | none => rw [hL] at hj; cases hj
    | some o =>
      cases o with
      | none => rw [hL] at hj; cases hj
      | some u => rw [hL] at hj; cases hj; exact (h.2.2 j u hL).1
  obtain ⟨ls', e', h'⟩ := lv_store1 (v := pm_v ad v) hh hi (by rw [pm_v_cat]; exact hc)
  refine ⟨ls', e', h'.1, h'.2.1, fun j u hj => ?_⟩
  by_cases q : i = j
  · subst q
    have hlt : i < L.length := by
      have := (List.getElem?_eq_some_iff.mp hj).1
      rwa [List.length_set] at this
    rw [List.getElem?_set_self hlt] at hj
    cases hj
    exact ⟨h'.2.2 _ List.mem_cons_self, hv⟩
  · rw [List.getElem?_set_ne q] at hj
    refine ⟨h'.2.2 (j, pm_v ad u) (List.mem_cons_of_mem _ (List.mem_filter.mpr ⟨List.mem_filterMap.mpr ⟨j, List.mem_range.mpr (List.getElem?_eq_some_iff.mp hj).1, by rw [hj]⟩, ?_⟩)), (h.2.2 j u hj).2⟩
    have hcu : (pm_v ad u).category = 1 := by rw [pm_v_cat]; exact h2 j u hj
    simp [hcu, Ne.symm q]
/-- no long stands among the locals -/
def pm_L1 (L : List (Option Value)) : Bool := L.all (fun o => match o with | some u => u.category == 1 | none => true)
theorem pm_L1_spec {L : List (Option Value)} (h : pm_L1 L = true) : ∀ (j : Nat) (u : Value), L[j]? = some (some u) → u.category = 1 := fun j u hj => by
  have := List.all_eq_true.mp h _ (List.mem_of_getElem? hj)
  simpa using this
theorem pm_istore {i : Nat} {x : Int32} {L' : List (Option Value)} (h : decode M.2.1 pc = .ok (.istore i, 2)) (hi : i < M.2.2.1) (h1 : pm_L1 L = true) (hL : L.set i (some (.int x)) = L') (kk : pm_X gs ro M d mc ms c0 s0 (pc + 2) L' st n w Q) : pm_X gs ro M d mc ms c0 s0 pc L (.int x :: st) n w Q := by
  intro p l e s m args below meth c H locs ls D cA ad ad0 n0 A F G LL SS
  subst hL
  obtain ⟨ls', e', h'⟩ := pm_L_store (v := .int x) LL hi rfl (pm_Sh SS) (pm_L1_spec h1)
  intro T hT X
  obtain ⟨t, a, b⟩ := kk p l e s m args below meth c H locs ls' D cA ad ad0 n0 A F G h' (pm_St SS) T hT X
  refine ⟨t, ?_, b⟩
  have e' : storeLocals ls i (.int x) = some ls' := e'
  show Steps p.tables e below (T.setTop (F0 m pc ls (.int x :: st.map (pm_v ad)))) t
  jvm_step X.here [X.here.top, ↓top_set X.here.top, F.1, F.2.1, h, e']
  exact a
theorem pm_istore_n {k : Fin 4} {x : Int32} {L' : List (Option Value)} (h : decode M.2.1 pc = .ok (.istore_n k, 1)) (hi : (k : Nat) < M.2.2.1) (h1 : pm_L1 L = true) (hL : L.set (k : Nat) (some (.int x)) = L') (kk : pm_X gs ro M d mc ms c0 s0 (pc + 1) L' st n w Q) : pm_X gs ro M d mc ms c0 s0 pc L (.int x :: st) n w Q := by
  intro p l e s m args below meth c H locs ls D cA ad ad0 n0 A F G LL SS
  subst hL
  obtain ⟨ls', e', h'⟩ := pm_L_store (v := .int x) LL hi rfl (pm_Sh SS) (pm_L1_spec h1)
  intro T hT X
  obtain ⟨t, a, b⟩ := kk p l e s m args below meth c H locs ls' D cA ad ad0 n0 A F G h' (pm_St SS) T hT X
  refine ⟨t, ?_, b⟩
  have e' : storeLocals ls (k : Nat) (.int x) = some ls' := e'
  show Steps p.tables e below (T.setTop (F0 m pc ls (.int x :: st.map (pm_v ad)))) t
  jvm_step X.here [X.here.top, ↓top_set X.here.top, F.1, F.2.1, h, e']
  exact a
theorem pm_astore {i : Nat} {x : Nat} {L' : List (Option Value)} (h : decode M.2.1 pc = .ok (.astore i, 2)) (hi : i < M.2.2.1) (h1 : pm_L1 L = true) (hL : L.set i (some (.ref x)) = L') (kk : pm_X gs ro M d mc ms c0 s0 (pc + 2) L' st n w Q) : pm_X gs ro M d mc ms c0 s0 pc L (.ref x :: st) n w Q := by
  intro p l e s m args below meth c H locs ls D cA ad ad0 n0 A F G LL SS
  subst hL
  obtain ⟨ls', e', h'⟩ := pm_L_store (v := .ref x) LL hi rfl (pm_Sh SS) (pm_L1_spec h1)
  intro T hT X
  obtain ⟨t, a, b⟩ := kk p l e s m args below meth c H locs ls' D cA ad ad0 n0 A F G h' (pm_St SS) T hT X
  refine ⟨t, ?_, b⟩
  have e' : storeLocals ls i (.ref (ad x)) = some ls' := e'
  show Steps p.tables e below (T.setTop (F0 m pc ls (.ref (ad x) :: st.map (pm_v ad)))) t
  jvm_step X.here [X.here.top, ↓top_set X.here.top, F.1, F.2.1, h, e', Value.isRef]
  exact a
theorem pm_astore_n {k : Fin 4} {x : Nat} {L' : List (Option Value)} (h : decode M.2.1 pc = .ok (.astore_n k, 1)) (hi : (k : Nat) < M.2.2.1) (h1 : pm_L1 L = true) (hL : L.set (k : Nat) (some (.ref x)) = L') (kk : pm_X gs ro M d mc ms c0 s0 (pc + 1) L' st n w Q) : pm_X gs ro M d mc ms c0 s0 pc L (.ref x :: st) n w Q := by
  intro p l e s m args below meth c H locs ls D cA ad ad0 n0 A F G LL SS
  subst hL
  obtain ⟨ls', e', h'⟩ := pm_L_store (v := .ref x) LL hi rfl (pm_Sh SS) (pm_L1_spec h1)
  intro T hT X
  obtain ⟨t, a, b⟩ := kk p l e s m args below meth c H locs ls' D cA ad ad0 n0 A F G h' (pm_St SS) T hT X
  refine ⟨t, ?_, b⟩
  have e' : storeLocals ls (k : Nat) (.ref (ad x)) = some ls' := e'
  show Steps p.tables e below (T.setTop (F0 m pc ls (.ref (ad x) :: st.map (pm_v ad)))) t
  jvm_step X.here [X.here.top, ↓top_set X.here.top, F.1, F.2.1, h, e', Value.isRef]
  exact a
theorem pm_astoreN {i : Nat} {L' : List (Option Value)} (h : decode M.2.1 pc = .ok (.astore i, 2)) (hi : i < M.2.2.1) (h1 : pm_L1 L = true) (hL : L.set i (some .null) = L') (kk : pm_X gs ro M d mc ms c0 s0 (pc + 2) L' st n w Q) : pm_X gs ro M d mc ms c0 s0 pc L (.null :: st) n w Q := by
  intro p l e s m args below meth c H locs ls D cA ad ad0 n0 A F G LL SS
  subst hL
  obtain ⟨ls', e', h'⟩ := pm_L_store (v := .null) LL hi rfl pm_okn (pm_L1_spec h1)
  intro T hT X
  obtain ⟨t, a, b⟩ := kk p l e s m args below meth c H locs ls' D cA ad ad0 n0 A F G h' (pm_St SS) T hT X
  refine ⟨t, ?_, b⟩
  have e' : storeLocals ls i .null = some ls' := e'
  show Steps p.tables e below (T.setTop (F0 m pc ls (.null :: st.map (pm_v ad)))) t
  jvm_step X.here [X.here.top, ↓top_set X.here.top, F.1, F.2.1, h, e', Value.isRef]
  exact a
theorem pm_astore_nN {k : Fin 4} {L' : List (Option Value)} (h : decode M.2.1 pc = .ok (.astore_n k, 1)) (hi : (k : Nat) < M.2.2.1) (h1 : pm_L1 L = true) (hL : L.set (k : Nat) (some .null) = L') (kk : pm_X gs ro M d mc ms c0 s0 (pc + 1) L' st n w Q) : pm_X gs ro M d mc ms c0 s0 pc L (.null :: st) n w Q := by
  intro p l e s m args below meth c H locs ls D cA ad ad0 n0 A F G LL SS
  subst hL
  obtain ⟨ls', e', h'⟩ := pm_L_store (v := .null) LL hi rfl pm_okn (pm_L1_spec h1)
  intro T hT X
  obtain ⟨t, a, b⟩ := kk p l e s m args below meth c H locs ls' D cA ad ad0 n0 A F G h' (pm_St SS) T hT X
  refine ⟨t, ?_, b⟩
  have e' : storeLocals ls (k : Nat) .null = some ls' := e'
  show Steps p.tables e below (T.setTop (F0 m pc ls (.null :: st.map (pm_v ad)))) t
  jvm_step X.here [X.here.top, ↓top_set X.here.top, F.1, F.2.1, h, e', Value.isRef]
  exact a
theorem pm_iinc {i : Nat} {k : Int} {x v : Int32} {L' : List (Option Value)} (h : decode M.2.1 pc = .ok (.iinc i k, 3)) (hx : L[i]? = some (some (.int x))) (hv : x + Int32.ofInt k = v) (hi : i < M.2.2.1) (h1 : pm_L1 L = true) (hL : L.set i (some (.int v)) = L') (kk : pm_X gs ro M d mc ms c0 s0 (pc + 3) L' st n w Q) : pm_X gs ro M d mc ms c0 s0 pc L st n w Q := by
  intro p l e s m args below meth c H locs ls D cA ad ad0 n0 A F G LL SS
  subst hL
  subst hv
  obtain ⟨ls', e', h'⟩ := pm_L_store (v := .int (x + Int32.ofInt k)) LL hi rfl pm_oki (pm_L1_spec h1)
  have hg : ls[i]? = some (.val (.int x)) := (LL.2.2 i _ hx).1
  intro T hT X
  obtain ⟨t, a, b⟩ := kk p l e s m args below meth c H locs ls' D cA ad ad0 n0 A F G h' SS T hT X
  refine ⟨t, ?_, b⟩
  have e' : storeLocals ls i (.int (x + Int32.ofInt k)) = some ls' := e'
  jvm_step X.here [X.here.top, ↓top_set X.here.top, F.1, F.2.1, h, hg, e']
  exact a
end PMR
end
section
/-- a class: its number among vwCl, its words in the tables -/
def pm_cl (ci : Nat) (C : String) (T : u_T) (N : Nat) (ty : Nat → FieldType) : Prop := vwCl[ci]? = some (C, T, N) ∧ (∀ w ∈ u_ws C T N, w ∈ lw_g) ∧ (∀ k, k < N → parseFieldDescriptor (T k).2.2.1 = some (ty k)) ∧ ∀ a, a < N → ∀ b, b < N → a ≠ b → (T a).2.1 ≠ (T b).2.1
/-- entry idx of the pool of own: slot k (of type t, final or not) of class ci -/
def pm_fl (own : String) (idx ci k : Nat) (t : FieldType) (fin : Bool) : Prop := ∃ C T N ty, pm_cl ci C T N ty ∧ k < N ∧ Cond.fieldLink own idx (T k).1 (T k).2.1 (T k).2.2.1 ∈ lw_g ∧ ty k = t ∧ (T k).2.2.2 = fin ∧ (T k).1 = C
theorem pm_hts {M : pm_M} {args : Array Value} {s : State} (h : ∀ w ∈ pm_ws M, w.before args s = true) {x : Cond} (hx : x ∈ lw_g) : x.before args s = true := h x (List.mem_cons_of_mem _ hx)
section PMH
variable {gs : List String} {ro : pm_RO} {M : pm_M} {d mc ms c0 s0 pc : Nat} {L : List (Option Value)} {st : List Value} {n : Nat} {w : Nat → va_E} {Q : Option Value → Nat → (Nat → va_E) → Prop}
theorem pm_get {idx ci k a : Nat} {t : FieldType} {fin : Bool} {fs : List Value} {v : Value} (h : decode M.2.1 pc = .ok (.getfield idx, 3)) (hf : pm_fl M.1.cls idx ci k t fin) (ha : a < n) (hw : w a = .inr (ci, fs)) (hv : fs[k]? = some v) (kk : pm_X gs ro M d mc ms c0 s0 (pc + 3) L (v :: st) n w Q) : pm_X gs ro M d mc ms c0 s0 pc L (.ref a :: st) n w Q := by
  intro p l e s m args below meth c H locs ls D cA ad ad0 n0 A F G LL SS
  obtain ⟨C, T, N, ty, ⟨hc, hin, -, -⟩, hk, hlk, -, -, -⟩ := hf
  have hts := F.2.2.2.2.2.2.2.1
  have hok : pm_ok n v := (G.2.2.2.2.2.2 a ha).2 ci fs hw v (List.mem_of_getElem? hv)
  refine va_get (D := D) (ci := ci) (fs := fs.map (pm_v ad)) (C := C) (T := T) (N := N) F.1 F.2.1 (Ts := pm_ws M) hts (fun x hx => List.mem_cons_of_mem _ (hin x hx)) F.2.2.2.2.2.2.1 F.2.2.2.2.2.2.2.2.1 G.1 a ?_ hc k hk (pm_hts hts hlk) (fun _ q => q) (v := pm_v ad v) ?_ h (kk p l e s m args below meth c H locs ls D cA ad ad0 n0 A F G LL (pm_Sc hok (pm_St SS)))
  · rw [pm_W_get ha, hw]; rfl
  · rw [List.getElem?_map, hv]; rfl
theorem pm_put {idx ci k a : Nat} {t : FieldType} {fs : List Value} {v : Value} (h : decode M.2.1 pc = .ok (.putfield idx, 3)) (hf : pm_fl M.1.cls idx ci k t false) (ha : a < n) (hw : w a = .inr (ci, fs)) (hl : k < fs.length) (hn : ∀ ad : Nat → Nat, narrow t (pm_v ad v) = pm_v ad v) (hfit : ∀ ad : Nat → Nat, fits t (pm_v ad v) = true) (kk : pm_X gs ro M d mc ms c0 s0 (pc + 3) L st n (va_up w a (.inr (ci, fs.set k v))) Q) : pm_X gs ro M d mc ms c0 s0 pc L (v :: .ref a :: st) n w Q := by
  intro p l e s m args below meth c H locs ls D cA ad ad0 n0 A F G LL SS
  obtain ⟨C, T, N, ty, ⟨hc, hin, hty, hnm⟩, hk, hlk, ht, hfin, hC⟩ := hf
  have hts := F.2.2.2.2.2.2.2.1
  have hwk := G.2.2.2.2.2.2
  have hek : pm_ek n (.inr (ci, fs.set k v)) := pm_eko fun u hu => by
    rcases List.mem_or_eq_of_mem_set hu with q | q
    · exact (hwk a ha).2 ci fs hw u q
    · rw [q]; exact pm_Sh SS
  refine va_put (D := D) (ci := ci) (fs := fs.map (pm_v ad)) (C := C) (T := T) (N := N) F.1 F.2.1 (Ts := pm_ws M) hts (fun x hx => List.mem_cons_of_mem _ (hin x hx)) ty hty hnm F.2.2.2.2.2.2.1 F.2.2.2.2.2.2.2.2.1 G.1 G.2.1 G.2.2.1 a ?_ hc k hk (pm_hts hts hlk) (fun _ q => q) hfin (ty := t) (v := pm_v ad v) (by rw [hty k hk, ht]) (hn ad) (hfit ad) (by rw [List.length_map]; exact hl) h (fun H1 locs1 hP hD hS => ?_)
  · rw [pm_W_get ha, hw]; rfl
  · have e1 : (pm_W cA ad n w).set a (ad a, .inr (ci, (fs.map (pm_v ad)).set k (pm_v ad v))) = pm_W cA ad n (va_up w a (.inr (ci, fs.set k v))) := by
      rw [← pm_W_set]
      show _ = (pm_W cA ad n w).set a (ad a, .inr (ci, (fs.set k v).map (pm_v ad)))
      rw [List.map_set]
    rw [e1] at hP hD
    exact kk p l e s m args below meth c H1 locs1 ls D cA ad ad0 n0 A F ⟨hP, hD, hS, G.2.2.2.1, G.2.2.2.2.1, G.2.2.2.2.2.1, pm_wku hwk hek⟩ LL (pm_St (pm_St SS))
theorem pm_putF {idx ci k a : Nat} {t : FieldType} {fs : List Value} {v : Value} (h : decode M.2.1 pc = .ok (.putfield idx, 3)) (hf : pm_fl M.1.cls idx ci k t true) (ha : a < n) (hw : w a = .inr (ci, fs)) (hl : k < fs.length) (hi : M.1.name = "<init>") (hown : ∀ r, vwCl[ci]? = some r → r.1 = M.1.cls) (hn : ∀ ad : Nat → Nat, narrow t (pm_v ad v) = pm_v ad v) (hfit : ∀ ad : Nat → Nat, fits t (pm_v ad v) = true) (kk : pm_X gs ro M d mc ms c0 s0 (pc + 3) L st n (va_up w a (.inr (ci, fs.set k v))) Q) : pm_X gs ro M d mc ms c0 s0 pc L (v :: .ref a :: st) n w Q := by
  intro p l e s m args below meth c H locs ls D cA ad ad0 n0 A F G LL SS
  obtain ⟨C, T, N, ty, ⟨hc, hin, hty, hnm⟩, hk, hlk, ht, hfin, hC⟩ := hf
  have hts := F.2.2.2.2.2.2.2.1
  have hwk := G.2.2.2.2.2.2
  have hek : pm_ek n (.inr (ci, fs.set k v)) := pm_eko fun u hu => by
    rcases List.mem_or_eq_of_mem_set hu with q | q
    · exact (hwk a ha).2 ci fs hw u q
    · rw [q]; exact pm_Sh SS
  refine va_putF (D := D) (ci := ci) (fs := fs.map (pm_v ad)) (C := C) (T := T) (N := N) F.1 F.2.1 (Ts := pm_ws M) hts (fun x hx => List.mem_cons_of_mem _ (hin x hx)) ty hty hnm F.2.2.2.2.2.2.1 F.2.2.2.2.2.2.2.2.1 G.1 G.2.1 G.2.2.1 a ?_ hc k hk (pm_hts hts hlk) (fun _ q => q) hfin (F.2.2.2.2.2.1.trans hi) (hC.trans (hown _ hc)) (ty := t) (v := pm_v ad v) (by rw [hty k hk, ht]) (hn ad) (hfit ad) (by rw [List.length_map]; exact hl) h (fun H1 locs1 hP hD hS => ?_)
  · rw [pm_W_get ha, hw]; rfl
  · have e1 : (pm_W cA ad n w).set a (ad a, .inr (ci, (fs.map (pm_v ad)).set k (pm_v ad v))) = pm_W cA ad n (va_up w a (.inr (ci, fs.set k v))) := by
      rw [← pm_W_set]
      show _ = (pm_W cA ad n w).set a (ad a, .inr (ci, (fs.set k v).map (pm_v ad)))
      rw [List.map_set]
    rw [e1] at hP hD
    exact kk p l e s m args below meth c H1 locs1 ls D cA ad ad0 n0 A F ⟨hP, hD, hS, G.2.2.2.1, G.2.2.2.2.1, G.2.2.2.2.2.1, pm_wku hwk hek⟩ LL (pm_St (pm_St SS))
theorem pm_iald {a N : Nat} {f : Nat → Int32} {i : Int32} (h : decode M.2.1 pc = .ok (.iaload, 1)) (ha : a < n) (hw : w a = .inl (0, N, .inl f)) (hi : vp_in i N) (kk : pm_X gs ro M d mc ms c0 s0 (pc + 1) L (.int (f i.toNatClampNeg) :: st) n w Q) : pm_X gs ro M d mc ms c0 s0 pc L (.int i :: .ref a :: st) n w Q := by
  intro p l e s m args below meth c H locs ls D cA ad ad0 n0 A F G LL SS
  refine va_iald (D := D) F.1 F.2.1 F.2.2.2.2.2.2.2.2.1 G.1 a 0 (cA := cA 0) (n := N) (f := f) ?_ rfl hi h (kk p l e s m args below meth c H locs ls D cA ad ad0 n0 A F G LL (pm_Si (pm_St (pm_St SS))))
  rw [pm_W_get ha, hw]; rfl
theorem pm_zald {a N : Nat} {f : Nat → Int32} {i : Int32} (h : decode M.2.1 pc = .ok (.baload, 1)) (ha : a < n) (hw : w a = .inl (1, N, .inl f)) (hi : vp_in i N) (kk : pm_X gs ro M d mc ms c0 s0 (pc + 1) L (.int (f i.toNatClampNeg) :: st) n w Q) : pm_X gs ro M d mc ms c0 s0 pc L (.int i :: .ref a :: st) n w Q := by
  intro p l e s m args below meth c H locs ls D cA ad ad0 n0 A F G LL SS
  refine va_zald (D := D) F.1 F.2.1 F.2.2.2.2.2.2.2.2.1 G.1 a 1 (cA := cA 1) (n := N) (f := f) ?_ rfl hi h (kk p l e s m args below meth c H locs ls D cA ad ad0 n0 A F G LL (pm_Si (pm_St (pm_St SS))))
  rw [pm_W_get ha, hw]; rfl
theorem pm_iast {a N : Nat} {f : Nat → Int32} {i x : Int32} (h : decode M.2.1 pc = .ok (.iastore, 1)) (ha : a < n) (hw : w a = .inl (0, N, .inl f)) (hi : vp_in i N) (kk : pm_X gs ro M d mc ms c0 s0 (pc + 1) L st n (va_up w a (.inl (0, N, .inl (upd f i.toNatClampNeg x)))) Q) : pm_X gs ro M d mc ms c0 s0 pc L (.int x :: .int i :: .ref a :: st) n w Q := by
  intro p l e s m args below meth c H locs ls D cA ad ad0 n0 A F G LL SS
  refine va_iast (D := D) F.1 F.2.1 F.2.2.2.2.2.2.2.2.1 G.1 G.2.1 G.2.2.1 a 0 (cA := cA 0) (n := N) (f := f) ?_ rfl hi h (fun H1 locs1 hP hD hS => ?_)
  · rw [pm_W_get ha, hw]; rfl
  · have e1 := pm_W_set (cA := cA) (ad := ad) (n := n) (k := a) (w := w) (.inl (0, N, .inl (upd f i.toNatClampNeg x)))
    have hP : va_P D vwCl (pm_W cA ad n (va_up w a (.inl (0, N, .inl (upd f i.toNatClampNeg x))))) H1 := e1 ▸ hP
    have hD : va_D A (pm_W cA ad n (va_up w a (.inl (0, N, .inl (upd f i.toNatClampNeg x))))) := e1 ▸ hD
    exact kk p l e s m args below meth c H1 locs1 ls D cA ad ad0 n0 A F ⟨hP, hD, hS, G.2.2.2.1, G.2.2.2.2.1, G.2.2.2.2.2.1, pm_wku G.2.2.2.2.2.2 pm_eki⟩ LL (pm_St (pm_St (pm_St SS)))
theorem pm_zast {a N : Nat} {f : Nat → Int32} {i x : Int32} (h : decode M.2.1 pc = .ok (.bastore, 1)) (ha : a < n) (hw : w a = .inl (1, N, .inl f)) (hi : vp_in i N) (kk : pm_X gs ro M d mc ms c0 s0 (pc + 1) L st n (va_up w a (.inl (1, N, .inl (upd f i.toNatClampNeg (vp_nar .boolean x))))) Q) : pm_X gs ro M d mc ms c0 s0 pc L (.int x :: .int i :: .ref a :: st) n w Q := by
  intro p l e s m args below meth c H locs ls D cA ad ad0 n0 A F G LL SS
  refine va_zast (D := D) F.1 F.2.1 F.2.2.2.2.2.2.2.2.1 G.1 G.2.1 G.2.2.1 a 1 (cA := cA 1) (n := N) (f := f) ?_ rfl hi h (fun H1 locs1 hP hD hS => ?_)
  · rw [pm_W_get ha, hw]; rfl
  · have e1 := pm_W_set (cA := cA) (ad := ad) (n := n) (k := a) (w := w) (.inl (1, N, .inl (upd f i.toNatClampNeg (vp_nar .boolean x))))
    have hP : va_P D vwCl (pm_W cA ad n (va_up w a (.inl (1, N, .inl (upd f i.toNatClampNeg (vp_nar .boolean x)))))) H1 := e1 ▸ hP
    have hD : va_D A (pm_W cA ad n (va_up w a (.inl (1, N, .inl (upd f i.toNatClampNeg (vp_nar .boolean x)))))) := e1 ▸ hD
    exact kk p l e s m args below meth c H1 locs1 ls D cA ad ad0 n0 A F ⟨hP, hD, hS, G.2.2.2.1, G.2.2.2.2.1, G.2.2.2.2.2.1, pm_wku G.2.2.2.2.2.2 pm_eki⟩ LL (pm_St (pm_St (pm_St SS)))
theorem pm_alen {a t N : Nat} {x : pm_A} {v : Int32} (h : decode M.2.1 pc = .ok (.arraylength, 1)) (ha : a < n) (hw : w a = .inl (t, N, x)) (ht : t < 4) (hv : Int32.ofNat N = v) (kk : pm_X gs ro M d mc ms c0 s0 (pc + 1) L (.int v :: st) n w Q) : pm_X gs ro M d mc ms c0 s0 pc L (.ref a :: st) n w Q := by
  intro p l e s m args below meth c H locs ls D cA ad ad0 n0 A F G LL SS
  obtain ⟨ty, hty⟩ : ∃ ty, (pm_tys cA)[t]? = some (cA t, ty) := by
    match t, ht with
    | 0, _ => exact ⟨_, rfl⟩
    | 1, _ => exact ⟨_, rfl⟩
    | 2, _ => exact ⟨_, rfl⟩
    | 3, _ => exact ⟨_, rfl⟩
  refine va_alen (D := D) F.1 F.2.1 F.2.2.2.2.2.2.2.2.1 G.1 a t (cA := cA t) (x := (N, pm_x ad x)) ?_ hty hv h (kk p l e s m args below meth c H locs ls D cA ad ad0 n0 A F G LL (pm_Si (pm_St SS)))
  rw [pm_W_get ha, hw]; rfl
/-- a read-only array -/
theorem pm_tld {a N : Nat} {f : Nat → Int32} {i : Int32} (h : decode M.2.1 pc = .ok (.iaload, 1)) (hr : ro a = some (N, f)) (hi : vp_in i N) (kk : pm_X gs ro M d mc ms c0 s0 (pc + 1) L (.int (f i.toNatClampNeg) :: st) n w Q) : pm_X gs ro M d mc ms c0 s0 pc L (.int i :: .ref a :: st) n w Q := by
  intro p l e s m args below meth c H locs ls D cA ad ad0 n0 A F G LL SS
  obtain ⟨h1, h2⟩ := F.2.2.2.2.2.2.2.2.2.2.1 a N f hr
  rw [← G.2.2.2.2.2.1 a (Or.inr h1)] at h2
  exact va_ti F.1 F.2.1 h2 G.2.2.1 hi rfl h (kk p l e s m args below meth c H locs ls D cA ad ad0 n0 A F G LL (pm_Si (pm_St (pm_St SS))))
theorem pm_tlen {a N : Nat} {f : Nat → Int32} {v : Int32} (h : decode M.2.1 pc = .ok (.arraylength, 1)) (hr : ro a = some (N, f)) (hv : Int32.ofNat N = v) (kk : pm_X gs ro M d mc ms c0 s0 (pc + 1) L (.int v :: st) n w Q) : pm_X gs ro M d mc ms c0 s0 pc L (.ref a :: st) n w Q := by
  intro p l e s m args below meth c H locs ls D cA ad ad0 n0 A F G LL SS
  obtain ⟨h1, h2⟩ := F.2.2.2.2.2.2.2.2.2.2.1 a N f hr
  rw [← G.2.2.2.2.2.1 a (Or.inr h1)] at h2
  exact va_tlen F.1 F.2.1 h2 G.2.2.1 hv h (kk p l e s m args below meth c H locs ls D cA ad ad0 n0 A F G LL (pm_Si (pm_St SS)))
theorem pm_gets {idx j : Nat} {nm : String} (h : decode M.2.1 pc = .ok (.getstatic idx, 3)) (hj : gs[j]? = some nm) (hl : Cond.fieldLink M.1.cls idx "RunsBack" nm "[I" ∈ lw_g) (kk : pm_X gs ro M d mc ms c0 s0 (pc + 3) L (.ref (1000000 + j) :: st) n w Q) : pm_X gs ro M d mc ms c0 s0 pc L st n w Q := by
  intro p l e s m args below meth c H locs ls D cA ad ad0 n0 A F G LL SS
  have hz := F.2.2.2.2.2.2.2.2.2.2.2.1 j nm hj
  rw [← G.2.2.2.2.2.1 (1000000 + j) (Or.inr (Nat.le_add_right _ _))] at hz
  exact va_gets F.1 F.2.1 hz G.2.2.1 F.2.2.2.2.2.2.1 (pm_hts F.2.2.2.2.2.2.2.1 hl) (fun _ q => q) h (kk p l e s m args below meth c H locs ls D cA ad ad0 n0 A F G LL (pm_Sc (fun k q => by cases q; exact Or.inr (Nat.le_add_right _ _)) SS))
/-! returns -/
theorem pm_ret0 {r : Option Value} {s : State} {D : va_G} {cA : Nat → ClassId} {ad ad0 : Nat → Nat} {n0 : Nat} {A : Nat → Prop} {H : Heap} {locs : List Loc} {args : Array Value} (hK : va_K D vwCl (pm_tys cA) s) (G : pm_G s D cA ad0 n0 A H locs ad n w) (hr : ∀ v, r = some v → pm_ok n v) (hq : Q r n w) : ∀ t : State, t.heap = H → s.WarmedH t.vm → pm_Q D cA ad0 n0 A Q args s (.returned (r.map (pm_v ad))) t := fun t ht hW =>
  ⟨⟨r, n, w, ad, rfl, hq, G.2.2.2.1, G.2.2.2.2.1, G.2.2.2.2.2.1, G.2.2.2.2.2.2, hr, by rw [ht]; exact G.1, va_K.moved hW.alike hK, G.2.1⟩, G.2.2.1.F ht⟩
theorem pm_iret {v : Int32} (h : decode M.2.1 pc = .ok (.ireturn, 1)) (hr : M.2.2.2 = some .int) (hc : c0 ≤ mc) (hs : s0 ≤ ms) (hq : Q (some (.int v)) n w) : pm_X gs ro M d mc ms c0 s0 pc L [.int v] n w Q := by
  intro p l e s m args below meth c H locs ls D cA ad ad0 n0 A F G LL SS
  refine W.widen hc hs ?_
  exact W.iret (v := v) F.1 F.2.1 (F.2.2.2.1.trans hr) (pm_ret0 (r := some (.int v)) F.2.2.2.2.2.2.2.2.1 G (fun u q => by cases q; exact pm_oki) hq) G.2.2.1.2.2 h F.2.2.2.2.1
theorem pm_zret {v : Int32} (h : decode M.2.1 pc = .ok (.ireturn, 1)) (hr : M.2.2.2 = some .boolean) (hv : v = 0 ∨ v = 1) (hc : c0 ≤ mc) (hs : s0 ≤ ms) (hq : Q (some (.int v)) n w) : pm_X gs ro M d mc ms c0 s0 pc L [.int v] n w Q := by
  intro p l e s m args below meth c H locs ls D cA ad ad0 n0 A F G LL SS
  refine W.widen hc hs ?_
  exact W.zret (v := v) (ty := .boolean) F.1 F.2.1 (F.2.2.2.1.trans hr) (by rcases hv with rfl | rfl <;> decide +kernel) (pm_ret0 (r := some (.int v)) F.2.2.2.2.2.2.2.2.1 G (fun u q => by cases q; exact pm_oki) hq) G.2.2.1.2.2 h F.2.2.2.2.1
theorem pm_vret (h : decode M.2.1 pc = .ok (.return_, 1)) (hr : M.2.2.2 = none) (hc : c0 ≤ mc) (hs : s0 ≤ ms) (hq : Q none n w) : pm_X gs ro M d mc ms c0 s0 pc L [] n w Q := by
  intro p l e s m args below meth c H locs ls D cA ad ad0 n0 A F G LL SS
  refine W.widen hc hs ?_
  exact W.vret F.1 F.2.1 (F.2.2.2.1.trans hr) (pm_ret0 (r := none) F.2.2.2.2.2.2.2.2.1 G (fun u q => by cases q) hq) G.2.2.1.2.2 h F.2.2.2.2.1
theorem pm_aret {v : Value} {rt : FieldType} (h : decode M.2.1 pc = .ok (.areturn, 1)) (hr : M.2.2.2 = some rt) (hrt : (∃ n, rt = .object n) ∨ ∃ t, rt = .array t) (hv : v = .null ∨ ∃ a, v = .ref a) (hc : c0 ≤ mc) (hs : s0 ≤ ms) (hq : Q (some v) n w) : pm_X gs ro M d mc ms c0 s0 pc L [v] n w Q := by
  intro p l e s m args below meth c H locs ls D cA ad ad0 n0 A F G LL SS
  refine W.widen hc hs ?_
  exact W.aret (v := pm_v ad v) F.1 F.2.1 (F.2.2.2.1.trans hr) hrt (by rcases hv with rfl | ⟨a, rfl⟩; exact Or.inl rfl; exact Or.inr ⟨_, rfl⟩) (pm_ret0 (r := some v) F.2.2.2.2.2.2.2.2.1 G (fun u q => by cases q; exact pm_Sh SS) hq) G.2.2.1.2.2 h F.2.2.2.2.1
end PMH
end
section
theorem pm_good {M : pm_M} {x : Cond} (hx : x ∈ lw_g) : x ∈ pm_ws M ∧ ((x.onTables && x.keeps) = true ∨ ∃ ty, x = .arrayClass ty) := ⟨List.mem_cons_of_mem _ hx, good_of_word (List.mem_filter.mp hx).2⟩
theorem pm_N_warm {s U : State} (hW : s.WarmedH U.vm) (h : pm_N s) : pm_N U := ⟨fun own idx y host hm => (h.1 own idx y host hm).warmM hW, fun C hC => (h.2 C hC).moved hW.alike⟩
theorem pm_N_same {u U : State} (hvm : u.vm = U.vm) (h : pm_N u) : pm_N U := ⟨fun own idx y host hm => (h.1 own idx y host hm).same rfl hvm, fun C hC => (h.2 C hC).moved (by rw [hvm]; exact Vm.Alike.refl _)⟩
/-- a method's word stands in the tables -/
def pm_in (M : pm_M) : Prop := Cond.code M.1 M.2.1 M.2.2.1 M.2.2.2 ∈ lw_g ∧ plainName M.1.cls = true ∧ M.2.2.1 ≤ 21 ∧ M.1.cls ≠ "java/lang/invoke/MethodHandle" ∧ M.1.cls ≠ "java/lang/invoke/VarHandle" ∧ Cond.initialized M.1.cls ∈ lw_g
theorem pm_goodIn {M M' : pm_M} (h : pm_in M') : GoodIn (pm_ws M) (pm_ws M') := fun x hx => by
  rcases List.mem_cons.mp hx with q | q
  · rw [q]; exact pm_good h.1
  · exact pm_good q
/-- A METHOD'S CONTRACT: called with these arguments in this world it returns, and Q holds of its answer and of the world then -/
def pm_Met (gs : List String) (ro : pm_RO) (M : pm_M) (d mc ms : Nat) (av : List Value) (n : Nat) (w : Nat → va_E) (Q : Option Value → Nat → (Nat → va_E) → Prop) : Prop :=
  ∀ (l : Launch) (D : va_G) (cA : Nat → ClassId) (ad : Nat → Nat) (sz : Nat), n < 1000000 → pm_wk n w → pm_S n av →
    Met l M.1 (pm_ws M) (pm_rm d mc ms) (va_Pc (av.map (pm_v ad)) (fun U => U.heap.size = sz ∧ va_P D vwCl (pm_W cA ad n w) U.heap ∧ va_K D vwCl (pm_tys cA) U ∧ va_D (fun _ => True) (pm_W cA ad n w) ∧ pm_R ro ad (va_A (pm_W cA ad n w) sz) U ∧ pm_Z gs ad (va_A (pm_W cA ad n w) sz) U ∧ pm_N U)) (pm_Q D cA ad n (va_A (pm_W cA ad n w) sz) Q) mc ms (va_A (pm_W cA ad n w) sz)
theorem pm_args {ad : Nat → Nat} : ∀ (av : List Value) (i j : Nat) (v : Value), (∀ u ∈ av, u.category = 1) → av[j]? = some v → (i + j, pm_v ad v) ∈ lv_args i (av.map (pm_v ad))
  | [], i, j, v, _, h => by simp at h
  | u :: av, i, 0, v, hc, h => by
    simp at h
    subst h
    exact List.mem_cons_self
  | u :: av, i, j + 1, v, hc, h => by
    show _ ∈ (i, pm_v ad u) :: lv_args (if (pm_v ad u).category = 2 then i + 2 else i + 1) (av.map (pm_v ad))
    rw [if_neg (by rw [pm_v_cat, hc u List.mem_cons_self]; decide)]
    have := pm_args (ad := ad) av (i + 1) j v (fun q hq => hc q (List.mem_cons_of_mem _ hq)) (by simpa using h)
    rw [show i + (j + 1) = i + 1 + j by omega]
    exact List.mem_cons_of_mem _ this
theorem pm_slen {ad : Nat → Nat} : ∀ (av : List Value), (∀ u ∈ av, u.category = 1) → (lg_sl (av.map (pm_v ad))).length = av.length
  | [], _ => rfl
  | u :: av, hc => by
    have ih := pm_slen (ad := ad) av (fun q hq => hc q (List.mem_cons_of_mem _ hq))
    show ((if (pm_v ad u).category = 2 then [Slot.val (pm_v ad u), Slot.second] else [Slot.val (pm_v ad u)]) ++ lg_sl (av.map (pm_v ad))).length = av.length + 1
    rw [if_neg (by rw [pm_v_cat, hc u List.mem_cons_self]; decide), List.length_append, ih]
    simp
    omega
/-- the locals at a method's entry -/
abbrev pm_L0 (M : pm_M) (av : List Value) : List (Option Value) := av.map some ++ List.replicate (M.2.2.1 - av.length) none
theorem pm_ofX {gs : List String} {ro : pm_RO} {M : pm_M} {d mc ms : Nat} {av : List Value} {n : Nat} {w : Nat → va_E} {Q : Option Value → Nat → (Nat → va_E) → Prop} (hM : pm_in M) (hlen : av.length ≤ M.2.2.1) (hcat : av.all (fun v => v.category == 1) = true) {L : List (Option Value)} (hL : pm_L0 M av = L) (hx : pm_X gs ro M d mc ms 0 0 0 L [] n w Q) : pm_Met gs ro M d mc ms av n w Q := by
  subst hL
  have hcat : ∀ u ∈ av, u.category = 1 := fun u hu => by have := List.all_eq_true.mp hcat u hu; simpa using this
  intro l D cA ad sz hn hwk hav
  refine Met.ofW (cc := M.2.1) (maxL := M.2.2.1) (ret := M.2.2.2) hM.2.1 rfl ?_
  intro p e s m args below meth c s₁ B hml hv
  obtain ⟨rfl, hsz, hP, hK, hD0, hR, hZ, hN⟩ := hv
  subst hsz
  have hts := atoms_spec (ws := pm_ws M) B.pre
  have hown : s.vm.findClass M.1.cls = some m.cls := findClass_of_methodNamed B.named
  have hnm := (name_of_methodNamed B.named B.method).1
  have hD := hD0.self (sz := s.heap.size)
  rw [lg_entry_eq]
  have hl := lv_entry (av.map (pm_v ad)) (n := M.2.2.1) (by rw [pm_slen av hcat]; exact hlen)
  refine hx p l e s m _ below meth c s.heap [] _ D cA ad ad n (va_A (pm_W cA ad n w) s.heap.size) ⟨B.exec, B.bytes, hml, B.returns, B.notSynchronized, hnm, hown, hts, hK, fun q h => Or.inr h, hR, hZ, hN⟩ ⟨hP, hD, va_S.rf, Nat.le_refl _, hn, fun _ _ => rfl, hwk⟩ ⟨hl.1, hl.2.1, fun i v hi => ?_⟩ pm_S0
  have hi2 : av[i]? = some v := by
    by_cases q : i < av.length
    · rw [List.getElem?_append_left (by rw [List.length_map]; exact q), List.getElem?_map] at hi
      cases hq : av[i]? with
      | none => rw [hq] at hi; cases hi
      | some u => rw [hq] at hi; cases hi; rfl
    · rw [List.getElem?_append_right (by rw [List.length_map]; omega)] at hi
      have := List.mem_of_getElem? hi
      rw [List.mem_replicate] at this
      cases this.2
  refine ⟨?_, hav v (List.mem_of_getElem? hi2)⟩
  have := pm_args (ad := ad) av 0 i v hcat hi2
  rw [Nat.zero_add] at this
  exact hl.2.2 _ this
theorem pm_R_go {ro roc : pm_RO} {ad ad0 : Nat → Nat} {A B : Nat → Prop} {s U : State} {H : Heap} {n0 : Nat} (hro : ∀ k v, roc k = some v → ro k = some v) (h : pm_R ro ad0 A s) (hU : U.heap = H) (hvm : s.vm.Alike U.vm) (hS : ∀ q : Nat, q < s.heap.size → ¬ A q → H[q]? = s.heap[q]?) (hB : ∀ q, B q → A q) (hag : pm_ag n0 ad0 ad) : pm_R roc ad B U := fun k N f hk => by
  obtain ⟨h1, h2⟩ := h k N f (hro k _ hk)
  refine ⟨h1, ?_⟩
  rw [hag k (Or.inr h1), hU]
  exact ((h2.moved hvm).kept hS).narrow hB
theorem pm_Z_go {gs : List String} {ad ad0 : Nat → Nat} {A B : Nat → Prop} {s U : State} {H : Heap} {n0 : Nat} (h : pm_Z gs ad0 A s) (hU : U.heap = H) (hvm : s.vm.Alike U.vm) (hS : ∀ q : Nat, q < s.heap.size → ¬ A q → H[q]? = s.heap[q]?) (hB : ∀ q, B q → A q) (hag : pm_ag n0 ad0 ad) : pm_Z gs ad B U := fun j nm hj => by
  rw [hag (1000000 + j) (Or.inr (Nat.le_add_right _ _)), hU]
  exact (((h j nm hj).moved hvm).kept hS).narrow hB
theorem pm_ag_tr {n0 n : Nat} {a b c : Nat → Nat} (hn : n0 ≤ n) (h : pm_ag n0 a b) (h2 : pm_ag n b c) : pm_ag n0 a c := fun k hk => (h2 k (hk.imp (fun q => Nat.lt_of_lt_of_le q hn) id)).trans (h k hk)
theorem pm_L_ag {nL n n' : Nat} {ls : Array Slot} {ad ad' : Nat → Nat} {L : List (Option Value)} (h : pm_L nL ls ad n L) (hn : n ≤ n') (hag : pm_ag n ad ad') : pm_L nL ls ad' n' L := ⟨h.1, h.2.1, fun i v hi => by
  obtain ⟨h1, h2⟩ := h.2.2 i v hi
  exact ⟨by rw [pm_v_ag hag h2]; exact h1, pm_okm hn h2⟩⟩
theorem pm_A_in {A : Nat → Prop} {cA : Nat → ClassId} {ad : Nat → Nat} {n : Nat} {w : Nat → va_E} {H0 H : Heap} {locs : List Loc} (hD : va_D A (pm_W cA ad n w)) (hS : va_S A H0 H locs) (hA : ∀ q, H0.size ≤ q → A q) : ∀ q, va_A (pm_W cA ad n w) H.size q → A q := fun q h => by
  rcases h with ⟨k, e, hk⟩ | h
  · exact hD.2 k _ hk
  · exact hA q (Nat.le_trans hS.1 h)
section PMC
variable {gs : List String} {ro roc : pm_RO} {M Mc : pm_M} {d dc mc ms c0 s0 mcc msc pc : Nat} {L : List (Option Value)} {st As : List Value} {n : Nat} {w : Nat → va_E} {Q Qc : Option Value → Nat → (Nat → va_E) → Prop}
/-- behind a call -/
theorem pm_behind {p : Program} {l : Launch} {e : Env} {s : State} {m : MethodId} {args : Array Value} {below : List Frame} {meth : Method} {c : Code} {H : Heap} {locs : List Loc} {ls : Array Slot} {D : va_G} {cA : Nat → ClassId} {ad ad0 : Nat → Nat} {n0 : Nat} {A : Nat → Prop} {st0 : List Value} {a : Array Value}
    (F : pm_F gs ro M p s m args meth c D cA ad0 A) (G : pm_G s D cA ad0 n0 A H locs ad n w) (LL : pm_L M.2.2.1 ls ad n L) (SS : pm_S n st)
    (hr : va_Run p l e (pm_rm d mc ms) s m args below meth c H locs c0 s0 mcc msc (F0 m pc ls st0) (st.map (pm_v ad)) (pm_Q D cA ad n (va_A (pm_W cA ad n w) H.size) Qc a) (va_A (pm_W cA ad n w) H.size))
    (kk : ∀ r n' w', Qc r n' w' → n ≤ n' → pm_X gs ro M d mc ms (c0 + mcc) (s0 + msc) (pc + 3) L (r.toList ++ st) n' w' Q) :
    W p l e (pm_rm d mc ms) s m args below meth c H locs c0 s0 (MQ below (pm_Q D cA ad0 n0 A Q) args s mc ms A) (F0 m pc ls st0) := by
  have hAin := pm_A_in G.2.1 G.2.2.1 F.2.2.2.2.2.2.2.2.2.1
  intro T hT X
  obtain ⟨v, st₀, t, T', Lc, h0, X', hLc, e1, e2, ⟨⟨r, n', w', ad', hv, hq, hn, hn6, hag, hwk, hok, hP, hK, hD⟩, hz, hk⟩, stp⟩ := hr T hT X
  cases hv
  rw [h0] at hz hk
  have hS' : va_S A s.heap T'.heap (locs ++ Lc) := by
    refine ⟨Nat.le_trans G.2.2.1.1 (by rw [e1]; exact hz), fun q h1 h2 => ?_, fun q hq => ?_⟩
    · rw [e1, hk q (Nat.lt_of_lt_of_le h1 G.2.2.1.1) (fun z => h2 (hAin q z))]
      exact G.2.2.1.2.1 q h1 h2
    · rcases List.mem_append.mp hq with h | h
      · exact G.2.2.1.2.2 q h
      · exact hAin _ (hLc q h)
  have hD' : va_D A (pm_W cA ad' n' w') := ⟨hD.1, fun k q h => hAin _ (hD.2 k q h)⟩
  have hstk : (Option.map (pm_v ad') r).toList ++ st.map (pm_v ad) = (r.toList ++ st).map (pm_v ad') := by
    rw [List.map_append, pm_vs_ag hag SS]
    cases r <;> rfl
  have SS' : pm_S n' (r.toList ++ st) := fun u hu => by
    rcases List.mem_append.mp hu with h | h
    · cases r with
      | none => cases h
      | some v => rw [List.mem_singleton.mp h]; exact hok v rfl
    · exact pm_okm hn (SS u h)
  have K := kk r n' w' hq hn p l e s m args below meth c T'.heap (locs ++ Lc) ls D cA ad' ad0 n0 A F ⟨by rw [e1]; exact hP, hD', hS', Nat.le_trans G.2.2.2.1 hn, hn6, pm_ag_tr G.2.2.2.1 G.2.2.2.2.2.1 hag, hwk⟩ (pm_L_ag LL hn hag) SS'
  rw [← hstk] at K
  obtain ⟨t2, a1, b1⟩ := K T' rfl X'
  exact ⟨t2, stp t2 a1, b1⟩
theorem pm_pre {s U : State} {args : Array Value} {m : MethodId} {p : Program} {meth : Method} {c : Code} {H : Heap} {locs : List Loc} {D : va_G} {cA : Nat → ClassId} {ad ad0 : Nat → Nat} {n0 : Nat} {A : Nat → Prop} (hro : ∀ k v, roc k = some v → ro k = some v)
    (F : pm_F gs ro M p s m args meth c D cA ad0 A) (G : pm_G s D cA ad0 n0 A H locs ad n w) (hU : U.heap = H) (hWm : s.WarmedH U.vm) : U.heap.size = H.size ∧ va_P D vwCl (pm_W cA ad n w) U.heap ∧ va_K D vwCl (pm_tys cA) U ∧ va_D (fun _ => True) (pm_W cA ad n w) ∧ pm_R roc ad (va_A (pm_W cA ad n w) H.size) U ∧ pm_Z gs ad (va_A (pm_W cA ad n w) H.size) U ∧ pm_N U := by
  have hW := hWm.alike
  have hAin := pm_A_in G.2.1 G.2.2.1 F.2.2.2.2.2.2.2.2.2.1
  exact ⟨by rw [hU], by rw [hU]; exact G.1, va_K.moved hW F.2.2.2.2.2.2.2.2.1, ⟨G.2.1.1, fun _ _ _ => trivial⟩, pm_R_go hro F.2.2.2.2.2.2.2.2.2.2.1 hU hW G.2.2.1.2.1 hAin G.2.2.2.2.2.1, pm_Z_go F.2.2.2.2.2.2.2.2.2.2.2.1 hU hW G.2.2.1.2.1 hAin G.2.2.2.2.2.1, pm_N_warm hWm F.2.2.2.2.2.2.2.2.2.2.2.2⟩
theorem pm_blind {roc : pm_RO} {av : List Value} {D : va_G} {cA : Nat → ClassId} {ad : Nat → Nat} {n sz : Nat} {w : Nat → va_E} : FrameBlind (va_Pc (av.map (pm_v ad)) (fun U => U.heap.size = sz ∧ va_P D vwCl (pm_W cA ad n w) U.heap ∧ va_K D vwCl (pm_tys cA) U ∧ va_D (fun _ => True) (pm_W cA ad n w) ∧ pm_R roc ad (va_A (pm_W cA ad n w) sz) U ∧ pm_Z gs ad (va_A (pm_W cA ad n w) sz) U ∧ pm_N U)) := fun a U g mk q => by
  obtain ⟨q0, q1, qP, qK, qD, qR, qZ, qN⟩ := q
  exact ⟨q0, q1, qP, va_K.moved (u := U) (U := U.calling g mk a) (Vm.Alike.refl U.vm) qK, qD, fun k N f hk => ⟨(qR k N f hk).1, (qR k N f hk).2.moved (u := U) (U := U.calling g mk a) (Vm.Alike.refl U.vm)⟩, fun j nm hj => (qZ j nm hj).moved (u := U) (U := U.calling g mk a) (Vm.Alike.refl U.vm), pm_N_same (u := U) (U := U.calling g mk a) rfl qN⟩
/-- the words of a call -/
def pm_lV (own : String) (idx : Nat) (Mc : pm_M) (k : Nat) : Prop := pm_in Mc ∧ Cond.methodLink own idx Mc.1 ∈ lw_g ∧ Cond.instanceMethod Mc.1 ∈ lw_g ∧ Cond.selects Mc.1.cls Mc.1 Mc.1 ∈ lw_g ∧ (parseMethodDescriptor Mc.1.desc).map (fun d => d.parameters.length) = some k
def pm_lS (own : String) (idx : Nat) (Mc : pm_M) (k : Nat) : Prop := pm_in Mc ∧ Cond.methodLink own idx Mc.1 ∈ lw_g ∧ Cond.static Mc.1 ∈ lw_g ∧ (parseMethodDescriptor Mc.1.desc).map (fun d => d.parameters.length) = some k
def pm_lI (own : String) (idx : Nat) (Mc : pm_M) (k : Nat) : Prop := pm_in Mc ∧ Cond.methodLink own idx Mc.1 ∈ lw_g ∧ Cond.instanceMethod Mc.1 ∈ lw_g ∧ Mc.1.name = "<init>" ∧ Mc.2.2.2 = none ∧ (parseMethodDescriptor Mc.1.desc).map (fun d => d.parameters.length) = some k
def pm_nV (own : String) (idx : Nat) (Mc : pm_M) (host : String) (k : Nat) : Prop := pm_in Mc ∧ Cond.methodLinkNest own idx Mc.1 host ∈ lw_tbl ∧ Cond.instanceMethod Mc.1 ∈ lw_g ∧ Cond.selects Mc.1.cls Mc.1 Mc.1 ∈ lw_g ∧ (parseMethodDescriptor Mc.1.desc).map (fun d => d.parameters.length) = some k
def pm_nS (own : String) (idx : Nat) (Mc : pm_M) (host : String) (k : Nat) : Prop := pm_in Mc ∧ Cond.methodLinkNest own idx Mc.1 host ∈ lw_tbl ∧ Cond.static Mc.1 ∈ lw_g ∧ (parseMethodDescriptor Mc.1.desc).map (fun d => d.parameters.length) = some k
def pm_nI (own : String) (idx : Nat) (Mc : pm_M) (host : String) (k : Nat) : Prop := pm_in Mc ∧ Cond.methodLinkNest own idx Mc.1 host ∈ lw_tbl ∧ Cond.instanceMethod Mc.1 ∈ lw_g ∧ Mc.1.name = "<init>" ∧ Mc.2.2.2 = none ∧ (parseMethodDescriptor Mc.1.desc).map (fun d => d.parameters.length) = some k
theorem pm_room (h : dc + 1 ≤ d) (hM : pm_in Mc) : (pm_rm dc mcc msc).frames + 1 ≤ (pm_rm d mc ms).frames ∧ 8 + (Mc.2.2.1 + 11) + (pm_rm dc mcc msc).locals ≤ (pm_rm d mc ms).locals := by
  refine ⟨h, ?_⟩
  have := hM.2.2.1
  show 8 + (Mc.2.2.1 + 11) + 40 * dc ≤ 40 * d
  omega
theorem pm_lvroom {m : MethodId} {ls : Array Slot} {ad : Nat → Nat} {st0 : List Value} (h : (st.map fun v => v.category).sum ≤ 8) : 2 * (F0 m pc ls st0).monitorRoom + ((st.map (pm_v ad)).map fun v => v.category).sum ≤ 8 := by
  have e1 : (st.map (pm_v ad)).map (fun v => v.category) = st.map fun v => v.category := by
    rw [List.map_map]
    exact List.map_congr_left fun v _ => pm_v_cat ad v
  exact lv_room (by rw [e1]; exact h)
theorem pm_callV {idx b ci : Nat} {fs : List Value} (h : decode M.2.1 pc = .ok (.invokevirtual idx, 3)) (hl : pm_lV M.1.cls idx Mc As.length) (hcl : ∃ T N, vwCl[ci]? = some (Mc.1.cls, T, N)) (hb : b < n) (hw : w b = .inr (ci, fs)) (hro : ∀ k v, roc k = some v → ro k = some v) (hd : dc + 1 ≤ d) (hc : c0 + mcc ≤ mc) (hs : s0 + msc ≤ ms) (hst : (st.map fun v => v.category).sum ≤ 8) {st0 : List Value} (hst0 : As.reverse ++ .ref b :: st = st0)
    (hM : pm_Met gs roc Mc dc mcc msc (.ref b :: As) n w Qc) (kk : ∀ r n' w', Qc r n' w' → n ≤ n' → pm_X gs ro M d mc ms (c0 + mcc) (s0 + msc) (pc + 3) L (r.toList ++ st) n' w' Q) : pm_X gs ro M d mc ms c0 s0 pc L st0 n w Q := by
  subst hst0
  intro p l e s m args below meth c H locs ls D cA ad ad0 n0 A F G LL SS
  obtain ⟨hin, hml, him, hse, hpar⟩ := hl
  obtain ⟨T, N, hcl⟩ := hcl
  have hts := F.2.2.2.2.2.2.2.1
  have SSt : pm_S n st := fun u hu => SS u (List.mem_append_right _ (List.mem_cons_of_mem _ hu))
  have SSa : pm_S n (.ref b :: As) := fun u hu => by
    rcases List.mem_cons.mp hu with q | q
    · rw [q]; exact pm_okr hb
    · exact SS u (List.mem_append_left _ (List.mem_reverse.mpr q))
  have hgi : GoodIn (pm_ws M) (wsV M.1.cls idx Mc.1.cls Mc.1 (pm_ws Mc)) := fun x hx => by
    unfold wsV at hx
    rcases List.mem_append.mp hx with q | q
    · simp only [List.mem_cons, List.not_mem_nil, or_false] at q
      rcases q with rfl | rfl | rfl | rfl
      · exact pm_good hml
      · exact pm_good him
      · exact pm_good hse
      · exact pm_good hin.2.2.2.2.2
    · exact pm_goodIn hin x q
  refine pm_behind F G LL SSt (va_runV (As := As.map (pm_v ad)) (b := ad b) (n := As.length) ⟨F.1, F.2.1, F.2.2.1, F.2.2.2.2.2.2.1, hts⟩ (hM l D cA ad H.size G.2.2.2.2.1 G.2.2.2.2.2.2 SSa) (cwV As.length hts hgi rfl rfl rfl ⟨rfl, hin.2.2.2.1, hin.2.2.2.2.1, hpar⟩ (pm_room hd hin)) ⟨pm_blind, va_recv (cl := vwCl) (q0 := b) F.2.2.2.2.2.2.2.2.1 G.1 hcl (fs := fs.map (pm_v ad)) (by rw [pm_W_get hb, hw]; rfl), fun U hU hWm => ⟨rfl, pm_pre hro F G hU hWm⟩⟩ rfl (by rw [List.length_map]) (LL.1) (by show _ = _; rw [List.map_append, List.map_reverse]; rfl) (pm_lvroom hst) h ⟨hc, hs⟩) kk
theorem pm_callVN {idx b ci : Nat} {host : String} {fs : List Value} (h : decode M.2.1 pc = .ok (.invokevirtual idx, 3)) (hl : pm_nV M.1.cls idx Mc host As.length) (hcl : ∃ T N, vwCl[ci]? = some (Mc.1.cls, T, N)) (hb : b < n) (hw : w b = .inr (ci, fs)) (hro : ∀ k v, roc k = some v → ro k = some v) (hd : dc + 1 ≤ d) (hc : c0 + mcc ≤ mc) (hs : s0 + msc ≤ ms) (hst : (st.map fun v => v.category).sum ≤ 8) {st0 : List Value} (hst0 : As.reverse ++ .ref b :: st = st0)
    (hM : pm_Met gs roc Mc dc mcc msc (.ref b :: As) n w Qc) (kk : ∀ r n' w', Qc r n' w' → n ≤ n' → pm_X gs ro M d mc ms (c0 + mcc) (s0 + msc) (pc + 3) L (r.toList ++ st) n' w' Q) : pm_X gs ro M d mc ms c0 s0 pc L st0 n w Q := by
  subst hst0
  intro p l e s m args below meth c H locs ls D cA ad ad0 n0 A F G LL SS
  obtain ⟨hin, hml, him, hse, hpar⟩ := hl
  obtain ⟨T, N, hcl⟩ := hcl
  have hts := F.2.2.2.2.2.2.2.1
  have SSt : pm_S n st := fun u hu => SS u (List.mem_append_right _ (List.mem_cons_of_mem _ hu))
  have SSa : pm_S n (.ref b :: As) := fun u hu => by
    rcases List.mem_cons.mp hu with q | q
    · rw [q]; exact pm_okr hb
    · exact SS u (List.mem_append_left _ (List.mem_reverse.mpr q))
  refine pm_behind F G LL SSt (va_runVN (As := As.map (pm_v ad)) (b := ad b) (n := As.length) ⟨F.1, F.2.1, F.2.2.1, F.2.2.2.2.2.2.1, hts⟩ (hM l D cA ad H.size G.2.2.2.2.1 G.2.2.2.2.2.2 SSa) ⟨va_cnB As.length hts (pm_goodIn hin) rfl rfl rfl (F.2.2.2.2.2.2.2.2.2.2.2.2.1 _ _ _ _ hml) (pm_hts hts hin.2.2.2.2.2) ⟨hin.2.2.2.1, hin.2.2.2.2.1, hpar⟩ (pm_room hd hin), pm_hts hts him, pm_hts hts hse⟩ ⟨pm_blind, va_recv (cl := vwCl) (q0 := b) F.2.2.2.2.2.2.2.2.1 G.1 hcl (fs := fs.map (pm_v ad)) (by rw [pm_W_get hb, hw]; rfl), fun U hU hWm => ⟨rfl, pm_pre hro F G hU hWm⟩⟩ rfl (by rw [List.length_map]) (LL.1) (by show _ = _; rw [List.map_append, List.map_reverse]; rfl) (pm_lvroom hst) h ⟨hc, hs⟩) kk
theorem pm_callS {idx : Nat} (h : decode M.2.1 pc = .ok (.invokestatic idx, 3)) (hl : pm_lS M.1.cls idx Mc As.length) (hro : ∀ k v, roc k = some v → ro k = some v) (hd : dc + 1 ≤ d) (hc : c0 + mcc ≤ mc) (hs : s0 + msc ≤ ms) (hst : (st.map fun v => v.category).sum ≤ 8) {st0 : List Value} (hst0 : As.reverse ++ st = st0)
    (hM : pm_Met gs roc Mc dc mcc msc As n w Qc) (kk : ∀ r n' w', Qc r n' w' → n ≤ n' → pm_X gs ro M d mc ms (c0 + mcc) (s0 + msc) (pc + 3) L (r.toList ++ st) n' w' Q) : pm_X gs ro M d mc ms c0 s0 pc L st0 n w Q := by
  subst hst0
  intro p l e s m args below meth c H locs ls D cA ad ad0 n0 A F G LL SS
  obtain ⟨hin, hml, him, hpar⟩ := hl
  have hts := F.2.2.2.2.2.2.2.1
  have SSt : pm_S n st := fun u hu => SS u (List.mem_append_right _ hu)
  have SSa : pm_S n As := fun u hu => SS u (List.mem_append_left _ (List.mem_reverse.mpr hu))
  have hgi : GoodIn (pm_ws M) (va_wsS M.1.cls idx Mc.1 (pm_ws Mc)) := fun x hx => by
    unfold va_wsS at hx
    rcases List.mem_append.mp hx with q | q
    · simp only [List.mem_cons, List.not_mem_nil, or_false] at q
      rcases q with rfl | rfl | rfl
      · exact pm_good hml
      · exact pm_good him
      · exact pm_good hin.2.2.2.2.2
    · exact pm_goodIn hin x q
  refine pm_behind F G LL SSt (va_runS (As := As.map (pm_v ad)) (n := As.length) ⟨F.1, F.2.1, F.2.2.1, F.2.2.2.2.2.2.1, hts⟩ (hM l D cA ad H.size G.2.2.2.2.1 G.2.2.2.2.2.2 SSa) (va_cwS As.length hts hgi rfl rfl rfl ⟨hin.2.2.2.1, hin.2.2.2.2.1, hpar⟩ (pm_room hd hin)) ⟨pm_blind, fun U hU hWm => ⟨rfl, pm_pre hro F G hU hWm⟩⟩ rfl (by rw [List.length_map]) (LL.1) (by show _ = _; rw [List.map_append, List.map_reverse]) (pm_lvroom hst) h ⟨hc, hs⟩) kk
theorem pm_callSN {idx : Nat} {host : String} (h : decode M.2.1 pc = .ok (.invokestatic idx, 3)) (hl : pm_nS M.1.cls idx Mc host As.length) (hro : ∀ k v, roc k = some v → ro k = some v) (hd : dc + 1 ≤ d) (hc : c0 + mcc ≤ mc) (hs : s0 + msc ≤ ms) (hst : (st.map fun v => v.category).sum ≤ 8) {st0 : List Value} (hst0 : As.reverse ++ st = st0)
    (hM : pm_Met gs roc Mc dc mcc msc As n w Qc) (kk : ∀ r n' w', Qc r n' w' → n ≤ n' → pm_X gs ro M d mc ms (c0 + mcc) (s0 + msc) (pc + 3) L (r.toList ++ st) n' w' Q) : pm_X gs ro M d mc ms c0 s0 pc L st0 n w Q := by
  subst hst0
  intro p l e s m args below meth c H locs ls D cA ad ad0 n0 A F G LL SS
  obtain ⟨hin, hml, him, hpar⟩ := hl
  have hts := F.2.2.2.2.2.2.2.1
  have SSt : pm_S n st := fun u hu => SS u (List.mem_append_right _ hu)
  have SSa : pm_S n As := fun u hu => SS u (List.mem_append_left _ (List.mem_reverse.mpr hu))
  refine pm_behind F G LL SSt (va_runSN (As := As.map (pm_v ad)) (n := As.length) ⟨F.1, F.2.1, F.2.2.1, F.2.2.2.2.2.2.1, hts⟩ (hM l D cA ad H.size G.2.2.2.2.1 G.2.2.2.2.2.2 SSa) ⟨va_cnB As.length hts (pm_goodIn hin) rfl rfl rfl (F.2.2.2.2.2.2.2.2.2.2.2.2.1 _ _ _ _ hml) (pm_hts hts hin.2.2.2.2.2) ⟨hin.2.2.2.1, hin.2.2.2.2.1, hpar⟩ (pm_room hd hin), pm_hts hts him, trivial⟩ ⟨pm_blind, fun U hU hWm => ⟨rfl, pm_pre hro F G hU hWm⟩⟩ rfl (by rw [List.length_map]) (LL.1) (by show _ = _; rw [List.map_append, List.map_reverse]) (pm_lvroom hst) h ⟨hc, hs⟩) kk
end PMC
end
section
section PMN
variable {gs : List String} {ro roc : pm_RO} {M Mc : pm_M} {d dc mc ms c0 s0 mcc msc pc : Nat} {L : List (Option Value)} {st As : List Value} {n : Nat} {w : Nat → va_E} {Q Qc : Option Value → Nat → (Nat → va_E) → Prop}
theorem pm_callI {idx b : Nat} (h : decode M.2.1 pc = .ok (.invokespecial idx, 3)) (hl : pm_lI M.1.cls idx Mc As.length) (hb : b < n) (hro : ∀ k v, roc k = some v → ro k = some v) (hd : dc + 1 ≤ d) (hc : c0 + mcc ≤ mc) (hs : s0 + msc ≤ ms) (hst : (st.map fun v => v.category).sum ≤ 8) {st0 : List Value} (hst0 : As.reverse ++ .ref b :: st = st0)
    (hM : pm_Met gs roc Mc dc mcc msc (.ref b :: As) n w Qc) (kk : ∀ r n' w', Qc r n' w' → n ≤ n' → pm_X gs ro M d mc ms (c0 + mcc) (s0 + msc) (pc + 3) L (r.toList ++ st) n' w' Q) : pm_X gs ro M d mc ms c0 s0 pc L st0 n w Q := by
  subst hst0
  intro p l e s m args below meth c H locs ls D cA ad ad0 n0 A F G LL SS
  obtain ⟨y, cc, nL, ret⟩ := Mc
  obtain ⟨hin, hml, him, hnm, hret, hpar⟩ := hl
  cases hret
  have hts := F.2.2.2.2.2.2.2.1
  have SSt : pm_S n st := fun u hu => SS u (List.mem_append_right _ (List.mem_cons_of_mem _ hu))
  have SSa : pm_S n (.ref b :: As) := fun u hu => by
    rcases List.mem_cons.mp hu with q | q
    · rw [q]; exact pm_okr hb
    · exact SS u (List.mem_append_left _ (List.mem_reverse.mpr q))
  refine pm_behind F G LL SSt (va_runI (As := As.map (pm_v ad)) (b := ad b) (n := As.length) ⟨F.1, F.2.1, F.2.2.1, F.2.2.2.2.2.2.1, hts⟩ (hM l D cA ad H.size G.2.2.2.2.1 G.2.2.2.2.2.2 SSa) (cwI As.length hts (pm_goodIn hin) rfl rfl rfl (pm_hts hts hin.2.2.2.2.2) (pm_hts hts hml) (pm_hts hts him) hnm ⟨hin.2.2.2.1, hin.2.2.2.2.1, hpar⟩ (pm_room hd hin)) ⟨pm_blind, fun U hU hWm => ⟨rfl, pm_pre hro F G hU hWm⟩⟩ rfl (by rw [List.length_map]) (LL.1) (by show _ = _; rw [List.map_append, List.map_reverse]; rfl) (pm_lvroom hst) h ⟨hc, hs⟩) kk
theorem pm_callIN {idx b : Nat} {host : String} (h : decode M.2.1 pc = .ok (.invokespecial idx, 3)) (hl : pm_nI M.1.cls idx Mc host As.length) (hb : b < n) (hro : ∀ k v, roc k = some v → ro k = some v) (hd : dc + 1 ≤ d) (hc : c0 + mcc ≤ mc) (hs : s0 + msc ≤ ms) (hst : (st.map fun v => v.category).sum ≤ 8) {st0 : List Value} (hst0 : As.reverse ++ .ref b :: st = st0)
    (hM : pm_Met gs roc Mc dc mcc msc (.ref b :: As) n w Qc) (kk : ∀ r n' w', Qc r n' w' → n ≤ n' → pm_X gs ro M d mc ms (c0 + mcc) (s0 + msc) (pc + 3) L (r.toList ++ st) n' w' Q) : pm_X gs ro M d mc ms c0 s0 pc L st0 n w Q := by
  subst hst0
  intro p l e s m args below meth c H locs ls D cA ad ad0 n0 A F G LL SS
  obtain ⟨y, cc, nL, ret⟩ := Mc
  obtain ⟨hin, hml, him, hnm, hret, hpar⟩ := hl
  cases hret
  have hts := F.2.2.2.2.2.2.2.1
  have SSt : pm_S n st := fun u hu => SS u (List.mem_append_right _ (List.mem_cons_of_mem _ hu))
  have SSa : pm_S n (.ref b :: As) := fun u hu => by
    rcases List.mem_cons.mp hu with q | q
    · rw [q]; exact pm_okr hb
    · exact SS u (List.mem_append_left _ (List.mem_reverse.mpr q))
  refine pm_behind F G LL SSt (va_runIN (As := As.map (pm_v ad)) (b := ad b) (n := As.length) ⟨F.1, F.2.1, F.2.2.1, F.2.2.2.2.2.2.1, hts⟩ (hM l D cA ad H.size G.2.2.2.2.1 G.2.2.2.2.2.2 SSa) ⟨va_cnB As.length hts (pm_goodIn hin) rfl rfl rfl (F.2.2.2.2.2.2.2.2.2.2.2.2.1 _ _ _ _ hml) (pm_hts hts hin.2.2.2.2.2) ⟨hin.2.2.2.1, hin.2.2.2.2.1, hpar⟩ (pm_room hd hin), hnm, pm_hts hts him⟩ ⟨pm_blind, fun U hU hWm => ⟨rfl, pm_pre hro F G hU hWm⟩⟩ rfl (by rw [List.length_map]) (LL.1) (by show _ = _; rw [List.map_append, List.map_reverse]; rfl) (pm_lvroom hst) h ⟨hc, hs⟩) kk
/-- Object's own constructor -/
theorem pm_obj {idx b : Nat} (h : decode M.2.1 pc = .ok (.invokespecial idx, 3)) (h1 : Cond.methodLink M.1.cls idx Lib.objectInit ∈ lw_g) (h2 : Cond.instanceMethod Lib.objectInit ∈ lw_g) (h3 : Cond.code Lib.objectInit ⟨#[0xb1]⟩ 1 none ∈ lw_g) (hd : 1 ≤ d) (hst : (st.map fun v => v.category).sum ≤ 8) (kk : pm_X gs ro M d mc ms c0 s0 (pc + 3) L st n w Q) : pm_X gs ro M d mc ms c0 s0 pc L (.ref b :: st) n w Q := by
  intro p l e s m args below meth c H locs ls D cA ad ad0 n0 A F G LL SS
  have hts := F.2.2.2.2.2.2.2.1
  have hr := pm_lvroom (m := m) (pc := pc) (ls := ls) (ad := ad) (st0 := (.ref b :: st).map (pm_v ad)) hst
  refine W.objInit F.1 F.2.1 F.2.2.2.2.2.2.1 (pm_hts hts h1) (pm_hts hts h2) (pm_hts hts h3) rfl (by rw [F.2.2.1]; exact LL.1) (a := ad b) (rest := st.map (pm_v ad)) rfl h hd ?_ (kk p l e s m args below meth c H locs ls D cA ad ad0 n0 A F G LL (pm_St SS))
  show _ ≤ 40 * d
  omega
/-- what a made cell gives -/
theorem pm_made {p : Program} {l : Launch} {e : Env} {s : State} {m : MethodId} {args : Array Value} {below : List Frame} {meth : Method} {c : Code} {H1 : Heap} {locs : List Loc} {ls : Array Slot} {D : va_G} {cA : Nat → ClassId} {ad ad0 : Nat → Nat} {n0 : Nat} {A : Nat → Prop} {q c1 s1 pc' : Nat} {e0 : va_E} {rest : List Value}
    (F : pm_F gs ro M p s m args meth c D cA ad0 A) (hn0 : n0 ≤ n) (hn : n + 1 < 1000000) (hag : pm_ag n0 ad0 ad) (hwk : pm_wk n w) (LL : pm_L M.2.2.1 ls ad n L) (SS : pm_S n st) (he : pm_ek n e0)
    (hP : va_P D vwCl (pm_W cA ad n w ++ [(q, pm_e cA ad e0)]) H1) (hD : va_D A (pm_W cA ad n w ++ [(q, pm_e cA ad e0)])) (hS : va_S A s.heap H1 locs) (hrest : rest = .ref q :: st.map (pm_v ad))
    (kk : pm_X gs ro M d mc ms c1 s1 pc' L (.ref n :: st) (n + 1) (va_up w n e0) Q) : W p l e (pm_rm d mc ms) s m args below meth c H1 locs c1 s1 (MQ below (pm_Q D cA ad0 n0 A Q) args s mc ms A) (F0 m pc' ls rest) := by
  have hag1 : pm_ag n ad (va_up ad n q) := fun k hk => pm_up_n (by omega)
  rw [pm_W_push (by omega) hwk he] at hP hD
  have K := kk p l e s m args below meth c H1 locs ls D cA (va_up ad n q) ad0 n0 A F ⟨hP, hD, hS, Nat.le_succ_of_le hn0, hn, pm_ag_tr hn0 hag hag1, fun k hk => ?_⟩ (pm_L_ag LL (Nat.le_succ _) hag1) (pm_Sc (pm_okr (Nat.lt_succ_self _)) (fun u hu => pm_okm (Nat.le_succ _) (SS u hu)))
  · have e1 : (Value.ref n :: st).map (pm_v (va_up ad n q)) = rest := by
      rw [hrest]
      show Value.ref (va_up ad n q n) :: st.map (pm_v (va_up ad n q)) = _
      rw [pm_up_s, pm_vs_ag hag1 SS]
    rw [e1] at K
    exact K
  · by_cases hk2 : k = n
    · subst hk2; rw [pm_up_s]; exact pm_ekm (Nat.le_succ _) he
    · rw [pm_up_n hk2]; exact pm_ekm (Nat.le_succ _) (hwk k (by omega))
theorem pm_new {idx ci : Nat} {C : String} {T : u_T} {N : Nat} {ty : Nat → FieldType} {fs : List Value} (h : decode M.2.1 pc = .ok (.new idx, 3)) (hcl : pm_cl ci C T N ty) (h1 : Cond.classLink M.1.cls idx C ∈ lw_g) (h2 : Cond.instantiable C N ∈ lw_g) (h3 : Cond.initialized C ∈ lw_g) (hfs : ∀ j, j < N → defaultValue (ty j) = vp_V fs j) (hfs2 : fs.all (fun v => match v with | .ref _ => false | _ => true) = true) (hc : c0 + 1 ≤ mc) (hs : s0 + N ≤ ms) (hn : n + 1 < 1000000)
    (kk : pm_X gs ro M d mc ms (c0 + 1) (s0 + N) (pc + 3) L (.ref n :: st) (n + 1) (va_up w n (.inr (ci, fs))) Q) : pm_X gs ro M d mc ms c0 s0 pc L st n w Q := by
  intro p l e s m args below meth c H locs ls D cA ad ad0 n0 A F G LL SS
  obtain ⟨hc1, hin, hty, hnm⟩ := hcl
  have hts := F.2.2.2.2.2.2.2.1
  have hno : ∀ v ∈ fs, ∀ k, v ≠ .ref k := fun v hv k q => by
    have := List.all_eq_true.mp hfs2 v hv
    rw [q] at this
    cases this
  have hmap : fs.map (pm_v ad) = fs := by
    rw [List.map_congr_left (g := id) (fun v hv => ?_), List.map_id]
    cases v with
    | ref k => exact absurd rfl (hno _ hv k)
    | _ => rfl
  refine va_new (D := D) F.1 F.2.1 (Ts := pm_ws M) hts (fun x hx => List.mem_cons_of_mem _ (hin x hx)) ty hty F.2.2.2.2.2.2.1 (pm_hts hts h1) (pm_hts hts h2) (pm_hts hts h3) F.2.2.2.2.2.2.2.2.1 G.1 G.2.1 G.2.2.1 F.2.2.2.2.2.2.2.2.2.1 hc1 (fs := fs) hfs hc hs h (fun q H1 hP hD hS => ?_)
  refine pm_made (e0 := .inr (ci, fs)) F G.2.2.2.1 hn G.2.2.2.2.2.1 G.2.2.2.2.2.2 LL SS (pm_eko fun v hv k q => absurd q (hno v hv k)) ?_ ?_ hS rfl kk
  · show va_P D vwCl (pm_W cA ad n w ++ [(q, .inr (ci, fs.map (pm_v ad)))]) H1
    rw [hmap]; exact hP
  · show va_D A (pm_W cA ad n w ++ [(q, .inr (ci, fs.map (pm_v ad)))])
    rw [hmap]; exact hD
theorem pm_newi {k : Int32} {N : Nat} (h : decode M.2.1 pc = .ok (.newarray .int, 2)) (h1 : Cond.arrayClass .int ∈ lw_g) (hk : ¬ k < 0) (hN : k.toNatClampNeg = N) (hb : N * 4 ≤ 536870912) (hc : c0 + 1 ≤ mc) (hs : s0 + N ≤ ms) (hn : n + 1 < 1000000)
    (kk : pm_X gs ro M d mc ms (c0 + 1) (s0 + N) (pc + 2) L (.ref n :: st) (n + 1) (va_up w n (.inl (0, N, .inl (fun _ => 0)))) Q) : pm_X gs ro M d mc ms c0 s0 pc L (.int k :: st) n w Q := by
  intro p l e s m args below meth c H locs ls D cA ad ad0 n0 A F G LL SS
  have hts := F.2.2.2.2.2.2.2.1
  refine va_newa (D := D) F.1 F.2.1 (atype := .int) (pm_hts hts h1) (ty := .int) rfl F.2.2.2.2.2.2.2.2.1 G.1 G.2.1 G.2.2.1 F.2.2.2.2.2.2.2.2.2.1 (a0 := (N, .inl (fun _ => 0))) (fun _ => rfl) hk hN hb hc hs h (fun q cB H1 hK hP hD hS => ?_)
  have e0 : cB = cA 0 := by
    have a1 := (hK.2 4 (cB, .int) rfl).2
    have a2 := (hK.2 0 (cA 0, .int) rfl).2
    exact Option.some.inj (a1.symm.trans a2)
  subst e0
  exact pm_made (e0 := .inl (0, N, .inl (fun _ => 0))) F G.2.2.2.1 hn G.2.2.2.2.2.1 G.2.2.2.2.2.2 LL (pm_St SS) pm_eki hP hD hS rfl kk
theorem pm_newz {k : Int32} {N : Nat} (h : decode M.2.1 pc = .ok (.newarray .boolean, 2)) (h1 : Cond.arrayClass .boolean ∈ lw_g) (hk : ¬ k < 0) (hN : k.toNatClampNeg = N) (hb : N * 1 ≤ 536870912) (hc : c0 + 1 ≤ mc) (hs : s0 + N ≤ ms) (hn : n + 1 < 1000000)
    (kk : pm_X gs ro M d mc ms (c0 + 1) (s0 + N) (pc + 2) L (.ref n :: st) (n + 1) (va_up w n (.inl (1, N, .inl (fun _ => 0)))) Q) : pm_X gs ro M d mc ms c0 s0 pc L (.int k :: st) n w Q := by
  intro p l e s m args below meth c H locs ls D cA ad ad0 n0 A F G LL SS
  have hts := F.2.2.2.2.2.2.2.1
  refine va_newa (D := D) F.1 F.2.1 (atype := .boolean) (pm_hts hts h1) (ty := .boolean) rfl F.2.2.2.2.2.2.2.2.1 G.1 G.2.1 G.2.2.1 F.2.2.2.2.2.2.2.2.2.1 (a0 := (N, .inl (fun _ => 0))) (fun _ => rfl) hk hN hb hc hs h (fun q cB H1 hK hP hD hS => ?_)
  have e0 : cB = cA 1 := by
    have a1 := (hK.2 4 (cB, .boolean) rfl).2
    have a2 := (hK.2 1 (cA 1, .boolean) rfl).2
    exact Option.some.inj (a1.symm.trans a2)
  subst e0
  exact pm_made (e0 := .inl (1, N, .inl (fun _ => 0))) F G.2.2.2.1 hn G.2.2.2.2.2.1 G.2.2.2.2.2.2 LL (pm_St SS) pm_eki hP hD hS rfl kk
/-- new Run[N] -/
theorem pm_newq {idx : Nat} {k : Int32} {N : Nat} (h : decode M.2.1 pc = .ok (.anewarray idx, 3)) (h1 : Cond.classLink M.1.cls idx RX7 ∈ lw_g) (h2 : Cond.arrayOver (.object RX7) ∈ lw_tbl) (hk : ¬ k < 0) (hN : k.toNatClampNeg = N) (hb : N * 4 ≤ 536870912) (hc : c0 + 1 ≤ mc) (hs : s0 + N ≤ ms) (hn : n + 1 < 1000000)
    (kk : pm_X gs ro M d mc ms (c0 + 1) (s0 + N) (pc + 3) L (.ref n :: st) (n + 1) (va_up w n (.inl (2, N, .inr (.inr (.inr (.inr (fun _ => none))))))) Q) : pm_X gs ro M d mc ms c0 s0 pc L (.int k :: st) n w Q := by
  intro p l e s m args below meth c H locs ls D cA ad ad0 n0 A F G LL SS
  have hts := F.2.2.2.2.2.2.2.1
  refine va_newq (D := D) F.1 F.2.1 F.2.2.2.2.2.2.1 (pm_hts hts h1) (F.2.2.2.2.2.2.2.2.2.2.2.2.2 _ h2) F.2.2.2.2.2.2.2.2.1 G.1 G.2.1 G.2.2.1 F.2.2.2.2.2.2.2.2.2.1 hk hN hb hc hs h (fun q cB H1 hK hP hD hS => ?_)
  have e0 : cB = cA 2 := by
    obtain ⟨_, _, -, -, -, a1⟩ := (hK.2 4 (cB, .object RX7) rfl).2
    obtain ⟨_, _, -, -, -, a2⟩ := (hK.2 2 (cA 2, .object RX7) rfl).2
    exact Option.some.inj (a1.symm.trans a2)
  subst e0
  exact pm_made (e0 := .inl (2, N, .inr (.inr (.inr (.inr (fun _ => none)))))) F G.2.2.2.1 hn G.2.2.2.2.2.1 G.2.2.2.2.2.2 LL (pm_St SS) (pm_ekq (fun i k q => by cases q)) hP hD hS rfl kk
/-- reading an array of Runs -/
theorem pm_aldq {a N : Nat} {g : Nat → Option Nat} {i : Int32} {v : Value} (h : decode M.2.1 pc = .ok (.aaload, 1)) (ha : a < n) (hw : w a = .inl (2, N, .inr (.inr (.inr (.inr g))))) (hi : vp_in i N) (hv : va_rf (g i.toNatClampNeg) = v) (kk : pm_X gs ro M d mc ms c0 s0 (pc + 1) L (v :: st) n w Q) : pm_X gs ro M d mc ms c0 s0 pc L (.int i :: .ref a :: st) n w Q := by
  subst hv
  intro p l e s m args below meth c H locs ls D cA ad ad0 n0 A F G LL SS
  have hok : pm_ok n (va_rf (g i.toNatClampNeg)) := by
    cases hg : g i.toNatClampNeg with
    | none => exact pm_okn
    | some k => exact pm_okr ((G.2.2.2.2.2.2 a ha).1 2 N g hw _ k hg)
  have K := kk p l e s m args below meth c H locs ls D cA ad ad0 n0 A F G LL (pm_Sc hok (pm_St (pm_St SS)))
  refine va_aldq (D := D) F.1 F.2.1 F.2.2.2.2.2.2.2.2.1 G.1 a 2 (cA := cA 2) (C := RX7) (n := N) (f := fun i => (g i).map ad) ?_ rfl hi h ?_
  · rw [pm_W_get ha, hw]; rfl
  · have e1 : pm_v ad (va_rf (g i.toNatClampNeg)) = va_rf ((g i.toNatClampNeg).map ad) := by cases g i.toNatClampNeg <;> rfl
    rw [← e1]
    exact K
theorem pm_mmax {idx : Nat} {x y : Int32} (h : decode M.2.1 pc = .ok (.invokestatic idx, 3)) (h1 : Cond.methodLink M.1.cls idx Lib.Math.max.name ∈ lw_g) (h2 : Cond.static Lib.Math.max.name ∈ lw_g) (h3 : Cond.initialized "java/lang/Math" ∈ lw_g) (h4 : Cond.code Lib.Math.max.name Lib.Math.max.code 2 (some .int) ∈ lw_g) (hd : 1 ≤ d) (hc : c0 ≤ mc) (hs : s0 ≤ ms) (hst : (st.map fun v => v.category).sum ≤ 8) (kk : pm_X gs ro M d mc ms c0 s0 (pc + 3) L (.int (if x < y then y else x) :: st) n w Q) : pm_X gs ro M d mc ms c0 s0 pc L (.int y :: .int x :: st) n w Q := by
  intro p l e s m args below meth c H locs ls D cA ad ad0 n0 A F G LL SS
  have hts := F.2.2.2.2.2.2.2.1
  have hr := pm_lvroom (m := m) (pc := pc) (ls := ls) (ad := ad) (st0 := st.map (pm_v ad)) hst
  refine va_mmax F.1 F.2.1 (F.2.2.1.trans LL.1.symm) F.2.2.2.2.2.2.1 (pm_hts hts h1) (pm_hts hts h2) (pm_hts hts h3) (pm_hts hts h4) hd ?_ hc hs h (kk p l e s m args below meth c H locs ls D cA ad ad0 n0 A F G LL (pm_Si (pm_St (pm_St SS))))
  show _ ≤ 40 * d
  omega
theorem pm_mmin {idx : Nat} {x y : Int32} (h : decode M.2.1 pc = .ok (.invokestatic idx, 3)) (h1 : Cond.methodLink M.1.cls idx Lib.Math.min.name ∈ lw_g) (h2 : Cond.static Lib.Math.min.name ∈ lw_g) (h3 : Cond.initialized "java/lang/Math" ∈ lw_g) (h4 : Cond.code Lib.Math.min.name Lib.Math.min.code 2 (some .int) ∈ lw_g) (hd : 1 ≤ d) (hc : c0 ≤ mc) (hs : s0 ≤ ms) (hst : (st.map fun v => v.category).sum ≤ 8) (kk : pm_X gs ro M d mc ms c0 s0 (pc + 3) L (.int (if y < x then y else x) :: st) n w Q) : pm_X gs ro M d mc ms c0 s0 pc L (.int y :: .int x :: st) n w Q := by
  intro p l e s m args below meth c H locs ls D cA ad ad0 n0 A F G LL SS
  have hts := F.2.2.2.2.2.2.2.1
  have hr := pm_lvroom (m := m) (pc := pc) (ls := ls) (ad := ad) (st0 := st.map (pm_v ad)) hst
  refine va_mmin F.1 F.2.1 (F.2.2.1.trans LL.1.symm) F.2.2.2.2.2.2.1 (pm_hts hts h1) (pm_hts hts h2) (pm_hts hts h3) (pm_hts hts h4) hd ?_ hc hs h (kk p l e s m args below meth c H locs ls D cA ad ad0 n0 A F G LL (pm_Si (pm_St (pm_St SS))))
  show _ ≤ 40 * d
  omega
end PMN
end
section
theorem lwt_0 {x : Cond} (h : x ∈ k2_sels lw_privs) : x ∈ lw_tbl := List.mem_append_left _ h
theorem lwm_0 {x : Cond} (h : x ∈ k2_sels lw_privs) (hg : goodWord x = true) : x ∈ lw_g := List.mem_filter.mpr ⟨lwt_0 h, hg⟩
theorem lwt_tables_1_1 {x : Cond} (h : x ∈ tables_1_1) : x ∈ lw_tbl := List.mem_append_right _ (show x ∈ tables_1 from List.mem_append_left _ h)
theorem lwm_tables_1_1 {x : Cond} (h : x ∈ tables_1_1) (hg : goodWord x = true) : x ∈ lw_g := List.mem_filter.mpr ⟨lwt_tables_1_1 h, hg⟩
theorem lwt_tables_1_2 {x : Cond} (h : x ∈ tables_1_2) : x ∈ lw_tbl := List.mem_append_right _ (show x ∈ tables_1 from List.mem_append_right _ (List.mem_append_left _ h))
theorem lwm_tables_1_2 {x : Cond} (h : x ∈ tables_1_2) (hg : goodWord x = true) : x ∈ lw_g := List.mem_filter.mpr ⟨lwt_tables_1_2 h, hg⟩
theorem lwt_tables_1_3 {x : Cond} (h : x ∈ tables_1_3) : x ∈ lw_tbl := List.mem_append_right _ (show x ∈ tables_1 from List.mem_append_right _ (List.mem_append_right _ (List.mem_append_left _ h)))
theorem lwm_tables_1_3 {x : Cond} (h : x ∈ tables_1_3) (hg : goodWord x = true) : x ∈ lw_g := List.mem_filter.mpr ⟨lwt_tables_1_3 h, hg⟩
theorem lwt_tables_1_4 {x : Cond} (h : x ∈ tables_1_4) : x ∈ lw_tbl := List.mem_append_right _ (show x ∈ tables_1 from List.mem_append_right _ (List.mem_append_right _ (List.mem_append_right _ (List.mem_append_left _ h))))
theorem lwm_tables_1_4 {x : Cond} (h : x ∈ tables_1_4) (hg : goodWord x = true) : x ∈ lw_g := List.mem_filter.mpr ⟨lwt_tables_1_4 h, hg⟩
theorem lwt_tables_1_5 {x : Cond} (h : x ∈ tables_1_5) : x ∈ lw_tbl := List.mem_append_right _ (show x ∈ tables_1 from List.mem_append_right _ (List.mem_append_right _ (List.mem_append_right _ (List.mem_append_right _ (List.mem_append_left _ h)))))
theorem lwm_tables_1_5 {x : Cond} (h : x ∈ tables_1_5) (hg : goodWord x = true) : x ∈ lw_g := List.mem_filter.mpr ⟨lwt_tables_1_5 h, hg⟩
theorem lwt_tables_1_6 {x : Cond} (h : x ∈ tables_1_6) : x ∈ lw_tbl := List.mem_append_right _ (show x ∈ tables_1 from List.mem_append_right _ (List.mem_append_right _ (List.mem_append_right _ (List.mem_append_right _ (List.mem_append_right _ (List.mem_append_left _ h))))))
theorem lwm_tables_1_6 {x : Cond} (h : x ∈ tables_1_6) (hg : goodWord x = true) : x ∈ lw_g := List.mem_filter.mpr ⟨lwt_tables_1_6 h, hg⟩
theorem lwt_tables_1_7 {x : Cond} (h : x ∈ tables_1_7) : x ∈ lw_tbl := List.mem_append_right _ (show x ∈ tables_1 from List.mem_append_right _ (List.mem_append_right _ (List.mem_append_right _ (List.mem_append_right _ (List.mem_append_right _ (List.mem_append_right _ (h)))))))
theorem lwm_tables_1_7 {x : Cond} (h : x ∈ tables_1_7) (hg : goodWord x = true) : x ∈ lw_g := List.mem_filter.mpr ⟨lwt_tables_1_7 h, hg⟩
theorem cl_X0 : pm_cl 0 RX0 TX0 6 tyX0 := ⟨rfl, fun x hx => by
  have hx : x ∈ ([.laysFinal RX0 "RunsBack$Beside" "most" "[[I", .laysFinal RX0 "RunsBack$Beside" "callOne" "[I", .laysFinal RX0 "RunsBack$Beside" "callOther" "[I", .lays RX0 "RunsBack$Beside" "pairs" "I", .laysFinal RX0 "RunsBack$Beside" "putOne" "[I", .laysFinal RX0 "RunsBack$Beside" "putOther" "[I"] : List Cond) := hx
  simp only [List.mem_cons, List.not_mem_nil, or_false] at hx
  rcases hx with rfl | rfl | rfl | rfl | rfl | rfl
  · exact (lwm_tables_1_1 (List.mem_of_getElem? (i := 82) rfl) rfl)
  · exact (lwm_tables_1_1 (List.mem_of_getElem? (i := 84) rfl) rfl)
  · exact (lwm_tables_1_1 (List.mem_of_getElem? (i := 86) rfl) rfl)
  · exact (lwm_tables_1_1 (List.mem_of_getElem? (i := 88) rfl) rfl)
  · exact (lwm_tables_1_1 (List.mem_of_getElem? (i := 90) rfl) rfl)
  · exact (lwm_tables_1_1 (List.mem_of_getElem? (i := 92) rfl) rfl), tyX0_ok, nmX0⟩
theorem cl_X1 : pm_cl 1 RX1 TX1 4 tyX1 := ⟨rfl, fun x hx => by
  have hx : x ∈ ([.laysFinal RX1 "RunsBack$Calls" "time" "[I", .laysFinal RX1 "RunsBack$Calls" "target" "[I", .laysFinal RX1 "RunsBack$Calls" "stacked" "[I", .lays RX1 "RunsBack$Calls" "count" "I"] : List Cond) := hx
  simp only [List.mem_cons, List.not_mem_nil, or_false] at hx
  rcases hx with rfl | rfl | rfl | rfl
  · exact (lwm_tables_1_2 (List.mem_of_getElem? (i := 28) rfl) rfl)
  · exact (lwm_tables_1_2 (List.mem_of_getElem? (i := 30) rfl) rfl)
  · exact (lwm_tables_1_2 (List.mem_of_getElem? (i := 32) rfl) rfl)
  · exact (lwm_tables_1_2 (List.mem_of_getElem? (i := 34) rfl) rfl), tyX1_ok, nmX1⟩
theorem cl_X2 : pm_cl 2 RX2 TX2 5 tyX2 := ⟨rfl, fun x hx => by
  have hx : x ∈ ([.laysFinal RX2 "RunsBack$Holding" "times" "[I", .lays RX2 "RunsBack$Holding" "count" "I", .lays RX2 "RunsBack$Holding" "most" "I", .lays RX2 "RunsBack$Holding" "unit" "I", .lays RX2 "RunsBack$Holding" "depth" "I"] : List Cond) := hx
  simp only [List.mem_cons, List.not_mem_nil, or_false] at hx
  rcases hx with rfl | rfl | rfl | rfl | rfl
  · exact (lwm_tables_1_2 (List.mem_of_getElem? (i := 52) rfl) rfl)
  · exact (lwm_tables_1_2 (List.mem_of_getElem? (i := 54) rfl) rfl)
  · exact (lwm_tables_1_2 (List.mem_of_getElem? (i := 56) rfl) rfl)
  · exact (lwm_tables_1_2 (List.mem_of_getElem? (i := 58) rfl) rfl)
  · exact (lwm_tables_1_2 (List.mem_of_getElem? (i := 60) rfl) rfl), tyX2_ok, nmX2⟩
theorem cl_X3 : pm_cl 3 RX3 TX3 6 tyX3 := ⟨rfl, fun x hx => by
  have hx : x ∈ ([.laysFinal RX3 "RunsBack$Log" "time" "[I", .laysFinal RX3 "RunsBack$Log" "origin" "[I", .laysFinal RX3 "RunsBack$Log" "number" "[I", .laysFinal RX3 "RunsBack$Log" "place" "[I", .laysFinal RX3 "RunsBack$Log" "sort" "[I", .lays RX3 "RunsBack$Log" "count" "I"] : List Cond) := hx
  simp only [List.mem_cons, List.not_mem_nil, or_false] at hx
  rcases hx with rfl | rfl | rfl | rfl | rfl | rfl
  · exact (lwm_tables_1_1 (List.mem_of_getElem? (i := 197) rfl) rfl)
  · exact (lwm_tables_1_1 (List.mem_of_getElem? (i := 199) rfl) rfl)
  · exact (lwm_tables_1_1 (List.mem_of_getElem? (i := 201) rfl) rfl)
  · exact (lwm_tables_1_1 (List.mem_of_getElem? (i := 203) rfl) rfl)
  · exact (lwm_tables_1_1 (List.mem_of_getElem? (i := 205) rfl) rfl)
  · exact (lwm_tables_1_1 (List.mem_of_getElem? (i := 207) rfl) rfl), tyX3_ok, nmX3⟩
theorem cl_X4 : pm_cl 4 RX4 TX4 4 tyX4 := ⟨rfl, fun x hx => by
  have hx : x ∈ ([.laysFinal RX4 "RunsBack$Outside" "ring" "[I", .lays RX4 "RunsBack$Outside" "first" "I", .lays RX4 "RunsBack$Outside" "waiting" "I", .lays RX4 "RunsBack$Outside" "x" "I"] : List Cond) := hx
  simp only [List.mem_cons, List.not_mem_nil, or_false] at hx
  rcases hx with rfl | rfl | rfl | rfl
  · exact (lwm_tables_1_1 (List.mem_of_getElem? (i := 58) rfl) rfl)
  · exact (lwm_tables_1_1 (List.mem_of_getElem? (i := 60) rfl) rfl)
  · exact (lwm_tables_1_1 (List.mem_of_getElem? (i := 62) rfl) rfl)
  · exact (lwm_tables_1_1 (List.mem_of_getElem? (i := 64) rfl) rfl), tyX4_ok, nmX4⟩
theorem cl_X5 : pm_cl 5 RX5 TX5 4 tyX5 := ⟨rfl, fun x hx => by
  have hx : x ∈ ([.laysFinal RX5 "RunsBack$Program" "kind" "[I", .laysFinal RX5 "RunsBack$Program" "a" "[I", .laysFinal RX5 "RunsBack$Program" "b" "[I", .laysFinal RX5 "RunsBack$Program" "c" "[I"] : List Cond) := hx
  simp only [List.mem_cons, List.not_mem_nil, or_false] at hx
  rcases hx with rfl | rfl | rfl | rfl
  · exact (lwm_tables_1_1 (List.mem_of_getElem? (i := 35) rfl) rfl)
  · exact (lwm_tables_1_1 (List.mem_of_getElem? (i := 37) rfl) rfl)
  · exact (lwm_tables_1_1 (List.mem_of_getElem? (i := 39) rfl) rfl)
  · exact (lwm_tables_1_1 (List.mem_of_getElem? (i := 41) rfl) rfl), tyX5_ok, nmX5⟩
theorem cl_X6 : pm_cl 6 RX6 TX6 12 tyX6 := ⟨rfl, fun x hx => by
  have hx : x ∈ ([.laysFinal RX6 "RunsBack$Puts" "time" "[I", .laysFinal RX6 "RunsBack$Puts" "place" "[I", .laysFinal RX6 "RunsBack$Puts" "sort" "[I", .laysFinal RX6 "RunsBack$Puts" "number" "[I", .laysFinal RX6 "RunsBack$Puts" "changes" "[I", .laysFinal RX6 "RunsBack$Puts" "ahead" "[I", .laysFinal RX6 "RunsBack$Puts" "began" "[I", .laysFinal RX6 "RunsBack$Puts" "entry" "[I", .laysFinal RX6 "RunsBack$Puts" "lookedOne" "[I", .laysFinal RX6 "RunsBack$Puts" "lookedTwo" "[I", .laysFinal RX6 "RunsBack$Puts" "latest" "[I", .lays RX6 "RunsBack$Puts" "count" "I"] : List Cond) := hx
  simp only [List.mem_cons, List.not_mem_nil, or_false] at hx
  rcases hx with rfl | rfl | rfl | rfl | rfl | rfl | rfl | rfl | rfl | rfl | rfl | rfl
  · exact (lwm_tables_1_1 (List.mem_of_getElem? (i := 230) rfl) rfl)
  · exact (lwm_tables_1_1 (List.mem_of_getElem? (i := 232) rfl) rfl)
  · exact (lwm_tables_1_1 (List.mem_of_getElem? (i := 234) rfl) rfl)
  · exact (lwm_tables_1_1 (List.mem_of_getElem? (i := 236) rfl) rfl)
  · exact (lwm_tables_1_1 (List.mem_of_getElem? (i := 238) rfl) rfl)
  · exact (lwm_tables_1_2 (List.mem_of_getElem? (i := 0) rfl) rfl)
  · exact (lwm_tables_1_2 (List.mem_of_getElem? (i := 2) rfl) rfl)
  · exact (lwm_tables_1_2 (List.mem_of_getElem? (i := 4) rfl) rfl)
  · exact (lwm_tables_1_2 (List.mem_of_getElem? (i := 6) rfl) rfl)
  · exact (lwm_tables_1_2 (List.mem_of_getElem? (i := 8) rfl) rfl)
  · exact (lwm_tables_1_2 (List.mem_of_getElem? (i := 10) rfl) rfl)
  · exact (lwm_tables_1_2 (List.mem_of_getElem? (i := 12) rfl) rfl), tyX6_ok, nmX6⟩
theorem cl_X7 : pm_cl 7 RX7 TX7 15 tyX7 := ⟨rfl, fun x hx => by
  have hx : x ∈ ([.laysFinal RX7 "RunsBack$Run" "program" "LRunsBack$Program;", .laysFinal RX7 "RunsBack$Run" "log" "LRunsBack$Log;", .laysFinal RX7 "RunsBack$Run" "puts" "LRunsBack$Puts;", .laysFinal RX7 "RunsBack$Run" "calls" "LRunsBack$Calls;", .laysFinal RX7 "RunsBack$Run" "holding" "LRunsBack$Holding;", .laysFinal RX7 "RunsBack$Run" "counter" "[I", .laysFinal RX7 "RunsBack$Run" "outs" "[I", .laysFinal RX7 "RunsBack$Run" "check" "[I", .laysFinal RX7 "RunsBack$Run" "top" "[I", .lays RX7 "RunsBack$Run" "time" "I", .lays RX7 "RunsBack$Run" "end" "I", .lays RX7 "RunsBack$Run" "changedPlace" "I", .lays RX7 "RunsBack$Run" "replayed" "I", .lays RX7 "RunsBack$Run" "backs" "I", .lays RX7 "RunsBack$Run" "statusKept" "I"] : List Cond) := hx
  simp only [List.mem_cons, List.not_mem_nil, or_false] at hx
  rcases hx with rfl | rfl | rfl | rfl | rfl | rfl | rfl | rfl | rfl | rfl | rfl | rfl | rfl | rfl | rfl
  · exact (lwm_tables_1_2 (List.mem_of_getElem? (i := 95) rfl) rfl)
  · exact (lwm_tables_1_2 (List.mem_of_getElem? (i := 97) rfl) rfl)
  · exact (lwm_tables_1_2 (List.mem_of_getElem? (i := 99) rfl) rfl)
  · exact (lwm_tables_1_2 (List.mem_of_getElem? (i := 101) rfl) rfl)
  · exact (lwm_tables_1_2 (List.mem_of_getElem? (i := 103) rfl) rfl)
  · exact (lwm_tables_1_2 (List.mem_of_getElem? (i := 105) rfl) rfl)
  · exact (lwm_tables_1_2 (List.mem_of_getElem? (i := 107) rfl) rfl)
  · exact (lwm_tables_1_2 (List.mem_of_getElem? (i := 109) rfl) rfl)
  · exact (lwm_tables_1_2 (List.mem_of_getElem? (i := 111) rfl) rfl)
  · exact (lwm_tables_1_2 (List.mem_of_getElem? (i := 113) rfl) rfl)
  · exact (lwm_tables_1_2 (List.mem_of_getElem? (i := 115) rfl) rfl)
  · exact (lwm_tables_1_2 (List.mem_of_getElem? (i := 117) rfl) rfl)
  · exact (lwm_tables_1_2 (List.mem_of_getElem? (i := 119) rfl) rfl)
  · exact (lwm_tables_1_2 (List.mem_of_getElem? (i := 121) rfl) rfl)
  · exact (lwm_tables_1_2 (List.mem_of_getElem? (i := 123) rfl) rfl), tyX7_ok, nmX7⟩
theorem cl_X9 : pm_cl 8 RX9 TX9 13 tyX9 := ⟨rfl, fun x hx => by
  have hx : x ∈ ([.laysFinal RX9 "RunsBack" "program" "LRunsBack$Program;", .laysFinal RX9 "RunsBack" "outside" "LRunsBack$Outside;", .laysFinal RX9 "RunsBack" "beside" "LRunsBack$Beside;", .laysFinal RX9 "RunsBack" "marks" "[Z", .laysFinal RX9 "RunsBack" "kept" "[LRunsBack$Run;", .lays RX9 "RunsBack" "keptCount" "I", .lays RX9 "RunsBack" "now" "LRunsBack$Run;", .lays RX9 "RunsBack" "askedNumber" "I", .lays RX9 "RunsBack" "unitToCome" "I", .lays RX9 "RunsBack" "depthToCome" "I", .lays RX9 "RunsBack" "watchedRegisters" "I", .lays RX9 "RunsBack" "watchedCells" "I", .lays RX9 "RunsBack" "latestReplayed" "I"] : List Cond) := hx
  simp only [List.mem_cons, List.not_mem_nil, or_false] at hx
  rcases hx with rfl | rfl | rfl | rfl | rfl | rfl | rfl | rfl | rfl | rfl | rfl | rfl | rfl
  · exact (lwm_tables_1_1 (List.mem_of_getElem? (i := 110) rfl) rfl)
  · exact (lwm_tables_1_1 (List.mem_of_getElem? (i := 112) rfl) rfl)
  · exact (lwm_tables_1_1 (List.mem_of_getElem? (i := 114) rfl) rfl)
  · exact (lwm_tables_1_1 (List.mem_of_getElem? (i := 116) rfl) rfl)
  · exact (lwm_tables_1_1 (List.mem_of_getElem? (i := 118) rfl) rfl)
  · exact (lwm_tables_1_1 (List.mem_of_getElem? (i := 120) rfl) rfl)
  · exact (lwm_tables_1_1 (List.mem_of_getElem? (i := 122) rfl) rfl)
  · exact (lwm_tables_1_1 (List.mem_of_getElem? (i := 124) rfl) rfl)
  · exact (lwm_tables_1_1 (List.mem_of_getElem? (i := 126) rfl) rfl)
  · exact (lwm_tables_1_1 (List.mem_of_getElem? (i := 128) rfl) rfl)
  · exact (lwm_tables_1_1 (List.mem_of_getElem? (i := 130) rfl) rfl)
  · exact (lwm_tables_1_1 (List.mem_of_getElem? (i := 132) rfl) rfl)
  · exact (lwm_tables_1_1 (List.mem_of_getElem? (i := 134) rfl) rfl), tyX9_ok, nmX9⟩
theorem cl_X10 : pm_cl 9 RX10 TX10 55 tyX10 := ⟨rfl, fun x hx => by
  have hx : x ∈ ([.laysFinal RX10 "RunsBackModel" "kinds" "[I", .laysFinal RX10 "RunsBackModel" "as" "[I", .laysFinal RX10 "RunsBackModel" "bs" "[I", .laysFinal RX10 "RunsBackModel" "cs" "[I", .lays RX10 "RunsBackModel" "unit" "I", .lays RX10 "RunsBackModel" "depth" "I", .laysFinal RX10 "RunsBackModel" "isRun" "[Z", .laysFinal RX10 "RunsBackModel" "runKind" "[I", .laysFinal RX10 "RunsBackModel" "runA" "[I", .laysFinal RX10 "RunsBackModel" "runB" "[I", .laysFinal RX10 "RunsBackModel" "runC" "[I", .laysFinal RX10 "RunsBackModel" "logTime" "[I", .laysFinal RX10 "RunsBackModel" "logSort" "[I", .laysFinal RX10 "RunsBackModel" "logNumber" "[I", .laysFinal RX10 "RunsBackModel" "logPlace" "[I", .laysFinal RX10 "RunsBackModel" "logValue" "[I", .laysFinal RX10 "RunsBackModel" "logs" "[I", .laysFinal RX10 "RunsBackModel" "callTime" "[I", .laysFinal RX10 "RunsBackModel" "callTo" "[I", .laysFinal RX10 "RunsBackModel" "callDeep" "[I", .laysFinal RX10 "RunsBackModel" "calls" "[I", .laysFinal RX10 "RunsBackModel" "isHeld" "[Z", .laysFinal RX10 "RunsBackModel" "times" "[I", .laysFinal RX10 "RunsBackModel" "statuses" "[I", .laysFinal RX10 "RunsBackModel" "units" "[I", .laysFinal RX10 "RunsBackModel" "depths" "[I", .laysFinal RX10 "RunsBackModel" "replayed" "[I", .laysFinal RX10 "RunsBackModel" "mostHeld" "[I", .laysFinal RX10 "RunsBackModel" "backs" "[I", .lays RX10 "RunsBackModel" "kept" "I", .lays RX10 "RunsBackModel" "asked" "I", .laysFinal RX10 "RunsBackModel" "live" "[I", .laysFinal RX10 "RunsBackModel" "inputs" "[I", .lays RX10 "RunsBackModel" "waiting" "I", .lays RX10 "RunsBackModel" "x" "I", .lays RX10 "RunsBackModel" "latest" "I", .laysFinal RX10 "RunsBackModel" "isWatched" "[Z", .lays RX10 "RunsBackModel" "trap" "I", .lays RX10 "RunsBackModel" "took" "I", .lays RX10 "RunsBackModel" "put" "I", .laysFinal RX10 "RunsBackModel" "sim" "[I", .lays RX10 "RunsBackModel" "simRun" "I", .lays RX10 "RunsBackModel" "simLog" "I", .laysFinal RX10 "RunsBackModel" "changesWere" "[I", .laysFinal RX10 "RunsBackModel" "rest" "[I", .laysFinal RX10 "RunsBackModel" "looked" "[I", .laysFinal RX10 "RunsBackModel" "pairs" "[I", .lays RX10 "RunsBackModel" "oneRun" "I", .lays RX10 "RunsBackModel" "otherRun" "I", .lays RX10 "RunsBackModel" "pairOne" "I", .lays RX10 "RunsBackModel" "pairOther" "I", .laysFinal RX10 "RunsBackModel" "aside" "[I", .laysFinal RX10 "RunsBackModel" "before" "[I", .lays RX10 "RunsBackModel" "beforeRun" "I", .lays RX10 "RunsBackModel" "beforeLog" "I"] : List Cond) := hx
  simp only [List.mem_cons, List.not_mem_nil, or_false] at hx
  rcases hx with rfl | rfl | rfl | rfl | rfl | rfl | rfl | rfl | rfl | rfl | rfl | rfl | rfl | rfl | rfl | rfl | rfl | rfl | rfl | rfl | rfl | rfl | rfl | rfl | rfl | rfl | rfl | rfl | rfl | rfl | rfl | rfl | rfl | rfl | rfl | rfl | rfl | rfl | rfl | rfl | rfl | rfl | rfl | rfl | rfl | rfl | rfl | rfl | rfl | rfl | rfl | rfl | rfl | rfl | rfl
  · exact (lwm_tables_1_5 (List.mem_of_getElem? (i := 91) rfl) rfl)
  · exact (lwm_tables_1_5 (List.mem_of_getElem? (i := 93) rfl) rfl)
  · exact (lwm_tables_1_5 (List.mem_of_getElem? (i := 95) rfl) rfl)
  · exact (lwm_tables_1_5 (List.mem_of_getElem? (i := 97) rfl) rfl)
  · exact (lwm_tables_1_5 (List.mem_of_getElem? (i := 99) rfl) rfl)
  · exact (lwm_tables_1_5 (List.mem_of_getElem? (i := 101) rfl) rfl)
  · exact (lwm_tables_1_5 (List.mem_of_getElem? (i := 103) rfl) rfl)
  · exact (lwm_tables_1_5 (List.mem_of_getElem? (i := 105) rfl) rfl)
  · exact (lwm_tables_1_5 (List.mem_of_getElem? (i := 107) rfl) rfl)
  · exact (lwm_tables_1_5 (List.mem_of_getElem? (i := 109) rfl) rfl)
  · exact (lwm_tables_1_5 (List.mem_of_getElem? (i := 111) rfl) rfl)
  · exact (lwm_tables_1_5 (List.mem_of_getElem? (i := 113) rfl) rfl)
  · exact (lwm_tables_1_5 (List.mem_of_getElem? (i := 115) rfl) rfl)
  · exact (lwm_tables_1_5 (List.mem_of_getElem? (i := 117) rfl) rfl)
  · exact (lwm_tables_1_5 (List.mem_of_getElem? (i := 119) rfl) rfl)
  · exact (lwm_tables_1_5 (List.mem_of_getElem? (i := 121) rfl) rfl)
  · exact (lwm_tables_1_5 (List.mem_of_getElem? (i := 123) rfl) rfl)
  · exact (lwm_tables_1_5 (List.mem_of_getElem? (i := 125) rfl) rfl)
  · exact (lwm_tables_1_5 (List.mem_of_getElem? (i := 127) rfl) rfl)
  · exact (lwm_tables_1_5 (List.mem_of_getElem? (i := 129) rfl) rfl)
  · exact (lwm_tables_1_5 (List.mem_of_getElem? (i := 131) rfl) rfl)
  · exact (lwm_tables_1_5 (List.mem_of_getElem? (i := 133) rfl) rfl)
  · exact (lwm_tables_1_5 (List.mem_of_getElem? (i := 135) rfl) rfl)
  · exact (lwm_tables_1_5 (List.mem_of_getElem? (i := 137) rfl) rfl)
  · exact (lwm_tables_1_5 (List.mem_of_getElem? (i := 139) rfl) rfl)
  · exact (lwm_tables_1_5 (List.mem_of_getElem? (i := 141) rfl) rfl)
  · exact (lwm_tables_1_5 (List.mem_of_getElem? (i := 143) rfl) rfl)
  · exact (lwm_tables_1_5 (List.mem_of_getElem? (i := 145) rfl) rfl)
  · exact (lwm_tables_1_5 (List.mem_of_getElem? (i := 147) rfl) rfl)
  · exact (lwm_tables_1_5 (List.mem_of_getElem? (i := 149) rfl) rfl)
  · exact (lwm_tables_1_5 (List.mem_of_getElem? (i := 151) rfl) rfl)
  · exact (lwm_tables_1_5 (List.mem_of_getElem? (i := 153) rfl) rfl)
  · exact (lwm_tables_1_5 (List.mem_of_getElem? (i := 155) rfl) rfl)
  · exact (lwm_tables_1_5 (List.mem_of_getElem? (i := 157) rfl) rfl)
  · exact (lwm_tables_1_5 (List.mem_of_getElem? (i := 159) rfl) rfl)
  · exact (lwm_tables_1_5 (List.mem_of_getElem? (i := 161) rfl) rfl)
  · exact (lwm_tables_1_5 (List.mem_of_getElem? (i := 163) rfl) rfl)
  · exact (lwm_tables_1_5 (List.mem_of_getElem? (i := 165) rfl) rfl)
  · exact (lwm_tables_1_5 (List.mem_of_getElem? (i := 167) rfl) rfl)
  · exact (lwm_tables_1_5 (List.mem_of_getElem? (i := 169) rfl) rfl)
  · exact (lwm_tables_1_5 (List.mem_of_getElem? (i := 171) rfl) rfl)
  · exact (lwm_tables_1_5 (List.mem_of_getElem? (i := 173) rfl) rfl)
  · exact (lwm_tables_1_5 (List.mem_of_getElem? (i := 175) rfl) rfl)
  · exact (lwm_tables_1_5 (List.mem_of_getElem? (i := 177) rfl) rfl)
  · exact (lwm_tables_1_5 (List.mem_of_getElem? (i := 179) rfl) rfl)
  · exact (lwm_tables_1_5 (List.mem_of_getElem? (i := 181) rfl) rfl)
  · exact (lwm_tables_1_5 (List.mem_of_getElem? (i := 183) rfl) rfl)
  · exact (lwm_tables_1_5 (List.mem_of_getElem? (i := 185) rfl) rfl)
  · exact (lwm_tables_1_5 (List.mem_of_getElem? (i := 187) rfl) rfl)
  · exact (lwm_tables_1_5 (List.mem_of_getElem? (i := 189) rfl) rfl)
  · exact (lwm_tables_1_5 (List.mem_of_getElem? (i := 191) rfl) rfl)
  · exact (lwm_tables_1_5 (List.mem_of_getElem? (i := 193) rfl) rfl)
  · exact (lwm_tables_1_5 (List.mem_of_getElem? (i := 195) rfl) rfl)
  · exact (lwm_tables_1_5 (List.mem_of_getElem? (i := 197) rfl) rfl)
  · exact (lwm_tables_1_5 (List.mem_of_getElem? (i := 199) rfl) rfl), tyX10_ok, nmX10⟩
theorem fl_X9_12 : pm_fl RX9 12 8 0 (.object "RunsBack$Program") true := ⟨RX9, TX9, 13, tyX9, cl_X9, by decide, (lwm_tables_1_1 (List.mem_of_getElem? (i := 97) rfl) rfl), rfl, rfl, rfl⟩
theorem fl_X9_19 : pm_fl RX9 19 8 1 (.object "RunsBack$Outside") true := ⟨RX9, TX9, 13, tyX9, cl_X9, by decide, (lwm_tables_1_1 (List.mem_of_getElem? (i := 98) rfl) rfl), rfl, rfl, rfl⟩
theorem fl_X9_26 : pm_fl RX9 26 8 2 (.object "RunsBack$Beside") true := ⟨RX9, TX9, 13, tyX9, cl_X9, by decide, (lwm_tables_1_1 (List.mem_of_getElem? (i := 99) rfl) rfl), rfl, rfl, rfl⟩
theorem fl_X9_30 : pm_fl RX9 30 8 3 (.array .boolean) true := ⟨RX9, TX9, 13, tyX9, cl_X9, by decide, (lwm_tables_1_1 (List.mem_of_getElem? (i := 100) rfl) rfl), rfl, rfl, rfl⟩
theorem fl_X9_36 : pm_fl RX9 36 8 4 (.array (.object "RunsBack$Run")) true := ⟨RX9, TX9, 13, tyX9, cl_X9, by decide, (lwm_tables_1_1 (List.mem_of_getElem? (i := 101) rfl) rfl), rfl, rfl, rfl⟩
theorem fl_X9_40 : pm_fl RX9 40 8 5 (.int) false := ⟨RX9, TX9, 13, tyX9, cl_X9, by decide, (lwm_tables_1_1 (List.mem_of_getElem? (i := 102) rfl) rfl), rfl, rfl, rfl⟩
theorem fl_X9_44 : pm_fl RX9 44 8 6 (.object "RunsBack$Run") false := ⟨RX9, TX9, 13, tyX9, cl_X9, by decide, (lwm_tables_1_1 (List.mem_of_getElem? (i := 103) rfl) rfl), rfl, rfl, rfl⟩
theorem fl_X9_48 : pm_fl RX9 48 8 7 (.int) false := ⟨RX9, TX9, 13, tyX9, cl_X9, by decide, (lwm_tables_1_1 (List.mem_of_getElem? (i := 104) rfl) rfl), rfl, rfl, rfl⟩
theorem fl_X9_51 : pm_fl RX9 51 8 8 (.int) false := ⟨RX9, TX9, 13, tyX9, cl_X9, by decide, (lwm_tables_1_1 (List.mem_of_getElem? (i := 105) rfl) rfl), rfl, rfl, rfl⟩
theorem fl_X9_54 : pm_fl RX9 54 8 9 (.int) false := ⟨RX9, TX9, 13, tyX9, cl_X9, by decide, (lwm_tables_1_1 (List.mem_of_getElem? (i := 106) rfl) rfl), rfl, rfl, rfl⟩
theorem fl_X9_57 : pm_fl RX9 57 8 10 (.int) false := ⟨RX9, TX9, 13, tyX9, cl_X9, by decide, (lwm_tables_1_1 (List.mem_of_getElem? (i := 107) rfl) rfl), rfl, rfl, rfl⟩
theorem fl_X9_60 : pm_fl RX9 60 8 11 (.int) false := ⟨RX9, TX9, 13, tyX9, cl_X9, by decide, (lwm_tables_1_1 (List.mem_of_getElem? (i := 108) rfl) rfl), rfl, rfl, rfl⟩
theorem fl_X9_63 : pm_fl RX9 63 8 12 (.int) false := ⟨RX9, TX9, 13, tyX9, cl_X9, by decide, (lwm_tables_1_1 (List.mem_of_getElem? (i := 109) rfl) rfl), rfl, rfl, rfl⟩
theorem fl_X9_96 : pm_fl RX9 96 4 2 (.int) false := ⟨RX4, TX4, 4, tyX4, cl_X4, by decide, (lwm_tables_1_1 (List.mem_of_getElem? (i := 54) rfl) rfl), rfl, rfl, rfl⟩
theorem fl_X9_103 : pm_fl RX9 103 4 3 (.int) false := ⟨RX4, TX4, 4, tyX4, cl_X4, by decide, (lwm_tables_1_1 (List.mem_of_getElem? (i := 57) rfl) rfl), rfl, rfl, rfl⟩
theorem fl_X9_106 : pm_fl RX9 106 7 1 (.object "RunsBack$Log") true := ⟨RX7, TX7, 15, tyX7, cl_X7, by decide, (lwm_tables_1_2 (List.mem_of_getElem? (i := 67) rfl) rfl), rfl, rfl, rfl⟩
theorem fl_X9_135 : pm_fl RX9 135 7 11 (.int) false := ⟨RX7, TX7, 15, tyX7, cl_X7, by decide, (lwm_tables_1_2 (List.mem_of_getElem? (i := 88) rfl) rfl), rfl, rfl, rfl⟩
theorem fl_X9_141 : pm_fl RX9 141 7 9 (.int) false := ⟨RX7, TX7, 15, tyX7, cl_X7, by decide, (lwm_tables_1_2 (List.mem_of_getElem? (i := 84) rfl) rfl), rfl, rfl, rfl⟩
theorem fl_X9_169 : pm_fl RX9 169 7 2 (.object "RunsBack$Puts") true := ⟨RX7, TX7, 15, tyX7, cl_X7, by decide, (lwm_tables_1_2 (List.mem_of_getElem? (i := 71) rfl) rfl), rfl, rfl, rfl⟩
theorem fl_X9_204 : pm_fl RX9 204 7 0 (.object "RunsBack$Program") true := ⟨RX7, TX7, 15, tyX7, cl_X7, by decide, (lwm_tables_1_2 (List.mem_of_getElem? (i := 65) rfl) rfl), rfl, rfl, rfl⟩
theorem fl_X9_219 : pm_fl RX9 219 7 4 (.object "RunsBack$Holding") true := ⟨RX7, TX7, 15, tyX7, cl_X7, by decide, (lwm_tables_1_2 (List.mem_of_getElem? (i := 76) rfl) rfl), rfl, rfl, rfl⟩
theorem fl_X9_266 : pm_fl RX9 266 7 3 (.object "RunsBack$Calls") true := ⟨RX7, TX7, 15, tyX7, cl_X7, by decide, (lwm_tables_1_2 (List.mem_of_getElem? (i := 74) rfl) rfl), rfl, rfl, rfl⟩
theorem fl_X9_270 : pm_fl RX9 270 1 3 (.int) false := ⟨RX1, TX1, 4, tyX1, cl_X1, by decide, (lwm_tables_1_2 (List.mem_of_getElem? (i := 27) rfl) rfl), rfl, rfl, rfl⟩
theorem fl_X9_277 : pm_fl RX9 277 3 5 (.int) false := ⟨RX3, TX3, 6, tyX3, cl_X3, by decide, (lwm_tables_1_1 (List.mem_of_getElem? (i := 196) rfl) rfl), rfl, rfl, rfl⟩
theorem fl_X9_279 : pm_fl RX9 279 2 1 (.int) false := ⟨RX2, TX2, 5, tyX2, cl_X2, by decide, (lwm_tables_1_2 (List.mem_of_getElem? (i := 45) rfl) rfl), rfl, rfl, rfl⟩
theorem fl_X9_300 : pm_fl RX9 300 0 3 (.int) false := ⟨RX0, TX0, 6, tyX0, cl_X0, by decide, (lwm_tables_1_1 (List.mem_of_getElem? (i := 79) rfl) rfl), rfl, rfl, rfl⟩
theorem fl_X9_322 : pm_fl RX9 322 7 14 (.int) false := ⟨RX7, TX7, 15, tyX7, cl_X7, by decide, (lwm_tables_1_2 (List.mem_of_getElem? (i := 94) rfl) rfl), rfl, rfl, rfl⟩
theorem fl_X9_325 : pm_fl RX9 325 7 12 (.int) false := ⟨RX7, TX7, 15, tyX7, cl_X7, by decide, (lwm_tables_1_2 (List.mem_of_getElem? (i := 90) rfl) rfl), rfl, rfl, rfl⟩
theorem fl_X9_328 : pm_fl RX9 328 2 2 (.int) false := ⟨RX2, TX2, 5, tyX2, cl_X2, by decide, (lwm_tables_1_2 (List.mem_of_getElem? (i := 47) rfl) rfl), rfl, rfl, rfl⟩
theorem fl_X9_331 : pm_fl RX9 331 2 3 (.int) false := ⟨RX2, TX2, 5, tyX2, cl_X2, by decide, (lwm_tables_1_2 (List.mem_of_getElem? (i := 49) rfl) rfl), rfl, rfl, rfl⟩
theorem fl_X9_334 : pm_fl RX9 334 2 4 (.int) false := ⟨RX2, TX2, 5, tyX2, cl_X2, by decide, (lwm_tables_1_2 (List.mem_of_getElem? (i := 51) rfl) rfl), rfl, rfl, rfl⟩
theorem fl_X9_337 : pm_fl RX9 337 7 13 (.int) false := ⟨RX7, TX7, 15, tyX7, cl_X7, by decide, (lwm_tables_1_2 (List.mem_of_getElem? (i := 92) rfl) rfl), rfl, rfl, rfl⟩
theorem sl_X9_349 : Cond.fieldLink RX9 349 "RunsBack" "ASKS_OF_A" "[I" ∈ lw_g := (lwm_tables_1_1 (List.mem_of_getElem? (i := 148) rfl) rfl)
theorem sl_X9_353 : Cond.fieldLink RX9 353 "RunsBack" "ASKS_OF_B" "[I" ∈ lw_g := (lwm_tables_1_1 (List.mem_of_getElem? (i := 150) rfl) rfl)
theorem sl_X9_356 : Cond.fieldLink RX9 356 "RunsBack" "ASKS_OF_C" "[I" ∈ lw_g := (lwm_tables_1_1 (List.mem_of_getElem? (i := 152) rfl) rfl)
theorem fl_X0_11 : pm_fl RX0 11 0 0 (.array (.array .int)) true := ⟨RX0, TX0, 6, tyX0, cl_X0, by decide, (lwm_tables_1_1 (List.mem_of_getElem? (i := 75) rfl) rfl), rfl, rfl, rfl⟩
theorem fl_X0_16 : pm_fl RX0 16 0 1 (.array .int) true := ⟨RX0, TX0, 6, tyX0, cl_X0, by decide, (lwm_tables_1_1 (List.mem_of_getElem? (i := 76) rfl) rfl), rfl, rfl, rfl⟩
theorem fl_X0_20 : pm_fl RX0 20 0 2 (.array .int) true := ⟨RX0, TX0, 6, tyX0, cl_X0, by decide, (lwm_tables_1_1 (List.mem_of_getElem? (i := 77) rfl) rfl), rfl, rfl, rfl⟩
theorem fl_X0_23 : pm_fl RX0 23 0 3 (.int) false := ⟨RX0, TX0, 6, tyX0, cl_X0, by decide, (lwm_tables_1_1 (List.mem_of_getElem? (i := 78) rfl) rfl), rfl, rfl, rfl⟩
theorem fl_X0_27 : pm_fl RX0 27 0 4 (.array .int) true := ⟨RX0, TX0, 6, tyX0, cl_X0, by decide, (lwm_tables_1_1 (List.mem_of_getElem? (i := 80) rfl) rfl), rfl, rfl, rfl⟩
theorem fl_X0_30 : pm_fl RX0 30 0 5 (.array .int) true := ⟨RX0, TX0, 6, tyX0, cl_X0, by decide, (lwm_tables_1_1 (List.mem_of_getElem? (i := 81) rfl) rfl), rfl, rfl, rfl⟩
theorem fl_X0_37 : pm_fl RX0 37 1 3 (.int) false := ⟨RX1, TX1, 4, tyX1, cl_X1, by decide, (lwm_tables_1_2 (List.mem_of_getElem? (i := 26) rfl) rfl), rfl, rfl, rfl⟩
theorem fl_X0_68 : pm_fl RX0 68 7 9 (.int) false := ⟨RX7, TX7, 15, tyX7, cl_X7, by decide, (lwm_tables_1_2 (List.mem_of_getElem? (i := 82) rfl) rfl), rfl, rfl, rfl⟩
theorem fl_X0_73 : pm_fl RX0 73 7 2 (.object "RunsBack$Puts") true := ⟨RX7, TX7, 15, tyX7, cl_X7, by decide, (lwm_tables_1_2 (List.mem_of_getElem? (i := 70) rfl) rfl), rfl, rfl, rfl⟩
theorem fl_X0_93 : pm_fl RX0 93 6 11 (.int) false := ⟨RX6, TX6, 12, tyX6, cl_X6, by decide, (lwm_tables_1_1 (List.mem_of_getElem? (i := 229) rfl) rfl), rfl, rfl, rfl⟩
theorem fl_X1_9 : pm_fl RX1 9 1 3 (.int) false := ⟨RX1, TX1, 4, tyX1, cl_X1, by decide, (lwm_tables_1_2 (List.mem_of_getElem? (i := 24) rfl) rfl), rfl, rfl, rfl⟩
theorem fl_X1_15 : pm_fl RX1 15 1 0 (.array .int) true := ⟨RX1, TX1, 4, tyX1, cl_X1, by decide, (lwm_tables_1_2 (List.mem_of_getElem? (i := 21) rfl) rfl), rfl, rfl, rfl⟩
theorem fl_X1_19 : pm_fl RX1 19 1 1 (.array .int) true := ⟨RX1, TX1, 4, tyX1, cl_X1, by decide, (lwm_tables_1_2 (List.mem_of_getElem? (i := 22) rfl) rfl), rfl, rfl, rfl⟩
theorem fl_X1_22 : pm_fl RX1 22 1 2 (.array .int) true := ⟨RX1, TX1, 4, tyX1, cl_X1, by decide, (lwm_tables_1_2 (List.mem_of_getElem? (i := 23) rfl) rfl), rfl, rfl, rfl⟩
theorem fl_X2_9 : pm_fl RX2 9 2 1 (.int) false := ⟨RX2, TX2, 5, tyX2, cl_X2, by decide, (lwm_tables_1_2 (List.mem_of_getElem? (i := 44) rfl) rfl), rfl, rfl, rfl⟩
theorem fl_X2_15 : pm_fl RX2 15 2 2 (.int) false := ⟨RX2, TX2, 5, tyX2, cl_X2, by decide, (lwm_tables_1_2 (List.mem_of_getElem? (i := 46) rfl) rfl), rfl, rfl, rfl⟩
theorem fl_X2_18 : pm_fl RX2 18 2 3 (.int) false := ⟨RX2, TX2, 5, tyX2, cl_X2, by decide, (lwm_tables_1_2 (List.mem_of_getElem? (i := 48) rfl) rfl), rfl, rfl, rfl⟩
theorem fl_X2_21 : pm_fl RX2 21 2 4 (.int) false := ⟨RX2, TX2, 5, tyX2, cl_X2, by decide, (lwm_tables_1_2 (List.mem_of_getElem? (i := 50) rfl) rfl), rfl, rfl, rfl⟩
theorem fl_X2_24 : pm_fl RX2 24 2 0 (.array .int) true := ⟨RX2, TX2, 5, tyX2, cl_X2, by decide, (lwm_tables_1_2 (List.mem_of_getElem? (i := 43) rfl) rfl), rfl, rfl, rfl⟩
theorem fl_X3_9 : pm_fl RX3 9 3 5 (.int) false := ⟨RX3, TX3, 6, tyX3, cl_X3, by decide, (lwm_tables_1_1 (List.mem_of_getElem? (i := 194) rfl) rfl), rfl, rfl, rfl⟩
theorem fl_X3_15 : pm_fl RX3 15 3 0 (.array .int) true := ⟨RX3, TX3, 6, tyX3, cl_X3, by decide, (lwm_tables_1_1 (List.mem_of_getElem? (i := 189) rfl) rfl), rfl, rfl, rfl⟩
theorem fl_X3_19 : pm_fl RX3 19 3 1 (.array .int) true := ⟨RX3, TX3, 6, tyX3, cl_X3, by decide, (lwm_tables_1_1 (List.mem_of_getElem? (i := 190) rfl) rfl), rfl, rfl, rfl⟩
theorem fl_X3_22 : pm_fl RX3 22 3 2 (.array .int) true := ⟨RX3, TX3, 6, tyX3, cl_X3, by decide, (lwm_tables_1_1 (List.mem_of_getElem? (i := 191) rfl) rfl), rfl, rfl, rfl⟩
theorem fl_X3_25 : pm_fl RX3 25 3 3 (.array .int) true := ⟨RX3, TX3, 6, tyX3, cl_X3, by decide, (lwm_tables_1_1 (List.mem_of_getElem? (i := 192) rfl) rfl), rfl, rfl, rfl⟩
theorem fl_X3_28 : pm_fl RX3 28 3 4 (.array .int) true := ⟨RX3, TX3, 6, tyX3, cl_X3, by decide, (lwm_tables_1_1 (List.mem_of_getElem? (i := 193) rfl) rfl), rfl, rfl, rfl⟩
theorem fl_X4_9 : pm_fl RX4 9 4 0 (.array .int) true := ⟨RX4, TX4, 4, tyX4, cl_X4, by decide, (lwm_tables_1_1 (List.mem_of_getElem? (i := 51) rfl) rfl), rfl, rfl, rfl⟩
theorem fl_X4_15 : pm_fl RX4 15 4 1 (.int) false := ⟨RX4, TX4, 4, tyX4, cl_X4, by decide, (lwm_tables_1_1 (List.mem_of_getElem? (i := 52) rfl) rfl), rfl, rfl, rfl⟩
theorem fl_X4_19 : pm_fl RX4 19 4 2 (.int) false := ⟨RX4, TX4, 4, tyX4, cl_X4, by decide, (lwm_tables_1_1 (List.mem_of_getElem? (i := 53) rfl) rfl), rfl, rfl, rfl⟩
theorem fl_X4_22 : pm_fl RX4 22 4 3 (.int) false := ⟨RX4, TX4, 4, tyX4, cl_X4, by decide, (lwm_tables_1_1 (List.mem_of_getElem? (i := 56) rfl) rfl), rfl, rfl, rfl⟩
theorem fl_X5_9 : pm_fl RX5 9 5 0 (.array .int) true := ⟨RX5, TX5, 4, tyX5, cl_X5, by decide, (lwm_tables_1_1 (List.mem_of_getElem? (i := 31) rfl) rfl), rfl, rfl, rfl⟩
theorem fl_X5_15 : pm_fl RX5 15 5 1 (.array .int) true := ⟨RX5, TX5, 4, tyX5, cl_X5, by decide, (lwm_tables_1_1 (List.mem_of_getElem? (i := 32) rfl) rfl), rfl, rfl, rfl⟩
theorem fl_X5_18 : pm_fl RX5 18 5 2 (.array .int) true := ⟨RX5, TX5, 4, tyX5, cl_X5, by decide, (lwm_tables_1_1 (List.mem_of_getElem? (i := 33) rfl) rfl), rfl, rfl, rfl⟩
theorem fl_X5_21 : pm_fl RX5 21 5 3 (.array .int) true := ⟨RX5, TX5, 4, tyX5, cl_X5, by decide, (lwm_tables_1_1 (List.mem_of_getElem? (i := 34) rfl) rfl), rfl, rfl, rfl⟩
theorem fl_X6_9 : pm_fl RX6 9 6 11 (.int) false := ⟨RX6, TX6, 12, tyX6, cl_X6, by decide, (lwm_tables_1_1 (List.mem_of_getElem? (i := 228) rfl) rfl), rfl, rfl, rfl⟩
theorem fl_X6_15 : pm_fl RX6 15 6 0 (.array .int) true := ⟨RX6, TX6, 12, tyX6, cl_X6, by decide, (lwm_tables_1_1 (List.mem_of_getElem? (i := 217) rfl) rfl), rfl, rfl, rfl⟩
theorem fl_X6_19 : pm_fl RX6 19 6 1 (.array .int) true := ⟨RX6, TX6, 12, tyX6, cl_X6, by decide, (lwm_tables_1_1 (List.mem_of_getElem? (i := 218) rfl) rfl), rfl, rfl, rfl⟩
theorem fl_X6_22 : pm_fl RX6 22 6 2 (.array .int) true := ⟨RX6, TX6, 12, tyX6, cl_X6, by decide, (lwm_tables_1_1 (List.mem_of_getElem? (i := 219) rfl) rfl), rfl, rfl, rfl⟩
theorem fl_X6_25 : pm_fl RX6 25 6 3 (.array .int) true := ⟨RX6, TX6, 12, tyX6, cl_X6, by decide, (lwm_tables_1_1 (List.mem_of_getElem? (i := 220) rfl) rfl), rfl, rfl, rfl⟩
theorem fl_X6_28 : pm_fl RX6 28 6 4 (.array .int) true := ⟨RX6, TX6, 12, tyX6, cl_X6, by decide, (lwm_tables_1_1 (List.mem_of_getElem? (i := 221) rfl) rfl), rfl, rfl, rfl⟩
theorem fl_X6_31 : pm_fl RX6 31 6 5 (.array .int) true := ⟨RX6, TX6, 12, tyX6, cl_X6, by decide, (lwm_tables_1_1 (List.mem_of_getElem? (i := 222) rfl) rfl), rfl, rfl, rfl⟩
theorem fl_X6_34 : pm_fl RX6 34 6 6 (.array .int) true := ⟨RX6, TX6, 12, tyX6, cl_X6, by decide, (lwm_tables_1_1 (List.mem_of_getElem? (i := 223) rfl) rfl), rfl, rfl, rfl⟩
theorem fl_X6_37 : pm_fl RX6 37 6 7 (.array .int) true := ⟨RX6, TX6, 12, tyX6, cl_X6, by decide, (lwm_tables_1_1 (List.mem_of_getElem? (i := 224) rfl) rfl), rfl, rfl, rfl⟩
theorem fl_X6_40 : pm_fl RX6 40 6 8 (.array .int) true := ⟨RX6, TX6, 12, tyX6, cl_X6, by decide, (lwm_tables_1_1 (List.mem_of_getElem? (i := 225) rfl) rfl), rfl, rfl, rfl⟩
theorem fl_X6_43 : pm_fl RX6 43 6 9 (.array .int) true := ⟨RX6, TX6, 12, tyX6, cl_X6, by decide, (lwm_tables_1_1 (List.mem_of_getElem? (i := 226) rfl) rfl), rfl, rfl, rfl⟩
theorem fl_X6_46 : pm_fl RX6 46 6 10 (.array .int) true := ⟨RX6, TX6, 12, tyX6, cl_X6, by decide, (lwm_tables_1_1 (List.mem_of_getElem? (i := 227) rfl) rfl), rfl, rfl, rfl⟩
theorem fl_X7_12 : pm_fl RX7 12 7 0 (.object "RunsBack$Program") true := ⟨RX7, TX7, 15, tyX7, cl_X7, by decide, (lwm_tables_1_2 (List.mem_of_getElem? (i := 63) rfl) rfl), rfl, rfl, rfl⟩
theorem fl_X7_18 : pm_fl RX7 18 7 9 (.int) false := ⟨RX7, TX7, 15, tyX7, cl_X7, by decide, (lwm_tables_1_2 (List.mem_of_getElem? (i := 81) rfl) rfl), rfl, rfl, rfl⟩
theorem fl_X7_22 : pm_fl RX7 22 7 10 (.int) false := ⟨RX7, TX7, 15, tyX7, cl_X7, by decide, (lwm_tables_1_2 (List.mem_of_getElem? (i := 85) rfl) rfl), rfl, rfl, rfl⟩
theorem fl_X7_25 : pm_fl RX7 25 7 11 (.int) false := ⟨RX7, TX7, 15, tyX7, cl_X7, by decide, (lwm_tables_1_2 (List.mem_of_getElem? (i := 87) rfl) rfl), rfl, rfl, rfl⟩
theorem fl_X7_28 : pm_fl RX7 28 7 12 (.int) false := ⟨RX7, TX7, 15, tyX7, cl_X7, by decide, (lwm_tables_1_2 (List.mem_of_getElem? (i := 89) rfl) rfl), rfl, rfl, rfl⟩
theorem fl_X7_31 : pm_fl RX7 31 7 13 (.int) false := ⟨RX7, TX7, 15, tyX7, cl_X7, by decide, (lwm_tables_1_2 (List.mem_of_getElem? (i := 91) rfl) rfl), rfl, rfl, rfl⟩
theorem fl_X7_34 : pm_fl RX7 34 7 14 (.int) false := ⟨RX7, TX7, 15, tyX7, cl_X7, by decide, (lwm_tables_1_2 (List.mem_of_getElem? (i := 93) rfl) rfl), rfl, rfl, rfl⟩
theorem fl_X7_40 : pm_fl RX7 40 7 1 (.object "RunsBack$Log") true := ⟨RX7, TX7, 15, tyX7, cl_X7, by decide, (lwm_tables_1_2 (List.mem_of_getElem? (i := 66) rfl) rfl), rfl, rfl, rfl⟩
theorem fl_X7_47 : pm_fl RX7 47 7 2 (.object "RunsBack$Puts") true := ⟨RX7, TX7, 15, tyX7, cl_X7, by decide, (lwm_tables_1_2 (List.mem_of_getElem? (i := 68) rfl) rfl), rfl, rfl, rfl⟩
theorem fl_X7_54 : pm_fl RX7 54 7 3 (.object "RunsBack$Calls") true := ⟨RX7, TX7, 15, tyX7, cl_X7, by decide, (lwm_tables_1_2 (List.mem_of_getElem? (i := 72) rfl) rfl), rfl, rfl, rfl⟩
theorem fl_X7_61 : pm_fl RX7 61 7 4 (.object "RunsBack$Holding") true := ⟨RX7, TX7, 15, tyX7, cl_X7, by decide, (lwm_tables_1_2 (List.mem_of_getElem? (i := 75) rfl) rfl), rfl, rfl, rfl⟩
theorem fl_X7_65 : pm_fl RX7 65 7 5 (.array .int) true := ⟨RX7, TX7, 15, tyX7, cl_X7, by decide, (lwm_tables_1_2 (List.mem_of_getElem? (i := 77) rfl) rfl), rfl, rfl, rfl⟩
theorem fl_X7_69 : pm_fl RX7 69 7 6 (.array .int) true := ⟨RX7, TX7, 15, tyX7, cl_X7, by decide, (lwm_tables_1_2 (List.mem_of_getElem? (i := 78) rfl) rfl), rfl, rfl, rfl⟩
theorem fl_X7_72 : pm_fl RX7 72 7 7 (.array .int) true := ⟨RX7, TX7, 15, tyX7, cl_X7, by decide, (lwm_tables_1_2 (List.mem_of_getElem? (i := 79) rfl) rfl), rfl, rfl, rfl⟩
theorem fl_X7_75 : pm_fl RX7 75 7 8 (.array .int) true := ⟨RX7, TX7, 15, tyX7, cl_X7, by decide, (lwm_tables_1_2 (List.mem_of_getElem? (i := 80) rfl) rfl), rfl, rfl, rfl⟩
theorem fl_X7_99 : pm_fl RX7 99 3 5 (.int) false := ⟨RX3, TX3, 6, tyX3, cl_X3, by decide, (lwm_tables_1_1 (List.mem_of_getElem? (i := 195) rfl) rfl), rfl, rfl, rfl⟩
theorem fl_X7_105 : pm_fl RX7 105 1 3 (.int) false := ⟨RX1, TX1, 4, tyX1, cl_X1, by decide, (lwm_tables_1_2 (List.mem_of_getElem? (i := 25) rfl) rfl), rfl, rfl, rfl⟩
theorem fl_X7_132 : pm_fl RX7 132 4 2 (.int) false := ⟨RX4, TX4, 4, tyX4, cl_X4, by decide, (lwm_tables_1_1 (List.mem_of_getElem? (i := 55) rfl) rfl), rfl, rfl, rfl⟩
theorem fl_X8_9 : pm_fl RX8 9 7 0 (.object "RunsBack$Program") true := ⟨RX7, TX7, 15, tyX7, cl_X7, by decide, (lwm_tables_1_2 (List.mem_of_getElem? (i := 64) rfl) rfl), rfl, rfl, rfl⟩
theorem fl_X8_30 : pm_fl RX8 30 7 10 (.int) false := ⟨RX7, TX7, 15, tyX7, cl_X7, by decide, (lwm_tables_1_2 (List.mem_of_getElem? (i := 86) rfl) rfl), rfl, rfl, rfl⟩
theorem fl_X8_38 : pm_fl RX8 38 7 2 (.object "RunsBack$Puts") true := ⟨RX7, TX7, 15, tyX7, cl_X7, by decide, (lwm_tables_1_2 (List.mem_of_getElem? (i := 69) rfl) rfl), rfl, rfl, rfl⟩
theorem fl_X8_117 : pm_fl RX8 117 7 9 (.int) false := ⟨RX7, TX7, 15, tyX7, cl_X7, by decide, (lwm_tables_1_2 (List.mem_of_getElem? (i := 83) rfl) rfl), rfl, rfl, rfl⟩
theorem fl_X8_123 : pm_fl RX8 123 7 3 (.object "RunsBack$Calls") true := ⟨RX7, TX7, 15, tyX7, cl_X7, by decide, (lwm_tables_1_2 (List.mem_of_getElem? (i := 73) rfl) rfl), rfl, rfl, rfl⟩
theorem fl_X10_7 : pm_fl RX10 7 9 0 (.array .int) true := ⟨RX10, TX10, 55, tyX10, cl_X10, by decide, (lwm_tables_1_5 (List.mem_of_getElem? (i := 36) rfl) rfl), rfl, rfl, rfl⟩
theorem fl_X10_13 : pm_fl RX10 13 9 1 (.array .int) true := ⟨RX10, TX10, 55, tyX10, cl_X10, by decide, (lwm_tables_1_5 (List.mem_of_getElem? (i := 37) rfl) rfl), rfl, rfl, rfl⟩
theorem fl_X10_16 : pm_fl RX10 16 9 2 (.array .int) true := ⟨RX10, TX10, 55, tyX10, cl_X10, by decide, (lwm_tables_1_5 (List.mem_of_getElem? (i := 38) rfl) rfl), rfl, rfl, rfl⟩
theorem fl_X10_19 : pm_fl RX10 19 9 3 (.array .int) true := ⟨RX10, TX10, 55, tyX10, cl_X10, by decide, (lwm_tables_1_5 (List.mem_of_getElem? (i := 39) rfl) rfl), rfl, rfl, rfl⟩
theorem fl_X10_22 : pm_fl RX10 22 9 4 (.int) false := ⟨RX10, TX10, 55, tyX10, cl_X10, by decide, (lwm_tables_1_5 (List.mem_of_getElem? (i := 40) rfl) rfl), rfl, rfl, rfl⟩
theorem fl_X10_26 : pm_fl RX10 26 9 5 (.int) false := ⟨RX10, TX10, 55, tyX10, cl_X10, by decide, (lwm_tables_1_5 (List.mem_of_getElem? (i := 41) rfl) rfl), rfl, rfl, rfl⟩
theorem fl_X10_29 : pm_fl RX10 29 9 6 (.array .boolean) true := ⟨RX10, TX10, 55, tyX10, cl_X10, by decide, (lwm_tables_1_5 (List.mem_of_getElem? (i := 42) rfl) rfl), rfl, rfl, rfl⟩
theorem fl_X10_33 : pm_fl RX10 33 9 7 (.array .int) true := ⟨RX10, TX10, 55, tyX10, cl_X10, by decide, (lwm_tables_1_5 (List.mem_of_getElem? (i := 43) rfl) rfl), rfl, rfl, rfl⟩
theorem fl_X10_36 : pm_fl RX10 36 9 8 (.array .int) true := ⟨RX10, TX10, 55, tyX10, cl_X10, by decide, (lwm_tables_1_5 (List.mem_of_getElem? (i := 44) rfl) rfl), rfl, rfl, rfl⟩
theorem fl_X10_39 : pm_fl RX10 39 9 9 (.array .int) true := ⟨RX10, TX10, 55, tyX10, cl_X10, by decide, (lwm_tables_1_5 (List.mem_of_getElem? (i := 45) rfl) rfl), rfl, rfl, rfl⟩
theorem fl_X10_42 : pm_fl RX10 42 9 10 (.array .int) true := ⟨RX10, TX10, 55, tyX10, cl_X10, by decide, (lwm_tables_1_5 (List.mem_of_getElem? (i := 46) rfl) rfl), rfl, rfl, rfl⟩
theorem fl_X10_45 : pm_fl RX10 45 9 11 (.array .int) true := ⟨RX10, TX10, 55, tyX10, cl_X10, by decide, (lwm_tables_1_5 (List.mem_of_getElem? (i := 47) rfl) rfl), rfl, rfl, rfl⟩
theorem fl_X10_48 : pm_fl RX10 48 9 12 (.array .int) true := ⟨RX10, TX10, 55, tyX10, cl_X10, by decide, (lwm_tables_1_5 (List.mem_of_getElem? (i := 48) rfl) rfl), rfl, rfl, rfl⟩
theorem fl_X10_51 : pm_fl RX10 51 9 13 (.array .int) true := ⟨RX10, TX10, 55, tyX10, cl_X10, by decide, (lwm_tables_1_5 (List.mem_of_getElem? (i := 49) rfl) rfl), rfl, rfl, rfl⟩
theorem fl_X10_54 : pm_fl RX10 54 9 14 (.array .int) true := ⟨RX10, TX10, 55, tyX10, cl_X10, by decide, (lwm_tables_1_5 (List.mem_of_getElem? (i := 50) rfl) rfl), rfl, rfl, rfl⟩
theorem fl_X10_57 : pm_fl RX10 57 9 15 (.array .int) true := ⟨RX10, TX10, 55, tyX10, cl_X10, by decide, (lwm_tables_1_5 (List.mem_of_getElem? (i := 51) rfl) rfl), rfl, rfl, rfl⟩
theorem fl_X10_60 : pm_fl RX10 60 9 16 (.array .int) true := ⟨RX10, TX10, 55, tyX10, cl_X10, by decide, (lwm_tables_1_5 (List.mem_of_getElem? (i := 52) rfl) rfl), rfl, rfl, rfl⟩
theorem fl_X10_63 : pm_fl RX10 63 9 17 (.array .int) true := ⟨RX10, TX10, 55, tyX10, cl_X10, by decide, (lwm_tables_1_5 (List.mem_of_getElem? (i := 53) rfl) rfl), rfl, rfl, rfl⟩
theorem fl_X10_66 : pm_fl RX10 66 9 18 (.array .int) true := ⟨RX10, TX10, 55, tyX10, cl_X10, by decide, (lwm_tables_1_5 (List.mem_of_getElem? (i := 54) rfl) rfl), rfl, rfl, rfl⟩
theorem fl_X10_69 : pm_fl RX10 69 9 19 (.array .int) true := ⟨RX10, TX10, 55, tyX10, cl_X10, by decide, (lwm_tables_1_5 (List.mem_of_getElem? (i := 55) rfl) rfl), rfl, rfl, rfl⟩
theorem fl_X10_72 : pm_fl RX10 72 9 20 (.array .int) true := ⟨RX10, TX10, 55, tyX10, cl_X10, by decide, (lwm_tables_1_5 (List.mem_of_getElem? (i := 56) rfl) rfl), rfl, rfl, rfl⟩
theorem fl_X10_75 : pm_fl RX10 75 9 21 (.array .boolean) true := ⟨RX10, TX10, 55, tyX10, cl_X10, by decide, (lwm_tables_1_5 (List.mem_of_getElem? (i := 57) rfl) rfl), rfl, rfl, rfl⟩
theorem fl_X10_78 : pm_fl RX10 78 9 22 (.array .int) true := ⟨RX10, TX10, 55, tyX10, cl_X10, by decide, (lwm_tables_1_5 (List.mem_of_getElem? (i := 58) rfl) rfl), rfl, rfl, rfl⟩
theorem fl_X10_81 : pm_fl RX10 81 9 23 (.array .int) true := ⟨RX10, TX10, 55, tyX10, cl_X10, by decide, (lwm_tables_1_5 (List.mem_of_getElem? (i := 59) rfl) rfl), rfl, rfl, rfl⟩
theorem fl_X10_84 : pm_fl RX10 84 9 24 (.array .int) true := ⟨RX10, TX10, 55, tyX10, cl_X10, by decide, (lwm_tables_1_5 (List.mem_of_getElem? (i := 60) rfl) rfl), rfl, rfl, rfl⟩
theorem fl_X10_87 : pm_fl RX10 87 9 25 (.array .int) true := ⟨RX10, TX10, 55, tyX10, cl_X10, by decide, (lwm_tables_1_5 (List.mem_of_getElem? (i := 61) rfl) rfl), rfl, rfl, rfl⟩
theorem fl_X10_90 : pm_fl RX10 90 9 26 (.array .int) true := ⟨RX10, TX10, 55, tyX10, cl_X10, by decide, (lwm_tables_1_5 (List.mem_of_getElem? (i := 62) rfl) rfl), rfl, rfl, rfl⟩
theorem fl_X10_93 : pm_fl RX10 93 9 27 (.array .int) true := ⟨RX10, TX10, 55, tyX10, cl_X10, by decide, (lwm_tables_1_5 (List.mem_of_getElem? (i := 63) rfl) rfl), rfl, rfl, rfl⟩
theorem fl_X10_96 : pm_fl RX10 96 9 28 (.array .int) true := ⟨RX10, TX10, 55, tyX10, cl_X10, by decide, (lwm_tables_1_5 (List.mem_of_getElem? (i := 64) rfl) rfl), rfl, rfl, rfl⟩
theorem fl_X10_99 : pm_fl RX10 99 9 30 (.int) false := ⟨RX10, TX10, 55, tyX10, cl_X10, by decide, (lwm_tables_1_5 (List.mem_of_getElem? (i := 66) rfl) rfl), rfl, rfl, rfl⟩
theorem fl_X10_102 : pm_fl RX10 102 9 31 (.array .int) true := ⟨RX10, TX10, 55, tyX10, cl_X10, by decide, (lwm_tables_1_5 (List.mem_of_getElem? (i := 67) rfl) rfl), rfl, rfl, rfl⟩
theorem fl_X10_105 : pm_fl RX10 105 9 32 (.array .int) true := ⟨RX10, TX10, 55, tyX10, cl_X10, by decide, (lwm_tables_1_5 (List.mem_of_getElem? (i := 68) rfl) rfl), rfl, rfl, rfl⟩
theorem fl_X10_108 : pm_fl RX10 108 9 34 (.int) false := ⟨RX10, TX10, 55, tyX10, cl_X10, by decide, (lwm_tables_1_5 (List.mem_of_getElem? (i := 70) rfl) rfl), rfl, rfl, rfl⟩
theorem fl_X10_111 : pm_fl RX10 111 9 36 (.array .boolean) true := ⟨RX10, TX10, 55, tyX10, cl_X10, by decide, (lwm_tables_1_5 (List.mem_of_getElem? (i := 72) rfl) rfl), rfl, rfl, rfl⟩
theorem fl_X10_114 : pm_fl RX10 114 9 40 (.array .int) true := ⟨RX10, TX10, 55, tyX10, cl_X10, by decide, (lwm_tables_1_5 (List.mem_of_getElem? (i := 76) rfl) rfl), rfl, rfl, rfl⟩
theorem fl_X10_117 : pm_fl RX10 117 9 41 (.int) false := ⟨RX10, TX10, 55, tyX10, cl_X10, by decide, (lwm_tables_1_5 (List.mem_of_getElem? (i := 77) rfl) rfl), rfl, rfl, rfl⟩
theorem fl_X10_120 : pm_fl RX10 120 9 43 (.array .int) true := ⟨RX10, TX10, 55, tyX10, cl_X10, by decide, (lwm_tables_1_5 (List.mem_of_getElem? (i := 79) rfl) rfl), rfl, rfl, rfl⟩
theorem fl_X10_123 : pm_fl RX10 123 9 44 (.array .int) true := ⟨RX10, TX10, 55, tyX10, cl_X10, by decide, (lwm_tables_1_5 (List.mem_of_getElem? (i := 80) rfl) rfl), rfl, rfl, rfl⟩
theorem fl_X10_126 : pm_fl RX10 126 9 45 (.array .int) true := ⟨RX10, TX10, 55, tyX10, cl_X10, by decide, (lwm_tables_1_5 (List.mem_of_getElem? (i := 81) rfl) rfl), rfl, rfl, rfl⟩
theorem fl_X10_129 : pm_fl RX10 129 9 46 (.array .int) true := ⟨RX10, TX10, 55, tyX10, cl_X10, by decide, (lwm_tables_1_5 (List.mem_of_getElem? (i := 82) rfl) rfl), rfl, rfl, rfl⟩
theorem fl_X10_132 : pm_fl RX10 132 9 51 (.array .int) true := ⟨RX10, TX10, 55, tyX10, cl_X10, by decide, (lwm_tables_1_5 (List.mem_of_getElem? (i := 87) rfl) rfl), rfl, rfl, rfl⟩
theorem fl_X10_135 : pm_fl RX10 135 9 52 (.array .int) true := ⟨RX10, TX10, 55, tyX10, cl_X10, by decide, (lwm_tables_1_5 (List.mem_of_getElem? (i := 88) rfl) rfl), rfl, rfl, rfl⟩
theorem fl_X10_166 : pm_fl RX10 166 9 33 (.int) false := ⟨RX10, TX10, 55, tyX10, cl_X10, by decide, (lwm_tables_1_5 (List.mem_of_getElem? (i := 69) rfl) rfl), rfl, rfl, rfl⟩
theorem fl_X10_183 : pm_fl RX10 183 9 37 (.int) false := ⟨RX10, TX10, 55, tyX10, cl_X10, by decide, (lwm_tables_1_5 (List.mem_of_getElem? (i := 73) rfl) rfl), rfl, rfl, rfl⟩
theorem fl_X10_186 : pm_fl RX10 186 9 39 (.int) false := ⟨RX10, TX10, 55, tyX10, cl_X10, by decide, (lwm_tables_1_5 (List.mem_of_getElem? (i := 75) rfl) rfl), rfl, rfl, rfl⟩
theorem fl_X10_192 : pm_fl RX10 192 9 38 (.int) false := ⟨RX10, TX10, 55, tyX10, cl_X10, by decide, (lwm_tables_1_5 (List.mem_of_getElem? (i := 74) rfl) rfl), rfl, rfl, rfl⟩
theorem fl_X10_264 : pm_fl RX10 264 9 42 (.int) false := ⟨RX10, TX10, 55, tyX10, cl_X10, by decide, (lwm_tables_1_5 (List.mem_of_getElem? (i := 78) rfl) rfl), rfl, rfl, rfl⟩
theorem fl_X10_276 : pm_fl RX10 276 9 35 (.int) false := ⟨RX10, TX10, 55, tyX10, cl_X10, by decide, (lwm_tables_1_5 (List.mem_of_getElem? (i := 71) rfl) rfl), rfl, rfl, rfl⟩
theorem fl_X10_295 : pm_fl RX10 295 9 29 (.int) false := ⟨RX10, TX10, 55, tyX10, cl_X10, by decide, (lwm_tables_1_5 (List.mem_of_getElem? (i := 65) rfl) rfl), rfl, rfl, rfl⟩
theorem fl_X10_343 : pm_fl RX10 343 9 47 (.int) false := ⟨RX10, TX10, 55, tyX10, cl_X10, by decide, (lwm_tables_1_5 (List.mem_of_getElem? (i := 83) rfl) rfl), rfl, rfl, rfl⟩
theorem fl_X10_346 : pm_fl RX10 346 9 48 (.int) false := ⟨RX10, TX10, 55, tyX10, cl_X10, by decide, (lwm_tables_1_5 (List.mem_of_getElem? (i := 84) rfl) rfl), rfl, rfl, rfl⟩
theorem fl_X10_358 : pm_fl RX10 358 9 49 (.int) false := ⟨RX10, TX10, 55, tyX10, cl_X10, by decide, (lwm_tables_1_5 (List.mem_of_getElem? (i := 85) rfl) rfl), rfl, rfl, rfl⟩
theorem fl_X10_361 : pm_fl RX10 361 9 50 (.int) false := ⟨RX10, TX10, 55, tyX10, cl_X10, by decide, (lwm_tables_1_5 (List.mem_of_getElem? (i := 86) rfl) rfl), rfl, rfl, rfl⟩
theorem fl_X10_367 : pm_fl RX10 367 9 53 (.int) false := ⟨RX10, TX10, 55, tyX10, cl_X10, by decide, (lwm_tables_1_5 (List.mem_of_getElem? (i := 89) rfl) rfl), rfl, rfl, rfl⟩
theorem fl_X10_370 : pm_fl RX10 370 9 54 (.int) false := ⟨RX10, TX10, 55, tyX10, cl_X10, by decide, (lwm_tables_1_5 (List.mem_of_getElem? (i := 90) rfl) rfl), rfl, rfl, rfl⟩
abbrev M_X0_init : pm_M := (yX0_init, cX0_init, 1, none)
theorem in_X0_init : pm_in M_X0_init := ⟨(lwm_tables_1_1 (List.mem_of_getElem? (i := 71) rfl) rfl), by decide +kernel, by decide, by decide +kernel, by decide +kernel, (lwm_tables_1_1 (List.mem_of_getElem? (i := 5) rfl) rfl)⟩
abbrev M_X0_has : pm_M := (yX0_has, cX0_has, 2, (some .boolean))
theorem in_X0_has : pm_in M_X0_has := ⟨(lwm_tables_1_4 (List.mem_of_getElem? (i := 218) rfl) rfl), by decide +kernel, by decide, by decide +kernel, by decide +kernel, (lwm_tables_1_1 (List.mem_of_getElem? (i := 5) rfl) rfl)⟩
abbrev M_X0_callOfOne : pm_M := (yX0_callOfOne, cX0_callOfOne, 2, (some .int))
theorem in_X0_callOfOne : pm_in M_X0_callOfOne := ⟨(lwm_tables_1_4 (List.mem_of_getElem? (i := 222) rfl) rfl), by decide +kernel, by decide, by decide +kernel, by decide +kernel, (lwm_tables_1_1 (List.mem_of_getElem? (i := 5) rfl) rfl)⟩
abbrev M_X0_callOfOther : pm_M := (yX0_callOfOther, cX0_callOfOther, 2, (some .int))
theorem in_X0_callOfOther : pm_in M_X0_callOfOther := ⟨(lwm_tables_1_4 (List.mem_of_getElem? (i := 227) rfl) rfl), by decide +kernel, by decide, by decide +kernel, by decide +kernel, (lwm_tables_1_1 (List.mem_of_getElem? (i := 5) rfl) rfl)⟩
abbrev M_X0_lay : pm_M := (yX0_lay, cX0_lay, 5, none)
theorem in_X0_lay : pm_in M_X0_lay := ⟨(lwm_tables_1_4 (List.mem_of_getElem? (i := 195) rfl) rfl), by decide +kernel, by decide, by decide +kernel, by decide +kernel, (lwm_tables_1_1 (List.mem_of_getElem? (i := 5) rfl) rfl)⟩
abbrev M_X0_countPairs : pm_M := (yX0_countPairs, cX0_countPairs, 9, none)
theorem in_X0_countPairs : pm_in M_X0_countPairs := ⟨(lwm_tables_1_4 (List.mem_of_getElem? (i := 200) rfl) rfl), by decide +kernel, by decide, by decide +kernel, by decide +kernel, (lwm_tables_1_1 (List.mem_of_getElem? (i := 5) rfl) rfl)⟩
abbrev M_X0_choosePairs : pm_M := (yX0_choosePairs, cX0_choosePairs, 8, none)
theorem in_X0_choosePairs : pm_in M_X0_choosePairs := ⟨(lwm_tables_1_4 (List.mem_of_getElem? (i := 210) rfl) rfl), by decide +kernel, by decide, by decide +kernel, by decide +kernel, (lwm_tables_1_1 (List.mem_of_getElem? (i := 5) rfl) rfl)⟩
abbrev M_X0_firstUnlike : pm_M := (yX0_firstUnlike, cX0_firstUnlike, 9, (some .int))
theorem in_X0_firstUnlike : pm_in M_X0_firstUnlike := ⟨(lwm_tables_1_4 (List.mem_of_getElem? (i := 239) rfl) rfl), by decide +kernel, by decide, by decide +kernel, by decide +kernel, (lwm_tables_1_1 (List.mem_of_getElem? (i := 5) rfl) rfl)⟩
abbrev M_X0_goThrough : pm_M := (yX0_goThrough, cX0_goThrough, 6, (some .int))
theorem in_X0_goThrough : pm_in M_X0_goThrough := ⟨(lwm_tables_1_5 (List.mem_of_getElem? (i := 2) rfl) rfl), by decide +kernel, by decide, by decide +kernel, by decide +kernel, (lwm_tables_1_1 (List.mem_of_getElem? (i := 5) rfl) rfl)⟩
abbrev M_X0_areUnlike : pm_M := (yX0_areUnlike, cX0_areUnlike, 9, (some .boolean))
theorem in_X0_areUnlike : pm_in M_X0_areUnlike := ⟨(lwm_tables_1_5 (List.mem_of_getElem? (i := 17) rfl) rfl), by decide +kernel, by decide, by decide +kernel, by decide +kernel, (lwm_tables_1_1 (List.mem_of_getElem? (i := 5) rfl) rfl)⟩
abbrev M_X1_init : pm_M := (yX1_init, cX1_init, 1, none)
theorem in_X1_init : pm_in M_X1_init := ⟨(lwm_tables_1_2 (List.mem_of_getElem? (i := 19) rfl) rfl), by decide +kernel, by decide, by decide +kernel, by decide +kernel, (lwm_tables_1_1 (List.mem_of_getElem? (i := 10) rfl) rfl)⟩
abbrev M_X1_init_ : pm_M := (yX1_init_, cX1_init_, 2, none)
theorem in_X1_init_ : pm_in M_X1_init_ := ⟨(lwm_tables_1_3 (List.mem_of_getElem? (i := 238) rfl) rfl), by decide +kernel, by decide, by decide +kernel, by decide +kernel, (lwm_tables_1_1 (List.mem_of_getElem? (i := 10) rfl) rfl)⟩
abbrev M_X1_has : pm_M := (yX1_has, cX1_has, 2, (some .boolean))
theorem in_X1_has : pm_in M_X1_has := ⟨(lwm_tables_1_3 (List.mem_of_getElem? (i := 208) rfl) rfl), by decide +kernel, by decide, by decide +kernel, by decide +kernel, (lwm_tables_1_1 (List.mem_of_getElem? (i := 10) rfl) rfl)⟩
abbrev M_X1_add : pm_M := (yX1_add, cX1_add, 4, none)
theorem in_X1_add : pm_in M_X1_add := ⟨(lwm_tables_1_3 (List.mem_of_getElem? (i := 99) rfl) rfl), by decide +kernel, by decide, by decide +kernel, by decide +kernel, (lwm_tables_1_1 (List.mem_of_getElem? (i := 10) rfl) rfl)⟩
abbrev M_X1_read : pm_M := (yX1_read, cX1_read, 3, (some .int))
theorem in_X1_read : pm_in M_X1_read := ⟨(lwm_tables_1_4 (List.mem_of_getElem? (i := 151) rfl) rfl), by decide +kernel, by decide, by decide +kernel, by decide +kernel, (lwm_tables_1_1 (List.mem_of_getElem? (i := 10) rfl) rfl)⟩
abbrev M_X1_dropFrom : pm_M := (yX1_dropFrom, cX1_dropFrom, 3, none)
theorem in_X1_dropFrom : pm_in M_X1_dropFrom := ⟨(lwm_tables_1_3 (List.mem_of_getElem? (i := 204) rfl) rfl), by decide +kernel, by decide, by decide +kernel, by decide +kernel, (lwm_tables_1_1 (List.mem_of_getElem? (i := 10) rfl) rfl)⟩
abbrev M_X1_isLike : pm_M := (yX1_isLike, cX1_isLike, 4, (some .boolean))
theorem in_X1_isLike : pm_in M_X1_isLike := ⟨(lwm_tables_1_4 (List.mem_of_getElem? (i := 206) rfl) rfl), by decide +kernel, by decide, by decide +kernel, by decide +kernel, (lwm_tables_1_1 (List.mem_of_getElem? (i := 10) rfl) rfl)⟩
abbrev M_X2_init : pm_M := (yX2_init, cX2_init, 1, none)
theorem in_X2_init : pm_in M_X2_init := ⟨(lwm_tables_1_2 (List.mem_of_getElem? (i := 41) rfl) rfl), by decide +kernel, by decide, by decide +kernel, by decide +kernel, (lwm_tables_1_1 (List.mem_of_getElem? (i := 11) rfl) rfl)⟩
abbrev M_X2_init_ : pm_M := (yX2_init_, cX2_init_, 2, none)
theorem in_X2_init_ : pm_in M_X2_init_ := ⟨(lwm_tables_1_4 (List.mem_of_getElem? (i := 3) rfl) rfl), by decide +kernel, by decide, by decide +kernel, by decide +kernel, (lwm_tables_1_1 (List.mem_of_getElem? (i := 11) rfl) rfl)⟩
abbrev M_X2_start : pm_M := (yX2_start, cX2_start, 3, none)
theorem in_X2_start : pm_in M_X2_start := ⟨(lwm_tables_1_2 (List.mem_of_getElem? (i := 142) rfl) rfl), by decide +kernel, by decide, by decide +kernel, by decide +kernel, (lwm_tables_1_1 (List.mem_of_getElem? (i := 11) rfl) rfl)⟩
abbrev M_X2_goesWith : pm_M := (yX2_goesWith, cX2_goesWith, 2, (some .int))
theorem in_X2_goesWith : pm_in M_X2_goesWith := ⟨(lwm_tables_1_3 (List.mem_of_getElem? (i := 141) rfl) rfl), by decide +kernel, by decide, by decide +kernel, by decide +kernel, (lwm_tables_1_1 (List.mem_of_getElem? (i := 11) rfl) rfl)⟩
abbrev M_X2_isHeldStill : pm_M := (yX2_isHeldStill, cX2_isHeldStill, 3, (some .boolean))
theorem in_X2_isHeldStill : pm_in M_X2_isHeldStill := ⟨(lwm_tables_1_4 (List.mem_of_getElem? (i := 179) rfl) rfl), by decide +kernel, by decide, by decide +kernel, by decide +kernel, (lwm_tables_1_1 (List.mem_of_getElem? (i := 11) rfl) rfl)⟩
abbrev M_X2_has : pm_M := (yX2_has, cX2_has, 2, (some .boolean))
theorem in_X2_has : pm_in M_X2_has := ⟨(lwm_tables_1_3 (List.mem_of_getElem? (i := 138) rfl) rfl), by decide +kernel, by decide, by decide +kernel, by decide +kernel, (lwm_tables_1_1 (List.mem_of_getElem? (i := 11) rfl) rfl)⟩
abbrev M_X2_timeOf : pm_M := (yX2_timeOf, cX2_timeOf, 2, (some .int))
theorem in_X2_timeOf : pm_in M_X2_timeOf := ⟨(lwm_tables_1_3 (List.mem_of_getElem? (i := 168) rfl) rfl), by decide +kernel, by decide, by decide +kernel, by decide +kernel, (lwm_tables_1_1 (List.mem_of_getElem? (i := 11) rfl) rfl)⟩
abbrev M_X2_goesAt : pm_M := (yX2_goesAt, cX2_goesAt, 2, (some .int))
theorem in_X2_goesAt : pm_in M_X2_goesAt := ⟨(lwm_tables_1_3 (List.mem_of_getElem? (i := 134) rfl) rfl), by decide +kernel, by decide, by decide +kernel, by decide +kernel, (lwm_tables_1_1 (List.mem_of_getElem? (i := 11) rfl) rfl)⟩
abbrev M_X2_timeComes : pm_M := (yX2_timeComes, cX2_timeComes, 2, none)
theorem in_X2_timeComes : pm_in M_X2_timeComes := ⟨(lwm_tables_1_3 (List.mem_of_getElem? (i := 126) rfl) rfl), by decide +kernel, by decide, by decide +kernel, by decide +kernel, (lwm_tables_1_1 (List.mem_of_getElem? (i := 11) rfl) rfl)⟩
abbrev M_X2_dropWhatGoesBy : pm_M := (yX2_dropWhatGoesBy, cX2_dropWhatGoesBy, 5, none)
theorem in_X2_dropWhatGoesBy : pm_in M_X2_dropWhatGoesBy := ⟨(lwm_tables_1_3 (List.mem_of_getElem? (i := 130) rfl) rfl), by decide +kernel, by decide, by decide +kernel, by decide +kernel, (lwm_tables_1_1 (List.mem_of_getElem? (i := 11) rfl) rfl)⟩
abbrev M_X2_dropAbove : pm_M := (yX2_dropAbove, cX2_dropAbove, 3, none)
theorem in_X2_dropAbove : pm_in M_X2_dropAbove := ⟨(lwm_tables_1_3 (List.mem_of_getElem? (i := 212) rfl) rfl), by decide +kernel, by decide, by decide +kernel, by decide +kernel, (lwm_tables_1_1 (List.mem_of_getElem? (i := 11) rfl) rfl)⟩
abbrev M_X2_latestBy : pm_M := (yX2_latestBy, cX2_latestBy, 4, (some .int))
theorem in_X2_latestBy : pm_in M_X2_latestBy := ⟨(lwm_tables_1_3 (List.mem_of_getElem? (i := 164) rfl) rfl), by decide +kernel, by decide, by decide +kernel, by decide +kernel, (lwm_tables_1_1 (List.mem_of_getElem? (i := 11) rfl) rfl)⟩
abbrev M_X2_stepsToFind : pm_M := (yX2_stepsToFind, cX2_stepsToFind, 6, (some .int))
theorem in_X2_stepsToFind : pm_in M_X2_stepsToFind := ⟨(lwm_tables_1_4 (List.mem_of_getElem? (i := 80) rfl) rfl), by decide +kernel, by decide, by decide +kernel, by decide +kernel, (lwm_tables_1_1 (List.mem_of_getElem? (i := 11) rfl) rfl)⟩
abbrev M_X3_init : pm_M := (yX3_init, cX3_init, 1, none)
theorem in_X3_init : pm_in M_X3_init := ⟨(lwm_tables_1_1 (List.mem_of_getElem? (i := 187) rfl) rfl), by decide +kernel, by decide, by decide +kernel, by decide +kernel, (lwm_tables_1_1 (List.mem_of_getElem? (i := 8) rfl) rfl)⟩
abbrev M_X3_init_ : pm_M := (yX3_init_, cX3_init_, 2, none)
theorem in_X3_init_ : pm_in M_X3_init_ := ⟨(lwm_tables_1_3 (List.mem_of_getElem? (i := 223) rfl) rfl), by decide +kernel, by decide, by decide +kernel, by decide +kernel, (lwm_tables_1_1 (List.mem_of_getElem? (i := 8) rfl) rfl)⟩
abbrev M_X3_has : pm_M := (yX3_has, cX3_has, 2, (some .boolean))
theorem in_X3_has : pm_in M_X3_has := ⟨(lwm_tables_1_3 (List.mem_of_getElem? (i := 188) rfl) rfl), by decide +kernel, by decide, by decide +kernel, by decide +kernel, (lwm_tables_1_1 (List.mem_of_getElem? (i := 8) rfl) rfl)⟩
abbrev M_X3_isFull : pm_M := (yX3_isFull, cX3_isFull, 1, (some .boolean))
theorem in_X3_isFull : pm_in M_X3_isFull := ⟨(lwm_tables_1_2 (List.mem_of_getElem? (i := 170) rfl) rfl), by decide +kernel, by decide, by decide +kernel, by decide +kernel, (lwm_tables_1_1 (List.mem_of_getElem? (i := 8) rfl) rfl)⟩
abbrev M_X3_addWhole : pm_M := (yX3_addWhole, cX3_addWhole, 4, none)
theorem in_X3_addWhole : pm_in M_X3_addWhole := ⟨(lwm_tables_1_3 (List.mem_of_getElem? (i := 63) rfl) rfl), by decide +kernel, by decide, by decide +kernel, by decide +kernel, (lwm_tables_1_1 (List.mem_of_getElem? (i := 8) rfl) rfl)⟩
abbrev M_X3_addPoke : pm_M := (yX3_addPoke, cX3_addPoke, 5, none)
theorem in_X3_addPoke : pm_in M_X3_addPoke := ⟨(lwm_tables_1_2 (List.mem_of_getElem? (i := 184) rfl) rfl), by decide +kernel, by decide, by decide +kernel, by decide +kernel, (lwm_tables_1_1 (List.mem_of_getElem? (i := 8) rfl) rfl)⟩
abbrev M_X3_add : pm_M := (yX3_add, cX3_add, 6, none)
theorem in_X3_add : pm_in M_X3_add := ⟨(lwm_tables_1_2 (List.mem_of_getElem? (i := 188) rfl) rfl), by decide +kernel, by decide, by decide +kernel, by decide +kernel, (lwm_tables_1_1 (List.mem_of_getElem? (i := 8) rfl) rfl)⟩
abbrev M_X3_read : pm_M := (yX3_read, cX3_read, 3, (some .int))
theorem in_X3_read : pm_in M_X3_read := ⟨(lwm_tables_1_4 (List.mem_of_getElem? (i := 159) rfl) rfl), by decide +kernel, by decide, by decide +kernel, by decide +kernel, (lwm_tables_1_1 (List.mem_of_getElem? (i := 8) rfl) rfl)⟩
abbrev M_X3_dropBehind : pm_M := (yX3_dropBehind, cX3_dropBehind, 4, none)
theorem in_X3_dropBehind : pm_in M_X3_dropBehind := ⟨(lwm_tables_1_3 (List.mem_of_getElem? (i := 180) rfl) rfl), by decide +kernel, by decide, by decide +kernel, by decide +kernel, (lwm_tables_1_1 (List.mem_of_getElem? (i := 8) rfl) rfl)⟩
abbrev M_X3_isBehind : pm_M := (yX3_isBehind, cX3_isBehind, 3, (some .boolean))
theorem in_X3_isBehind : pm_in M_X3_isBehind := ⟨(lwm_tables_1_3 (List.mem_of_getElem? (i := 184) rfl) rfl), by decide +kernel, by decide, by decide +kernel, by decide +kernel, (lwm_tables_1_1 (List.mem_of_getElem? (i := 8) rfl) rfl)⟩
abbrev M_X4_init : pm_M := (yX4_init, cX4_init, 1, none)
theorem in_X4_init : pm_in M_X4_init := ⟨(lwm_tables_1_1 (List.mem_of_getElem? (i := 49) rfl) rfl), by decide +kernel, by decide, by decide +kernel, by decide +kernel, (lwm_tables_1_1 (List.mem_of_getElem? (i := 4) rfl) rfl)⟩
abbrev M_X4_clearInputs : pm_M := (yX4_clearInputs, cX4_clearInputs, 1, none)
theorem in_X4_clearInputs : pm_in M_X4_clearInputs := ⟨(lwm_tables_1_2 (List.mem_of_getElem? (i := 146) rfl) rfl), by decide +kernel, by decide, by decide +kernel, by decide +kernel, (lwm_tables_1_1 (List.mem_of_getElem? (i := 4) rfl) rfl)⟩
abbrev M_X4_addLast : pm_M := (yX4_addLast, cX4_addLast, 2, none)
theorem in_X4_addLast : pm_in M_X4_addLast := ⟨(lwm_tables_1_2 (List.mem_of_getElem? (i := 158) rfl) rfl), by decide +kernel, by decide, by decide +kernel, by decide +kernel, (lwm_tables_1_1 (List.mem_of_getElem? (i := 4) rfl) rfl)⟩
abbrev M_X4_addFirst : pm_M := (yX4_addFirst, cX4_addFirst, 2, none)
theorem in_X4_addFirst : pm_in M_X4_addFirst := ⟨(lwm_tables_1_3 (List.mem_of_getElem? (i := 192) rfl) rfl), by decide +kernel, by decide, by decide +kernel, by decide +kernel, (lwm_tables_1_1 (List.mem_of_getElem? (i := 4) rfl) rfl)⟩
abbrev M_X4_takeFirst : pm_M := (yX4_takeFirst, cX4_takeFirst, 2, (some .int))
theorem in_X4_takeFirst : pm_in M_X4_takeFirst := ⟨(lwm_tables_1_3 (List.mem_of_getElem? (i := 55) rfl) rfl), by decide +kernel, by decide, by decide +kernel, by decide +kernel, (lwm_tables_1_1 (List.mem_of_getElem? (i := 4) rfl) rfl)⟩
abbrev M_X4_draw : pm_M := (yX4_draw, cX4_draw, 2, (some .int))
theorem in_X4_draw : pm_in M_X4_draw := ⟨(lwm_tables_1_3 (List.mem_of_getElem? (i := 68) rfl) rfl), by decide +kernel, by decide, by decide +kernel, by decide +kernel, (lwm_tables_1_1 (List.mem_of_getElem? (i := 4) rfl) rfl)⟩
abbrev M_X5_init : pm_M := (yX5_init, cX5_init, 1, none)
theorem in_X5_init : pm_in M_X5_init := ⟨(lwm_tables_1_1 (List.mem_of_getElem? (i := 26) rfl) rfl), by decide +kernel, by decide, by decide +kernel, by decide +kernel, (lwm_tables_1_1 (List.mem_of_getElem? (i := 2) rfl) rfl)⟩
abbrev M_X5_write : pm_M := (yX5_write, cX5_write, 6, none)
theorem in_X5_write : pm_in M_X5_write := ⟨(lwm_tables_1_1 (List.mem_of_getElem? (i := 160) rfl) rfl), by decide +kernel, by decide, by decide +kernel, by decide +kernel, (lwm_tables_1_1 (List.mem_of_getElem? (i := 2) rfl) rfl)⟩
abbrev M_X5_takeFrom : pm_M := (yX5_takeFrom, cX5_takeFrom, 3, none)
theorem in_X5_takeFrom : pm_in M_X5_takeFrom := ⟨(lwm_tables_1_2 (List.mem_of_getElem? (i := 133) rfl) rfl), by decide +kernel, by decide, by decide +kernel, by decide +kernel, (lwm_tables_1_1 (List.mem_of_getElem? (i := 2) rfl) rfl)⟩
abbrev M_X5_size : pm_M := (yX5_size, cX5_size, 3, (some .int))
theorem in_X5_size : pm_in M_X5_size := ⟨(lwm_tables_1_2 (List.mem_of_getElem? (i := 150) rfl) rfl), by decide +kernel, by decide, by decide +kernel, by decide +kernel, (lwm_tables_1_1 (List.mem_of_getElem? (i := 2) rfl) rfl)⟩
abbrev M_X5_kindAt : pm_M := (yX5_kindAt, cX5_kindAt, 2, (some .int))
theorem in_X5_kindAt : pm_in M_X5_kindAt := ⟨(lwm_tables_1_3 (List.mem_of_getElem? (i := 1) rfl) rfl), by decide +kernel, by decide, by decide +kernel, by decide +kernel, (lwm_tables_1_1 (List.mem_of_getElem? (i := 2) rfl) rfl)⟩
abbrev M_X5_firstAt : pm_M := (yX5_firstAt, cX5_firstAt, 2, (some .int))
theorem in_X5_firstAt : pm_in M_X5_firstAt := ⟨(lwm_tables_1_3 (List.mem_of_getElem? (i := 17) rfl) rfl), by decide +kernel, by decide, by decide +kernel, by decide +kernel, (lwm_tables_1_1 (List.mem_of_getElem? (i := 2) rfl) rfl)⟩
abbrev M_X5_secondAt : pm_M := (yX5_secondAt, cX5_secondAt, 2, (some .int))
theorem in_X5_secondAt : pm_in M_X5_secondAt := ⟨(lwm_tables_1_3 (List.mem_of_getElem? (i := 21) rfl) rfl), by decide +kernel, by decide, by decide +kernel, by decide +kernel, (lwm_tables_1_1 (List.mem_of_getElem? (i := 2) rfl) rfl)⟩
abbrev M_X5_thirdAt : pm_M := (yX5_thirdAt, cX5_thirdAt, 2, (some .int))
theorem in_X5_thirdAt : pm_in M_X5_thirdAt := ⟨(lwm_tables_1_3 (List.mem_of_getElem? (i := 25) rfl) rfl), by decide +kernel, by decide, by decide +kernel, by decide +kernel, (lwm_tables_1_1 (List.mem_of_getElem? (i := 2) rfl) rfl)⟩
abbrev M_X6_init : pm_M := (yX6_init, cX6_init, 1, none)
theorem in_X6_init : pm_in M_X6_init := ⟨(lwm_tables_1_1 (List.mem_of_getElem? (i := 214) rfl) rfl), by decide +kernel, by decide, by decide +kernel, by decide +kernel, (lwm_tables_1_1 (List.mem_of_getElem? (i := 9) rfl) rfl)⟩
abbrev M_X6_init_ : pm_M := (yX6_init_, cX6_init_, 2, none)
theorem in_X6_init_ : pm_in M_X6_init_ := ⟨(lwm_tables_1_3 (List.mem_of_getElem? (i := 233) rfl) rfl), by decide +kernel, by decide, by decide +kernel, by decide +kernel, (lwm_tables_1_1 (List.mem_of_getElem? (i := 9) rfl) rfl)⟩
abbrev M_X6_clear : pm_M := (yX6_clear, cX6_clear, 1, none)
theorem in_X6_clear : pm_in M_X6_clear := ⟨(lwm_tables_1_2 (List.mem_of_getElem? (i := 138) rfl) rfl), by decide +kernel, by decide, by decide +kernel, by decide +kernel, (lwm_tables_1_1 (List.mem_of_getElem? (i := 9) rfl) rfl)⟩
abbrev M_X6_has : pm_M := (yX6_has, cX6_has, 2, (some .boolean))
theorem in_X6_has : pm_in M_X6_has := ⟨(lwm_tables_1_2 (List.mem_of_getElem? (i := 213) rfl) rfl), by decide +kernel, by decide, by decide +kernel, by decide +kernel, (lwm_tables_1_1 (List.mem_of_getElem? (i := 9) rfl) rfl)⟩
abbrev M_X6_timeOf : pm_M := (yX6_timeOf, cX6_timeOf, 2, (some .int))
theorem in_X6_timeOf : pm_in M_X6_timeOf := ⟨(lwm_tables_1_3 (List.mem_of_getElem? (i := 200) rfl) rfl), by decide +kernel, by decide, by decide +kernel, by decide +kernel, (lwm_tables_1_1 (List.mem_of_getElem? (i := 9) rfl) rfl)⟩
abbrev M_X6_placeOf : pm_M := (yX6_placeOf, cX6_placeOf, 2, (some .int))
theorem in_X6_placeOf : pm_in M_X6_placeOf := ⟨(lwm_tables_1_5 (List.mem_of_getElem? (i := 7) rfl) rfl), by decide +kernel, by decide, by decide +kernel, by decide +kernel, (lwm_tables_1_1 (List.mem_of_getElem? (i := 9) rfl) rfl)⟩
abbrev M_X6_sortOf : pm_M := (yX6_sortOf, cX6_sortOf, 2, (some .int))
theorem in_X6_sortOf : pm_in M_X6_sortOf := ⟨(lwm_tables_1_2 (List.mem_of_getElem? (i := 201) rfl) rfl), by decide +kernel, by decide, by decide +kernel, by decide +kernel, (lwm_tables_1_1 (List.mem_of_getElem? (i := 9) rfl) rfl)⟩
abbrev M_X6_numberOf : pm_M := (yX6_numberOf, cX6_numberOf, 2, (some .int))
theorem in_X6_numberOf : pm_in M_X6_numberOf := ⟨(lwm_tables_1_2 (List.mem_of_getElem? (i := 205) rfl) rfl), by decide +kernel, by decide, by decide +kernel, by decide +kernel, (lwm_tables_1_1 (List.mem_of_getElem? (i := 9) rfl) rfl)⟩
abbrev M_X6_changesOf : pm_M := (yX6_changesOf, cX6_changesOf, 2, (some .int))
theorem in_X6_changesOf : pm_in M_X6_changesOf := ⟨(lwm_tables_1_2 (List.mem_of_getElem? (i := 209) rfl) rfl), by decide +kernel, by decide, by decide +kernel, by decide +kernel, (lwm_tables_1_1 (List.mem_of_getElem? (i := 9) rfl) rfl)⟩
abbrev M_X6_aheadOf : pm_M := (yX6_aheadOf, cX6_aheadOf, 2, (some .int))
theorem in_X6_aheadOf : pm_in M_X6_aheadOf := ⟨(lwm_tables_1_4 (List.mem_of_getElem? (i := 34) rfl) rfl), by decide +kernel, by decide, by decide +kernel, by decide +kernel, (lwm_tables_1_1 (List.mem_of_getElem? (i := 9) rfl) rfl)⟩
abbrev M_X6_latestOf : pm_M := (yX6_latestOf, cX6_latestOf, 2, (some .int))
theorem in_X6_latestOf : pm_in M_X6_latestOf := ⟨(lwm_tables_1_3 (List.mem_of_getElem? (i := 33) rfl) rfl), by decide +kernel, by decide, by decide +kernel, by decide +kernel, (lwm_tables_1_1 (List.mem_of_getElem? (i := 9) rfl) rfl)⟩
abbrev M_X6_hasValue : pm_M := (yX6_hasValue, cX6_hasValue, 4, (some .boolean))
theorem in_X6_hasValue : pm_in M_X6_hasValue := ⟨(lwm_tables_1_2 (List.mem_of_getElem? (i := 197) rfl) rfl), by decide +kernel, by decide, by decide +kernel, by decide +kernel, (lwm_tables_1_1 (List.mem_of_getElem? (i := 9) rfl) rfl)⟩
abbrev M_X6_add : pm_M := (yX6_add, cX6_add, 7, (some .boolean))
theorem in_X6_add : pm_in M_X6_add := ⟨(lwm_tables_1_2 (List.mem_of_getElem? (i := 192) rfl) rfl), by decide +kernel, by decide, by decide +kernel, by decide +kernel, (lwm_tables_1_1 (List.mem_of_getElem? (i := 9) rfl) rfl)⟩
abbrev M_X6_restLatestOn : pm_M := (yX6_restLatestOn, cX6_restLatestOn, 6, none)
theorem in_X6_restLatestOn : pm_in M_X6_restLatestOn := ⟨(lwm_tables_1_2 (List.mem_of_getElem? (i := 217) rfl) rfl), by decide +kernel, by decide, by decide +kernel, by decide +kernel, (lwm_tables_1_1 (List.mem_of_getElem? (i := 9) rfl) rfl)⟩
abbrev M_X6_dropBehind : pm_M := (yX6_dropBehind, cX6_dropBehind, 3, none)
theorem in_X6_dropBehind : pm_in M_X6_dropBehind := ⟨(lwm_tables_1_3 (List.mem_of_getElem? (i := 196) rfl) rfl), by decide +kernel, by decide, by decide +kernel, by decide +kernel, (lwm_tables_1_1 (List.mem_of_getElem? (i := 9) rfl) rfl)⟩
abbrev M_X6_putBy : pm_M := (yX6_putBy, cX6_putBy, 5, (some .int))
theorem in_X6_putBy : pm_in M_X6_putBy := ⟨(lwm_tables_1_4 (List.mem_of_getElem? (i := 29) rfl) rfl), by decide +kernel, by decide, by decide +kernel, by decide +kernel, (lwm_tables_1_1 (List.mem_of_getElem? (i := 9) rfl) rfl)⟩
abbrev M_X6_changedSince : pm_M := (yX6_changedSince, cX6_changedSince, 4, (some .int))
theorem in_X6_changedSince : pm_in M_X6_changedSince := ⟨(lwm_tables_1_4 (List.mem_of_getElem? (i := 68) rfl) rfl), by decide +kernel, by decide, by decide +kernel, by decide +kernel, (lwm_tables_1_1 (List.mem_of_getElem? (i := 9) rfl) rfl)⟩
abbrev M_X6_hadBy : pm_M := (yX6_hadBy, cX6_hadBy, 8, (some .int))
theorem in_X6_hadBy : pm_in M_X6_hadBy := ⟨(lwm_tables_1_4 (List.mem_of_getElem? (i := 76) rfl) rfl), by decide +kernel, by decide, by decide +kernel, by decide +kernel, (lwm_tables_1_1 (List.mem_of_getElem? (i := 9) rfl) rfl)⟩
abbrev M_X6_changeTimes : pm_M := (yX6_changeTimes, cX6_changeTimes, 6, (some .int))
theorem in_X6_changeTimes : pm_in M_X6_changeTimes := ⟨(lwm_tables_1_4 (List.mem_of_getElem? (i := 139) rfl) rfl), by decide +kernel, by decide, by decide +kernel, by decide +kernel, (lwm_tables_1_1 (List.mem_of_getElem? (i := 9) rfl) rfl)⟩
abbrev M_X6_markAllBelow : pm_M := (yX6_markAllBelow, cX6_markAllBelow, 4, none)
theorem in_X6_markAllBelow : pm_in M_X6_markAllBelow := ⟨(lwm_tables_1_4 (List.mem_of_getElem? (i := 106) rfl) rfl), by decide +kernel, by decide, by decide +kernel, by decide +kernel, (lwm_tables_1_1 (List.mem_of_getElem? (i := 9) rfl) rfl)⟩
abbrev M_X6_mark : pm_M := (yX6_mark, cX6_mark, 3, none)
theorem in_X6_mark : pm_in M_X6_mark := ⟨(lwm_tables_1_4 (List.mem_of_getElem? (i := 113) rfl) rfl), by decide +kernel, by decide, by decide +kernel, by decide +kernel, (lwm_tables_1_1 (List.mem_of_getElem? (i := 9) rfl) rfl)⟩
abbrev M_X6_markedStep : pm_M := (yX6_markedStep, cX6_markedStep, 5, (some .int))
theorem in_X6_markedStep : pm_in M_X6_markedStep := ⟨(lwm_tables_1_4 (List.mem_of_getElem? (i := 121) rfl) rfl), by decide +kernel, by decide, by decide +kernel, by decide +kernel, (lwm_tables_1_1 (List.mem_of_getElem? (i := 9) rfl) rfl)⟩
abbrev M_X6_markAllAbove : pm_M := (yX6_markAllAbove, cX6_markAllAbove, 4, none)
theorem in_X6_markAllAbove : pm_in M_X6_markAllAbove := ⟨(lwm_tables_1_4 (List.mem_of_getElem? (i := 130) rfl) rfl), by decide +kernel, by decide, by decide +kernel, by decide +kernel, (lwm_tables_1_1 (List.mem_of_getElem? (i := 9) rfl) rfl)⟩
abbrev M_X7_init : pm_M := (yX7_init, cX7_init, 1, none)
theorem in_X7_init : pm_in M_X7_init := ⟨(lwm_tables_1_1 (List.mem_of_getElem? (i := 179) rfl) rfl), by decide +kernel, by decide, by decide +kernel, by decide +kernel, (lwm_tables_1_1 (List.mem_of_getElem? (i := 7) rfl) rfl)⟩
abbrev M_X7_init_ : pm_M := (yX7_init_, cX7_init_, 3, none)
theorem in_X7_init_ : pm_in M_X7_init_ := ⟨(lwm_tables_1_3 (List.mem_of_getElem? (i := 220) rfl) rfl), by decide +kernel, by decide, by decide +kernel, by decide +kernel, (lwm_tables_1_1 (List.mem_of_getElem? (i := 7) rfl) rfl)⟩
abbrev M_X7_start : pm_M := (yX7_start, cX7_start, 4, none)
theorem in_X7_start : pm_in M_X7_start := ⟨(lwm_tables_1_2 (List.mem_of_getElem? (i := 129) rfl) rfl), by decide +kernel, by decide, by decide +kernel, by decide +kernel, (lwm_tables_1_1 (List.mem_of_getElem? (i := 7) rfl) rfl)⟩
abbrev M_X7_hasTime : pm_M := (yX7_hasTime, cX7_hasTime, 2, (some .boolean))
theorem in_X7_hasTime : pm_in M_X7_hasTime := ⟨(lwm_tables_1_2 (List.mem_of_getElem? (i := 237) rfl) rfl), by decide +kernel, by decide, by decide +kernel, by decide +kernel, (lwm_tables_1_1 (List.mem_of_getElem? (i := 7) rfl) rfl)⟩
abbrev M_X7_counterAt : pm_M := (yX7_counterAt, cX7_counterAt, 2, (some .int))
theorem in_X7_counterAt : pm_in M_X7_counterAt := ⟨(lwm_tables_1_2 (List.mem_of_getElem? (i := 233) rfl) rfl), by decide +kernel, by decide, by decide +kernel, by decide +kernel, (lwm_tables_1_1 (List.mem_of_getElem? (i := 7) rfl) rfl)⟩
abbrev M_X7_outsAt : pm_M := (yX7_outsAt, cX7_outsAt, 2, (some .int))
theorem in_X7_outsAt : pm_in M_X7_outsAt := ⟨(lwm_tables_1_4 (List.mem_of_getElem? (i := 50) rfl) rfl), by decide +kernel, by decide, by decide +kernel, by decide +kernel, (lwm_tables_1_1 (List.mem_of_getElem? (i := 7) rfl) rfl)⟩
abbrev M_X7_checkAt : pm_M := (yX7_checkAt, cX7_checkAt, 2, (some .int))
theorem in_X7_checkAt : pm_in M_X7_checkAt := ⟨(lwm_tables_1_4 (List.mem_of_getElem? (i := 54) rfl) rfl), by decide +kernel, by decide, by decide +kernel, by decide +kernel, (lwm_tables_1_1 (List.mem_of_getElem? (i := 7) rfl) rfl)⟩
abbrev M_X7_topAt : pm_M := (yX7_topAt, cX7_topAt, 2, (some .int))
theorem in_X7_topAt : pm_in M_X7_topAt := ⟨(lwm_tables_1_3 (List.mem_of_getElem? (i := 95) rfl) rfl), by decide +kernel, by decide, by decide +kernel, by decide +kernel, (lwm_tables_1_1 (List.mem_of_getElem? (i := 7) rfl) rfl)⟩
abbrev M_X7_stackSizeAt : pm_M := (yX7_stackSizeAt, cX7_stackSizeAt, 4, (some .int))
theorem in_X7_stackSizeAt : pm_in M_X7_stackSizeAt := ⟨(lwm_tables_1_3 (List.mem_of_getElem? (i := 91) rfl) rfl), by decide +kernel, by decide, by decide +kernel, by decide +kernel, (lwm_tables_1_1 (List.mem_of_getElem? (i := 7) rfl) rfl)⟩
abbrev M_X7_stackedAt : pm_M := (yX7_stackedAt, cX7_stackedAt, 6, (some .int))
theorem in_X7_stackedAt : pm_in M_X7_stackedAt := ⟨(lwm_tables_1_3 (List.mem_of_getElem? (i := 110) rfl) rfl), by decide +kernel, by decide, by decide +kernel, by decide +kernel, (lwm_tables_1_1 (List.mem_of_getElem? (i := 7) rfl) rfl)⟩
abbrev M_X7_hasStackLike : pm_M := (yX7_hasStackLike, cX7_hasStackLike, 5, (some .boolean))
theorem in_X7_hasStackLike : pm_in M_X7_hasStackLike := ⟨(lwm_tables_1_5 (List.mem_of_getElem? (i := 12) rfl) rfl), by decide +kernel, by decide, by decide +kernel, by decide +kernel, (lwm_tables_1_1 (List.mem_of_getElem? (i := 7) rfl) rfl)⟩
abbrev M_X7_statusWith : pm_M := (yX7_statusWith, cX7_statusWith, 3, (some .int))
theorem in_X7_statusWith : pm_in M_X7_statusWith := ⟨(lwm_tables_1_2 (List.mem_of_getElem? (i := 229) rfl) rfl), by decide +kernel, by decide, by decide +kernel, by decide +kernel, (lwm_tables_1_1 (List.mem_of_getElem? (i := 7) rfl) rfl)⟩
abbrev M_X7_canStep : pm_M := (yX7_canStep, cX7_canStep, 2, (some .boolean))
theorem in_X7_canStep : pm_in M_X7_canStep := ⟨(lwm_tables_1_2 (List.mem_of_getElem? (i := 225) rfl) rfl), by decide +kernel, by decide, by decide +kernel, by decide +kernel, (lwm_tables_1_1 (List.mem_of_getElem? (i := 7) rfl) rfl)⟩
abbrev M_X7_step : pm_M := (yX7_step, cX7_step, 4, none)
theorem in_X7_step : pm_in M_X7_step := ⟨(lwm_tables_1_3 (List.mem_of_getElem? (i := 6) rfl) rfl), by decide +kernel, by decide, by decide +kernel, by decide +kernel, (lwm_tables_1_1 (List.mem_of_getElem? (i := 7) rfl) rfl)⟩
abbrev M_X7_putByPoke : pm_M := (yX7_putByPoke, cX7_putByPoke, 5, (some .boolean))
theorem in_X7_putByPoke : pm_in M_X7_putByPoke := ⟨(lwm_tables_1_2 (List.mem_of_getElem? (i := 180) rfl) rfl), by decide +kernel, by decide, by decide +kernel, by decide +kernel, (lwm_tables_1_1 (List.mem_of_getElem? (i := 7) rfl) rfl)⟩
abbrev M_X7_putByStep : pm_M := (yX7_putByStep, cX7_putByStep, 7, none)
theorem in_X7_putByStep : pm_in M_X7_putByStep := ⟨(lwm_tables_1_3 (List.mem_of_getElem? (i := 29) rfl) rfl), by decide +kernel, by decide, by decide +kernel, by decide +kernel, (lwm_tables_1_1 (List.mem_of_getElem? (i := 7) rfl) rfl)⟩
abbrev M_X7_putFromOutside : pm_M := (yX7_putFromOutside, cX7_putFromOutside, 4, none)
theorem in_X7_putFromOutside : pm_in M_X7_putFromOutside := ⟨(lwm_tables_1_3 (List.mem_of_getElem? (i := 59) rfl) rfl), by decide +kernel, by decide, by decide +kernel, by decide +kernel, (lwm_tables_1_1 (List.mem_of_getElem? (i := 7) rfl) rfl)⟩
abbrev M_X7_goOnAt : pm_M := (yX7_goOnAt, cX7_goOnAt, 2, none)
theorem in_X7_goOnAt : pm_in M_X7_goOnAt := ⟨(lwm_tables_1_3 (List.mem_of_getElem? (i := 81) rfl) rfl), by decide +kernel, by decide, by decide +kernel, by decide +kernel, (lwm_tables_1_1 (List.mem_of_getElem? (i := 7) rfl) rfl)⟩
abbrev M_X7_addOut : pm_M := (yX7_addOut, cX7_addOut, 3, none)
theorem in_X7_addOut : pm_in M_X7_addOut := ⟨(lwm_tables_1_3 (List.mem_of_getElem? (i := 77) rfl) rfl), by decide +kernel, by decide, by decide +kernel, by decide +kernel, (lwm_tables_1_1 (List.mem_of_getElem? (i := 7) rfl) rfl)⟩
abbrev M_X7_stackUp : pm_M := (yX7_stackUp, cX7_stackUp, 1, none)
theorem in_X7_stackUp : pm_in M_X7_stackUp := ⟨(lwm_tables_1_3 (List.mem_of_getElem? (i := 103) rfl) rfl), by decide +kernel, by decide, by decide +kernel, by decide +kernel, (lwm_tables_1_1 (List.mem_of_getElem? (i := 7) rfl) rfl)⟩
abbrev M_X7_stackDown : pm_M := (yX7_stackDown, cX7_stackDown, 1, none)
theorem in_X7_stackDown : pm_in M_X7_stackDown := ⟨(lwm_tables_1_3 (List.mem_of_getElem? (i := 116) rfl) rfl), by decide +kernel, by decide, by decide +kernel, by decide +kernel, (lwm_tables_1_1 (List.mem_of_getElem? (i := 7) rfl) rfl)⟩
abbrev M_X7_goBack : pm_M := (yX7_goBack, cX7_goBack, 3, none)
theorem in_X7_goBack : pm_in M_X7_goBack := ⟨(lwm_tables_1_3 (List.mem_of_getElem? (i := 176) rfl) rfl), by decide +kernel, by decide, by decide +kernel, by decide +kernel, (lwm_tables_1_1 (List.mem_of_getElem? (i := 7) rfl) rfl)⟩
abbrev M_X8_perform : pm_M := (yX8_perform, cX8_perform, 7, (some .int))
theorem in_X8_perform : pm_in M_X8_perform := ⟨(lwm_tables_1_3 (List.mem_of_getElem? (i := 12) rfl) rfl), by decide +kernel, by decide, by decide +kernel, by decide +kernel, (lwm_tables_1_1 (List.mem_of_getElem? (i := 13) rfl) rfl)⟩
abbrev M_X8_putOut : pm_M := (yX8_putOut, cX8_putOut, 2, none)
theorem in_X8_putOut : pm_in M_X8_putOut := ⟨(lwm_tables_1_3 (List.mem_of_getElem? (i := 73) rfl) rfl), by decide +kernel, by decide, by decide +kernel, by decide +kernel, (lwm_tables_1_1 (List.mem_of_getElem? (i := 13) rfl) rfl)⟩
abbrev M_X8_copy : pm_M := (yX8_copy, cX8_copy, 3, none)
theorem in_X8_copy : pm_in M_X8_copy := ⟨(lwm_tables_1_3 (List.mem_of_getElem? (i := 36) rfl) rfl), by decide +kernel, by decide, by decide +kernel, by decide +kernel, (lwm_tables_1_1 (List.mem_of_getElem? (i := 13) rfl) rfl)⟩
abbrev M_X8_compare : pm_M := (yX8_compare, cX8_compare, 5, none)
theorem in_X8_compare : pm_in M_X8_compare := ⟨(lwm_tables_1_3 (List.mem_of_getElem? (i := 41) rfl) rfl), by decide +kernel, by decide, by decide +kernel, by decide +kernel, (lwm_tables_1_1 (List.mem_of_getElem? (i := 13) rfl) rfl)⟩
abbrev M_X8_combine : pm_M := (yX8_combine, cX8_combine, 7, (some .int))
theorem in_X8_combine : pm_in M_X8_combine := ⟨(lwm_tables_1_3 (List.mem_of_getElem? (i := 45) rfl) rfl), by decide +kernel, by decide, by decide +kernel, by decide +kernel, (lwm_tables_1_1 (List.mem_of_getElem? (i := 13) rfl) rfl)⟩
abbrev M_X8_fromCell : pm_M := (yX8_fromCell, cX8_fromCell, 5, (some .int))
theorem in_X8_fromCell : pm_in M_X8_fromCell := ⟨(lwm_tables_1_3 (List.mem_of_getElem? (i := 48) rfl) rfl), by decide +kernel, by decide, by decide +kernel, by decide +kernel, (lwm_tables_1_1 (List.mem_of_getElem? (i := 13) rfl) rfl)⟩
abbrev M_X8_toCell : pm_M := (yX8_toCell, cX8_toCell, 4, (some .int))
theorem in_X8_toCell : pm_in M_X8_toCell := ⟨(lwm_tables_1_3 (List.mem_of_getElem? (i := 51) rfl) rfl), by decide +kernel, by decide, by decide +kernel, by decide +kernel, (lwm_tables_1_1 (List.mem_of_getElem? (i := 13) rfl) rfl)⟩
abbrev M_X8_goOnIf : pm_M := (yX8_goOnIf, cX8_goOnIf, 3, (some .int))
theorem in_X8_goOnIf : pm_in M_X8_goOnIf := ⟨(lwm_tables_1_3 (List.mem_of_getElem? (i := 84) rfl) rfl), by decide +kernel, by decide, by decide +kernel, by decide +kernel, (lwm_tables_1_1 (List.mem_of_getElem? (i := 13) rfl) rfl)⟩
abbrev M_X8_goDown : pm_M := (yX8_goDown, cX8_goDown, 3, (some .int))
theorem in_X8_goDown : pm_in M_X8_goDown := ⟨(lwm_tables_1_3 (List.mem_of_getElem? (i := 87) rfl) rfl), by decide +kernel, by decide, by decide +kernel, by decide +kernel, (lwm_tables_1_1 (List.mem_of_getElem? (i := 13) rfl) rfl)⟩
abbrev M_X8_goUp : pm_M := (yX8_goUp, cX8_goUp, 2, none)
theorem in_X8_goUp : pm_in M_X8_goUp := ⟨(lwm_tables_1_3 (List.mem_of_getElem? (i := 106) rfl) rfl), by decide +kernel, by decide, by decide +kernel, by decide +kernel, (lwm_tables_1_1 (List.mem_of_getElem? (i := 13) rfl) rfl)⟩
abbrev M_X8_reckon : pm_M := (yX8_reckon, cX8_reckon, 7, (some .int))
theorem in_X8_reckon : pm_in M_X8_reckon := ⟨(lwm_tables_1_3 (List.mem_of_getElem? (i := 119) rfl) rfl), by decide +kernel, by decide, by decide +kernel, by decide +kernel, (lwm_tables_1_1 (List.mem_of_getElem? (i := 13) rfl) rfl)⟩
abbrev M_X8_reckoned : pm_M := (yX8_reckoned, cX8_reckoned, 3, (some .int))
theorem in_X8_reckoned : pm_in M_X8_reckoned := ⟨(lwm_tables_1_3 (List.mem_of_getElem? (i := 122) rfl) rfl), by decide +kernel, by decide, by decide +kernel, by decide +kernel, (lwm_tables_1_1 (List.mem_of_getElem? (i := 13) rfl) rfl)⟩
abbrev M_X9_init : pm_M := (yX9_init, cX9_init, 1, none)
theorem in_X9_init : pm_in M_X9_init := ⟨(lwm_tables_1_1 (List.mem_of_getElem? (i := 18) rfl) rfl), by decide +kernel, by decide, by decide +kernel, by decide +kernel, (lwm_tables_1_1 (List.mem_of_getElem? (i := 1) rfl) rfl)⟩
abbrev M_X9_code : pm_M := (yX9_code, cX9_code, 6, (some .boolean))
theorem in_X9_code : pm_in M_X9_code := ⟨(lwm_tables_1_1 (List.mem_of_getElem? (i := 141) rfl) rfl), by decide +kernel, by decide, by decide +kernel, by decide +kernel, (lwm_tables_1_1 (List.mem_of_getElem? (i := 1) rfl) rfl)⟩
abbrev M_X9_spacing : pm_M := (yX9_spacing, cX9_spacing, 3, (some .boolean))
theorem in_X9_spacing : pm_in M_X9_spacing := ⟨(lwm_tables_1_1 (List.mem_of_getElem? (i := 165) rfl) rfl), by decide +kernel, by decide, by decide +kernel, by decide +kernel, (lwm_tables_1_1 (List.mem_of_getElem? (i := 1) rfl) rfl)⟩
abbrev M_X9_begin : pm_M := (yX9_begin, cX9_begin, 1, (some .int))
theorem in_X9_begin : pm_in M_X9_begin := ⟨(lwm_tables_1_1 (List.mem_of_getElem? (i := 175) rfl) rfl), by decide +kernel, by decide, by decide +kernel, by decide +kernel, (lwm_tables_1_1 (List.mem_of_getElem? (i := 1) rfl) rfl)⟩
abbrev M_X9_give : pm_M := (yX9_give, cX9_give, 2, (some .int))
theorem in_X9_give : pm_in M_X9_give := ⟨(lwm_tables_1_2 (List.mem_of_getElem? (i := 154) rfl) rfl), by decide +kernel, by decide, by decide +kernel, by decide +kernel, (lwm_tables_1_1 (List.mem_of_getElem? (i := 1) rfl) rfl)⟩
abbrev M_X9_seed : pm_M := (yX9_seed, cX9_seed, 3, (some .int))
theorem in_X9_seed : pm_in M_X9_seed := ⟨(lwm_tables_1_2 (List.mem_of_getElem? (i := 162) rfl) rfl), by decide +kernel, by decide, by decide +kernel, by decide +kernel, (lwm_tables_1_1 (List.mem_of_getElem? (i := 1) rfl) rfl)⟩
abbrev M_X9_poke : pm_M := (yX9_poke, cX9_poke, 4, (some .int))
theorem in_X9_poke : pm_in M_X9_poke := ⟨(lwm_tables_1_2 (List.mem_of_getElem? (i := 166) rfl) rfl), by decide +kernel, by decide, by decide +kernel, by decide +kernel, (lwm_tables_1_1 (List.mem_of_getElem? (i := 1) rfl) rfl)⟩
abbrev M_X9_run : pm_M := (yX9_run, cX9_run, 4, (some .int))
theorem in_X9_run : pm_in M_X9_run := ⟨(lwm_tables_1_2 (List.mem_of_getElem? (i := 221) rfl) rfl), by decide +kernel, by decide, by decide +kernel, by decide +kernel, (lwm_tables_1_1 (List.mem_of_getElem? (i := 1) rfl) rfl)⟩
abbrev M_X9_watch : pm_M := (yX9_watch, cX9_watch, 3, (some .boolean))
theorem in_X9_watch : pm_in M_X9_watch := ⟨(lwm_tables_1_3 (List.mem_of_getElem? (i := 152) rfl) rfl), by decide +kernel, by decide, by decide +kernel, by decide +kernel, (lwm_tables_1_1 (List.mem_of_getElem? (i := 1) rfl) rfl)⟩
abbrev M_X9_back : pm_M := (yX9_back, cX9_back, 2, (some .int))
theorem in_X9_back : pm_in M_X9_back := ⟨(lwm_tables_1_3 (List.mem_of_getElem? (i := 156) rfl) rfl), by decide +kernel, by decide, by decide +kernel, by decide +kernel, (lwm_tables_1_1 (List.mem_of_getElem? (i := 1) rfl) rfl)⟩
abbrev M_X9_keep : pm_M := (yX9_keep, cX9_keep, 1, (some .int))
theorem in_X9_keep : pm_in M_X9_keep := ⟨(lwm_tables_1_3 (List.mem_of_getElem? (i := 216) rfl) rfl), by decide +kernel, by decide, by decide +kernel, by decide +kernel, (lwm_tables_1_1 (List.mem_of_getElem? (i := 1) rfl) rfl)⟩
abbrev M_X9_use : pm_M := (yX9_use, cX9_use, 2, (some .boolean))
theorem in_X9_use : pm_in M_X9_use := ⟨(lwm_tables_1_4 (List.mem_of_getElem? (i := 11) rfl) rfl), by decide +kernel, by decide, by decide +kernel, by decide +kernel, (lwm_tables_1_1 (List.mem_of_getElem? (i := 1) rfl) rfl)⟩
abbrev M_X9_at : pm_M := (yX9_at, cX9_at, 6, (some .int))
theorem in_X9_at : pm_in M_X9_at := ⟨(lwm_tables_1_4 (List.mem_of_getElem? (i := 19) rfl) rfl), by decide +kernel, by decide, by decide +kernel, by decide +kernel, (lwm_tables_1_1 (List.mem_of_getElem? (i := 1) rfl) rfl)⟩
abbrev M_X9_state : pm_M := (yX9_state, cX9_state, 4, (some .int))
theorem in_X9_state : pm_in M_X9_state := ⟨(lwm_tables_1_4 (List.mem_of_getElem? (i := 41) rfl) rfl), by decide +kernel, by decide, by decide +kernel, by decide +kernel, (lwm_tables_1_1 (List.mem_of_getElem? (i := 1) rfl) rfl)⟩
abbrev M_X9_last : pm_M := (yX9_last, cX9_last, 4, (some .int))
theorem in_X9_last : pm_in M_X9_last := ⟨(lwm_tables_1_4 (List.mem_of_getElem? (i := 60) rfl) rfl), by decide +kernel, by decide, by decide +kernel, by decide +kernel, (lwm_tables_1_1 (List.mem_of_getElem? (i := 1) rfl) rfl)⟩
abbrev M_X9_when : pm_M := (yX9_when, cX9_when, 7, (some .int))
theorem in_X9_when : pm_in M_X9_when := ⟨(lwm_tables_1_4 (List.mem_of_getElem? (i := 72) rfl) rfl), by decide +kernel, by decide, by decide +kernel, by decide +kernel, (lwm_tables_1_1 (List.mem_of_getElem? (i := 1) rfl) rfl)⟩
abbrev M_X9_changed : pm_M := (yX9_changed, cX9_changed, 9, (some .int))
theorem in_X9_changed : pm_in M_X9_changed := ⟨(lwm_tables_1_4 (List.mem_of_getElem? (i := 84) rfl) rfl), by decide +kernel, by decide, by decide +kernel, by decide +kernel, (lwm_tables_1_1 (List.mem_of_getElem? (i := 1) rfl) rfl)⟩
abbrev M_X9_watched : pm_M := (yX9_watched, cX9_watched, 5, (some .int))
theorem in_X9_watched : pm_in M_X9_watched := ⟨(lwm_tables_1_4 (List.mem_of_getElem? (i := 97) rfl) rfl), by decide +kernel, by decide, by decide +kernel, by decide +kernel, (lwm_tables_1_1 (List.mem_of_getElem? (i := 1) rfl) rfl)⟩
abbrev M_X9_rests : pm_M := (yX9_rests, cX9_rests, 5, (some .int))
theorem in_X9_rests : pm_in M_X9_rests := ⟨(lwm_tables_1_4 (List.mem_of_getElem? (i := 102) rfl) rfl), by decide +kernel, by decide, by decide +kernel, by decide +kernel, (lwm_tables_1_1 (List.mem_of_getElem? (i := 1) rfl) rfl)⟩
abbrev M_X9_hangs : pm_M := (yX9_hangs, cX9_hangs, 7, (some .int))
theorem in_X9_hangs : pm_in M_X9_hangs := ⟨(lwm_tables_1_4 (List.mem_of_getElem? (i := 125) rfl) rfl), by decide +kernel, by decide, by decide +kernel, by decide +kernel, (lwm_tables_1_1 (List.mem_of_getElem? (i := 1) rfl) rfl)⟩
abbrev M_X9_history : pm_M := (yX9_history, cX9_history, 7, (some .int))
theorem in_X9_history : pm_in M_X9_history := ⟨(lwm_tables_1_4 (List.mem_of_getElem? (i := 135) rfl) rfl), by decide +kernel, by decide, by decide +kernel, by decide +kernel, (lwm_tables_1_1 (List.mem_of_getElem? (i := 1) rfl) rfl)⟩
abbrev M_X9_done : pm_M := (yX9_done, cX9_done, 6, (some .int))
theorem in_X9_done : pm_in M_X9_done := ⟨(lwm_tables_1_4 (List.mem_of_getElem? (i := 143) rfl) rfl), by decide +kernel, by decide, by decide +kernel, by decide +kernel, (lwm_tables_1_1 (List.mem_of_getElem? (i := 1) rfl) rfl)⟩
abbrev M_X9_call : pm_M := (yX9_call, cX9_call, 4, (some .int))
theorem in_X9_call : pm_in M_X9_call := ⟨(lwm_tables_1_4 (List.mem_of_getElem? (i := 147) rfl) rfl), by decide +kernel, by decide, by decide +kernel, by decide +kernel, (lwm_tables_1_1 (List.mem_of_getElem? (i := 1) rfl) rfl)⟩
abbrev M_X9_log : pm_M := (yX9_log, cX9_log, 4, (some .int))
theorem in_X9_log : pm_in M_X9_log := ⟨(lwm_tables_1_4 (List.mem_of_getElem? (i := 155) rfl) rfl), by decide +kernel, by decide, by decide +kernel, by decide +kernel, (lwm_tables_1_1 (List.mem_of_getElem? (i := 1) rfl) rfl)⟩
abbrev M_X9_held : pm_M := (yX9_held, cX9_held, 4, (some .int))
theorem in_X9_held : pm_in M_X9_held := ⟨(lwm_tables_1_4 (List.mem_of_getElem? (i := 164) rfl) rfl), by decide +kernel, by decide, by decide +kernel, by decide +kernel, (lwm_tables_1_1 (List.mem_of_getElem? (i := 1) rfl) rfl)⟩
abbrev M_X9_would : pm_M := (yX9_would, cX9_would, 4, (some .int))
theorem in_X9_would : pm_in M_X9_would := ⟨(lwm_tables_1_4 (List.mem_of_getElem? (i := 170) rfl) rfl), by decide +kernel, by decide, by decide +kernel, by decide +kernel, (lwm_tables_1_1 (List.mem_of_getElem? (i := 1) rfl) rfl)⟩
abbrev M_X9_gap : pm_M := (yX9_gap, cX9_gap, 8, (some .int))
theorem in_X9_gap : pm_in M_X9_gap := ⟨(lwm_tables_1_4 (List.mem_of_getElem? (i := 183) rfl) rfl), by decide +kernel, by decide, by decide +kernel, by decide +kernel, (lwm_tables_1_1 (List.mem_of_getElem? (i := 1) rfl) rfl)⟩
abbrev M_X9_sparing : pm_M := (yX9_sparing, cX9_sparing, 5, (some .int))
theorem in_X9_sparing : pm_in M_X9_sparing := ⟨(lwm_tables_1_4 (List.mem_of_getElem? (i := 187) rfl) rfl), by decide +kernel, by decide, by decide +kernel, by decide +kernel, (lwm_tables_1_1 (List.mem_of_getElem? (i := 1) rfl) rfl)⟩
abbrev M_X9_align : pm_M := (yX9_align, cX9_align, 5, (some .int))
theorem in_X9_align : pm_in M_X9_align := ⟨(lwm_tables_1_4 (List.mem_of_getElem? (i := 191) rfl) rfl), by decide +kernel, by decide, by decide +kernel, by decide +kernel, (lwm_tables_1_1 (List.mem_of_getElem? (i := 1) rfl) rfl)⟩
abbrev M_X9_pair : pm_M := (yX9_pair, cX9_pair, 9, (some .int))
theorem in_X9_pair : pm_in M_X9_pair := ⟨(lwm_tables_1_4 (List.mem_of_getElem? (i := 214) rfl) rfl), by decide +kernel, by decide, by decide +kernel, by decide +kernel, (lwm_tables_1_1 (List.mem_of_getElem? (i := 1) rfl) rfl)⟩
abbrev M_X9_parts : pm_M := (yX9_parts, cX9_parts, 5, (some .int))
theorem in_X9_parts : pm_in M_X9_parts := ⟨(lwm_tables_1_4 (List.mem_of_getElem? (i := 235) rfl) rfl), by decide +kernel, by decide, by decide +kernel, by decide +kernel, (lwm_tables_1_1 (List.mem_of_getElem? (i := 1) rfl) rfl)⟩
abbrev M_X9_look : pm_M := (yX9_look, cX9_look, 2, (some .int))
theorem in_X9_look : pm_in M_X9_look := ⟨(lwm_tables_1_5 (List.mem_of_getElem? (i := 25) rfl) rfl), by decide +kernel, by decide, by decide +kernel, by decide +kernel, (lwm_tables_1_1 (List.mem_of_getElem? (i := 1) rfl) rfl)⟩
abbrev M_X9_lookAtRun : pm_M := (yX9_lookAtRun, cX9_lookAtRun, 3, (some .int))
theorem in_X9_lookAtRun : pm_in M_X9_lookAtRun := ⟨(lwm_tables_1_5 (List.mem_of_getElem? (i := 29) rfl) rfl), by decide +kernel, by decide, by decide +kernel, by decide +kernel, (lwm_tables_1_1 (List.mem_of_getElem? (i := 1) rfl) rfl)⟩
abbrev M_X9_isKept : pm_M := (yX9_isKept, cX9_isKept, 2, (some .boolean))
theorem in_X9_isKept : pm_in M_X9_isKept := ⟨(lwm_tables_1_4 (List.mem_of_getElem? (i := 15) rfl) rfl), by decide +kernel, by decide, by decide +kernel, by decide +kernel, (lwm_tables_1_1 (List.mem_of_getElem? (i := 1) rfl) rfl)⟩
abbrev M_X9_numbered : pm_M := (yX9_numbered, cX9_numbered, 2, (some (.object "RunsBack$Run")))
theorem in_X9_numbered : pm_in M_X9_numbered := ⟨(lwm_tables_1_4 (List.mem_of_getElem? (i := 23) rfl) rfl), by decide +kernel, by decide, by decide +kernel, by decide +kernel, (lwm_tables_1_1 (List.mem_of_getElem? (i := 1) rfl) rfl)⟩
abbrev M_X9_isWatched : pm_M := (yX9_isWatched, cX9_isWatched, 2, (some .boolean))
theorem in_X9_isWatched : pm_in M_X9_isWatched := ⟨(lwm_tables_1_3 (List.mem_of_getElem? (i := 148) rfl) rfl), by decide +kernel, by decide, by decide +kernel, by decide +kernel, (lwm_tables_1_1 (List.mem_of_getElem? (i := 1) rfl) rfl)⟩
abbrev M_X9_replay : pm_M := (yX9_replay, cX9_replay, 3, none)
theorem in_X9_replay : pm_in M_X9_replay := ⟨(lwm_tables_1_3 (List.mem_of_getElem? (i := 160) rfl) rfl), by decide +kernel, by decide, by decide +kernel, by decide +kernel, (lwm_tables_1_1 (List.mem_of_getElem? (i := 1) rfl) rfl)⟩
abbrev M_X9_count : pm_M := (yX9_count, cX9_count, 3, none)
theorem in_X9_count : pm_in M_X9_count := ⟨(lwm_tables_1_3 (List.mem_of_getElem? (i := 172) rfl) rfl), by decide +kernel, by decide, by decide +kernel, by decide +kernel, (lwm_tables_1_1 (List.mem_of_getElem? (i := 1) rfl) rfl)⟩
abbrev M_X9_lastChange : pm_M := (yX9_lastChange, cX9_lastChange, 9, (some .int))
theorem in_X9_lastChange : pm_in M_X9_lastChange := ⟨(lwm_tables_1_4 (List.mem_of_getElem? (i := 64) rfl) rfl), by decide +kernel, by decide, by decide +kernel, by decide +kernel, (lwm_tables_1_1 (List.mem_of_getElem? (i := 1) rfl) rfl)⟩
abbrev M_X9_unlike : pm_M := (yX9_unlike, cX9_unlike, 9, (some .int))
theorem in_X9_unlike : pm_in M_X9_unlike := ⟨(lwm_tables_1_4 (List.mem_of_getElem? (i := 230) rfl) rfl), by decide +kernel, by decide, by decide +kernel, by decide +kernel, (lwm_tables_1_1 (List.mem_of_getElem? (i := 1) rfl) rfl)⟩
abbrev M_X9_wouldBeHeld : pm_M := (yX9_wouldBeHeld, cX9_wouldBeHeld, 6, (some .int))
theorem in_X9_wouldBeHeld : pm_in M_X9_wouldBeHeld := ⟨(lwm_tables_1_4 (List.mem_of_getElem? (i := 176) rfl) rfl), by decide +kernel, by decide, by decide +kernel, by decide +kernel, (lwm_tables_1_1 (List.mem_of_getElem? (i := 1) rfl) rfl)⟩
abbrev M_X9_isPlace : pm_M := (yX9_isPlace, cX9_isPlace, 1, (some .boolean))
theorem in_X9_isPlace : pm_in M_X9_isPlace := ⟨(lwm_tables_1_2 (List.mem_of_getElem? (i := 173) rfl) rfl), by decide +kernel, by decide, by decide +kernel, by decide +kernel, (lwm_tables_1_1 (List.mem_of_getElem? (i := 1) rfl) rfl)⟩
abbrev M_X9_isInstructionPlace : pm_M := (yX9_isInstructionPlace, cX9_isInstructionPlace, 1, (some .boolean))
theorem in_X9_isInstructionPlace : pm_in M_X9_isInstructionPlace := ⟨(lwm_tables_1_1 (List.mem_of_getElem? (i := 144) rfl) rfl), by decide +kernel, by decide, by decide +kernel, by decide +kernel, (lwm_tables_1_1 (List.mem_of_getElem? (i := 1) rfl) rfl)⟩
abbrev M_X9_isUnit : pm_M := (yX9_isUnit, cX9_isUnit, 1, (some .boolean))
theorem in_X9_isUnit : pm_in M_X9_isUnit := ⟨(lwm_tables_1_1 (List.mem_of_getElem? (i := 168) rfl) rfl), by decide +kernel, by decide, by decide +kernel, by decide +kernel, (lwm_tables_1_1 (List.mem_of_getElem? (i := 1) rfl) rfl)⟩
abbrev M_X9_isDepth : pm_M := (yX9_isDepth, cX9_isDepth, 1, (some .boolean))
theorem in_X9_isDepth : pm_in M_X9_isDepth := ⟨(lwm_tables_1_1 (List.mem_of_getElem? (i := 171) rfl) rfl), by decide +kernel, by decide, by decide +kernel, by decide +kernel, (lwm_tables_1_1 (List.mem_of_getElem? (i := 1) rfl) rfl)⟩
abbrev M_X9_isAnyTime : pm_M := (yX9_isAnyTime, cX9_isAnyTime, 1, (some .boolean))
theorem in_X9_isAnyTime : pm_in M_X9_isAnyTime := ⟨(lwm_tables_1_4 (List.mem_of_getElem? (i := 173) rfl) rfl), by decide +kernel, by decide, by decide +kernel, by decide +kernel, (lwm_tables_1_1 (List.mem_of_getElem? (i := 1) rfl) rfl)⟩
abbrev M_X9_isStateWhat : pm_M := (yX9_isStateWhat, cX9_isStateWhat, 1, (some .boolean))
theorem in_X9_isStateWhat : pm_in M_X9_isStateWhat := ⟨(lwm_tables_1_4 (List.mem_of_getElem? (i := 44) rfl) rfl), by decide +kernel, by decide, by decide +kernel, by decide +kernel, (lwm_tables_1_1 (List.mem_of_getElem? (i := 1) rfl) rfl)⟩
abbrev M_X9_isPlacesWhat : pm_M := (yX9_isPlacesWhat, cX9_isPlacesWhat, 1, (some .boolean))
theorem in_X9_isPlacesWhat : pm_in M_X9_isPlacesWhat := ⟨(lwm_tables_1_4 (List.mem_of_getElem? (i := 87) rfl) rfl), by decide +kernel, by decide, by decide +kernel, by decide +kernel, (lwm_tables_1_1 (List.mem_of_getElem? (i := 1) rfl) rfl)⟩
abbrev M_X9_firstPlaceOf : pm_M := (yX9_firstPlaceOf, cX9_firstPlaceOf, 1, (some .int))
theorem in_X9_firstPlaceOf : pm_in M_X9_firstPlaceOf := ⟨(lwm_tables_1_4 (List.mem_of_getElem? (i := 93) rfl) rfl), by decide +kernel, by decide, by decide +kernel, by decide +kernel, (lwm_tables_1_1 (List.mem_of_getElem? (i := 1) rfl) rfl)⟩
abbrev M_X9_placesOf : pm_M := (yX9_placesOf, cX9_placesOf, 1, (some .int))
theorem in_X9_placesOf : pm_in M_X9_placesOf := ⟨(lwm_tables_1_4 (List.mem_of_getElem? (i := 90) rfl) rfl), by decide +kernel, by decide, by decide +kernel, by decide +kernel, (lwm_tables_1_1 (List.mem_of_getElem? (i := 1) rfl) rfl)⟩
abbrev M_X9_isMarked : pm_M := (yX9_isMarked, cX9_isMarked, 2, (some .boolean))
theorem in_X9_isMarked : pm_in M_X9_isMarked := ⟨(lwm_tables_1_4 (List.mem_of_getElem? (i := 117) rfl) rfl), by decide +kernel, by decide, by decide +kernel, by decide +kernel, (lwm_tables_1_1 (List.mem_of_getElem? (i := 1) rfl) rfl)⟩
abbrev M_X9_isValue : pm_M := (yX9_isValue, cX9_isValue, 2, (some .boolean))
theorem in_X9_isValue : pm_in M_X9_isValue := ⟨(lwm_tables_1_2 (List.mem_of_getElem? (i := 176) rfl) rfl), by decide +kernel, by decide, by decide +kernel, by decide +kernel, (lwm_tables_1_1 (List.mem_of_getElem? (i := 1) rfl) rfl)⟩
abbrev M_X9_isInstruction : pm_M := (yX9_isInstruction, cX9_isInstruction, 4, (some .boolean))
theorem in_X9_isInstruction : pm_in M_X9_isInstruction := ⟨(lwm_tables_1_1 (List.mem_of_getElem? (i := 147) rfl) rfl), by decide +kernel, by decide, by decide +kernel, by decide +kernel, (lwm_tables_1_1 (List.mem_of_getElem? (i := 1) rfl) rfl)⟩
abbrev M_X9_fits : pm_M := (yX9_fits, cX9_fits, 2, (some .boolean))
theorem in_X9_fits : pm_in M_X9_fits := ⟨(lwm_tables_1_1 (List.mem_of_getElem? (i := 156) rfl) rfl), by decide +kernel, by decide, by decide +kernel, by decide +kernel, (lwm_tables_1_1 (List.mem_of_getElem? (i := 1) rfl) rfl)⟩
abbrev M_X10_isIn : pm_M := (yX10_isIn, cX10_isIn, 3, (some .boolean))
theorem in_X10_isIn : pm_in M_X10_isIn := ⟨(lwm_tables_1_5 (List.mem_of_getElem? (i := 208) rfl) rfl), by decide +kernel, by decide, by decide +kernel, by decide +kernel, (lwm_tables_1_1 (List.mem_of_getElem? (i := 6) rfl) rfl)⟩
abbrev M_X10_one : pm_M := (yX10_one, cX10_one, 1, (some .int))
theorem in_X10_one : pm_in M_X10_one := ⟨(lwm_tables_1_5 (List.mem_of_getElem? (i := 228) rfl) rfl), by decide +kernel, by decide, by decide +kernel, by decide +kernel, (lwm_tables_1_1 (List.mem_of_getElem? (i := 6) rfl) rfl)⟩
abbrev M_X10_init : pm_M := (yX10_init, cX10_init, 2, none)
theorem in_X10_init : pm_in M_X10_init := ⟨(lwm_tables_1_5 (List.mem_of_getElem? (i := 34) rfl) rfl), by decide +kernel, by decide, by decide +kernel, by decide +kernel, (lwm_tables_1_1 (List.mem_of_getElem? (i := 6) rfl) rfl)⟩
abbrev M_X10_isRegister : pm_M := (yX10_isRegister, cX10_isRegister, 1, (some .boolean))
theorem in_X10_isRegister : pm_in M_X10_isRegister := ⟨(lwm_tables_1_5 (List.mem_of_getElem? (i := 214) rfl) rfl), by decide +kernel, by decide, by decide +kernel, by decide +kernel, (lwm_tables_1_1 (List.mem_of_getElem? (i := 6) rfl) rfl)⟩
abbrev M_X10_isFine : pm_M := (yX10_isFine, cX10_isFine, 4, (some .boolean))
theorem in_X10_isFine : pm_in M_X10_isFine := ⟨(lwm_tables_1_5 (List.mem_of_getElem? (i := 211) rfl) rfl), by decide +kernel, by decide, by decide +kernel, by decide +kernel, (lwm_tables_1_1 (List.mem_of_getElem? (i := 6) rfl) rfl)⟩
abbrev M_X10_code : pm_M := (yX10_code, cX10_code, 6, (some .boolean))
theorem in_X10_code : pm_in M_X10_code := ⟨(lwm_tables_1_5 (List.mem_of_getElem? (i := 205) rfl) rfl), by decide +kernel, by decide, by decide +kernel, by decide +kernel, (lwm_tables_1_1 (List.mem_of_getElem? (i := 6) rfl) rfl)⟩
abbrev M_X10_isSpacing : pm_M := (yX10_isSpacing, cX10_isSpacing, 2, (some .boolean))
theorem in_X10_isSpacing : pm_in M_X10_isSpacing := ⟨(lwm_tables_1_5 (List.mem_of_getElem? (i := 221) rfl) rfl), by decide +kernel, by decide, by decide +kernel, by decide +kernel, (lwm_tables_1_1 (List.mem_of_getElem? (i := 6) rfl) rfl)⟩
abbrev M_X10_spacing : pm_M := (yX10_spacing, cX10_spacing, 3, (some .boolean))
theorem in_X10_spacing : pm_in M_X10_spacing := ⟨(lwm_tables_1_5 (List.mem_of_getElem? (i := 218) rfl) rfl), by decide +kernel, by decide, by decide +kernel, by decide +kernel, (lwm_tables_1_1 (List.mem_of_getElem? (i := 6) rfl) rfl)⟩
abbrev M_X10_heldAt : pm_M := (yX10_heldAt, cX10_heldAt, 2, (some .int))
theorem in_X10_heldAt : pm_in M_X10_heldAt := ⟨(lwm_tables_1_5 (List.mem_of_getElem? (i := 231) rfl) rfl), by decide +kernel, by decide, by decide +kernel, by decide +kernel, (lwm_tables_1_1 (List.mem_of_getElem? (i := 6) rfl) rfl)⟩
abbrev M_X10_clears : pm_M := (yX10_clears, cX10_clears, 3, none)
theorem in_X10_clears : pm_in M_X10_clears := ⟨(lwm_tables_1_5 (List.mem_of_getElem? (i := 235) rfl) rfl), by decide +kernel, by decide, by decide +kernel, by decide +kernel, (lwm_tables_1_1 (List.mem_of_getElem? (i := 6) rfl) rfl)⟩
abbrev M_X10_begin : pm_M := (yX10_begin, cX10_begin, 3, (some .int))
theorem in_X10_begin : pm_in M_X10_begin := ⟨(lwm_tables_1_5 (List.mem_of_getElem? (i := 225) rfl) rfl), by decide +kernel, by decide, by decide +kernel, by decide +kernel, (lwm_tables_1_1 (List.mem_of_getElem? (i := 6) rfl) rfl)⟩
abbrev M_X10_give : pm_M := (yX10_give, cX10_give, 2, (some .int))
theorem in_X10_give : pm_in M_X10_give := ⟨(lwm_tables_1_5 (List.mem_of_getElem? (i := 239) rfl) rfl), by decide +kernel, by decide, by decide +kernel, by decide +kernel, (lwm_tables_1_1 (List.mem_of_getElem? (i := 6) rfl) rfl)⟩
abbrev M_X10_seed : pm_M := (yX10_seed, cX10_seed, 3, (some .int))
theorem in_X10_seed : pm_in M_X10_seed := ⟨(lwm_tables_1_6 (List.mem_of_getElem? (i := 3) rfl) rfl), by decide +kernel, by decide, by decide +kernel, by decide +kernel, (lwm_tables_1_1 (List.mem_of_getElem? (i := 6) rfl) rfl)⟩
abbrev M_X10_isValue : pm_M := (yX10_isValue, cX10_isValue, 2, (some .boolean))
theorem in_X10_isValue : pm_in M_X10_isValue := ⟨(lwm_tables_1_6 (List.mem_of_getElem? (i := 13) rfl) rfl), by decide +kernel, by decide, by decide +kernel, by decide +kernel, (lwm_tables_1_1 (List.mem_of_getElem? (i := 6) rfl) rfl)⟩
abbrev M_X10_isPlace : pm_M := (yX10_isPlace, cX10_isPlace, 1, (some .boolean))
theorem in_X10_isPlace : pm_in M_X10_isPlace := ⟨(lwm_tables_1_6 (List.mem_of_getElem? (i := 10) rfl) rfl), by decide +kernel, by decide, by decide +kernel, by decide +kernel, (lwm_tables_1_1 (List.mem_of_getElem? (i := 6) rfl) rfl)⟩
abbrev M_X10_puts : pm_M := (yX10_puts, cX10_puts, 4, none)
theorem in_X10_puts : pm_in M_X10_puts := ⟨(lwm_tables_1_6 (List.mem_of_getElem? (i := 20) rfl) rfl), by decide +kernel, by decide, by decide +kernel, by decide +kernel, (lwm_tables_1_1 (List.mem_of_getElem? (i := 6) rfl) rfl)⟩
abbrev M_X10_notes : pm_M := (yX10_notes, cX10_notes, 6, none)
theorem in_X10_notes : pm_in M_X10_notes := ⟨(lwm_tables_1_6 (List.mem_of_getElem? (i := 17) rfl) rfl), by decide +kernel, by decide, by decide +kernel, by decide +kernel, (lwm_tables_1_1 (List.mem_of_getElem? (i := 6) rfl) rfl)⟩
abbrev M_X10_poke : pm_M := (yX10_poke, cX10_poke, 5, (some .int))
theorem in_X10_poke : pm_in M_X10_poke := ⟨(lwm_tables_1_6 (List.mem_of_getElem? (i := 7) rfl) rfl), by decide +kernel, by decide, by decide +kernel, by decide +kernel, (lwm_tables_1_1 (List.mem_of_getElem? (i := 6) rfl) rfl)⟩
abbrev M_X10_kindAt : pm_M := (yX10_kindAt, cX10_kindAt, 3, (some .int))
theorem in_X10_kindAt : pm_in M_X10_kindAt := ⟨(lwm_tables_1_6 (List.mem_of_getElem? (i := 36) rfl) rfl), by decide +kernel, by decide, by decide +kernel, by decide +kernel, (lwm_tables_1_1 (List.mem_of_getElem? (i := 6) rfl) rfl)⟩
abbrev M_X10_isOf : pm_M := (yX10_isOf, cX10_isOf, 3, (some .boolean))
theorem in_X10_isOf : pm_in M_X10_isOf := ⟨(lwm_tables_1_6 (List.mem_of_getElem? (i := 70) rfl) rfl), by decide +kernel, by decide, by decide +kernel, by decide +kernel, (lwm_tables_1_1 (List.mem_of_getElem? (i := 6) rfl) rfl)⟩
abbrev M_X10_traps : pm_M := (yX10_traps, cX10_traps, 3, none)
theorem in_X10_traps : pm_in M_X10_traps := ⟨(lwm_tables_1_6 (List.mem_of_getElem? (i := 59) rfl) rfl), by decide +kernel, by decide, by decide +kernel, by decide +kernel, (lwm_tables_1_1 (List.mem_of_getElem? (i := 6) rfl) rfl)⟩
abbrev M_X10_gives : pm_M := (yX10_gives, cX10_gives, 5, none)
theorem in_X10_gives : pm_in M_X10_gives := ⟨(lwm_tables_1_6 (List.mem_of_getElem? (i := 67) rfl) rfl), by decide +kernel, by decide, by decide +kernel, by decide +kernel, (lwm_tables_1_1 (List.mem_of_getElem? (i := 6) rfl) rfl)⟩
abbrev M_X10_steps : pm_M := (yX10_steps, cX10_steps, 6, none)
theorem in_X10_steps : pm_in M_X10_steps := ⟨(lwm_tables_1_6 (List.mem_of_getElem? (i := 54) rfl) rfl), by decide +kernel, by decide, by decide +kernel, by decide +kernel, (lwm_tables_1_1 (List.mem_of_getElem? (i := 6) rfl) rfl)⟩
abbrev M_X10_does : pm_M := (yX10_does, cX10_does, 8, none)
theorem in_X10_does : pm_in M_X10_does := ⟨(lwm_tables_1_6 (List.mem_of_getElem? (i := 63) rfl) rfl), by decide +kernel, by decide, by decide +kernel, by decide +kernel, (lwm_tables_1_1 (List.mem_of_getElem? (i := 6) rfl) rfl)⟩
abbrev M_X10_reckons : pm_M := (yX10_reckons, cX10_reckons, 8, none)
theorem in_X10_reckons : pm_in M_X10_reckons := ⟨(lwm_tables_1_6 (List.mem_of_getElem? (i := 82) rfl) rfl), by decide +kernel, by decide, by decide +kernel, by decide +kernel, (lwm_tables_1_1 (List.mem_of_getElem? (i := 6) rfl) rfl)⟩
abbrev M_X10_cells : pm_M := (yX10_cells, cX10_cells, 7, none)
theorem in_X10_cells : pm_in M_X10_cells := ⟨(lwm_tables_1_6 (List.mem_of_getElem? (i := 74) rfl) rfl), by decide +kernel, by decide, by decide +kernel, by decide +kernel, (lwm_tables_1_1 (List.mem_of_getElem? (i := 6) rfl) rfl)⟩
abbrev M_X10_goes : pm_M := (yX10_goes, cX10_goes, 5, none)
theorem in_X10_goes : pm_in M_X10_goes := ⟨(lwm_tables_1_6 (List.mem_of_getElem? (i := 78) rfl) rfl), by decide +kernel, by decide, by decide +kernel, by decide +kernel, (lwm_tables_1_1 (List.mem_of_getElem? (i := 6) rfl) rfl)⟩
abbrev M_X10_status : pm_M := (yX10_status, cX10_status, 2, (some .int))
theorem in_X10_status : pm_in M_X10_status := ⟨(lwm_tables_1_6 (List.mem_of_getElem? (i := 32) rfl) rfl), by decide +kernel, by decide, by decide +kernel, by decide +kernel, (lwm_tables_1_1 (List.mem_of_getElem? (i := 6) rfl) rfl)⟩
abbrev M_X10_halvings : pm_M := (yX10_halvings, cX10_halvings, 3, (some .int))
theorem in_X10_halvings : pm_in M_X10_halvings := ⟨(lwm_tables_1_6 (List.mem_of_getElem? (i := 94) rfl) rfl), by decide +kernel, by decide, by decide +kernel, by decide +kernel, (lwm_tables_1_1 (List.mem_of_getElem? (i := 6) rfl) rfl)⟩
abbrev M_X10_goesWith : pm_M := (yX10_goesWith, cX10_goesWith, 3, (some .int))
theorem in_X10_goesWith : pm_in M_X10_goesWith := ⟨(lwm_tables_1_6 (List.mem_of_getElem? (i := 90) rfl) rfl), by decide +kernel, by decide, by decide +kernel, by decide +kernel, (lwm_tables_1_1 (List.mem_of_getElem? (i := 6) rfl) rfl)⟩
abbrev M_X10_heldMany : pm_M := (yX10_heldMany, cX10_heldMany, 4, (some .int))
theorem in_X10_heldMany : pm_in M_X10_heldMany := ⟨(lwm_tables_1_6 (List.mem_of_getElem? (i := 98) rfl) rfl), by decide +kernel, by decide, by decide +kernel, by decide +kernel, (lwm_tables_1_1 (List.mem_of_getElem? (i := 6) rfl) rfl)⟩
abbrev M_X10_comes : pm_M := (yX10_comes, cX10_comes, 4, none)
theorem in_X10_comes : pm_in M_X10_comes := ⟨(lwm_tables_1_6 (List.mem_of_getElem? (i := 86) rfl) rfl), by decide +kernel, by decide, by decide +kernel, by decide +kernel, (lwm_tables_1_1 (List.mem_of_getElem? (i := 6) rfl) rfl)⟩
abbrev M_X10_takesInput : pm_M := (yX10_takesInput, cX10_takesInput, 2, none)
theorem in_X10_takesInput : pm_in M_X10_takesInput := ⟨(lwm_tables_1_6 (List.mem_of_getElem? (i := 44) rfl) rfl), by decide +kernel, by decide, by decide +kernel, by decide +kernel, (lwm_tables_1_1 (List.mem_of_getElem? (i := 6) rfl) rfl)⟩
abbrev M_X10_draws : pm_M := (yX10_draws, cX10_draws, 2, none)
theorem in_X10_draws : pm_in M_X10_draws := ⟨(lwm_tables_1_6 (List.mem_of_getElem? (i := 48) rfl) rfl), by decide +kernel, by decide, by decide +kernel, by decide +kernel, (lwm_tables_1_1 (List.mem_of_getElem? (i := 6) rfl) rfl)⟩
abbrev M_X10_goesOn : pm_M := (yX10_goesOn, cX10_goesOn, 5, none)
theorem in_X10_goesOn : pm_in M_X10_goesOn := ⟨(lwm_tables_1_6 (List.mem_of_getElem? (i := 40) rfl) rfl), by decide +kernel, by decide, by decide +kernel, by decide +kernel, (lwm_tables_1_1 (List.mem_of_getElem? (i := 6) rfl) rfl)⟩
abbrev M_X10_watchedChanges : pm_M := (yX10_watchedChanges, cX10_watchedChanges, 3, (some .int))
theorem in_X10_watchedChanges : pm_in M_X10_watchedChanges := ⟨(lwm_tables_1_6 (List.mem_of_getElem? (i := 28) rfl) rfl), by decide +kernel, by decide, by decide +kernel, by decide +kernel, (lwm_tables_1_1 (List.mem_of_getElem? (i := 6) rfl) rfl)⟩
abbrev M_X10_run : pm_M := (yX10_run, cX10_run, 4, (some .int))
theorem in_X10_run : pm_in M_X10_run := ⟨(lwm_tables_1_6 (List.mem_of_getElem? (i := 24) rfl) rfl), by decide +kernel, by decide, by decide +kernel, by decide +kernel, (lwm_tables_1_1 (List.mem_of_getElem? (i := 6) rfl) rfl)⟩
abbrev M_X10_watch : pm_M := (yX10_watch, cX10_watch, 3, (some .boolean))
theorem in_X10_watch : pm_in M_X10_watch := ⟨(lwm_tables_1_6 (List.mem_of_getElem? (i := 103) rfl) rfl), by decide +kernel, by decide, by decide +kernel, by decide +kernel, (lwm_tables_1_1 (List.mem_of_getElem? (i := 6) rfl) rfl)⟩
abbrev M_X10_simPokes : pm_M := (yX10_simPokes, cX10_simPokes, 2, none)
theorem in_X10_simPokes : pm_in M_X10_simPokes := ⟨(lwm_tables_1_6 (List.mem_of_getElem? (i := 131) rfl) rfl), by decide +kernel, by decide, by decide +kernel, by decide +kernel, (lwm_tables_1_1 (List.mem_of_getElem? (i := 6) rfl) rfl)⟩
abbrev M_X10_simBegins : pm_M := (yX10_simBegins, cX10_simBegins, 2, none)
theorem in_X10_simBegins : pm_in M_X10_simBegins := ⟨(lwm_tables_1_6 (List.mem_of_getElem? (i := 127) rfl) rfl), by decide +kernel, by decide, by decide +kernel, by decide +kernel, (lwm_tables_1_1 (List.mem_of_getElem? (i := 6) rfl) rfl)⟩
abbrev M_X10_simStep : pm_M := (yX10_simStep, cX10_simStep, 1, none)
theorem in_X10_simStep : pm_in M_X10_simStep := ⟨(lwm_tables_1_6 (List.mem_of_getElem? (i := 135) rfl) rfl), by decide +kernel, by decide, by decide +kernel, by decide +kernel, (lwm_tables_1_1 (List.mem_of_getElem? (i := 6) rfl) rfl)⟩
abbrev M_X10_lays : pm_M := (yX10_lays, cX10_lays, 3, none)
theorem in_X10_lays : pm_in M_X10_lays := ⟨(lwm_tables_1_6 (List.mem_of_getElem? (i := 123) rfl) rfl), by decide +kernel, by decide, by decide +kernel, by decide +kernel, (lwm_tables_1_1 (List.mem_of_getElem? (i := 6) rfl) rfl)⟩
abbrev M_X10_heldBy : pm_M := (yX10_heldBy, cX10_heldBy, 4, (some .int))
theorem in_X10_heldBy : pm_in M_X10_heldBy := ⟨(lwm_tables_1_6 (List.mem_of_getElem? (i := 115) rfl) rfl), by decide +kernel, by decide, by decide +kernel, by decide +kernel, (lwm_tables_1_1 (List.mem_of_getElem? (i := 6) rfl) rfl)⟩
abbrev M_X10_counts : pm_M := (yX10_counts, cX10_counts, 3, none)
theorem in_X10_counts : pm_in M_X10_counts := ⟨(lwm_tables_1_6 (List.mem_of_getElem? (i := 119) rfl) rfl), by decide +kernel, by decide, by decide +kernel, by decide +kernel, (lwm_tables_1_1 (List.mem_of_getElem? (i := 6) rfl) rfl)⟩
abbrev M_X10_replays : pm_M := (yX10_replays, cX10_replays, 3, none)
theorem in_X10_replays : pm_in M_X10_replays := ⟨(lwm_tables_1_6 (List.mem_of_getElem? (i := 111) rfl) rfl), by decide +kernel, by decide, by decide +kernel, by decide +kernel, (lwm_tables_1_1 (List.mem_of_getElem? (i := 6) rfl) rfl)⟩
abbrev M_X10_runAsked : pm_M := (yX10_runAsked, cX10_runAsked, 1, (some .int))
theorem in_X10_runAsked : pm_in M_X10_runAsked := ⟨(lwm_tables_1_6 (List.mem_of_getElem? (i := 158) rfl) rfl), by decide +kernel, by decide, by decide +kernel, by decide +kernel, (lwm_tables_1_1 (List.mem_of_getElem? (i := 6) rfl) rfl)⟩
abbrev M_X10_isTime : pm_M := (yX10_isTime, cX10_isTime, 3, (some .boolean))
theorem in_X10_isTime : pm_in M_X10_isTime := ⟨(lwm_tables_1_6 (List.mem_of_getElem? (i := 154) rfl) rfl), by decide +kernel, by decide, by decide +kernel, by decide +kernel, (lwm_tables_1_1 (List.mem_of_getElem? (i := 6) rfl) rfl)⟩
abbrev M_X10_back : pm_M := (yX10_back, cX10_back, 7, (some .int))
theorem in_X10_back : pm_in M_X10_back := ⟨(lwm_tables_1_6 (List.mem_of_getElem? (i := 107) rfl) rfl), by decide +kernel, by decide, by decide +kernel, by decide +kernel, (lwm_tables_1_1 (List.mem_of_getElem? (i := 6) rfl) rfl)⟩
abbrev M_X10_copies : pm_M := (yX10_copies, cX10_copies, 5, none)
theorem in_X10_copies : pm_in M_X10_copies := ⟨(lwm_tables_1_6 (List.mem_of_getElem? (i := 142) rfl) rfl), by decide +kernel, by decide, by decide +kernel, by decide +kernel, (lwm_tables_1_1 (List.mem_of_getElem? (i := 6) rfl) rfl)⟩
abbrev M_X10_keep : pm_M := (yX10_keep, cX10_keep, 3, (some .int))
theorem in_X10_keep : pm_in M_X10_keep := ⟨(lwm_tables_1_6 (List.mem_of_getElem? (i := 139) rfl) rfl), by decide +kernel, by decide, by decide +kernel, by decide +kernel, (lwm_tables_1_1 (List.mem_of_getElem? (i := 6) rfl) rfl)⟩
abbrev M_X10_use : pm_M := (yX10_use, cX10_use, 2, (some .boolean))
theorem in_X10_use : pm_in M_X10_use := ⟨(lwm_tables_1_6 (List.mem_of_getElem? (i := 146) rfl) rfl), by decide +kernel, by decide, by decide +kernel, by decide +kernel, (lwm_tables_1_1 (List.mem_of_getElem? (i := 6) rfl) rfl)⟩
abbrev M_X10_at : pm_M := (yX10_at, cX10_at, 4, (some .int))
theorem in_X10_at : pm_in M_X10_at := ⟨(lwm_tables_1_6 (List.mem_of_getElem? (i := 150) rfl) rfl), by decide +kernel, by decide, by decide +kernel, by decide +kernel, (lwm_tables_1_1 (List.mem_of_getElem? (i := 6) rfl) rfl)⟩
abbrev M_X10_state : pm_M := (yX10_state, cX10_state, 3, (some .int))
theorem in_X10_state : pm_in M_X10_state := ⟨(lwm_tables_1_6 (List.mem_of_getElem? (i := 163) rfl) rfl), by decide +kernel, by decide, by decide +kernel, by decide +kernel, (lwm_tables_1_1 (List.mem_of_getElem? (i := 6) rfl) rfl)⟩
abbrev M_X10_lastOf : pm_M := (yX10_lastOf, cX10_lastOf, 8, (some .int))
theorem in_X10_lastOf : pm_in M_X10_lastOf := ⟨(lwm_tables_1_6 (List.mem_of_getElem? (i := 171) rfl) rfl), by decide +kernel, by decide, by decide +kernel, by decide +kernel, (lwm_tables_1_1 (List.mem_of_getElem? (i := 6) rfl) rfl)⟩
abbrev M_X10_last : pm_M := (yX10_last, cX10_last, 3, (some .int))
theorem in_X10_last : pm_in M_X10_last := ⟨(lwm_tables_1_6 (List.mem_of_getElem? (i := 167) rfl) rfl), by decide +kernel, by decide, by decide +kernel, by decide +kernel, (lwm_tables_1_1 (List.mem_of_getElem? (i := 6) rfl) rfl)⟩
abbrev M_X10_hadIn : pm_M := (yX10_hadIn, cX10_hadIn, 9, (some .int))
theorem in_X10_hadIn : pm_in M_X10_hadIn := ⟨(lwm_tables_1_6 (List.mem_of_getElem? (i := 179) rfl) rfl), by decide +kernel, by decide, by decide +kernel, by decide +kernel, (lwm_tables_1_1 (List.mem_of_getElem? (i := 6) rfl) rfl)⟩
abbrev M_X10_when : pm_M := (yX10_when, cX10_when, 9, (some .int))
theorem in_X10_when : pm_in M_X10_when := ⟨(lwm_tables_1_6 (List.mem_of_getElem? (i := 175) rfl) rfl), by decide +kernel, by decide, by decide +kernel, by decide +kernel, (lwm_tables_1_1 (List.mem_of_getElem? (i := 6) rfl) rfl)⟩
abbrev M_X10_changed : pm_M := (yX10_changed, cX10_changed, 8, (some .int))
theorem in_X10_changed : pm_in M_X10_changed := ⟨(lwm_tables_1_6 (List.mem_of_getElem? (i := 183) rfl) rfl), by decide +kernel, by decide, by decide +kernel, by decide +kernel, (lwm_tables_1_1 (List.mem_of_getElem? (i := 6) rfl) rfl)⟩
abbrev M_X10_watched : pm_M := (yX10_watched, cX10_watched, 4, (some .int))
theorem in_X10_watched : pm_in M_X10_watched := ⟨(lwm_tables_1_6 (List.mem_of_getElem? (i := 187) rfl) rfl), by decide +kernel, by decide, by decide +kernel, by decide +kernel, (lwm_tables_1_1 (List.mem_of_getElem? (i := 6) rfl) rfl)⟩
abbrev M_X10_clearsLooked : pm_M := (yX10_clearsLooked, cX10_clearsLooked, 2, none)
theorem in_X10_clearsLooked : pm_in M_X10_clearsLooked := ⟨(lwm_tables_1_6 (List.mem_of_getElem? (i := 203) rfl) rfl), by decide +kernel, by decide, by decide +kernel, by decide +kernel, (lwm_tables_1_1 (List.mem_of_getElem? (i := 6) rfl) rfl)⟩
abbrev M_X10_looksAt : pm_M := (yX10_looksAt, cX10_looksAt, 3, none)
theorem in_X10_looksAt : pm_in M_X10_looksAt := ⟨(lwm_tables_1_6 (List.mem_of_getElem? (i := 219) rfl) rfl), by decide +kernel, by decide, by decide +kernel, by decide +kernel, (lwm_tables_1_1 (List.mem_of_getElem? (i := 6) rfl) rfl)⟩
abbrev M_X10_adds : pm_M := (yX10_adds, cX10_adds, 2, none)
theorem in_X10_adds : pm_in M_X10_adds := ⟨(lwm_tables_1_6 (List.mem_of_getElem? (i := 207) rfl) rfl), by decide +kernel, by decide, by decide +kernel, by decide +kernel, (lwm_tables_1_1 (List.mem_of_getElem? (i := 6) rfl) rfl)⟩
abbrev M_X10_restsOn : pm_M := (yX10_restsOn, cX10_restsOn, 3, none)
theorem in_X10_restsOn : pm_in M_X10_restsOn := ⟨(lwm_tables_1_6 (List.mem_of_getElem? (i := 211) rfl) rfl), by decide +kernel, by decide, by decide +kernel, by decide +kernel, (lwm_tables_1_1 (List.mem_of_getElem? (i := 6) rfl) rfl)⟩
abbrev M_X10_restPokes : pm_M := (yX10_restPokes, cX10_restPokes, 2, none)
theorem in_X10_restPokes : pm_in M_X10_restPokes := ⟨(lwm_tables_1_6 (List.mem_of_getElem? (i := 199) rfl) rfl), by decide +kernel, by decide, by decide +kernel, by decide +kernel, (lwm_tables_1_1 (List.mem_of_getElem? (i := 6) rfl) rfl)⟩
abbrev M_X10_looks : pm_M := (yX10_looks, cX10_looks, 5, none)
theorem in_X10_looks : pm_in M_X10_looks := ⟨(lwm_tables_1_6 (List.mem_of_getElem? (i := 215) rfl) rfl), by decide +kernel, by decide, by decide +kernel, by decide +kernel, (lwm_tables_1_1 (List.mem_of_getElem? (i := 6) rfl) rfl)⟩
abbrev M_X10_laysRests : pm_M := (yX10_laysRests, cX10_laysRests, 4, none)
theorem in_X10_laysRests : pm_in M_X10_laysRests := ⟨(lwm_tables_1_6 (List.mem_of_getElem? (i := 195) rfl) rfl), by decide +kernel, by decide, by decide +kernel, by decide +kernel, (lwm_tables_1_1 (List.mem_of_getElem? (i := 6) rfl) rfl)⟩
abbrev M_X10_restsOnBit : pm_M := (yX10_restsOnBit, cX10_restsOnBit, 3, (some .boolean))
theorem in_X10_restsOnBit : pm_in M_X10_restsOnBit := ⟨(lwm_tables_1_6 (List.mem_of_getElem? (i := 223) rfl) rfl), by decide +kernel, by decide, by decide +kernel, by decide +kernel, (lwm_tables_1_1 (List.mem_of_getElem? (i := 6) rfl) rfl)⟩
abbrev M_X10_rests : pm_M := (yX10_rests, cX10_rests, 6, (some .int))
theorem in_X10_rests : pm_in M_X10_rests := ⟨(lwm_tables_1_6 (List.mem_of_getElem? (i := 191) rfl) rfl), by decide +kernel, by decide, by decide +kernel, by decide +kernel, (lwm_tables_1_1 (List.mem_of_getElem? (i := 6) rfl) rfl)⟩
abbrev M_X10_hangs : pm_M := (yX10_hangs, cX10_hangs, 9, (some .int))
theorem in_X10_hangs : pm_in M_X10_hangs := ⟨(lwm_tables_1_6 (List.mem_of_getElem? (i := 227) rfl) rfl), by decide +kernel, by decide, by decide +kernel, by decide +kernel, (lwm_tables_1_1 (List.mem_of_getElem? (i := 6) rfl) rfl)⟩
abbrev M_X10_history : pm_M := (yX10_history, cX10_history, 8, (some .int))
theorem in_X10_history : pm_in M_X10_history := ⟨(lwm_tables_1_6 (List.mem_of_getElem? (i := 231) rfl) rfl), by decide +kernel, by decide, by decide +kernel, by decide +kernel, (lwm_tables_1_1 (List.mem_of_getElem? (i := 6) rfl) rfl)⟩
abbrev M_X10_done : pm_M := (yX10_done, cX10_done, 6, (some .int))
theorem in_X10_done : pm_in M_X10_done := ⟨(lwm_tables_1_6 (List.mem_of_getElem? (i := 235) rfl) rfl), by decide +kernel, by decide, by decide +kernel, by decide +kernel, (lwm_tables_1_1 (List.mem_of_getElem? (i := 6) rfl) rfl)⟩
abbrev M_X10_call : pm_M := (yX10_call, cX10_call, 5, (some .int))
theorem in_X10_call : pm_in M_X10_call := ⟨(lwm_tables_1_6 (List.mem_of_getElem? (i := 239) rfl) rfl), by decide +kernel, by decide, by decide +kernel, by decide +kernel, (lwm_tables_1_1 (List.mem_of_getElem? (i := 6) rfl) rfl)⟩
abbrev M_X10_log : pm_M := (yX10_log, cX10_log, 5, (some .int))
theorem in_X10_log : pm_in M_X10_log := ⟨(lwm_tables_1_7 (List.mem_of_getElem? (i := 3) rfl) rfl), by decide +kernel, by decide, by decide +kernel, by decide +kernel, (lwm_tables_1_1 (List.mem_of_getElem? (i := 6) rfl) rfl)⟩
abbrev M_X10_held : pm_M := (yX10_held, cX10_held, 6, (some .int))
theorem in_X10_held : pm_in M_X10_held := ⟨(lwm_tables_1_7 (List.mem_of_getElem? (i := 7) rfl) rfl), by decide +kernel, by decide, by decide +kernel, by decide +kernel, (lwm_tables_1_1 (List.mem_of_getElem? (i := 6) rfl) rfl)⟩
abbrev M_X10_wouldBe : pm_M := (yX10_wouldBe, cX10_wouldBe, 4, (some .boolean))
theorem in_X10_wouldBe : pm_in M_X10_wouldBe := ⟨(lwm_tables_1_7 (List.mem_of_getElem? (i := 19) rfl) rfl), by decide +kernel, by decide, by decide +kernel, by decide +kernel, (lwm_tables_1_1 (List.mem_of_getElem? (i := 6) rfl) rfl)⟩
abbrev M_X10_wouldOf : pm_M := (yX10_wouldOf, cX10_wouldOf, 6, (some .int))
theorem in_X10_wouldOf : pm_in M_X10_wouldOf := ⟨(lwm_tables_1_7 (List.mem_of_getElem? (i := 15) rfl) rfl), by decide +kernel, by decide, by decide +kernel, by decide +kernel, (lwm_tables_1_1 (List.mem_of_getElem? (i := 6) rfl) rfl)⟩
abbrev M_X10_would : pm_M := (yX10_would, cX10_would, 4, (some .int))
theorem in_X10_would : pm_in M_X10_would := ⟨(lwm_tables_1_7 (List.mem_of_getElem? (i := 11) rfl) rfl), by decide +kernel, by decide, by decide +kernel, by decide +kernel, (lwm_tables_1_1 (List.mem_of_getElem? (i := 6) rfl) rfl)⟩
abbrev M_X10_gap : pm_M := (yX10_gap, cX10_gap, 7, (some .int))
theorem in_X10_gap : pm_in M_X10_gap := ⟨(lwm_tables_1_7 (List.mem_of_getElem? (i := 23) rfl) rfl), by decide +kernel, by decide, by decide +kernel, by decide +kernel, (lwm_tables_1_1 (List.mem_of_getElem? (i := 6) rfl) rfl)⟩
abbrev M_X10_sparing : pm_M := (yX10_sparing, cX10_sparing, 5, (some .int))
theorem in_X10_sparing : pm_in M_X10_sparing := ⟨(lwm_tables_1_7 (List.mem_of_getElem? (i := 27) rfl) rfl), by decide +kernel, by decide, by decide +kernel, by decide +kernel, (lwm_tables_1_1 (List.mem_of_getElem? (i := 6) rfl) rfl)⟩
abbrev M_X10_isThere : pm_M := (yX10_isThere, cX10_isThere, 2, (some .boolean))
theorem in_X10_isThere : pm_in M_X10_isThere := ⟨(lwm_tables_1_7 (List.mem_of_getElem? (i := 35) rfl) rfl), by decide +kernel, by decide, by decide +kernel, by decide +kernel, (lwm_tables_1_1 (List.mem_of_getElem? (i := 6) rfl) rfl)⟩
abbrev M_X10_areLike : pm_M := (yX10_areLike, cX10_areLike, 5, (some .boolean))
theorem in_X10_areLike : pm_in M_X10_areLike := ⟨(lwm_tables_1_7 (List.mem_of_getElem? (i := 43) rfl) rfl), by decide +kernel, by decide, by decide +kernel, by decide +kernel, (lwm_tables_1_1 (List.mem_of_getElem? (i := 6) rfl) rfl)⟩
abbrev M_X10_laysPairs : pm_M := (yX10_laysPairs, cX10_laysPairs, 8, none)
theorem in_X10_laysPairs : pm_in M_X10_laysPairs := ⟨(lwm_tables_1_7 (List.mem_of_getElem? (i := 39) rfl) rfl), by decide +kernel, by decide, by decide +kernel, by decide +kernel, (lwm_tables_1_1 (List.mem_of_getElem? (i := 6) rfl) rfl)⟩
abbrev M_X10_align : pm_M := (yX10_align, cX10_align, 3, (some .int))
theorem in_X10_align : pm_in M_X10_align := ⟨(lwm_tables_1_7 (List.mem_of_getElem? (i := 31) rfl) rfl), by decide +kernel, by decide, by decide +kernel, by decide +kernel, (lwm_tables_1_1 (List.mem_of_getElem? (i := 6) rfl) rfl)⟩
abbrev M_X10_finds : pm_M := (yX10_finds, cX10_finds, 8, none)
theorem in_X10_finds : pm_in M_X10_finds := ⟨(lwm_tables_1_7 (List.mem_of_getElem? (i := 51) rfl) rfl), by decide +kernel, by decide, by decide +kernel, by decide +kernel, (lwm_tables_1_1 (List.mem_of_getElem? (i := 6) rfl) rfl)⟩
abbrev M_X10_pair : pm_M := (yX10_pair, cX10_pair, 9, (some .int))
theorem in_X10_pair : pm_in M_X10_pair := ⟨(lwm_tables_1_7 (List.mem_of_getElem? (i := 47) rfl) rfl), by decide +kernel, by decide, by decide +kernel, by decide +kernel, (lwm_tables_1_1 (List.mem_of_getElem? (i := 6) rfl) rfl)⟩
abbrev M_X10_swaps : pm_M := (yX10_swaps, cX10_swaps, 3, none)
theorem in_X10_swaps : pm_in M_X10_swaps := ⟨(lwm_tables_1_7 (List.mem_of_getElem? (i := 59) rfl) rfl), by decide +kernel, by decide, by decide +kernel, by decide +kernel, (lwm_tables_1_1 (List.mem_of_getElem? (i := 6) rfl) rfl)⟩
abbrev M_X10_areStatesLike : pm_M := (yX10_areStatesLike, cX10_areStatesLike, 2, (some .boolean))
theorem in_X10_areStatesLike : pm_in M_X10_areStatesLike := ⟨(lwm_tables_1_7 (List.mem_of_getElem? (i := 63) rfl) rfl), by decide +kernel, by decide, by decide +kernel, by decide +kernel, (lwm_tables_1_1 (List.mem_of_getElem? (i := 6) rfl) rfl)⟩
abbrev M_X10_parts : pm_M := (yX10_parts, cX10_parts, 8, (some .int))
theorem in_X10_parts : pm_in M_X10_parts := ⟨(lwm_tables_1_7 (List.mem_of_getElem? (i := 55) rfl) rfl), by decide +kernel, by decide, by decide +kernel, by decide +kernel, (lwm_tables_1_1 (List.mem_of_getElem? (i := 6) rfl) rfl)⟩
abbrev M_X10_watchedOf : pm_M := (yX10_watchedOf, cX10_watchedOf, 5, (some .int))
theorem in_X10_watchedOf : pm_in M_X10_watchedOf := ⟨(lwm_tables_1_7 (List.mem_of_getElem? (i := 75) rfl) rfl), by decide +kernel, by decide, by decide +kernel, by decide +kernel, (lwm_tables_1_1 (List.mem_of_getElem? (i := 6) rfl) rfl)⟩
abbrev M_X10_ofRun : pm_M := (yX10_ofRun, cX10_ofRun, 3, (some .int))
theorem in_X10_ofRun : pm_in M_X10_ofRun := ⟨(lwm_tables_1_7 (List.mem_of_getElem? (i := 71) rfl) rfl), by decide +kernel, by decide, by decide +kernel, by decide +kernel, (lwm_tables_1_1 (List.mem_of_getElem? (i := 6) rfl) rfl)⟩
abbrev M_X10_look : pm_M := (yX10_look, cX10_look, 2, (some .int))
theorem in_X10_look : pm_in M_X10_look := ⟨(lwm_tables_1_7 (List.mem_of_getElem? (i := 67) rfl) rfl), by decide +kernel, by decide, by decide +kernel, by decide +kernel, (lwm_tables_1_1 (List.mem_of_getElem? (i := 6) rfl) rfl)⟩
abbrev M_J7_fill_53178 : pm_M := (yJ7_fill_53178, cJ7_fill_53178, 4, none)
theorem in_J7_fill_53178 : pm_in M_J7_fill_53178 := ⟨(lwm_tables_1_1 (List.mem_of_getElem? (i := 30) rfl) rfl), by decide +kernel, by decide, by decide +kernel, by decide +kernel, (lwm_tables_1_1 (List.mem_of_getElem? (i := 3) rfl) rfl)⟩
abbrev M_J7_fill_49daa : pm_M := (yJ7_fill_49daa, cJ7_fill_49daa, 4, none)
theorem in_J7_fill_49daa : pm_in M_J7_fill_49daa := ⟨(lwm_tables_1_4 (List.mem_of_getElem? (i := 109) rfl) rfl), by decide +kernel, by decide, by decide +kernel, by decide +kernel, (lwm_tables_1_1 (List.mem_of_getElem? (i := 3) rfl) rfl)⟩
theorem ml_X9_11 : pm_lI RX9 11 M_X5_init 0 := ⟨in_X5_init, (lwm_tables_1_1 (List.mem_of_getElem? (i := 24) rfl) rfl), (lwm_tables_1_1 (List.mem_of_getElem? (i := 25) rfl) rfl), rfl, rfl, by decide +kernel⟩
theorem ml_X9_18 : pm_nI RX9 18 M_X4_init RX9 0 := ⟨in_X4_init, (lwt_tables_1_1 (List.mem_of_getElem? (i := 47) rfl)), (lwm_tables_1_1 (List.mem_of_getElem? (i := 48) rfl) rfl), rfl, rfl, by decide +kernel⟩
theorem ml_X9_25 : pm_nI RX9 25 M_X0_init RX9 0 := ⟨in_X0_init, (lwt_tables_1_1 (List.mem_of_getElem? (i := 69) rfl)), (lwm_tables_1_1 (List.mem_of_getElem? (i := 70) rfl) rfl), rfl, rfl, by decide +kernel⟩
theorem ml_X9_66 : pm_lS RX9 66 M_X9_isInstructionPlace 1 := ⟨in_X9_isInstructionPlace, (lwm_tables_1_1 (List.mem_of_getElem? (i := 142) rfl) rfl), (lwm_tables_1_1 (List.mem_of_getElem? (i := 143) rfl) rfl), by decide +kernel⟩
theorem ml_X9_70 : pm_lS RX9 70 M_X9_isInstruction 4 := ⟨in_X9_isInstruction, (lwm_tables_1_1 (List.mem_of_getElem? (i := 145) rfl) rfl), (lwm_tables_1_1 (List.mem_of_getElem? (i := 146) rfl) rfl), by decide +kernel⟩
theorem ml_X9_74 : pm_lV RX9 74 M_X5_write 5 := ⟨in_X5_write, (lwm_tables_1_1 (List.mem_of_getElem? (i := 157) rfl) rfl), (lwm_tables_1_1 (List.mem_of_getElem? (i := 158) rfl) rfl), (lwm_tables_1_1 (List.mem_of_getElem? (i := 159) rfl) rfl), by decide +kernel⟩
theorem ml_X9_78 : pm_lS RX9 78 M_X9_isUnit 1 := ⟨in_X9_isUnit, (lwm_tables_1_1 (List.mem_of_getElem? (i := 166) rfl) rfl), (lwm_tables_1_1 (List.mem_of_getElem? (i := 167) rfl) rfl), by decide +kernel⟩
theorem ml_X9_81 : pm_lS RX9 81 M_X9_isDepth 1 := ⟨in_X9_isDepth, (lwm_tables_1_1 (List.mem_of_getElem? (i := 169) rfl) rfl), (lwm_tables_1_1 (List.mem_of_getElem? (i := 170) rfl) rfl), by decide +kernel⟩
theorem ml_X9_84 : pm_lI RX9 84 M_X7_init 0 := ⟨in_X7_init, (lwm_tables_1_1 (List.mem_of_getElem? (i := 177) rfl) rfl), (lwm_tables_1_1 (List.mem_of_getElem? (i := 178) rfl) rfl), rfl, rfl, by decide +kernel⟩
theorem ml_X9_85 : pm_lV RX9 85 M_X7_start 3 := ⟨in_X7_start, (lwm_tables_1_2 (List.mem_of_getElem? (i := 126) rfl) rfl), (lwm_tables_1_2 (List.mem_of_getElem? (i := 127) rfl) rfl), (lwm_tables_1_2 (List.mem_of_getElem? (i := 128) rfl) rfl), by decide +kernel⟩
theorem ml_X9_89 : pm_lV RX9 89 M_X4_clearInputs 0 := ⟨in_X4_clearInputs, (lwm_tables_1_2 (List.mem_of_getElem? (i := 143) rfl) rfl), (lwm_tables_1_2 (List.mem_of_getElem? (i := 144) rfl) rfl), (lwm_tables_1_2 (List.mem_of_getElem? (i := 145) rfl) rfl), by decide +kernel⟩
theorem ml_X9_92 : pm_lV RX9 92 M_X5_size 0 := ⟨in_X5_size, (lwm_tables_1_2 (List.mem_of_getElem? (i := 147) rfl) rfl), (lwm_tables_1_2 (List.mem_of_getElem? (i := 148) rfl) rfl), (lwm_tables_1_2 (List.mem_of_getElem? (i := 149) rfl) rfl), by decide +kernel⟩
theorem ml_X9_99 : pm_lV RX9 99 M_X4_addLast 1 := ⟨in_X4_addLast, (lwm_tables_1_2 (List.mem_of_getElem? (i := 155) rfl) rfl), (lwm_tables_1_2 (List.mem_of_getElem? (i := 156) rfl) rfl), (lwm_tables_1_2 (List.mem_of_getElem? (i := 157) rfl) rfl), by decide +kernel⟩
theorem ml_X9_110 : pm_lV RX9 110 M_X3_isFull 0 := ⟨in_X3_isFull, (lwm_tables_1_2 (List.mem_of_getElem? (i := 167) rfl) rfl), (lwm_tables_1_2 (List.mem_of_getElem? (i := 168) rfl) rfl), (lwm_tables_1_2 (List.mem_of_getElem? (i := 169) rfl) rfl), by decide +kernel⟩
theorem ml_X9_116 : pm_lS RX9 116 M_X9_isPlace 1 := ⟨in_X9_isPlace, (lwm_tables_1_2 (List.mem_of_getElem? (i := 171) rfl) rfl), (lwm_tables_1_2 (List.mem_of_getElem? (i := 172) rfl) rfl), by decide +kernel⟩
theorem ml_X9_119 : pm_lS RX9 119 M_X9_isValue 2 := ⟨in_X9_isValue, (lwm_tables_1_2 (List.mem_of_getElem? (i := 174) rfl) rfl), (lwm_tables_1_2 (List.mem_of_getElem? (i := 175) rfl) rfl), by decide +kernel⟩
theorem ml_X9_123 : pm_lV RX9 123 M_X7_putByPoke 3 := ⟨in_X7_putByPoke, (lwm_tables_1_2 (List.mem_of_getElem? (i := 177) rfl) rfl), (lwm_tables_1_2 (List.mem_of_getElem? (i := 178) rfl) rfl), (lwm_tables_1_2 (List.mem_of_getElem? (i := 179) rfl) rfl), by decide +kernel⟩
theorem ml_X9_127 : pm_lV RX9 127 M_X7_canStep 1 := ⟨in_X7_canStep, (lwm_tables_1_2 (List.mem_of_getElem? (i := 222) rfl) rfl), (lwm_tables_1_2 (List.mem_of_getElem? (i := 223) rfl) rfl), (lwm_tables_1_2 (List.mem_of_getElem? (i := 224) rfl) rfl), by decide +kernel⟩
theorem ml_X9_131 : pm_lV RX9 131 M_X7_step 1 := ⟨in_X7_step, (lwm_tables_1_3 (List.mem_of_getElem? (i := 3) rfl) rfl), (lwm_tables_1_3 (List.mem_of_getElem? (i := 4) rfl) rfl), (lwm_tables_1_3 (List.mem_of_getElem? (i := 5) rfl) rfl), by decide +kernel⟩
theorem ml_X9_138 : pm_lV RX9 138 M_X9_isWatched 1 := ⟨in_X9_isWatched, (lwm_tables_1_3 (List.mem_of_getElem? (i := 145) rfl) rfl), (lwm_tables_1_3 (List.mem_of_getElem? (i := 147) rfl) rfl), (lwm_0 (List.mem_of_getElem? (i := 5) rfl) rfl), by decide +kernel⟩
theorem ml_X9_144 : pm_lV RX9 144 M_X9_replay 2 := ⟨in_X9_replay, (lwm_tables_1_3 (List.mem_of_getElem? (i := 157) rfl) rfl), (lwm_tables_1_3 (List.mem_of_getElem? (i := 159) rfl) rfl), (lwm_0 (List.mem_of_getElem? (i := 6) rfl) rfl), by decide +kernel⟩
theorem ml_X9_148 : pm_lV RX9 148 M_X7_goBack 2 := ⟨in_X7_goBack, (lwm_tables_1_3 (List.mem_of_getElem? (i := 173) rfl) rfl), (lwm_tables_1_3 (List.mem_of_getElem? (i := 174) rfl) rfl), (lwm_tables_1_3 (List.mem_of_getElem? (i := 175) rfl) rfl), by decide +kernel⟩
theorem ml_X9_152 : pm_lV RX9 152 M_X7_statusWith 1 := ⟨in_X7_statusWith, (lwm_tables_1_3 (List.mem_of_getElem? (i := 217) rfl) rfl), (lwm_tables_1_2 (List.mem_of_getElem? (i := 227) rfl) rfl), (lwm_tables_1_2 (List.mem_of_getElem? (i := 228) rfl) rfl), by decide +kernel⟩
theorem ml_X9_156 : pm_lI RX9 156 M_X7_init_ 2 := ⟨in_X7_init_, (lwm_tables_1_3 (List.mem_of_getElem? (i := 218) rfl) rfl), (lwm_tables_1_3 (List.mem_of_getElem? (i := 219) rfl) rfl), rfl, rfl, by decide +kernel⟩
theorem ml_X9_158 : pm_lV RX9 158 M_X9_isKept 1 := ⟨in_X9_isKept, (lwm_tables_1_4 (List.mem_of_getElem? (i := 12) rfl) rfl), (lwm_tables_1_4 (List.mem_of_getElem? (i := 14) rfl) rfl), (lwm_0 (List.mem_of_getElem? (i := 10) rfl) rfl), by decide +kernel⟩
theorem ml_X9_161 : pm_lV RX9 161 M_X9_numbered 1 := ⟨in_X9_numbered, (lwm_tables_1_4 (List.mem_of_getElem? (i := 20) rfl) rfl), (lwm_tables_1_4 (List.mem_of_getElem? (i := 22) rfl) rfl), (lwm_0 (List.mem_of_getElem? (i := 11) rfl) rfl), by decide +kernel⟩
theorem ml_X9_165 : pm_lV RX9 165 M_X7_hasTime 1 := ⟨in_X7_hasTime, (lwm_tables_1_4 (List.mem_of_getElem? (i := 24) rfl) rfl), (lwm_tables_1_2 (List.mem_of_getElem? (i := 235) rfl) rfl), (lwm_tables_1_2 (List.mem_of_getElem? (i := 236) rfl) rfl), by decide +kernel⟩
theorem ml_X9_173 : pm_lV RX9 173 M_X6_putBy 2 := ⟨in_X6_putBy, (lwm_tables_1_4 (List.mem_of_getElem? (i := 26) rfl) rfl), (lwm_tables_1_4 (List.mem_of_getElem? (i := 27) rfl) rfl), (lwm_tables_1_4 (List.mem_of_getElem? (i := 28) rfl) rfl), by decide +kernel⟩
theorem ml_X9_179 : pm_lV RX9 179 M_X6_sortOf 1 := ⟨in_X6_sortOf, (lwm_tables_1_4 (List.mem_of_getElem? (i := 35) rfl) rfl), (lwm_tables_1_2 (List.mem_of_getElem? (i := 199) rfl) rfl), (lwm_tables_1_2 (List.mem_of_getElem? (i := 200) rfl) rfl), by decide +kernel⟩
theorem ml_X9_183 : pm_lV RX9 183 M_X6_numberOf 1 := ⟨in_X6_numberOf, (lwm_tables_1_4 (List.mem_of_getElem? (i := 36) rfl) rfl), (lwm_tables_1_2 (List.mem_of_getElem? (i := 203) rfl) rfl), (lwm_tables_1_2 (List.mem_of_getElem? (i := 204) rfl) rfl), by decide +kernel⟩
theorem ml_X9_186 : pm_lV RX9 186 M_X6_changesOf 1 := ⟨in_X6_changesOf, (lwm_tables_1_4 (List.mem_of_getElem? (i := 37) rfl) rfl), (lwm_tables_1_2 (List.mem_of_getElem? (i := 207) rfl) rfl), (lwm_tables_1_2 (List.mem_of_getElem? (i := 208) rfl) rfl), by decide +kernel⟩
theorem ml_X9_189 : pm_lS RX9 189 M_X9_isStateWhat 1 := ⟨in_X9_isStateWhat, (lwm_tables_1_4 (List.mem_of_getElem? (i := 42) rfl) rfl), (lwm_tables_1_4 (List.mem_of_getElem? (i := 43) rfl) rfl), by decide +kernel⟩
theorem ml_X9_192 : pm_lV RX9 192 M_X7_counterAt 1 := ⟨in_X7_counterAt, (lwm_tables_1_4 (List.mem_of_getElem? (i := 45) rfl) rfl), (lwm_tables_1_2 (List.mem_of_getElem? (i := 231) rfl) rfl), (lwm_tables_1_2 (List.mem_of_getElem? (i := 232) rfl) rfl), by decide +kernel⟩
theorem ml_X9_195 : pm_lV RX9 195 M_X7_stackSizeAt 1 := ⟨in_X7_stackSizeAt, (lwm_tables_1_4 (List.mem_of_getElem? (i := 46) rfl) rfl), (lwm_tables_1_3 (List.mem_of_getElem? (i := 89) rfl) rfl), (lwm_tables_1_3 (List.mem_of_getElem? (i := 90) rfl) rfl), by decide +kernel⟩
theorem ml_X9_198 : pm_lV RX9 198 M_X7_outsAt 1 := ⟨in_X7_outsAt, (lwm_tables_1_4 (List.mem_of_getElem? (i := 47) rfl) rfl), (lwm_tables_1_4 (List.mem_of_getElem? (i := 48) rfl) rfl), (lwm_tables_1_4 (List.mem_of_getElem? (i := 49) rfl) rfl), by decide +kernel⟩
theorem ml_X9_201 : pm_lV RX9 201 M_X7_checkAt 1 := ⟨in_X7_checkAt, (lwm_tables_1_4 (List.mem_of_getElem? (i := 51) rfl) rfl), (lwm_tables_1_4 (List.mem_of_getElem? (i := 52) rfl) rfl), (lwm_tables_1_4 (List.mem_of_getElem? (i := 53) rfl) rfl), by decide +kernel⟩
theorem ml_X9_205 : pm_lV RX9 205 M_X5_kindAt 1 := ⟨in_X5_kindAt, (lwm_tables_1_4 (List.mem_of_getElem? (i := 55) rfl) rfl), (lwm_tables_1_2 (List.mem_of_getElem? (i := 239) rfl) rfl), (lwm_tables_1_3 (List.mem_of_getElem? (i := 0) rfl) rfl), by decide +kernel⟩
theorem ml_X9_208 : pm_lV RX9 208 M_X7_stackedAt 2 := ⟨in_X7_stackedAt, (lwm_tables_1_4 (List.mem_of_getElem? (i := 56) rfl) rfl), (lwm_tables_1_3 (List.mem_of_getElem? (i := 108) rfl) rfl), (lwm_tables_1_3 (List.mem_of_getElem? (i := 109) rfl) rfl), by decide +kernel⟩
theorem ml_X9_211 : pm_lV RX9 211 M_X9_lastChange 3 := ⟨in_X9_lastChange, (lwm_tables_1_4 (List.mem_of_getElem? (i := 61) rfl) rfl), (lwm_tables_1_4 (List.mem_of_getElem? (i := 63) rfl) rfl), (lwm_0 (List.mem_of_getElem? (i := 13) rfl) rfl), by decide +kernel⟩
theorem ml_X9_215 : pm_lV RX9 215 M_X6_hadBy 4 := ⟨in_X6_hadBy, (lwm_tables_1_4 (List.mem_of_getElem? (i := 73) rfl) rfl), (lwm_tables_1_4 (List.mem_of_getElem? (i := 74) rfl) rfl), (lwm_tables_1_4 (List.mem_of_getElem? (i := 75) rfl) rfl), by decide +kernel⟩
theorem ml_X9_223 : pm_lV RX9 223 M_X2_stepsToFind 2 := ⟨in_X2_stepsToFind, (lwm_tables_1_4 (List.mem_of_getElem? (i := 77) rfl) rfl), (lwm_tables_1_4 (List.mem_of_getElem? (i := 78) rfl) rfl), (lwm_tables_1_4 (List.mem_of_getElem? (i := 79) rfl) rfl), by decide +kernel⟩
theorem ml_X9_228 : pm_lV RX9 228 M_X9_count 2 := ⟨in_X9_count, (lwm_tables_1_3 (List.mem_of_getElem? (i := 169) rfl) rfl), (lwm_tables_1_3 (List.mem_of_getElem? (i := 171) rfl) rfl), (lwm_0 (List.mem_of_getElem? (i := 7) rfl) rfl), by decide +kernel⟩
theorem ml_X9_231 : pm_lS RX9 231 M_X9_isPlacesWhat 1 := ⟨in_X9_isPlacesWhat, (lwm_tables_1_4 (List.mem_of_getElem? (i := 85) rfl) rfl), (lwm_tables_1_4 (List.mem_of_getElem? (i := 86) rfl) rfl), by decide +kernel⟩
theorem ml_X9_234 : pm_lS RX9 234 M_X9_placesOf 1 := ⟨in_X9_placesOf, (lwm_tables_1_4 (List.mem_of_getElem? (i := 88) rfl) rfl), (lwm_tables_1_4 (List.mem_of_getElem? (i := 89) rfl) rfl), by decide +kernel⟩
theorem ml_X9_237 : pm_lS RX9 237 M_X9_firstPlaceOf 1 := ⟨in_X9_firstPlaceOf, (lwm_tables_1_4 (List.mem_of_getElem? (i := 91) rfl) rfl), (lwm_tables_1_4 (List.mem_of_getElem? (i := 92) rfl) rfl), by decide +kernel⟩
theorem ml_X9_245 : pm_lV RX9 245 M_X6_markAllBelow 2 := ⟨in_X6_markAllBelow, (lwm_tables_1_4 (List.mem_of_getElem? (i := 103) rfl) rfl), (lwm_tables_1_4 (List.mem_of_getElem? (i := 104) rfl) rfl), (lwm_tables_1_4 (List.mem_of_getElem? (i := 105) rfl) rfl), by decide +kernel⟩
theorem ml_X9_249 : pm_lV RX9 249 M_X6_markedStep 2 := ⟨in_X6_markedStep, (lwm_tables_1_4 (List.mem_of_getElem? (i := 118) rfl) rfl), (lwm_tables_1_4 (List.mem_of_getElem? (i := 119) rfl) rfl), (lwm_tables_1_4 (List.mem_of_getElem? (i := 120) rfl) rfl), by decide +kernel⟩
theorem ml_X9_253 : pm_lV RX9 253 M_X3_has 1 := ⟨in_X3_has, (lwm_tables_1_4 (List.mem_of_getElem? (i := 126) rfl) rfl), (lwm_tables_1_3 (List.mem_of_getElem? (i := 186) rfl) rfl), (lwm_tables_1_3 (List.mem_of_getElem? (i := 187) rfl) rfl), by decide +kernel⟩
theorem ml_X9_256 : pm_lV RX9 256 M_X6_markAllAbove 2 := ⟨in_X6_markAllAbove, (lwm_tables_1_4 (List.mem_of_getElem? (i := 127) rfl) rfl), (lwm_tables_1_4 (List.mem_of_getElem? (i := 128) rfl) rfl), (lwm_tables_1_4 (List.mem_of_getElem? (i := 129) rfl) rfl), by decide +kernel⟩
theorem ml_X9_259 : pm_lS RX9 259 M_X9_isMarked 2 := ⟨in_X9_isMarked, (lwm_tables_1_4 (List.mem_of_getElem? (i := 131) rfl) rfl), (lwm_tables_1_4 (List.mem_of_getElem? (i := 116) rfl) rfl), by decide +kernel⟩
theorem ml_X9_263 : pm_lV RX9 263 M_X6_changeTimes 2 := ⟨in_X6_changeTimes, (lwm_tables_1_4 (List.mem_of_getElem? (i := 136) rfl) rfl), (lwm_tables_1_4 (List.mem_of_getElem? (i := 137) rfl) rfl), (lwm_tables_1_4 (List.mem_of_getElem? (i := 138) rfl) rfl), by decide +kernel⟩
theorem ml_X9_274 : pm_lV RX9 274 M_X1_read 2 := ⟨in_X1_read, (lwm_tables_1_4 (List.mem_of_getElem? (i := 148) rfl) rfl), (lwm_tables_1_4 (List.mem_of_getElem? (i := 149) rfl) rfl), (lwm_tables_1_4 (List.mem_of_getElem? (i := 150) rfl) rfl), by decide +kernel⟩
theorem ml_X9_278 : pm_lV RX9 278 M_X3_read 2 := ⟨in_X3_read, (lwm_tables_1_4 (List.mem_of_getElem? (i := 156) rfl) rfl), (lwm_tables_1_4 (List.mem_of_getElem? (i := 157) rfl) rfl), (lwm_tables_1_4 (List.mem_of_getElem? (i := 158) rfl) rfl), by decide +kernel⟩
theorem ml_X9_280 : pm_lV RX9 280 M_X2_timeOf 1 := ⟨in_X2_timeOf, (lwm_tables_1_4 (List.mem_of_getElem? (i := 165) rfl) rfl), (lwm_tables_1_3 (List.mem_of_getElem? (i := 166) rfl) rfl), (lwm_tables_1_3 (List.mem_of_getElem? (i := 167) rfl) rfl), by decide +kernel⟩
theorem ml_X9_283 : pm_lV RX9 283 M_X2_goesAt 1 := ⟨in_X2_goesAt, (lwm_tables_1_4 (List.mem_of_getElem? (i := 166) rfl) rfl), (lwm_tables_1_3 (List.mem_of_getElem? (i := 132) rfl) rfl), (lwm_tables_1_3 (List.mem_of_getElem? (i := 133) rfl) rfl), by decide +kernel⟩
theorem ml_X9_286 : pm_lS RX9 286 M_X9_isAnyTime 1 := ⟨in_X9_isAnyTime, (lwm_tables_1_4 (List.mem_of_getElem? (i := 171) rfl) rfl), (lwm_tables_1_4 (List.mem_of_getElem? (i := 172) rfl) rfl), by decide +kernel⟩
theorem ml_X9_289 : pm_lS RX9 289 M_X9_wouldBeHeld 3 := ⟨in_X9_wouldBeHeld, (lwm_tables_1_4 (List.mem_of_getElem? (i := 174) rfl) rfl), (lwm_tables_1_4 (List.mem_of_getElem? (i := 175) rfl) rfl), by decide +kernel⟩
theorem ml_X9_293 : pm_lS RX9 293 M_X2_isHeldStill 3 := ⟨in_X2_isHeldStill, (lwm_tables_1_4 (List.mem_of_getElem? (i := 177) rfl) rfl), (lwm_tables_1_4 (List.mem_of_getElem? (i := 178) rfl) rfl), by decide +kernel⟩
theorem ml_X9_296 : pm_lV RX9 296 M_X0_lay 2 := ⟨in_X0_lay, (lwm_tables_1_4 (List.mem_of_getElem? (i := 192) rfl) rfl), (lwm_tables_1_4 (List.mem_of_getElem? (i := 193) rfl) rfl), (lwm_tables_1_4 (List.mem_of_getElem? (i := 194) rfl) rfl), by decide +kernel⟩
theorem ml_X9_303 : pm_lV RX9 303 M_X0_has 1 := ⟨in_X0_has, (lwm_tables_1_4 (List.mem_of_getElem? (i := 215) rfl) rfl), (lwm_tables_1_4 (List.mem_of_getElem? (i := 216) rfl) rfl), (lwm_tables_1_4 (List.mem_of_getElem? (i := 217) rfl) rfl), by decide +kernel⟩
theorem ml_X9_304 : pm_lV RX9 304 M_X0_callOfOne 1 := ⟨in_X0_callOfOne, (lwm_tables_1_4 (List.mem_of_getElem? (i := 219) rfl) rfl), (lwm_tables_1_4 (List.mem_of_getElem? (i := 220) rfl) rfl), (lwm_tables_1_4 (List.mem_of_getElem? (i := 221) rfl) rfl), by decide +kernel⟩
theorem ml_X9_307 : pm_lV RX9 307 M_X0_callOfOther 1 := ⟨in_X0_callOfOther, (lwm_tables_1_4 (List.mem_of_getElem? (i := 224) rfl) rfl), (lwm_tables_1_4 (List.mem_of_getElem? (i := 225) rfl) rfl), (lwm_tables_1_4 (List.mem_of_getElem? (i := 226) rfl) rfl), by decide +kernel⟩
theorem ml_X9_310 : pm_lS RX9 310 M_X9_unlike 5 := ⟨in_X9_unlike, (lwm_tables_1_4 (List.mem_of_getElem? (i := 228) rfl) rfl), (lwm_tables_1_4 (List.mem_of_getElem? (i := 229) rfl) rfl), by decide +kernel⟩
theorem ml_X9_314 : pm_lV RX9 314 M_X0_firstUnlike 2 := ⟨in_X0_firstUnlike, (lwm_tables_1_4 (List.mem_of_getElem? (i := 236) rfl) rfl), (lwm_tables_1_4 (List.mem_of_getElem? (i := 237) rfl) rfl), (lwm_tables_1_4 (List.mem_of_getElem? (i := 238) rfl) rfl), by decide +kernel⟩
theorem ml_X9_318 : pm_lV RX9 318 M_X9_lookAtRun 2 := ⟨in_X9_lookAtRun, (lwm_tables_1_5 (List.mem_of_getElem? (i := 26) rfl) rfl), (lwm_tables_1_5 (List.mem_of_getElem? (i := 28) rfl) rfl), (lwm_0 (List.mem_of_getElem? (i := 18) rfl) rfl), by decide +kernel⟩
theorem ml_X9_340 : pm_lV RX9 340 M_X2_latestBy 1 := ⟨in_X2_latestBy, (lwm_tables_1_3 (List.mem_of_getElem? (i := 161) rfl) rfl), (lwm_tables_1_3 (List.mem_of_getElem? (i := 162) rfl) rfl), (lwm_tables_1_3 (List.mem_of_getElem? (i := 163) rfl) rfl), by decide +kernel⟩
theorem ml_X9_343 : pm_lV RX9 343 M_X6_changedSince 1 := ⟨in_X6_changedSince, (lwm_tables_1_4 (List.mem_of_getElem? (i := 65) rfl) rfl), (lwm_tables_1_4 (List.mem_of_getElem? (i := 66) rfl) rfl), (lwm_tables_1_4 (List.mem_of_getElem? (i := 67) rfl) rfl), by decide +kernel⟩
theorem ml_X9_346 : pm_lV RX9 346 M_X6_hasValue 3 := ⟨in_X6_hasValue, (lwm_tables_1_4 (List.mem_of_getElem? (i := 231) rfl) rfl), (lwm_tables_1_2 (List.mem_of_getElem? (i := 195) rfl) rfl), (lwm_tables_1_2 (List.mem_of_getElem? (i := 196) rfl) rfl), by decide +kernel⟩
theorem ml_X9_359 : pm_lS RX9 359 M_X9_fits 2 := ⟨in_X9_fits, (lwm_tables_1_1 (List.mem_of_getElem? (i := 154) rfl) rfl), (lwm_tables_1_1 (List.mem_of_getElem? (i := 155) rfl) rfl), by decide +kernel⟩
theorem ml_X0_33 : pm_lV RX0 33 M_X0_has 1 := ⟨in_X0_has, (lwm_tables_1_4 (List.mem_of_getElem? (i := 223) rfl) rfl), (lwm_tables_1_4 (List.mem_of_getElem? (i := 216) rfl) rfl), (lwm_tables_1_4 (List.mem_of_getElem? (i := 217) rfl) rfl), by decide +kernel⟩
theorem ml_X0_48 : pm_lV RX0 48 M_X0_countPairs 4 := ⟨in_X0_countPairs, (lwm_tables_1_4 (List.mem_of_getElem? (i := 197) rfl) rfl), (lwm_tables_1_4 (List.mem_of_getElem? (i := 199) rfl) rfl), (lwm_0 (List.mem_of_getElem? (i := 15) rfl) rfl), by decide +kernel⟩
theorem ml_X0_52 : pm_lV RX0 52 M_X0_choosePairs 4 := ⟨in_X0_choosePairs, (lwm_tables_1_4 (List.mem_of_getElem? (i := 207) rfl) rfl), (lwm_tables_1_4 (List.mem_of_getElem? (i := 209) rfl) rfl), (lwm_0 (List.mem_of_getElem? (i := 16) rfl) rfl), by decide +kernel⟩
theorem ml_X0_55 : pm_lS RX0 55 M_J7_fill_53178 2 := ⟨in_J7_fill_53178, (lwm_tables_1_4 (List.mem_of_getElem? (i := 201) rfl) rfl), (lwm_tables_1_1 (List.mem_of_getElem? (i := 29) rfl) rfl), by decide +kernel⟩
theorem ml_X0_64 : pm_lV RX0 64 M_X1_isLike 3 := ⟨in_X1_isLike, (lwm_tables_1_4 (List.mem_of_getElem? (i := 203) rfl) rfl), (lwm_tables_1_4 (List.mem_of_getElem? (i := 204) rfl) rfl), (lwm_tables_1_4 (List.mem_of_getElem? (i := 205) rfl) rfl), by decide +kernel⟩
theorem ml_X0_77 : pm_lS RX0 77 M_X0_goThrough 4 := ⟨in_X0_goThrough, (lwm_tables_1_5 (List.mem_of_getElem? (i := 0) rfl) rfl), (lwm_tables_1_5 (List.mem_of_getElem? (i := 1) rfl) rfl), by decide +kernel⟩
theorem ml_X0_81 : pm_lV RX0 81 M_X7_counterAt 1 := ⟨in_X7_counterAt, (lwm_tables_1_5 (List.mem_of_getElem? (i := 8) rfl) rfl), (lwm_tables_1_2 (List.mem_of_getElem? (i := 231) rfl) rfl), (lwm_tables_1_2 (List.mem_of_getElem? (i := 232) rfl) rfl), by decide +kernel⟩
theorem ml_X0_85 : pm_lV RX0 85 M_X7_hasStackLike 2 := ⟨in_X7_hasStackLike, (lwm_tables_1_5 (List.mem_of_getElem? (i := 9) rfl) rfl), (lwm_tables_1_5 (List.mem_of_getElem? (i := 10) rfl) rfl), (lwm_tables_1_5 (List.mem_of_getElem? (i := 11) rfl) rfl), by decide +kernel⟩
theorem ml_X0_89 : pm_lV RX0 89 M_X0_areUnlike 5 := ⟨in_X0_areUnlike, (lwm_tables_1_5 (List.mem_of_getElem? (i := 14) rfl) rfl), (lwm_tables_1_5 (List.mem_of_getElem? (i := 16) rfl) rfl), (lwm_0 (List.mem_of_getElem? (i := 17) rfl) rfl), by decide +kernel⟩
theorem ml_X0_96 : pm_lV RX0 96 M_X6_timeOf 1 := ⟨in_X6_timeOf, (lwm_tables_1_5 (List.mem_of_getElem? (i := 3) rfl) rfl), (lwm_tables_1_3 (List.mem_of_getElem? (i := 198) rfl) rfl), (lwm_tables_1_3 (List.mem_of_getElem? (i := 199) rfl) rfl), by decide +kernel⟩
theorem ml_X0_99 : pm_lV RX0 99 M_X6_placeOf 1 := ⟨in_X6_placeOf, (lwm_tables_1_5 (List.mem_of_getElem? (i := 4) rfl) rfl), (lwm_tables_1_5 (List.mem_of_getElem? (i := 5) rfl) rfl), (lwm_tables_1_5 (List.mem_of_getElem? (i := 6) rfl) rfl), by decide +kernel⟩
theorem ml_X0_102 : pm_nS RX0 102 M_X9_isPlace RX9 1 := ⟨in_X9_isPlace, (lwt_tables_1_5 (List.mem_of_getElem? (i := 18) rfl)), (lwm_tables_1_2 (List.mem_of_getElem? (i := 172) rfl) rfl), by decide +kernel⟩
theorem ml_X0_105 : pm_lV RX0 105 M_X6_sortOf 1 := ⟨in_X6_sortOf, (lwm_tables_1_5 (List.mem_of_getElem? (i := 19) rfl) rfl), (lwm_tables_1_2 (List.mem_of_getElem? (i := 199) rfl) rfl), (lwm_tables_1_2 (List.mem_of_getElem? (i := 200) rfl) rfl), by decide +kernel⟩
theorem ml_X0_108 : pm_lV RX0 108 M_X6_numberOf 1 := ⟨in_X6_numberOf, (lwm_tables_1_5 (List.mem_of_getElem? (i := 20) rfl) rfl), (lwm_tables_1_2 (List.mem_of_getElem? (i := 203) rfl) rfl), (lwm_tables_1_2 (List.mem_of_getElem? (i := 204) rfl) rfl), by decide +kernel⟩
theorem ml_X0_111 : pm_lV RX0 111 M_X6_hasValue 3 := ⟨in_X6_hasValue, (lwm_tables_1_5 (List.mem_of_getElem? (i := 21) rfl) rfl), (lwm_tables_1_2 (List.mem_of_getElem? (i := 195) rfl) rfl), (lwm_tables_1_2 (List.mem_of_getElem? (i := 196) rfl) rfl), by decide +kernel⟩
theorem ml_X1_30 : pm_lV RX1 30 M_X1_has 1 := ⟨in_X1_has, (lwm_tables_1_3 (List.mem_of_getElem? (i := 205) rfl) rfl), (lwm_tables_1_3 (List.mem_of_getElem? (i := 207) rfl) rfl), (lwm_0 (List.mem_of_getElem? (i := 9) rfl) rfl), by decide +kernel⟩
theorem ml_X2_33 : pm_lS RX2 33 M_X2_goesWith 2 := ⟨in_X2_goesWith, (lwm_tables_1_3 (List.mem_of_getElem? (i := 139) rfl) rfl), (lwm_tables_1_3 (List.mem_of_getElem? (i := 140) rfl) rfl), by decide +kernel⟩
theorem ml_X2_37 : pm_lV RX2 37 M_X2_has 1 := ⟨in_X2_has, (lwm_tables_1_3 (List.mem_of_getElem? (i := 135) rfl) rfl), (lwm_tables_1_3 (List.mem_of_getElem? (i := 137) rfl) rfl), (lwm_0 (List.mem_of_getElem? (i := 4) rfl) rfl), by decide +kernel⟩
theorem ml_X2_41 : pm_lV RX2 41 M_X2_dropWhatGoesBy 1 := ⟨in_X2_dropWhatGoesBy, (lwm_tables_1_3 (List.mem_of_getElem? (i := 127) rfl) rfl), (lwm_tables_1_3 (List.mem_of_getElem? (i := 129) rfl) rfl), (lwm_0 (List.mem_of_getElem? (i := 3) rfl) rfl), by decide +kernel⟩
theorem ml_X2_50 : pm_lV RX2 50 M_X2_goesAt 1 := ⟨in_X2_goesAt, (lwm_tables_1_3 (List.mem_of_getElem? (i := 131) rfl) rfl), (lwm_tables_1_3 (List.mem_of_getElem? (i := 132) rfl) rfl), (lwm_tables_1_3 (List.mem_of_getElem? (i := 133) rfl) rfl), by decide +kernel⟩
theorem ml_X2_54 : pm_lV RX2 54 M_X2_timeOf 1 := ⟨in_X2_timeOf, (lwm_tables_1_3 (List.mem_of_getElem? (i := 165) rfl) rfl), (lwm_tables_1_3 (List.mem_of_getElem? (i := 166) rfl) rfl), (lwm_tables_1_3 (List.mem_of_getElem? (i := 167) rfl) rfl), by decide +kernel⟩
theorem ml_X3_36 : pm_lV RX3 36 M_X3_add 5 := ⟨in_X3_add, (lwm_tables_1_2 (List.mem_of_getElem? (i := 185) rfl) rfl), (lwm_tables_1_2 (List.mem_of_getElem? (i := 187) rfl) rfl), (lwm_0 (List.mem_of_getElem? (i := 0) rfl) rfl), by decide +kernel⟩
theorem ml_X3_40 : pm_lV RX3 40 M_X3_has 1 := ⟨in_X3_has, (lwm_tables_1_3 (List.mem_of_getElem? (i := 185) rfl) rfl), (lwm_tables_1_3 (List.mem_of_getElem? (i := 186) rfl) rfl), (lwm_tables_1_3 (List.mem_of_getElem? (i := 187) rfl) rfl), by decide +kernel⟩
theorem ml_X3_45 : pm_lV RX3 45 M_X3_isBehind 2 := ⟨in_X3_isBehind, (lwm_tables_1_3 (List.mem_of_getElem? (i := 181) rfl) rfl), (lwm_tables_1_3 (List.mem_of_getElem? (i := 183) rfl) rfl), (lwm_0 (List.mem_of_getElem? (i := 8) rfl) rfl), by decide +kernel⟩
theorem ml_X3_49 : pm_lV RX3 49 M_X4_addFirst 1 := ⟨in_X4_addFirst, (lwm_tables_1_3 (List.mem_of_getElem? (i := 189) rfl) rfl), (lwm_tables_1_3 (List.mem_of_getElem? (i := 190) rfl) rfl), (lwm_tables_1_3 (List.mem_of_getElem? (i := 191) rfl) rfl), by decide +kernel⟩
theorem ml_X5_24 : pm_lS RX5 24 M_J7_fill_53178 2 := ⟨in_J7_fill_53178, (lwm_tables_1_1 (List.mem_of_getElem? (i := 28) rfl) rfl), (lwm_tables_1_1 (List.mem_of_getElem? (i := 29) rfl) rfl), by decide +kernel⟩
theorem ml_X5_30 : pm_nS RX5 30 M_X9_isInstructionPlace RX9 1 := ⟨in_X9_isInstructionPlace, (lwt_tables_1_1 (List.mem_of_getElem? (i := 161) rfl)), (lwm_tables_1_1 (List.mem_of_getElem? (i := 143) rfl) rfl), by decide +kernel⟩
theorem ml_X5_34 : pm_lV RX5 34 M_X5_write 5 := ⟨in_X5_write, (lwm_tables_1_2 (List.mem_of_getElem? (i := 134) rfl) rfl), (lwm_tables_1_1 (List.mem_of_getElem? (i := 158) rfl) rfl), (lwm_tables_1_1 (List.mem_of_getElem? (i := 159) rfl) rfl), by decide +kernel⟩
theorem ml_X6_49 : pm_lS RX6 49 M_J7_fill_53178 2 := ⟨in_J7_fill_53178, (lwm_tables_1_1 (List.mem_of_getElem? (i := 216) rfl) rfl), (lwm_tables_1_1 (List.mem_of_getElem? (i := 29) rfl) rfl), by decide +kernel⟩
theorem ml_X6_60 : pm_lV RX6 60 M_X6_has 1 := ⟨in_X6_has, (lwm_tables_1_2 (List.mem_of_getElem? (i := 210) rfl) rfl), (lwm_tables_1_2 (List.mem_of_getElem? (i := 212) rfl) rfl), (lwm_0 (List.mem_of_getElem? (i := 1) rfl) rfl), by decide +kernel⟩
theorem ml_X6_64 : pm_nS RX6 64 M_X9_isPlace RX9 1 := ⟨in_X9_isPlace, (lwt_tables_1_2 (List.mem_of_getElem? (i := 193) rfl)), (lwm_tables_1_2 (List.mem_of_getElem? (i := 172) rfl) rfl), by decide +kernel⟩
theorem ml_X6_67 : pm_lV RX6 67 M_X6_sortOf 1 := ⟨in_X6_sortOf, (lwm_tables_1_2 (List.mem_of_getElem? (i := 198) rfl) rfl), (lwm_tables_1_2 (List.mem_of_getElem? (i := 199) rfl) rfl), (lwm_tables_1_2 (List.mem_of_getElem? (i := 200) rfl) rfl), by decide +kernel⟩
theorem ml_X6_71 : pm_lV RX6 71 M_X6_numberOf 1 := ⟨in_X6_numberOf, (lwm_tables_1_2 (List.mem_of_getElem? (i := 202) rfl) rfl), (lwm_tables_1_2 (List.mem_of_getElem? (i := 203) rfl) rfl), (lwm_tables_1_2 (List.mem_of_getElem? (i := 204) rfl) rfl), by decide +kernel⟩
theorem ml_X6_74 : pm_lV RX6 74 M_X6_hasValue 3 := ⟨in_X6_hasValue, (lwm_tables_1_2 (List.mem_of_getElem? (i := 194) rfl) rfl), (lwm_tables_1_2 (List.mem_of_getElem? (i := 195) rfl) rfl), (lwm_tables_1_2 (List.mem_of_getElem? (i := 196) rfl) rfl), by decide +kernel⟩
theorem ml_X6_78 : pm_lV RX6 78 M_X6_changesOf 1 := ⟨in_X6_changesOf, (lwm_tables_1_2 (List.mem_of_getElem? (i := 206) rfl) rfl), (lwm_tables_1_2 (List.mem_of_getElem? (i := 207) rfl) rfl), (lwm_tables_1_2 (List.mem_of_getElem? (i := 208) rfl) rfl), by decide +kernel⟩
theorem ml_X6_81 : pm_lV RX6 81 M_X6_timeOf 1 := ⟨in_X6_timeOf, (lwm_tables_1_3 (List.mem_of_getElem? (i := 197) rfl) rfl), (lwm_tables_1_3 (List.mem_of_getElem? (i := 198) rfl) rfl), (lwm_tables_1_3 (List.mem_of_getElem? (i := 199) rfl) rfl), by decide +kernel⟩
theorem ml_X6_84 : pm_lV RX6 84 M_X6_latestOf 1 := ⟨in_X6_latestOf, (lwm_tables_1_4 (List.mem_of_getElem? (i := 30) rfl) rfl), (lwm_tables_1_3 (List.mem_of_getElem? (i := 31) rfl) rfl), (lwm_tables_1_3 (List.mem_of_getElem? (i := 32) rfl) rfl), by decide +kernel⟩
theorem ml_X6_87 : pm_lV RX6 87 M_X6_aheadOf 1 := ⟨in_X6_aheadOf, (lwm_tables_1_4 (List.mem_of_getElem? (i := 31) rfl) rfl), (lwm_tables_1_4 (List.mem_of_getElem? (i := 33) rfl) rfl), (lwm_0 (List.mem_of_getElem? (i := 12) rfl) rfl), by decide +kernel⟩
theorem ml_X6_90 : pm_lS RX6 90 M_J7_fill_49daa 2 := ⟨in_J7_fill_49daa, (lwm_tables_1_4 (List.mem_of_getElem? (i := 107) rfl) rfl), (lwm_tables_1_4 (List.mem_of_getElem? (i := 108) rfl) rfl), by decide +kernel⟩
theorem ml_X6_93 : pm_lV RX6 93 M_X6_mark 2 := ⟨in_X6_mark, (lwm_tables_1_4 (List.mem_of_getElem? (i := 110) rfl) rfl), (lwm_tables_1_4 (List.mem_of_getElem? (i := 112) rfl) rfl), (lwm_0 (List.mem_of_getElem? (i := 14) rfl) rfl), by decide +kernel⟩
theorem ml_X6_103 : pm_nS RX6 103 M_X9_isMarked RX9 2 := ⟨in_X9_isMarked, (lwt_tables_1_4 (List.mem_of_getElem? (i := 115) rfl)), (lwm_tables_1_4 (List.mem_of_getElem? (i := 116) rfl) rfl), by decide +kernel⟩
theorem ml_X7_11 : pm_lI RX7 11 M_X5_init 0 := ⟨in_X5_init, (lwm_tables_1_1 (List.mem_of_getElem? (i := 182) rfl) rfl), (lwm_tables_1_1 (List.mem_of_getElem? (i := 25) rfl) rfl), rfl, rfl, by decide +kernel⟩
theorem ml_X7_39 : pm_lI RX7 39 M_X3_init 0 := ⟨in_X3_init, (lwm_tables_1_1 (List.mem_of_getElem? (i := 185) rfl) rfl), (lwm_tables_1_1 (List.mem_of_getElem? (i := 186) rfl) rfl), rfl, rfl, by decide +kernel⟩
theorem ml_X7_46 : pm_lI RX7 46 M_X6_init 0 := ⟨in_X6_init, (lwm_tables_1_1 (List.mem_of_getElem? (i := 212) rfl) rfl), (lwm_tables_1_1 (List.mem_of_getElem? (i := 213) rfl) rfl), rfl, rfl, by decide +kernel⟩
theorem ml_X7_53 : pm_lI RX7 53 M_X1_init 0 := ⟨in_X1_init, (lwm_tables_1_2 (List.mem_of_getElem? (i := 17) rfl) rfl), (lwm_tables_1_2 (List.mem_of_getElem? (i := 18) rfl) rfl), rfl, rfl, by decide +kernel⟩
theorem ml_X7_60 : pm_lI RX7 60 M_X2_init 0 := ⟨in_X2_init, (lwm_tables_1_2 (List.mem_of_getElem? (i := 39) rfl) rfl), (lwm_tables_1_2 (List.mem_of_getElem? (i := 40) rfl) rfl), rfl, rfl, by decide +kernel⟩
theorem ml_X7_78 : pm_lV RX7 78 M_X5_takeFrom 1 := ⟨in_X5_takeFrom, (lwm_tables_1_2 (List.mem_of_getElem? (i := 130) rfl) rfl), (lwm_tables_1_2 (List.mem_of_getElem? (i := 131) rfl) rfl), (lwm_tables_1_2 (List.mem_of_getElem? (i := 132) rfl) rfl), by decide +kernel⟩
theorem ml_X7_82 : pm_lI RX7 82 M_X3_init_ 1 := ⟨in_X3_init_, (lwm_tables_1_3 (List.mem_of_getElem? (i := 221) rfl) rfl), (lwm_tables_1_3 (List.mem_of_getElem? (i := 222) rfl) rfl), rfl, rfl, by decide +kernel⟩
theorem ml_X7_85 : pm_lI RX7 85 M_X6_init_ 1 := ⟨in_X6_init_, (lwm_tables_1_3 (List.mem_of_getElem? (i := 231) rfl) rfl), (lwm_tables_1_3 (List.mem_of_getElem? (i := 232) rfl) rfl), rfl, rfl, by decide +kernel⟩
theorem ml_X7_88 : pm_lI RX7 88 M_X1_init_ 1 := ⟨in_X1_init_, (lwm_tables_1_3 (List.mem_of_getElem? (i := 236) rfl) rfl), (lwm_tables_1_3 (List.mem_of_getElem? (i := 237) rfl) rfl), rfl, rfl, by decide +kernel⟩
theorem ml_X7_91 : pm_lI RX7 91 M_X2_init_ 1 := ⟨in_X2_init_, (lwm_tables_1_4 (List.mem_of_getElem? (i := 1) rfl) rfl), (lwm_tables_1_4 (List.mem_of_getElem? (i := 2) rfl) rfl), rfl, rfl, by decide +kernel⟩
theorem ml_X7_102 : pm_lV RX7 102 M_X6_clear 0 := ⟨in_X6_clear, (lwm_tables_1_2 (List.mem_of_getElem? (i := 135) rfl) rfl), (lwm_tables_1_2 (List.mem_of_getElem? (i := 136) rfl) rfl), (lwm_tables_1_2 (List.mem_of_getElem? (i := 137) rfl) rfl), by decide +kernel⟩
theorem ml_X7_106 : pm_lV RX7 106 M_X2_start 2 := ⟨in_X2_start, (lwm_tables_1_2 (List.mem_of_getElem? (i := 139) rfl) rfl), (lwm_tables_1_2 (List.mem_of_getElem? (i := 140) rfl) rfl), (lwm_tables_1_2 (List.mem_of_getElem? (i := 141) rfl) rfl), by decide +kernel⟩
theorem ml_X7_110 : pm_lV RX7 110 M_X7_hasTime 1 := ⟨in_X7_hasTime, (lwm_tables_1_2 (List.mem_of_getElem? (i := 234) rfl) rfl), (lwm_tables_1_2 (List.mem_of_getElem? (i := 235) rfl) rfl), (lwm_tables_1_2 (List.mem_of_getElem? (i := 236) rfl) rfl), by decide +kernel⟩
theorem ml_X7_114 : pm_lV RX7 114 M_X7_topAt 1 := ⟨in_X7_topAt, (lwm_tables_1_3 (List.mem_of_getElem? (i := 92) rfl) rfl), (lwm_tables_1_3 (List.mem_of_getElem? (i := 94) rfl) rfl), (lwm_0 (List.mem_of_getElem? (i := 2) rfl) rfl), by decide +kernel⟩
theorem ml_X7_118 : pm_lV RX7 118 M_X7_stackSizeAt 1 := ⟨in_X7_stackSizeAt, (lwm_tables_1_3 (List.mem_of_getElem? (i := 111) rfl) rfl), (lwm_tables_1_3 (List.mem_of_getElem? (i := 89) rfl) rfl), (lwm_tables_1_3 (List.mem_of_getElem? (i := 90) rfl) rfl), by decide +kernel⟩
theorem ml_X7_122 : pm_lV RX7 122 M_X7_counterAt 1 := ⟨in_X7_counterAt, (lwm_tables_1_2 (List.mem_of_getElem? (i := 230) rfl) rfl), (lwm_tables_1_2 (List.mem_of_getElem? (i := 231) rfl) rfl), (lwm_tables_1_2 (List.mem_of_getElem? (i := 232) rfl) rfl), by decide +kernel⟩
theorem ml_X7_125 : pm_lV RX7 125 M_X7_stackedAt 2 := ⟨in_X7_stackedAt, (lwm_tables_1_5 (List.mem_of_getElem? (i := 13) rfl) rfl), (lwm_tables_1_3 (List.mem_of_getElem? (i := 108) rfl) rfl), (lwm_tables_1_3 (List.mem_of_getElem? (i := 109) rfl) rfl), by decide +kernel⟩
theorem ml_X7_129 : pm_lV RX7 129 M_X5_kindAt 1 := ⟨in_X5_kindAt, (lwm_tables_1_2 (List.mem_of_getElem? (i := 238) rfl) rfl), (lwm_tables_1_2 (List.mem_of_getElem? (i := 239) rfl) rfl), (lwm_tables_1_3 (List.mem_of_getElem? (i := 0) rfl) rfl), by decide +kernel⟩
theorem ml_X7_137 : pm_lV RX7 137 M_X3_isFull 0 := ⟨in_X3_isFull, (lwm_tables_1_3 (List.mem_of_getElem? (i := 2) rfl) rfl), (lwm_tables_1_2 (List.mem_of_getElem? (i := 168) rfl) rfl), (lwm_tables_1_2 (List.mem_of_getElem? (i := 169) rfl) rfl), by decide +kernel⟩
theorem ml_X7_141 : pm_lV RX7 141 M_X7_statusWith 1 := ⟨in_X7_statusWith, (lwm_tables_1_2 (List.mem_of_getElem? (i := 226) rfl) rfl), (lwm_tables_1_2 (List.mem_of_getElem? (i := 227) rfl) rfl), (lwm_tables_1_2 (List.mem_of_getElem? (i := 228) rfl) rfl), by decide +kernel⟩
theorem ml_X7_150 : pm_lS RX7 150 M_X8_perform 3 := ⟨in_X8_perform, (lwm_tables_1_3 (List.mem_of_getElem? (i := 10) rfl) rfl), (lwm_tables_1_3 (List.mem_of_getElem? (i := 11) rfl) rfl), by decide +kernel⟩
theorem ml_X7_156 : pm_lV RX7 156 M_X2_timeComes 1 := ⟨in_X2_timeComes, (lwm_tables_1_3 (List.mem_of_getElem? (i := 123) rfl) rfl), (lwm_tables_1_3 (List.mem_of_getElem? (i := 124) rfl) rfl), (lwm_tables_1_3 (List.mem_of_getElem? (i := 125) rfl) rfl), by decide +kernel⟩
theorem ml_X7_160 : pm_lV RX7 160 M_X3_addPoke 4 := ⟨in_X3_addPoke, (lwm_tables_1_2 (List.mem_of_getElem? (i := 181) rfl) rfl), (lwm_tables_1_2 (List.mem_of_getElem? (i := 182) rfl) rfl), (lwm_tables_1_2 (List.mem_of_getElem? (i := 183) rfl) rfl), by decide +kernel⟩
theorem ml_X7_164 : pm_lV RX7 164 M_X6_add 4 := ⟨in_X6_add, (lwm_tables_1_2 (List.mem_of_getElem? (i := 189) rfl) rfl), (lwm_tables_1_2 (List.mem_of_getElem? (i := 190) rfl) rfl), (lwm_tables_1_2 (List.mem_of_getElem? (i := 191) rfl) rfl), by decide +kernel⟩
theorem ml_X7_168 : pm_lV RX7 168 M_X6_restLatestOn 4 := ⟨in_X6_restLatestOn, (lwm_tables_1_2 (List.mem_of_getElem? (i := 214) rfl) rfl), (lwm_tables_1_2 (List.mem_of_getElem? (i := 215) rfl) rfl), (lwm_tables_1_2 (List.mem_of_getElem? (i := 216) rfl) rfl), by decide +kernel⟩
theorem ml_X7_171 : pm_lV RX7 171 M_X3_addWhole 3 := ⟨in_X3_addWhole, (lwm_tables_1_3 (List.mem_of_getElem? (i := 60) rfl) rfl), (lwm_tables_1_3 (List.mem_of_getElem? (i := 61) rfl) rfl), (lwm_tables_1_3 (List.mem_of_getElem? (i := 62) rfl) rfl), by decide +kernel⟩
theorem ml_X7_175 : pm_lV RX7 175 M_X7_putByStep 5 := ⟨in_X7_putByStep, (lwm_tables_1_3 (List.mem_of_getElem? (i := 64) rfl) rfl), (lwm_tables_1_3 (List.mem_of_getElem? (i := 27) rfl) rfl), (lwm_tables_1_3 (List.mem_of_getElem? (i := 28) rfl) rfl), by decide +kernel⟩
theorem ml_X7_179 : pm_lV RX7 179 M_X3_dropBehind 2 := ⟨in_X3_dropBehind, (lwm_tables_1_3 (List.mem_of_getElem? (i := 177) rfl) rfl), (lwm_tables_1_3 (List.mem_of_getElem? (i := 178) rfl) rfl), (lwm_tables_1_3 (List.mem_of_getElem? (i := 179) rfl) rfl), by decide +kernel⟩
theorem ml_X7_183 : pm_lV RX7 183 M_X6_dropBehind 1 := ⟨in_X6_dropBehind, (lwm_tables_1_3 (List.mem_of_getElem? (i := 193) rfl) rfl), (lwm_tables_1_3 (List.mem_of_getElem? (i := 194) rfl) rfl), (lwm_tables_1_3 (List.mem_of_getElem? (i := 195) rfl) rfl), by decide +kernel⟩
theorem ml_X7_185 : pm_lV RX7 185 M_X1_dropFrom 1 := ⟨in_X1_dropFrom, (lwm_tables_1_3 (List.mem_of_getElem? (i := 201) rfl) rfl), (lwm_tables_1_3 (List.mem_of_getElem? (i := 202) rfl) rfl), (lwm_tables_1_3 (List.mem_of_getElem? (i := 203) rfl) rfl), by decide +kernel⟩
theorem ml_X7_188 : pm_lV RX7 188 M_X2_dropAbove 1 := ⟨in_X2_dropAbove, (lwm_tables_1_3 (List.mem_of_getElem? (i := 209) rfl) rfl), (lwm_tables_1_3 (List.mem_of_getElem? (i := 210) rfl) rfl), (lwm_tables_1_3 (List.mem_of_getElem? (i := 211) rfl) rfl), by decide +kernel⟩
theorem ml_X8_15 : pm_lV RX8 15 M_X5_kindAt 1 := ⟨in_X5_kindAt, (lwm_tables_1_3 (List.mem_of_getElem? (i := 13) rfl) rfl), (lwm_tables_1_2 (List.mem_of_getElem? (i := 239) rfl) rfl), (lwm_tables_1_3 (List.mem_of_getElem? (i := 0) rfl) rfl), by decide +kernel⟩
theorem ml_X8_21 : pm_lV RX8 21 M_X5_firstAt 1 := ⟨in_X5_firstAt, (lwm_tables_1_3 (List.mem_of_getElem? (i := 14) rfl) rfl), (lwm_tables_1_3 (List.mem_of_getElem? (i := 15) rfl) rfl), (lwm_tables_1_3 (List.mem_of_getElem? (i := 16) rfl) rfl), by decide +kernel⟩
theorem ml_X8_24 : pm_lV RX8 24 M_X5_secondAt 1 := ⟨in_X5_secondAt, (lwm_tables_1_3 (List.mem_of_getElem? (i := 18) rfl) rfl), (lwm_tables_1_3 (List.mem_of_getElem? (i := 19) rfl) rfl), (lwm_tables_1_3 (List.mem_of_getElem? (i := 20) rfl) rfl), by decide +kernel⟩
theorem ml_X8_27 : pm_lV RX8 27 M_X5_thirdAt 1 := ⟨in_X5_thirdAt, (lwm_tables_1_3 (List.mem_of_getElem? (i := 22) rfl) rfl), (lwm_tables_1_3 (List.mem_of_getElem? (i := 23) rfl) rfl), (lwm_tables_1_3 (List.mem_of_getElem? (i := 24) rfl) rfl), by decide +kernel⟩
theorem ml_X8_34 : pm_lV RX8 34 M_X7_putByStep 5 := ⟨in_X7_putByStep, (lwm_tables_1_3 (List.mem_of_getElem? (i := 26) rfl) rfl), (lwm_tables_1_3 (List.mem_of_getElem? (i := 27) rfl) rfl), (lwm_tables_1_3 (List.mem_of_getElem? (i := 28) rfl) rfl), by decide +kernel⟩
theorem ml_X8_42 : pm_lV RX8 42 M_X6_latestOf 1 := ⟨in_X6_latestOf, (lwm_tables_1_3 (List.mem_of_getElem? (i := 30) rfl) rfl), (lwm_tables_1_3 (List.mem_of_getElem? (i := 31) rfl) rfl), (lwm_tables_1_3 (List.mem_of_getElem? (i := 32) rfl) rfl), by decide +kernel⟩
theorem ml_X8_47 : pm_lS RX8 47 M_X8_copy 3 := ⟨in_X8_copy, (lwm_tables_1_3 (List.mem_of_getElem? (i := 34) rfl) rfl), (lwm_tables_1_3 (List.mem_of_getElem? (i := 35) rfl) rfl), by decide +kernel⟩
theorem ml_X8_53 : pm_lS RX8 53 M_X8_compare 4 := ⟨in_X8_compare, (lwm_tables_1_3 (List.mem_of_getElem? (i := 39) rfl) rfl), (lwm_tables_1_3 (List.mem_of_getElem? (i := 40) rfl) rfl), by decide +kernel⟩
theorem ml_X8_57 : pm_lS RX8 57 M_X8_combine 5 := ⟨in_X8_combine, (lwm_tables_1_3 (List.mem_of_getElem? (i := 43) rfl) rfl), (lwm_tables_1_3 (List.mem_of_getElem? (i := 44) rfl) rfl), by decide +kernel⟩
theorem ml_X8_61 : pm_lS RX8 61 M_X8_fromCell 3 := ⟨in_X8_fromCell, (lwm_tables_1_3 (List.mem_of_getElem? (i := 46) rfl) rfl), (lwm_tables_1_3 (List.mem_of_getElem? (i := 47) rfl) rfl), by decide +kernel⟩
theorem ml_X8_65 : pm_lS RX8 65 M_X8_toCell 3 := ⟨in_X8_toCell, (lwm_tables_1_3 (List.mem_of_getElem? (i := 49) rfl) rfl), (lwm_tables_1_3 (List.mem_of_getElem? (i := 50) rfl) rfl), by decide +kernel⟩
theorem ml_X8_68 : pm_lV RX8 68 M_X4_takeFirst 0 := ⟨in_X4_takeFirst, (lwm_tables_1_3 (List.mem_of_getElem? (i := 52) rfl) rfl), (lwm_tables_1_3 (List.mem_of_getElem? (i := 53) rfl) rfl), (lwm_tables_1_3 (List.mem_of_getElem? (i := 54) rfl) rfl), by decide +kernel⟩
theorem ml_X8_74 : pm_lV RX8 74 M_X7_putFromOutside 3 := ⟨in_X7_putFromOutside, (lwm_tables_1_3 (List.mem_of_getElem? (i := 56) rfl) rfl), (lwm_tables_1_3 (List.mem_of_getElem? (i := 57) rfl) rfl), (lwm_tables_1_3 (List.mem_of_getElem? (i := 58) rfl) rfl), by decide +kernel⟩
theorem ml_X8_78 : pm_lV RX8 78 M_X4_draw 1 := ⟨in_X4_draw, (lwm_tables_1_3 (List.mem_of_getElem? (i := 65) rfl) rfl), (lwm_tables_1_3 (List.mem_of_getElem? (i := 66) rfl) rfl), (lwm_tables_1_3 (List.mem_of_getElem? (i := 67) rfl) rfl), by decide +kernel⟩
theorem ml_X8_81 : pm_lS RX8 81 M_X8_putOut 2 := ⟨in_X8_putOut, (lwm_tables_1_3 (List.mem_of_getElem? (i := 71) rfl) rfl), (lwm_tables_1_3 (List.mem_of_getElem? (i := 72) rfl) rfl), by decide +kernel⟩
theorem ml_X8_85 : pm_lV RX8 85 M_X7_goOnAt 1 := ⟨in_X7_goOnAt, (lwm_tables_1_3 (List.mem_of_getElem? (i := 78) rfl) rfl), (lwm_tables_1_3 (List.mem_of_getElem? (i := 79) rfl) rfl), (lwm_tables_1_3 (List.mem_of_getElem? (i := 80) rfl) rfl), by decide +kernel⟩
theorem ml_X8_89 : pm_lS RX8 89 M_X8_goOnIf 3 := ⟨in_X8_goOnIf, (lwm_tables_1_3 (List.mem_of_getElem? (i := 82) rfl) rfl), (lwm_tables_1_3 (List.mem_of_getElem? (i := 83) rfl) rfl), by decide +kernel⟩
theorem ml_X8_92 : pm_lS RX8 92 M_X8_goDown 2 := ⟨in_X8_goDown, (lwm_tables_1_3 (List.mem_of_getElem? (i := 85) rfl) rfl), (lwm_tables_1_3 (List.mem_of_getElem? (i := 86) rfl) rfl), by decide +kernel⟩
theorem ml_X8_96 : pm_lS RX8 96 M_X8_goUp 1 := ⟨in_X8_goUp, (lwm_tables_1_3 (List.mem_of_getElem? (i := 104) rfl) rfl), (lwm_tables_1_3 (List.mem_of_getElem? (i := 105) rfl) rfl), by decide +kernel⟩
theorem ml_X8_100 : pm_lS RX8 100 M_X8_reckon 5 := ⟨in_X8_reckon, (lwm_tables_1_3 (List.mem_of_getElem? (i := 117) rfl) rfl), (lwm_tables_1_3 (List.mem_of_getElem? (i := 118) rfl) rfl), by decide +kernel⟩
theorem ml_X8_103 : pm_lV RX8 103 M_X6_sortOf 1 := ⟨in_X6_sortOf, (lwm_tables_1_3 (List.mem_of_getElem? (i := 37) rfl) rfl), (lwm_tables_1_2 (List.mem_of_getElem? (i := 199) rfl) rfl), (lwm_tables_1_2 (List.mem_of_getElem? (i := 200) rfl) rfl), by decide +kernel⟩
theorem ml_X8_106 : pm_lV RX8 106 M_X6_numberOf 1 := ⟨in_X6_numberOf, (lwm_tables_1_3 (List.mem_of_getElem? (i := 38) rfl) rfl), (lwm_tables_1_2 (List.mem_of_getElem? (i := 203) rfl) rfl), (lwm_tables_1_2 (List.mem_of_getElem? (i := 204) rfl) rfl), by decide +kernel⟩
theorem ml_X8_109 : pm_lV RX8 109 M_X7_addOut 2 := ⟨in_X7_addOut, (lwm_tables_1_3 (List.mem_of_getElem? (i := 74) rfl) rfl), (lwm_tables_1_3 (List.mem_of_getElem? (i := 75) rfl) rfl), (lwm_tables_1_3 (List.mem_of_getElem? (i := 76) rfl) rfl), by decide +kernel⟩
theorem ml_X8_113 : pm_lV RX8 113 M_X6_hasValue 3 := ⟨in_X6_hasValue, (lwm_tables_1_3 (List.mem_of_getElem? (i := 42) rfl) rfl), (lwm_tables_1_2 (List.mem_of_getElem? (i := 195) rfl) rfl), (lwm_tables_1_2 (List.mem_of_getElem? (i := 196) rfl) rfl), by decide +kernel⟩
theorem ml_X8_120 : pm_lV RX8 120 M_X7_stackSizeAt 1 := ⟨in_X7_stackSizeAt, (lwm_tables_1_3 (List.mem_of_getElem? (i := 88) rfl) rfl), (lwm_tables_1_3 (List.mem_of_getElem? (i := 89) rfl) rfl), (lwm_tables_1_3 (List.mem_of_getElem? (i := 90) rfl) rfl), by decide +kernel⟩
theorem ml_X8_127 : pm_lV RX8 127 M_X1_add 3 := ⟨in_X1_add, (lwm_tables_1_3 (List.mem_of_getElem? (i := 96) rfl) rfl), (lwm_tables_1_3 (List.mem_of_getElem? (i := 97) rfl) rfl), (lwm_tables_1_3 (List.mem_of_getElem? (i := 98) rfl) rfl), by decide +kernel⟩
theorem ml_X8_132 : pm_lV RX8 132 M_X7_stackUp 0 := ⟨in_X7_stackUp, (lwm_tables_1_3 (List.mem_of_getElem? (i := 100) rfl) rfl), (lwm_tables_1_3 (List.mem_of_getElem? (i := 101) rfl) rfl), (lwm_tables_1_3 (List.mem_of_getElem? (i := 102) rfl) rfl), by decide +kernel⟩
theorem ml_X8_135 : pm_lV RX8 135 M_X7_stackedAt 2 := ⟨in_X7_stackedAt, (lwm_tables_1_3 (List.mem_of_getElem? (i := 107) rfl) rfl), (lwm_tables_1_3 (List.mem_of_getElem? (i := 108) rfl) rfl), (lwm_tables_1_3 (List.mem_of_getElem? (i := 109) rfl) rfl), by decide +kernel⟩
theorem ml_X8_139 : pm_lV RX8 139 M_X7_stackDown 0 := ⟨in_X7_stackDown, (lwm_tables_1_3 (List.mem_of_getElem? (i := 113) rfl) rfl), (lwm_tables_1_3 (List.mem_of_getElem? (i := 114) rfl) rfl), (lwm_tables_1_3 (List.mem_of_getElem? (i := 115) rfl) rfl), by decide +kernel⟩
theorem ml_X8_142 : pm_lS RX8 142 M_X8_reckoned 3 := ⟨in_X8_reckoned, (lwm_tables_1_3 (List.mem_of_getElem? (i := 120) rfl) rfl), (lwm_tables_1_3 (List.mem_of_getElem? (i := 121) rfl) rfl), by decide +kernel⟩
theorem ml_L_9 : pm_lI RL 9 M_X9_init 0 := ⟨in_X9_init, (lwm_tables_1_1 (List.mem_of_getElem? (i := 16) rfl) rfl), (lwm_tables_1_1 (List.mem_of_getElem? (i := 17) rfl) rfl), rfl, rfl, by decide +kernel⟩
theorem ml_L_12 : pm_lI RL 12 M_X10_init 0 := ⟨in_X10_init, (lwm_tables_1_5 (List.mem_of_getElem? (i := 32) rfl) rfl), (lwm_tables_1_5 (List.mem_of_getElem? (i := 33) rfl) rfl), rfl, rfl, by decide +kernel⟩
theorem ml_L_13 : pm_lV RL 13 M_X9_code 5 := ⟨in_X9_code, (lwm_tables_1_1 (List.mem_of_getElem? (i := 138) rfl) rfl), (lwm_tables_1_1 (List.mem_of_getElem? (i := 139) rfl) rfl), (lwm_tables_1_1 (List.mem_of_getElem? (i := 140) rfl) rfl), by decide +kernel⟩
theorem ml_L_17 : pm_lV RL 17 M_X10_code 5 := ⟨in_X10_code, (lwm_tables_1_5 (List.mem_of_getElem? (i := 202) rfl) rfl), (lwm_tables_1_5 (List.mem_of_getElem? (i := 203) rfl) rfl), (lwm_tables_1_5 (List.mem_of_getElem? (i := 204) rfl) rfl), by decide +kernel⟩
theorem ml_L_18 : pm_lV RL 18 M_X9_spacing 2 := ⟨in_X9_spacing, (lwm_tables_1_1 (List.mem_of_getElem? (i := 162) rfl) rfl), (lwm_tables_1_1 (List.mem_of_getElem? (i := 163) rfl) rfl), (lwm_tables_1_1 (List.mem_of_getElem? (i := 164) rfl) rfl), by decide +kernel⟩
theorem ml_L_22 : pm_lV RL 22 M_X10_spacing 2 := ⟨in_X10_spacing, (lwm_tables_1_5 (List.mem_of_getElem? (i := 215) rfl) rfl), (lwm_tables_1_5 (List.mem_of_getElem? (i := 216) rfl) rfl), (lwm_tables_1_5 (List.mem_of_getElem? (i := 217) rfl) rfl), by decide +kernel⟩
theorem ml_L_23 : pm_lV RL 23 M_X9_begin 0 := ⟨in_X9_begin, (lwm_tables_1_1 (List.mem_of_getElem? (i := 172) rfl) rfl), (lwm_tables_1_1 (List.mem_of_getElem? (i := 173) rfl) rfl), (lwm_tables_1_1 (List.mem_of_getElem? (i := 174) rfl) rfl), by decide +kernel⟩
theorem ml_L_27 : pm_lV RL 27 M_X10_begin 0 := ⟨in_X10_begin, (lwm_tables_1_5 (List.mem_of_getElem? (i := 222) rfl) rfl), (lwm_tables_1_5 (List.mem_of_getElem? (i := 223) rfl) rfl), (lwm_tables_1_5 (List.mem_of_getElem? (i := 224) rfl) rfl), by decide +kernel⟩
theorem ml_L_28 : pm_lV RL 28 M_X9_give 1 := ⟨in_X9_give, (lwm_tables_1_2 (List.mem_of_getElem? (i := 151) rfl) rfl), (lwm_tables_1_2 (List.mem_of_getElem? (i := 152) rfl) rfl), (lwm_tables_1_2 (List.mem_of_getElem? (i := 153) rfl) rfl), by decide +kernel⟩
theorem ml_L_32 : pm_lV RL 32 M_X10_give 1 := ⟨in_X10_give, (lwm_tables_1_5 (List.mem_of_getElem? (i := 236) rfl) rfl), (lwm_tables_1_5 (List.mem_of_getElem? (i := 237) rfl) rfl), (lwm_tables_1_5 (List.mem_of_getElem? (i := 238) rfl) rfl), by decide +kernel⟩
theorem ml_L_33 : pm_lV RL 33 M_X9_seed 1 := ⟨in_X9_seed, (lwm_tables_1_2 (List.mem_of_getElem? (i := 159) rfl) rfl), (lwm_tables_1_2 (List.mem_of_getElem? (i := 160) rfl) rfl), (lwm_tables_1_2 (List.mem_of_getElem? (i := 161) rfl) rfl), by decide +kernel⟩
theorem ml_L_36 : pm_lV RL 36 M_X10_seed 1 := ⟨in_X10_seed, (lwm_tables_1_6 (List.mem_of_getElem? (i := 0) rfl) rfl), (lwm_tables_1_6 (List.mem_of_getElem? (i := 1) rfl) rfl), (lwm_tables_1_6 (List.mem_of_getElem? (i := 2) rfl) rfl), by decide +kernel⟩
theorem ml_L_37 : pm_lV RL 37 M_X9_poke 3 := ⟨in_X9_poke, (lwm_tables_1_2 (List.mem_of_getElem? (i := 163) rfl) rfl), (lwm_tables_1_2 (List.mem_of_getElem? (i := 164) rfl) rfl), (lwm_tables_1_2 (List.mem_of_getElem? (i := 165) rfl) rfl), by decide +kernel⟩
theorem ml_L_41 : pm_lV RL 41 M_X10_poke 3 := ⟨in_X10_poke, (lwm_tables_1_6 (List.mem_of_getElem? (i := 4) rfl) rfl), (lwm_tables_1_6 (List.mem_of_getElem? (i := 5) rfl) rfl), (lwm_tables_1_6 (List.mem_of_getElem? (i := 6) rfl) rfl), by decide +kernel⟩
theorem ml_L_42 : pm_lV RL 42 M_X9_run 1 := ⟨in_X9_run, (lwm_tables_1_2 (List.mem_of_getElem? (i := 218) rfl) rfl), (lwm_tables_1_2 (List.mem_of_getElem? (i := 219) rfl) rfl), (lwm_tables_1_2 (List.mem_of_getElem? (i := 220) rfl) rfl), by decide +kernel⟩
theorem ml_L_45 : pm_lV RL 45 M_X10_run 1 := ⟨in_X10_run, (lwm_tables_1_6 (List.mem_of_getElem? (i := 21) rfl) rfl), (lwm_tables_1_6 (List.mem_of_getElem? (i := 22) rfl) rfl), (lwm_tables_1_6 (List.mem_of_getElem? (i := 23) rfl) rfl), by decide +kernel⟩
theorem ml_L_46 : pm_lV RL 46 M_X9_watch 2 := ⟨in_X9_watch, (lwm_tables_1_3 (List.mem_of_getElem? (i := 149) rfl) rfl), (lwm_tables_1_3 (List.mem_of_getElem? (i := 150) rfl) rfl), (lwm_tables_1_3 (List.mem_of_getElem? (i := 151) rfl) rfl), by decide +kernel⟩
theorem ml_L_50 : pm_lV RL 50 M_X10_watch 2 := ⟨in_X10_watch, (lwm_tables_1_6 (List.mem_of_getElem? (i := 100) rfl) rfl), (lwm_tables_1_6 (List.mem_of_getElem? (i := 101) rfl) rfl), (lwm_tables_1_6 (List.mem_of_getElem? (i := 102) rfl) rfl), by decide +kernel⟩
theorem ml_L_51 : pm_lV RL 51 M_X9_back 1 := ⟨in_X9_back, (lwm_tables_1_3 (List.mem_of_getElem? (i := 153) rfl) rfl), (lwm_tables_1_3 (List.mem_of_getElem? (i := 154) rfl) rfl), (lwm_tables_1_3 (List.mem_of_getElem? (i := 155) rfl) rfl), by decide +kernel⟩
theorem ml_L_54 : pm_lV RL 54 M_X10_back 1 := ⟨in_X10_back, (lwm_tables_1_6 (List.mem_of_getElem? (i := 104) rfl) rfl), (lwm_tables_1_6 (List.mem_of_getElem? (i := 105) rfl) rfl), (lwm_tables_1_6 (List.mem_of_getElem? (i := 106) rfl) rfl), by decide +kernel⟩
theorem ml_L_55 : pm_lV RL 55 M_X9_keep 0 := ⟨in_X9_keep, (lwm_tables_1_3 (List.mem_of_getElem? (i := 213) rfl) rfl), (lwm_tables_1_3 (List.mem_of_getElem? (i := 214) rfl) rfl), (lwm_tables_1_3 (List.mem_of_getElem? (i := 215) rfl) rfl), by decide +kernel⟩
theorem ml_L_58 : pm_lV RL 58 M_X10_keep 0 := ⟨in_X10_keep, (lwm_tables_1_6 (List.mem_of_getElem? (i := 136) rfl) rfl), (lwm_tables_1_6 (List.mem_of_getElem? (i := 137) rfl) rfl), (lwm_tables_1_6 (List.mem_of_getElem? (i := 138) rfl) rfl), by decide +kernel⟩
theorem ml_L_59 : pm_lV RL 59 M_X9_use 1 := ⟨in_X9_use, (lwm_tables_1_4 (List.mem_of_getElem? (i := 8) rfl) rfl), (lwm_tables_1_4 (List.mem_of_getElem? (i := 9) rfl) rfl), (lwm_tables_1_4 (List.mem_of_getElem? (i := 10) rfl) rfl), by decide +kernel⟩
theorem ml_L_63 : pm_lV RL 63 M_X10_use 1 := ⟨in_X10_use, (lwm_tables_1_6 (List.mem_of_getElem? (i := 143) rfl) rfl), (lwm_tables_1_6 (List.mem_of_getElem? (i := 144) rfl) rfl), (lwm_tables_1_6 (List.mem_of_getElem? (i := 145) rfl) rfl), by decide +kernel⟩
theorem ml_L_64 : pm_lV RL 64 M_X9_at 3 := ⟨in_X9_at, (lwm_tables_1_4 (List.mem_of_getElem? (i := 16) rfl) rfl), (lwm_tables_1_4 (List.mem_of_getElem? (i := 17) rfl) rfl), (lwm_tables_1_4 (List.mem_of_getElem? (i := 18) rfl) rfl), by decide +kernel⟩
theorem ml_L_67 : pm_lV RL 67 M_X10_at 3 := ⟨in_X10_at, (lwm_tables_1_6 (List.mem_of_getElem? (i := 147) rfl) rfl), (lwm_tables_1_6 (List.mem_of_getElem? (i := 148) rfl) rfl), (lwm_tables_1_6 (List.mem_of_getElem? (i := 149) rfl) rfl), by decide +kernel⟩
theorem ml_L_68 : pm_lV RL 68 M_X9_state 2 := ⟨in_X9_state, (lwm_tables_1_4 (List.mem_of_getElem? (i := 38) rfl) rfl), (lwm_tables_1_4 (List.mem_of_getElem? (i := 39) rfl) rfl), (lwm_tables_1_4 (List.mem_of_getElem? (i := 40) rfl) rfl), by decide +kernel⟩
theorem ml_L_72 : pm_lV RL 72 M_X10_state 2 := ⟨in_X10_state, (lwm_tables_1_6 (List.mem_of_getElem? (i := 160) rfl) rfl), (lwm_tables_1_6 (List.mem_of_getElem? (i := 161) rfl) rfl), (lwm_tables_1_6 (List.mem_of_getElem? (i := 162) rfl) rfl), by decide +kernel⟩
theorem ml_L_73 : pm_lV RL 73 M_X9_last 2 := ⟨in_X9_last, (lwm_tables_1_4 (List.mem_of_getElem? (i := 57) rfl) rfl), (lwm_tables_1_4 (List.mem_of_getElem? (i := 58) rfl) rfl), (lwm_tables_1_4 (List.mem_of_getElem? (i := 59) rfl) rfl), by decide +kernel⟩
theorem ml_L_76 : pm_lV RL 76 M_X10_last 2 := ⟨in_X10_last, (lwm_tables_1_6 (List.mem_of_getElem? (i := 164) rfl) rfl), (lwm_tables_1_6 (List.mem_of_getElem? (i := 165) rfl) rfl), (lwm_tables_1_6 (List.mem_of_getElem? (i := 166) rfl) rfl), by decide +kernel⟩
theorem ml_L_77 : pm_lV RL 77 M_X9_when 4 := ⟨in_X9_when, (lwm_tables_1_4 (List.mem_of_getElem? (i := 69) rfl) rfl), (lwm_tables_1_4 (List.mem_of_getElem? (i := 70) rfl) rfl), (lwm_tables_1_4 (List.mem_of_getElem? (i := 71) rfl) rfl), by decide +kernel⟩
theorem ml_L_81 : pm_lV RL 81 M_X10_when 4 := ⟨in_X10_when, (lwm_tables_1_6 (List.mem_of_getElem? (i := 172) rfl) rfl), (lwm_tables_1_6 (List.mem_of_getElem? (i := 173) rfl) rfl), (lwm_tables_1_6 (List.mem_of_getElem? (i := 174) rfl) rfl), by decide +kernel⟩
theorem ml_L_82 : pm_lV RL 82 M_X9_changed 2 := ⟨in_X9_changed, (lwm_tables_1_4 (List.mem_of_getElem? (i := 81) rfl) rfl), (lwm_tables_1_4 (List.mem_of_getElem? (i := 82) rfl) rfl), (lwm_tables_1_4 (List.mem_of_getElem? (i := 83) rfl) rfl), by decide +kernel⟩
theorem ml_L_85 : pm_lV RL 85 M_X10_changed 2 := ⟨in_X10_changed, (lwm_tables_1_6 (List.mem_of_getElem? (i := 180) rfl) rfl), (lwm_tables_1_6 (List.mem_of_getElem? (i := 181) rfl) rfl), (lwm_tables_1_6 (List.mem_of_getElem? (i := 182) rfl) rfl), by decide +kernel⟩
theorem ml_L_86 : pm_lV RL 86 M_X9_watched 1 := ⟨in_X9_watched, (lwm_tables_1_4 (List.mem_of_getElem? (i := 94) rfl) rfl), (lwm_tables_1_4 (List.mem_of_getElem? (i := 95) rfl) rfl), (lwm_tables_1_4 (List.mem_of_getElem? (i := 96) rfl) rfl), by decide +kernel⟩
theorem ml_L_89 : pm_lV RL 89 M_X10_watched 1 := ⟨in_X10_watched, (lwm_tables_1_6 (List.mem_of_getElem? (i := 184) rfl) rfl), (lwm_tables_1_6 (List.mem_of_getElem? (i := 185) rfl) rfl), (lwm_tables_1_6 (List.mem_of_getElem? (i := 186) rfl) rfl), by decide +kernel⟩
theorem ml_L_90 : pm_lV RL 90 M_X9_rests 3 := ⟨in_X9_rests, (lwm_tables_1_4 (List.mem_of_getElem? (i := 99) rfl) rfl), (lwm_tables_1_4 (List.mem_of_getElem? (i := 100) rfl) rfl), (lwm_tables_1_4 (List.mem_of_getElem? (i := 101) rfl) rfl), by decide +kernel⟩
theorem ml_L_93 : pm_lV RL 93 M_X10_rests 3 := ⟨in_X10_rests, (lwm_tables_1_6 (List.mem_of_getElem? (i := 188) rfl) rfl), (lwm_tables_1_6 (List.mem_of_getElem? (i := 189) rfl) rfl), (lwm_tables_1_6 (List.mem_of_getElem? (i := 190) rfl) rfl), by decide +kernel⟩
theorem ml_L_94 : pm_lV RL 94 M_X9_hangs 3 := ⟨in_X9_hangs, (lwm_tables_1_4 (List.mem_of_getElem? (i := 122) rfl) rfl), (lwm_tables_1_4 (List.mem_of_getElem? (i := 123) rfl) rfl), (lwm_tables_1_4 (List.mem_of_getElem? (i := 124) rfl) rfl), by decide +kernel⟩
theorem ml_L_97 : pm_lV RL 97 M_X10_hangs 3 := ⟨in_X10_hangs, (lwm_tables_1_6 (List.mem_of_getElem? (i := 224) rfl) rfl), (lwm_tables_1_6 (List.mem_of_getElem? (i := 225) rfl) rfl), (lwm_tables_1_6 (List.mem_of_getElem? (i := 226) rfl) rfl), by decide +kernel⟩
theorem ml_L_98 : pm_lV RL 98 M_X9_history 3 := ⟨in_X9_history, (lwm_tables_1_4 (List.mem_of_getElem? (i := 132) rfl) rfl), (lwm_tables_1_4 (List.mem_of_getElem? (i := 133) rfl) rfl), (lwm_tables_1_4 (List.mem_of_getElem? (i := 134) rfl) rfl), by decide +kernel⟩
theorem ml_L_101 : pm_lV RL 101 M_X10_history 3 := ⟨in_X10_history, (lwm_tables_1_6 (List.mem_of_getElem? (i := 228) rfl) rfl), (lwm_tables_1_6 (List.mem_of_getElem? (i := 229) rfl) rfl), (lwm_tables_1_6 (List.mem_of_getElem? (i := 230) rfl) rfl), by decide +kernel⟩
theorem ml_L_102 : pm_lV RL 102 M_X9_done 2 := ⟨in_X9_done, (lwm_tables_1_4 (List.mem_of_getElem? (i := 140) rfl) rfl), (lwm_tables_1_4 (List.mem_of_getElem? (i := 141) rfl) rfl), (lwm_tables_1_4 (List.mem_of_getElem? (i := 142) rfl) rfl), by decide +kernel⟩
theorem ml_L_105 : pm_lV RL 105 M_X10_done 2 := ⟨in_X10_done, (lwm_tables_1_6 (List.mem_of_getElem? (i := 232) rfl) rfl), (lwm_tables_1_6 (List.mem_of_getElem? (i := 233) rfl) rfl), (lwm_tables_1_6 (List.mem_of_getElem? (i := 234) rfl) rfl), by decide +kernel⟩
theorem ml_L_106 : pm_lV RL 106 M_X9_call 2 := ⟨in_X9_call, (lwm_tables_1_4 (List.mem_of_getElem? (i := 144) rfl) rfl), (lwm_tables_1_4 (List.mem_of_getElem? (i := 145) rfl) rfl), (lwm_tables_1_4 (List.mem_of_getElem? (i := 146) rfl) rfl), by decide +kernel⟩
theorem ml_L_109 : pm_lV RL 109 M_X10_call 2 := ⟨in_X10_call, (lwm_tables_1_6 (List.mem_of_getElem? (i := 236) rfl) rfl), (lwm_tables_1_6 (List.mem_of_getElem? (i := 237) rfl) rfl), (lwm_tables_1_6 (List.mem_of_getElem? (i := 238) rfl) rfl), by decide +kernel⟩
theorem ml_L_110 : pm_lV RL 110 M_X9_log 2 := ⟨in_X9_log, (lwm_tables_1_4 (List.mem_of_getElem? (i := 152) rfl) rfl), (lwm_tables_1_4 (List.mem_of_getElem? (i := 153) rfl) rfl), (lwm_tables_1_4 (List.mem_of_getElem? (i := 154) rfl) rfl), by decide +kernel⟩
theorem ml_L_113 : pm_lV RL 113 M_X10_log 2 := ⟨in_X10_log, (lwm_tables_1_7 (List.mem_of_getElem? (i := 0) rfl) rfl), (lwm_tables_1_7 (List.mem_of_getElem? (i := 1) rfl) rfl), (lwm_tables_1_7 (List.mem_of_getElem? (i := 2) rfl) rfl), by decide +kernel⟩
theorem ml_L_114 : pm_lV RL 114 M_X9_held 2 := ⟨in_X9_held, (lwm_tables_1_4 (List.mem_of_getElem? (i := 161) rfl) rfl), (lwm_tables_1_4 (List.mem_of_getElem? (i := 162) rfl) rfl), (lwm_tables_1_4 (List.mem_of_getElem? (i := 163) rfl) rfl), by decide +kernel⟩
theorem ml_L_117 : pm_lV RL 117 M_X10_held 2 := ⟨in_X10_held, (lwm_tables_1_7 (List.mem_of_getElem? (i := 4) rfl) rfl), (lwm_tables_1_7 (List.mem_of_getElem? (i := 5) rfl) rfl), (lwm_tables_1_7 (List.mem_of_getElem? (i := 6) rfl) rfl), by decide +kernel⟩
theorem ml_L_118 : pm_lV RL 118 M_X9_would 3 := ⟨in_X9_would, (lwm_tables_1_4 (List.mem_of_getElem? (i := 167) rfl) rfl), (lwm_tables_1_4 (List.mem_of_getElem? (i := 168) rfl) rfl), (lwm_tables_1_4 (List.mem_of_getElem? (i := 169) rfl) rfl), by decide +kernel⟩
theorem ml_L_121 : pm_lV RL 121 M_X10_would 3 := ⟨in_X10_would, (lwm_tables_1_7 (List.mem_of_getElem? (i := 8) rfl) rfl), (lwm_tables_1_7 (List.mem_of_getElem? (i := 9) rfl) rfl), (lwm_tables_1_7 (List.mem_of_getElem? (i := 10) rfl) rfl), by decide +kernel⟩
theorem ml_L_122 : pm_lV RL 122 M_X9_gap 3 := ⟨in_X9_gap, (lwm_tables_1_4 (List.mem_of_getElem? (i := 180) rfl) rfl), (lwm_tables_1_4 (List.mem_of_getElem? (i := 181) rfl) rfl), (lwm_tables_1_4 (List.mem_of_getElem? (i := 182) rfl) rfl), by decide +kernel⟩
theorem ml_L_125 : pm_lV RL 125 M_X10_gap 3 := ⟨in_X10_gap, (lwm_tables_1_7 (List.mem_of_getElem? (i := 20) rfl) rfl), (lwm_tables_1_7 (List.mem_of_getElem? (i := 21) rfl) rfl), (lwm_tables_1_7 (List.mem_of_getElem? (i := 22) rfl) rfl), by decide +kernel⟩
theorem ml_L_126 : pm_lV RL 126 M_X9_sparing 3 := ⟨in_X9_sparing, (lwm_tables_1_4 (List.mem_of_getElem? (i := 184) rfl) rfl), (lwm_tables_1_4 (List.mem_of_getElem? (i := 185) rfl) rfl), (lwm_tables_1_4 (List.mem_of_getElem? (i := 186) rfl) rfl), by decide +kernel⟩
theorem ml_L_129 : pm_lV RL 129 M_X10_sparing 3 := ⟨in_X10_sparing, (lwm_tables_1_7 (List.mem_of_getElem? (i := 24) rfl) rfl), (lwm_tables_1_7 (List.mem_of_getElem? (i := 25) rfl) rfl), (lwm_tables_1_7 (List.mem_of_getElem? (i := 26) rfl) rfl), by decide +kernel⟩
theorem ml_L_130 : pm_lV RL 130 M_X9_align 2 := ⟨in_X9_align, (lwm_tables_1_4 (List.mem_of_getElem? (i := 188) rfl) rfl), (lwm_tables_1_4 (List.mem_of_getElem? (i := 189) rfl) rfl), (lwm_tables_1_4 (List.mem_of_getElem? (i := 190) rfl) rfl), by decide +kernel⟩
theorem ml_L_133 : pm_lV RL 133 M_X10_align 2 := ⟨in_X10_align, (lwm_tables_1_7 (List.mem_of_getElem? (i := 28) rfl) rfl), (lwm_tables_1_7 (List.mem_of_getElem? (i := 29) rfl) rfl), (lwm_tables_1_7 (List.mem_of_getElem? (i := 30) rfl) rfl), by decide +kernel⟩
theorem ml_L_134 : pm_lV RL 134 M_X9_pair 4 := ⟨in_X9_pair, (lwm_tables_1_4 (List.mem_of_getElem? (i := 211) rfl) rfl), (lwm_tables_1_4 (List.mem_of_getElem? (i := 212) rfl) rfl), (lwm_tables_1_4 (List.mem_of_getElem? (i := 213) rfl) rfl), by decide +kernel⟩
theorem ml_L_137 : pm_lV RL 137 M_X10_pair 4 := ⟨in_X10_pair, (lwm_tables_1_7 (List.mem_of_getElem? (i := 44) rfl) rfl), (lwm_tables_1_7 (List.mem_of_getElem? (i := 45) rfl) rfl), (lwm_tables_1_7 (List.mem_of_getElem? (i := 46) rfl) rfl), by decide +kernel⟩
theorem ml_L_138 : pm_lV RL 138 M_X9_parts 2 := ⟨in_X9_parts, (lwm_tables_1_4 (List.mem_of_getElem? (i := 232) rfl) rfl), (lwm_tables_1_4 (List.mem_of_getElem? (i := 233) rfl) rfl), (lwm_tables_1_4 (List.mem_of_getElem? (i := 234) rfl) rfl), by decide +kernel⟩
theorem ml_L_141 : pm_lV RL 141 M_X10_parts 2 := ⟨in_X10_parts, (lwm_tables_1_7 (List.mem_of_getElem? (i := 52) rfl) rfl), (lwm_tables_1_7 (List.mem_of_getElem? (i := 53) rfl) rfl), (lwm_tables_1_7 (List.mem_of_getElem? (i := 54) rfl) rfl), by decide +kernel⟩
theorem ml_L_142 : pm_lV RL 142 M_X9_look 1 := ⟨in_X9_look, (lwm_tables_1_5 (List.mem_of_getElem? (i := 22) rfl) rfl), (lwm_tables_1_5 (List.mem_of_getElem? (i := 23) rfl) rfl), (lwm_tables_1_5 (List.mem_of_getElem? (i := 24) rfl) rfl), by decide +kernel⟩
theorem ml_L_145 : pm_lV RL 145 M_X10_look 1 := ⟨in_X10_look, (lwm_tables_1_7 (List.mem_of_getElem? (i := 64) rfl) rfl), (lwm_tables_1_7 (List.mem_of_getElem? (i := 65) rfl) rfl), (lwm_tables_1_7 (List.mem_of_getElem? (i := 66) rfl) rfl), by decide +kernel⟩
theorem ml_X10_138 : pm_lS RX10 138 M_X10_isIn 3 := ⟨in_X10_isIn, (lwm_tables_1_5 (List.mem_of_getElem? (i := 206) rfl) rfl), (lwm_tables_1_5 (List.mem_of_getElem? (i := 207) rfl) rfl), by decide +kernel⟩
theorem ml_X10_142 : pm_lS RX10 142 M_X10_isRegister 1 := ⟨in_X10_isRegister, (lwm_tables_1_5 (List.mem_of_getElem? (i := 212) rfl) rfl), (lwm_tables_1_5 (List.mem_of_getElem? (i := 213) rfl) rfl), by decide +kernel⟩
theorem ml_X10_146 : pm_lS RX10 146 M_X10_isFine 4 := ⟨in_X10_isFine, (lwm_tables_1_5 (List.mem_of_getElem? (i := 209) rfl) rfl), (lwm_tables_1_5 (List.mem_of_getElem? (i := 210) rfl) rfl), by decide +kernel⟩
theorem ml_X10_150 : pm_lS RX10 150 M_X10_isSpacing 2 := ⟨in_X10_isSpacing, (lwm_tables_1_5 (List.mem_of_getElem? (i := 219) rfl) rfl), (lwm_tables_1_5 (List.mem_of_getElem? (i := 220) rfl) rfl), by decide +kernel⟩
theorem ml_X10_154 : pm_lS RX10 154 M_X10_one 1 := ⟨in_X10_one, (lwm_tables_1_5 (List.mem_of_getElem? (i := 226) rfl) rfl), (lwm_tables_1_5 (List.mem_of_getElem? (i := 227) rfl) rfl), by decide +kernel⟩
theorem ml_X10_158 : pm_lS RX10 158 M_X10_heldAt 2 := ⟨in_X10_heldAt, (lwm_tables_1_5 (List.mem_of_getElem? (i := 229) rfl) rfl), (lwm_tables_1_5 (List.mem_of_getElem? (i := 230) rfl) rfl), by decide +kernel⟩
theorem ml_X10_162 : pm_lV RX10 162 M_X10_clears 1 := ⟨in_X10_clears, (lwm_tables_1_5 (List.mem_of_getElem? (i := 232) rfl) rfl), (lwm_tables_1_5 (List.mem_of_getElem? (i := 234) rfl) rfl), (lwm_0 (List.mem_of_getElem? (i := 19) rfl) rfl), by decide +kernel⟩
theorem ml_X10_169 : pm_lS RX10 169 M_X10_isPlace 1 := ⟨in_X10_isPlace, (lwm_tables_1_6 (List.mem_of_getElem? (i := 8) rfl) rfl), (lwm_tables_1_6 (List.mem_of_getElem? (i := 9) rfl) rfl), by decide +kernel⟩
theorem ml_X10_172 : pm_lS RX10 172 M_X10_isValue 2 := ⟨in_X10_isValue, (lwm_tables_1_6 (List.mem_of_getElem? (i := 11) rfl) rfl), (lwm_tables_1_6 (List.mem_of_getElem? (i := 12) rfl) rfl), by decide +kernel⟩
theorem ml_X10_175 : pm_lV RX10 175 M_X10_notes 4 := ⟨in_X10_notes, (lwm_tables_1_6 (List.mem_of_getElem? (i := 14) rfl) rfl), (lwm_tables_1_6 (List.mem_of_getElem? (i := 16) rfl) rfl), (lwm_0 (List.mem_of_getElem? (i := 20) rfl) rfl), by decide +kernel⟩
theorem ml_X10_179 : pm_lS RX10 179 M_X10_puts 4 := ⟨in_X10_puts, (lwm_tables_1_6 (List.mem_of_getElem? (i := 18) rfl) rfl), (lwm_tables_1_6 (List.mem_of_getElem? (i := 19) rfl) rfl), by decide +kernel⟩
theorem ml_X10_189 : pm_lV RX10 189 M_X10_kindAt 2 := ⟨in_X10_kindAt, (lwm_tables_1_6 (List.mem_of_getElem? (i := 33) rfl) rfl), (lwm_tables_1_6 (List.mem_of_getElem? (i := 35) rfl) rfl), (lwm_0 (List.mem_of_getElem? (i := 23) rfl) rfl), by decide +kernel⟩
theorem ml_X10_200 : pm_lV RX10 200 M_X10_traps 2 := ⟨in_X10_traps, (lwm_tables_1_6 (List.mem_of_getElem? (i := 56) rfl) rfl), (lwm_tables_1_6 (List.mem_of_getElem? (i := 58) rfl) rfl), (lwm_0 (List.mem_of_getElem? (i := 28) rfl) rfl), by decide +kernel⟩
theorem ml_X10_204 : pm_lV RX10 204 M_X10_does 7 := ⟨in_X10_does, (lwm_tables_1_6 (List.mem_of_getElem? (i := 60) rfl) rfl), (lwm_tables_1_6 (List.mem_of_getElem? (i := 62) rfl) rfl), (lwm_0 (List.mem_of_getElem? (i := 29) rfl) rfl), by decide +kernel⟩
theorem ml_X10_208 : pm_lV RX10 208 M_X10_gives 4 := ⟨in_X10_gives, (lwm_tables_1_6 (List.mem_of_getElem? (i := 64) rfl) rfl), (lwm_tables_1_6 (List.mem_of_getElem? (i := 66) rfl) rfl), (lwm_0 (List.mem_of_getElem? (i := 30) rfl) rfl), by decide +kernel⟩
theorem ml_X10_211 : pm_lS RX10 211 M_X10_isOf 3 := ⟨in_X10_isOf, (lwm_tables_1_6 (List.mem_of_getElem? (i := 68) rfl) rfl), (lwm_tables_1_6 (List.mem_of_getElem? (i := 69) rfl) rfl), by decide +kernel⟩
theorem ml_X10_215 : pm_lV RX10 215 M_X10_cells 4 := ⟨in_X10_cells, (lwm_tables_1_6 (List.mem_of_getElem? (i := 71) rfl) rfl), (lwm_tables_1_6 (List.mem_of_getElem? (i := 73) rfl) rfl), (lwm_0 (List.mem_of_getElem? (i := 31) rfl) rfl), by decide +kernel⟩
theorem ml_X10_218 : pm_lV RX10 218 M_X10_goes 4 := ⟨in_X10_goes, (lwm_tables_1_6 (List.mem_of_getElem? (i := 75) rfl) rfl), (lwm_tables_1_6 (List.mem_of_getElem? (i := 77) rfl) rfl), (lwm_0 (List.mem_of_getElem? (i := 32) rfl) rfl), by decide +kernel⟩
theorem ml_X10_221 : pm_lV RX10 221 M_X10_reckons 5 := ⟨in_X10_reckons, (lwm_tables_1_6 (List.mem_of_getElem? (i := 79) rfl) rfl), (lwm_tables_1_6 (List.mem_of_getElem? (i := 81) rfl) rfl), (lwm_0 (List.mem_of_getElem? (i := 33) rfl) rfl), by decide +kernel⟩
theorem ml_X10_225 : pm_lV RX10 225 M_X10_halvings 1 := ⟨in_X10_halvings, (lwm_tables_1_6 (List.mem_of_getElem? (i := 91) rfl) rfl), (lwm_tables_1_6 (List.mem_of_getElem? (i := 93) rfl) rfl), (lwm_0 (List.mem_of_getElem? (i := 36) rfl) rfl), by decide +kernel⟩
theorem ml_X10_229 : pm_lV RX10 229 M_X10_goesWith 2 := ⟨in_X10_goesWith, (lwm_tables_1_6 (List.mem_of_getElem? (i := 87) rfl) rfl), (lwm_tables_1_6 (List.mem_of_getElem? (i := 89) rfl) rfl), (lwm_0 (List.mem_of_getElem? (i := 35) rfl) rfl), by decide +kernel⟩
theorem ml_X10_232 : pm_lV RX10 232 M_X10_heldMany 1 := ⟨in_X10_heldMany, (lwm_tables_1_6 (List.mem_of_getElem? (i := 95) rfl) rfl), (lwm_tables_1_6 (List.mem_of_getElem? (i := 97) rfl) rfl), (lwm_0 (List.mem_of_getElem? (i := 37) rfl) rfl), by decide +kernel⟩
theorem ml_X10_240 : pm_lV RX10 240 M_X10_takesInput 0 := ⟨in_X10_takesInput, (lwm_tables_1_6 (List.mem_of_getElem? (i := 41) rfl) rfl), (lwm_tables_1_6 (List.mem_of_getElem? (i := 43) rfl) rfl), (lwm_0 (List.mem_of_getElem? (i := 25) rfl) rfl), by decide +kernel⟩
theorem ml_X10_243 : pm_lV RX10 243 M_X10_draws 1 := ⟨in_X10_draws, (lwm_tables_1_6 (List.mem_of_getElem? (i := 45) rfl) rfl), (lwm_tables_1_6 (List.mem_of_getElem? (i := 47) rfl) rfl), (lwm_0 (List.mem_of_getElem? (i := 26) rfl) rfl), by decide +kernel⟩
theorem ml_X10_247 : pm_lV RX10 247 M_X10_steps 3 := ⟨in_X10_steps, (lwm_tables_1_6 (List.mem_of_getElem? (i := 51) rfl) rfl), (lwm_tables_1_6 (List.mem_of_getElem? (i := 53) rfl) rfl), (lwm_0 (List.mem_of_getElem? (i := 27) rfl) rfl), by decide +kernel⟩
theorem ml_X10_251 : pm_lV RX10 251 M_X10_comes 0 := ⟨in_X10_comes, (lwm_tables_1_6 (List.mem_of_getElem? (i := 83) rfl) rfl), (lwm_tables_1_6 (List.mem_of_getElem? (i := 85) rfl) rfl), (lwm_0 (List.mem_of_getElem? (i := 34) rfl) rfl), by decide +kernel⟩
theorem ml_X10_254 : pm_lV RX10 254 M_X10_watchedChanges 0 := ⟨in_X10_watchedChanges, (lwm_tables_1_6 (List.mem_of_getElem? (i := 25) rfl) rfl), (lwm_tables_1_6 (List.mem_of_getElem? (i := 27) rfl) rfl), (lwm_0 (List.mem_of_getElem? (i := 21) rfl) rfl), by decide +kernel⟩
theorem ml_X10_258 : pm_lV RX10 258 M_X10_status 0 := ⟨in_X10_status, (lwm_tables_1_6 (List.mem_of_getElem? (i := 29) rfl) rfl), (lwm_tables_1_6 (List.mem_of_getElem? (i := 31) rfl) rfl), (lwm_0 (List.mem_of_getElem? (i := 22) rfl) rfl), by decide +kernel⟩
theorem ml_X10_261 : pm_lV RX10 261 M_X10_goesOn 0 := ⟨in_X10_goesOn, (lwm_tables_1_6 (List.mem_of_getElem? (i := 37) rfl) rfl), (lwm_tables_1_6 (List.mem_of_getElem? (i := 39) rfl) rfl), (lwm_0 (List.mem_of_getElem? (i := 24) rfl) rfl), by decide +kernel⟩
theorem ml_X10_267 : pm_lV RX10 267 M_X10_simPokes 0 := ⟨in_X10_simPokes, (lwm_tables_1_6 (List.mem_of_getElem? (i := 128) rfl) rfl), (lwm_tables_1_6 (List.mem_of_getElem? (i := 130) rfl) rfl), (lwm_0 (List.mem_of_getElem? (i := 43) rfl) rfl), by decide +kernel⟩
theorem ml_X10_270 : pm_lV RX10 270 M_X10_simBegins 1 := ⟨in_X10_simBegins, (lwm_tables_1_6 (List.mem_of_getElem? (i := 124) rfl) rfl), (lwm_tables_1_6 (List.mem_of_getElem? (i := 126) rfl) rfl), (lwm_0 (List.mem_of_getElem? (i := 42) rfl) rfl), by decide +kernel⟩
theorem ml_X10_273 : pm_lV RX10 273 M_X10_simStep 0 := ⟨in_X10_simStep, (lwm_tables_1_6 (List.mem_of_getElem? (i := 132) rfl) rfl), (lwm_tables_1_6 (List.mem_of_getElem? (i := 134) rfl) rfl), (lwm_0 (List.mem_of_getElem? (i := 44) rfl) rfl), by decide +kernel⟩
theorem ml_X10_279 : pm_lV RX10 279 M_X10_heldBy 2 := ⟨in_X10_heldBy, (lwm_tables_1_6 (List.mem_of_getElem? (i := 112) rfl) rfl), (lwm_tables_1_6 (List.mem_of_getElem? (i := 114) rfl) rfl), (lwm_0 (List.mem_of_getElem? (i := 39) rfl) rfl), by decide +kernel⟩
theorem ml_X10_282 : pm_lV RX10 282 M_X10_counts 2 := ⟨in_X10_counts, (lwm_tables_1_6 (List.mem_of_getElem? (i := 116) rfl) rfl), (lwm_tables_1_6 (List.mem_of_getElem? (i := 118) rfl) rfl), (lwm_0 (List.mem_of_getElem? (i := 40) rfl) rfl), by decide +kernel⟩
theorem ml_X10_286 : pm_lV RX10 286 M_X10_lays 2 := ⟨in_X10_lays, (lwm_tables_1_6 (List.mem_of_getElem? (i := 120) rfl) rfl), (lwm_tables_1_6 (List.mem_of_getElem? (i := 122) rfl) rfl), (lwm_0 (List.mem_of_getElem? (i := 41) rfl) rfl), by decide +kernel⟩
theorem ml_X10_289 : pm_lV RX10 289 M_X10_runAsked 0 := ⟨in_X10_runAsked, (lwm_tables_1_6 (List.mem_of_getElem? (i := 155) rfl) rfl), (lwm_tables_1_6 (List.mem_of_getElem? (i := 157) rfl) rfl), (lwm_0 (List.mem_of_getElem? (i := 46) rfl) rfl), by decide +kernel⟩
theorem ml_X10_292 : pm_lV RX10 292 M_X10_replays 2 := ⟨in_X10_replays, (lwm_tables_1_6 (List.mem_of_getElem? (i := 108) rfl) rfl), (lwm_tables_1_6 (List.mem_of_getElem? (i := 110) rfl) rfl), (lwm_0 (List.mem_of_getElem? (i := 38) rfl) rfl), by decide +kernel⟩
theorem ml_X10_298 : pm_lS RX10 298 M_X10_copies 4 := ⟨in_X10_copies, (lwm_tables_1_6 (List.mem_of_getElem? (i := 140) rfl) rfl), (lwm_tables_1_6 (List.mem_of_getElem? (i := 141) rfl) rfl), by decide +kernel⟩
theorem ml_X10_301 : pm_lV RX10 301 M_X10_isTime 1 := ⟨in_X10_isTime, (lwm_tables_1_6 (List.mem_of_getElem? (i := 151) rfl) rfl), (lwm_tables_1_6 (List.mem_of_getElem? (i := 153) rfl) rfl), (lwm_0 (List.mem_of_getElem? (i := 45) rfl) rfl), by decide +kernel⟩
theorem ml_X10_305 : pm_lV RX10 305 M_X10_lastOf 2 := ⟨in_X10_lastOf, (lwm_tables_1_6 (List.mem_of_getElem? (i := 168) rfl) rfl), (lwm_tables_1_6 (List.mem_of_getElem? (i := 170) rfl) rfl), (lwm_0 (List.mem_of_getElem? (i := 47) rfl) rfl), by decide +kernel⟩
theorem ml_X10_308 : pm_lV RX10 308 M_X10_hadIn 6 := ⟨in_X10_hadIn, (lwm_tables_1_6 (List.mem_of_getElem? (i := 176) rfl) rfl), (lwm_tables_1_6 (List.mem_of_getElem? (i := 178) rfl) rfl), (lwm_0 (List.mem_of_getElem? (i := 48) rfl) rfl), by decide +kernel⟩
theorem ml_X10_312 : pm_lV RX10 312 M_X10_clearsLooked 0 := ⟨in_X10_clearsLooked, (lwm_tables_1_6 (List.mem_of_getElem? (i := 200) rfl) rfl), (lwm_tables_1_6 (List.mem_of_getElem? (i := 202) rfl) rfl), (lwm_0 (List.mem_of_getElem? (i := 51) rfl) rfl), by decide +kernel⟩
theorem ml_X10_315 : pm_lV RX10 315 M_X10_adds 1 := ⟨in_X10_adds, (lwm_tables_1_6 (List.mem_of_getElem? (i := 204) rfl) rfl), (lwm_tables_1_6 (List.mem_of_getElem? (i := 206) rfl) rfl), (lwm_0 (List.mem_of_getElem? (i := 52) rfl) rfl), by decide +kernel⟩
theorem ml_X10_318 : pm_lV RX10 318 M_X10_restsOn 1 := ⟨in_X10_restsOn, (lwm_tables_1_6 (List.mem_of_getElem? (i := 208) rfl) rfl), (lwm_tables_1_6 (List.mem_of_getElem? (i := 210) rfl) rfl), (lwm_0 (List.mem_of_getElem? (i := 53) rfl) rfl), by decide +kernel⟩
theorem ml_X10_321 : pm_lV RX10 321 M_X10_looksAt 1 := ⟨in_X10_looksAt, (lwm_tables_1_6 (List.mem_of_getElem? (i := 216) rfl) rfl), (lwm_tables_1_6 (List.mem_of_getElem? (i := 218) rfl) rfl), (lwm_0 (List.mem_of_getElem? (i := 55) rfl) rfl), by decide +kernel⟩
theorem ml_X10_324 : pm_lV RX10 324 M_X10_restPokes 0 := ⟨in_X10_restPokes, (lwm_tables_1_6 (List.mem_of_getElem? (i := 196) rfl) rfl), (lwm_tables_1_6 (List.mem_of_getElem? (i := 198) rfl) rfl), (lwm_0 (List.mem_of_getElem? (i := 50) rfl) rfl), by decide +kernel⟩
theorem ml_X10_327 : pm_lV RX10 327 M_X10_looks 0 := ⟨in_X10_looks, (lwm_tables_1_6 (List.mem_of_getElem? (i := 212) rfl) rfl), (lwm_tables_1_6 (List.mem_of_getElem? (i := 214) rfl) rfl), (lwm_0 (List.mem_of_getElem? (i := 54) rfl) rfl), by decide +kernel⟩
theorem ml_X10_330 : pm_lV RX10 330 M_X10_laysRests 2 := ⟨in_X10_laysRests, (lwm_tables_1_6 (List.mem_of_getElem? (i := 192) rfl) rfl), (lwm_tables_1_6 (List.mem_of_getElem? (i := 194) rfl) rfl), (lwm_0 (List.mem_of_getElem? (i := 49) rfl) rfl), by decide +kernel⟩
theorem ml_X10_333 : pm_lV RX10 333 M_X10_restsOnBit 2 := ⟨in_X10_restsOnBit, (lwm_tables_1_6 (List.mem_of_getElem? (i := 220) rfl) rfl), (lwm_tables_1_6 (List.mem_of_getElem? (i := 222) rfl) rfl), (lwm_0 (List.mem_of_getElem? (i := 56) rfl) rfl), by decide +kernel⟩
theorem ml_X10_336 : pm_lV RX10 336 M_X10_wouldBe 3 := ⟨in_X10_wouldBe, (lwm_tables_1_7 (List.mem_of_getElem? (i := 16) rfl) rfl), (lwm_tables_1_7 (List.mem_of_getElem? (i := 18) rfl) rfl), (lwm_0 (List.mem_of_getElem? (i := 58) rfl) rfl), by decide +kernel⟩
theorem ml_X10_339 : pm_lV RX10 339 M_X10_wouldOf 3 := ⟨in_X10_wouldOf, (lwm_tables_1_7 (List.mem_of_getElem? (i := 12) rfl) rfl), (lwm_tables_1_7 (List.mem_of_getElem? (i := 14) rfl) rfl), (lwm_0 (List.mem_of_getElem? (i := 57) rfl) rfl), by decide +kernel⟩
theorem ml_X10_349 : pm_lV RX10 349 M_X10_areLike 2 := ⟨in_X10_areLike, (lwm_tables_1_7 (List.mem_of_getElem? (i := 40) rfl) rfl), (lwm_tables_1_7 (List.mem_of_getElem? (i := 42) rfl) rfl), (lwm_0 (List.mem_of_getElem? (i := 61) rfl) rfl), by decide +kernel⟩
theorem ml_X10_352 : pm_lV RX10 352 M_X10_isThere 1 := ⟨in_X10_isThere, (lwm_tables_1_7 (List.mem_of_getElem? (i := 32) rfl) rfl), (lwm_tables_1_7 (List.mem_of_getElem? (i := 34) rfl) rfl), (lwm_0 (List.mem_of_getElem? (i := 59) rfl) rfl), by decide +kernel⟩
theorem ml_X10_355 : pm_lV RX10 355 M_X10_laysPairs 2 := ⟨in_X10_laysPairs, (lwm_tables_1_7 (List.mem_of_getElem? (i := 36) rfl) rfl), (lwm_tables_1_7 (List.mem_of_getElem? (i := 38) rfl) rfl), (lwm_0 (List.mem_of_getElem? (i := 60) rfl) rfl), by decide +kernel⟩
theorem ml_X10_364 : pm_lV RX10 364 M_X10_finds 1 := ⟨in_X10_finds, (lwm_tables_1_7 (List.mem_of_getElem? (i := 48) rfl) rfl), (lwm_tables_1_7 (List.mem_of_getElem? (i := 50) rfl) rfl), (lwm_0 (List.mem_of_getElem? (i := 62) rfl) rfl), by decide +kernel⟩
theorem ml_X10_373 : pm_lV RX10 373 M_X10_swaps 0 := ⟨in_X10_swaps, (lwm_tables_1_7 (List.mem_of_getElem? (i := 56) rfl) rfl), (lwm_tables_1_7 (List.mem_of_getElem? (i := 58) rfl) rfl), (lwm_0 (List.mem_of_getElem? (i := 63) rfl) rfl), by decide +kernel⟩
theorem ml_X10_376 : pm_lV RX10 376 M_X10_areStatesLike 0 := ⟨in_X10_areStatesLike, (lwm_tables_1_7 (List.mem_of_getElem? (i := 60) rfl) rfl), (lwm_tables_1_7 (List.mem_of_getElem? (i := 62) rfl) rfl), (lwm_0 (List.mem_of_getElem? (i := 64) rfl) rfl), by decide +kernel⟩
theorem ml_X10_380 : pm_lV RX10 380 M_X10_ofRun 2 := ⟨in_X10_ofRun, (lwm_tables_1_7 (List.mem_of_getElem? (i := 68) rfl) rfl), (lwm_tables_1_7 (List.mem_of_getElem? (i := 70) rfl) rfl), (lwm_0 (List.mem_of_getElem? (i := 65) rfl) rfl), by decide +kernel⟩
theorem ml_X10_383 : pm_lV RX10 383 M_X10_watchedOf 2 := ⟨in_X10_watchedOf, (lwm_tables_1_7 (List.mem_of_getElem? (i := 72) rfl) rfl), (lwm_tables_1_7 (List.mem_of_getElem? (i := 74) rfl) rfl), (lwm_0 (List.mem_of_getElem? (i := 66) rfl) rfl), by decide +kernel⟩
theorem kc_X9_168 : Cond.constant RX9 168 (-1000001) ∈ lw_g := (lwm_tables_1_4 (List.mem_of_getElem? (i := 25) rfl) rfl)
theorem kc_X3_44 : Cond.constant RX3 44 (-1000001) ∈ lw_g := (lwm_tables_1_4 (List.mem_of_getElem? (i := 160) rfl) rfl)
theorem kc_X4_25 : Cond.constant RX4 25 (1664525) ∈ lw_g := (lwm_tables_1_3 (List.mem_of_getElem? (i := 69) rfl) rfl)
theorem kc_X4_26 : Cond.constant RX4 26 (1013904223) ∈ lw_g := (lwm_tables_1_3 (List.mem_of_getElem? (i := 70) rfl) rfl)
theorem kc_X7_121 : Cond.constant RX7 121 (-1000001) ∈ lw_g := (lwm_tables_1_3 (List.mem_of_getElem? (i := 112) rfl) rfl)
theorem kc_X10_238 : Cond.constant RX10 238 (1664525) ∈ lw_g := (lwm_tables_1_6 (List.mem_of_getElem? (i := 49) rfl) rfl)
theorem kc_X10_239 : Cond.constant RX10 239 (1013904223) ∈ lw_g := (lwm_tables_1_6 (List.mem_of_getElem? (i := 50) rfl) rfl)
theorem kc_X10_304 : Cond.constant RX10 304 (-1000001) ∈ lw_g := (lwm_tables_1_6 (List.mem_of_getElem? (i := 159) rfl) rfl)
end
section
theorem dX0_init_0 : decode cX0_init 0 = .ok (.aload_n 0, 1) := by decide +kernel
theorem dX0_init_1 : decode cX0_init 1 = .ok (.invokespecial 3, 3) := by decide +kernel
theorem dX0_init_4 : decode cX0_init 4 = .ok (.aload_n 0, 1) := by decide +kernel
theorem dX0_init_5 : decode cX0_init 5 = .ok (.bipush 101, 2) := by decide +kernel
theorem dX0_init_7 : decode cX0_init 7 = .ok (.bipush 101, 2) := by decide +kernel
theorem dX0_init_9 : decode cX0_init 9 = .ok (.multianewarray 9 2, 4) := by decide +kernel
theorem dX0_init_13 : decode cX0_init 13 = .ok (.putfield 11, 3) := by decide +kernel
theorem dX0_init_16 : decode cX0_init 16 = .ok (.aload_n 0, 1) := by decide +kernel
theorem dX0_init_17 : decode cX0_init 17 = .ok (.bipush 100, 2) := by decide +kernel
theorem dX0_init_19 : decode cX0_init 19 = .ok (.newarray .int, 2) := by decide +kernel
theorem dX0_init_21 : decode cX0_init 21 = .ok (.putfield 16, 3) := by decide +kernel
theorem dX0_init_24 : decode cX0_init 24 = .ok (.aload_n 0, 1) := by decide +kernel
theorem dX0_init_25 : decode cX0_init 25 = .ok (.bipush 100, 2) := by decide +kernel
theorem dX0_init_27 : decode cX0_init 27 = .ok (.newarray .int, 2) := by decide +kernel
theorem dX0_init_29 : decode cX0_init 29 = .ok (.putfield 20, 3) := by decide +kernel
theorem dX0_init_32 : decode cX0_init 32 = .ok (.aload_n 0, 1) := by decide +kernel
theorem dX0_init_33 : decode cX0_init 33 = .ok (.iconst 0, 1) := by decide +kernel
theorem dX0_init_34 : decode cX0_init 34 = .ok (.putfield 23, 3) := by decide +kernel
theorem dX0_init_37 : decode cX0_init 37 = .ok (.aload_n 0, 1) := by decide +kernel
theorem dX0_init_38 : decode cX0_init 38 = .ok (.bipush 40, 2) := by decide +kernel
theorem dX0_init_40 : decode cX0_init 40 = .ok (.newarray .int, 2) := by decide +kernel
theorem dX0_init_42 : decode cX0_init 42 = .ok (.putfield 27, 3) := by decide +kernel
theorem dX0_init_45 : decode cX0_init 45 = .ok (.aload_n 0, 1) := by decide +kernel
theorem dX0_init_46 : decode cX0_init 46 = .ok (.bipush 40, 2) := by decide +kernel
theorem dX0_init_48 : decode cX0_init 48 = .ok (.newarray .int, 2) := by decide +kernel
theorem dX0_init_50 : decode cX0_init 50 = .ok (.putfield 30, 3) := by decide +kernel
theorem dX0_init_53 : decode cX0_init 53 = .ok (.return_, 1) := by decide +kernel
theorem dX0_has_0 : decode cX0_has 0 = .ok (.iload_n 1, 1) := by decide +kernel
theorem dX0_has_1 : decode cX0_has 1 = .ok (.ifCond .lt 21, 3) := by decide +kernel
theorem dX0_has_4 : decode cX0_has 4 = .ok (.iload_n 1, 1) := by decide +kernel
theorem dX0_has_5 : decode cX0_has 5 = .ok (.aload_n 0, 1) := by decide +kernel
theorem dX0_has_6 : decode cX0_has 6 = .ok (.getfield 23, 3) := by decide +kernel
theorem dX0_has_9 : decode cX0_has 9 = .ok (.if_icmp .ge 13, 3) := by decide +kernel
theorem dX0_has_12 : decode cX0_has 12 = .ok (.iload_n 1, 1) := by decide +kernel
theorem dX0_has_13 : decode cX0_has 13 = .ok (.bipush 100, 2) := by decide +kernel
theorem dX0_has_15 : decode cX0_has 15 = .ok (.if_icmp .ge 7, 3) := by decide +kernel
theorem dX0_has_18 : decode cX0_has 18 = .ok (.iconst 1, 1) := by decide +kernel
theorem dX0_has_19 : decode cX0_has 19 = .ok (.goto 4, 3) := by decide +kernel
theorem dX0_has_22 : decode cX0_has 22 = .ok (.iconst 0, 1) := by decide +kernel
theorem dX0_has_23 : decode cX0_has 23 = .ok (.ireturn, 1) := by decide +kernel
theorem dX0_callOfOne_0 : decode cX0_callOfOne 0 = .ok (.aload_n 0, 1) := by decide +kernel
theorem dX0_callOfOne_1 : decode cX0_callOfOne 1 = .ok (.iload_n 1, 1) := by decide +kernel
theorem dX0_callOfOne_2 : decode cX0_callOfOne 2 = .ok (.invokevirtual 33, 3) := by decide +kernel
theorem dX0_callOfOne_5 : decode cX0_callOfOne 5 = .ok (.ifCond .eq 12, 3) := by decide +kernel
theorem dX0_callOfOne_8 : decode cX0_callOfOne 8 = .ok (.aload_n 0, 1) := by decide +kernel
theorem dX0_callOfOne_9 : decode cX0_callOfOne 9 = .ok (.getfield 16, 3) := by decide +kernel
theorem dX0_callOfOne_12 : decode cX0_callOfOne 12 = .ok (.iload_n 1, 1) := by decide +kernel
theorem dX0_callOfOne_13 : decode cX0_callOfOne 13 = .ok (.iaload, 1) := by decide +kernel
theorem dX0_callOfOne_14 : decode cX0_callOfOne 14 = .ok (.goto 4, 3) := by decide +kernel
theorem dX0_callOfOne_17 : decode cX0_callOfOne 17 = .ok (.iconst (-1), 1) := by decide +kernel
theorem dX0_callOfOne_18 : decode cX0_callOfOne 18 = .ok (.ireturn, 1) := by decide +kernel
theorem dX0_callOfOther_0 : decode cX0_callOfOther 0 = .ok (.aload_n 0, 1) := by decide +kernel
theorem dX0_callOfOther_1 : decode cX0_callOfOther 1 = .ok (.iload_n 1, 1) := by decide +kernel
theorem dX0_callOfOther_2 : decode cX0_callOfOther 2 = .ok (.invokevirtual 33, 3) := by decide +kernel
theorem dX0_callOfOther_5 : decode cX0_callOfOther 5 = .ok (.ifCond .eq 12, 3) := by decide +kernel
theorem dX0_callOfOther_8 : decode cX0_callOfOther 8 = .ok (.aload_n 0, 1) := by decide +kernel
theorem dX0_callOfOther_9 : decode cX0_callOfOther 9 = .ok (.getfield 20, 3) := by decide +kernel
theorem dX0_callOfOther_12 : decode cX0_callOfOther 12 = .ok (.iload_n 1, 1) := by decide +kernel
theorem dX0_callOfOther_13 : decode cX0_callOfOther 13 = .ok (.iaload, 1) := by decide +kernel
theorem dX0_callOfOther_14 : decode cX0_callOfOther 14 = .ok (.goto 4, 3) := by decide +kernel
theorem dX0_callOfOther_17 : decode cX0_callOfOther 17 = .ok (.iconst (-1), 1) := by decide +kernel
theorem dX0_callOfOther_18 : decode cX0_callOfOther 18 = .ok (.ireturn, 1) := by decide +kernel
theorem dX0_lay_0 : decode cX0_lay 0 = .ok (.aload_n 1, 1) := by decide +kernel
theorem dX0_lay_1 : decode cX0_lay 1 = .ok (.getfield 37, 3) := by decide +kernel
theorem dX0_lay_4 : decode cX0_lay 4 = .ok (.bipush 100, 2) := by decide +kernel
theorem dX0_lay_6 : decode cX0_lay 6 = .ok (.invokestatic 42, 3) := by decide +kernel
theorem dX0_lay_9 : decode cX0_lay 9 = .ok (.istore_n 3, 1) := by decide +kernel
theorem dX0_lay_10 : decode cX0_lay 10 = .ok (.aload_n 2, 1) := by decide +kernel
theorem dX0_lay_11 : decode cX0_lay 11 = .ok (.getfield 37, 3) := by decide +kernel
theorem dX0_lay_14 : decode cX0_lay 14 = .ok (.bipush 100, 2) := by decide +kernel
theorem dX0_lay_16 : decode cX0_lay 16 = .ok (.invokestatic 42, 3) := by decide +kernel
theorem dX0_lay_19 : decode cX0_lay 19 = .ok (.istore 4, 2) := by decide +kernel
theorem dX0_lay_21 : decode cX0_lay 21 = .ok (.aload_n 0, 1) := by decide +kernel
theorem dX0_lay_22 : decode cX0_lay 22 = .ok (.aload_n 1, 1) := by decide +kernel
theorem dX0_lay_23 : decode cX0_lay 23 = .ok (.iload_n 3, 1) := by decide +kernel
theorem dX0_lay_24 : decode cX0_lay 24 = .ok (.aload_n 2, 1) := by decide +kernel
theorem dX0_lay_25 : decode cX0_lay 25 = .ok (.iload 4, 2) := by decide +kernel
theorem dX0_lay_27 : decode cX0_lay 27 = .ok (.invokevirtual 48, 3) := by decide +kernel
theorem dX0_lay_30 : decode cX0_lay 30 = .ok (.aload_n 0, 1) := by decide +kernel
theorem dX0_lay_31 : decode cX0_lay 31 = .ok (.aload_n 1, 1) := by decide +kernel
theorem dX0_lay_32 : decode cX0_lay 32 = .ok (.iload_n 3, 1) := by decide +kernel
theorem dX0_lay_33 : decode cX0_lay 33 = .ok (.aload_n 2, 1) := by decide +kernel
theorem dX0_lay_34 : decode cX0_lay 34 = .ok (.iload 4, 2) := by decide +kernel
theorem dX0_lay_36 : decode cX0_lay 36 = .ok (.invokevirtual 52, 3) := by decide +kernel
theorem dX0_lay_39 : decode cX0_lay 39 = .ok (.return_, 1) := by decide +kernel
theorem dX0_countPairs_0 : decode cX0_countPairs 0 = .ok (.aload_n 0, 1) := by decide +kernel
theorem dX0_countPairs_1 : decode cX0_countPairs 1 = .ok (.getfield 11, 3) := by decide +kernel
theorem dX0_countPairs_4 : decode cX0_countPairs 4 = .ok (.iload_n 2, 1) := by decide +kernel
theorem dX0_countPairs_5 : decode cX0_countPairs 5 = .ok (.aaload, 1) := by decide +kernel
theorem dX0_countPairs_6 : decode cX0_countPairs 6 = .ok (.iconst 0, 1) := by decide +kernel
theorem dX0_countPairs_7 : decode cX0_countPairs 7 = .ok (.invokestatic 55, 3) := by decide +kernel
theorem dX0_countPairs_10 : decode cX0_countPairs 10 = .ok (.iload_n 2, 1) := by decide +kernel
theorem dX0_countPairs_11 : decode cX0_countPairs 11 = .ok (.iconst 1, 1) := by decide +kernel
theorem dX0_countPairs_12 : decode cX0_countPairs 12 = .ok (.isub, 1) := by decide +kernel
theorem dX0_countPairs_13 : decode cX0_countPairs 13 = .ok (.istore 5, 2) := by decide +kernel
theorem dX0_countPairs_15 : decode cX0_countPairs 15 = .ok (.iload 5, 2) := by decide +kernel
theorem dX0_countPairs_17 : decode cX0_countPairs 17 = .ok (.ifCond .lt 117, 3) := by decide +kernel
theorem dX0_countPairs_20 : decode cX0_countPairs 20 = .ok (.aload_n 0, 1) := by decide +kernel
theorem dX0_countPairs_21 : decode cX0_countPairs 21 = .ok (.getfield 11, 3) := by decide +kernel
theorem dX0_countPairs_24 : decode cX0_countPairs 24 = .ok (.iload 5, 2) := by decide +kernel
theorem dX0_countPairs_26 : decode cX0_countPairs 26 = .ok (.aaload, 1) := by decide +kernel
theorem dX0_countPairs_27 : decode cX0_countPairs 27 = .ok (.iload 4, 2) := by decide +kernel
theorem dX0_countPairs_29 : decode cX0_countPairs 29 = .ok (.iconst 0, 1) := by decide +kernel
theorem dX0_countPairs_30 : decode cX0_countPairs 30 = .ok (.iastore, 1) := by decide +kernel
theorem dX0_countPairs_31 : decode cX0_countPairs 31 = .ok (.iload 4, 2) := by decide +kernel
theorem dX0_countPairs_33 : decode cX0_countPairs 33 = .ok (.iconst 1, 1) := by decide +kernel
theorem dX0_countPairs_34 : decode cX0_countPairs 34 = .ok (.isub, 1) := by decide +kernel
theorem dX0_countPairs_35 : decode cX0_countPairs 35 = .ok (.istore 6, 2) := by decide +kernel
theorem dX0_countPairs_37 : decode cX0_countPairs 37 = .ok (.iload 6, 2) := by decide +kernel
theorem dX0_countPairs_39 : decode cX0_countPairs 39 = .ok (.ifCond .lt 89, 3) := by decide +kernel
theorem dX0_countPairs_42 : decode cX0_countPairs 42 = .ok (.aload_n 0, 1) := by decide +kernel
theorem dX0_countPairs_43 : decode cX0_countPairs 43 = .ok (.getfield 11, 3) := by decide +kernel
theorem dX0_countPairs_46 : decode cX0_countPairs 46 = .ok (.iload 5, 2) := by decide +kernel
theorem dX0_countPairs_48 : decode cX0_countPairs 48 = .ok (.iconst 1, 1) := by decide +kernel
theorem dX0_countPairs_49 : decode cX0_countPairs 49 = .ok (.iadd, 1) := by decide +kernel
theorem dX0_countPairs_50 : decode cX0_countPairs 50 = .ok (.aaload, 1) := by decide +kernel
theorem dX0_countPairs_51 : decode cX0_countPairs 51 = .ok (.iload 6, 2) := by decide +kernel
theorem dX0_countPairs_53 : decode cX0_countPairs 53 = .ok (.iaload, 1) := by decide +kernel
theorem dX0_countPairs_54 : decode cX0_countPairs 54 = .ok (.aload_n 0, 1) := by decide +kernel
theorem dX0_countPairs_55 : decode cX0_countPairs 55 = .ok (.getfield 11, 3) := by decide +kernel
theorem dX0_countPairs_58 : decode cX0_countPairs 58 = .ok (.iload 5, 2) := by decide +kernel
theorem dX0_countPairs_60 : decode cX0_countPairs 60 = .ok (.aaload, 1) := by decide +kernel
theorem dX0_countPairs_61 : decode cX0_countPairs 61 = .ok (.iload 6, 2) := by decide +kernel
theorem dX0_countPairs_63 : decode cX0_countPairs 63 = .ok (.iconst 1, 1) := by decide +kernel
theorem dX0_countPairs_64 : decode cX0_countPairs 64 = .ok (.iadd, 1) := by decide +kernel
theorem dX0_countPairs_65 : decode cX0_countPairs 65 = .ok (.iaload, 1) := by decide +kernel
theorem dX0_countPairs_66 : decode cX0_countPairs 66 = .ok (.invokestatic 61, 3) := by decide +kernel
theorem dX0_countPairs_69 : decode cX0_countPairs 69 = .ok (.istore 7, 2) := by decide +kernel
theorem dX0_countPairs_71 : decode cX0_countPairs 71 = .ok (.aload_n 1, 1) := by decide +kernel
theorem dX0_countPairs_72 : decode cX0_countPairs 72 = .ok (.iload 5, 2) := by decide +kernel
theorem dX0_countPairs_74 : decode cX0_countPairs 74 = .ok (.aload_n 3, 1) := by decide +kernel
theorem dX0_countPairs_75 : decode cX0_countPairs 75 = .ok (.iload 6, 2) := by decide +kernel
theorem dX0_countPairs_77 : decode cX0_countPairs 77 = .ok (.invokevirtual 64, 3) := by decide +kernel
theorem dX0_countPairs_80 : decode cX0_countPairs 80 = .ok (.ifCond .eq 22, 3) := by decide +kernel
theorem dX0_countPairs_83 : decode cX0_countPairs 83 = .ok (.iconst 1, 1) := by decide +kernel
theorem dX0_countPairs_84 : decode cX0_countPairs 84 = .ok (.aload_n 0, 1) := by decide +kernel
theorem dX0_countPairs_85 : decode cX0_countPairs 85 = .ok (.getfield 11, 3) := by decide +kernel
theorem dX0_countPairs_88 : decode cX0_countPairs 88 = .ok (.iload 5, 2) := by decide +kernel
theorem dX0_countPairs_90 : decode cX0_countPairs 90 = .ok (.iconst 1, 1) := by decide +kernel
theorem dX0_countPairs_91 : decode cX0_countPairs 91 = .ok (.iadd, 1) := by decide +kernel
theorem dX0_countPairs_92 : decode cX0_countPairs 92 = .ok (.aaload, 1) := by decide +kernel
theorem dX0_countPairs_93 : decode cX0_countPairs 93 = .ok (.iload 6, 2) := by decide +kernel
theorem dX0_countPairs_95 : decode cX0_countPairs 95 = .ok (.iconst 1, 1) := by decide +kernel
theorem dX0_countPairs_96 : decode cX0_countPairs 96 = .ok (.iadd, 1) := by decide +kernel
theorem dX0_countPairs_97 : decode cX0_countPairs 97 = .ok (.iaload, 1) := by decide +kernel
theorem dX0_countPairs_98 : decode cX0_countPairs 98 = .ok (.iadd, 1) := by decide +kernel
theorem dX0_countPairs_99 : decode cX0_countPairs 99 = .ok (.goto 4, 3) := by decide +kernel
theorem dX0_countPairs_102 : decode cX0_countPairs 102 = .ok (.iconst 0, 1) := by decide +kernel
theorem dX0_countPairs_103 : decode cX0_countPairs 103 = .ok (.istore 8, 2) := by decide +kernel
theorem dX0_countPairs_105 : decode cX0_countPairs 105 = .ok (.aload_n 0, 1) := by decide +kernel
theorem dX0_countPairs_106 : decode cX0_countPairs 106 = .ok (.getfield 11, 3) := by decide +kernel
theorem dX0_countPairs_109 : decode cX0_countPairs 109 = .ok (.iload 5, 2) := by decide +kernel
theorem dX0_countPairs_111 : decode cX0_countPairs 111 = .ok (.aaload, 1) := by decide +kernel
theorem dX0_countPairs_112 : decode cX0_countPairs 112 = .ok (.iload 6, 2) := by decide +kernel
theorem dX0_countPairs_114 : decode cX0_countPairs 114 = .ok (.iload 7, 2) := by decide +kernel
theorem dX0_countPairs_116 : decode cX0_countPairs 116 = .ok (.iload 8, 2) := by decide +kernel
theorem dX0_countPairs_118 : decode cX0_countPairs 118 = .ok (.invokestatic 61, 3) := by decide +kernel
theorem dX0_countPairs_121 : decode cX0_countPairs 121 = .ok (.iastore, 1) := by decide +kernel
theorem dX0_countPairs_122 : decode cX0_countPairs 122 = .ok (.iinc 6 (-1), 3) := by decide +kernel
theorem dX0_countPairs_125 : decode cX0_countPairs 125 = .ok (.goto (-88), 3) := by decide +kernel
theorem dX0_countPairs_128 : decode cX0_countPairs 128 = .ok (.iinc 5 (-1), 3) := by decide +kernel
theorem dX0_countPairs_131 : decode cX0_countPairs 131 = .ok (.goto (-116), 3) := by decide +kernel
theorem dX0_countPairs_134 : decode cX0_countPairs 134 = .ok (.return_, 1) := by decide +kernel
theorem dX0_choosePairs_0 : decode cX0_choosePairs 0 = .ok (.aload_n 0, 1) := by decide +kernel
theorem dX0_choosePairs_1 : decode cX0_choosePairs 1 = .ok (.iconst 0, 1) := by decide +kernel
theorem dX0_choosePairs_2 : decode cX0_choosePairs 2 = .ok (.putfield 23, 3) := by decide +kernel
theorem dX0_choosePairs_5 : decode cX0_choosePairs 5 = .ok (.iconst 0, 1) := by decide +kernel
theorem dX0_choosePairs_6 : decode cX0_choosePairs 6 = .ok (.istore 5, 2) := by decide +kernel
theorem dX0_choosePairs_8 : decode cX0_choosePairs 8 = .ok (.iconst 0, 1) := by decide +kernel
theorem dX0_choosePairs_9 : decode cX0_choosePairs 9 = .ok (.istore 6, 2) := by decide +kernel
theorem dX0_choosePairs_11 : decode cX0_choosePairs 11 = .ok (.iload 6, 2) := by decide +kernel
theorem dX0_choosePairs_13 : decode cX0_choosePairs 13 = .ok (.iload_n 2, 1) := by decide +kernel
theorem dX0_choosePairs_14 : decode cX0_choosePairs 14 = .ok (.if_icmp .ge 121, 3) := by decide +kernel
theorem dX0_choosePairs_17 : decode cX0_choosePairs 17 = .ok (.aload_n 0, 1) := by decide +kernel
theorem dX0_choosePairs_18 : decode cX0_choosePairs 18 = .ok (.getfield 23, 3) := by decide +kernel
theorem dX0_choosePairs_21 : decode cX0_choosePairs 21 = .ok (.bipush 100, 2) := by decide +kernel
theorem dX0_choosePairs_23 : decode cX0_choosePairs 23 = .ok (.if_icmp .ge 112, 3) := by decide +kernel
theorem dX0_choosePairs_26 : decode cX0_choosePairs 26 = .ok (.iload 5, 2) := by decide +kernel
theorem dX0_choosePairs_28 : decode cX0_choosePairs 28 = .ok (.istore 7, 2) := by decide +kernel
theorem dX0_choosePairs_30 : decode cX0_choosePairs 30 = .ok (.iload 7, 2) := by decide +kernel
theorem dX0_choosePairs_32 : decode cX0_choosePairs 32 = .ok (.iload 4, 2) := by decide +kernel
theorem dX0_choosePairs_34 : decode cX0_choosePairs 34 = .ok (.if_icmp .ge 50, 3) := by decide +kernel
theorem dX0_choosePairs_37 : decode cX0_choosePairs 37 = .ok (.aload_n 1, 1) := by decide +kernel
theorem dX0_choosePairs_38 : decode cX0_choosePairs 38 = .ok (.iload 6, 2) := by decide +kernel
theorem dX0_choosePairs_40 : decode cX0_choosePairs 40 = .ok (.aload_n 3, 1) := by decide +kernel
theorem dX0_choosePairs_41 : decode cX0_choosePairs 41 = .ok (.iload 7, 2) := by decide +kernel
theorem dX0_choosePairs_43 : decode cX0_choosePairs 43 = .ok (.invokevirtual 64, 3) := by decide +kernel
theorem dX0_choosePairs_46 : decode cX0_choosePairs 46 = .ok (.ifCond .eq 32, 3) := by decide +kernel
theorem dX0_choosePairs_49 : decode cX0_choosePairs 49 = .ok (.iconst 1, 1) := by decide +kernel
theorem dX0_choosePairs_50 : decode cX0_choosePairs 50 = .ok (.aload_n 0, 1) := by decide +kernel
theorem dX0_choosePairs_51 : decode cX0_choosePairs 51 = .ok (.getfield 11, 3) := by decide +kernel
theorem dX0_choosePairs_54 : decode cX0_choosePairs 54 = .ok (.iload 6, 2) := by decide +kernel
theorem dX0_choosePairs_56 : decode cX0_choosePairs 56 = .ok (.iconst 1, 1) := by decide +kernel
theorem dX0_choosePairs_57 : decode cX0_choosePairs 57 = .ok (.iadd, 1) := by decide +kernel
theorem dX0_choosePairs_58 : decode cX0_choosePairs 58 = .ok (.aaload, 1) := by decide +kernel
theorem dX0_choosePairs_59 : decode cX0_choosePairs 59 = .ok (.iload 7, 2) := by decide +kernel
theorem dX0_choosePairs_61 : decode cX0_choosePairs 61 = .ok (.iconst 1, 1) := by decide +kernel
theorem dX0_choosePairs_62 : decode cX0_choosePairs 62 = .ok (.iadd, 1) := by decide +kernel
theorem dX0_choosePairs_63 : decode cX0_choosePairs 63 = .ok (.iaload, 1) := by decide +kernel
theorem dX0_choosePairs_64 : decode cX0_choosePairs 64 = .ok (.iadd, 1) := by decide +kernel
theorem dX0_choosePairs_65 : decode cX0_choosePairs 65 = .ok (.aload_n 0, 1) := by decide +kernel
theorem dX0_choosePairs_66 : decode cX0_choosePairs 66 = .ok (.getfield 11, 3) := by decide +kernel
theorem dX0_choosePairs_69 : decode cX0_choosePairs 69 = .ok (.iload 6, 2) := by decide +kernel
theorem dX0_choosePairs_71 : decode cX0_choosePairs 71 = .ok (.aaload, 1) := by decide +kernel
theorem dX0_choosePairs_72 : decode cX0_choosePairs 72 = .ok (.iload 5, 2) := by decide +kernel
theorem dX0_choosePairs_74 : decode cX0_choosePairs 74 = .ok (.iaload, 1) := by decide +kernel
theorem dX0_choosePairs_75 : decode cX0_choosePairs 75 = .ok (.if_icmp .eq 9, 3) := by decide +kernel
theorem dX0_choosePairs_78 : decode cX0_choosePairs 78 = .ok (.iinc 7 1, 3) := by decide +kernel
theorem dX0_choosePairs_81 : decode cX0_choosePairs 81 = .ok (.goto (-51), 3) := by decide +kernel
theorem dX0_choosePairs_84 : decode cX0_choosePairs 84 = .ok (.iload 7, 2) := by decide +kernel
theorem dX0_choosePairs_86 : decode cX0_choosePairs 86 = .ok (.iload 4, 2) := by decide +kernel
theorem dX0_choosePairs_88 : decode cX0_choosePairs 88 = .ok (.if_icmp .ge 41, 3) := by decide +kernel
theorem dX0_choosePairs_91 : decode cX0_choosePairs 91 = .ok (.aload_n 0, 1) := by decide +kernel
theorem dX0_choosePairs_92 : decode cX0_choosePairs 92 = .ok (.getfield 16, 3) := by decide +kernel
theorem dX0_choosePairs_95 : decode cX0_choosePairs 95 = .ok (.aload_n 0, 1) := by decide +kernel
theorem dX0_choosePairs_96 : decode cX0_choosePairs 96 = .ok (.getfield 23, 3) := by decide +kernel
theorem dX0_choosePairs_99 : decode cX0_choosePairs 99 = .ok (.iload 6, 2) := by decide +kernel
theorem dX0_choosePairs_101 : decode cX0_choosePairs 101 = .ok (.iastore, 1) := by decide +kernel
theorem dX0_choosePairs_102 : decode cX0_choosePairs 102 = .ok (.aload_n 0, 1) := by decide +kernel
theorem dX0_choosePairs_103 : decode cX0_choosePairs 103 = .ok (.getfield 20, 3) := by decide +kernel
theorem dX0_choosePairs_106 : decode cX0_choosePairs 106 = .ok (.aload_n 0, 1) := by decide +kernel
theorem dX0_choosePairs_107 : decode cX0_choosePairs 107 = .ok (.getfield 23, 3) := by decide +kernel
theorem dX0_choosePairs_110 : decode cX0_choosePairs 110 = .ok (.iload 7, 2) := by decide +kernel
theorem dX0_choosePairs_112 : decode cX0_choosePairs 112 = .ok (.iastore, 1) := by decide +kernel
theorem dX0_choosePairs_113 : decode cX0_choosePairs 113 = .ok (.aload_n 0, 1) := by decide +kernel
theorem dX0_choosePairs_114 : decode cX0_choosePairs 114 = .ok (.dup, 1) := by decide +kernel
theorem dX0_choosePairs_115 : decode cX0_choosePairs 115 = .ok (.getfield 23, 3) := by decide +kernel
theorem dX0_choosePairs_118 : decode cX0_choosePairs 118 = .ok (.iconst 1, 1) := by decide +kernel
theorem dX0_choosePairs_119 : decode cX0_choosePairs 119 = .ok (.iadd, 1) := by decide +kernel
theorem dX0_choosePairs_120 : decode cX0_choosePairs 120 = .ok (.putfield 23, 3) := by decide +kernel
theorem dX0_choosePairs_123 : decode cX0_choosePairs 123 = .ok (.iload 7, 2) := by decide +kernel
theorem dX0_choosePairs_125 : decode cX0_choosePairs 125 = .ok (.iconst 1, 1) := by decide +kernel
theorem dX0_choosePairs_126 : decode cX0_choosePairs 126 = .ok (.iadd, 1) := by decide +kernel
theorem dX0_choosePairs_127 : decode cX0_choosePairs 127 = .ok (.istore 5, 2) := by decide +kernel
theorem dX0_choosePairs_129 : decode cX0_choosePairs 129 = .ok (.iinc 6 1, 3) := by decide +kernel
theorem dX0_choosePairs_132 : decode cX0_choosePairs 132 = .ok (.goto (-121), 3) := by decide +kernel
theorem dX0_choosePairs_135 : decode cX0_choosePairs 135 = .ok (.return_, 1) := by decide +kernel
theorem dX0_firstUnlike_0 : decode cX0_firstUnlike 0 = .ok (.aload_n 0, 1) := by decide +kernel
theorem dX0_firstUnlike_1 : decode cX0_firstUnlike 1 = .ok (.getfield 27, 3) := by decide +kernel
theorem dX0_firstUnlike_4 : decode cX0_firstUnlike 4 = .ok (.iconst (-1), 1) := by decide +kernel
theorem dX0_firstUnlike_5 : decode cX0_firstUnlike 5 = .ok (.invokestatic 55, 3) := by decide +kernel
theorem dX0_firstUnlike_8 : decode cX0_firstUnlike 8 = .ok (.aload_n 0, 1) := by decide +kernel
theorem dX0_firstUnlike_9 : decode cX0_firstUnlike 9 = .ok (.getfield 30, 3) := by decide +kernel
theorem dX0_firstUnlike_12 : decode cX0_firstUnlike 12 = .ok (.iconst (-1), 1) := by decide +kernel
theorem dX0_firstUnlike_13 : decode cX0_firstUnlike 13 = .ok (.invokestatic 55, 3) := by decide +kernel
theorem dX0_firstUnlike_16 : decode cX0_firstUnlike 16 = .ok (.iconst 0, 1) := by decide +kernel
theorem dX0_firstUnlike_17 : decode cX0_firstUnlike 17 = .ok (.istore_n 3, 1) := by decide +kernel
theorem dX0_firstUnlike_18 : decode cX0_firstUnlike 18 = .ok (.iconst 0, 1) := by decide +kernel
theorem dX0_firstUnlike_19 : decode cX0_firstUnlike 19 = .ok (.istore 4, 2) := by decide +kernel
theorem dX0_firstUnlike_21 : decode cX0_firstUnlike 21 = .ok (.aload_n 1, 1) := by decide +kernel
theorem dX0_firstUnlike_22 : decode cX0_firstUnlike 22 = .ok (.getfield 68, 3) := by decide +kernel
theorem dX0_firstUnlike_25 : decode cX0_firstUnlike 25 = .ok (.aload_n 2, 1) := by decide +kernel
theorem dX0_firstUnlike_26 : decode cX0_firstUnlike 26 = .ok (.getfield 68, 3) := by decide +kernel
theorem dX0_firstUnlike_29 : decode cX0_firstUnlike 29 = .ok (.invokestatic 42, 3) := by decide +kernel
theorem dX0_firstUnlike_32 : decode cX0_firstUnlike 32 = .ok (.istore 5, 2) := by decide +kernel
theorem dX0_firstUnlike_34 : decode cX0_firstUnlike 34 = .ok (.iconst 0, 1) := by decide +kernel
theorem dX0_firstUnlike_35 : decode cX0_firstUnlike 35 = .ok (.istore 6, 2) := by decide +kernel
theorem dX0_firstUnlike_37 : decode cX0_firstUnlike 37 = .ok (.iload 6, 2) := by decide +kernel
theorem dX0_firstUnlike_39 : decode cX0_firstUnlike 39 = .ok (.iload 5, 2) := by decide +kernel
theorem dX0_firstUnlike_41 : decode cX0_firstUnlike 41 = .ok (.if_icmp .gt 122, 3) := by decide +kernel
theorem dX0_firstUnlike_44 : decode cX0_firstUnlike 44 = .ok (.aload_n 1, 1) := by decide +kernel
theorem dX0_firstUnlike_45 : decode cX0_firstUnlike 45 = .ok (.getfield 73, 3) := by decide +kernel
theorem dX0_firstUnlike_48 : decode cX0_firstUnlike 48 = .ok (.iload_n 3, 1) := by decide +kernel
theorem dX0_firstUnlike_49 : decode cX0_firstUnlike 49 = .ok (.iload 6, 2) := by decide +kernel
theorem dX0_firstUnlike_51 : decode cX0_firstUnlike 51 = .ok (.aload_n 0, 1) := by decide +kernel
theorem dX0_firstUnlike_52 : decode cX0_firstUnlike 52 = .ok (.getfield 27, 3) := by decide +kernel
theorem dX0_firstUnlike_55 : decode cX0_firstUnlike 55 = .ok (.invokestatic 77, 3) := by decide +kernel
theorem dX0_firstUnlike_58 : decode cX0_firstUnlike 58 = .ok (.istore 7, 2) := by decide +kernel
theorem dX0_firstUnlike_60 : decode cX0_firstUnlike 60 = .ok (.aload_n 2, 1) := by decide +kernel
theorem dX0_firstUnlike_61 : decode cX0_firstUnlike 61 = .ok (.getfield 73, 3) := by decide +kernel
theorem dX0_firstUnlike_64 : decode cX0_firstUnlike 64 = .ok (.iload 4, 2) := by decide +kernel
theorem dX0_firstUnlike_66 : decode cX0_firstUnlike 66 = .ok (.iload 6, 2) := by decide +kernel
theorem dX0_firstUnlike_68 : decode cX0_firstUnlike 68 = .ok (.aload_n 0, 1) := by decide +kernel
theorem dX0_firstUnlike_69 : decode cX0_firstUnlike 69 = .ok (.getfield 30, 3) := by decide +kernel
theorem dX0_firstUnlike_72 : decode cX0_firstUnlike 72 = .ok (.invokestatic 77, 3) := by decide +kernel
theorem dX0_firstUnlike_75 : decode cX0_firstUnlike 75 = .ok (.istore 8, 2) := by decide +kernel
theorem dX0_firstUnlike_77 : decode cX0_firstUnlike 77 = .ok (.aload_n 1, 1) := by decide +kernel
theorem dX0_firstUnlike_78 : decode cX0_firstUnlike 78 = .ok (.iload 6, 2) := by decide +kernel
theorem dX0_firstUnlike_80 : decode cX0_firstUnlike 80 = .ok (.invokevirtual 81, 3) := by decide +kernel
theorem dX0_firstUnlike_83 : decode cX0_firstUnlike 83 = .ok (.aload_n 2, 1) := by decide +kernel
theorem dX0_firstUnlike_84 : decode cX0_firstUnlike 84 = .ok (.iload 6, 2) := by decide +kernel
theorem dX0_firstUnlike_86 : decode cX0_firstUnlike 86 = .ok (.invokevirtual 81, 3) := by decide +kernel
theorem dX0_firstUnlike_89 : decode cX0_firstUnlike 89 = .ok (.if_icmp .ne 58, 3) := by decide +kernel
theorem dX0_firstUnlike_92 : decode cX0_firstUnlike 92 = .ok (.aload_n 1, 1) := by decide +kernel
theorem dX0_firstUnlike_93 : decode cX0_firstUnlike 93 = .ok (.iload 6, 2) := by decide +kernel
theorem dX0_firstUnlike_95 : decode cX0_firstUnlike 95 = .ok (.aload_n 2, 1) := by decide +kernel
theorem dX0_firstUnlike_96 : decode cX0_firstUnlike 96 = .ok (.invokevirtual 85, 3) := by decide +kernel
theorem dX0_firstUnlike_99 : decode cX0_firstUnlike 99 = .ok (.ifCond .eq 48, 3) := by decide +kernel
theorem dX0_firstUnlike_102 : decode cX0_firstUnlike 102 = .ok (.aload_n 0, 1) := by decide +kernel
theorem dX0_firstUnlike_103 : decode cX0_firstUnlike 103 = .ok (.aload_n 1, 1) := by decide +kernel
theorem dX0_firstUnlike_104 : decode cX0_firstUnlike 104 = .ok (.getfield 73, 3) := by decide +kernel
theorem dX0_firstUnlike_107 : decode cX0_firstUnlike 107 = .ok (.iload_n 3, 1) := by decide +kernel
theorem dX0_firstUnlike_108 : decode cX0_firstUnlike 108 = .ok (.iload 7, 2) := by decide +kernel
theorem dX0_firstUnlike_110 : decode cX0_firstUnlike 110 = .ok (.aload_n 1, 1) := by decide +kernel
theorem dX0_firstUnlike_111 : decode cX0_firstUnlike 111 = .ok (.getfield 73, 3) := by decide +kernel
theorem dX0_firstUnlike_114 : decode cX0_firstUnlike 114 = .ok (.aload_n 2, 1) := by decide +kernel
theorem dX0_firstUnlike_115 : decode cX0_firstUnlike 115 = .ok (.getfield 73, 3) := by decide +kernel
theorem dX0_firstUnlike_118 : decode cX0_firstUnlike 118 = .ok (.invokevirtual 89, 3) := by decide +kernel
theorem dX0_firstUnlike_121 : decode cX0_firstUnlike 121 = .ok (.ifCond .ne 26, 3) := by decide +kernel
theorem dX0_firstUnlike_124 : decode cX0_firstUnlike 124 = .ok (.aload_n 0, 1) := by decide +kernel
theorem dX0_firstUnlike_125 : decode cX0_firstUnlike 125 = .ok (.aload_n 2, 1) := by decide +kernel
theorem dX0_firstUnlike_126 : decode cX0_firstUnlike 126 = .ok (.getfield 73, 3) := by decide +kernel
theorem dX0_firstUnlike_129 : decode cX0_firstUnlike 129 = .ok (.iload 4, 2) := by decide +kernel
theorem dX0_firstUnlike_131 : decode cX0_firstUnlike 131 = .ok (.iload 8, 2) := by decide +kernel
theorem dX0_firstUnlike_133 : decode cX0_firstUnlike 133 = .ok (.aload_n 1, 1) := by decide +kernel
theorem dX0_firstUnlike_134 : decode cX0_firstUnlike 134 = .ok (.getfield 73, 3) := by decide +kernel
theorem dX0_firstUnlike_137 : decode cX0_firstUnlike 137 = .ok (.aload_n 2, 1) := by decide +kernel
theorem dX0_firstUnlike_138 : decode cX0_firstUnlike 138 = .ok (.getfield 73, 3) := by decide +kernel
theorem dX0_firstUnlike_141 : decode cX0_firstUnlike 141 = .ok (.invokevirtual 89, 3) := by decide +kernel
theorem dX0_firstUnlike_144 : decode cX0_firstUnlike 144 = .ok (.ifCond .eq 6, 3) := by decide +kernel
theorem dX0_firstUnlike_147 : decode cX0_firstUnlike 147 = .ok (.iload 6, 2) := by decide +kernel
theorem dX0_firstUnlike_149 : decode cX0_firstUnlike 149 = .ok (.ireturn, 1) := by decide +kernel
theorem dX0_firstUnlike_150 : decode cX0_firstUnlike 150 = .ok (.iload 7, 2) := by decide +kernel
theorem dX0_firstUnlike_152 : decode cX0_firstUnlike 152 = .ok (.istore_n 3, 1) := by decide +kernel
theorem dX0_firstUnlike_153 : decode cX0_firstUnlike 153 = .ok (.iload 8, 2) := by decide +kernel
theorem dX0_firstUnlike_155 : decode cX0_firstUnlike 155 = .ok (.istore 4, 2) := by decide +kernel
theorem dX0_firstUnlike_157 : decode cX0_firstUnlike 157 = .ok (.iinc 6 1, 3) := by decide +kernel
theorem dX0_firstUnlike_160 : decode cX0_firstUnlike 160 = .ok (.goto (-123), 3) := by decide +kernel
theorem dX0_firstUnlike_163 : decode cX0_firstUnlike 163 = .ok (.iconst (-1), 1) := by decide +kernel
theorem dX0_firstUnlike_164 : decode cX0_firstUnlike 164 = .ok (.ireturn, 1) := by decide +kernel
theorem dX0_goThrough_0 : decode cX0_goThrough 0 = .ok (.iload_n 1, 1) := by decide +kernel
theorem dX0_goThrough_1 : decode cX0_goThrough 1 = .ok (.istore 4, 2) := by decide +kernel
theorem dX0_goThrough_3 : decode cX0_goThrough 3 = .ok (.iload 4, 2) := by decide +kernel
theorem dX0_goThrough_5 : decode cX0_goThrough 5 = .ok (.aload_n 0, 1) := by decide +kernel
theorem dX0_goThrough_6 : decode cX0_goThrough 6 = .ok (.getfield 93, 3) := by decide +kernel
theorem dX0_goThrough_9 : decode cX0_goThrough 9 = .ok (.if_icmp .ge 45, 3) := by decide +kernel
theorem dX0_goThrough_12 : decode cX0_goThrough 12 = .ok (.aload_n 0, 1) := by decide +kernel
theorem dX0_goThrough_13 : decode cX0_goThrough 13 = .ok (.iload 4, 2) := by decide +kernel
theorem dX0_goThrough_15 : decode cX0_goThrough 15 = .ok (.invokevirtual 96, 3) := by decide +kernel
theorem dX0_goThrough_18 : decode cX0_goThrough 18 = .ok (.iload_n 2, 1) := by decide +kernel
theorem dX0_goThrough_19 : decode cX0_goThrough 19 = .ok (.if_icmp .gt 35, 3) := by decide +kernel
theorem dX0_goThrough_22 : decode cX0_goThrough 22 = .ok (.aload_n 0, 1) := by decide +kernel
theorem dX0_goThrough_23 : decode cX0_goThrough 23 = .ok (.iload 4, 2) := by decide +kernel
theorem dX0_goThrough_25 : decode cX0_goThrough 25 = .ok (.invokevirtual 99, 3) := by decide +kernel
theorem dX0_goThrough_28 : decode cX0_goThrough 28 = .ok (.istore 5, 2) := by decide +kernel
theorem dX0_goThrough_30 : decode cX0_goThrough 30 = .ok (.iload 5, 2) := by decide +kernel
theorem dX0_goThrough_32 : decode cX0_goThrough 32 = .ok (.ifCond .lt 16, 3) := by decide +kernel
theorem dX0_goThrough_35 : decode cX0_goThrough 35 = .ok (.iload 5, 2) := by decide +kernel
theorem dX0_goThrough_37 : decode cX0_goThrough 37 = .ok (.aload_n 3, 1) := by decide +kernel
theorem dX0_goThrough_38 : decode cX0_goThrough 38 = .ok (.arraylength, 1) := by decide +kernel
theorem dX0_goThrough_39 : decode cX0_goThrough 39 = .ok (.if_icmp .ge 9, 3) := by decide +kernel
theorem dX0_goThrough_42 : decode cX0_goThrough 42 = .ok (.aload_n 3, 1) := by decide +kernel
theorem dX0_goThrough_43 : decode cX0_goThrough 43 = .ok (.iload 5, 2) := by decide +kernel
theorem dX0_goThrough_45 : decode cX0_goThrough 45 = .ok (.iload 4, 2) := by decide +kernel
theorem dX0_goThrough_47 : decode cX0_goThrough 47 = .ok (.iastore, 1) := by decide +kernel
theorem dX0_goThrough_48 : decode cX0_goThrough 48 = .ok (.iinc 4 1, 3) := by decide +kernel
theorem dX0_goThrough_51 : decode cX0_goThrough 51 = .ok (.goto (-48), 3) := by decide +kernel
theorem dX0_goThrough_54 : decode cX0_goThrough 54 = .ok (.iload 4, 2) := by decide +kernel
theorem dX0_goThrough_56 : decode cX0_goThrough 56 = .ok (.ireturn, 1) := by decide +kernel
theorem dX0_areUnlike_0 : decode cX0_areUnlike 0 = .ok (.iload_n 2, 1) := by decide +kernel
theorem dX0_areUnlike_1 : decode cX0_areUnlike 1 = .ok (.istore 6, 2) := by decide +kernel
theorem dX0_areUnlike_3 : decode cX0_areUnlike 3 = .ok (.iload 6, 2) := by decide +kernel
theorem dX0_areUnlike_5 : decode cX0_areUnlike 5 = .ok (.iload_n 3, 1) := by decide +kernel
theorem dX0_areUnlike_6 : decode cX0_areUnlike 6 = .ok (.if_icmp .ge 65, 3) := by decide +kernel
theorem dX0_areUnlike_9 : decode cX0_areUnlike 9 = .ok (.aload_n 1, 1) := by decide +kernel
theorem dX0_areUnlike_10 : decode cX0_areUnlike 10 = .ok (.iload 6, 2) := by decide +kernel
theorem dX0_areUnlike_12 : decode cX0_areUnlike 12 = .ok (.invokevirtual 99, 3) := by decide +kernel
theorem dX0_areUnlike_15 : decode cX0_areUnlike 15 = .ok (.istore 7, 2) := by decide +kernel
theorem dX0_areUnlike_17 : decode cX0_areUnlike 17 = .ok (.iload 7, 2) := by decide +kernel
theorem dX0_areUnlike_19 : decode cX0_areUnlike 19 = .ok (.invokestatic 102, 3) := by decide +kernel
theorem dX0_areUnlike_22 : decode cX0_areUnlike 22 = .ok (.ifCond .eq 43, 3) := by decide +kernel
theorem dX0_areUnlike_25 : decode cX0_areUnlike 25 = .ok (.aload_n 0, 1) := by decide +kernel
theorem dX0_areUnlike_26 : decode cX0_areUnlike 26 = .ok (.getfield 30, 3) := by decide +kernel
theorem dX0_areUnlike_29 : decode cX0_areUnlike 29 = .ok (.iload 7, 2) := by decide +kernel
theorem dX0_areUnlike_31 : decode cX0_areUnlike 31 = .ok (.iaload, 1) := by decide +kernel
theorem dX0_areUnlike_32 : decode cX0_areUnlike 32 = .ok (.istore 8, 2) := by decide +kernel
theorem dX0_areUnlike_34 : decode cX0_areUnlike 34 = .ok (.aload 4, 2) := by decide +kernel
theorem dX0_areUnlike_36 : decode cX0_areUnlike 36 = .ok (.aload_n 0, 1) := by decide +kernel
theorem dX0_areUnlike_37 : decode cX0_areUnlike 37 = .ok (.getfield 27, 3) := by decide +kernel
theorem dX0_areUnlike_40 : decode cX0_areUnlike 40 = .ok (.iload 7, 2) := by decide +kernel
theorem dX0_areUnlike_42 : decode cX0_areUnlike 42 = .ok (.iaload, 1) := by decide +kernel
theorem dX0_areUnlike_43 : decode cX0_areUnlike 43 = .ok (.aload 5, 2) := by decide +kernel
theorem dX0_areUnlike_45 : decode cX0_areUnlike 45 = .ok (.iload 8, 2) := by decide +kernel
theorem dX0_areUnlike_47 : decode cX0_areUnlike 47 = .ok (.invokevirtual 105, 3) := by decide +kernel
theorem dX0_areUnlike_50 : decode cX0_areUnlike 50 = .ok (.aload 5, 2) := by decide +kernel
theorem dX0_areUnlike_52 : decode cX0_areUnlike 52 = .ok (.iload 8, 2) := by decide +kernel
theorem dX0_areUnlike_54 : decode cX0_areUnlike 54 = .ok (.invokevirtual 108, 3) := by decide +kernel
theorem dX0_areUnlike_57 : decode cX0_areUnlike 57 = .ok (.invokevirtual 111, 3) := by decide +kernel
theorem dX0_areUnlike_60 : decode cX0_areUnlike 60 = .ok (.ifCond .ne 5, 3) := by decide +kernel
theorem dX0_areUnlike_63 : decode cX0_areUnlike 63 = .ok (.iconst 1, 1) := by decide +kernel
theorem dX0_areUnlike_64 : decode cX0_areUnlike 64 = .ok (.ireturn, 1) := by decide +kernel
theorem dX0_areUnlike_65 : decode cX0_areUnlike 65 = .ok (.iinc 6 1, 3) := by decide +kernel
theorem dX0_areUnlike_68 : decode cX0_areUnlike 68 = .ok (.goto (-65), 3) := by decide +kernel
theorem dX0_areUnlike_71 : decode cX0_areUnlike 71 = .ok (.iconst 0, 1) := by decide +kernel
theorem dX0_areUnlike_72 : decode cX0_areUnlike 72 = .ok (.ireturn, 1) := by decide +kernel
theorem dX1_init_0 : decode cX1_init 0 = .ok (.aload_n 0, 1) := by decide +kernel
theorem dX1_init_1 : decode cX1_init 1 = .ok (.invokespecial 3, 3) := by decide +kernel
theorem dX1_init_4 : decode cX1_init 4 = .ok (.aload_n 0, 1) := by decide +kernel
theorem dX1_init_5 : decode cX1_init 5 = .ok (.iconst 0, 1) := by decide +kernel
theorem dX1_init_6 : decode cX1_init 6 = .ok (.putfield 9, 3) := by decide +kernel
theorem dX1_init_9 : decode cX1_init 9 = .ok (.aload_n 0, 1) := by decide +kernel
theorem dX1_init_10 : decode cX1_init 10 = .ok (.bipush 100, 2) := by decide +kernel
theorem dX1_init_12 : decode cX1_init 12 = .ok (.newarray .int, 2) := by decide +kernel
theorem dX1_init_14 : decode cX1_init 14 = .ok (.putfield 15, 3) := by decide +kernel
theorem dX1_init_17 : decode cX1_init 17 = .ok (.aload_n 0, 1) := by decide +kernel
theorem dX1_init_18 : decode cX1_init 18 = .ok (.bipush 100, 2) := by decide +kernel
theorem dX1_init_20 : decode cX1_init 20 = .ok (.newarray .int, 2) := by decide +kernel
theorem dX1_init_22 : decode cX1_init 22 = .ok (.putfield 19, 3) := by decide +kernel
theorem dX1_init_25 : decode cX1_init 25 = .ok (.aload_n 0, 1) := by decide +kernel
theorem dX1_init_26 : decode cX1_init 26 = .ok (.bipush 100, 2) := by decide +kernel
theorem dX1_init_28 : decode cX1_init 28 = .ok (.newarray .int, 2) := by decide +kernel
theorem dX1_init_30 : decode cX1_init 30 = .ok (.putfield 22, 3) := by decide +kernel
theorem dX1_init_33 : decode cX1_init 33 = .ok (.return_, 1) := by decide +kernel
theorem dX1_init__0 : decode cX1_init_ 0 = .ok (.aload_n 0, 1) := by decide +kernel
theorem dX1_init__1 : decode cX1_init_ 1 = .ok (.invokespecial 3, 3) := by decide +kernel
theorem dX1_init__4 : decode cX1_init_ 4 = .ok (.aload_n 0, 1) := by decide +kernel
theorem dX1_init__5 : decode cX1_init_ 5 = .ok (.iconst 0, 1) := by decide +kernel
theorem dX1_init__6 : decode cX1_init_ 6 = .ok (.putfield 9, 3) := by decide +kernel
theorem dX1_init__9 : decode cX1_init_ 9 = .ok (.aload_n 0, 1) := by decide +kernel
theorem dX1_init__10 : decode cX1_init_ 10 = .ok (.aload_n 1, 1) := by decide +kernel
theorem dX1_init__11 : decode cX1_init_ 11 = .ok (.getfield 15, 3) := by decide +kernel
theorem dX1_init__14 : decode cX1_init_ 14 = .ok (.invokevirtual 25, 3) := by decide +kernel
theorem dX1_init__17 : decode cX1_init_ 17 = .ok (.checkcast 26, 3) := by decide +kernel
theorem dX1_init__20 : decode cX1_init_ 20 = .ok (.putfield 15, 3) := by decide +kernel
theorem dX1_init__23 : decode cX1_init_ 23 = .ok (.aload_n 0, 1) := by decide +kernel
theorem dX1_init__24 : decode cX1_init_ 24 = .ok (.aload_n 1, 1) := by decide +kernel
theorem dX1_init__25 : decode cX1_init_ 25 = .ok (.getfield 19, 3) := by decide +kernel
theorem dX1_init__28 : decode cX1_init_ 28 = .ok (.invokevirtual 25, 3) := by decide +kernel
theorem dX1_init__31 : decode cX1_init_ 31 = .ok (.checkcast 26, 3) := by decide +kernel
theorem dX1_init__34 : decode cX1_init_ 34 = .ok (.putfield 19, 3) := by decide +kernel
theorem dX1_init__37 : decode cX1_init_ 37 = .ok (.aload_n 0, 1) := by decide +kernel
theorem dX1_init__38 : decode cX1_init_ 38 = .ok (.aload_n 1, 1) := by decide +kernel
theorem dX1_init__39 : decode cX1_init_ 39 = .ok (.getfield 22, 3) := by decide +kernel
theorem dX1_init__42 : decode cX1_init_ 42 = .ok (.invokevirtual 25, 3) := by decide +kernel
theorem dX1_init__45 : decode cX1_init_ 45 = .ok (.checkcast 26, 3) := by decide +kernel
theorem dX1_init__48 : decode cX1_init_ 48 = .ok (.putfield 22, 3) := by decide +kernel
theorem dX1_init__51 : decode cX1_init_ 51 = .ok (.aload_n 0, 1) := by decide +kernel
theorem dX1_init__52 : decode cX1_init_ 52 = .ok (.aload_n 1, 1) := by decide +kernel
theorem dX1_init__53 : decode cX1_init_ 53 = .ok (.getfield 9, 3) := by decide +kernel
theorem dX1_init__56 : decode cX1_init_ 56 = .ok (.putfield 9, 3) := by decide +kernel
theorem dX1_init__59 : decode cX1_init_ 59 = .ok (.return_, 1) := by decide +kernel
theorem dX1_has_0 : decode cX1_has 0 = .ok (.iload_n 1, 1) := by decide +kernel
theorem dX1_has_1 : decode cX1_has 1 = .ok (.ifCond .lt 21, 3) := by decide +kernel
theorem dX1_has_4 : decode cX1_has 4 = .ok (.iload_n 1, 1) := by decide +kernel
theorem dX1_has_5 : decode cX1_has 5 = .ok (.aload_n 0, 1) := by decide +kernel
theorem dX1_has_6 : decode cX1_has 6 = .ok (.getfield 9, 3) := by decide +kernel
theorem dX1_has_9 : decode cX1_has 9 = .ok (.if_icmp .ge 13, 3) := by decide +kernel
theorem dX1_has_12 : decode cX1_has 12 = .ok (.iload_n 1, 1) := by decide +kernel
theorem dX1_has_13 : decode cX1_has 13 = .ok (.bipush 100, 2) := by decide +kernel
theorem dX1_has_15 : decode cX1_has 15 = .ok (.if_icmp .ge 7, 3) := by decide +kernel
theorem dX1_has_18 : decode cX1_has 18 = .ok (.iconst 1, 1) := by decide +kernel
theorem dX1_has_19 : decode cX1_has 19 = .ok (.goto 4, 3) := by decide +kernel
theorem dX1_has_22 : decode cX1_has 22 = .ok (.iconst 0, 1) := by decide +kernel
theorem dX1_has_23 : decode cX1_has 23 = .ok (.ireturn, 1) := by decide +kernel
theorem dX1_add_0 : decode cX1_add 0 = .ok (.aload_n 0, 1) := by decide +kernel
theorem dX1_add_1 : decode cX1_add 1 = .ok (.getfield 9, 3) := by decide +kernel
theorem dX1_add_4 : decode cX1_add 4 = .ok (.ifCond .lt 52, 3) := by decide +kernel
theorem dX1_add_7 : decode cX1_add 7 = .ok (.aload_n 0, 1) := by decide +kernel
theorem dX1_add_8 : decode cX1_add 8 = .ok (.getfield 9, 3) := by decide +kernel
theorem dX1_add_11 : decode cX1_add 11 = .ok (.bipush 100, 2) := by decide +kernel
theorem dX1_add_13 : decode cX1_add 13 = .ok (.if_icmp .ge 43, 3) := by decide +kernel
theorem dX1_add_16 : decode cX1_add 16 = .ok (.aload_n 0, 1) := by decide +kernel
theorem dX1_add_17 : decode cX1_add 17 = .ok (.getfield 15, 3) := by decide +kernel
theorem dX1_add_20 : decode cX1_add 20 = .ok (.aload_n 0, 1) := by decide +kernel
theorem dX1_add_21 : decode cX1_add 21 = .ok (.getfield 9, 3) := by decide +kernel
theorem dX1_add_24 : decode cX1_add 24 = .ok (.iload_n 1, 1) := by decide +kernel
theorem dX1_add_25 : decode cX1_add 25 = .ok (.iastore, 1) := by decide +kernel
theorem dX1_add_26 : decode cX1_add 26 = .ok (.aload_n 0, 1) := by decide +kernel
theorem dX1_add_27 : decode cX1_add 27 = .ok (.getfield 19, 3) := by decide +kernel
theorem dX1_add_30 : decode cX1_add 30 = .ok (.aload_n 0, 1) := by decide +kernel
theorem dX1_add_31 : decode cX1_add 31 = .ok (.getfield 9, 3) := by decide +kernel
theorem dX1_add_34 : decode cX1_add 34 = .ok (.iload_n 2, 1) := by decide +kernel
theorem dX1_add_35 : decode cX1_add 35 = .ok (.iastore, 1) := by decide +kernel
theorem dX1_add_36 : decode cX1_add 36 = .ok (.aload_n 0, 1) := by decide +kernel
theorem dX1_add_37 : decode cX1_add 37 = .ok (.getfield 22, 3) := by decide +kernel
theorem dX1_add_40 : decode cX1_add 40 = .ok (.aload_n 0, 1) := by decide +kernel
theorem dX1_add_41 : decode cX1_add 41 = .ok (.getfield 9, 3) := by decide +kernel
theorem dX1_add_44 : decode cX1_add 44 = .ok (.iload_n 3, 1) := by decide +kernel
theorem dX1_add_45 : decode cX1_add 45 = .ok (.iastore, 1) := by decide +kernel
theorem dX1_add_46 : decode cX1_add 46 = .ok (.aload_n 0, 1) := by decide +kernel
theorem dX1_add_47 : decode cX1_add 47 = .ok (.dup, 1) := by decide +kernel
theorem dX1_add_48 : decode cX1_add 48 = .ok (.getfield 9, 3) := by decide +kernel
theorem dX1_add_51 : decode cX1_add 51 = .ok (.iconst 1, 1) := by decide +kernel
theorem dX1_add_52 : decode cX1_add 52 = .ok (.iadd, 1) := by decide +kernel
theorem dX1_add_53 : decode cX1_add 53 = .ok (.putfield 9, 3) := by decide +kernel
theorem dX1_add_56 : decode cX1_add 56 = .ok (.return_, 1) := by decide +kernel
theorem dX1_read_0 : decode cX1_read 0 = .ok (.aload_n 0, 1) := by decide +kernel
theorem dX1_read_1 : decode cX1_read 1 = .ok (.iload_n 1, 1) := by decide +kernel
theorem dX1_read_2 : decode cX1_read 2 = .ok (.invokevirtual 30, 3) := by decide +kernel
theorem dX1_read_5 : decode cX1_read 5 = .ok (.ifCond .ne 5, 3) := by decide +kernel
theorem dX1_read_8 : decode cX1_read 8 = .ok (.iconst (-1), 1) := by decide +kernel
theorem dX1_read_9 : decode cX1_read 9 = .ok (.ireturn, 1) := by decide +kernel
theorem dX1_read_10 : decode cX1_read 10 = .ok (.iload_n 2, 1) := by decide +kernel
theorem dX1_read_11 : decode cX1_read 11 = .ok (.tableswitch 46 0 2 #[25, 32, 39], 25) := by decide +kernel
theorem dX1_read_36 : decode cX1_read 36 = .ok (.aload_n 0, 1) := by decide +kernel
theorem dX1_read_37 : decode cX1_read 37 = .ok (.getfield 15, 3) := by decide +kernel
theorem dX1_read_40 : decode cX1_read 40 = .ok (.iload_n 1, 1) := by decide +kernel
theorem dX1_read_41 : decode cX1_read 41 = .ok (.iaload, 1) := by decide +kernel
theorem dX1_read_42 : decode cX1_read 42 = .ok (.ireturn, 1) := by decide +kernel
theorem dX1_read_43 : decode cX1_read 43 = .ok (.aload_n 0, 1) := by decide +kernel
theorem dX1_read_44 : decode cX1_read 44 = .ok (.getfield 19, 3) := by decide +kernel
theorem dX1_read_47 : decode cX1_read 47 = .ok (.iload_n 1, 1) := by decide +kernel
theorem dX1_read_48 : decode cX1_read 48 = .ok (.iaload, 1) := by decide +kernel
theorem dX1_read_49 : decode cX1_read 49 = .ok (.ireturn, 1) := by decide +kernel
theorem dX1_read_50 : decode cX1_read 50 = .ok (.aload_n 0, 1) := by decide +kernel
theorem dX1_read_51 : decode cX1_read 51 = .ok (.getfield 22, 3) := by decide +kernel
theorem dX1_read_54 : decode cX1_read 54 = .ok (.iload_n 1, 1) := by decide +kernel
theorem dX1_read_55 : decode cX1_read 55 = .ok (.iaload, 1) := by decide +kernel
theorem dX1_read_56 : decode cX1_read 56 = .ok (.ireturn, 1) := by decide +kernel
theorem dX1_read_57 : decode cX1_read 57 = .ok (.iconst (-1), 1) := by decide +kernel
theorem dX1_read_58 : decode cX1_read 58 = .ok (.ireturn, 1) := by decide +kernel
theorem dX1_dropFrom_0 : decode cX1_dropFrom 0 = .ok (.aload_n 0, 1) := by decide +kernel
theorem dX1_dropFrom_1 : decode cX1_dropFrom 1 = .ok (.getfield 9, 3) := by decide +kernel
theorem dX1_dropFrom_4 : decode cX1_dropFrom 4 = .ok (.iconst 1, 1) := by decide +kernel
theorem dX1_dropFrom_5 : decode cX1_dropFrom 5 = .ok (.isub, 1) := by decide +kernel
theorem dX1_dropFrom_6 : decode cX1_dropFrom 6 = .ok (.istore_n 2, 1) := by decide +kernel
theorem dX1_dropFrom_7 : decode cX1_dropFrom 7 = .ok (.iload_n 2, 1) := by decide +kernel
theorem dX1_dropFrom_8 : decode cX1_dropFrom 8 = .ok (.ifCond .lt 32, 3) := by decide +kernel
theorem dX1_dropFrom_11 : decode cX1_dropFrom 11 = .ok (.aload_n 0, 1) := by decide +kernel
theorem dX1_dropFrom_12 : decode cX1_dropFrom 12 = .ok (.iload_n 2, 1) := by decide +kernel
theorem dX1_dropFrom_13 : decode cX1_dropFrom 13 = .ok (.invokevirtual 30, 3) := by decide +kernel
theorem dX1_dropFrom_16 : decode cX1_dropFrom 16 = .ok (.ifCond .eq 24, 3) := by decide +kernel
theorem dX1_dropFrom_19 : decode cX1_dropFrom 19 = .ok (.aload_n 0, 1) := by decide +kernel
theorem dX1_dropFrom_20 : decode cX1_dropFrom 20 = .ok (.getfield 15, 3) := by decide +kernel
theorem dX1_dropFrom_23 : decode cX1_dropFrom 23 = .ok (.iload_n 2, 1) := by decide +kernel
theorem dX1_dropFrom_24 : decode cX1_dropFrom 24 = .ok (.iaload, 1) := by decide +kernel
theorem dX1_dropFrom_25 : decode cX1_dropFrom 25 = .ok (.iload_n 1, 1) := by decide +kernel
theorem dX1_dropFrom_26 : decode cX1_dropFrom 26 = .ok (.if_icmp .lt 14, 3) := by decide +kernel
theorem dX1_dropFrom_29 : decode cX1_dropFrom 29 = .ok (.aload_n 0, 1) := by decide +kernel
theorem dX1_dropFrom_30 : decode cX1_dropFrom 30 = .ok (.iload_n 2, 1) := by decide +kernel
theorem dX1_dropFrom_31 : decode cX1_dropFrom 31 = .ok (.putfield 9, 3) := by decide +kernel
theorem dX1_dropFrom_34 : decode cX1_dropFrom 34 = .ok (.iinc 2 (-1), 3) := by decide +kernel
theorem dX1_dropFrom_37 : decode cX1_dropFrom 37 = .ok (.goto (-30), 3) := by decide +kernel
theorem dX1_dropFrom_40 : decode cX1_dropFrom 40 = .ok (.return_, 1) := by decide +kernel
theorem dX1_isLike_0 : decode cX1_isLike 0 = .ok (.aload_n 0, 1) := by decide +kernel
theorem dX1_isLike_1 : decode cX1_isLike 1 = .ok (.iload_n 1, 1) := by decide +kernel
theorem dX1_isLike_2 : decode cX1_isLike 2 = .ok (.invokevirtual 30, 3) := by decide +kernel
theorem dX1_isLike_5 : decode cX1_isLike 5 = .ok (.ifCond .eq 45, 3) := by decide +kernel
theorem dX1_isLike_8 : decode cX1_isLike 8 = .ok (.aload_n 2, 1) := by decide +kernel
theorem dX1_isLike_9 : decode cX1_isLike 9 = .ok (.iload_n 3, 1) := by decide +kernel
theorem dX1_isLike_10 : decode cX1_isLike 10 = .ok (.invokevirtual 30, 3) := by decide +kernel
theorem dX1_isLike_13 : decode cX1_isLike 13 = .ok (.ifCond .eq 37, 3) := by decide +kernel
theorem dX1_isLike_16 : decode cX1_isLike 16 = .ok (.aload_n 0, 1) := by decide +kernel
theorem dX1_isLike_17 : decode cX1_isLike 17 = .ok (.getfield 19, 3) := by decide +kernel
theorem dX1_isLike_20 : decode cX1_isLike 20 = .ok (.iload_n 1, 1) := by decide +kernel
theorem dX1_isLike_21 : decode cX1_isLike 21 = .ok (.iaload, 1) := by decide +kernel
theorem dX1_isLike_22 : decode cX1_isLike 22 = .ok (.aload_n 2, 1) := by decide +kernel
theorem dX1_isLike_23 : decode cX1_isLike 23 = .ok (.getfield 19, 3) := by decide +kernel
theorem dX1_isLike_26 : decode cX1_isLike 26 = .ok (.iload_n 3, 1) := by decide +kernel
theorem dX1_isLike_27 : decode cX1_isLike 27 = .ok (.iaload, 1) := by decide +kernel
theorem dX1_isLike_28 : decode cX1_isLike 28 = .ok (.if_icmp .ne 22, 3) := by decide +kernel
theorem dX1_isLike_31 : decode cX1_isLike 31 = .ok (.aload_n 0, 1) := by decide +kernel
theorem dX1_isLike_32 : decode cX1_isLike 32 = .ok (.getfield 22, 3) := by decide +kernel
theorem dX1_isLike_35 : decode cX1_isLike 35 = .ok (.iload_n 1, 1) := by decide +kernel
theorem dX1_isLike_36 : decode cX1_isLike 36 = .ok (.iaload, 1) := by decide +kernel
theorem dX1_isLike_37 : decode cX1_isLike 37 = .ok (.aload_n 2, 1) := by decide +kernel
theorem dX1_isLike_38 : decode cX1_isLike 38 = .ok (.getfield 22, 3) := by decide +kernel
theorem dX1_isLike_41 : decode cX1_isLike 41 = .ok (.iload_n 3, 1) := by decide +kernel
theorem dX1_isLike_42 : decode cX1_isLike 42 = .ok (.iaload, 1) := by decide +kernel
theorem dX1_isLike_43 : decode cX1_isLike 43 = .ok (.if_icmp .ne 7, 3) := by decide +kernel
theorem dX1_isLike_46 : decode cX1_isLike 46 = .ok (.iconst 1, 1) := by decide +kernel
theorem dX1_isLike_47 : decode cX1_isLike 47 = .ok (.goto 4, 3) := by decide +kernel
theorem dX1_isLike_50 : decode cX1_isLike 50 = .ok (.iconst 0, 1) := by decide +kernel
theorem dX1_isLike_51 : decode cX1_isLike 51 = .ok (.ireturn, 1) := by decide +kernel
theorem dX2_init_0 : decode cX2_init 0 = .ok (.aload_n 0, 1) := by decide +kernel
theorem dX2_init_1 : decode cX2_init 1 = .ok (.invokespecial 3, 3) := by decide +kernel
theorem dX2_init_4 : decode cX2_init 4 = .ok (.aload_n 0, 1) := by decide +kernel
theorem dX2_init_5 : decode cX2_init 5 = .ok (.iconst 0, 1) := by decide +kernel
theorem dX2_init_6 : decode cX2_init 6 = .ok (.putfield 9, 3) := by decide +kernel
theorem dX2_init_9 : decode cX2_init 9 = .ok (.aload_n 0, 1) := by decide +kernel
theorem dX2_init_10 : decode cX2_init 10 = .ok (.iconst 0, 1) := by decide +kernel
theorem dX2_init_11 : decode cX2_init 11 = .ok (.putfield 15, 3) := by decide +kernel
theorem dX2_init_14 : decode cX2_init 14 = .ok (.aload_n 0, 1) := by decide +kernel
theorem dX2_init_15 : decode cX2_init 15 = .ok (.iconst 1, 1) := by decide +kernel
theorem dX2_init_16 : decode cX2_init 16 = .ok (.putfield 18, 3) := by decide +kernel
theorem dX2_init_19 : decode cX2_init 19 = .ok (.aload_n 0, 1) := by decide +kernel
theorem dX2_init_20 : decode cX2_init 20 = .ok (.iconst 1, 1) := by decide +kernel
theorem dX2_init_21 : decode cX2_init 21 = .ok (.putfield 21, 3) := by decide +kernel
theorem dX2_init_24 : decode cX2_init 24 = .ok (.aload_n 0, 1) := by decide +kernel
theorem dX2_init_25 : decode cX2_init 25 = .ok (.bipush 64, 2) := by decide +kernel
theorem dX2_init_27 : decode cX2_init 27 = .ok (.newarray .int, 2) := by decide +kernel
theorem dX2_init_29 : decode cX2_init 29 = .ok (.putfield 24, 3) := by decide +kernel
theorem dX2_init_32 : decode cX2_init 32 = .ok (.return_, 1) := by decide +kernel
theorem dX2_init__0 : decode cX2_init_ 0 = .ok (.aload_n 0, 1) := by decide +kernel
theorem dX2_init__1 : decode cX2_init_ 1 = .ok (.invokespecial 3, 3) := by decide +kernel
theorem dX2_init__4 : decode cX2_init_ 4 = .ok (.aload_n 0, 1) := by decide +kernel
theorem dX2_init__5 : decode cX2_init_ 5 = .ok (.iconst 0, 1) := by decide +kernel
theorem dX2_init__6 : decode cX2_init_ 6 = .ok (.putfield 9, 3) := by decide +kernel
theorem dX2_init__9 : decode cX2_init_ 9 = .ok (.aload_n 0, 1) := by decide +kernel
theorem dX2_init__10 : decode cX2_init_ 10 = .ok (.iconst 0, 1) := by decide +kernel
theorem dX2_init__11 : decode cX2_init_ 11 = .ok (.putfield 15, 3) := by decide +kernel
theorem dX2_init__14 : decode cX2_init_ 14 = .ok (.aload_n 0, 1) := by decide +kernel
theorem dX2_init__15 : decode cX2_init_ 15 = .ok (.iconst 1, 1) := by decide +kernel
theorem dX2_init__16 : decode cX2_init_ 16 = .ok (.putfield 18, 3) := by decide +kernel
theorem dX2_init__19 : decode cX2_init_ 19 = .ok (.aload_n 0, 1) := by decide +kernel
theorem dX2_init__20 : decode cX2_init_ 20 = .ok (.iconst 1, 1) := by decide +kernel
theorem dX2_init__21 : decode cX2_init_ 21 = .ok (.putfield 21, 3) := by decide +kernel
theorem dX2_init__24 : decode cX2_init_ 24 = .ok (.aload_n 0, 1) := by decide +kernel
theorem dX2_init__25 : decode cX2_init_ 25 = .ok (.aload_n 1, 1) := by decide +kernel
theorem dX2_init__26 : decode cX2_init_ 26 = .ok (.getfield 24, 3) := by decide +kernel
theorem dX2_init__29 : decode cX2_init_ 29 = .ok (.invokevirtual 28, 3) := by decide +kernel
theorem dX2_init__32 : decode cX2_init_ 32 = .ok (.checkcast 29, 3) := by decide +kernel
theorem dX2_init__35 : decode cX2_init_ 35 = .ok (.putfield 24, 3) := by decide +kernel
theorem dX2_init__38 : decode cX2_init_ 38 = .ok (.aload_n 0, 1) := by decide +kernel
theorem dX2_init__39 : decode cX2_init_ 39 = .ok (.aload_n 1, 1) := by decide +kernel
theorem dX2_init__40 : decode cX2_init_ 40 = .ok (.getfield 9, 3) := by decide +kernel
theorem dX2_init__43 : decode cX2_init_ 43 = .ok (.putfield 9, 3) := by decide +kernel
theorem dX2_init__46 : decode cX2_init_ 46 = .ok (.aload_n 0, 1) := by decide +kernel
theorem dX2_init__47 : decode cX2_init_ 47 = .ok (.aload_n 1, 1) := by decide +kernel
theorem dX2_init__48 : decode cX2_init_ 48 = .ok (.getfield 15, 3) := by decide +kernel
theorem dX2_init__51 : decode cX2_init_ 51 = .ok (.putfield 15, 3) := by decide +kernel
theorem dX2_init__54 : decode cX2_init_ 54 = .ok (.aload_n 0, 1) := by decide +kernel
theorem dX2_init__55 : decode cX2_init_ 55 = .ok (.aload_n 1, 1) := by decide +kernel
theorem dX2_init__56 : decode cX2_init_ 56 = .ok (.getfield 18, 3) := by decide +kernel
theorem dX2_init__59 : decode cX2_init_ 59 = .ok (.putfield 18, 3) := by decide +kernel
theorem dX2_init__62 : decode cX2_init_ 62 = .ok (.aload_n 0, 1) := by decide +kernel
theorem dX2_init__63 : decode cX2_init_ 63 = .ok (.aload_n 1, 1) := by decide +kernel
theorem dX2_init__64 : decode cX2_init_ 64 = .ok (.getfield 21, 3) := by decide +kernel
theorem dX2_init__67 : decode cX2_init_ 67 = .ok (.putfield 21, 3) := by decide +kernel
theorem dX2_init__70 : decode cX2_init_ 70 = .ok (.return_, 1) := by decide +kernel
theorem dX2_start_0 : decode cX2_start 0 = .ok (.aload_n 0, 1) := by decide +kernel
theorem dX2_start_1 : decode cX2_start 1 = .ok (.iload_n 1, 1) := by decide +kernel
theorem dX2_start_2 : decode cX2_start 2 = .ok (.putfield 18, 3) := by decide +kernel
theorem dX2_start_5 : decode cX2_start 5 = .ok (.aload_n 0, 1) := by decide +kernel
theorem dX2_start_6 : decode cX2_start 6 = .ok (.iload_n 2, 1) := by decide +kernel
theorem dX2_start_7 : decode cX2_start 7 = .ok (.putfield 21, 3) := by decide +kernel
theorem dX2_start_10 : decode cX2_start 10 = .ok (.aload_n 0, 1) := by decide +kernel
theorem dX2_start_11 : decode cX2_start 11 = .ok (.getfield 24, 3) := by decide +kernel
theorem dX2_start_14 : decode cX2_start 14 = .ok (.iconst 0, 1) := by decide +kernel
theorem dX2_start_15 : decode cX2_start 15 = .ok (.iconst 0, 1) := by decide +kernel
theorem dX2_start_16 : decode cX2_start 16 = .ok (.iastore, 1) := by decide +kernel
theorem dX2_start_17 : decode cX2_start 17 = .ok (.aload_n 0, 1) := by decide +kernel
theorem dX2_start_18 : decode cX2_start 18 = .ok (.iconst 1, 1) := by decide +kernel
theorem dX2_start_19 : decode cX2_start 19 = .ok (.putfield 9, 3) := by decide +kernel
theorem dX2_start_22 : decode cX2_start 22 = .ok (.aload_n 0, 1) := by decide +kernel
theorem dX2_start_23 : decode cX2_start 23 = .ok (.iconst 1, 1) := by decide +kernel
theorem dX2_start_24 : decode cX2_start 24 = .ok (.putfield 15, 3) := by decide +kernel
theorem dX2_start_27 : decode cX2_start 27 = .ok (.return_, 1) := by decide +kernel
theorem dX2_goesWith_0 : decode cX2_goesWith 0 = .ok (.iload_n 0, 1) := by decide +kernel
theorem dX2_goesWith_1 : decode cX2_goesWith 1 = .ok (.iload_n 1, 1) := by decide +kernel
theorem dX2_goesWith_2 : decode cX2_goesWith 2 = .ok (.iload_n 0, 1) := by decide +kernel
theorem dX2_goesWith_3 : decode cX2_goesWith 3 = .ok (.iload_n 0, 1) := by decide +kernel
theorem dX2_goesWith_4 : decode cX2_goesWith 4 = .ok (.ineg, 1) := by decide +kernel
theorem dX2_goesWith_5 : decode cX2_goesWith 5 = .ok (.iand, 1) := by decide +kernel
theorem dX2_goesWith_6 : decode cX2_goesWith 6 = .ok (.imul, 1) := by decide +kernel
theorem dX2_goesWith_7 : decode cX2_goesWith 7 = .ok (.iadd, 1) := by decide +kernel
theorem dX2_goesWith_8 : decode cX2_goesWith 8 = .ok (.ireturn, 1) := by decide +kernel
theorem dX2_isHeldStill_0 : decode cX2_isHeldStill 0 = .ok (.iload_n 0, 1) := by decide +kernel
theorem dX2_isHeldStill_1 : decode cX2_isHeldStill 1 = .ok (.iload_n 1, 1) := by decide +kernel
theorem dX2_isHeldStill_2 : decode cX2_isHeldStill 2 = .ok (.invokestatic 33, 3) := by decide +kernel
theorem dX2_isHeldStill_5 : decode cX2_isHeldStill 5 = .ok (.iload_n 2, 1) := by decide +kernel
theorem dX2_isHeldStill_6 : decode cX2_isHeldStill 6 = .ok (.if_icmp .le 7, 3) := by decide +kernel
theorem dX2_isHeldStill_9 : decode cX2_isHeldStill 9 = .ok (.iconst 1, 1) := by decide +kernel
theorem dX2_isHeldStill_10 : decode cX2_isHeldStill 10 = .ok (.goto 4, 3) := by decide +kernel
theorem dX2_isHeldStill_13 : decode cX2_isHeldStill 13 = .ok (.iconst 0, 1) := by decide +kernel
theorem dX2_isHeldStill_14 : decode cX2_isHeldStill 14 = .ok (.ireturn, 1) := by decide +kernel
theorem dX2_has_0 : decode cX2_has 0 = .ok (.iload_n 1, 1) := by decide +kernel
theorem dX2_has_1 : decode cX2_has 1 = .ok (.ifCond .lt 21, 3) := by decide +kernel
theorem dX2_has_4 : decode cX2_has 4 = .ok (.iload_n 1, 1) := by decide +kernel
theorem dX2_has_5 : decode cX2_has 5 = .ok (.aload_n 0, 1) := by decide +kernel
theorem dX2_has_6 : decode cX2_has 6 = .ok (.getfield 9, 3) := by decide +kernel
theorem dX2_has_9 : decode cX2_has 9 = .ok (.if_icmp .ge 13, 3) := by decide +kernel
theorem dX2_has_12 : decode cX2_has 12 = .ok (.iload_n 1, 1) := by decide +kernel
theorem dX2_has_13 : decode cX2_has 13 = .ok (.bipush 64, 2) := by decide +kernel
theorem dX2_has_15 : decode cX2_has 15 = .ok (.if_icmp .ge 7, 3) := by decide +kernel
theorem dX2_has_18 : decode cX2_has 18 = .ok (.iconst 1, 1) := by decide +kernel
theorem dX2_has_19 : decode cX2_has 19 = .ok (.goto 4, 3) := by decide +kernel
theorem dX2_has_22 : decode cX2_has 22 = .ok (.iconst 0, 1) := by decide +kernel
theorem dX2_has_23 : decode cX2_has 23 = .ok (.ireturn, 1) := by decide +kernel
theorem dX2_timeOf_0 : decode cX2_timeOf 0 = .ok (.aload_n 0, 1) := by decide +kernel
theorem dX2_timeOf_1 : decode cX2_timeOf 1 = .ok (.iload_n 1, 1) := by decide +kernel
theorem dX2_timeOf_2 : decode cX2_timeOf 2 = .ok (.invokevirtual 37, 3) := by decide +kernel
theorem dX2_timeOf_5 : decode cX2_timeOf 5 = .ok (.ifCond .eq 12, 3) := by decide +kernel
theorem dX2_timeOf_8 : decode cX2_timeOf 8 = .ok (.aload_n 0, 1) := by decide +kernel
theorem dX2_timeOf_9 : decode cX2_timeOf 9 = .ok (.getfield 24, 3) := by decide +kernel
theorem dX2_timeOf_12 : decode cX2_timeOf 12 = .ok (.iload_n 1, 1) := by decide +kernel
theorem dX2_timeOf_13 : decode cX2_timeOf 13 = .ok (.iaload, 1) := by decide +kernel
theorem dX2_timeOf_14 : decode cX2_timeOf 14 = .ok (.goto 4, 3) := by decide +kernel
theorem dX2_timeOf_17 : decode cX2_timeOf 17 = .ok (.iconst (-1), 1) := by decide +kernel
theorem dX2_timeOf_18 : decode cX2_timeOf 18 = .ok (.ireturn, 1) := by decide +kernel
theorem dX2_goesAt_0 : decode cX2_goesAt 0 = .ok (.aload_n 0, 1) := by decide +kernel
theorem dX2_goesAt_1 : decode cX2_goesAt 1 = .ok (.iload_n 1, 1) := by decide +kernel
theorem dX2_goesAt_2 : decode cX2_goesAt 2 = .ok (.invokevirtual 37, 3) := by decide +kernel
theorem dX2_goesAt_5 : decode cX2_goesAt 5 = .ok (.ifCond .eq 20, 3) := by decide +kernel
theorem dX2_goesAt_8 : decode cX2_goesAt 8 = .ok (.aload_n 0, 1) := by decide +kernel
theorem dX2_goesAt_9 : decode cX2_goesAt 9 = .ok (.getfield 24, 3) := by decide +kernel
theorem dX2_goesAt_12 : decode cX2_goesAt 12 = .ok (.iload_n 1, 1) := by decide +kernel
theorem dX2_goesAt_13 : decode cX2_goesAt 13 = .ok (.iaload, 1) := by decide +kernel
theorem dX2_goesAt_14 : decode cX2_goesAt 14 = .ok (.ifCond .eq 11, 3) := by decide +kernel
theorem dX2_goesAt_17 : decode cX2_goesAt 17 = .ok (.aload_n 0, 1) := by decide +kernel
theorem dX2_goesAt_18 : decode cX2_goesAt 18 = .ok (.getfield 18, 3) := by decide +kernel
theorem dX2_goesAt_21 : decode cX2_goesAt 21 = .ok (.iconst 1, 1) := by decide +kernel
theorem dX2_goesAt_22 : decode cX2_goesAt 22 = .ok (.if_icmp .ge 5, 3) := by decide +kernel
theorem dX2_goesAt_25 : decode cX2_goesAt 25 = .ok (.iconst (-1), 1) := by decide +kernel
theorem dX2_goesAt_26 : decode cX2_goesAt 26 = .ok (.ireturn, 1) := by decide +kernel
theorem dX2_goesAt_27 : decode cX2_goesAt 27 = .ok (.aload_n 0, 1) := by decide +kernel
theorem dX2_goesAt_28 : decode cX2_goesAt 28 = .ok (.getfield 24, 3) := by decide +kernel
theorem dX2_goesAt_31 : decode cX2_goesAt 31 = .ok (.iload_n 1, 1) := by decide +kernel
theorem dX2_goesAt_32 : decode cX2_goesAt 32 = .ok (.iaload, 1) := by decide +kernel
theorem dX2_goesAt_33 : decode cX2_goesAt 33 = .ok (.aload_n 0, 1) := by decide +kernel
theorem dX2_goesAt_34 : decode cX2_goesAt 34 = .ok (.getfield 18, 3) := by decide +kernel
theorem dX2_goesAt_37 : decode cX2_goesAt 37 = .ok (.idiv, 1) := by decide +kernel
theorem dX2_goesAt_38 : decode cX2_goesAt 38 = .ok (.aload_n 0, 1) := by decide +kernel
theorem dX2_goesAt_39 : decode cX2_goesAt 39 = .ok (.getfield 21, 3) := by decide +kernel
theorem dX2_goesAt_42 : decode cX2_goesAt 42 = .ok (.invokestatic 33, 3) := by decide +kernel
theorem dX2_goesAt_45 : decode cX2_goesAt 45 = .ok (.aload_n 0, 1) := by decide +kernel
theorem dX2_goesAt_46 : decode cX2_goesAt 46 = .ok (.getfield 18, 3) := by decide +kernel
theorem dX2_goesAt_49 : decode cX2_goesAt 49 = .ok (.imul, 1) := by decide +kernel
theorem dX2_goesAt_50 : decode cX2_goesAt 50 = .ok (.ireturn, 1) := by decide +kernel
theorem dX2_timeComes_0 : decode cX2_timeComes 0 = .ok (.aload_n 0, 1) := by decide +kernel
theorem dX2_timeComes_1 : decode cX2_timeComes 1 = .ok (.getfield 18, 3) := by decide +kernel
theorem dX2_timeComes_4 : decode cX2_timeComes 4 = .ok (.iconst 1, 1) := by decide +kernel
theorem dX2_timeComes_5 : decode cX2_timeComes 5 = .ok (.if_icmp .lt 12, 3) := by decide +kernel
theorem dX2_timeComes_8 : decode cX2_timeComes 8 = .ok (.iload_n 1, 1) := by decide +kernel
theorem dX2_timeComes_9 : decode cX2_timeComes 9 = .ok (.aload_n 0, 1) := by decide +kernel
theorem dX2_timeComes_10 : decode cX2_timeComes 10 = .ok (.getfield 18, 3) := by decide +kernel
theorem dX2_timeComes_13 : decode cX2_timeComes 13 = .ok (.irem, 1) := by decide +kernel
theorem dX2_timeComes_14 : decode cX2_timeComes 14 = .ok (.ifCond .eq 4, 3) := by decide +kernel
theorem dX2_timeComes_17 : decode cX2_timeComes 17 = .ok (.return_, 1) := by decide +kernel
theorem dX2_timeComes_18 : decode cX2_timeComes 18 = .ok (.aload_n 0, 1) := by decide +kernel
theorem dX2_timeComes_19 : decode cX2_timeComes 19 = .ok (.iload_n 1, 1) := by decide +kernel
theorem dX2_timeComes_20 : decode cX2_timeComes 20 = .ok (.invokevirtual 41, 3) := by decide +kernel
theorem dX2_timeComes_23 : decode cX2_timeComes 23 = .ok (.aload_n 0, 1) := by decide +kernel
theorem dX2_timeComes_24 : decode cX2_timeComes 24 = .ok (.getfield 9, 3) := by decide +kernel
theorem dX2_timeComes_27 : decode cX2_timeComes 27 = .ok (.ifCond .lt 32, 3) := by decide +kernel
theorem dX2_timeComes_30 : decode cX2_timeComes 30 = .ok (.aload_n 0, 1) := by decide +kernel
theorem dX2_timeComes_31 : decode cX2_timeComes 31 = .ok (.getfield 9, 3) := by decide +kernel
theorem dX2_timeComes_34 : decode cX2_timeComes 34 = .ok (.bipush 64, 2) := by decide +kernel
theorem dX2_timeComes_36 : decode cX2_timeComes 36 = .ok (.if_icmp .ge 23, 3) := by decide +kernel
theorem dX2_timeComes_39 : decode cX2_timeComes 39 = .ok (.aload_n 0, 1) := by decide +kernel
theorem dX2_timeComes_40 : decode cX2_timeComes 40 = .ok (.getfield 24, 3) := by decide +kernel
theorem dX2_timeComes_43 : decode cX2_timeComes 43 = .ok (.aload_n 0, 1) := by decide +kernel
theorem dX2_timeComes_44 : decode cX2_timeComes 44 = .ok (.getfield 9, 3) := by decide +kernel
theorem dX2_timeComes_47 : decode cX2_timeComes 47 = .ok (.iload_n 1, 1) := by decide +kernel
theorem dX2_timeComes_48 : decode cX2_timeComes 48 = .ok (.iastore, 1) := by decide +kernel
theorem dX2_timeComes_49 : decode cX2_timeComes 49 = .ok (.aload_n 0, 1) := by decide +kernel
theorem dX2_timeComes_50 : decode cX2_timeComes 50 = .ok (.dup, 1) := by decide +kernel
theorem dX2_timeComes_51 : decode cX2_timeComes 51 = .ok (.getfield 9, 3) := by decide +kernel
theorem dX2_timeComes_54 : decode cX2_timeComes 54 = .ok (.iconst 1, 1) := by decide +kernel
theorem dX2_timeComes_55 : decode cX2_timeComes 55 = .ok (.iadd, 1) := by decide +kernel
theorem dX2_timeComes_56 : decode cX2_timeComes 56 = .ok (.putfield 9, 3) := by decide +kernel
theorem dX2_timeComes_59 : decode cX2_timeComes 59 = .ok (.aload_n 0, 1) := by decide +kernel
theorem dX2_timeComes_60 : decode cX2_timeComes 60 = .ok (.aload_n 0, 1) := by decide +kernel
theorem dX2_timeComes_61 : decode cX2_timeComes 61 = .ok (.getfield 15, 3) := by decide +kernel
theorem dX2_timeComes_64 : decode cX2_timeComes 64 = .ok (.aload_n 0, 1) := by decide +kernel
theorem dX2_timeComes_65 : decode cX2_timeComes 65 = .ok (.getfield 9, 3) := by decide +kernel
theorem dX2_timeComes_68 : decode cX2_timeComes 68 = .ok (.invokestatic 45, 3) := by decide +kernel
theorem dX2_timeComes_71 : decode cX2_timeComes 71 = .ok (.putfield 15, 3) := by decide +kernel
theorem dX2_timeComes_74 : decode cX2_timeComes 74 = .ok (.return_, 1) := by decide +kernel
theorem dX2_dropWhatGoesBy_0 : decode cX2_dropWhatGoesBy 0 = .ok (.iconst 0, 1) := by decide +kernel
theorem dX2_dropWhatGoesBy_1 : decode cX2_dropWhatGoesBy 1 = .ok (.istore_n 2, 1) := by decide +kernel
theorem dX2_dropWhatGoesBy_2 : decode cX2_dropWhatGoesBy 2 = .ok (.iconst 0, 1) := by decide +kernel
theorem dX2_dropWhatGoesBy_3 : decode cX2_dropWhatGoesBy 3 = .ok (.istore_n 3, 1) := by decide +kernel
theorem dX2_dropWhatGoesBy_4 : decode cX2_dropWhatGoesBy 4 = .ok (.iload_n 3, 1) := by decide +kernel
theorem dX2_dropWhatGoesBy_5 : decode cX2_dropWhatGoesBy 5 = .ok (.aload_n 0, 1) := by decide +kernel
theorem dX2_dropWhatGoesBy_6 : decode cX2_dropWhatGoesBy 6 = .ok (.getfield 9, 3) := by decide +kernel
theorem dX2_dropWhatGoesBy_9 : decode cX2_dropWhatGoesBy 9 = .ok (.if_icmp .ge 49, 3) := by decide +kernel
theorem dX2_dropWhatGoesBy_12 : decode cX2_dropWhatGoesBy 12 = .ok (.iload_n 3, 1) := by decide +kernel
theorem dX2_dropWhatGoesBy_13 : decode cX2_dropWhatGoesBy 13 = .ok (.bipush 64, 2) := by decide +kernel
theorem dX2_dropWhatGoesBy_15 : decode cX2_dropWhatGoesBy 15 = .ok (.if_icmp .ge 43, 3) := by decide +kernel
theorem dX2_dropWhatGoesBy_18 : decode cX2_dropWhatGoesBy 18 = .ok (.aload_n 0, 1) := by decide +kernel
theorem dX2_dropWhatGoesBy_19 : decode cX2_dropWhatGoesBy 19 = .ok (.iload_n 3, 1) := by decide +kernel
theorem dX2_dropWhatGoesBy_20 : decode cX2_dropWhatGoesBy 20 = .ok (.invokevirtual 50, 3) := by decide +kernel
theorem dX2_dropWhatGoesBy_23 : decode cX2_dropWhatGoesBy 23 = .ok (.istore 4, 2) := by decide +kernel
theorem dX2_dropWhatGoesBy_25 : decode cX2_dropWhatGoesBy 25 = .ok (.iload 4, 2) := by decide +kernel
theorem dX2_dropWhatGoesBy_27 : decode cX2_dropWhatGoesBy 27 = .ok (.iconst (-1), 1) := by decide +kernel
theorem dX2_dropWhatGoesBy_28 : decode cX2_dropWhatGoesBy 28 = .ok (.if_icmp .eq 9, 3) := by decide +kernel
theorem dX2_dropWhatGoesBy_31 : decode cX2_dropWhatGoesBy 31 = .ok (.iload 4, 2) := by decide +kernel
theorem dX2_dropWhatGoesBy_33 : decode cX2_dropWhatGoesBy 33 = .ok (.iload_n 1, 1) := by decide +kernel
theorem dX2_dropWhatGoesBy_34 : decode cX2_dropWhatGoesBy 34 = .ok (.if_icmp .le 18, 3) := by decide +kernel
theorem dX2_dropWhatGoesBy_37 : decode cX2_dropWhatGoesBy 37 = .ok (.aload_n 0, 1) := by decide +kernel
theorem dX2_dropWhatGoesBy_38 : decode cX2_dropWhatGoesBy 38 = .ok (.getfield 24, 3) := by decide +kernel
theorem dX2_dropWhatGoesBy_41 : decode cX2_dropWhatGoesBy 41 = .ok (.iload_n 2, 1) := by decide +kernel
theorem dX2_dropWhatGoesBy_42 : decode cX2_dropWhatGoesBy 42 = .ok (.aload_n 0, 1) := by decide +kernel
theorem dX2_dropWhatGoesBy_43 : decode cX2_dropWhatGoesBy 43 = .ok (.getfield 24, 3) := by decide +kernel
theorem dX2_dropWhatGoesBy_46 : decode cX2_dropWhatGoesBy 46 = .ok (.iload_n 3, 1) := by decide +kernel
theorem dX2_dropWhatGoesBy_47 : decode cX2_dropWhatGoesBy 47 = .ok (.iaload, 1) := by decide +kernel
theorem dX2_dropWhatGoesBy_48 : decode cX2_dropWhatGoesBy 48 = .ok (.iastore, 1) := by decide +kernel
theorem dX2_dropWhatGoesBy_49 : decode cX2_dropWhatGoesBy 49 = .ok (.iinc 2 1, 3) := by decide +kernel
theorem dX2_dropWhatGoesBy_52 : decode cX2_dropWhatGoesBy 52 = .ok (.iinc 3 1, 3) := by decide +kernel
theorem dX2_dropWhatGoesBy_55 : decode cX2_dropWhatGoesBy 55 = .ok (.goto (-51), 3) := by decide +kernel
theorem dX2_dropWhatGoesBy_58 : decode cX2_dropWhatGoesBy 58 = .ok (.aload_n 0, 1) := by decide +kernel
theorem dX2_dropWhatGoesBy_59 : decode cX2_dropWhatGoesBy 59 = .ok (.iload_n 2, 1) := by decide +kernel
theorem dX2_dropWhatGoesBy_60 : decode cX2_dropWhatGoesBy 60 = .ok (.putfield 9, 3) := by decide +kernel
theorem dX2_dropWhatGoesBy_63 : decode cX2_dropWhatGoesBy 63 = .ok (.return_, 1) := by decide +kernel
theorem dX2_dropAbove_0 : decode cX2_dropAbove 0 = .ok (.aload_n 0, 1) := by decide +kernel
theorem dX2_dropAbove_1 : decode cX2_dropAbove 1 = .ok (.getfield 9, 3) := by decide +kernel
theorem dX2_dropAbove_4 : decode cX2_dropAbove 4 = .ok (.iconst 1, 1) := by decide +kernel
theorem dX2_dropAbove_5 : decode cX2_dropAbove 5 = .ok (.isub, 1) := by decide +kernel
theorem dX2_dropAbove_6 : decode cX2_dropAbove 6 = .ok (.istore_n 2, 1) := by decide +kernel
theorem dX2_dropAbove_7 : decode cX2_dropAbove 7 = .ok (.iload_n 2, 1) := by decide +kernel
theorem dX2_dropAbove_8 : decode cX2_dropAbove 8 = .ok (.ifCond .lt 23, 3) := by decide +kernel
theorem dX2_dropAbove_11 : decode cX2_dropAbove 11 = .ok (.aload_n 0, 1) := by decide +kernel
theorem dX2_dropAbove_12 : decode cX2_dropAbove 12 = .ok (.iload_n 2, 1) := by decide +kernel
theorem dX2_dropAbove_13 : decode cX2_dropAbove 13 = .ok (.invokevirtual 54, 3) := by decide +kernel
theorem dX2_dropAbove_16 : decode cX2_dropAbove 16 = .ok (.iload_n 1, 1) := by decide +kernel
theorem dX2_dropAbove_17 : decode cX2_dropAbove 17 = .ok (.if_icmp .le 14, 3) := by decide +kernel
theorem dX2_dropAbove_20 : decode cX2_dropAbove 20 = .ok (.aload_n 0, 1) := by decide +kernel
theorem dX2_dropAbove_21 : decode cX2_dropAbove 21 = .ok (.iload_n 2, 1) := by decide +kernel
theorem dX2_dropAbove_22 : decode cX2_dropAbove 22 = .ok (.putfield 9, 3) := by decide +kernel
theorem dX2_dropAbove_25 : decode cX2_dropAbove 25 = .ok (.iinc 2 (-1), 3) := by decide +kernel
theorem dX2_dropAbove_28 : decode cX2_dropAbove 28 = .ok (.goto (-21), 3) := by decide +kernel
theorem dX2_dropAbove_31 : decode cX2_dropAbove 31 = .ok (.return_, 1) := by decide +kernel
theorem dX2_latestBy_0 : decode cX2_latestBy 0 = .ok (.iconst 0, 1) := by decide +kernel
theorem dX2_latestBy_1 : decode cX2_latestBy 1 = .ok (.istore_n 2, 1) := by decide +kernel
theorem dX2_latestBy_2 : decode cX2_latestBy 2 = .ok (.iconst 0, 1) := by decide +kernel
theorem dX2_latestBy_3 : decode cX2_latestBy 3 = .ok (.istore_n 3, 1) := by decide +kernel
theorem dX2_latestBy_4 : decode cX2_latestBy 4 = .ok (.iload_n 3, 1) := by decide +kernel
theorem dX2_latestBy_5 : decode cX2_latestBy 5 = .ok (.aload_n 0, 1) := by decide +kernel
theorem dX2_latestBy_6 : decode cX2_latestBy 6 = .ok (.getfield 9, 3) := by decide +kernel
theorem dX2_latestBy_9 : decode cX2_latestBy 9 = .ok (.if_icmp .ge 24, 3) := by decide +kernel
theorem dX2_latestBy_12 : decode cX2_latestBy 12 = .ok (.aload_n 0, 1) := by decide +kernel
theorem dX2_latestBy_13 : decode cX2_latestBy 13 = .ok (.iload_n 3, 1) := by decide +kernel
theorem dX2_latestBy_14 : decode cX2_latestBy 14 = .ok (.invokevirtual 54, 3) := by decide +kernel
theorem dX2_latestBy_17 : decode cX2_latestBy 17 = .ok (.iload_n 1, 1) := by decide +kernel
theorem dX2_latestBy_18 : decode cX2_latestBy 18 = .ok (.if_icmp .gt 15, 3) := by decide +kernel
theorem dX2_latestBy_21 : decode cX2_latestBy 21 = .ok (.aload_n 0, 1) := by decide +kernel
theorem dX2_latestBy_22 : decode cX2_latestBy 22 = .ok (.iload_n 3, 1) := by decide +kernel
theorem dX2_latestBy_23 : decode cX2_latestBy 23 = .ok (.invokevirtual 54, 3) := by decide +kernel
theorem dX2_latestBy_26 : decode cX2_latestBy 26 = .ok (.istore_n 2, 1) := by decide +kernel
theorem dX2_latestBy_27 : decode cX2_latestBy 27 = .ok (.iinc 3 1, 3) := by decide +kernel
theorem dX2_latestBy_30 : decode cX2_latestBy 30 = .ok (.goto (-26), 3) := by decide +kernel
theorem dX2_latestBy_33 : decode cX2_latestBy 33 = .ok (.iload_n 2, 1) := by decide +kernel
theorem dX2_latestBy_34 : decode cX2_latestBy 34 = .ok (.ireturn, 1) := by decide +kernel
theorem dX2_stepsToFind_0 : decode cX2_stepsToFind 0 = .ok (.iconst 0, 1) := by decide +kernel
theorem dX2_stepsToFind_1 : decode cX2_stepsToFind 1 = .ok (.istore_n 3, 1) := by decide +kernel
theorem dX2_stepsToFind_2 : decode cX2_stepsToFind 2 = .ok (.iload_n 2, 1) := by decide +kernel
theorem dX2_stepsToFind_3 : decode cX2_stepsToFind 3 = .ok (.istore 4, 2) := by decide +kernel
theorem dX2_stepsToFind_5 : decode cX2_stepsToFind 5 = .ok (.aload_n 0, 1) := by decide +kernel
theorem dX2_stepsToFind_6 : decode cX2_stepsToFind 6 = .ok (.getfield 9, 3) := by decide +kernel
theorem dX2_stepsToFind_9 : decode cX2_stepsToFind 9 = .ok (.iconst 1, 1) := by decide +kernel
theorem dX2_stepsToFind_10 : decode cX2_stepsToFind 10 = .ok (.isub, 1) := by decide +kernel
theorem dX2_stepsToFind_11 : decode cX2_stepsToFind 11 = .ok (.istore 5, 2) := by decide +kernel
theorem dX2_stepsToFind_13 : decode cX2_stepsToFind 13 = .ok (.iload 5, 2) := by decide +kernel
theorem dX2_stepsToFind_15 : decode cX2_stepsToFind 15 = .ok (.ifCond .lt 48, 3) := by decide +kernel
theorem dX2_stepsToFind_18 : decode cX2_stepsToFind 18 = .ok (.iload 4, 2) := by decide +kernel
theorem dX2_stepsToFind_20 : decode cX2_stepsToFind 20 = .ok (.iload_n 1, 1) := by decide +kernel
theorem dX2_stepsToFind_21 : decode cX2_stepsToFind 21 = .ok (.if_icmp .lt 42, 3) := by decide +kernel
theorem dX2_stepsToFind_24 : decode cX2_stepsToFind 24 = .ok (.aload_n 0, 1) := by decide +kernel
theorem dX2_stepsToFind_25 : decode cX2_stepsToFind 25 = .ok (.iload 5, 2) := by decide +kernel
theorem dX2_stepsToFind_27 : decode cX2_stepsToFind 27 = .ok (.invokevirtual 54, 3) := by decide +kernel
theorem dX2_stepsToFind_30 : decode cX2_stepsToFind 30 = .ok (.iload 4, 2) := by decide +kernel
theorem dX2_stepsToFind_32 : decode cX2_stepsToFind 32 = .ok (.if_icmp .gt 25, 3) := by decide +kernel
theorem dX2_stepsToFind_35 : decode cX2_stepsToFind 35 = .ok (.iload_n 3, 1) := by decide +kernel
theorem dX2_stepsToFind_36 : decode cX2_stepsToFind 36 = .ok (.iload 4, 2) := by decide +kernel
theorem dX2_stepsToFind_38 : decode cX2_stepsToFind 38 = .ok (.aload_n 0, 1) := by decide +kernel
theorem dX2_stepsToFind_39 : decode cX2_stepsToFind 39 = .ok (.iload 5, 2) := by decide +kernel
theorem dX2_stepsToFind_41 : decode cX2_stepsToFind 41 = .ok (.invokevirtual 54, 3) := by decide +kernel
theorem dX2_stepsToFind_44 : decode cX2_stepsToFind 44 = .ok (.isub, 1) := by decide +kernel
theorem dX2_stepsToFind_45 : decode cX2_stepsToFind 45 = .ok (.iadd, 1) := by decide +kernel
theorem dX2_stepsToFind_46 : decode cX2_stepsToFind 46 = .ok (.istore_n 3, 1) := by decide +kernel
theorem dX2_stepsToFind_47 : decode cX2_stepsToFind 47 = .ok (.aload_n 0, 1) := by decide +kernel
theorem dX2_stepsToFind_48 : decode cX2_stepsToFind 48 = .ok (.iload 5, 2) := by decide +kernel
theorem dX2_stepsToFind_50 : decode cX2_stepsToFind 50 = .ok (.invokevirtual 54, 3) := by decide +kernel
theorem dX2_stepsToFind_53 : decode cX2_stepsToFind 53 = .ok (.iconst 1, 1) := by decide +kernel
theorem dX2_stepsToFind_54 : decode cX2_stepsToFind 54 = .ok (.isub, 1) := by decide +kernel
theorem dX2_stepsToFind_55 : decode cX2_stepsToFind 55 = .ok (.istore 4, 2) := by decide +kernel
theorem dX2_stepsToFind_57 : decode cX2_stepsToFind 57 = .ok (.iinc 5 (-1), 3) := by decide +kernel
theorem dX2_stepsToFind_60 : decode cX2_stepsToFind 60 = .ok (.goto (-47), 3) := by decide +kernel
theorem dX2_stepsToFind_63 : decode cX2_stepsToFind 63 = .ok (.iload_n 3, 1) := by decide +kernel
theorem dX2_stepsToFind_64 : decode cX2_stepsToFind 64 = .ok (.ireturn, 1) := by decide +kernel
theorem dX3_init_0 : decode cX3_init 0 = .ok (.aload_n 0, 1) := by decide +kernel
theorem dX3_init_1 : decode cX3_init 1 = .ok (.invokespecial 3, 3) := by decide +kernel
theorem dX3_init_4 : decode cX3_init 4 = .ok (.aload_n 0, 1) := by decide +kernel
theorem dX3_init_5 : decode cX3_init 5 = .ok (.iconst 0, 1) := by decide +kernel
theorem dX3_init_6 : decode cX3_init 6 = .ok (.putfield 9, 3) := by decide +kernel
theorem dX3_init_9 : decode cX3_init 9 = .ok (.aload_n 0, 1) := by decide +kernel
theorem dX3_init_10 : decode cX3_init 10 = .ok (.sipush 800, 3) := by decide +kernel
theorem dX3_init_13 : decode cX3_init 13 = .ok (.newarray .int, 2) := by decide +kernel
theorem dX3_init_15 : decode cX3_init 15 = .ok (.putfield 15, 3) := by decide +kernel
theorem dX3_init_18 : decode cX3_init 18 = .ok (.aload_n 0, 1) := by decide +kernel
theorem dX3_init_19 : decode cX3_init 19 = .ok (.sipush 800, 3) := by decide +kernel
theorem dX3_init_22 : decode cX3_init 22 = .ok (.newarray .int, 2) := by decide +kernel
theorem dX3_init_24 : decode cX3_init 24 = .ok (.putfield 19, 3) := by decide +kernel
theorem dX3_init_27 : decode cX3_init 27 = .ok (.aload_n 0, 1) := by decide +kernel
theorem dX3_init_28 : decode cX3_init 28 = .ok (.sipush 800, 3) := by decide +kernel
theorem dX3_init_31 : decode cX3_init 31 = .ok (.newarray .int, 2) := by decide +kernel
theorem dX3_init_33 : decode cX3_init 33 = .ok (.putfield 22, 3) := by decide +kernel
theorem dX3_init_36 : decode cX3_init 36 = .ok (.aload_n 0, 1) := by decide +kernel
theorem dX3_init_37 : decode cX3_init 37 = .ok (.sipush 800, 3) := by decide +kernel
theorem dX3_init_40 : decode cX3_init 40 = .ok (.newarray .int, 2) := by decide +kernel
theorem dX3_init_42 : decode cX3_init 42 = .ok (.putfield 25, 3) := by decide +kernel
theorem dX3_init_45 : decode cX3_init 45 = .ok (.aload_n 0, 1) := by decide +kernel
theorem dX3_init_46 : decode cX3_init 46 = .ok (.sipush 800, 3) := by decide +kernel
theorem dX3_init_49 : decode cX3_init 49 = .ok (.newarray .int, 2) := by decide +kernel
theorem dX3_init_51 : decode cX3_init 51 = .ok (.putfield 28, 3) := by decide +kernel
theorem dX3_init_54 : decode cX3_init 54 = .ok (.return_, 1) := by decide +kernel
theorem dX3_init__0 : decode cX3_init_ 0 = .ok (.aload_n 0, 1) := by decide +kernel
theorem dX3_init__1 : decode cX3_init_ 1 = .ok (.invokespecial 3, 3) := by decide +kernel
theorem dX3_init__4 : decode cX3_init_ 4 = .ok (.aload_n 0, 1) := by decide +kernel
theorem dX3_init__5 : decode cX3_init_ 5 = .ok (.iconst 0, 1) := by decide +kernel
theorem dX3_init__6 : decode cX3_init_ 6 = .ok (.putfield 9, 3) := by decide +kernel
theorem dX3_init__9 : decode cX3_init_ 9 = .ok (.aload_n 0, 1) := by decide +kernel
theorem dX3_init__10 : decode cX3_init_ 10 = .ok (.aload_n 1, 1) := by decide +kernel
theorem dX3_init__11 : decode cX3_init_ 11 = .ok (.getfield 15, 3) := by decide +kernel
theorem dX3_init__14 : decode cX3_init_ 14 = .ok (.invokevirtual 31, 3) := by decide +kernel
theorem dX3_init__17 : decode cX3_init_ 17 = .ok (.checkcast 32, 3) := by decide +kernel
theorem dX3_init__20 : decode cX3_init_ 20 = .ok (.putfield 15, 3) := by decide +kernel
theorem dX3_init__23 : decode cX3_init_ 23 = .ok (.aload_n 0, 1) := by decide +kernel
theorem dX3_init__24 : decode cX3_init_ 24 = .ok (.aload_n 1, 1) := by decide +kernel
theorem dX3_init__25 : decode cX3_init_ 25 = .ok (.getfield 19, 3) := by decide +kernel
theorem dX3_init__28 : decode cX3_init_ 28 = .ok (.invokevirtual 31, 3) := by decide +kernel
theorem dX3_init__31 : decode cX3_init_ 31 = .ok (.checkcast 32, 3) := by decide +kernel
theorem dX3_init__34 : decode cX3_init_ 34 = .ok (.putfield 19, 3) := by decide +kernel
theorem dX3_init__37 : decode cX3_init_ 37 = .ok (.aload_n 0, 1) := by decide +kernel
theorem dX3_init__38 : decode cX3_init_ 38 = .ok (.aload_n 1, 1) := by decide +kernel
theorem dX3_init__39 : decode cX3_init_ 39 = .ok (.getfield 22, 3) := by decide +kernel
theorem dX3_init__42 : decode cX3_init_ 42 = .ok (.invokevirtual 31, 3) := by decide +kernel
theorem dX3_init__45 : decode cX3_init_ 45 = .ok (.checkcast 32, 3) := by decide +kernel
theorem dX3_init__48 : decode cX3_init_ 48 = .ok (.putfield 22, 3) := by decide +kernel
theorem dX3_init__51 : decode cX3_init_ 51 = .ok (.aload_n 0, 1) := by decide +kernel
theorem dX3_init__52 : decode cX3_init_ 52 = .ok (.aload_n 1, 1) := by decide +kernel
theorem dX3_init__53 : decode cX3_init_ 53 = .ok (.getfield 25, 3) := by decide +kernel
theorem dX3_init__56 : decode cX3_init_ 56 = .ok (.invokevirtual 31, 3) := by decide +kernel
theorem dX3_init__59 : decode cX3_init_ 59 = .ok (.checkcast 32, 3) := by decide +kernel
theorem dX3_init__62 : decode cX3_init_ 62 = .ok (.putfield 25, 3) := by decide +kernel
theorem dX3_init__65 : decode cX3_init_ 65 = .ok (.aload_n 0, 1) := by decide +kernel
theorem dX3_init__66 : decode cX3_init_ 66 = .ok (.aload_n 1, 1) := by decide +kernel
theorem dX3_init__67 : decode cX3_init_ 67 = .ok (.getfield 28, 3) := by decide +kernel
theorem dX3_init__70 : decode cX3_init_ 70 = .ok (.invokevirtual 31, 3) := by decide +kernel
theorem dX3_init__73 : decode cX3_init_ 73 = .ok (.checkcast 32, 3) := by decide +kernel
theorem dX3_init__76 : decode cX3_init_ 76 = .ok (.putfield 28, 3) := by decide +kernel
theorem dX3_init__79 : decode cX3_init_ 79 = .ok (.aload_n 0, 1) := by decide +kernel
theorem dX3_init__80 : decode cX3_init_ 80 = .ok (.aload_n 1, 1) := by decide +kernel
theorem dX3_init__81 : decode cX3_init_ 81 = .ok (.getfield 9, 3) := by decide +kernel
theorem dX3_init__84 : decode cX3_init_ 84 = .ok (.putfield 9, 3) := by decide +kernel
theorem dX3_init__87 : decode cX3_init_ 87 = .ok (.return_, 1) := by decide +kernel
theorem dX3_has_0 : decode cX3_has 0 = .ok (.iload_n 1, 1) := by decide +kernel
theorem dX3_has_1 : decode cX3_has 1 = .ok (.ifCond .lt 22, 3) := by decide +kernel
theorem dX3_has_4 : decode cX3_has 4 = .ok (.iload_n 1, 1) := by decide +kernel
theorem dX3_has_5 : decode cX3_has 5 = .ok (.aload_n 0, 1) := by decide +kernel
theorem dX3_has_6 : decode cX3_has 6 = .ok (.getfield 9, 3) := by decide +kernel
theorem dX3_has_9 : decode cX3_has 9 = .ok (.if_icmp .ge 14, 3) := by decide +kernel
theorem dX3_has_12 : decode cX3_has 12 = .ok (.iload_n 1, 1) := by decide +kernel
theorem dX3_has_13 : decode cX3_has 13 = .ok (.sipush 800, 3) := by decide +kernel
theorem dX3_has_16 : decode cX3_has 16 = .ok (.if_icmp .ge 7, 3) := by decide +kernel
theorem dX3_has_19 : decode cX3_has 19 = .ok (.iconst 1, 1) := by decide +kernel
theorem dX3_has_20 : decode cX3_has 20 = .ok (.goto 4, 3) := by decide +kernel
theorem dX3_has_23 : decode cX3_has 23 = .ok (.iconst 0, 1) := by decide +kernel
theorem dX3_has_24 : decode cX3_has 24 = .ok (.ireturn, 1) := by decide +kernel
theorem dX3_isFull_0 : decode cX3_isFull 0 = .ok (.aload_n 0, 1) := by decide +kernel
theorem dX3_isFull_1 : decode cX3_isFull 1 = .ok (.getfield 9, 3) := by decide +kernel
theorem dX3_isFull_4 : decode cX3_isFull 4 = .ok (.sipush 800, 3) := by decide +kernel
theorem dX3_isFull_7 : decode cX3_isFull 7 = .ok (.if_icmp .lt 7, 3) := by decide +kernel
theorem dX3_isFull_10 : decode cX3_isFull 10 = .ok (.iconst 1, 1) := by decide +kernel
theorem dX3_isFull_11 : decode cX3_isFull 11 = .ok (.goto 4, 3) := by decide +kernel
theorem dX3_isFull_14 : decode cX3_isFull 14 = .ok (.iconst 0, 1) := by decide +kernel
theorem dX3_isFull_15 : decode cX3_isFull 15 = .ok (.ireturn, 1) := by decide +kernel
theorem dX3_addWhole_0 : decode cX3_addWhole 0 = .ok (.aload_n 0, 1) := by decide +kernel
theorem dX3_addWhole_1 : decode cX3_addWhole 1 = .ok (.iload_n 1, 1) := by decide +kernel
theorem dX3_addWhole_2 : decode cX3_addWhole 2 = .ok (.iload_n 2, 1) := by decide +kernel
theorem dX3_addWhole_3 : decode cX3_addWhole 3 = .ok (.iconst (-1), 1) := by decide +kernel
theorem dX3_addWhole_4 : decode cX3_addWhole 4 = .ok (.iconst 2, 1) := by decide +kernel
theorem dX3_addWhole_5 : decode cX3_addWhole 5 = .ok (.iload_n 3, 1) := by decide +kernel
theorem dX3_addWhole_6 : decode cX3_addWhole 6 = .ok (.invokevirtual 36, 3) := by decide +kernel
theorem dX3_addWhole_9 : decode cX3_addWhole 9 = .ok (.return_, 1) := by decide +kernel
theorem dX3_addPoke_0 : decode cX3_addPoke 0 = .ok (.aload_n 0, 1) := by decide +kernel
theorem dX3_addPoke_1 : decode cX3_addPoke 1 = .ok (.iload_n 1, 1) := by decide +kernel
theorem dX3_addPoke_2 : decode cX3_addPoke 2 = .ok (.iconst 2, 1) := by decide +kernel
theorem dX3_addPoke_3 : decode cX3_addPoke 3 = .ok (.iload_n 2, 1) := by decide +kernel
theorem dX3_addPoke_4 : decode cX3_addPoke 4 = .ok (.iload_n 3, 1) := by decide +kernel
theorem dX3_addPoke_5 : decode cX3_addPoke 5 = .ok (.iload 4, 2) := by decide +kernel
theorem dX3_addPoke_7 : decode cX3_addPoke 7 = .ok (.invokevirtual 36, 3) := by decide +kernel
theorem dX3_addPoke_10 : decode cX3_addPoke 10 = .ok (.return_, 1) := by decide +kernel
theorem dX3_add_0 : decode cX3_add 0 = .ok (.aload_n 0, 1) := by decide +kernel
theorem dX3_add_1 : decode cX3_add 1 = .ok (.getfield 9, 3) := by decide +kernel
theorem dX3_add_4 : decode cX3_add 4 = .ok (.ifCond .lt 75, 3) := by decide +kernel
theorem dX3_add_7 : decode cX3_add 7 = .ok (.aload_n 0, 1) := by decide +kernel
theorem dX3_add_8 : decode cX3_add 8 = .ok (.getfield 9, 3) := by decide +kernel
theorem dX3_add_11 : decode cX3_add 11 = .ok (.sipush 800, 3) := by decide +kernel
theorem dX3_add_14 : decode cX3_add 14 = .ok (.if_icmp .ge 65, 3) := by decide +kernel
theorem dX3_add_17 : decode cX3_add 17 = .ok (.aload_n 0, 1) := by decide +kernel
theorem dX3_add_18 : decode cX3_add 18 = .ok (.getfield 15, 3) := by decide +kernel
theorem dX3_add_21 : decode cX3_add 21 = .ok (.aload_n 0, 1) := by decide +kernel
theorem dX3_add_22 : decode cX3_add 22 = .ok (.getfield 9, 3) := by decide +kernel
theorem dX3_add_25 : decode cX3_add 25 = .ok (.iload_n 1, 1) := by decide +kernel
theorem dX3_add_26 : decode cX3_add 26 = .ok (.iastore, 1) := by decide +kernel
theorem dX3_add_27 : decode cX3_add 27 = .ok (.aload_n 0, 1) := by decide +kernel
theorem dX3_add_28 : decode cX3_add 28 = .ok (.getfield 19, 3) := by decide +kernel
theorem dX3_add_31 : decode cX3_add 31 = .ok (.aload_n 0, 1) := by decide +kernel
theorem dX3_add_32 : decode cX3_add 32 = .ok (.getfield 9, 3) := by decide +kernel
theorem dX3_add_35 : decode cX3_add 35 = .ok (.iload_n 2, 1) := by decide +kernel
theorem dX3_add_36 : decode cX3_add 36 = .ok (.iastore, 1) := by decide +kernel
theorem dX3_add_37 : decode cX3_add 37 = .ok (.aload_n 0, 1) := by decide +kernel
theorem dX3_add_38 : decode cX3_add 38 = .ok (.getfield 25, 3) := by decide +kernel
theorem dX3_add_41 : decode cX3_add 41 = .ok (.aload_n 0, 1) := by decide +kernel
theorem dX3_add_42 : decode cX3_add 42 = .ok (.getfield 9, 3) := by decide +kernel
theorem dX3_add_45 : decode cX3_add 45 = .ok (.iload_n 3, 1) := by decide +kernel
theorem dX3_add_46 : decode cX3_add 46 = .ok (.iastore, 1) := by decide +kernel
theorem dX3_add_47 : decode cX3_add 47 = .ok (.aload_n 0, 1) := by decide +kernel
theorem dX3_add_48 : decode cX3_add 48 = .ok (.getfield 28, 3) := by decide +kernel
theorem dX3_add_51 : decode cX3_add 51 = .ok (.aload_n 0, 1) := by decide +kernel
theorem dX3_add_52 : decode cX3_add 52 = .ok (.getfield 9, 3) := by decide +kernel
theorem dX3_add_55 : decode cX3_add 55 = .ok (.iload 4, 2) := by decide +kernel
theorem dX3_add_57 : decode cX3_add 57 = .ok (.iastore, 1) := by decide +kernel
theorem dX3_add_58 : decode cX3_add 58 = .ok (.aload_n 0, 1) := by decide +kernel
theorem dX3_add_59 : decode cX3_add 59 = .ok (.getfield 22, 3) := by decide +kernel
theorem dX3_add_62 : decode cX3_add 62 = .ok (.aload_n 0, 1) := by decide +kernel
theorem dX3_add_63 : decode cX3_add 63 = .ok (.getfield 9, 3) := by decide +kernel
theorem dX3_add_66 : decode cX3_add 66 = .ok (.iload 5, 2) := by decide +kernel
theorem dX3_add_68 : decode cX3_add 68 = .ok (.iastore, 1) := by decide +kernel
theorem dX3_add_69 : decode cX3_add 69 = .ok (.aload_n 0, 1) := by decide +kernel
theorem dX3_add_70 : decode cX3_add 70 = .ok (.dup, 1) := by decide +kernel
theorem dX3_add_71 : decode cX3_add 71 = .ok (.getfield 9, 3) := by decide +kernel
theorem dX3_add_74 : decode cX3_add 74 = .ok (.iconst 1, 1) := by decide +kernel
theorem dX3_add_75 : decode cX3_add 75 = .ok (.iadd, 1) := by decide +kernel
theorem dX3_add_76 : decode cX3_add 76 = .ok (.putfield 9, 3) := by decide +kernel
theorem dX3_add_79 : decode cX3_add 79 = .ok (.return_, 1) := by decide +kernel
theorem dX3_read_0 : decode cX3_read 0 = .ok (.aload_n 0, 1) := by decide +kernel
theorem dX3_read_1 : decode cX3_read 1 = .ok (.iload_n 1, 1) := by decide +kernel
theorem dX3_read_2 : decode cX3_read 2 = .ok (.invokevirtual 40, 3) := by decide +kernel
theorem dX3_read_5 : decode cX3_read 5 = .ok (.ifCond .ne 6, 3) := by decide +kernel
theorem dX3_read_8 : decode cX3_read 8 = .ok (.ldc 44, 2) := by decide +kernel
theorem dX3_read_10 : decode cX3_read 10 = .ok (.ireturn, 1) := by decide +kernel
theorem dX3_read_11 : decode cX3_read 11 = .ok (.iload_n 2, 1) := by decide +kernel
theorem dX3_read_12 : decode cX3_read 12 = .ok (.tableswitch 71 0 4 #[36, 43, 50, 57, 64], 36) := by decide +kernel
theorem dX3_read_48 : decode cX3_read 48 = .ok (.aload_n 0, 1) := by decide +kernel
theorem dX3_read_49 : decode cX3_read 49 = .ok (.getfield 15, 3) := by decide +kernel
theorem dX3_read_52 : decode cX3_read 52 = .ok (.iload_n 1, 1) := by decide +kernel
theorem dX3_read_53 : decode cX3_read 53 = .ok (.iaload, 1) := by decide +kernel
theorem dX3_read_54 : decode cX3_read 54 = .ok (.ireturn, 1) := by decide +kernel
theorem dX3_read_55 : decode cX3_read 55 = .ok (.aload_n 0, 1) := by decide +kernel
theorem dX3_read_56 : decode cX3_read 56 = .ok (.getfield 19, 3) := by decide +kernel
theorem dX3_read_59 : decode cX3_read 59 = .ok (.iload_n 1, 1) := by decide +kernel
theorem dX3_read_60 : decode cX3_read 60 = .ok (.iaload, 1) := by decide +kernel
theorem dX3_read_61 : decode cX3_read 61 = .ok (.ireturn, 1) := by decide +kernel
theorem dX3_read_62 : decode cX3_read 62 = .ok (.aload_n 0, 1) := by decide +kernel
theorem dX3_read_63 : decode cX3_read 63 = .ok (.getfield 22, 3) := by decide +kernel
theorem dX3_read_66 : decode cX3_read 66 = .ok (.iload_n 1, 1) := by decide +kernel
theorem dX3_read_67 : decode cX3_read 67 = .ok (.iaload, 1) := by decide +kernel
theorem dX3_read_68 : decode cX3_read 68 = .ok (.ireturn, 1) := by decide +kernel
theorem dX3_read_69 : decode cX3_read 69 = .ok (.aload_n 0, 1) := by decide +kernel
theorem dX3_read_70 : decode cX3_read 70 = .ok (.getfield 25, 3) := by decide +kernel
theorem dX3_read_73 : decode cX3_read 73 = .ok (.iload_n 1, 1) := by decide +kernel
theorem dX3_read_74 : decode cX3_read 74 = .ok (.iaload, 1) := by decide +kernel
theorem dX3_read_75 : decode cX3_read 75 = .ok (.ireturn, 1) := by decide +kernel
theorem dX3_read_76 : decode cX3_read 76 = .ok (.aload_n 0, 1) := by decide +kernel
theorem dX3_read_77 : decode cX3_read 77 = .ok (.getfield 28, 3) := by decide +kernel
theorem dX3_read_80 : decode cX3_read 80 = .ok (.iload_n 1, 1) := by decide +kernel
theorem dX3_read_81 : decode cX3_read 81 = .ok (.iaload, 1) := by decide +kernel
theorem dX3_read_82 : decode cX3_read 82 = .ok (.ireturn, 1) := by decide +kernel
theorem dX3_read_83 : decode cX3_read 83 = .ok (.ldc 44, 2) := by decide +kernel
theorem dX3_read_85 : decode cX3_read 85 = .ok (.ireturn, 1) := by decide +kernel
theorem dX3_dropBehind_0 : decode cX3_dropBehind 0 = .ok (.aload_n 0, 1) := by decide +kernel
theorem dX3_dropBehind_1 : decode cX3_dropBehind 1 = .ok (.getfield 9, 3) := by decide +kernel
theorem dX3_dropBehind_4 : decode cX3_dropBehind 4 = .ok (.iconst 1, 1) := by decide +kernel
theorem dX3_dropBehind_5 : decode cX3_dropBehind 5 = .ok (.isub, 1) := by decide +kernel
theorem dX3_dropBehind_6 : decode cX3_dropBehind 6 = .ok (.istore_n 3, 1) := by decide +kernel
theorem dX3_dropBehind_7 : decode cX3_dropBehind 7 = .ok (.iload_n 3, 1) := by decide +kernel
theorem dX3_dropBehind_8 : decode cX3_dropBehind 8 = .ok (.ifCond .lt 42, 3) := by decide +kernel
theorem dX3_dropBehind_11 : decode cX3_dropBehind 11 = .ok (.aload_n 0, 1) := by decide +kernel
theorem dX3_dropBehind_12 : decode cX3_dropBehind 12 = .ok (.iload_n 3, 1) := by decide +kernel
theorem dX3_dropBehind_13 : decode cX3_dropBehind 13 = .ok (.iload_n 1, 1) := by decide +kernel
theorem dX3_dropBehind_14 : decode cX3_dropBehind 14 = .ok (.invokevirtual 45, 3) := by decide +kernel
theorem dX3_dropBehind_17 : decode cX3_dropBehind 17 = .ok (.ifCond .eq 33, 3) := by decide +kernel
theorem dX3_dropBehind_20 : decode cX3_dropBehind 20 = .ok (.aload_n 0, 1) := by decide +kernel
theorem dX3_dropBehind_21 : decode cX3_dropBehind 21 = .ok (.getfield 19, 3) := by decide +kernel
theorem dX3_dropBehind_24 : decode cX3_dropBehind 24 = .ok (.iload_n 3, 1) := by decide +kernel
theorem dX3_dropBehind_25 : decode cX3_dropBehind 25 = .ok (.iaload, 1) := by decide +kernel
theorem dX3_dropBehind_26 : decode cX3_dropBehind 26 = .ok (.ifCond .ne 13, 3) := by decide +kernel
theorem dX3_dropBehind_29 : decode cX3_dropBehind 29 = .ok (.aload_n 2, 1) := by decide +kernel
theorem dX3_dropBehind_30 : decode cX3_dropBehind 30 = .ok (.aload_n 0, 1) := by decide +kernel
theorem dX3_dropBehind_31 : decode cX3_dropBehind 31 = .ok (.getfield 22, 3) := by decide +kernel
theorem dX3_dropBehind_34 : decode cX3_dropBehind 34 = .ok (.iload_n 3, 1) := by decide +kernel
theorem dX3_dropBehind_35 : decode cX3_dropBehind 35 = .ok (.iaload, 1) := by decide +kernel
theorem dX3_dropBehind_36 : decode cX3_dropBehind 36 = .ok (.invokevirtual 49, 3) := by decide +kernel
theorem dX3_dropBehind_39 : decode cX3_dropBehind 39 = .ok (.aload_n 0, 1) := by decide +kernel
theorem dX3_dropBehind_40 : decode cX3_dropBehind 40 = .ok (.iload_n 3, 1) := by decide +kernel
theorem dX3_dropBehind_41 : decode cX3_dropBehind 41 = .ok (.putfield 9, 3) := by decide +kernel
theorem dX3_dropBehind_44 : decode cX3_dropBehind 44 = .ok (.iinc 3 (-1), 3) := by decide +kernel
theorem dX3_dropBehind_47 : decode cX3_dropBehind 47 = .ok (.goto (-40), 3) := by decide +kernel
theorem dX3_dropBehind_50 : decode cX3_dropBehind 50 = .ok (.return_, 1) := by decide +kernel
theorem dX3_isBehind_0 : decode cX3_isBehind 0 = .ok (.aload_n 0, 1) := by decide +kernel
theorem dX3_isBehind_1 : decode cX3_isBehind 1 = .ok (.iload_n 1, 1) := by decide +kernel
theorem dX3_isBehind_2 : decode cX3_isBehind 2 = .ok (.invokevirtual 40, 3) := by decide +kernel
theorem dX3_isBehind_5 : decode cX3_isBehind 5 = .ok (.ifCond .eq 40, 3) := by decide +kernel
theorem dX3_isBehind_8 : decode cX3_isBehind 8 = .ok (.aload_n 0, 1) := by decide +kernel
theorem dX3_isBehind_9 : decode cX3_isBehind 9 = .ok (.getfield 19, 3) := by decide +kernel
theorem dX3_isBehind_12 : decode cX3_isBehind 12 = .ok (.iload_n 1, 1) := by decide +kernel
theorem dX3_isBehind_13 : decode cX3_isBehind 13 = .ok (.iaload, 1) := by decide +kernel
theorem dX3_isBehind_14 : decode cX3_isBehind 14 = .ok (.iconst 2, 1) := by decide +kernel
theorem dX3_isBehind_15 : decode cX3_isBehind 15 = .ok (.if_icmp .ne 16, 3) := by decide +kernel
theorem dX3_isBehind_18 : decode cX3_isBehind 18 = .ok (.aload_n 0, 1) := by decide +kernel
theorem dX3_isBehind_19 : decode cX3_isBehind 19 = .ok (.getfield 15, 3) := by decide +kernel
theorem dX3_isBehind_22 : decode cX3_isBehind 22 = .ok (.iload_n 1, 1) := by decide +kernel
theorem dX3_isBehind_23 : decode cX3_isBehind 23 = .ok (.iaload, 1) := by decide +kernel
theorem dX3_isBehind_24 : decode cX3_isBehind 24 = .ok (.iload_n 2, 1) := by decide +kernel
theorem dX3_isBehind_25 : decode cX3_isBehind 25 = .ok (.if_icmp .le 20, 3) := by decide +kernel
theorem dX3_isBehind_28 : decode cX3_isBehind 28 = .ok (.goto 13, 3) := by decide +kernel
theorem dX3_isBehind_31 : decode cX3_isBehind 31 = .ok (.aload_n 0, 1) := by decide +kernel
theorem dX3_isBehind_32 : decode cX3_isBehind 32 = .ok (.getfield 15, 3) := by decide +kernel
theorem dX3_isBehind_35 : decode cX3_isBehind 35 = .ok (.iload_n 1, 1) := by decide +kernel
theorem dX3_isBehind_36 : decode cX3_isBehind 36 = .ok (.iaload, 1) := by decide +kernel
theorem dX3_isBehind_37 : decode cX3_isBehind 37 = .ok (.iload_n 2, 1) := by decide +kernel
theorem dX3_isBehind_38 : decode cX3_isBehind 38 = .ok (.if_icmp .lt 7, 3) := by decide +kernel
theorem dX3_isBehind_41 : decode cX3_isBehind 41 = .ok (.iconst 1, 1) := by decide +kernel
theorem dX3_isBehind_42 : decode cX3_isBehind 42 = .ok (.goto 4, 3) := by decide +kernel
theorem dX3_isBehind_45 : decode cX3_isBehind 45 = .ok (.iconst 0, 1) := by decide +kernel
theorem dX3_isBehind_46 : decode cX3_isBehind 46 = .ok (.ireturn, 1) := by decide +kernel
theorem dX4_init_0 : decode cX4_init 0 = .ok (.aload_n 0, 1) := by decide +kernel
theorem dX4_init_1 : decode cX4_init 1 = .ok (.invokespecial 3, 3) := by decide +kernel
theorem dX4_init_4 : decode cX4_init 4 = .ok (.aload_n 0, 1) := by decide +kernel
theorem dX4_init_5 : decode cX4_init 5 = .ok (.sipush 900, 3) := by decide +kernel
theorem dX4_init_8 : decode cX4_init 8 = .ok (.newarray .int, 2) := by decide +kernel
theorem dX4_init_10 : decode cX4_init 10 = .ok (.putfield 9, 3) := by decide +kernel
theorem dX4_init_13 : decode cX4_init 13 = .ok (.aload_n 0, 1) := by decide +kernel
theorem dX4_init_14 : decode cX4_init 14 = .ok (.iconst 0, 1) := by decide +kernel
theorem dX4_init_15 : decode cX4_init 15 = .ok (.putfield 15, 3) := by decide +kernel
theorem dX4_init_18 : decode cX4_init 18 = .ok (.aload_n 0, 1) := by decide +kernel
theorem dX4_init_19 : decode cX4_init 19 = .ok (.iconst 0, 1) := by decide +kernel
theorem dX4_init_20 : decode cX4_init 20 = .ok (.putfield 19, 3) := by decide +kernel
theorem dX4_init_23 : decode cX4_init 23 = .ok (.aload_n 0, 1) := by decide +kernel
theorem dX4_init_24 : decode cX4_init 24 = .ok (.iconst 1, 1) := by decide +kernel
theorem dX4_init_25 : decode cX4_init 25 = .ok (.putfield 22, 3) := by decide +kernel
theorem dX4_init_28 : decode cX4_init 28 = .ok (.return_, 1) := by decide +kernel
theorem dX4_clearInputs_0 : decode cX4_clearInputs 0 = .ok (.aload_n 0, 1) := by decide +kernel
theorem dX4_clearInputs_1 : decode cX4_clearInputs 1 = .ok (.iconst 0, 1) := by decide +kernel
theorem dX4_clearInputs_2 : decode cX4_clearInputs 2 = .ok (.putfield 15, 3) := by decide +kernel
theorem dX4_clearInputs_5 : decode cX4_clearInputs 5 = .ok (.aload_n 0, 1) := by decide +kernel
theorem dX4_clearInputs_6 : decode cX4_clearInputs 6 = .ok (.iconst 0, 1) := by decide +kernel
theorem dX4_clearInputs_7 : decode cX4_clearInputs 7 = .ok (.putfield 19, 3) := by decide +kernel
theorem dX4_clearInputs_10 : decode cX4_clearInputs 10 = .ok (.return_, 1) := by decide +kernel
theorem dX4_addLast_0 : decode cX4_addLast 0 = .ok (.aload_n 0, 1) := by decide +kernel
theorem dX4_addLast_1 : decode cX4_addLast 1 = .ok (.getfield 19, 3) := by decide +kernel
theorem dX4_addLast_4 : decode cX4_addLast 4 = .ok (.sipush 900, 3) := by decide +kernel
theorem dX4_addLast_7 : decode cX4_addLast 7 = .ok (.if_icmp .ge 32, 3) := by decide +kernel
theorem dX4_addLast_10 : decode cX4_addLast 10 = .ok (.aload_n 0, 1) := by decide +kernel
theorem dX4_addLast_11 : decode cX4_addLast 11 = .ok (.getfield 9, 3) := by decide +kernel
theorem dX4_addLast_14 : decode cX4_addLast 14 = .ok (.aload_n 0, 1) := by decide +kernel
theorem dX4_addLast_15 : decode cX4_addLast 15 = .ok (.getfield 15, 3) := by decide +kernel
theorem dX4_addLast_18 : decode cX4_addLast 18 = .ok (.aload_n 0, 1) := by decide +kernel
theorem dX4_addLast_19 : decode cX4_addLast 19 = .ok (.getfield 19, 3) := by decide +kernel
theorem dX4_addLast_22 : decode cX4_addLast 22 = .ok (.iadd, 1) := by decide +kernel
theorem dX4_addLast_23 : decode cX4_addLast 23 = .ok (.sipush 900, 3) := by decide +kernel
theorem dX4_addLast_26 : decode cX4_addLast 26 = .ok (.irem, 1) := by decide +kernel
theorem dX4_addLast_27 : decode cX4_addLast 27 = .ok (.iload_n 1, 1) := by decide +kernel
theorem dX4_addLast_28 : decode cX4_addLast 28 = .ok (.iastore, 1) := by decide +kernel
theorem dX4_addLast_29 : decode cX4_addLast 29 = .ok (.aload_n 0, 1) := by decide +kernel
theorem dX4_addLast_30 : decode cX4_addLast 30 = .ok (.dup, 1) := by decide +kernel
theorem dX4_addLast_31 : decode cX4_addLast 31 = .ok (.getfield 19, 3) := by decide +kernel
theorem dX4_addLast_34 : decode cX4_addLast 34 = .ok (.iconst 1, 1) := by decide +kernel
theorem dX4_addLast_35 : decode cX4_addLast 35 = .ok (.iadd, 1) := by decide +kernel
theorem dX4_addLast_36 : decode cX4_addLast 36 = .ok (.putfield 19, 3) := by decide +kernel
theorem dX4_addLast_39 : decode cX4_addLast 39 = .ok (.return_, 1) := by decide +kernel
theorem dX4_addFirst_0 : decode cX4_addFirst 0 = .ok (.aload_n 0, 1) := by decide +kernel
theorem dX4_addFirst_1 : decode cX4_addFirst 1 = .ok (.getfield 19, 3) := by decide +kernel
theorem dX4_addFirst_4 : decode cX4_addFirst 4 = .ok (.sipush 900, 3) := by decide +kernel
theorem dX4_addFirst_7 : decode cX4_addFirst 7 = .ok (.if_icmp .ge 41, 3) := by decide +kernel
theorem dX4_addFirst_10 : decode cX4_addFirst 10 = .ok (.aload_n 0, 1) := by decide +kernel
theorem dX4_addFirst_11 : decode cX4_addFirst 11 = .ok (.aload_n 0, 1) := by decide +kernel
theorem dX4_addFirst_12 : decode cX4_addFirst 12 = .ok (.getfield 15, 3) := by decide +kernel
theorem dX4_addFirst_15 : decode cX4_addFirst 15 = .ok (.sipush 900, 3) := by decide +kernel
theorem dX4_addFirst_18 : decode cX4_addFirst 18 = .ok (.iadd, 1) := by decide +kernel
theorem dX4_addFirst_19 : decode cX4_addFirst 19 = .ok (.iconst 1, 1) := by decide +kernel
theorem dX4_addFirst_20 : decode cX4_addFirst 20 = .ok (.isub, 1) := by decide +kernel
theorem dX4_addFirst_21 : decode cX4_addFirst 21 = .ok (.sipush 900, 3) := by decide +kernel
theorem dX4_addFirst_24 : decode cX4_addFirst 24 = .ok (.irem, 1) := by decide +kernel
theorem dX4_addFirst_25 : decode cX4_addFirst 25 = .ok (.putfield 15, 3) := by decide +kernel
theorem dX4_addFirst_28 : decode cX4_addFirst 28 = .ok (.aload_n 0, 1) := by decide +kernel
theorem dX4_addFirst_29 : decode cX4_addFirst 29 = .ok (.getfield 9, 3) := by decide +kernel
theorem dX4_addFirst_32 : decode cX4_addFirst 32 = .ok (.aload_n 0, 1) := by decide +kernel
theorem dX4_addFirst_33 : decode cX4_addFirst 33 = .ok (.getfield 15, 3) := by decide +kernel
theorem dX4_addFirst_36 : decode cX4_addFirst 36 = .ok (.iload_n 1, 1) := by decide +kernel
theorem dX4_addFirst_37 : decode cX4_addFirst 37 = .ok (.iastore, 1) := by decide +kernel
theorem dX4_addFirst_38 : decode cX4_addFirst 38 = .ok (.aload_n 0, 1) := by decide +kernel
theorem dX4_addFirst_39 : decode cX4_addFirst 39 = .ok (.dup, 1) := by decide +kernel
theorem dX4_addFirst_40 : decode cX4_addFirst 40 = .ok (.getfield 19, 3) := by decide +kernel
theorem dX4_addFirst_43 : decode cX4_addFirst 43 = .ok (.iconst 1, 1) := by decide +kernel
theorem dX4_addFirst_44 : decode cX4_addFirst 44 = .ok (.iadd, 1) := by decide +kernel
theorem dX4_addFirst_45 : decode cX4_addFirst 45 = .ok (.putfield 19, 3) := by decide +kernel
theorem dX4_addFirst_48 : decode cX4_addFirst 48 = .ok (.return_, 1) := by decide +kernel
theorem dX4_takeFirst_0 : decode cX4_takeFirst 0 = .ok (.aload_n 0, 1) := by decide +kernel
theorem dX4_takeFirst_1 : decode cX4_takeFirst 1 = .ok (.getfield 19, 3) := by decide +kernel
theorem dX4_takeFirst_4 : decode cX4_takeFirst 4 = .ok (.ifCond .gt 5, 3) := by decide +kernel
theorem dX4_takeFirst_7 : decode cX4_takeFirst 7 = .ok (.iconst 0, 1) := by decide +kernel
theorem dX4_takeFirst_8 : decode cX4_takeFirst 8 = .ok (.ireturn, 1) := by decide +kernel
theorem dX4_takeFirst_9 : decode cX4_takeFirst 9 = .ok (.aload_n 0, 1) := by decide +kernel
theorem dX4_takeFirst_10 : decode cX4_takeFirst 10 = .ok (.getfield 9, 3) := by decide +kernel
theorem dX4_takeFirst_13 : decode cX4_takeFirst 13 = .ok (.aload_n 0, 1) := by decide +kernel
theorem dX4_takeFirst_14 : decode cX4_takeFirst 14 = .ok (.getfield 15, 3) := by decide +kernel
theorem dX4_takeFirst_17 : decode cX4_takeFirst 17 = .ok (.iaload, 1) := by decide +kernel
theorem dX4_takeFirst_18 : decode cX4_takeFirst 18 = .ok (.istore_n 1, 1) := by decide +kernel
theorem dX4_takeFirst_19 : decode cX4_takeFirst 19 = .ok (.aload_n 0, 1) := by decide +kernel
theorem dX4_takeFirst_20 : decode cX4_takeFirst 20 = .ok (.aload_n 0, 1) := by decide +kernel
theorem dX4_takeFirst_21 : decode cX4_takeFirst 21 = .ok (.getfield 15, 3) := by decide +kernel
theorem dX4_takeFirst_24 : decode cX4_takeFirst 24 = .ok (.iconst 1, 1) := by decide +kernel
theorem dX4_takeFirst_25 : decode cX4_takeFirst 25 = .ok (.iadd, 1) := by decide +kernel
theorem dX4_takeFirst_26 : decode cX4_takeFirst 26 = .ok (.sipush 900, 3) := by decide +kernel
theorem dX4_takeFirst_29 : decode cX4_takeFirst 29 = .ok (.irem, 1) := by decide +kernel
theorem dX4_takeFirst_30 : decode cX4_takeFirst 30 = .ok (.putfield 15, 3) := by decide +kernel
theorem dX4_takeFirst_33 : decode cX4_takeFirst 33 = .ok (.aload_n 0, 1) := by decide +kernel
theorem dX4_takeFirst_34 : decode cX4_takeFirst 34 = .ok (.dup, 1) := by decide +kernel
theorem dX4_takeFirst_35 : decode cX4_takeFirst 35 = .ok (.getfield 19, 3) := by decide +kernel
theorem dX4_takeFirst_38 : decode cX4_takeFirst 38 = .ok (.iconst 1, 1) := by decide +kernel
theorem dX4_takeFirst_39 : decode cX4_takeFirst 39 = .ok (.isub, 1) := by decide +kernel
theorem dX4_takeFirst_40 : decode cX4_takeFirst 40 = .ok (.putfield 19, 3) := by decide +kernel
theorem dX4_takeFirst_43 : decode cX4_takeFirst 43 = .ok (.iload_n 1, 1) := by decide +kernel
theorem dX4_takeFirst_44 : decode cX4_takeFirst 44 = .ok (.ireturn, 1) := by decide +kernel
theorem dX4_draw_0 : decode cX4_draw 0 = .ok (.aload_n 0, 1) := by decide +kernel
theorem dX4_draw_1 : decode cX4_draw 1 = .ok (.ldc 25, 2) := by decide +kernel
theorem dX4_draw_3 : decode cX4_draw 3 = .ok (.aload_n 0, 1) := by decide +kernel
theorem dX4_draw_4 : decode cX4_draw 4 = .ok (.getfield 22, 3) := by decide +kernel
theorem dX4_draw_7 : decode cX4_draw 7 = .ok (.imul, 1) := by decide +kernel
theorem dX4_draw_8 : decode cX4_draw 8 = .ok (.ldc 26, 2) := by decide +kernel
theorem dX4_draw_10 : decode cX4_draw 10 = .ok (.iadd, 1) := by decide +kernel
theorem dX4_draw_11 : decode cX4_draw 11 = .ok (.putfield 22, 3) := by decide +kernel
theorem dX4_draw_14 : decode cX4_draw 14 = .ok (.iload_n 1, 1) := by decide +kernel
theorem dX4_draw_15 : decode cX4_draw 15 = .ok (.iconst 1, 1) := by decide +kernel
theorem dX4_draw_16 : decode cX4_draw 16 = .ok (.if_icmp .ge 7, 3) := by decide +kernel
theorem dX4_draw_19 : decode cX4_draw 19 = .ok (.iconst 0, 1) := by decide +kernel
theorem dX4_draw_20 : decode cX4_draw 20 = .ok (.goto 12, 3) := by decide +kernel
theorem dX4_draw_23 : decode cX4_draw 23 = .ok (.aload_n 0, 1) := by decide +kernel
theorem dX4_draw_24 : decode cX4_draw 24 = .ok (.getfield 22, 3) := by decide +kernel
theorem dX4_draw_27 : decode cX4_draw 27 = .ok (.bipush 8, 2) := by decide +kernel
theorem dX4_draw_29 : decode cX4_draw 29 = .ok (.iushr, 1) := by decide +kernel
theorem dX4_draw_30 : decode cX4_draw 30 = .ok (.iload_n 1, 1) := by decide +kernel
theorem dX4_draw_31 : decode cX4_draw 31 = .ok (.irem, 1) := by decide +kernel
theorem dX4_draw_32 : decode cX4_draw 32 = .ok (.ireturn, 1) := by decide +kernel
theorem dX5_init_0 : decode cX5_init 0 = .ok (.aload_n 0, 1) := by decide +kernel
theorem dX5_init_1 : decode cX5_init 1 = .ok (.invokespecial 3, 3) := by decide +kernel
theorem dX5_init_4 : decode cX5_init 4 = .ok (.aload_n 0, 1) := by decide +kernel
theorem dX5_init_5 : decode cX5_init 5 = .ok (.bipush 64, 2) := by decide +kernel
theorem dX5_init_7 : decode cX5_init 7 = .ok (.newarray .int, 2) := by decide +kernel
theorem dX5_init_9 : decode cX5_init 9 = .ok (.putfield 9, 3) := by decide +kernel
theorem dX5_init_12 : decode cX5_init 12 = .ok (.aload_n 0, 1) := by decide +kernel
theorem dX5_init_13 : decode cX5_init 13 = .ok (.bipush 64, 2) := by decide +kernel
theorem dX5_init_15 : decode cX5_init 15 = .ok (.newarray .int, 2) := by decide +kernel
theorem dX5_init_17 : decode cX5_init 17 = .ok (.putfield 15, 3) := by decide +kernel
theorem dX5_init_20 : decode cX5_init 20 = .ok (.aload_n 0, 1) := by decide +kernel
theorem dX5_init_21 : decode cX5_init 21 = .ok (.bipush 64, 2) := by decide +kernel
theorem dX5_init_23 : decode cX5_init 23 = .ok (.newarray .int, 2) := by decide +kernel
theorem dX5_init_25 : decode cX5_init 25 = .ok (.putfield 18, 3) := by decide +kernel
theorem dX5_init_28 : decode cX5_init 28 = .ok (.aload_n 0, 1) := by decide +kernel
theorem dX5_init_29 : decode cX5_init 29 = .ok (.bipush 64, 2) := by decide +kernel
theorem dX5_init_31 : decode cX5_init 31 = .ok (.newarray .int, 2) := by decide +kernel
theorem dX5_init_33 : decode cX5_init 33 = .ok (.putfield 21, 3) := by decide +kernel
theorem dX5_init_36 : decode cX5_init 36 = .ok (.aload_n 0, 1) := by decide +kernel
theorem dX5_init_37 : decode cX5_init 37 = .ok (.getfield 9, 3) := by decide +kernel
theorem dX5_init_40 : decode cX5_init 40 = .ok (.iconst (-1), 1) := by decide +kernel
theorem dX5_init_41 : decode cX5_init 41 = .ok (.invokestatic 24, 3) := by decide +kernel
theorem dX5_init_44 : decode cX5_init 44 = .ok (.return_, 1) := by decide +kernel
theorem dX5_write_0 : decode cX5_write 0 = .ok (.iload_n 1, 1) := by decide +kernel
theorem dX5_write_1 : decode cX5_write 1 = .ok (.invokestatic 30, 3) := by decide +kernel
theorem dX5_write_4 : decode cX5_write 4 = .ok (.ifCond .eq 33, 3) := by decide +kernel
theorem dX5_write_7 : decode cX5_write 7 = .ok (.aload_n 0, 1) := by decide +kernel
theorem dX5_write_8 : decode cX5_write 8 = .ok (.getfield 9, 3) := by decide +kernel
theorem dX5_write_11 : decode cX5_write 11 = .ok (.iload_n 1, 1) := by decide +kernel
theorem dX5_write_12 : decode cX5_write 12 = .ok (.iload_n 2, 1) := by decide +kernel
theorem dX5_write_13 : decode cX5_write 13 = .ok (.iastore, 1) := by decide +kernel
theorem dX5_write_14 : decode cX5_write 14 = .ok (.aload_n 0, 1) := by decide +kernel
theorem dX5_write_15 : decode cX5_write 15 = .ok (.getfield 15, 3) := by decide +kernel
theorem dX5_write_18 : decode cX5_write 18 = .ok (.iload_n 1, 1) := by decide +kernel
theorem dX5_write_19 : decode cX5_write 19 = .ok (.iload_n 3, 1) := by decide +kernel
theorem dX5_write_20 : decode cX5_write 20 = .ok (.iastore, 1) := by decide +kernel
theorem dX5_write_21 : decode cX5_write 21 = .ok (.aload_n 0, 1) := by decide +kernel
theorem dX5_write_22 : decode cX5_write 22 = .ok (.getfield 18, 3) := by decide +kernel
theorem dX5_write_25 : decode cX5_write 25 = .ok (.iload_n 1, 1) := by decide +kernel
theorem dX5_write_26 : decode cX5_write 26 = .ok (.iload 4, 2) := by decide +kernel
theorem dX5_write_28 : decode cX5_write 28 = .ok (.iastore, 1) := by decide +kernel
theorem dX5_write_29 : decode cX5_write 29 = .ok (.aload_n 0, 1) := by decide +kernel
theorem dX5_write_30 : decode cX5_write 30 = .ok (.getfield 21, 3) := by decide +kernel
theorem dX5_write_33 : decode cX5_write 33 = .ok (.iload_n 1, 1) := by decide +kernel
theorem dX5_write_34 : decode cX5_write 34 = .ok (.iload 5, 2) := by decide +kernel
theorem dX5_write_36 : decode cX5_write 36 = .ok (.iastore, 1) := by decide +kernel
theorem dX5_write_37 : decode cX5_write 37 = .ok (.return_, 1) := by decide +kernel
theorem dX5_takeFrom_0 : decode cX5_takeFrom 0 = .ok (.iconst 0, 1) := by decide +kernel
theorem dX5_takeFrom_1 : decode cX5_takeFrom 1 = .ok (.istore_n 2, 1) := by decide +kernel
theorem dX5_takeFrom_2 : decode cX5_takeFrom 2 = .ok (.iload_n 2, 1) := by decide +kernel
theorem dX5_takeFrom_3 : decode cX5_takeFrom 3 = .ok (.bipush 64, 2) := by decide +kernel
theorem dX5_takeFrom_5 : decode cX5_takeFrom 5 = .ok (.if_icmp .ge 38, 3) := by decide +kernel
theorem dX5_takeFrom_8 : decode cX5_takeFrom 8 = .ok (.aload_n 0, 1) := by decide +kernel
theorem dX5_takeFrom_9 : decode cX5_takeFrom 9 = .ok (.iload_n 2, 1) := by decide +kernel
theorem dX5_takeFrom_10 : decode cX5_takeFrom 10 = .ok (.aload_n 1, 1) := by decide +kernel
theorem dX5_takeFrom_11 : decode cX5_takeFrom 11 = .ok (.getfield 9, 3) := by decide +kernel
theorem dX5_takeFrom_14 : decode cX5_takeFrom 14 = .ok (.iload_n 2, 1) := by decide +kernel
theorem dX5_takeFrom_15 : decode cX5_takeFrom 15 = .ok (.iaload, 1) := by decide +kernel
theorem dX5_takeFrom_16 : decode cX5_takeFrom 16 = .ok (.aload_n 1, 1) := by decide +kernel
theorem dX5_takeFrom_17 : decode cX5_takeFrom 17 = .ok (.getfield 15, 3) := by decide +kernel
theorem dX5_takeFrom_20 : decode cX5_takeFrom 20 = .ok (.iload_n 2, 1) := by decide +kernel
theorem dX5_takeFrom_21 : decode cX5_takeFrom 21 = .ok (.iaload, 1) := by decide +kernel
theorem dX5_takeFrom_22 : decode cX5_takeFrom 22 = .ok (.aload_n 1, 1) := by decide +kernel
theorem dX5_takeFrom_23 : decode cX5_takeFrom 23 = .ok (.getfield 18, 3) := by decide +kernel
theorem dX5_takeFrom_26 : decode cX5_takeFrom 26 = .ok (.iload_n 2, 1) := by decide +kernel
theorem dX5_takeFrom_27 : decode cX5_takeFrom 27 = .ok (.iaload, 1) := by decide +kernel
theorem dX5_takeFrom_28 : decode cX5_takeFrom 28 = .ok (.aload_n 1, 1) := by decide +kernel
theorem dX5_takeFrom_29 : decode cX5_takeFrom 29 = .ok (.getfield 21, 3) := by decide +kernel
theorem dX5_takeFrom_32 : decode cX5_takeFrom 32 = .ok (.iload_n 2, 1) := by decide +kernel
theorem dX5_takeFrom_33 : decode cX5_takeFrom 33 = .ok (.iaload, 1) := by decide +kernel
theorem dX5_takeFrom_34 : decode cX5_takeFrom 34 = .ok (.invokevirtual 34, 3) := by decide +kernel
theorem dX5_takeFrom_37 : decode cX5_takeFrom 37 = .ok (.iinc 2 1, 3) := by decide +kernel
theorem dX5_takeFrom_40 : decode cX5_takeFrom 40 = .ok (.goto (-38), 3) := by decide +kernel
theorem dX5_takeFrom_43 : decode cX5_takeFrom 43 = .ok (.return_, 1) := by decide +kernel
theorem dX5_size_0 : decode cX5_size 0 = .ok (.iconst 0, 1) := by decide +kernel
theorem dX5_size_1 : decode cX5_size 1 = .ok (.istore_n 1, 1) := by decide +kernel
theorem dX5_size_2 : decode cX5_size 2 = .ok (.iconst 0, 1) := by decide +kernel
theorem dX5_size_3 : decode cX5_size 3 = .ok (.istore_n 2, 1) := by decide +kernel
theorem dX5_size_4 : decode cX5_size 4 = .ok (.iload_n 2, 1) := by decide +kernel
theorem dX5_size_5 : decode cX5_size 5 = .ok (.bipush 64, 2) := by decide +kernel
theorem dX5_size_7 : decode cX5_size 7 = .ok (.if_icmp .ge 22, 3) := by decide +kernel
theorem dX5_size_10 : decode cX5_size 10 = .ok (.aload_n 0, 1) := by decide +kernel
theorem dX5_size_11 : decode cX5_size 11 = .ok (.getfield 9, 3) := by decide +kernel
theorem dX5_size_14 : decode cX5_size 14 = .ok (.iload_n 2, 1) := by decide +kernel
theorem dX5_size_15 : decode cX5_size 15 = .ok (.iaload, 1) := by decide +kernel
theorem dX5_size_16 : decode cX5_size 16 = .ok (.iconst (-1), 1) := by decide +kernel
theorem dX5_size_17 : decode cX5_size 17 = .ok (.if_icmp .eq 6, 3) := by decide +kernel
theorem dX5_size_20 : decode cX5_size 20 = .ok (.iinc 1 1, 3) := by decide +kernel
theorem dX5_size_23 : decode cX5_size 23 = .ok (.iinc 2 1, 3) := by decide +kernel
theorem dX5_size_26 : decode cX5_size 26 = .ok (.goto (-22), 3) := by decide +kernel
theorem dX5_size_29 : decode cX5_size 29 = .ok (.iload_n 1, 1) := by decide +kernel
theorem dX5_size_30 : decode cX5_size 30 = .ok (.ireturn, 1) := by decide +kernel
theorem dX5_kindAt_0 : decode cX5_kindAt 0 = .ok (.iload_n 1, 1) := by decide +kernel
theorem dX5_kindAt_1 : decode cX5_kindAt 1 = .ok (.invokestatic 30, 3) := by decide +kernel
theorem dX5_kindAt_4 : decode cX5_kindAt 4 = .ok (.ifCond .eq 12, 3) := by decide +kernel
theorem dX5_kindAt_7 : decode cX5_kindAt 7 = .ok (.aload_n 0, 1) := by decide +kernel
theorem dX5_kindAt_8 : decode cX5_kindAt 8 = .ok (.getfield 9, 3) := by decide +kernel
theorem dX5_kindAt_11 : decode cX5_kindAt 11 = .ok (.iload_n 1, 1) := by decide +kernel
theorem dX5_kindAt_12 : decode cX5_kindAt 12 = .ok (.iaload, 1) := by decide +kernel
theorem dX5_kindAt_13 : decode cX5_kindAt 13 = .ok (.goto 4, 3) := by decide +kernel
theorem dX5_kindAt_16 : decode cX5_kindAt 16 = .ok (.iconst (-1), 1) := by decide +kernel
theorem dX5_kindAt_17 : decode cX5_kindAt 17 = .ok (.ireturn, 1) := by decide +kernel
theorem dX5_firstAt_0 : decode cX5_firstAt 0 = .ok (.iload_n 1, 1) := by decide +kernel
theorem dX5_firstAt_1 : decode cX5_firstAt 1 = .ok (.invokestatic 30, 3) := by decide +kernel
theorem dX5_firstAt_4 : decode cX5_firstAt 4 = .ok (.ifCond .eq 12, 3) := by decide +kernel
theorem dX5_firstAt_7 : decode cX5_firstAt 7 = .ok (.aload_n 0, 1) := by decide +kernel
theorem dX5_firstAt_8 : decode cX5_firstAt 8 = .ok (.getfield 15, 3) := by decide +kernel
theorem dX5_firstAt_11 : decode cX5_firstAt 11 = .ok (.iload_n 1, 1) := by decide +kernel
theorem dX5_firstAt_12 : decode cX5_firstAt 12 = .ok (.iaload, 1) := by decide +kernel
theorem dX5_firstAt_13 : decode cX5_firstAt 13 = .ok (.goto 4, 3) := by decide +kernel
theorem dX5_firstAt_16 : decode cX5_firstAt 16 = .ok (.iconst 0, 1) := by decide +kernel
theorem dX5_firstAt_17 : decode cX5_firstAt 17 = .ok (.ireturn, 1) := by decide +kernel
theorem dX5_secondAt_0 : decode cX5_secondAt 0 = .ok (.iload_n 1, 1) := by decide +kernel
theorem dX5_secondAt_1 : decode cX5_secondAt 1 = .ok (.invokestatic 30, 3) := by decide +kernel
theorem dX5_secondAt_4 : decode cX5_secondAt 4 = .ok (.ifCond .eq 12, 3) := by decide +kernel
theorem dX5_secondAt_7 : decode cX5_secondAt 7 = .ok (.aload_n 0, 1) := by decide +kernel
theorem dX5_secondAt_8 : decode cX5_secondAt 8 = .ok (.getfield 18, 3) := by decide +kernel
theorem dX5_secondAt_11 : decode cX5_secondAt 11 = .ok (.iload_n 1, 1) := by decide +kernel
theorem dX5_secondAt_12 : decode cX5_secondAt 12 = .ok (.iaload, 1) := by decide +kernel
theorem dX5_secondAt_13 : decode cX5_secondAt 13 = .ok (.goto 4, 3) := by decide +kernel
theorem dX5_secondAt_16 : decode cX5_secondAt 16 = .ok (.iconst 0, 1) := by decide +kernel
theorem dX5_secondAt_17 : decode cX5_secondAt 17 = .ok (.ireturn, 1) := by decide +kernel
theorem dX5_thirdAt_0 : decode cX5_thirdAt 0 = .ok (.iload_n 1, 1) := by decide +kernel
theorem dX5_thirdAt_1 : decode cX5_thirdAt 1 = .ok (.invokestatic 30, 3) := by decide +kernel
theorem dX5_thirdAt_4 : decode cX5_thirdAt 4 = .ok (.ifCond .eq 12, 3) := by decide +kernel
theorem dX5_thirdAt_7 : decode cX5_thirdAt 7 = .ok (.aload_n 0, 1) := by decide +kernel
theorem dX5_thirdAt_8 : decode cX5_thirdAt 8 = .ok (.getfield 21, 3) := by decide +kernel
theorem dX5_thirdAt_11 : decode cX5_thirdAt 11 = .ok (.iload_n 1, 1) := by decide +kernel
theorem dX5_thirdAt_12 : decode cX5_thirdAt 12 = .ok (.iaload, 1) := by decide +kernel
theorem dX5_thirdAt_13 : decode cX5_thirdAt 13 = .ok (.goto 4, 3) := by decide +kernel
theorem dX5_thirdAt_16 : decode cX5_thirdAt 16 = .ok (.iconst 0, 1) := by decide +kernel
theorem dX5_thirdAt_17 : decode cX5_thirdAt 17 = .ok (.ireturn, 1) := by decide +kernel
theorem dX6_init_0 : decode cX6_init 0 = .ok (.aload_n 0, 1) := by decide +kernel
theorem dX6_init_1 : decode cX6_init 1 = .ok (.invokespecial 3, 3) := by decide +kernel
theorem dX6_init_4 : decode cX6_init 4 = .ok (.aload_n 0, 1) := by decide +kernel
theorem dX6_init_5 : decode cX6_init 5 = .ok (.iconst 0, 1) := by decide +kernel
theorem dX6_init_6 : decode cX6_init 6 = .ok (.putfield 9, 3) := by decide +kernel
theorem dX6_init_9 : decode cX6_init 9 = .ok (.aload_n 0, 1) := by decide +kernel
theorem dX6_init_10 : decode cX6_init 10 = .ok (.sipush 3800, 3) := by decide +kernel
theorem dX6_init_13 : decode cX6_init 13 = .ok (.newarray .int, 2) := by decide +kernel
theorem dX6_init_15 : decode cX6_init 15 = .ok (.putfield 15, 3) := by decide +kernel
theorem dX6_init_18 : decode cX6_init 18 = .ok (.aload_n 0, 1) := by decide +kernel
theorem dX6_init_19 : decode cX6_init 19 = .ok (.sipush 3800, 3) := by decide +kernel
theorem dX6_init_22 : decode cX6_init 22 = .ok (.newarray .int, 2) := by decide +kernel
theorem dX6_init_24 : decode cX6_init 24 = .ok (.putfield 19, 3) := by decide +kernel
theorem dX6_init_27 : decode cX6_init 27 = .ok (.aload_n 0, 1) := by decide +kernel
theorem dX6_init_28 : decode cX6_init 28 = .ok (.sipush 3800, 3) := by decide +kernel
theorem dX6_init_31 : decode cX6_init 31 = .ok (.newarray .int, 2) := by decide +kernel
theorem dX6_init_33 : decode cX6_init 33 = .ok (.putfield 22, 3) := by decide +kernel
theorem dX6_init_36 : decode cX6_init 36 = .ok (.aload_n 0, 1) := by decide +kernel
theorem dX6_init_37 : decode cX6_init 37 = .ok (.sipush 3800, 3) := by decide +kernel
theorem dX6_init_40 : decode cX6_init 40 = .ok (.newarray .int, 2) := by decide +kernel
theorem dX6_init_42 : decode cX6_init 42 = .ok (.putfield 25, 3) := by decide +kernel
theorem dX6_init_45 : decode cX6_init 45 = .ok (.aload_n 0, 1) := by decide +kernel
theorem dX6_init_46 : decode cX6_init 46 = .ok (.sipush 3800, 3) := by decide +kernel
theorem dX6_init_49 : decode cX6_init 49 = .ok (.newarray .int, 2) := by decide +kernel
theorem dX6_init_51 : decode cX6_init 51 = .ok (.putfield 28, 3) := by decide +kernel
theorem dX6_init_54 : decode cX6_init 54 = .ok (.aload_n 0, 1) := by decide +kernel
theorem dX6_init_55 : decode cX6_init 55 = .ok (.sipush 3800, 3) := by decide +kernel
theorem dX6_init_58 : decode cX6_init 58 = .ok (.newarray .int, 2) := by decide +kernel
theorem dX6_init_60 : decode cX6_init 60 = .ok (.putfield 31, 3) := by decide +kernel
theorem dX6_init_63 : decode cX6_init 63 = .ok (.aload_n 0, 1) := by decide +kernel
theorem dX6_init_64 : decode cX6_init 64 = .ok (.sipush 3800, 3) := by decide +kernel
theorem dX6_init_67 : decode cX6_init 67 = .ok (.newarray .int, 2) := by decide +kernel
theorem dX6_init_69 : decode cX6_init 69 = .ok (.putfield 34, 3) := by decide +kernel
theorem dX6_init_72 : decode cX6_init 72 = .ok (.aload_n 0, 1) := by decide +kernel
theorem dX6_init_73 : decode cX6_init 73 = .ok (.sipush 3800, 3) := by decide +kernel
theorem dX6_init_76 : decode cX6_init 76 = .ok (.newarray .int, 2) := by decide +kernel
theorem dX6_init_78 : decode cX6_init 78 = .ok (.putfield 37, 3) := by decide +kernel
theorem dX6_init_81 : decode cX6_init 81 = .ok (.aload_n 0, 1) := by decide +kernel
theorem dX6_init_82 : decode cX6_init 82 = .ok (.sipush 3800, 3) := by decide +kernel
theorem dX6_init_85 : decode cX6_init 85 = .ok (.newarray .int, 2) := by decide +kernel
theorem dX6_init_87 : decode cX6_init 87 = .ok (.putfield 40, 3) := by decide +kernel
theorem dX6_init_90 : decode cX6_init 90 = .ok (.aload_n 0, 1) := by decide +kernel
theorem dX6_init_91 : decode cX6_init 91 = .ok (.sipush 3800, 3) := by decide +kernel
theorem dX6_init_94 : decode cX6_init 94 = .ok (.newarray .int, 2) := by decide +kernel
theorem dX6_init_96 : decode cX6_init 96 = .ok (.putfield 43, 3) := by decide +kernel
theorem dX6_init_99 : decode cX6_init 99 = .ok (.aload_n 0, 1) := by decide +kernel
theorem dX6_init_100 : decode cX6_init 100 = .ok (.bipush 40, 2) := by decide +kernel
theorem dX6_init_102 : decode cX6_init 102 = .ok (.newarray .int, 2) := by decide +kernel
theorem dX6_init_104 : decode cX6_init 104 = .ok (.putfield 46, 3) := by decide +kernel
theorem dX6_init_107 : decode cX6_init 107 = .ok (.aload_n 0, 1) := by decide +kernel
theorem dX6_init_108 : decode cX6_init 108 = .ok (.getfield 46, 3) := by decide +kernel
theorem dX6_init_111 : decode cX6_init 111 = .ok (.iconst (-1), 1) := by decide +kernel
theorem dX6_init_112 : decode cX6_init 112 = .ok (.invokestatic 49, 3) := by decide +kernel
theorem dX6_init_115 : decode cX6_init 115 = .ok (.return_, 1) := by decide +kernel
theorem dX6_init__0 : decode cX6_init_ 0 = .ok (.aload_n 0, 1) := by decide +kernel
theorem dX6_init__1 : decode cX6_init_ 1 = .ok (.invokespecial 3, 3) := by decide +kernel
theorem dX6_init__4 : decode cX6_init_ 4 = .ok (.aload_n 0, 1) := by decide +kernel
theorem dX6_init__5 : decode cX6_init_ 5 = .ok (.iconst 0, 1) := by decide +kernel
theorem dX6_init__6 : decode cX6_init_ 6 = .ok (.putfield 9, 3) := by decide +kernel
theorem dX6_init__9 : decode cX6_init_ 9 = .ok (.aload_n 0, 1) := by decide +kernel
theorem dX6_init__10 : decode cX6_init_ 10 = .ok (.aload_n 1, 1) := by decide +kernel
theorem dX6_init__11 : decode cX6_init_ 11 = .ok (.getfield 15, 3) := by decide +kernel
theorem dX6_init__14 : decode cX6_init_ 14 = .ok (.invokevirtual 55, 3) := by decide +kernel
theorem dX6_init__17 : decode cX6_init_ 17 = .ok (.checkcast 56, 3) := by decide +kernel
theorem dX6_init__20 : decode cX6_init_ 20 = .ok (.putfield 15, 3) := by decide +kernel
theorem dX6_init__23 : decode cX6_init_ 23 = .ok (.aload_n 0, 1) := by decide +kernel
theorem dX6_init__24 : decode cX6_init_ 24 = .ok (.aload_n 1, 1) := by decide +kernel
theorem dX6_init__25 : decode cX6_init_ 25 = .ok (.getfield 19, 3) := by decide +kernel
theorem dX6_init__28 : decode cX6_init_ 28 = .ok (.invokevirtual 55, 3) := by decide +kernel
theorem dX6_init__31 : decode cX6_init_ 31 = .ok (.checkcast 56, 3) := by decide +kernel
theorem dX6_init__34 : decode cX6_init_ 34 = .ok (.putfield 19, 3) := by decide +kernel
theorem dX6_init__37 : decode cX6_init_ 37 = .ok (.aload_n 0, 1) := by decide +kernel
theorem dX6_init__38 : decode cX6_init_ 38 = .ok (.aload_n 1, 1) := by decide +kernel
theorem dX6_init__39 : decode cX6_init_ 39 = .ok (.getfield 22, 3) := by decide +kernel
theorem dX6_init__42 : decode cX6_init_ 42 = .ok (.invokevirtual 55, 3) := by decide +kernel
theorem dX6_init__45 : decode cX6_init_ 45 = .ok (.checkcast 56, 3) := by decide +kernel
theorem dX6_init__48 : decode cX6_init_ 48 = .ok (.putfield 22, 3) := by decide +kernel
theorem dX6_init__51 : decode cX6_init_ 51 = .ok (.aload_n 0, 1) := by decide +kernel
theorem dX6_init__52 : decode cX6_init_ 52 = .ok (.aload_n 1, 1) := by decide +kernel
theorem dX6_init__53 : decode cX6_init_ 53 = .ok (.getfield 25, 3) := by decide +kernel
theorem dX6_init__56 : decode cX6_init_ 56 = .ok (.invokevirtual 55, 3) := by decide +kernel
theorem dX6_init__59 : decode cX6_init_ 59 = .ok (.checkcast 56, 3) := by decide +kernel
theorem dX6_init__62 : decode cX6_init_ 62 = .ok (.putfield 25, 3) := by decide +kernel
theorem dX6_init__65 : decode cX6_init_ 65 = .ok (.aload_n 0, 1) := by decide +kernel
theorem dX6_init__66 : decode cX6_init_ 66 = .ok (.aload_n 1, 1) := by decide +kernel
theorem dX6_init__67 : decode cX6_init_ 67 = .ok (.getfield 28, 3) := by decide +kernel
theorem dX6_init__70 : decode cX6_init_ 70 = .ok (.invokevirtual 55, 3) := by decide +kernel
theorem dX6_init__73 : decode cX6_init_ 73 = .ok (.checkcast 56, 3) := by decide +kernel
theorem dX6_init__76 : decode cX6_init_ 76 = .ok (.putfield 28, 3) := by decide +kernel
theorem dX6_init__79 : decode cX6_init_ 79 = .ok (.aload_n 0, 1) := by decide +kernel
theorem dX6_init__80 : decode cX6_init_ 80 = .ok (.aload_n 1, 1) := by decide +kernel
theorem dX6_init__81 : decode cX6_init_ 81 = .ok (.getfield 31, 3) := by decide +kernel
theorem dX6_init__84 : decode cX6_init_ 84 = .ok (.invokevirtual 55, 3) := by decide +kernel
theorem dX6_init__87 : decode cX6_init_ 87 = .ok (.checkcast 56, 3) := by decide +kernel
theorem dX6_init__90 : decode cX6_init_ 90 = .ok (.putfield 31, 3) := by decide +kernel
theorem dX6_init__93 : decode cX6_init_ 93 = .ok (.aload_n 0, 1) := by decide +kernel
theorem dX6_init__94 : decode cX6_init_ 94 = .ok (.aload_n 1, 1) := by decide +kernel
theorem dX6_init__95 : decode cX6_init_ 95 = .ok (.getfield 34, 3) := by decide +kernel
theorem dX6_init__98 : decode cX6_init_ 98 = .ok (.invokevirtual 55, 3) := by decide +kernel
theorem dX6_init__101 : decode cX6_init_ 101 = .ok (.checkcast 56, 3) := by decide +kernel
theorem dX6_init__104 : decode cX6_init_ 104 = .ok (.putfield 34, 3) := by decide +kernel
theorem dX6_init__107 : decode cX6_init_ 107 = .ok (.aload_n 0, 1) := by decide +kernel
theorem dX6_init__108 : decode cX6_init_ 108 = .ok (.aload_n 1, 1) := by decide +kernel
theorem dX6_init__109 : decode cX6_init_ 109 = .ok (.getfield 37, 3) := by decide +kernel
theorem dX6_init__112 : decode cX6_init_ 112 = .ok (.invokevirtual 55, 3) := by decide +kernel
theorem dX6_init__115 : decode cX6_init_ 115 = .ok (.checkcast 56, 3) := by decide +kernel
theorem dX6_init__118 : decode cX6_init_ 118 = .ok (.putfield 37, 3) := by decide +kernel
theorem dX6_init__121 : decode cX6_init_ 121 = .ok (.aload_n 0, 1) := by decide +kernel
theorem dX6_init__122 : decode cX6_init_ 122 = .ok (.aload_n 1, 1) := by decide +kernel
theorem dX6_init__123 : decode cX6_init_ 123 = .ok (.getfield 40, 3) := by decide +kernel
theorem dX6_init__126 : decode cX6_init_ 126 = .ok (.invokevirtual 55, 3) := by decide +kernel
theorem dX6_init__129 : decode cX6_init_ 129 = .ok (.checkcast 56, 3) := by decide +kernel
theorem dX6_init__132 : decode cX6_init_ 132 = .ok (.putfield 40, 3) := by decide +kernel
theorem dX6_init__135 : decode cX6_init_ 135 = .ok (.aload_n 0, 1) := by decide +kernel
theorem dX6_init__136 : decode cX6_init_ 136 = .ok (.aload_n 1, 1) := by decide +kernel
theorem dX6_init__137 : decode cX6_init_ 137 = .ok (.getfield 43, 3) := by decide +kernel
theorem dX6_init__140 : decode cX6_init_ 140 = .ok (.invokevirtual 55, 3) := by decide +kernel
theorem dX6_init__143 : decode cX6_init_ 143 = .ok (.checkcast 56, 3) := by decide +kernel
theorem dX6_init__146 : decode cX6_init_ 146 = .ok (.putfield 43, 3) := by decide +kernel
theorem dX6_init__149 : decode cX6_init_ 149 = .ok (.aload_n 0, 1) := by decide +kernel
theorem dX6_init__150 : decode cX6_init_ 150 = .ok (.aload_n 1, 1) := by decide +kernel
theorem dX6_init__151 : decode cX6_init_ 151 = .ok (.getfield 46, 3) := by decide +kernel
theorem dX6_init__154 : decode cX6_init_ 154 = .ok (.invokevirtual 55, 3) := by decide +kernel
theorem dX6_init__157 : decode cX6_init_ 157 = .ok (.checkcast 56, 3) := by decide +kernel
theorem dX6_init__160 : decode cX6_init_ 160 = .ok (.putfield 46, 3) := by decide +kernel
theorem dX6_init__163 : decode cX6_init_ 163 = .ok (.aload_n 0, 1) := by decide +kernel
theorem dX6_init__164 : decode cX6_init_ 164 = .ok (.aload_n 1, 1) := by decide +kernel
theorem dX6_init__165 : decode cX6_init_ 165 = .ok (.getfield 9, 3) := by decide +kernel
theorem dX6_init__168 : decode cX6_init_ 168 = .ok (.putfield 9, 3) := by decide +kernel
theorem dX6_init__171 : decode cX6_init_ 171 = .ok (.return_, 1) := by decide +kernel
theorem dX6_clear_0 : decode cX6_clear 0 = .ok (.aload_n 0, 1) := by decide +kernel
theorem dX6_clear_1 : decode cX6_clear 1 = .ok (.iconst 0, 1) := by decide +kernel
theorem dX6_clear_2 : decode cX6_clear 2 = .ok (.putfield 9, 3) := by decide +kernel
theorem dX6_clear_5 : decode cX6_clear 5 = .ok (.aload_n 0, 1) := by decide +kernel
theorem dX6_clear_6 : decode cX6_clear 6 = .ok (.getfield 46, 3) := by decide +kernel
theorem dX6_clear_9 : decode cX6_clear 9 = .ok (.iconst (-1), 1) := by decide +kernel
theorem dX6_clear_10 : decode cX6_clear 10 = .ok (.invokestatic 49, 3) := by decide +kernel
theorem dX6_clear_13 : decode cX6_clear 13 = .ok (.return_, 1) := by decide +kernel
theorem dX6_has_0 : decode cX6_has 0 = .ok (.iload_n 1, 1) := by decide +kernel
theorem dX6_has_1 : decode cX6_has 1 = .ok (.ifCond .lt 22, 3) := by decide +kernel
theorem dX6_has_4 : decode cX6_has 4 = .ok (.iload_n 1, 1) := by decide +kernel
theorem dX6_has_5 : decode cX6_has 5 = .ok (.aload_n 0, 1) := by decide +kernel
theorem dX6_has_6 : decode cX6_has 6 = .ok (.getfield 9, 3) := by decide +kernel
theorem dX6_has_9 : decode cX6_has 9 = .ok (.if_icmp .ge 14, 3) := by decide +kernel
theorem dX6_has_12 : decode cX6_has 12 = .ok (.iload_n 1, 1) := by decide +kernel
theorem dX6_has_13 : decode cX6_has 13 = .ok (.sipush 3800, 3) := by decide +kernel
theorem dX6_has_16 : decode cX6_has 16 = .ok (.if_icmp .ge 7, 3) := by decide +kernel
theorem dX6_has_19 : decode cX6_has 19 = .ok (.iconst 1, 1) := by decide +kernel
theorem dX6_has_20 : decode cX6_has 20 = .ok (.goto 4, 3) := by decide +kernel
theorem dX6_has_23 : decode cX6_has 23 = .ok (.iconst 0, 1) := by decide +kernel
theorem dX6_has_24 : decode cX6_has 24 = .ok (.ireturn, 1) := by decide +kernel
theorem dX6_timeOf_0 : decode cX6_timeOf 0 = .ok (.aload_n 0, 1) := by decide +kernel
theorem dX6_timeOf_1 : decode cX6_timeOf 1 = .ok (.iload_n 1, 1) := by decide +kernel
theorem dX6_timeOf_2 : decode cX6_timeOf 2 = .ok (.invokevirtual 60, 3) := by decide +kernel
theorem dX6_timeOf_5 : decode cX6_timeOf 5 = .ok (.ifCond .eq 12, 3) := by decide +kernel
theorem dX6_timeOf_8 : decode cX6_timeOf 8 = .ok (.aload_n 0, 1) := by decide +kernel
theorem dX6_timeOf_9 : decode cX6_timeOf 9 = .ok (.getfield 15, 3) := by decide +kernel
theorem dX6_timeOf_12 : decode cX6_timeOf 12 = .ok (.iload_n 1, 1) := by decide +kernel
theorem dX6_timeOf_13 : decode cX6_timeOf 13 = .ok (.iaload, 1) := by decide +kernel
theorem dX6_timeOf_14 : decode cX6_timeOf 14 = .ok (.goto 4, 3) := by decide +kernel
theorem dX6_timeOf_17 : decode cX6_timeOf 17 = .ok (.iconst 0, 1) := by decide +kernel
theorem dX6_timeOf_18 : decode cX6_timeOf 18 = .ok (.ireturn, 1) := by decide +kernel
theorem dX6_placeOf_0 : decode cX6_placeOf 0 = .ok (.aload_n 0, 1) := by decide +kernel
theorem dX6_placeOf_1 : decode cX6_placeOf 1 = .ok (.iload_n 1, 1) := by decide +kernel
theorem dX6_placeOf_2 : decode cX6_placeOf 2 = .ok (.invokevirtual 60, 3) := by decide +kernel
theorem dX6_placeOf_5 : decode cX6_placeOf 5 = .ok (.ifCond .eq 12, 3) := by decide +kernel
theorem dX6_placeOf_8 : decode cX6_placeOf 8 = .ok (.aload_n 0, 1) := by decide +kernel
theorem dX6_placeOf_9 : decode cX6_placeOf 9 = .ok (.getfield 19, 3) := by decide +kernel
theorem dX6_placeOf_12 : decode cX6_placeOf 12 = .ok (.iload_n 1, 1) := by decide +kernel
theorem dX6_placeOf_13 : decode cX6_placeOf 13 = .ok (.iaload, 1) := by decide +kernel
theorem dX6_placeOf_14 : decode cX6_placeOf 14 = .ok (.goto 4, 3) := by decide +kernel
theorem dX6_placeOf_17 : decode cX6_placeOf 17 = .ok (.iconst (-1), 1) := by decide +kernel
theorem dX6_placeOf_18 : decode cX6_placeOf 18 = .ok (.ireturn, 1) := by decide +kernel
theorem dX6_sortOf_0 : decode cX6_sortOf 0 = .ok (.iload_n 1, 1) := by decide +kernel
theorem dX6_sortOf_1 : decode cX6_sortOf 1 = .ok (.ifCond .lt 27, 3) := by decide +kernel
theorem dX6_sortOf_4 : decode cX6_sortOf 4 = .ok (.iload_n 1, 1) := by decide +kernel
theorem dX6_sortOf_5 : decode cX6_sortOf 5 = .ok (.aload_n 0, 1) := by decide +kernel
theorem dX6_sortOf_6 : decode cX6_sortOf 6 = .ok (.getfield 9, 3) := by decide +kernel
theorem dX6_sortOf_9 : decode cX6_sortOf 9 = .ok (.if_icmp .ge 19, 3) := by decide +kernel
theorem dX6_sortOf_12 : decode cX6_sortOf 12 = .ok (.iload_n 1, 1) := by decide +kernel
theorem dX6_sortOf_13 : decode cX6_sortOf 13 = .ok (.sipush 3800, 3) := by decide +kernel
theorem dX6_sortOf_16 : decode cX6_sortOf 16 = .ok (.if_icmp .ge 12, 3) := by decide +kernel
theorem dX6_sortOf_19 : decode cX6_sortOf 19 = .ok (.aload_n 0, 1) := by decide +kernel
theorem dX6_sortOf_20 : decode cX6_sortOf 20 = .ok (.getfield 22, 3) := by decide +kernel
theorem dX6_sortOf_23 : decode cX6_sortOf 23 = .ok (.iload_n 1, 1) := by decide +kernel
theorem dX6_sortOf_24 : decode cX6_sortOf 24 = .ok (.iaload, 1) := by decide +kernel
theorem dX6_sortOf_25 : decode cX6_sortOf 25 = .ok (.goto 4, 3) := by decide +kernel
theorem dX6_sortOf_28 : decode cX6_sortOf 28 = .ok (.iconst 0, 1) := by decide +kernel
theorem dX6_sortOf_29 : decode cX6_sortOf 29 = .ok (.ireturn, 1) := by decide +kernel
theorem dX6_numberOf_0 : decode cX6_numberOf 0 = .ok (.iload_n 1, 1) := by decide +kernel
theorem dX6_numberOf_1 : decode cX6_numberOf 1 = .ok (.ifCond .lt 27, 3) := by decide +kernel
theorem dX6_numberOf_4 : decode cX6_numberOf 4 = .ok (.iload_n 1, 1) := by decide +kernel
theorem dX6_numberOf_5 : decode cX6_numberOf 5 = .ok (.aload_n 0, 1) := by decide +kernel
theorem dX6_numberOf_6 : decode cX6_numberOf 6 = .ok (.getfield 9, 3) := by decide +kernel
theorem dX6_numberOf_9 : decode cX6_numberOf 9 = .ok (.if_icmp .ge 19, 3) := by decide +kernel
theorem dX6_numberOf_12 : decode cX6_numberOf 12 = .ok (.iload_n 1, 1) := by decide +kernel
theorem dX6_numberOf_13 : decode cX6_numberOf 13 = .ok (.sipush 3800, 3) := by decide +kernel
theorem dX6_numberOf_16 : decode cX6_numberOf 16 = .ok (.if_icmp .ge 12, 3) := by decide +kernel
theorem dX6_numberOf_19 : decode cX6_numberOf 19 = .ok (.aload_n 0, 1) := by decide +kernel
theorem dX6_numberOf_20 : decode cX6_numberOf 20 = .ok (.getfield 25, 3) := by decide +kernel
theorem dX6_numberOf_23 : decode cX6_numberOf 23 = .ok (.iload_n 1, 1) := by decide +kernel
theorem dX6_numberOf_24 : decode cX6_numberOf 24 = .ok (.iaload, 1) := by decide +kernel
theorem dX6_numberOf_25 : decode cX6_numberOf 25 = .ok (.goto 4, 3) := by decide +kernel
theorem dX6_numberOf_28 : decode cX6_numberOf 28 = .ok (.iconst 0, 1) := by decide +kernel
theorem dX6_numberOf_29 : decode cX6_numberOf 29 = .ok (.ireturn, 1) := by decide +kernel
theorem dX6_changesOf_0 : decode cX6_changesOf 0 = .ok (.aload_n 0, 1) := by decide +kernel
theorem dX6_changesOf_1 : decode cX6_changesOf 1 = .ok (.iload_n 1, 1) := by decide +kernel
theorem dX6_changesOf_2 : decode cX6_changesOf 2 = .ok (.invokevirtual 60, 3) := by decide +kernel
theorem dX6_changesOf_5 : decode cX6_changesOf 5 = .ok (.ifCond .eq 12, 3) := by decide +kernel
theorem dX6_changesOf_8 : decode cX6_changesOf 8 = .ok (.aload_n 0, 1) := by decide +kernel
theorem dX6_changesOf_9 : decode cX6_changesOf 9 = .ok (.getfield 28, 3) := by decide +kernel
theorem dX6_changesOf_12 : decode cX6_changesOf 12 = .ok (.iload_n 1, 1) := by decide +kernel
theorem dX6_changesOf_13 : decode cX6_changesOf 13 = .ok (.iaload, 1) := by decide +kernel
theorem dX6_changesOf_14 : decode cX6_changesOf 14 = .ok (.goto 4, 3) := by decide +kernel
theorem dX6_changesOf_17 : decode cX6_changesOf 17 = .ok (.iconst 0, 1) := by decide +kernel
theorem dX6_changesOf_18 : decode cX6_changesOf 18 = .ok (.ireturn, 1) := by decide +kernel
theorem dX6_aheadOf_0 : decode cX6_aheadOf 0 = .ok (.aload_n 0, 1) := by decide +kernel
theorem dX6_aheadOf_1 : decode cX6_aheadOf 1 = .ok (.iload_n 1, 1) := by decide +kernel
theorem dX6_aheadOf_2 : decode cX6_aheadOf 2 = .ok (.invokevirtual 60, 3) := by decide +kernel
theorem dX6_aheadOf_5 : decode cX6_aheadOf 5 = .ok (.ifCond .eq 12, 3) := by decide +kernel
theorem dX6_aheadOf_8 : decode cX6_aheadOf 8 = .ok (.aload_n 0, 1) := by decide +kernel
theorem dX6_aheadOf_9 : decode cX6_aheadOf 9 = .ok (.getfield 31, 3) := by decide +kernel
theorem dX6_aheadOf_12 : decode cX6_aheadOf 12 = .ok (.iload_n 1, 1) := by decide +kernel
theorem dX6_aheadOf_13 : decode cX6_aheadOf 13 = .ok (.iaload, 1) := by decide +kernel
theorem dX6_aheadOf_14 : decode cX6_aheadOf 14 = .ok (.goto 4, 3) := by decide +kernel
theorem dX6_aheadOf_17 : decode cX6_aheadOf 17 = .ok (.iconst (-1), 1) := by decide +kernel
theorem dX6_aheadOf_18 : decode cX6_aheadOf 18 = .ok (.ireturn, 1) := by decide +kernel
theorem dX6_latestOf_0 : decode cX6_latestOf 0 = .ok (.iload_n 1, 1) := by decide +kernel
theorem dX6_latestOf_1 : decode cX6_latestOf 1 = .ok (.invokestatic 64, 3) := by decide +kernel
theorem dX6_latestOf_4 : decode cX6_latestOf 4 = .ok (.ifCond .eq 12, 3) := by decide +kernel
theorem dX6_latestOf_7 : decode cX6_latestOf 7 = .ok (.aload_n 0, 1) := by decide +kernel
theorem dX6_latestOf_8 : decode cX6_latestOf 8 = .ok (.getfield 46, 3) := by decide +kernel
theorem dX6_latestOf_11 : decode cX6_latestOf 11 = .ok (.iload_n 1, 1) := by decide +kernel
theorem dX6_latestOf_12 : decode cX6_latestOf 12 = .ok (.iaload, 1) := by decide +kernel
theorem dX6_latestOf_13 : decode cX6_latestOf 13 = .ok (.goto 4, 3) := by decide +kernel
theorem dX6_latestOf_16 : decode cX6_latestOf 16 = .ok (.iconst (-1), 1) := by decide +kernel
theorem dX6_latestOf_17 : decode cX6_latestOf 17 = .ok (.ireturn, 1) := by decide +kernel
theorem dX6_hasValue_0 : decode cX6_hasValue 0 = .ok (.aload_n 0, 1) := by decide +kernel
theorem dX6_hasValue_1 : decode cX6_hasValue 1 = .ok (.iload_n 1, 1) := by decide +kernel
theorem dX6_hasValue_2 : decode cX6_hasValue 2 = .ok (.invokevirtual 67, 3) := by decide +kernel
theorem dX6_hasValue_5 : decode cX6_hasValue 5 = .ok (.iload_n 2, 1) := by decide +kernel
theorem dX6_hasValue_6 : decode cX6_hasValue 6 = .ok (.if_icmp .ne 16, 3) := by decide +kernel
theorem dX6_hasValue_9 : decode cX6_hasValue 9 = .ok (.aload_n 0, 1) := by decide +kernel
theorem dX6_hasValue_10 : decode cX6_hasValue 10 = .ok (.iload_n 1, 1) := by decide +kernel
theorem dX6_hasValue_11 : decode cX6_hasValue 11 = .ok (.invokevirtual 71, 3) := by decide +kernel
theorem dX6_hasValue_14 : decode cX6_hasValue 14 = .ok (.iload_n 3, 1) := by decide +kernel
theorem dX6_hasValue_15 : decode cX6_hasValue 15 = .ok (.if_icmp .ne 7, 3) := by decide +kernel
theorem dX6_hasValue_18 : decode cX6_hasValue 18 = .ok (.iconst 1, 1) := by decide +kernel
theorem dX6_hasValue_19 : decode cX6_hasValue 19 = .ok (.goto 4, 3) := by decide +kernel
theorem dX6_hasValue_22 : decode cX6_hasValue 22 = .ok (.iconst 0, 1) := by decide +kernel
theorem dX6_hasValue_23 : decode cX6_hasValue 23 = .ok (.ireturn, 1) := by decide +kernel
theorem dX6_add_0 : decode cX6_add 0 = .ok (.iload_n 2, 1) := by decide +kernel
theorem dX6_add_1 : decode cX6_add 1 = .ok (.invokestatic 64, 3) := by decide +kernel
theorem dX6_add_4 : decode cX6_add 4 = .ok (.ifCond .eq 20, 3) := by decide +kernel
theorem dX6_add_7 : decode cX6_add 7 = .ok (.aload_n 0, 1) := by decide +kernel
theorem dX6_add_8 : decode cX6_add 8 = .ok (.getfield 9, 3) := by decide +kernel
theorem dX6_add_11 : decode cX6_add 11 = .ok (.ifCond .lt 13, 3) := by decide +kernel
theorem dX6_add_14 : decode cX6_add 14 = .ok (.aload_n 0, 1) := by decide +kernel
theorem dX6_add_15 : decode cX6_add 15 = .ok (.getfield 9, 3) := by decide +kernel
theorem dX6_add_18 : decode cX6_add 18 = .ok (.sipush 3800, 3) := by decide +kernel
theorem dX6_add_21 : decode cX6_add 21 = .ok (.if_icmp .lt 5, 3) := by decide +kernel
theorem dX6_add_24 : decode cX6_add 24 = .ok (.iconst 0, 1) := by decide +kernel
theorem dX6_add_25 : decode cX6_add 25 = .ok (.ireturn, 1) := by decide +kernel
theorem dX6_add_26 : decode cX6_add 26 = .ok (.aload_n 0, 1) := by decide +kernel
theorem dX6_add_27 : decode cX6_add 27 = .ok (.getfield 46, 3) := by decide +kernel
theorem dX6_add_30 : decode cX6_add 30 = .ok (.iload_n 2, 1) := by decide +kernel
theorem dX6_add_31 : decode cX6_add 31 = .ok (.iaload, 1) := by decide +kernel
theorem dX6_add_32 : decode cX6_add 32 = .ok (.istore 5, 2) := by decide +kernel
theorem dX6_add_34 : decode cX6_add 34 = .ok (.aload_n 0, 1) := by decide +kernel
theorem dX6_add_35 : decode cX6_add 35 = .ok (.iload 5, 2) := by decide +kernel
theorem dX6_add_37 : decode cX6_add 37 = .ok (.iload_n 3, 1) := by decide +kernel
theorem dX6_add_38 : decode cX6_add 38 = .ok (.iload 4, 2) := by decide +kernel
theorem dX6_add_40 : decode cX6_add 40 = .ok (.invokevirtual 74, 3) := by decide +kernel
theorem dX6_add_43 : decode cX6_add 43 = .ok (.ifCond .ne 7, 3) := by decide +kernel
theorem dX6_add_46 : decode cX6_add 46 = .ok (.iconst 1, 1) := by decide +kernel
theorem dX6_add_47 : decode cX6_add 47 = .ok (.goto 4, 3) := by decide +kernel
theorem dX6_add_50 : decode cX6_add 50 = .ok (.iconst 0, 1) := by decide +kernel
theorem dX6_add_51 : decode cX6_add 51 = .ok (.istore 6, 2) := by decide +kernel
theorem dX6_add_53 : decode cX6_add 53 = .ok (.aload_n 0, 1) := by decide +kernel
theorem dX6_add_54 : decode cX6_add 54 = .ok (.getfield 15, 3) := by decide +kernel
theorem dX6_add_57 : decode cX6_add 57 = .ok (.aload_n 0, 1) := by decide +kernel
theorem dX6_add_58 : decode cX6_add 58 = .ok (.getfield 9, 3) := by decide +kernel
theorem dX6_add_61 : decode cX6_add 61 = .ok (.iload_n 1, 1) := by decide +kernel
theorem dX6_add_62 : decode cX6_add 62 = .ok (.iastore, 1) := by decide +kernel
theorem dX6_add_63 : decode cX6_add 63 = .ok (.aload_n 0, 1) := by decide +kernel
theorem dX6_add_64 : decode cX6_add 64 = .ok (.getfield 19, 3) := by decide +kernel
theorem dX6_add_67 : decode cX6_add 67 = .ok (.aload_n 0, 1) := by decide +kernel
theorem dX6_add_68 : decode cX6_add 68 = .ok (.getfield 9, 3) := by decide +kernel
theorem dX6_add_71 : decode cX6_add 71 = .ok (.iload_n 2, 1) := by decide +kernel
theorem dX6_add_72 : decode cX6_add 72 = .ok (.iastore, 1) := by decide +kernel
theorem dX6_add_73 : decode cX6_add 73 = .ok (.aload_n 0, 1) := by decide +kernel
theorem dX6_add_74 : decode cX6_add 74 = .ok (.getfield 22, 3) := by decide +kernel
theorem dX6_add_77 : decode cX6_add 77 = .ok (.aload_n 0, 1) := by decide +kernel
theorem dX6_add_78 : decode cX6_add 78 = .ok (.getfield 9, 3) := by decide +kernel
theorem dX6_add_81 : decode cX6_add 81 = .ok (.iload_n 3, 1) := by decide +kernel
theorem dX6_add_82 : decode cX6_add 82 = .ok (.iastore, 1) := by decide +kernel
theorem dX6_add_83 : decode cX6_add 83 = .ok (.aload_n 0, 1) := by decide +kernel
theorem dX6_add_84 : decode cX6_add 84 = .ok (.getfield 25, 3) := by decide +kernel
theorem dX6_add_87 : decode cX6_add 87 = .ok (.aload_n 0, 1) := by decide +kernel
theorem dX6_add_88 : decode cX6_add 88 = .ok (.getfield 9, 3) := by decide +kernel
theorem dX6_add_91 : decode cX6_add 91 = .ok (.iload 4, 2) := by decide +kernel
theorem dX6_add_93 : decode cX6_add 93 = .ok (.iastore, 1) := by decide +kernel
theorem dX6_add_94 : decode cX6_add 94 = .ok (.aload_n 0, 1) := by decide +kernel
theorem dX6_add_95 : decode cX6_add 95 = .ok (.getfield 28, 3) := by decide +kernel
theorem dX6_add_98 : decode cX6_add 98 = .ok (.aload_n 0, 1) := by decide +kernel
theorem dX6_add_99 : decode cX6_add 99 = .ok (.getfield 9, 3) := by decide +kernel
theorem dX6_add_102 : decode cX6_add 102 = .ok (.aload_n 0, 1) := by decide +kernel
theorem dX6_add_103 : decode cX6_add 103 = .ok (.iload 5, 2) := by decide +kernel
theorem dX6_add_105 : decode cX6_add 105 = .ok (.invokevirtual 78, 3) := by decide +kernel
theorem dX6_add_108 : decode cX6_add 108 = .ok (.iload 6, 2) := by decide +kernel
theorem dX6_add_110 : decode cX6_add 110 = .ok (.ifCond .eq 7, 3) := by decide +kernel
theorem dX6_add_113 : decode cX6_add 113 = .ok (.iconst 1, 1) := by decide +kernel
theorem dX6_add_114 : decode cX6_add 114 = .ok (.goto 4, 3) := by decide +kernel
theorem dX6_add_117 : decode cX6_add 117 = .ok (.iconst 0, 1) := by decide +kernel
theorem dX6_add_118 : decode cX6_add 118 = .ok (.iadd, 1) := by decide +kernel
theorem dX6_add_119 : decode cX6_add 119 = .ok (.iastore, 1) := by decide +kernel
theorem dX6_add_120 : decode cX6_add 120 = .ok (.aload_n 0, 1) := by decide +kernel
theorem dX6_add_121 : decode cX6_add 121 = .ok (.getfield 31, 3) := by decide +kernel
theorem dX6_add_124 : decode cX6_add 124 = .ok (.aload_n 0, 1) := by decide +kernel
theorem dX6_add_125 : decode cX6_add 125 = .ok (.getfield 9, 3) := by decide +kernel
theorem dX6_add_128 : decode cX6_add 128 = .ok (.iload 5, 2) := by decide +kernel
theorem dX6_add_130 : decode cX6_add 130 = .ok (.iastore, 1) := by decide +kernel
theorem dX6_add_131 : decode cX6_add 131 = .ok (.aload_n 0, 1) := by decide +kernel
theorem dX6_add_132 : decode cX6_add 132 = .ok (.getfield 46, 3) := by decide +kernel
theorem dX6_add_135 : decode cX6_add 135 = .ok (.iload_n 2, 1) := by decide +kernel
theorem dX6_add_136 : decode cX6_add 136 = .ok (.aload_n 0, 1) := by decide +kernel
theorem dX6_add_137 : decode cX6_add 137 = .ok (.getfield 9, 3) := by decide +kernel
theorem dX6_add_140 : decode cX6_add 140 = .ok (.iastore, 1) := by decide +kernel
theorem dX6_add_141 : decode cX6_add 141 = .ok (.aload_n 0, 1) := by decide +kernel
theorem dX6_add_142 : decode cX6_add 142 = .ok (.dup, 1) := by decide +kernel
theorem dX6_add_143 : decode cX6_add 143 = .ok (.getfield 9, 3) := by decide +kernel
theorem dX6_add_146 : decode cX6_add 146 = .ok (.iconst 1, 1) := by decide +kernel
theorem dX6_add_147 : decode cX6_add 147 = .ok (.iadd, 1) := by decide +kernel
theorem dX6_add_148 : decode cX6_add 148 = .ok (.putfield 9, 3) := by decide +kernel
theorem dX6_add_151 : decode cX6_add 151 = .ok (.iload 6, 2) := by decide +kernel
theorem dX6_add_153 : decode cX6_add 153 = .ok (.ireturn, 1) := by decide +kernel
theorem dX6_restLatestOn_0 : decode cX6_restLatestOn 0 = .ok (.aload_n 0, 1) := by decide +kernel
theorem dX6_restLatestOn_1 : decode cX6_restLatestOn 1 = .ok (.getfield 9, 3) := by decide +kernel
theorem dX6_restLatestOn_4 : decode cX6_restLatestOn 4 = .ok (.iconst 1, 1) := by decide +kernel
theorem dX6_restLatestOn_5 : decode cX6_restLatestOn 5 = .ok (.isub, 1) := by decide +kernel
theorem dX6_restLatestOn_6 : decode cX6_restLatestOn 6 = .ok (.istore 5, 2) := by decide +kernel
theorem dX6_restLatestOn_8 : decode cX6_restLatestOn 8 = .ok (.aload_n 0, 1) := by decide +kernel
theorem dX6_restLatestOn_9 : decode cX6_restLatestOn 9 = .ok (.iload 5, 2) := by decide +kernel
theorem dX6_restLatestOn_11 : decode cX6_restLatestOn 11 = .ok (.invokevirtual 60, 3) := by decide +kernel
theorem dX6_restLatestOn_14 : decode cX6_restLatestOn 14 = .ok (.ifCond .eq 36, 3) := by decide +kernel
theorem dX6_restLatestOn_17 : decode cX6_restLatestOn 17 = .ok (.aload_n 0, 1) := by decide +kernel
theorem dX6_restLatestOn_18 : decode cX6_restLatestOn 18 = .ok (.getfield 34, 3) := by decide +kernel
theorem dX6_restLatestOn_21 : decode cX6_restLatestOn 21 = .ok (.iload 5, 2) := by decide +kernel
theorem dX6_restLatestOn_23 : decode cX6_restLatestOn 23 = .ok (.iload_n 1, 1) := by decide +kernel
theorem dX6_restLatestOn_24 : decode cX6_restLatestOn 24 = .ok (.iastore, 1) := by decide +kernel
theorem dX6_restLatestOn_25 : decode cX6_restLatestOn 25 = .ok (.aload_n 0, 1) := by decide +kernel
theorem dX6_restLatestOn_26 : decode cX6_restLatestOn 26 = .ok (.getfield 37, 3) := by decide +kernel
theorem dX6_restLatestOn_29 : decode cX6_restLatestOn 29 = .ok (.iload 5, 2) := by decide +kernel
theorem dX6_restLatestOn_31 : decode cX6_restLatestOn 31 = .ok (.iload_n 2, 1) := by decide +kernel
theorem dX6_restLatestOn_32 : decode cX6_restLatestOn 32 = .ok (.iastore, 1) := by decide +kernel
theorem dX6_restLatestOn_33 : decode cX6_restLatestOn 33 = .ok (.aload_n 0, 1) := by decide +kernel
theorem dX6_restLatestOn_34 : decode cX6_restLatestOn 34 = .ok (.getfield 40, 3) := by decide +kernel
theorem dX6_restLatestOn_37 : decode cX6_restLatestOn 37 = .ok (.iload 5, 2) := by decide +kernel
theorem dX6_restLatestOn_39 : decode cX6_restLatestOn 39 = .ok (.iload_n 3, 1) := by decide +kernel
theorem dX6_restLatestOn_40 : decode cX6_restLatestOn 40 = .ok (.iastore, 1) := by decide +kernel
theorem dX6_restLatestOn_41 : decode cX6_restLatestOn 41 = .ok (.aload_n 0, 1) := by decide +kernel
theorem dX6_restLatestOn_42 : decode cX6_restLatestOn 42 = .ok (.getfield 43, 3) := by decide +kernel
theorem dX6_restLatestOn_45 : decode cX6_restLatestOn 45 = .ok (.iload 5, 2) := by decide +kernel
theorem dX6_restLatestOn_47 : decode cX6_restLatestOn 47 = .ok (.iload 4, 2) := by decide +kernel
theorem dX6_restLatestOn_49 : decode cX6_restLatestOn 49 = .ok (.iastore, 1) := by decide +kernel
theorem dX6_restLatestOn_50 : decode cX6_restLatestOn 50 = .ok (.return_, 1) := by decide +kernel
theorem dX6_dropBehind_0 : decode cX6_dropBehind 0 = .ok (.aload_n 0, 1) := by decide +kernel
theorem dX6_dropBehind_1 : decode cX6_dropBehind 1 = .ok (.getfield 9, 3) := by decide +kernel
theorem dX6_dropBehind_4 : decode cX6_dropBehind 4 = .ok (.iconst 1, 1) := by decide +kernel
theorem dX6_dropBehind_5 : decode cX6_dropBehind 5 = .ok (.isub, 1) := by decide +kernel
theorem dX6_dropBehind_6 : decode cX6_dropBehind 6 = .ok (.istore_n 2, 1) := by decide +kernel
theorem dX6_dropBehind_7 : decode cX6_dropBehind 7 = .ok (.iload_n 2, 1) := by decide +kernel
theorem dX6_dropBehind_8 : decode cX6_dropBehind 8 = .ok (.ifCond .lt 52, 3) := by decide +kernel
theorem dX6_dropBehind_11 : decode cX6_dropBehind 11 = .ok (.aload_n 0, 1) := by decide +kernel
theorem dX6_dropBehind_12 : decode cX6_dropBehind 12 = .ok (.iload_n 2, 1) := by decide +kernel
theorem dX6_dropBehind_13 : decode cX6_dropBehind 13 = .ok (.invokevirtual 81, 3) := by decide +kernel
theorem dX6_dropBehind_16 : decode cX6_dropBehind 16 = .ok (.iload_n 1, 1) := by decide +kernel
theorem dX6_dropBehind_17 : decode cX6_dropBehind 17 = .ok (.if_icmp .le 43, 3) := by decide +kernel
theorem dX6_dropBehind_20 : decode cX6_dropBehind 20 = .ok (.aload_n 0, 1) := by decide +kernel
theorem dX6_dropBehind_21 : decode cX6_dropBehind 21 = .ok (.getfield 19, 3) := by decide +kernel
theorem dX6_dropBehind_24 : decode cX6_dropBehind 24 = .ok (.iload_n 2, 1) := by decide +kernel
theorem dX6_dropBehind_25 : decode cX6_dropBehind 25 = .ok (.iaload, 1) := by decide +kernel
theorem dX6_dropBehind_26 : decode cX6_dropBehind 26 = .ok (.invokestatic 64, 3) := by decide +kernel
theorem dX6_dropBehind_29 : decode cX6_dropBehind 29 = .ok (.ifCond .eq 20, 3) := by decide +kernel
theorem dX6_dropBehind_32 : decode cX6_dropBehind 32 = .ok (.aload_n 0, 1) := by decide +kernel
theorem dX6_dropBehind_33 : decode cX6_dropBehind 33 = .ok (.getfield 46, 3) := by decide +kernel
theorem dX6_dropBehind_36 : decode cX6_dropBehind 36 = .ok (.aload_n 0, 1) := by decide +kernel
theorem dX6_dropBehind_37 : decode cX6_dropBehind 37 = .ok (.getfield 19, 3) := by decide +kernel
theorem dX6_dropBehind_40 : decode cX6_dropBehind 40 = .ok (.iload_n 2, 1) := by decide +kernel
theorem dX6_dropBehind_41 : decode cX6_dropBehind 41 = .ok (.iaload, 1) := by decide +kernel
theorem dX6_dropBehind_42 : decode cX6_dropBehind 42 = .ok (.aload_n 0, 1) := by decide +kernel
theorem dX6_dropBehind_43 : decode cX6_dropBehind 43 = .ok (.getfield 31, 3) := by decide +kernel
theorem dX6_dropBehind_46 : decode cX6_dropBehind 46 = .ok (.iload_n 2, 1) := by decide +kernel
theorem dX6_dropBehind_47 : decode cX6_dropBehind 47 = .ok (.iaload, 1) := by decide +kernel
theorem dX6_dropBehind_48 : decode cX6_dropBehind 48 = .ok (.iastore, 1) := by decide +kernel
theorem dX6_dropBehind_49 : decode cX6_dropBehind 49 = .ok (.aload_n 0, 1) := by decide +kernel
theorem dX6_dropBehind_50 : decode cX6_dropBehind 50 = .ok (.iload_n 2, 1) := by decide +kernel
theorem dX6_dropBehind_51 : decode cX6_dropBehind 51 = .ok (.putfield 9, 3) := by decide +kernel
theorem dX6_dropBehind_54 : decode cX6_dropBehind 54 = .ok (.iinc 2 (-1), 3) := by decide +kernel
theorem dX6_dropBehind_57 : decode cX6_dropBehind 57 = .ok (.goto (-50), 3) := by decide +kernel
theorem dX6_dropBehind_60 : decode cX6_dropBehind 60 = .ok (.return_, 1) := by decide +kernel
theorem dX6_putBy_0 : decode cX6_putBy 0 = .ok (.aload_n 0, 1) := by decide +kernel
theorem dX6_putBy_1 : decode cX6_putBy 1 = .ok (.iload_n 2, 1) := by decide +kernel
theorem dX6_putBy_2 : decode cX6_putBy 2 = .ok (.invokevirtual 84, 3) := by decide +kernel
theorem dX6_putBy_5 : decode cX6_putBy 5 = .ok (.istore_n 3, 1) := by decide +kernel
theorem dX6_putBy_6 : decode cX6_putBy 6 = .ok (.aload_n 0, 1) := by decide +kernel
theorem dX6_putBy_7 : decode cX6_putBy 7 = .ok (.getfield 9, 3) := by decide +kernel
theorem dX6_putBy_10 : decode cX6_putBy 10 = .ok (.istore 4, 2) := by decide +kernel
theorem dX6_putBy_12 : decode cX6_putBy 12 = .ok (.iload 4, 2) := by decide +kernel
theorem dX6_putBy_14 : decode cX6_putBy 14 = .ok (.ifCond .le 24, 3) := by decide +kernel
theorem dX6_putBy_17 : decode cX6_putBy 17 = .ok (.aload_n 0, 1) := by decide +kernel
theorem dX6_putBy_18 : decode cX6_putBy 18 = .ok (.iload_n 3, 1) := by decide +kernel
theorem dX6_putBy_19 : decode cX6_putBy 19 = .ok (.invokevirtual 81, 3) := by decide +kernel
theorem dX6_putBy_22 : decode cX6_putBy 22 = .ok (.iload_n 1, 1) := by decide +kernel
theorem dX6_putBy_23 : decode cX6_putBy 23 = .ok (.if_icmp .le 15, 3) := by decide +kernel
theorem dX6_putBy_26 : decode cX6_putBy 26 = .ok (.aload_n 0, 1) := by decide +kernel
theorem dX6_putBy_27 : decode cX6_putBy 27 = .ok (.iload_n 3, 1) := by decide +kernel
theorem dX6_putBy_28 : decode cX6_putBy 28 = .ok (.invokevirtual 87, 3) := by decide +kernel
theorem dX6_putBy_31 : decode cX6_putBy 31 = .ok (.istore_n 3, 1) := by decide +kernel
theorem dX6_putBy_32 : decode cX6_putBy 32 = .ok (.iinc 4 (-1), 3) := by decide +kernel
theorem dX6_putBy_35 : decode cX6_putBy 35 = .ok (.goto (-23), 3) := by decide +kernel
theorem dX6_putBy_38 : decode cX6_putBy 38 = .ok (.iload_n 3, 1) := by decide +kernel
theorem dX6_putBy_39 : decode cX6_putBy 39 = .ok (.ireturn, 1) := by decide +kernel
theorem dX6_changedSince_0 : decode cX6_changedSince 0 = .ok (.iload_n 1, 1) := by decide +kernel
theorem dX6_changedSince_1 : decode cX6_changedSince 1 = .ok (.istore_n 2, 1) := by decide +kernel
theorem dX6_changedSince_2 : decode cX6_changedSince 2 = .ok (.aload_n 0, 1) := by decide +kernel
theorem dX6_changedSince_3 : decode cX6_changedSince 3 = .ok (.getfield 9, 3) := by decide +kernel
theorem dX6_changedSince_6 : decode cX6_changedSince 6 = .ok (.istore_n 3, 1) := by decide +kernel
theorem dX6_changedSince_7 : decode cX6_changedSince 7 = .ok (.iload_n 3, 1) := by decide +kernel
theorem dX6_changedSince_8 : decode cX6_changedSince 8 = .ok (.ifCond .le 47, 3) := by decide +kernel
theorem dX6_changedSince_11 : decode cX6_changedSince 11 = .ok (.aload_n 0, 1) := by decide +kernel
theorem dX6_changedSince_12 : decode cX6_changedSince 12 = .ok (.aload_n 0, 1) := by decide +kernel
theorem dX6_changedSince_13 : decode cX6_changedSince 13 = .ok (.iload_n 2, 1) := by decide +kernel
theorem dX6_changedSince_14 : decode cX6_changedSince 14 = .ok (.invokevirtual 87, 3) := by decide +kernel
theorem dX6_changedSince_17 : decode cX6_changedSince 17 = .ok (.invokevirtual 60, 3) := by decide +kernel
theorem dX6_changedSince_20 : decode cX6_changedSince 20 = .ok (.ifCond .eq 35, 3) := by decide +kernel
theorem dX6_changedSince_23 : decode cX6_changedSince 23 = .ok (.aload_n 0, 1) := by decide +kernel
theorem dX6_changedSince_24 : decode cX6_changedSince 24 = .ok (.aload_n 0, 1) := by decide +kernel
theorem dX6_changedSince_25 : decode cX6_changedSince 25 = .ok (.iload_n 2, 1) := by decide +kernel
theorem dX6_changedSince_26 : decode cX6_changedSince 26 = .ok (.invokevirtual 87, 3) := by decide +kernel
theorem dX6_changedSince_29 : decode cX6_changedSince 29 = .ok (.invokevirtual 78, 3) := by decide +kernel
theorem dX6_changedSince_32 : decode cX6_changedSince 32 = .ok (.aload_n 0, 1) := by decide +kernel
theorem dX6_changedSince_33 : decode cX6_changedSince 33 = .ok (.iload_n 1, 1) := by decide +kernel
theorem dX6_changedSince_34 : decode cX6_changedSince 34 = .ok (.invokevirtual 78, 3) := by decide +kernel
theorem dX6_changedSince_37 : decode cX6_changedSince 37 = .ok (.if_icmp .eq 6, 3) := by decide +kernel
theorem dX6_changedSince_40 : decode cX6_changedSince 40 = .ok (.goto 15, 3) := by decide +kernel
theorem dX6_changedSince_43 : decode cX6_changedSince 43 = .ok (.aload_n 0, 1) := by decide +kernel
theorem dX6_changedSince_44 : decode cX6_changedSince 44 = .ok (.iload_n 2, 1) := by decide +kernel
theorem dX6_changedSince_45 : decode cX6_changedSince 45 = .ok (.invokevirtual 87, 3) := by decide +kernel
theorem dX6_changedSince_48 : decode cX6_changedSince 48 = .ok (.istore_n 2, 1) := by decide +kernel
theorem dX6_changedSince_49 : decode cX6_changedSince 49 = .ok (.iinc 3 (-1), 3) := by decide +kernel
theorem dX6_changedSince_52 : decode cX6_changedSince 52 = .ok (.goto (-45), 3) := by decide +kernel
theorem dX6_changedSince_55 : decode cX6_changedSince 55 = .ok (.aload_n 0, 1) := by decide +kernel
theorem dX6_changedSince_56 : decode cX6_changedSince 56 = .ok (.iload_n 2, 1) := by decide +kernel
theorem dX6_changedSince_57 : decode cX6_changedSince 57 = .ok (.invokevirtual 81, 3) := by decide +kernel
theorem dX6_changedSince_60 : decode cX6_changedSince 60 = .ok (.ireturn, 1) := by decide +kernel
theorem dX6_hadBy_0 : decode cX6_hadBy 0 = .ok (.iload_n 1, 1) := by decide +kernel
theorem dX6_hadBy_1 : decode cX6_hadBy 1 = .ok (.istore 5, 2) := by decide +kernel
theorem dX6_hadBy_3 : decode cX6_hadBy 3 = .ok (.aload_n 0, 1) := by decide +kernel
theorem dX6_hadBy_4 : decode cX6_hadBy 4 = .ok (.iload_n 2, 1) := by decide +kernel
theorem dX6_hadBy_5 : decode cX6_hadBy 5 = .ok (.invokevirtual 84, 3) := by decide +kernel
theorem dX6_hadBy_8 : decode cX6_hadBy 8 = .ok (.istore 6, 2) := by decide +kernel
theorem dX6_hadBy_10 : decode cX6_hadBy 10 = .ok (.aload_n 0, 1) := by decide +kernel
theorem dX6_hadBy_11 : decode cX6_hadBy 11 = .ok (.getfield 9, 3) := by decide +kernel
theorem dX6_hadBy_14 : decode cX6_hadBy 14 = .ok (.istore 7, 2) := by decide +kernel
theorem dX6_hadBy_16 : decode cX6_hadBy 16 = .ok (.iload 7, 2) := by decide +kernel
theorem dX6_hadBy_18 : decode cX6_hadBy 18 = .ok (.ifCond .lt 58, 3) := by decide +kernel
theorem dX6_hadBy_21 : decode cX6_hadBy 21 = .ok (.iload 5, 2) := by decide +kernel
theorem dX6_hadBy_23 : decode cX6_hadBy 23 = .ok (.ifCond .lt 53, 3) := by decide +kernel
theorem dX6_hadBy_26 : decode cX6_hadBy 26 = .ok (.aload_n 0, 1) := by decide +kernel
theorem dX6_hadBy_27 : decode cX6_hadBy 27 = .ok (.iload 6, 2) := by decide +kernel
theorem dX6_hadBy_29 : decode cX6_hadBy 29 = .ok (.invokevirtual 81, 3) := by decide +kernel
theorem dX6_hadBy_32 : decode cX6_hadBy 32 = .ok (.iload 5, 2) := by decide +kernel
theorem dX6_hadBy_34 : decode cX6_hadBy 34 = .ok (.if_icmp .gt 28, 3) := by decide +kernel
theorem dX6_hadBy_37 : decode cX6_hadBy 37 = .ok (.aload_n 0, 1) := by decide +kernel
theorem dX6_hadBy_38 : decode cX6_hadBy 38 = .ok (.iload 6, 2) := by decide +kernel
theorem dX6_hadBy_40 : decode cX6_hadBy 40 = .ok (.iload_n 3, 1) := by decide +kernel
theorem dX6_hadBy_41 : decode cX6_hadBy 41 = .ok (.iload 4, 2) := by decide +kernel
theorem dX6_hadBy_43 : decode cX6_hadBy 43 = .ok (.invokevirtual 74, 3) := by decide +kernel
theorem dX6_hadBy_46 : decode cX6_hadBy 46 = .ok (.ifCond .eq 6, 3) := by decide +kernel
theorem dX6_hadBy_49 : decode cX6_hadBy 49 = .ok (.iload 5, 2) := by decide +kernel
theorem dX6_hadBy_51 : decode cX6_hadBy 51 = .ok (.ireturn, 1) := by decide +kernel
theorem dX6_hadBy_52 : decode cX6_hadBy 52 = .ok (.aload_n 0, 1) := by decide +kernel
theorem dX6_hadBy_53 : decode cX6_hadBy 53 = .ok (.iload 6, 2) := by decide +kernel
theorem dX6_hadBy_55 : decode cX6_hadBy 55 = .ok (.invokevirtual 81, 3) := by decide +kernel
theorem dX6_hadBy_58 : decode cX6_hadBy 58 = .ok (.iconst 1, 1) := by decide +kernel
theorem dX6_hadBy_59 : decode cX6_hadBy 59 = .ok (.isub, 1) := by decide +kernel
theorem dX6_hadBy_60 : decode cX6_hadBy 60 = .ok (.istore 5, 2) := by decide +kernel
theorem dX6_hadBy_62 : decode cX6_hadBy 62 = .ok (.aload_n 0, 1) := by decide +kernel
theorem dX6_hadBy_63 : decode cX6_hadBy 63 = .ok (.iload 6, 2) := by decide +kernel
theorem dX6_hadBy_65 : decode cX6_hadBy 65 = .ok (.invokevirtual 87, 3) := by decide +kernel
theorem dX6_hadBy_68 : decode cX6_hadBy 68 = .ok (.istore 6, 2) := by decide +kernel
theorem dX6_hadBy_70 : decode cX6_hadBy 70 = .ok (.iinc 7 (-1), 3) := by decide +kernel
theorem dX6_hadBy_73 : decode cX6_hadBy 73 = .ok (.goto (-57), 3) := by decide +kernel
theorem dX6_hadBy_76 : decode cX6_hadBy 76 = .ok (.iconst (-1), 1) := by decide +kernel
theorem dX6_hadBy_77 : decode cX6_hadBy 77 = .ok (.ireturn, 1) := by decide +kernel
theorem dX6_changeTimes_0 : decode cX6_changeTimes 0 = .ok (.iconst 0, 1) := by decide +kernel
theorem dX6_changeTimes_1 : decode cX6_changeTimes 1 = .ok (.istore_n 3, 1) := by decide +kernel
theorem dX6_changeTimes_2 : decode cX6_changeTimes 2 = .ok (.iconst (-1), 1) := by decide +kernel
theorem dX6_changeTimes_3 : decode cX6_changeTimes 3 = .ok (.istore 4, 2) := by decide +kernel
theorem dX6_changeTimes_5 : decode cX6_changeTimes 5 = .ok (.iconst 0, 1) := by decide +kernel
theorem dX6_changeTimes_6 : decode cX6_changeTimes 6 = .ok (.istore 5, 2) := by decide +kernel
theorem dX6_changeTimes_8 : decode cX6_changeTimes 8 = .ok (.iload 5, 2) := by decide +kernel
theorem dX6_changeTimes_10 : decode cX6_changeTimes 10 = .ok (.aload_n 0, 1) := by decide +kernel
theorem dX6_changeTimes_11 : decode cX6_changeTimes 11 = .ok (.getfield 9, 3) := by decide +kernel
theorem dX6_changeTimes_14 : decode cX6_changeTimes 14 = .ok (.if_icmp .ge 86, 3) := by decide +kernel
theorem dX6_changeTimes_17 : decode cX6_changeTimes 17 = .ok (.iload 5, 2) := by decide +kernel
theorem dX6_changeTimes_19 : decode cX6_changeTimes 19 = .ok (.sipush 3800, 3) := by decide +kernel
theorem dX6_changeTimes_22 : decode cX6_changeTimes 22 = .ok (.if_icmp .ge 78, 3) := by decide +kernel
theorem dX6_changeTimes_25 : decode cX6_changeTimes 25 = .ok (.aload_n 0, 1) := by decide +kernel
theorem dX6_changeTimes_26 : decode cX6_changeTimes 26 = .ok (.getfield 19, 3) := by decide +kernel
theorem dX6_changeTimes_29 : decode cX6_changeTimes 29 = .ok (.iload 5, 2) := by decide +kernel
theorem dX6_changeTimes_31 : decode cX6_changeTimes 31 = .ok (.iaload, 1) := by decide +kernel
theorem dX6_changeTimes_32 : decode cX6_changeTimes 32 = .ok (.iload_n 1, 1) := by decide +kernel
theorem dX6_changeTimes_33 : decode cX6_changeTimes 33 = .ok (.if_icmp .ne 61, 3) := by decide +kernel
theorem dX6_changeTimes_36 : decode cX6_changeTimes 36 = .ok (.aload_n 0, 1) := by decide +kernel
theorem dX6_changeTimes_37 : decode cX6_changeTimes 37 = .ok (.getfield 15, 3) := by decide +kernel
theorem dX6_changeTimes_40 : decode cX6_changeTimes 40 = .ok (.iload 5, 2) := by decide +kernel
theorem dX6_changeTimes_42 : decode cX6_changeTimes 42 = .ok (.iaload, 1) := by decide +kernel
theorem dX6_changeTimes_43 : decode cX6_changeTimes 43 = .ok (.iload 4, 2) := by decide +kernel
theorem dX6_changeTimes_45 : decode cX6_changeTimes 45 = .ok (.if_icmp .eq 49, 3) := by decide +kernel
theorem dX6_changeTimes_48 : decode cX6_changeTimes 48 = .ok (.aload_n 0, 1) := by decide +kernel
theorem dX6_changeTimes_49 : decode cX6_changeTimes 49 = .ok (.getfield 28, 3) := by decide +kernel
theorem dX6_changeTimes_52 : decode cX6_changeTimes 52 = .ok (.iload 5, 2) := by decide +kernel
theorem dX6_changeTimes_54 : decode cX6_changeTimes 54 = .ok (.iaload, 1) := by decide +kernel
theorem dX6_changeTimes_55 : decode cX6_changeTimes 55 = .ok (.aload_n 0, 1) := by decide +kernel
theorem dX6_changeTimes_56 : decode cX6_changeTimes 56 = .ok (.aload_n 0, 1) := by decide +kernel
theorem dX6_changeTimes_57 : decode cX6_changeTimes 57 = .ok (.getfield 31, 3) := by decide +kernel
theorem dX6_changeTimes_60 : decode cX6_changeTimes 60 = .ok (.iload 5, 2) := by decide +kernel
theorem dX6_changeTimes_62 : decode cX6_changeTimes 62 = .ok (.iaload, 1) := by decide +kernel
theorem dX6_changeTimes_63 : decode cX6_changeTimes 63 = .ok (.invokevirtual 78, 3) := by decide +kernel
theorem dX6_changeTimes_66 : decode cX6_changeTimes 66 = .ok (.if_icmp .eq 28, 3) := by decide +kernel
theorem dX6_changeTimes_69 : decode cX6_changeTimes 69 = .ok (.iload_n 3, 1) := by decide +kernel
theorem dX6_changeTimes_70 : decode cX6_changeTimes 70 = .ok (.iload_n 2, 1) := by decide +kernel
theorem dX6_changeTimes_71 : decode cX6_changeTimes 71 = .ok (.if_icmp .ne 11, 3) := by decide +kernel
theorem dX6_changeTimes_74 : decode cX6_changeTimes 74 = .ok (.aload_n 0, 1) := by decide +kernel
theorem dX6_changeTimes_75 : decode cX6_changeTimes 75 = .ok (.getfield 15, 3) := by decide +kernel
theorem dX6_changeTimes_78 : decode cX6_changeTimes 78 = .ok (.iload 5, 2) := by decide +kernel
theorem dX6_changeTimes_80 : decode cX6_changeTimes 80 = .ok (.iaload, 1) := by decide +kernel
theorem dX6_changeTimes_81 : decode cX6_changeTimes 81 = .ok (.ireturn, 1) := by decide +kernel
theorem dX6_changeTimes_82 : decode cX6_changeTimes 82 = .ok (.aload_n 0, 1) := by decide +kernel
theorem dX6_changeTimes_83 : decode cX6_changeTimes 83 = .ok (.getfield 15, 3) := by decide +kernel
theorem dX6_changeTimes_86 : decode cX6_changeTimes 86 = .ok (.iload 5, 2) := by decide +kernel
theorem dX6_changeTimes_88 : decode cX6_changeTimes 88 = .ok (.iaload, 1) := by decide +kernel
theorem dX6_changeTimes_89 : decode cX6_changeTimes 89 = .ok (.istore 4, 2) := by decide +kernel
theorem dX6_changeTimes_91 : decode cX6_changeTimes 91 = .ok (.iinc 3 1, 3) := by decide +kernel
theorem dX6_changeTimes_94 : decode cX6_changeTimes 94 = .ok (.iinc 5 1, 3) := by decide +kernel
theorem dX6_changeTimes_97 : decode cX6_changeTimes 97 = .ok (.goto (-89), 3) := by decide +kernel
theorem dX6_changeTimes_100 : decode cX6_changeTimes 100 = .ok (.iload_n 2, 1) := by decide +kernel
theorem dX6_changeTimes_101 : decode cX6_changeTimes 101 = .ok (.iconst (-1), 1) := by decide +kernel
theorem dX6_changeTimes_102 : decode cX6_changeTimes 102 = .ok (.if_icmp .ne 7, 3) := by decide +kernel
theorem dX6_changeTimes_105 : decode cX6_changeTimes 105 = .ok (.iload_n 3, 1) := by decide +kernel
theorem dX6_changeTimes_106 : decode cX6_changeTimes 106 = .ok (.goto 4, 3) := by decide +kernel
theorem dX6_changeTimes_109 : decode cX6_changeTimes 109 = .ok (.iconst (-1), 1) := by decide +kernel
theorem dX6_changeTimes_110 : decode cX6_changeTimes 110 = .ok (.ireturn, 1) := by decide +kernel
theorem dX6_markAllBelow_0 : decode cX6_markAllBelow 0 = .ok (.aload_n 2, 1) := by decide +kernel
theorem dX6_markAllBelow_1 : decode cX6_markAllBelow 1 = .ok (.iconst 0, 1) := by decide +kernel
theorem dX6_markAllBelow_2 : decode cX6_markAllBelow 2 = .ok (.invokestatic 90, 3) := by decide +kernel
theorem dX6_markAllBelow_5 : decode cX6_markAllBelow 5 = .ok (.aload_n 0, 1) := by decide +kernel
theorem dX6_markAllBelow_6 : decode cX6_markAllBelow 6 = .ok (.aload_n 2, 1) := by decide +kernel
theorem dX6_markAllBelow_7 : decode cX6_markAllBelow 7 = .ok (.iload_n 1, 1) := by decide +kernel
theorem dX6_markAllBelow_8 : decode cX6_markAllBelow 8 = .ok (.invokevirtual 93, 3) := by decide +kernel
theorem dX6_markAllBelow_11 : decode cX6_markAllBelow 11 = .ok (.iload_n 1, 1) := by decide +kernel
theorem dX6_markAllBelow_12 : decode cX6_markAllBelow 12 = .ok (.aload_n 0, 1) := by decide +kernel
theorem dX6_markAllBelow_13 : decode cX6_markAllBelow 13 = .ok (.getfield 9, 3) := by decide +kernel
theorem dX6_markAllBelow_16 : decode cX6_markAllBelow 16 = .ok (.iconst 1, 1) := by decide +kernel
theorem dX6_markAllBelow_17 : decode cX6_markAllBelow 17 = .ok (.isub, 1) := by decide +kernel
theorem dX6_markAllBelow_18 : decode cX6_markAllBelow 18 = .ok (.invokestatic 97, 3) := by decide +kernel
theorem dX6_markAllBelow_21 : decode cX6_markAllBelow 21 = .ok (.istore_n 3, 1) := by decide +kernel
theorem dX6_markAllBelow_22 : decode cX6_markAllBelow 22 = .ok (.iload_n 3, 1) := by decide +kernel
theorem dX6_markAllBelow_23 : decode cX6_markAllBelow 23 = .ok (.ifCond .lt 39, 3) := by decide +kernel
theorem dX6_markAllBelow_26 : decode cX6_markAllBelow 26 = .ok (.aload_n 2, 1) := by decide +kernel
theorem dX6_markAllBelow_27 : decode cX6_markAllBelow 27 = .ok (.iload_n 3, 1) := by decide +kernel
theorem dX6_markAllBelow_28 : decode cX6_markAllBelow 28 = .ok (.invokestatic 103, 3) := by decide +kernel
theorem dX6_markAllBelow_31 : decode cX6_markAllBelow 31 = .ok (.ifCond .eq 25, 3) := by decide +kernel
theorem dX6_markAllBelow_34 : decode cX6_markAllBelow 34 = .ok (.aload_n 0, 1) := by decide +kernel
theorem dX6_markAllBelow_35 : decode cX6_markAllBelow 35 = .ok (.aload_n 2, 1) := by decide +kernel
theorem dX6_markAllBelow_36 : decode cX6_markAllBelow 36 = .ok (.aload_n 0, 1) := by decide +kernel
theorem dX6_markAllBelow_37 : decode cX6_markAllBelow 37 = .ok (.getfield 40, 3) := by decide +kernel
theorem dX6_markAllBelow_40 : decode cX6_markAllBelow 40 = .ok (.iload_n 3, 1) := by decide +kernel
theorem dX6_markAllBelow_41 : decode cX6_markAllBelow 41 = .ok (.iaload, 1) := by decide +kernel
theorem dX6_markAllBelow_42 : decode cX6_markAllBelow 42 = .ok (.invokevirtual 93, 3) := by decide +kernel
theorem dX6_markAllBelow_45 : decode cX6_markAllBelow 45 = .ok (.aload_n 0, 1) := by decide +kernel
theorem dX6_markAllBelow_46 : decode cX6_markAllBelow 46 = .ok (.aload_n 2, 1) := by decide +kernel
theorem dX6_markAllBelow_47 : decode cX6_markAllBelow 47 = .ok (.aload_n 0, 1) := by decide +kernel
theorem dX6_markAllBelow_48 : decode cX6_markAllBelow 48 = .ok (.getfield 43, 3) := by decide +kernel
theorem dX6_markAllBelow_51 : decode cX6_markAllBelow 51 = .ok (.iload_n 3, 1) := by decide +kernel
theorem dX6_markAllBelow_52 : decode cX6_markAllBelow 52 = .ok (.iaload, 1) := by decide +kernel
theorem dX6_markAllBelow_53 : decode cX6_markAllBelow 53 = .ok (.invokevirtual 93, 3) := by decide +kernel
theorem dX6_markAllBelow_56 : decode cX6_markAllBelow 56 = .ok (.iinc 3 (-1), 3) := by decide +kernel
theorem dX6_markAllBelow_59 : decode cX6_markAllBelow 59 = .ok (.goto (-37), 3) := by decide +kernel
theorem dX6_markAllBelow_62 : decode cX6_markAllBelow 62 = .ok (.return_, 1) := by decide +kernel
theorem dX6_mark_0 : decode cX6_mark 0 = .ok (.aload_n 0, 1) := by decide +kernel
theorem dX6_mark_1 : decode cX6_mark 1 = .ok (.iload_n 2, 1) := by decide +kernel
theorem dX6_mark_2 : decode cX6_mark 2 = .ok (.invokevirtual 60, 3) := by decide +kernel
theorem dX6_mark_5 : decode cX6_mark 5 = .ok (.ifCond .eq 13, 3) := by decide +kernel
theorem dX6_mark_8 : decode cX6_mark 8 = .ok (.iload_n 2, 1) := by decide +kernel
theorem dX6_mark_9 : decode cX6_mark 9 = .ok (.aload_n 1, 1) := by decide +kernel
theorem dX6_mark_10 : decode cX6_mark 10 = .ok (.arraylength, 1) := by decide +kernel
theorem dX6_mark_11 : decode cX6_mark 11 = .ok (.if_icmp .ge 7, 3) := by decide +kernel
theorem dX6_mark_14 : decode cX6_mark 14 = .ok (.aload_n 1, 1) := by decide +kernel
theorem dX6_mark_15 : decode cX6_mark 15 = .ok (.iload_n 2, 1) := by decide +kernel
theorem dX6_mark_16 : decode cX6_mark 16 = .ok (.iconst 1, 1) := by decide +kernel
theorem dX6_mark_17 : decode cX6_mark 17 = .ok (.bastore, 1) := by decide +kernel
theorem dX6_mark_18 : decode cX6_mark 18 = .ok (.return_, 1) := by decide +kernel
theorem dX6_markedStep_0 : decode cX6_markedStep 0 = .ok (.iconst 0, 1) := by decide +kernel
theorem dX6_markedStep_1 : decode cX6_markedStep 1 = .ok (.istore_n 3, 1) := by decide +kernel
theorem dX6_markedStep_2 : decode cX6_markedStep 2 = .ok (.iconst 0, 1) := by decide +kernel
theorem dX6_markedStep_3 : decode cX6_markedStep 3 = .ok (.istore 4, 2) := by decide +kernel
theorem dX6_markedStep_5 : decode cX6_markedStep 5 = .ok (.iload 4, 2) := by decide +kernel
theorem dX6_markedStep_7 : decode cX6_markedStep 7 = .ok (.aload_n 0, 1) := by decide +kernel
theorem dX6_markedStep_8 : decode cX6_markedStep 8 = .ok (.getfield 9, 3) := by decide +kernel
theorem dX6_markedStep_11 : decode cX6_markedStep 11 = .ok (.if_icmp .ge 53, 3) := by decide +kernel
theorem dX6_markedStep_14 : decode cX6_markedStep 14 = .ok (.iload 4, 2) := by decide +kernel
theorem dX6_markedStep_16 : decode cX6_markedStep 16 = .ok (.sipush 3800, 3) := by decide +kernel
theorem dX6_markedStep_19 : decode cX6_markedStep 19 = .ok (.if_icmp .ge 45, 3) := by decide +kernel
theorem dX6_markedStep_22 : decode cX6_markedStep 22 = .ok (.aload_n 2, 1) := by decide +kernel
theorem dX6_markedStep_23 : decode cX6_markedStep 23 = .ok (.iload 4, 2) := by decide +kernel
theorem dX6_markedStep_25 : decode cX6_markedStep 25 = .ok (.invokestatic 103, 3) := by decide +kernel
theorem dX6_markedStep_28 : decode cX6_markedStep 28 = .ok (.ifCond .eq 30, 3) := by decide +kernel
theorem dX6_markedStep_31 : decode cX6_markedStep 31 = .ok (.aload_n 0, 1) := by decide +kernel
theorem dX6_markedStep_32 : decode cX6_markedStep 32 = .ok (.getfield 34, 3) := by decide +kernel
theorem dX6_markedStep_35 : decode cX6_markedStep 35 = .ok (.iload 4, 2) := by decide +kernel
theorem dX6_markedStep_37 : decode cX6_markedStep 37 = .ok (.iaload, 1) := by decide +kernel
theorem dX6_markedStep_38 : decode cX6_markedStep 38 = .ok (.iconst (-1), 1) := by decide +kernel
theorem dX6_markedStep_39 : decode cX6_markedStep 39 = .ok (.if_icmp .eq 19, 3) := by decide +kernel
theorem dX6_markedStep_42 : decode cX6_markedStep 42 = .ok (.iload_n 3, 1) := by decide +kernel
theorem dX6_markedStep_43 : decode cX6_markedStep 43 = .ok (.iload_n 1, 1) := by decide +kernel
theorem dX6_markedStep_44 : decode cX6_markedStep 44 = .ok (.if_icmp .ne 11, 3) := by decide +kernel
theorem dX6_markedStep_47 : decode cX6_markedStep 47 = .ok (.aload_n 0, 1) := by decide +kernel
theorem dX6_markedStep_48 : decode cX6_markedStep 48 = .ok (.getfield 34, 3) := by decide +kernel
theorem dX6_markedStep_51 : decode cX6_markedStep 51 = .ok (.iload 4, 2) := by decide +kernel
theorem dX6_markedStep_53 : decode cX6_markedStep 53 = .ok (.iaload, 1) := by decide +kernel
theorem dX6_markedStep_54 : decode cX6_markedStep 54 = .ok (.ireturn, 1) := by decide +kernel
theorem dX6_markedStep_55 : decode cX6_markedStep 55 = .ok (.iinc 3 1, 3) := by decide +kernel
theorem dX6_markedStep_58 : decode cX6_markedStep 58 = .ok (.iinc 4 1, 3) := by decide +kernel
theorem dX6_markedStep_61 : decode cX6_markedStep 61 = .ok (.goto (-56), 3) := by decide +kernel
theorem dX6_markedStep_64 : decode cX6_markedStep 64 = .ok (.iload_n 1, 1) := by decide +kernel
theorem dX6_markedStep_65 : decode cX6_markedStep 65 = .ok (.iconst (-1), 1) := by decide +kernel
theorem dX6_markedStep_66 : decode cX6_markedStep 66 = .ok (.if_icmp .ne 7, 3) := by decide +kernel
theorem dX6_markedStep_69 : decode cX6_markedStep 69 = .ok (.iload_n 3, 1) := by decide +kernel
theorem dX6_markedStep_70 : decode cX6_markedStep 70 = .ok (.goto 4, 3) := by decide +kernel
theorem dX6_markedStep_73 : decode cX6_markedStep 73 = .ok (.iconst (-1), 1) := by decide +kernel
theorem dX6_markedStep_74 : decode cX6_markedStep 74 = .ok (.ireturn, 1) := by decide +kernel
theorem dX6_markAllAbove_0 : decode cX6_markAllAbove 0 = .ok (.aload_n 2, 1) := by decide +kernel
theorem dX6_markAllAbove_1 : decode cX6_markAllAbove 1 = .ok (.iconst 0, 1) := by decide +kernel
theorem dX6_markAllAbove_2 : decode cX6_markAllAbove 2 = .ok (.invokestatic 90, 3) := by decide +kernel
theorem dX6_markAllAbove_5 : decode cX6_markAllAbove 5 = .ok (.iconst 0, 1) := by decide +kernel
theorem dX6_markAllAbove_6 : decode cX6_markAllAbove 6 = .ok (.istore_n 3, 1) := by decide +kernel
theorem dX6_markAllAbove_7 : decode cX6_markAllAbove 7 = .ok (.iload_n 3, 1) := by decide +kernel
theorem dX6_markAllAbove_8 : decode cX6_markAllAbove 8 = .ok (.aload_n 0, 1) := by decide +kernel
theorem dX6_markAllAbove_9 : decode cX6_markAllAbove 9 = .ok (.getfield 9, 3) := by decide +kernel
theorem dX6_markAllAbove_12 : decode cX6_markAllAbove 12 = .ok (.if_icmp .ge 58, 3) := by decide +kernel
theorem dX6_markAllAbove_15 : decode cX6_markAllAbove 15 = .ok (.iload_n 3, 1) := by decide +kernel
theorem dX6_markAllAbove_16 : decode cX6_markAllAbove 16 = .ok (.sipush 3800, 3) := by decide +kernel
theorem dX6_markAllAbove_19 : decode cX6_markAllAbove 19 = .ok (.if_icmp .ge 51, 3) := by decide +kernel
theorem dX6_markAllAbove_22 : decode cX6_markAllAbove 22 = .ok (.aload_n 0, 1) := by decide +kernel
theorem dX6_markAllAbove_23 : decode cX6_markAllAbove 23 = .ok (.getfield 37, 3) := by decide +kernel
theorem dX6_markAllAbove_26 : decode cX6_markAllAbove 26 = .ok (.iload_n 3, 1) := by decide +kernel
theorem dX6_markAllAbove_27 : decode cX6_markAllAbove 27 = .ok (.iaload, 1) := by decide +kernel
theorem dX6_markAllAbove_28 : decode cX6_markAllAbove 28 = .ok (.iload_n 1, 1) := by decide +kernel
theorem dX6_markAllAbove_29 : decode cX6_markAllAbove 29 = .ok (.if_icmp .eq 29, 3) := by decide +kernel
theorem dX6_markAllAbove_32 : decode cX6_markAllAbove 32 = .ok (.aload_n 2, 1) := by decide +kernel
theorem dX6_markAllAbove_33 : decode cX6_markAllAbove 33 = .ok (.aload_n 0, 1) := by decide +kernel
theorem dX6_markAllAbove_34 : decode cX6_markAllAbove 34 = .ok (.getfield 40, 3) := by decide +kernel
theorem dX6_markAllAbove_37 : decode cX6_markAllAbove 37 = .ok (.iload_n 3, 1) := by decide +kernel
theorem dX6_markAllAbove_38 : decode cX6_markAllAbove 38 = .ok (.iaload, 1) := by decide +kernel
theorem dX6_markAllAbove_39 : decode cX6_markAllAbove 39 = .ok (.invokestatic 103, 3) := by decide +kernel
theorem dX6_markAllAbove_42 : decode cX6_markAllAbove 42 = .ok (.ifCond .ne 16, 3) := by decide +kernel
theorem dX6_markAllAbove_45 : decode cX6_markAllAbove 45 = .ok (.aload_n 2, 1) := by decide +kernel
theorem dX6_markAllAbove_46 : decode cX6_markAllAbove 46 = .ok (.aload_n 0, 1) := by decide +kernel
theorem dX6_markAllAbove_47 : decode cX6_markAllAbove 47 = .ok (.getfield 43, 3) := by decide +kernel
theorem dX6_markAllAbove_50 : decode cX6_markAllAbove 50 = .ok (.iload_n 3, 1) := by decide +kernel
theorem dX6_markAllAbove_51 : decode cX6_markAllAbove 51 = .ok (.iaload, 1) := by decide +kernel
theorem dX6_markAllAbove_52 : decode cX6_markAllAbove 52 = .ok (.invokestatic 103, 3) := by decide +kernel
theorem dX6_markAllAbove_55 : decode cX6_markAllAbove 55 = .ok (.ifCond .eq 9, 3) := by decide +kernel
theorem dX6_markAllAbove_58 : decode cX6_markAllAbove 58 = .ok (.aload_n 0, 1) := by decide +kernel
theorem dX6_markAllAbove_59 : decode cX6_markAllAbove 59 = .ok (.aload_n 2, 1) := by decide +kernel
theorem dX6_markAllAbove_60 : decode cX6_markAllAbove 60 = .ok (.iload_n 3, 1) := by decide +kernel
theorem dX6_markAllAbove_61 : decode cX6_markAllAbove 61 = .ok (.invokevirtual 93, 3) := by decide +kernel
theorem dX6_markAllAbove_64 : decode cX6_markAllAbove 64 = .ok (.iinc 3 1, 3) := by decide +kernel
theorem dX6_markAllAbove_67 : decode cX6_markAllAbove 67 = .ok (.goto (-60), 3) := by decide +kernel
theorem dX6_markAllAbove_70 : decode cX6_markAllAbove 70 = .ok (.return_, 1) := by decide +kernel
theorem dX7_init_0 : decode cX7_init 0 = .ok (.aload_n 0, 1) := by decide +kernel
theorem dX7_init_1 : decode cX7_init 1 = .ok (.invokespecial 3, 3) := by decide +kernel
theorem dX7_init_4 : decode cX7_init 4 = .ok (.aload_n 0, 1) := by decide +kernel
theorem dX7_init_5 : decode cX7_init 5 = .ok (.new 9, 3) := by decide +kernel
theorem dX7_init_8 : decode cX7_init 8 = .ok (.dup, 1) := by decide +kernel
theorem dX7_init_9 : decode cX7_init 9 = .ok (.invokespecial 11, 3) := by decide +kernel
theorem dX7_init_12 : decode cX7_init 12 = .ok (.putfield 12, 3) := by decide +kernel
theorem dX7_init_15 : decode cX7_init 15 = .ok (.aload_n 0, 1) := by decide +kernel
theorem dX7_init_16 : decode cX7_init 16 = .ok (.iconst 0, 1) := by decide +kernel
theorem dX7_init_17 : decode cX7_init 17 = .ok (.putfield 18, 3) := by decide +kernel
theorem dX7_init_20 : decode cX7_init 20 = .ok (.aload_n 0, 1) := by decide +kernel
theorem dX7_init_21 : decode cX7_init 21 = .ok (.iconst 0, 1) := by decide +kernel
theorem dX7_init_22 : decode cX7_init 22 = .ok (.putfield 22, 3) := by decide +kernel
theorem dX7_init_25 : decode cX7_init 25 = .ok (.aload_n 0, 1) := by decide +kernel
theorem dX7_init_26 : decode cX7_init 26 = .ok (.iconst (-1), 1) := by decide +kernel
theorem dX7_init_27 : decode cX7_init 27 = .ok (.putfield 25, 3) := by decide +kernel
theorem dX7_init_30 : decode cX7_init 30 = .ok (.aload_n 0, 1) := by decide +kernel
theorem dX7_init_31 : decode cX7_init 31 = .ok (.iconst 0, 1) := by decide +kernel
theorem dX7_init_32 : decode cX7_init 32 = .ok (.putfield 28, 3) := by decide +kernel
theorem dX7_init_35 : decode cX7_init 35 = .ok (.aload_n 0, 1) := by decide +kernel
theorem dX7_init_36 : decode cX7_init 36 = .ok (.iconst 0, 1) := by decide +kernel
theorem dX7_init_37 : decode cX7_init 37 = .ok (.putfield 31, 3) := by decide +kernel
theorem dX7_init_40 : decode cX7_init 40 = .ok (.aload_n 0, 1) := by decide +kernel
theorem dX7_init_41 : decode cX7_init 41 = .ok (.iconst 0, 1) := by decide +kernel
theorem dX7_init_42 : decode cX7_init 42 = .ok (.putfield 34, 3) := by decide +kernel
theorem dX7_init_45 : decode cX7_init 45 = .ok (.aload_n 0, 1) := by decide +kernel
theorem dX7_init_46 : decode cX7_init 46 = .ok (.new 37, 3) := by decide +kernel
theorem dX7_init_49 : decode cX7_init 49 = .ok (.dup, 1) := by decide +kernel
theorem dX7_init_50 : decode cX7_init 50 = .ok (.invokespecial 39, 3) := by decide +kernel
theorem dX7_init_53 : decode cX7_init 53 = .ok (.putfield 40, 3) := by decide +kernel
theorem dX7_init_56 : decode cX7_init 56 = .ok (.aload_n 0, 1) := by decide +kernel
theorem dX7_init_57 : decode cX7_init 57 = .ok (.new 44, 3) := by decide +kernel
theorem dX7_init_60 : decode cX7_init 60 = .ok (.dup, 1) := by decide +kernel
theorem dX7_init_61 : decode cX7_init 61 = .ok (.invokespecial 46, 3) := by decide +kernel
theorem dX7_init_64 : decode cX7_init 64 = .ok (.putfield 47, 3) := by decide +kernel
theorem dX7_init_67 : decode cX7_init 67 = .ok (.aload_n 0, 1) := by decide +kernel
theorem dX7_init_68 : decode cX7_init 68 = .ok (.new 51, 3) := by decide +kernel
theorem dX7_init_71 : decode cX7_init 71 = .ok (.dup, 1) := by decide +kernel
theorem dX7_init_72 : decode cX7_init 72 = .ok (.invokespecial 53, 3) := by decide +kernel
theorem dX7_init_75 : decode cX7_init 75 = .ok (.putfield 54, 3) := by decide +kernel
theorem dX7_init_78 : decode cX7_init 78 = .ok (.aload_n 0, 1) := by decide +kernel
theorem dX7_init_79 : decode cX7_init 79 = .ok (.new 58, 3) := by decide +kernel
theorem dX7_init_82 : decode cX7_init 82 = .ok (.dup, 1) := by decide +kernel
theorem dX7_init_83 : decode cX7_init 83 = .ok (.invokespecial 60, 3) := by decide +kernel
theorem dX7_init_86 : decode cX7_init 86 = .ok (.putfield 61, 3) := by decide +kernel
theorem dX7_init_89 : decode cX7_init 89 = .ok (.aload_n 0, 1) := by decide +kernel
theorem dX7_init_90 : decode cX7_init 90 = .ok (.sipush 3001, 3) := by decide +kernel
theorem dX7_init_93 : decode cX7_init 93 = .ok (.newarray .int, 2) := by decide +kernel
theorem dX7_init_95 : decode cX7_init 95 = .ok (.putfield 65, 3) := by decide +kernel
theorem dX7_init_98 : decode cX7_init 98 = .ok (.aload_n 0, 1) := by decide +kernel
theorem dX7_init_99 : decode cX7_init 99 = .ok (.sipush 3001, 3) := by decide +kernel
theorem dX7_init_102 : decode cX7_init 102 = .ok (.newarray .int, 2) := by decide +kernel
theorem dX7_init_104 : decode cX7_init 104 = .ok (.putfield 69, 3) := by decide +kernel
theorem dX7_init_107 : decode cX7_init 107 = .ok (.aload_n 0, 1) := by decide +kernel
theorem dX7_init_108 : decode cX7_init 108 = .ok (.sipush 3001, 3) := by decide +kernel
theorem dX7_init_111 : decode cX7_init 111 = .ok (.newarray .int, 2) := by decide +kernel
theorem dX7_init_113 : decode cX7_init 113 = .ok (.putfield 72, 3) := by decide +kernel
theorem dX7_init_116 : decode cX7_init 116 = .ok (.aload_n 0, 1) := by decide +kernel
theorem dX7_init_117 : decode cX7_init 117 = .ok (.sipush 3001, 3) := by decide +kernel
theorem dX7_init_120 : decode cX7_init 120 = .ok (.newarray .int, 2) := by decide +kernel
theorem dX7_init_122 : decode cX7_init 122 = .ok (.putfield 75, 3) := by decide +kernel
theorem dX7_init_125 : decode cX7_init 125 = .ok (.return_, 1) := by decide +kernel
theorem dX7_init__0 : decode cX7_init_ 0 = .ok (.aload_n 0, 1) := by decide +kernel
theorem dX7_init__1 : decode cX7_init_ 1 = .ok (.invokespecial 3, 3) := by decide +kernel
theorem dX7_init__4 : decode cX7_init_ 4 = .ok (.aload_n 0, 1) := by decide +kernel
theorem dX7_init__5 : decode cX7_init_ 5 = .ok (.new 9, 3) := by decide +kernel
theorem dX7_init__8 : decode cX7_init_ 8 = .ok (.dup, 1) := by decide +kernel
theorem dX7_init__9 : decode cX7_init_ 9 = .ok (.invokespecial 11, 3) := by decide +kernel
theorem dX7_init__12 : decode cX7_init_ 12 = .ok (.putfield 12, 3) := by decide +kernel
theorem dX7_init__15 : decode cX7_init_ 15 = .ok (.aload_n 0, 1) := by decide +kernel
theorem dX7_init__16 : decode cX7_init_ 16 = .ok (.iconst 0, 1) := by decide +kernel
theorem dX7_init__17 : decode cX7_init_ 17 = .ok (.putfield 18, 3) := by decide +kernel
theorem dX7_init__20 : decode cX7_init_ 20 = .ok (.aload_n 0, 1) := by decide +kernel
theorem dX7_init__21 : decode cX7_init_ 21 = .ok (.iconst 0, 1) := by decide +kernel
theorem dX7_init__22 : decode cX7_init_ 22 = .ok (.putfield 22, 3) := by decide +kernel
theorem dX7_init__25 : decode cX7_init_ 25 = .ok (.aload_n 0, 1) := by decide +kernel
theorem dX7_init__26 : decode cX7_init_ 26 = .ok (.iconst (-1), 1) := by decide +kernel
theorem dX7_init__27 : decode cX7_init_ 27 = .ok (.putfield 25, 3) := by decide +kernel
theorem dX7_init__30 : decode cX7_init_ 30 = .ok (.aload_n 0, 1) := by decide +kernel
theorem dX7_init__31 : decode cX7_init_ 31 = .ok (.iconst 0, 1) := by decide +kernel
theorem dX7_init__32 : decode cX7_init_ 32 = .ok (.putfield 28, 3) := by decide +kernel
theorem dX7_init__35 : decode cX7_init_ 35 = .ok (.aload_n 0, 1) := by decide +kernel
theorem dX7_init__36 : decode cX7_init_ 36 = .ok (.iconst 0, 1) := by decide +kernel
theorem dX7_init__37 : decode cX7_init_ 37 = .ok (.putfield 31, 3) := by decide +kernel
theorem dX7_init__40 : decode cX7_init_ 40 = .ok (.aload_n 0, 1) := by decide +kernel
theorem dX7_init__41 : decode cX7_init_ 41 = .ok (.iconst 0, 1) := by decide +kernel
theorem dX7_init__42 : decode cX7_init_ 42 = .ok (.putfield 34, 3) := by decide +kernel
theorem dX7_init__45 : decode cX7_init_ 45 = .ok (.aload_n 0, 1) := by decide +kernel
theorem dX7_init__46 : decode cX7_init_ 46 = .ok (.getfield 12, 3) := by decide +kernel
theorem dX7_init__49 : decode cX7_init_ 49 = .ok (.aload_n 1, 1) := by decide +kernel
theorem dX7_init__50 : decode cX7_init_ 50 = .ok (.getfield 12, 3) := by decide +kernel
theorem dX7_init__53 : decode cX7_init_ 53 = .ok (.invokevirtual 78, 3) := by decide +kernel
theorem dX7_init__56 : decode cX7_init_ 56 = .ok (.aload_n 0, 1) := by decide +kernel
theorem dX7_init__57 : decode cX7_init_ 57 = .ok (.new 37, 3) := by decide +kernel
theorem dX7_init__60 : decode cX7_init_ 60 = .ok (.dup, 1) := by decide +kernel
theorem dX7_init__61 : decode cX7_init_ 61 = .ok (.aload_n 1, 1) := by decide +kernel
theorem dX7_init__62 : decode cX7_init_ 62 = .ok (.getfield 40, 3) := by decide +kernel
theorem dX7_init__65 : decode cX7_init_ 65 = .ok (.invokespecial 82, 3) := by decide +kernel
theorem dX7_init__68 : decode cX7_init_ 68 = .ok (.putfield 40, 3) := by decide +kernel
theorem dX7_init__71 : decode cX7_init_ 71 = .ok (.aload_n 0, 1) := by decide +kernel
theorem dX7_init__72 : decode cX7_init_ 72 = .ok (.new 44, 3) := by decide +kernel
theorem dX7_init__75 : decode cX7_init_ 75 = .ok (.dup, 1) := by decide +kernel
theorem dX7_init__76 : decode cX7_init_ 76 = .ok (.aload_n 1, 1) := by decide +kernel
theorem dX7_init__77 : decode cX7_init_ 77 = .ok (.getfield 47, 3) := by decide +kernel
theorem dX7_init__80 : decode cX7_init_ 80 = .ok (.invokespecial 85, 3) := by decide +kernel
theorem dX7_init__83 : decode cX7_init_ 83 = .ok (.putfield 47, 3) := by decide +kernel
theorem dX7_init__86 : decode cX7_init_ 86 = .ok (.aload_n 0, 1) := by decide +kernel
theorem dX7_init__87 : decode cX7_init_ 87 = .ok (.new 51, 3) := by decide +kernel
theorem dX7_init__90 : decode cX7_init_ 90 = .ok (.dup, 1) := by decide +kernel
theorem dX7_init__91 : decode cX7_init_ 91 = .ok (.aload_n 1, 1) := by decide +kernel
theorem dX7_init__92 : decode cX7_init_ 92 = .ok (.getfield 54, 3) := by decide +kernel
theorem dX7_init__95 : decode cX7_init_ 95 = .ok (.invokespecial 88, 3) := by decide +kernel
theorem dX7_init__98 : decode cX7_init_ 98 = .ok (.putfield 54, 3) := by decide +kernel
theorem dX7_init__101 : decode cX7_init_ 101 = .ok (.aload_n 0, 1) := by decide +kernel
theorem dX7_init__102 : decode cX7_init_ 102 = .ok (.new 58, 3) := by decide +kernel
theorem dX7_init__105 : decode cX7_init_ 105 = .ok (.dup, 1) := by decide +kernel
theorem dX7_init__106 : decode cX7_init_ 106 = .ok (.aload_n 1, 1) := by decide +kernel
theorem dX7_init__107 : decode cX7_init_ 107 = .ok (.getfield 61, 3) := by decide +kernel
theorem dX7_init__110 : decode cX7_init_ 110 = .ok (.invokespecial 91, 3) := by decide +kernel
theorem dX7_init__113 : decode cX7_init_ 113 = .ok (.putfield 61, 3) := by decide +kernel
theorem dX7_init__116 : decode cX7_init_ 116 = .ok (.aload_n 0, 1) := by decide +kernel
theorem dX7_init__117 : decode cX7_init_ 117 = .ok (.aload_n 1, 1) := by decide +kernel
theorem dX7_init__118 : decode cX7_init_ 118 = .ok (.getfield 65, 3) := by decide +kernel
theorem dX7_init__121 : decode cX7_init_ 121 = .ok (.invokevirtual 94, 3) := by decide +kernel
theorem dX7_init__124 : decode cX7_init_ 124 = .ok (.checkcast 95, 3) := by decide +kernel
theorem dX7_init__127 : decode cX7_init_ 127 = .ok (.putfield 65, 3) := by decide +kernel
theorem dX7_init__130 : decode cX7_init_ 130 = .ok (.aload_n 0, 1) := by decide +kernel
theorem dX7_init__131 : decode cX7_init_ 131 = .ok (.aload_n 1, 1) := by decide +kernel
theorem dX7_init__132 : decode cX7_init_ 132 = .ok (.getfield 69, 3) := by decide +kernel
theorem dX7_init__135 : decode cX7_init_ 135 = .ok (.invokevirtual 94, 3) := by decide +kernel
theorem dX7_init__138 : decode cX7_init_ 138 = .ok (.checkcast 95, 3) := by decide +kernel
theorem dX7_init__141 : decode cX7_init_ 141 = .ok (.putfield 69, 3) := by decide +kernel
theorem dX7_init__144 : decode cX7_init_ 144 = .ok (.aload_n 0, 1) := by decide +kernel
theorem dX7_init__145 : decode cX7_init_ 145 = .ok (.aload_n 1, 1) := by decide +kernel
theorem dX7_init__146 : decode cX7_init_ 146 = .ok (.getfield 72, 3) := by decide +kernel
theorem dX7_init__149 : decode cX7_init_ 149 = .ok (.invokevirtual 94, 3) := by decide +kernel
theorem dX7_init__152 : decode cX7_init_ 152 = .ok (.checkcast 95, 3) := by decide +kernel
theorem dX7_init__155 : decode cX7_init_ 155 = .ok (.putfield 72, 3) := by decide +kernel
theorem dX7_init__158 : decode cX7_init_ 158 = .ok (.aload_n 0, 1) := by decide +kernel
theorem dX7_init__159 : decode cX7_init_ 159 = .ok (.aload_n 1, 1) := by decide +kernel
theorem dX7_init__160 : decode cX7_init_ 160 = .ok (.getfield 75, 3) := by decide +kernel
theorem dX7_init__163 : decode cX7_init_ 163 = .ok (.invokevirtual 94, 3) := by decide +kernel
theorem dX7_init__166 : decode cX7_init_ 166 = .ok (.checkcast 95, 3) := by decide +kernel
theorem dX7_init__169 : decode cX7_init_ 169 = .ok (.putfield 75, 3) := by decide +kernel
theorem dX7_init__172 : decode cX7_init_ 172 = .ok (.aload_n 0, 1) := by decide +kernel
theorem dX7_init__173 : decode cX7_init_ 173 = .ok (.aload_n 1, 1) := by decide +kernel
theorem dX7_init__174 : decode cX7_init_ 174 = .ok (.getfield 18, 3) := by decide +kernel
theorem dX7_init__177 : decode cX7_init_ 177 = .ok (.putfield 18, 3) := by decide +kernel
theorem dX7_init__180 : decode cX7_init_ 180 = .ok (.aload_n 0, 1) := by decide +kernel
theorem dX7_init__181 : decode cX7_init_ 181 = .ok (.aload_n 1, 1) := by decide +kernel
theorem dX7_init__182 : decode cX7_init_ 182 = .ok (.getfield 22, 3) := by decide +kernel
theorem dX7_init__185 : decode cX7_init_ 185 = .ok (.putfield 22, 3) := by decide +kernel
theorem dX7_init__188 : decode cX7_init_ 188 = .ok (.aload_n 0, 1) := by decide +kernel
theorem dX7_init__189 : decode cX7_init_ 189 = .ok (.aload_n 1, 1) := by decide +kernel
theorem dX7_init__190 : decode cX7_init_ 190 = .ok (.getfield 28, 3) := by decide +kernel
theorem dX7_init__193 : decode cX7_init_ 193 = .ok (.putfield 28, 3) := by decide +kernel
theorem dX7_init__196 : decode cX7_init_ 196 = .ok (.aload_n 0, 1) := by decide +kernel
theorem dX7_init__197 : decode cX7_init_ 197 = .ok (.aload_n 1, 1) := by decide +kernel
theorem dX7_init__198 : decode cX7_init_ 198 = .ok (.getfield 31, 3) := by decide +kernel
theorem dX7_init__201 : decode cX7_init_ 201 = .ok (.putfield 31, 3) := by decide +kernel
theorem dX7_init__204 : decode cX7_init_ 204 = .ok (.aload_n 0, 1) := by decide +kernel
theorem dX7_init__205 : decode cX7_init_ 205 = .ok (.iload_n 2, 1) := by decide +kernel
theorem dX7_init__206 : decode cX7_init_ 206 = .ok (.putfield 34, 3) := by decide +kernel
theorem dX7_init__209 : decode cX7_init_ 209 = .ok (.return_, 1) := by decide +kernel
theorem dX7_start_0 : decode cX7_start 0 = .ok (.aload_n 0, 1) := by decide +kernel
theorem dX7_start_1 : decode cX7_start 1 = .ok (.getfield 12, 3) := by decide +kernel
theorem dX7_start_4 : decode cX7_start 4 = .ok (.aload_n 1, 1) := by decide +kernel
theorem dX7_start_5 : decode cX7_start 5 = .ok (.invokevirtual 78, 3) := by decide +kernel
theorem dX7_start_8 : decode cX7_start 8 = .ok (.aload_n 0, 1) := by decide +kernel
theorem dX7_start_9 : decode cX7_start 9 = .ok (.getfield 40, 3) := by decide +kernel
theorem dX7_start_12 : decode cX7_start 12 = .ok (.iconst 0, 1) := by decide +kernel
theorem dX7_start_13 : decode cX7_start 13 = .ok (.putfield 99, 3) := by decide +kernel
theorem dX7_start_16 : decode cX7_start 16 = .ok (.aload_n 0, 1) := by decide +kernel
theorem dX7_start_17 : decode cX7_start 17 = .ok (.getfield 47, 3) := by decide +kernel
theorem dX7_start_20 : decode cX7_start 20 = .ok (.invokevirtual 102, 3) := by decide +kernel
theorem dX7_start_23 : decode cX7_start 23 = .ok (.aload_n 0, 1) := by decide +kernel
theorem dX7_start_24 : decode cX7_start 24 = .ok (.getfield 54, 3) := by decide +kernel
theorem dX7_start_27 : decode cX7_start 27 = .ok (.iconst 0, 1) := by decide +kernel
theorem dX7_start_28 : decode cX7_start 28 = .ok (.putfield 105, 3) := by decide +kernel
theorem dX7_start_31 : decode cX7_start 31 = .ok (.aload_n 0, 1) := by decide +kernel
theorem dX7_start_32 : decode cX7_start 32 = .ok (.getfield 61, 3) := by decide +kernel
theorem dX7_start_35 : decode cX7_start 35 = .ok (.iload_n 2, 1) := by decide +kernel
theorem dX7_start_36 : decode cX7_start 36 = .ok (.iload_n 3, 1) := by decide +kernel
theorem dX7_start_37 : decode cX7_start 37 = .ok (.invokevirtual 106, 3) := by decide +kernel
theorem dX7_start_40 : decode cX7_start 40 = .ok (.aload_n 0, 1) := by decide +kernel
theorem dX7_start_41 : decode cX7_start 41 = .ok (.getfield 65, 3) := by decide +kernel
theorem dX7_start_44 : decode cX7_start 44 = .ok (.iconst 0, 1) := by decide +kernel
theorem dX7_start_45 : decode cX7_start 45 = .ok (.iconst 0, 1) := by decide +kernel
theorem dX7_start_46 : decode cX7_start 46 = .ok (.iastore, 1) := by decide +kernel
theorem dX7_start_47 : decode cX7_start 47 = .ok (.aload_n 0, 1) := by decide +kernel
theorem dX7_start_48 : decode cX7_start 48 = .ok (.getfield 69, 3) := by decide +kernel
theorem dX7_start_51 : decode cX7_start 51 = .ok (.iconst 0, 1) := by decide +kernel
theorem dX7_start_52 : decode cX7_start 52 = .ok (.iconst 0, 1) := by decide +kernel
theorem dX7_start_53 : decode cX7_start 53 = .ok (.iastore, 1) := by decide +kernel
theorem dX7_start_54 : decode cX7_start 54 = .ok (.aload_n 0, 1) := by decide +kernel
theorem dX7_start_55 : decode cX7_start 55 = .ok (.getfield 72, 3) := by decide +kernel
theorem dX7_start_58 : decode cX7_start 58 = .ok (.iconst 0, 1) := by decide +kernel
theorem dX7_start_59 : decode cX7_start 59 = .ok (.iconst 0, 1) := by decide +kernel
theorem dX7_start_60 : decode cX7_start 60 = .ok (.iastore, 1) := by decide +kernel
theorem dX7_start_61 : decode cX7_start 61 = .ok (.aload_n 0, 1) := by decide +kernel
theorem dX7_start_62 : decode cX7_start 62 = .ok (.getfield 75, 3) := by decide +kernel
theorem dX7_start_65 : decode cX7_start 65 = .ok (.iconst 0, 1) := by decide +kernel
theorem dX7_start_66 : decode cX7_start 66 = .ok (.iconst (-1), 1) := by decide +kernel
theorem dX7_start_67 : decode cX7_start 67 = .ok (.iastore, 1) := by decide +kernel
theorem dX7_start_68 : decode cX7_start 68 = .ok (.aload_n 0, 1) := by decide +kernel
theorem dX7_start_69 : decode cX7_start 69 = .ok (.iconst 0, 1) := by decide +kernel
theorem dX7_start_70 : decode cX7_start 70 = .ok (.putfield 18, 3) := by decide +kernel
theorem dX7_start_73 : decode cX7_start 73 = .ok (.aload_n 0, 1) := by decide +kernel
theorem dX7_start_74 : decode cX7_start 74 = .ok (.iconst 0, 1) := by decide +kernel
theorem dX7_start_75 : decode cX7_start 75 = .ok (.putfield 22, 3) := by decide +kernel
theorem dX7_start_78 : decode cX7_start 78 = .ok (.aload_n 0, 1) := by decide +kernel
theorem dX7_start_79 : decode cX7_start 79 = .ok (.iconst (-1), 1) := by decide +kernel
theorem dX7_start_80 : decode cX7_start 80 = .ok (.putfield 25, 3) := by decide +kernel
theorem dX7_start_83 : decode cX7_start 83 = .ok (.aload_n 0, 1) := by decide +kernel
theorem dX7_start_84 : decode cX7_start 84 = .ok (.iconst 0, 1) := by decide +kernel
theorem dX7_start_85 : decode cX7_start 85 = .ok (.putfield 28, 3) := by decide +kernel
theorem dX7_start_88 : decode cX7_start 88 = .ok (.aload_n 0, 1) := by decide +kernel
theorem dX7_start_89 : decode cX7_start 89 = .ok (.iconst 0, 1) := by decide +kernel
theorem dX7_start_90 : decode cX7_start 90 = .ok (.putfield 31, 3) := by decide +kernel
theorem dX7_start_93 : decode cX7_start 93 = .ok (.return_, 1) := by decide +kernel
theorem dX7_hasTime_0 : decode cX7_hasTime 0 = .ok (.iload_n 1, 1) := by decide +kernel
theorem dX7_hasTime_1 : decode cX7_hasTime 1 = .ok (.ifCond .lt 22, 3) := by decide +kernel
theorem dX7_hasTime_4 : decode cX7_hasTime 4 = .ok (.iload_n 1, 1) := by decide +kernel
theorem dX7_hasTime_5 : decode cX7_hasTime 5 = .ok (.aload_n 0, 1) := by decide +kernel
theorem dX7_hasTime_6 : decode cX7_hasTime 6 = .ok (.getfield 18, 3) := by decide +kernel
theorem dX7_hasTime_9 : decode cX7_hasTime 9 = .ok (.if_icmp .gt 14, 3) := by decide +kernel
theorem dX7_hasTime_12 : decode cX7_hasTime 12 = .ok (.iload_n 1, 1) := by decide +kernel
theorem dX7_hasTime_13 : decode cX7_hasTime 13 = .ok (.sipush 3000, 3) := by decide +kernel
theorem dX7_hasTime_16 : decode cX7_hasTime 16 = .ok (.if_icmp .gt 7, 3) := by decide +kernel
theorem dX7_hasTime_19 : decode cX7_hasTime 19 = .ok (.iconst 1, 1) := by decide +kernel
theorem dX7_hasTime_20 : decode cX7_hasTime 20 = .ok (.goto 4, 3) := by decide +kernel
theorem dX7_hasTime_23 : decode cX7_hasTime 23 = .ok (.iconst 0, 1) := by decide +kernel
theorem dX7_hasTime_24 : decode cX7_hasTime 24 = .ok (.ireturn, 1) := by decide +kernel
theorem dX7_counterAt_0 : decode cX7_counterAt 0 = .ok (.aload_n 0, 1) := by decide +kernel
theorem dX7_counterAt_1 : decode cX7_counterAt 1 = .ok (.iload_n 1, 1) := by decide +kernel
theorem dX7_counterAt_2 : decode cX7_counterAt 2 = .ok (.invokevirtual 110, 3) := by decide +kernel
theorem dX7_counterAt_5 : decode cX7_counterAt 5 = .ok (.ifCond .eq 12, 3) := by decide +kernel
theorem dX7_counterAt_8 : decode cX7_counterAt 8 = .ok (.aload_n 0, 1) := by decide +kernel
theorem dX7_counterAt_9 : decode cX7_counterAt 9 = .ok (.getfield 65, 3) := by decide +kernel
theorem dX7_counterAt_12 : decode cX7_counterAt 12 = .ok (.iload_n 1, 1) := by decide +kernel
theorem dX7_counterAt_13 : decode cX7_counterAt 13 = .ok (.iaload, 1) := by decide +kernel
theorem dX7_counterAt_14 : decode cX7_counterAt 14 = .ok (.goto 4, 3) := by decide +kernel
theorem dX7_counterAt_17 : decode cX7_counterAt 17 = .ok (.iconst 0, 1) := by decide +kernel
theorem dX7_counterAt_18 : decode cX7_counterAt 18 = .ok (.ireturn, 1) := by decide +kernel
theorem dX7_outsAt_0 : decode cX7_outsAt 0 = .ok (.aload_n 0, 1) := by decide +kernel
theorem dX7_outsAt_1 : decode cX7_outsAt 1 = .ok (.iload_n 1, 1) := by decide +kernel
theorem dX7_outsAt_2 : decode cX7_outsAt 2 = .ok (.invokevirtual 110, 3) := by decide +kernel
theorem dX7_outsAt_5 : decode cX7_outsAt 5 = .ok (.ifCond .eq 12, 3) := by decide +kernel
theorem dX7_outsAt_8 : decode cX7_outsAt 8 = .ok (.aload_n 0, 1) := by decide +kernel
theorem dX7_outsAt_9 : decode cX7_outsAt 9 = .ok (.getfield 69, 3) := by decide +kernel
theorem dX7_outsAt_12 : decode cX7_outsAt 12 = .ok (.iload_n 1, 1) := by decide +kernel
theorem dX7_outsAt_13 : decode cX7_outsAt 13 = .ok (.iaload, 1) := by decide +kernel
theorem dX7_outsAt_14 : decode cX7_outsAt 14 = .ok (.goto 4, 3) := by decide +kernel
theorem dX7_outsAt_17 : decode cX7_outsAt 17 = .ok (.iconst 0, 1) := by decide +kernel
theorem dX7_outsAt_18 : decode cX7_outsAt 18 = .ok (.ireturn, 1) := by decide +kernel
theorem dX7_checkAt_0 : decode cX7_checkAt 0 = .ok (.aload_n 0, 1) := by decide +kernel
theorem dX7_checkAt_1 : decode cX7_checkAt 1 = .ok (.iload_n 1, 1) := by decide +kernel
theorem dX7_checkAt_2 : decode cX7_checkAt 2 = .ok (.invokevirtual 110, 3) := by decide +kernel
theorem dX7_checkAt_5 : decode cX7_checkAt 5 = .ok (.ifCond .eq 12, 3) := by decide +kernel
theorem dX7_checkAt_8 : decode cX7_checkAt 8 = .ok (.aload_n 0, 1) := by decide +kernel
theorem dX7_checkAt_9 : decode cX7_checkAt 9 = .ok (.getfield 72, 3) := by decide +kernel
theorem dX7_checkAt_12 : decode cX7_checkAt 12 = .ok (.iload_n 1, 1) := by decide +kernel
theorem dX7_checkAt_13 : decode cX7_checkAt 13 = .ok (.iaload, 1) := by decide +kernel
theorem dX7_checkAt_14 : decode cX7_checkAt 14 = .ok (.goto 4, 3) := by decide +kernel
theorem dX7_checkAt_17 : decode cX7_checkAt 17 = .ok (.iconst 0, 1) := by decide +kernel
theorem dX7_checkAt_18 : decode cX7_checkAt 18 = .ok (.ireturn, 1) := by decide +kernel
theorem dX7_topAt_0 : decode cX7_topAt 0 = .ok (.aload_n 0, 1) := by decide +kernel
theorem dX7_topAt_1 : decode cX7_topAt 1 = .ok (.iload_n 1, 1) := by decide +kernel
theorem dX7_topAt_2 : decode cX7_topAt 2 = .ok (.invokevirtual 110, 3) := by decide +kernel
theorem dX7_topAt_5 : decode cX7_topAt 5 = .ok (.ifCond .eq 12, 3) := by decide +kernel
theorem dX7_topAt_8 : decode cX7_topAt 8 = .ok (.aload_n 0, 1) := by decide +kernel
theorem dX7_topAt_9 : decode cX7_topAt 9 = .ok (.getfield 75, 3) := by decide +kernel
theorem dX7_topAt_12 : decode cX7_topAt 12 = .ok (.iload_n 1, 1) := by decide +kernel
theorem dX7_topAt_13 : decode cX7_topAt 13 = .ok (.iaload, 1) := by decide +kernel
theorem dX7_topAt_14 : decode cX7_topAt 14 = .ok (.goto 4, 3) := by decide +kernel
theorem dX7_topAt_17 : decode cX7_topAt 17 = .ok (.iconst (-1), 1) := by decide +kernel
theorem dX7_topAt_18 : decode cX7_topAt 18 = .ok (.ireturn, 1) := by decide +kernel
theorem dX7_stackSizeAt_0 : decode cX7_stackSizeAt 0 = .ok (.iconst 0, 1) := by decide +kernel
theorem dX7_stackSizeAt_1 : decode cX7_stackSizeAt 1 = .ok (.istore_n 2, 1) := by decide +kernel
theorem dX7_stackSizeAt_2 : decode cX7_stackSizeAt 2 = .ok (.aload_n 0, 1) := by decide +kernel
theorem dX7_stackSizeAt_3 : decode cX7_stackSizeAt 3 = .ok (.iload_n 1, 1) := by decide +kernel
theorem dX7_stackSizeAt_4 : decode cX7_stackSizeAt 4 = .ok (.invokevirtual 114, 3) := by decide +kernel
theorem dX7_stackSizeAt_7 : decode cX7_stackSizeAt 7 = .ok (.istore_n 3, 1) := by decide +kernel
theorem dX7_stackSizeAt_8 : decode cX7_stackSizeAt 8 = .ok (.iload_n 3, 1) := by decide +kernel
theorem dX7_stackSizeAt_9 : decode cX7_stackSizeAt 9 = .ok (.iconst (-1), 1) := by decide +kernel
theorem dX7_stackSizeAt_10 : decode cX7_stackSizeAt 10 = .ok (.if_icmp .eq 21, 3) := by decide +kernel
theorem dX7_stackSizeAt_13 : decode cX7_stackSizeAt 13 = .ok (.iload_n 2, 1) := by decide +kernel
theorem dX7_stackSizeAt_14 : decode cX7_stackSizeAt 14 = .ok (.bipush 8, 2) := by decide +kernel
theorem dX7_stackSizeAt_16 : decode cX7_stackSizeAt 16 = .ok (.if_icmp .ge 15, 3) := by decide +kernel
theorem dX7_stackSizeAt_19 : decode cX7_stackSizeAt 19 = .ok (.iinc 2 1, 3) := by decide +kernel
theorem dX7_stackSizeAt_22 : decode cX7_stackSizeAt 22 = .ok (.aload_n 0, 1) := by decide +kernel
theorem dX7_stackSizeAt_23 : decode cX7_stackSizeAt 23 = .ok (.iload_n 3, 1) := by decide +kernel
theorem dX7_stackSizeAt_24 : decode cX7_stackSizeAt 24 = .ok (.invokevirtual 114, 3) := by decide +kernel
theorem dX7_stackSizeAt_27 : decode cX7_stackSizeAt 27 = .ok (.istore_n 3, 1) := by decide +kernel
theorem dX7_stackSizeAt_28 : decode cX7_stackSizeAt 28 = .ok (.goto (-20), 3) := by decide +kernel
theorem dX7_stackSizeAt_31 : decode cX7_stackSizeAt 31 = .ok (.iload_n 2, 1) := by decide +kernel
theorem dX7_stackSizeAt_32 : decode cX7_stackSizeAt 32 = .ok (.ireturn, 1) := by decide +kernel
theorem dX7_stackedAt_0 : decode cX7_stackedAt 0 = .ok (.aload_n 0, 1) := by decide +kernel
theorem dX7_stackedAt_1 : decode cX7_stackedAt 1 = .ok (.iload_n 1, 1) := by decide +kernel
theorem dX7_stackedAt_2 : decode cX7_stackedAt 2 = .ok (.invokevirtual 118, 3) := by decide +kernel
theorem dX7_stackedAt_5 : decode cX7_stackedAt 5 = .ok (.istore_n 3, 1) := by decide +kernel
theorem dX7_stackedAt_6 : decode cX7_stackedAt 6 = .ok (.iload_n 2, 1) := by decide +kernel
theorem dX7_stackedAt_7 : decode cX7_stackedAt 7 = .ok (.ifCond .lt 8, 3) := by decide +kernel
theorem dX7_stackedAt_10 : decode cX7_stackedAt 10 = .ok (.iload_n 2, 1) := by decide +kernel
theorem dX7_stackedAt_11 : decode cX7_stackedAt 11 = .ok (.iload_n 3, 1) := by decide +kernel
theorem dX7_stackedAt_12 : decode cX7_stackedAt 12 = .ok (.if_icmp .lt 6, 3) := by decide +kernel
theorem dX7_stackedAt_15 : decode cX7_stackedAt 15 = .ok (.ldc 121, 2) := by decide +kernel
theorem dX7_stackedAt_17 : decode cX7_stackedAt 17 = .ok (.ireturn, 1) := by decide +kernel
theorem dX7_stackedAt_18 : decode cX7_stackedAt 18 = .ok (.aload_n 0, 1) := by decide +kernel
theorem dX7_stackedAt_19 : decode cX7_stackedAt 19 = .ok (.iload_n 1, 1) := by decide +kernel
theorem dX7_stackedAt_20 : decode cX7_stackedAt 20 = .ok (.invokevirtual 114, 3) := by decide +kernel
theorem dX7_stackedAt_23 : decode cX7_stackedAt 23 = .ok (.istore 4, 2) := by decide +kernel
theorem dX7_stackedAt_25 : decode cX7_stackedAt 25 = .ok (.iload_n 3, 1) := by decide +kernel
theorem dX7_stackedAt_26 : decode cX7_stackedAt 26 = .ok (.iconst 1, 1) := by decide +kernel
theorem dX7_stackedAt_27 : decode cX7_stackedAt 27 = .ok (.isub, 1) := by decide +kernel
theorem dX7_stackedAt_28 : decode cX7_stackedAt 28 = .ok (.istore 5, 2) := by decide +kernel
theorem dX7_stackedAt_30 : decode cX7_stackedAt 30 = .ok (.iload 5, 2) := by decide +kernel
theorem dX7_stackedAt_32 : decode cX7_stackedAt 32 = .ok (.iload_n 2, 1) := by decide +kernel
theorem dX7_stackedAt_33 : decode cX7_stackedAt 33 = .ok (.if_icmp .le 17, 3) := by decide +kernel
theorem dX7_stackedAt_36 : decode cX7_stackedAt 36 = .ok (.aload_n 0, 1) := by decide +kernel
theorem dX7_stackedAt_37 : decode cX7_stackedAt 37 = .ok (.iload 4, 2) := by decide +kernel
theorem dX7_stackedAt_39 : decode cX7_stackedAt 39 = .ok (.invokevirtual 114, 3) := by decide +kernel
theorem dX7_stackedAt_42 : decode cX7_stackedAt 42 = .ok (.istore 4, 2) := by decide +kernel
theorem dX7_stackedAt_44 : decode cX7_stackedAt 44 = .ok (.iinc 5 (-1), 3) := by decide +kernel
theorem dX7_stackedAt_47 : decode cX7_stackedAt 47 = .ok (.goto (-17), 3) := by decide +kernel
theorem dX7_stackedAt_50 : decode cX7_stackedAt 50 = .ok (.aload_n 0, 1) := by decide +kernel
theorem dX7_stackedAt_51 : decode cX7_stackedAt 51 = .ok (.iload 4, 2) := by decide +kernel
theorem dX7_stackedAt_53 : decode cX7_stackedAt 53 = .ok (.invokevirtual 122, 3) := by decide +kernel
theorem dX7_stackedAt_56 : decode cX7_stackedAt 56 = .ok (.iconst 1, 1) := by decide +kernel
theorem dX7_stackedAt_57 : decode cX7_stackedAt 57 = .ok (.iadd, 1) := by decide +kernel
theorem dX7_stackedAt_58 : decode cX7_stackedAt 58 = .ok (.ireturn, 1) := by decide +kernel
theorem dX7_hasStackLike_0 : decode cX7_hasStackLike 0 = .ok (.aload_n 0, 1) := by decide +kernel
theorem dX7_hasStackLike_1 : decode cX7_hasStackLike 1 = .ok (.iload_n 1, 1) := by decide +kernel
theorem dX7_hasStackLike_2 : decode cX7_hasStackLike 2 = .ok (.invokevirtual 118, 3) := by decide +kernel
theorem dX7_hasStackLike_5 : decode cX7_hasStackLike 5 = .ok (.istore_n 3, 1) := by decide +kernel
theorem dX7_hasStackLike_6 : decode cX7_hasStackLike 6 = .ok (.aload_n 2, 1) := by decide +kernel
theorem dX7_hasStackLike_7 : decode cX7_hasStackLike 7 = .ok (.iload_n 1, 1) := by decide +kernel
theorem dX7_hasStackLike_8 : decode cX7_hasStackLike 8 = .ok (.invokevirtual 118, 3) := by decide +kernel
theorem dX7_hasStackLike_11 : decode cX7_hasStackLike 11 = .ok (.iload_n 3, 1) := by decide +kernel
theorem dX7_hasStackLike_12 : decode cX7_hasStackLike 12 = .ok (.if_icmp .eq 5, 3) := by decide +kernel
theorem dX7_hasStackLike_15 : decode cX7_hasStackLike 15 = .ok (.iconst 0, 1) := by decide +kernel
theorem dX7_hasStackLike_16 : decode cX7_hasStackLike 16 = .ok (.ireturn, 1) := by decide +kernel
theorem dX7_hasStackLike_17 : decode cX7_hasStackLike 17 = .ok (.iconst 0, 1) := by decide +kernel
theorem dX7_hasStackLike_18 : decode cX7_hasStackLike 18 = .ok (.istore 4, 2) := by decide +kernel
theorem dX7_hasStackLike_20 : decode cX7_hasStackLike 20 = .ok (.iload 4, 2) := by decide +kernel
theorem dX7_hasStackLike_22 : decode cX7_hasStackLike 22 = .ok (.iload_n 3, 1) := by decide +kernel
theorem dX7_hasStackLike_23 : decode cX7_hasStackLike 23 = .ok (.if_icmp .ge 28, 3) := by decide +kernel
theorem dX7_hasStackLike_26 : decode cX7_hasStackLike 26 = .ok (.aload_n 0, 1) := by decide +kernel
theorem dX7_hasStackLike_27 : decode cX7_hasStackLike 27 = .ok (.iload_n 1, 1) := by decide +kernel
theorem dX7_hasStackLike_28 : decode cX7_hasStackLike 28 = .ok (.iload 4, 2) := by decide +kernel
theorem dX7_hasStackLike_30 : decode cX7_hasStackLike 30 = .ok (.invokevirtual 125, 3) := by decide +kernel
theorem dX7_hasStackLike_33 : decode cX7_hasStackLike 33 = .ok (.aload_n 2, 1) := by decide +kernel
theorem dX7_hasStackLike_34 : decode cX7_hasStackLike 34 = .ok (.iload_n 1, 1) := by decide +kernel
theorem dX7_hasStackLike_35 : decode cX7_hasStackLike 35 = .ok (.iload 4, 2) := by decide +kernel
theorem dX7_hasStackLike_37 : decode cX7_hasStackLike 37 = .ok (.invokevirtual 125, 3) := by decide +kernel
theorem dX7_hasStackLike_40 : decode cX7_hasStackLike 40 = .ok (.if_icmp .eq 5, 3) := by decide +kernel
theorem dX7_hasStackLike_43 : decode cX7_hasStackLike 43 = .ok (.iconst 0, 1) := by decide +kernel
theorem dX7_hasStackLike_44 : decode cX7_hasStackLike 44 = .ok (.ireturn, 1) := by decide +kernel
theorem dX7_hasStackLike_45 : decode cX7_hasStackLike 45 = .ok (.iinc 4 1, 3) := by decide +kernel
theorem dX7_hasStackLike_48 : decode cX7_hasStackLike 48 = .ok (.goto (-28), 3) := by decide +kernel
theorem dX7_hasStackLike_51 : decode cX7_hasStackLike 51 = .ok (.iconst 1, 1) := by decide +kernel
theorem dX7_hasStackLike_52 : decode cX7_hasStackLike 52 = .ok (.ireturn, 1) := by decide +kernel
theorem dX7_statusWith_0 : decode cX7_statusWith 0 = .ok (.aload_n 0, 1) := by decide +kernel
theorem dX7_statusWith_1 : decode cX7_statusWith 1 = .ok (.getfield 22, 3) := by decide +kernel
theorem dX7_statusWith_4 : decode cX7_statusWith 4 = .ok (.ifCond .eq 8, 3) := by decide +kernel
theorem dX7_statusWith_7 : decode cX7_statusWith 7 = .ok (.aload_n 0, 1) := by decide +kernel
theorem dX7_statusWith_8 : decode cX7_statusWith 8 = .ok (.getfield 22, 3) := by decide +kernel
theorem dX7_statusWith_11 : decode cX7_statusWith 11 = .ok (.ireturn, 1) := by decide +kernel
theorem dX7_statusWith_12 : decode cX7_statusWith 12 = .ok (.aload_n 0, 1) := by decide +kernel
theorem dX7_statusWith_13 : decode cX7_statusWith 13 = .ok (.getfield 12, 3) := by decide +kernel
theorem dX7_statusWith_16 : decode cX7_statusWith 16 = .ok (.aload_n 0, 1) := by decide +kernel
theorem dX7_statusWith_17 : decode cX7_statusWith 17 = .ok (.aload_n 0, 1) := by decide +kernel
theorem dX7_statusWith_18 : decode cX7_statusWith 18 = .ok (.getfield 18, 3) := by decide +kernel
theorem dX7_statusWith_21 : decode cX7_statusWith 21 = .ok (.invokevirtual 122, 3) := by decide +kernel
theorem dX7_statusWith_24 : decode cX7_statusWith 24 = .ok (.invokevirtual 129, 3) := by decide +kernel
theorem dX7_statusWith_27 : decode cX7_statusWith 27 = .ok (.istore_n 2, 1) := by decide +kernel
theorem dX7_statusWith_28 : decode cX7_statusWith 28 = .ok (.iload_n 2, 1) := by decide +kernel
theorem dX7_statusWith_29 : decode cX7_statusWith 29 = .ok (.bipush 19, 2) := by decide +kernel
theorem dX7_statusWith_31 : decode cX7_statusWith 31 = .ok (.if_icmp .ne 12, 3) := by decide +kernel
theorem dX7_statusWith_34 : decode cX7_statusWith 34 = .ok (.aload_n 1, 1) := by decide +kernel
theorem dX7_statusWith_35 : decode cX7_statusWith 35 = .ok (.getfield 132, 3) := by decide +kernel
theorem dX7_statusWith_38 : decode cX7_statusWith 38 = .ok (.ifCond .ne 5, 3) := by decide +kernel
theorem dX7_statusWith_41 : decode cX7_statusWith 41 = .ok (.iconst 1, 1) := by decide +kernel
theorem dX7_statusWith_42 : decode cX7_statusWith 42 = .ok (.ireturn, 1) := by decide +kernel
theorem dX7_statusWith_43 : decode cX7_statusWith 43 = .ok (.iload_n 2, 1) := by decide +kernel
theorem dX7_statusWith_44 : decode cX7_statusWith 44 = .ok (.bipush 19, 2) := by decide +kernel
theorem dX7_statusWith_46 : decode cX7_statusWith 46 = .ok (.if_icmp .eq 9, 3) := by decide +kernel
theorem dX7_statusWith_49 : decode cX7_statusWith 49 = .ok (.iload_n 2, 1) := by decide +kernel
theorem dX7_statusWith_50 : decode cX7_statusWith 50 = .ok (.bipush 20, 2) := by decide +kernel
theorem dX7_statusWith_52 : decode cX7_statusWith 52 = .ok (.if_icmp .ne 15, 3) := by decide +kernel
theorem dX7_statusWith_55 : decode cX7_statusWith 55 = .ok (.aload_n 0, 1) := by decide +kernel
theorem dX7_statusWith_56 : decode cX7_statusWith 56 = .ok (.getfield 40, 3) := by decide +kernel
theorem dX7_statusWith_59 : decode cX7_statusWith 59 = .ok (.invokevirtual 137, 3) := by decide +kernel
theorem dX7_statusWith_62 : decode cX7_statusWith 62 = .ok (.ifCond .eq 5, 3) := by decide +kernel
theorem dX7_statusWith_65 : decode cX7_statusWith 65 = .ok (.iconst 3, 1) := by decide +kernel
theorem dX7_statusWith_66 : decode cX7_statusWith 66 = .ok (.ireturn, 1) := by decide +kernel
theorem dX7_statusWith_67 : decode cX7_statusWith 67 = .ok (.iconst 0, 1) := by decide +kernel
theorem dX7_statusWith_68 : decode cX7_statusWith 68 = .ok (.ireturn, 1) := by decide +kernel
theorem dX7_canStep_0 : decode cX7_canStep 0 = .ok (.aload_n 0, 1) := by decide +kernel
theorem dX7_canStep_1 : decode cX7_canStep 1 = .ok (.getfield 18, 3) := by decide +kernel
theorem dX7_canStep_4 : decode cX7_canStep 4 = .ok (.sipush 3000, 3) := by decide +kernel
theorem dX7_canStep_7 : decode cX7_canStep 7 = .ok (.if_icmp .ge 15, 3) := by decide +kernel
theorem dX7_canStep_10 : decode cX7_canStep 10 = .ok (.aload_n 0, 1) := by decide +kernel
theorem dX7_canStep_11 : decode cX7_canStep 11 = .ok (.aload_n 1, 1) := by decide +kernel
theorem dX7_canStep_12 : decode cX7_canStep 12 = .ok (.invokevirtual 141, 3) := by decide +kernel
theorem dX7_canStep_15 : decode cX7_canStep 15 = .ok (.ifCond .ne 7, 3) := by decide +kernel
theorem dX7_canStep_18 : decode cX7_canStep 18 = .ok (.iconst 1, 1) := by decide +kernel
theorem dX7_canStep_19 : decode cX7_canStep 19 = .ok (.goto 4, 3) := by decide +kernel
theorem dX7_canStep_22 : decode cX7_canStep 22 = .ok (.iconst 0, 1) := by decide +kernel
theorem dX7_canStep_23 : decode cX7_canStep 23 = .ok (.ireturn, 1) := by decide +kernel
theorem dX7_step_0 : decode cX7_step 0 = .ok (.aload_n 0, 1) := by decide +kernel
theorem dX7_step_1 : decode cX7_step 1 = .ok (.getfield 18, 3) := by decide +kernel
theorem dX7_step_4 : decode cX7_step 4 = .ok (.iconst 1, 1) := by decide +kernel
theorem dX7_step_5 : decode cX7_step 5 = .ok (.iadd, 1) := by decide +kernel
theorem dX7_step_6 : decode cX7_step 6 = .ok (.istore_n 2, 1) := by decide +kernel
theorem dX7_step_7 : decode cX7_step 7 = .ok (.aload_n 0, 1) := by decide +kernel
theorem dX7_step_8 : decode cX7_step 8 = .ok (.getfield 18, 3) := by decide +kernel
theorem dX7_step_11 : decode cX7_step 11 = .ok (.ifCond .lt 10, 3) := by decide +kernel
theorem dX7_step_14 : decode cX7_step 14 = .ok (.iload_n 2, 1) := by decide +kernel
theorem dX7_step_15 : decode cX7_step 15 = .ok (.sipush 3000, 3) := by decide +kernel
theorem dX7_step_18 : decode cX7_step 18 = .ok (.if_icmp .le 4, 3) := by decide +kernel
theorem dX7_step_21 : decode cX7_step 21 = .ok (.return_, 1) := by decide +kernel
theorem dX7_step_22 : decode cX7_step 22 = .ok (.aload_n 0, 1) := by decide +kernel
theorem dX7_step_23 : decode cX7_step 23 = .ok (.iconst (-1), 1) := by decide +kernel
theorem dX7_step_24 : decode cX7_step 24 = .ok (.putfield 25, 3) := by decide +kernel
theorem dX7_step_27 : decode cX7_step 27 = .ok (.aload_n 0, 1) := by decide +kernel
theorem dX7_step_28 : decode cX7_step 28 = .ok (.getfield 65, 3) := by decide +kernel
theorem dX7_step_31 : decode cX7_step 31 = .ok (.iload_n 2, 1) := by decide +kernel
theorem dX7_step_32 : decode cX7_step 32 = .ok (.aload_n 0, 1) := by decide +kernel
theorem dX7_step_33 : decode cX7_step 33 = .ok (.getfield 65, 3) := by decide +kernel
theorem dX7_step_36 : decode cX7_step 36 = .ok (.aload_n 0, 1) := by decide +kernel
theorem dX7_step_37 : decode cX7_step 37 = .ok (.getfield 18, 3) := by decide +kernel
theorem dX7_step_40 : decode cX7_step 40 = .ok (.iaload, 1) := by decide +kernel
theorem dX7_step_41 : decode cX7_step 41 = .ok (.iconst 1, 1) := by decide +kernel
theorem dX7_step_42 : decode cX7_step 42 = .ok (.iadd, 1) := by decide +kernel
theorem dX7_step_43 : decode cX7_step 43 = .ok (.bipush 64, 2) := by decide +kernel
theorem dX7_step_45 : decode cX7_step 45 = .ok (.invokestatic 145, 3) := by decide +kernel
theorem dX7_step_48 : decode cX7_step 48 = .ok (.iastore, 1) := by decide +kernel
theorem dX7_step_49 : decode cX7_step 49 = .ok (.aload_n 0, 1) := by decide +kernel
theorem dX7_step_50 : decode cX7_step 50 = .ok (.getfield 69, 3) := by decide +kernel
theorem dX7_step_53 : decode cX7_step 53 = .ok (.iload_n 2, 1) := by decide +kernel
theorem dX7_step_54 : decode cX7_step 54 = .ok (.aload_n 0, 1) := by decide +kernel
theorem dX7_step_55 : decode cX7_step 55 = .ok (.getfield 69, 3) := by decide +kernel
theorem dX7_step_58 : decode cX7_step 58 = .ok (.aload_n 0, 1) := by decide +kernel
theorem dX7_step_59 : decode cX7_step 59 = .ok (.getfield 18, 3) := by decide +kernel
theorem dX7_step_62 : decode cX7_step 62 = .ok (.iaload, 1) := by decide +kernel
theorem dX7_step_63 : decode cX7_step 63 = .ok (.iastore, 1) := by decide +kernel
theorem dX7_step_64 : decode cX7_step 64 = .ok (.aload_n 0, 1) := by decide +kernel
theorem dX7_step_65 : decode cX7_step 65 = .ok (.getfield 72, 3) := by decide +kernel
theorem dX7_step_68 : decode cX7_step 68 = .ok (.iload_n 2, 1) := by decide +kernel
theorem dX7_step_69 : decode cX7_step 69 = .ok (.aload_n 0, 1) := by decide +kernel
theorem dX7_step_70 : decode cX7_step 70 = .ok (.getfield 72, 3) := by decide +kernel
theorem dX7_step_73 : decode cX7_step 73 = .ok (.aload_n 0, 1) := by decide +kernel
theorem dX7_step_74 : decode cX7_step 74 = .ok (.getfield 18, 3) := by decide +kernel
theorem dX7_step_77 : decode cX7_step 77 = .ok (.iaload, 1) := by decide +kernel
theorem dX7_step_78 : decode cX7_step 78 = .ok (.iastore, 1) := by decide +kernel
theorem dX7_step_79 : decode cX7_step 79 = .ok (.aload_n 0, 1) := by decide +kernel
theorem dX7_step_80 : decode cX7_step 80 = .ok (.getfield 75, 3) := by decide +kernel
theorem dX7_step_83 : decode cX7_step 83 = .ok (.iload_n 2, 1) := by decide +kernel
theorem dX7_step_84 : decode cX7_step 84 = .ok (.aload_n 0, 1) := by decide +kernel
theorem dX7_step_85 : decode cX7_step 85 = .ok (.getfield 75, 3) := by decide +kernel
theorem dX7_step_88 : decode cX7_step 88 = .ok (.aload_n 0, 1) := by decide +kernel
theorem dX7_step_89 : decode cX7_step 89 = .ok (.getfield 18, 3) := by decide +kernel
theorem dX7_step_92 : decode cX7_step 92 = .ok (.iaload, 1) := by decide +kernel
theorem dX7_step_93 : decode cX7_step 93 = .ok (.iastore, 1) := by decide +kernel
theorem dX7_step_94 : decode cX7_step 94 = .ok (.aload_n 0, 1) := by decide +kernel
theorem dX7_step_95 : decode cX7_step 95 = .ok (.aload_n 0, 1) := by decide +kernel
theorem dX7_step_96 : decode cX7_step 96 = .ok (.getfield 65, 3) := by decide +kernel
theorem dX7_step_99 : decode cX7_step 99 = .ok (.aload_n 0, 1) := by decide +kernel
theorem dX7_step_100 : decode cX7_step 100 = .ok (.getfield 18, 3) := by decide +kernel
theorem dX7_step_103 : decode cX7_step 103 = .ok (.iaload, 1) := by decide +kernel
theorem dX7_step_104 : decode cX7_step 104 = .ok (.aload_n 1, 1) := by decide +kernel
theorem dX7_step_105 : decode cX7_step 105 = .ok (.invokestatic 150, 3) := by decide +kernel
theorem dX7_step_108 : decode cX7_step 108 = .ok (.istore_n 3, 1) := by decide +kernel
theorem dX7_step_109 : decode cX7_step 109 = .ok (.iload_n 3, 1) := by decide +kernel
theorem dX7_step_110 : decode cX7_step 110 = .ok (.ifCond .eq 11, 3) := by decide +kernel
theorem dX7_step_113 : decode cX7_step 113 = .ok (.aload_n 0, 1) := by decide +kernel
theorem dX7_step_114 : decode cX7_step 114 = .ok (.bipush 10, 2) := by decide +kernel
theorem dX7_step_116 : decode cX7_step 116 = .ok (.iload_n 3, 1) := by decide +kernel
theorem dX7_step_117 : decode cX7_step 117 = .ok (.iadd, 1) := by decide +kernel
theorem dX7_step_118 : decode cX7_step 118 = .ok (.putfield 22, 3) := by decide +kernel
theorem dX7_step_121 : decode cX7_step 121 = .ok (.aload_n 0, 1) := by decide +kernel
theorem dX7_step_122 : decode cX7_step 122 = .ok (.iload_n 2, 1) := by decide +kernel
theorem dX7_step_123 : decode cX7_step 123 = .ok (.putfield 18, 3) := by decide +kernel
theorem dX7_step_126 : decode cX7_step 126 = .ok (.aload_n 0, 1) := by decide +kernel
theorem dX7_step_127 : decode cX7_step 127 = .ok (.getfield 61, 3) := by decide +kernel
theorem dX7_step_130 : decode cX7_step 130 = .ok (.aload_n 0, 1) := by decide +kernel
theorem dX7_step_131 : decode cX7_step 131 = .ok (.getfield 18, 3) := by decide +kernel
theorem dX7_step_134 : decode cX7_step 134 = .ok (.invokevirtual 156, 3) := by decide +kernel
theorem dX7_step_137 : decode cX7_step 137 = .ok (.return_, 1) := by decide +kernel
theorem dX7_putByPoke_0 : decode cX7_putByPoke 0 = .ok (.aload_n 0, 1) := by decide +kernel
theorem dX7_putByPoke_1 : decode cX7_putByPoke 1 = .ok (.getfield 40, 3) := by decide +kernel
theorem dX7_putByPoke_4 : decode cX7_putByPoke 4 = .ok (.aload_n 0, 1) := by decide +kernel
theorem dX7_putByPoke_5 : decode cX7_putByPoke 5 = .ok (.getfield 18, 3) := by decide +kernel
theorem dX7_putByPoke_8 : decode cX7_putByPoke 8 = .ok (.iload_n 1, 1) := by decide +kernel
theorem dX7_putByPoke_9 : decode cX7_putByPoke 9 = .ok (.iload_n 2, 1) := by decide +kernel
theorem dX7_putByPoke_10 : decode cX7_putByPoke 10 = .ok (.iload_n 3, 1) := by decide +kernel
theorem dX7_putByPoke_11 : decode cX7_putByPoke 11 = .ok (.invokevirtual 160, 3) := by decide +kernel
theorem dX7_putByPoke_14 : decode cX7_putByPoke 14 = .ok (.aload_n 0, 1) := by decide +kernel
theorem dX7_putByPoke_15 : decode cX7_putByPoke 15 = .ok (.getfield 47, 3) := by decide +kernel
theorem dX7_putByPoke_18 : decode cX7_putByPoke 18 = .ok (.aload_n 0, 1) := by decide +kernel
theorem dX7_putByPoke_19 : decode cX7_putByPoke 19 = .ok (.getfield 18, 3) := by decide +kernel
theorem dX7_putByPoke_22 : decode cX7_putByPoke 22 = .ok (.iload_n 1, 1) := by decide +kernel
theorem dX7_putByPoke_23 : decode cX7_putByPoke 23 = .ok (.iload_n 2, 1) := by decide +kernel
theorem dX7_putByPoke_24 : decode cX7_putByPoke 24 = .ok (.iload_n 3, 1) := by decide +kernel
theorem dX7_putByPoke_25 : decode cX7_putByPoke 25 = .ok (.invokevirtual 164, 3) := by decide +kernel
theorem dX7_putByPoke_28 : decode cX7_putByPoke 28 = .ok (.istore 4, 2) := by decide +kernel
theorem dX7_putByPoke_30 : decode cX7_putByPoke 30 = .ok (.aload_n 0, 1) := by decide +kernel
theorem dX7_putByPoke_31 : decode cX7_putByPoke 31 = .ok (.getfield 47, 3) := by decide +kernel
theorem dX7_putByPoke_34 : decode cX7_putByPoke 34 = .ok (.iconst (-1), 1) := by decide +kernel
theorem dX7_putByPoke_35 : decode cX7_putByPoke 35 = .ok (.aload_n 0, 1) := by decide +kernel
theorem dX7_putByPoke_36 : decode cX7_putByPoke 36 = .ok (.getfield 40, 3) := by decide +kernel
theorem dX7_putByPoke_39 : decode cX7_putByPoke 39 = .ok (.getfield 99, 3) := by decide +kernel
theorem dX7_putByPoke_42 : decode cX7_putByPoke 42 = .ok (.iconst 1, 1) := by decide +kernel
theorem dX7_putByPoke_43 : decode cX7_putByPoke 43 = .ok (.isub, 1) := by decide +kernel
theorem dX7_putByPoke_44 : decode cX7_putByPoke 44 = .ok (.iconst (-1), 1) := by decide +kernel
theorem dX7_putByPoke_45 : decode cX7_putByPoke 45 = .ok (.iconst (-1), 1) := by decide +kernel
theorem dX7_putByPoke_46 : decode cX7_putByPoke 46 = .ok (.invokevirtual 168, 3) := by decide +kernel
theorem dX7_putByPoke_49 : decode cX7_putByPoke 49 = .ok (.iload 4, 2) := by decide +kernel
theorem dX7_putByPoke_51 : decode cX7_putByPoke 51 = .ok (.ireturn, 1) := by decide +kernel
theorem dX7_putByStep_0 : decode cX7_putByStep 0 = .ok (.aload_n 0, 1) := by decide +kernel
theorem dX7_putByStep_1 : decode cX7_putByStep 1 = .ok (.getfield 47, 3) := by decide +kernel
theorem dX7_putByStep_4 : decode cX7_putByStep 4 = .ok (.aload_n 0, 1) := by decide +kernel
theorem dX7_putByStep_5 : decode cX7_putByStep 5 = .ok (.getfield 18, 3) := by decide +kernel
theorem dX7_putByStep_8 : decode cX7_putByStep 8 = .ok (.iconst 1, 1) := by decide +kernel
theorem dX7_putByStep_9 : decode cX7_putByStep 9 = .ok (.iadd, 1) := by decide +kernel
theorem dX7_putByStep_10 : decode cX7_putByStep 10 = .ok (.iload_n 1, 1) := by decide +kernel
theorem dX7_putByStep_11 : decode cX7_putByStep 11 = .ok (.iload_n 2, 1) := by decide +kernel
theorem dX7_putByStep_12 : decode cX7_putByStep 12 = .ok (.iload_n 3, 1) := by decide +kernel
theorem dX7_putByStep_13 : decode cX7_putByStep 13 = .ok (.invokevirtual 164, 3) := by decide +kernel
theorem dX7_putByStep_16 : decode cX7_putByStep 16 = .ok (.istore 6, 2) := by decide +kernel
theorem dX7_putByStep_18 : decode cX7_putByStep 18 = .ok (.aload_n 0, 1) := by decide +kernel
theorem dX7_putByStep_19 : decode cX7_putByStep 19 = .ok (.getfield 47, 3) := by decide +kernel
theorem dX7_putByStep_22 : decode cX7_putByStep 22 = .ok (.aload_n 0, 1) := by decide +kernel
theorem dX7_putByStep_23 : decode cX7_putByStep 23 = .ok (.getfield 18, 3) := by decide +kernel
theorem dX7_putByStep_26 : decode cX7_putByStep 26 = .ok (.iconst (-1), 1) := by decide +kernel
theorem dX7_putByStep_27 : decode cX7_putByStep 27 = .ok (.iload 4, 2) := by decide +kernel
theorem dX7_putByStep_29 : decode cX7_putByStep 29 = .ok (.iload 5, 2) := by decide +kernel
theorem dX7_putByStep_31 : decode cX7_putByStep 31 = .ok (.invokevirtual 168, 3) := by decide +kernel
theorem dX7_putByStep_34 : decode cX7_putByStep 34 = .ok (.aload_n 0, 1) := by decide +kernel
theorem dX7_putByStep_35 : decode cX7_putByStep 35 = .ok (.iload 6, 2) := by decide +kernel
theorem dX7_putByStep_37 : decode cX7_putByStep 37 = .ok (.ifCond .eq 7, 3) := by decide +kernel
theorem dX7_putByStep_40 : decode cX7_putByStep 40 = .ok (.iload_n 1, 1) := by decide +kernel
theorem dX7_putByStep_41 : decode cX7_putByStep 41 = .ok (.goto 4, 3) := by decide +kernel
theorem dX7_putByStep_44 : decode cX7_putByStep 44 = .ok (.iconst (-1), 1) := by decide +kernel
theorem dX7_putByStep_45 : decode cX7_putByStep 45 = .ok (.putfield 25, 3) := by decide +kernel
theorem dX7_putByStep_48 : decode cX7_putByStep 48 = .ok (.return_, 1) := by decide +kernel
theorem dX7_putFromOutside_0 : decode cX7_putFromOutside 0 = .ok (.aload_n 0, 1) := by decide +kernel
theorem dX7_putFromOutside_1 : decode cX7_putFromOutside 1 = .ok (.getfield 40, 3) := by decide +kernel
theorem dX7_putFromOutside_4 : decode cX7_putFromOutside 4 = .ok (.aload_n 0, 1) := by decide +kernel
theorem dX7_putFromOutside_5 : decode cX7_putFromOutside 5 = .ok (.getfield 18, 3) := by decide +kernel
theorem dX7_putFromOutside_8 : decode cX7_putFromOutside 8 = .ok (.iload_n 2, 1) := by decide +kernel
theorem dX7_putFromOutside_9 : decode cX7_putFromOutside 9 = .ok (.iload_n 3, 1) := by decide +kernel
theorem dX7_putFromOutside_10 : decode cX7_putFromOutside 10 = .ok (.invokevirtual 171, 3) := by decide +kernel
theorem dX7_putFromOutside_13 : decode cX7_putFromOutside 13 = .ok (.aload_n 0, 1) := by decide +kernel
theorem dX7_putFromOutside_14 : decode cX7_putFromOutside 14 = .ok (.iload_n 1, 1) := by decide +kernel
theorem dX7_putFromOutside_15 : decode cX7_putFromOutside 15 = .ok (.iconst 2, 1) := by decide +kernel
theorem dX7_putFromOutside_16 : decode cX7_putFromOutside 16 = .ok (.iload_n 3, 1) := by decide +kernel
theorem dX7_putFromOutside_17 : decode cX7_putFromOutside 17 = .ok (.iconst (-1), 1) := by decide +kernel
theorem dX7_putFromOutside_18 : decode cX7_putFromOutside 18 = .ok (.iconst (-1), 1) := by decide +kernel
theorem dX7_putFromOutside_19 : decode cX7_putFromOutside 19 = .ok (.invokevirtual 175, 3) := by decide +kernel
theorem dX7_putFromOutside_22 : decode cX7_putFromOutside 22 = .ok (.aload_n 0, 1) := by decide +kernel
theorem dX7_putFromOutside_23 : decode cX7_putFromOutside 23 = .ok (.getfield 47, 3) := by decide +kernel
theorem dX7_putFromOutside_26 : decode cX7_putFromOutside 26 = .ok (.aload_n 0, 1) := by decide +kernel
theorem dX7_putFromOutside_27 : decode cX7_putFromOutside 27 = .ok (.getfield 18, 3) := by decide +kernel
theorem dX7_putFromOutside_30 : decode cX7_putFromOutside 30 = .ok (.aload_n 0, 1) := by decide +kernel
theorem dX7_putFromOutside_31 : decode cX7_putFromOutside 31 = .ok (.getfield 40, 3) := by decide +kernel
theorem dX7_putFromOutside_34 : decode cX7_putFromOutside 34 = .ok (.getfield 99, 3) := by decide +kernel
theorem dX7_putFromOutside_37 : decode cX7_putFromOutside 37 = .ok (.iconst 1, 1) := by decide +kernel
theorem dX7_putFromOutside_38 : decode cX7_putFromOutside 38 = .ok (.isub, 1) := by decide +kernel
theorem dX7_putFromOutside_39 : decode cX7_putFromOutside 39 = .ok (.iconst (-1), 1) := by decide +kernel
theorem dX7_putFromOutside_40 : decode cX7_putFromOutside 40 = .ok (.iconst (-1), 1) := by decide +kernel
theorem dX7_putFromOutside_41 : decode cX7_putFromOutside 41 = .ok (.invokevirtual 168, 3) := by decide +kernel
theorem dX7_putFromOutside_44 : decode cX7_putFromOutside 44 = .ok (.return_, 1) := by decide +kernel
theorem dX7_goOnAt_0 : decode cX7_goOnAt 0 = .ok (.aload_n 0, 1) := by decide +kernel
theorem dX7_goOnAt_1 : decode cX7_goOnAt 1 = .ok (.getfield 18, 3) := by decide +kernel
theorem dX7_goOnAt_4 : decode cX7_goOnAt 4 = .ok (.ifCond .lt 25, 3) := by decide +kernel
theorem dX7_goOnAt_7 : decode cX7_goOnAt 7 = .ok (.aload_n 0, 1) := by decide +kernel
theorem dX7_goOnAt_8 : decode cX7_goOnAt 8 = .ok (.getfield 18, 3) := by decide +kernel
theorem dX7_goOnAt_11 : decode cX7_goOnAt 11 = .ok (.sipush 3000, 3) := by decide +kernel
theorem dX7_goOnAt_14 : decode cX7_goOnAt 14 = .ok (.if_icmp .ge 15, 3) := by decide +kernel
theorem dX7_goOnAt_17 : decode cX7_goOnAt 17 = .ok (.aload_n 0, 1) := by decide +kernel
theorem dX7_goOnAt_18 : decode cX7_goOnAt 18 = .ok (.getfield 65, 3) := by decide +kernel
theorem dX7_goOnAt_21 : decode cX7_goOnAt 21 = .ok (.aload_n 0, 1) := by decide +kernel
theorem dX7_goOnAt_22 : decode cX7_goOnAt 22 = .ok (.getfield 18, 3) := by decide +kernel
theorem dX7_goOnAt_25 : decode cX7_goOnAt 25 = .ok (.iconst 1, 1) := by decide +kernel
theorem dX7_goOnAt_26 : decode cX7_goOnAt 26 = .ok (.iadd, 1) := by decide +kernel
theorem dX7_goOnAt_27 : decode cX7_goOnAt 27 = .ok (.iload_n 1, 1) := by decide +kernel
theorem dX7_goOnAt_28 : decode cX7_goOnAt 28 = .ok (.iastore, 1) := by decide +kernel
theorem dX7_goOnAt_29 : decode cX7_goOnAt 29 = .ok (.return_, 1) := by decide +kernel
theorem dX7_addOut_0 : decode cX7_addOut 0 = .ok (.aload_n 0, 1) := by decide +kernel
theorem dX7_addOut_1 : decode cX7_addOut 1 = .ok (.getfield 18, 3) := by decide +kernel
theorem dX7_addOut_4 : decode cX7_addOut 4 = .ok (.ifCond .lt 57, 3) := by decide +kernel
theorem dX7_addOut_7 : decode cX7_addOut 7 = .ok (.aload_n 0, 1) := by decide +kernel
theorem dX7_addOut_8 : decode cX7_addOut 8 = .ok (.getfield 18, 3) := by decide +kernel
theorem dX7_addOut_11 : decode cX7_addOut 11 = .ok (.sipush 3000, 3) := by decide +kernel
theorem dX7_addOut_14 : decode cX7_addOut 14 = .ok (.if_icmp .ge 47, 3) := by decide +kernel
theorem dX7_addOut_17 : decode cX7_addOut 17 = .ok (.aload_n 0, 1) := by decide +kernel
theorem dX7_addOut_18 : decode cX7_addOut 18 = .ok (.getfield 69, 3) := by decide +kernel
theorem dX7_addOut_21 : decode cX7_addOut 21 = .ok (.aload_n 0, 1) := by decide +kernel
theorem dX7_addOut_22 : decode cX7_addOut 22 = .ok (.getfield 18, 3) := by decide +kernel
theorem dX7_addOut_25 : decode cX7_addOut 25 = .ok (.iconst 1, 1) := by decide +kernel
theorem dX7_addOut_26 : decode cX7_addOut 26 = .ok (.iadd, 1) := by decide +kernel
theorem dX7_addOut_27 : decode cX7_addOut 27 = .ok (.dup2, 1) := by decide +kernel
theorem dX7_addOut_28 : decode cX7_addOut 28 = .ok (.iaload, 1) := by decide +kernel
theorem dX7_addOut_29 : decode cX7_addOut 29 = .ok (.iconst 1, 1) := by decide +kernel
theorem dX7_addOut_30 : decode cX7_addOut 30 = .ok (.iadd, 1) := by decide +kernel
theorem dX7_addOut_31 : decode cX7_addOut 31 = .ok (.iastore, 1) := by decide +kernel
theorem dX7_addOut_32 : decode cX7_addOut 32 = .ok (.aload_n 0, 1) := by decide +kernel
theorem dX7_addOut_33 : decode cX7_addOut 33 = .ok (.getfield 72, 3) := by decide +kernel
theorem dX7_addOut_36 : decode cX7_addOut 36 = .ok (.aload_n 0, 1) := by decide +kernel
theorem dX7_addOut_37 : decode cX7_addOut 37 = .ok (.getfield 18, 3) := by decide +kernel
theorem dX7_addOut_40 : decode cX7_addOut 40 = .ok (.iconst 1, 1) := by decide +kernel
theorem dX7_addOut_41 : decode cX7_addOut 41 = .ok (.iadd, 1) := by decide +kernel
theorem dX7_addOut_42 : decode cX7_addOut 42 = .ok (.bipush 31, 2) := by decide +kernel
theorem dX7_addOut_44 : decode cX7_addOut 44 = .ok (.aload_n 0, 1) := by decide +kernel
theorem dX7_addOut_45 : decode cX7_addOut 45 = .ok (.getfield 72, 3) := by decide +kernel
theorem dX7_addOut_48 : decode cX7_addOut 48 = .ok (.aload_n 0, 1) := by decide +kernel
theorem dX7_addOut_49 : decode cX7_addOut 49 = .ok (.getfield 18, 3) := by decide +kernel
theorem dX7_addOut_52 : decode cX7_addOut 52 = .ok (.iaload, 1) := by decide +kernel
theorem dX7_addOut_53 : decode cX7_addOut 53 = .ok (.imul, 1) := by decide +kernel
theorem dX7_addOut_54 : decode cX7_addOut 54 = .ok (.iconst 3, 1) := by decide +kernel
theorem dX7_addOut_55 : decode cX7_addOut 55 = .ok (.iload_n 2, 1) := by decide +kernel
theorem dX7_addOut_56 : decode cX7_addOut 56 = .ok (.imul, 1) := by decide +kernel
theorem dX7_addOut_57 : decode cX7_addOut 57 = .ok (.iadd, 1) := by decide +kernel
theorem dX7_addOut_58 : decode cX7_addOut 58 = .ok (.iload_n 1, 1) := by decide +kernel
theorem dX7_addOut_59 : decode cX7_addOut 59 = .ok (.iadd, 1) := by decide +kernel
theorem dX7_addOut_60 : decode cX7_addOut 60 = .ok (.iastore, 1) := by decide +kernel
theorem dX7_addOut_61 : decode cX7_addOut 61 = .ok (.return_, 1) := by decide +kernel
theorem dX7_stackUp_0 : decode cX7_stackUp 0 = .ok (.aload_n 0, 1) := by decide +kernel
theorem dX7_stackUp_1 : decode cX7_stackUp 1 = .ok (.getfield 18, 3) := by decide +kernel
theorem dX7_stackUp_4 : decode cX7_stackUp 4 = .ok (.ifCond .lt 28, 3) := by decide +kernel
theorem dX7_stackUp_7 : decode cX7_stackUp 7 = .ok (.aload_n 0, 1) := by decide +kernel
theorem dX7_stackUp_8 : decode cX7_stackUp 8 = .ok (.getfield 18, 3) := by decide +kernel
theorem dX7_stackUp_11 : decode cX7_stackUp 11 = .ok (.sipush 3000, 3) := by decide +kernel
theorem dX7_stackUp_14 : decode cX7_stackUp 14 = .ok (.if_icmp .ge 18, 3) := by decide +kernel
theorem dX7_stackUp_17 : decode cX7_stackUp 17 = .ok (.aload_n 0, 1) := by decide +kernel
theorem dX7_stackUp_18 : decode cX7_stackUp 18 = .ok (.getfield 75, 3) := by decide +kernel
theorem dX7_stackUp_21 : decode cX7_stackUp 21 = .ok (.aload_n 0, 1) := by decide +kernel
theorem dX7_stackUp_22 : decode cX7_stackUp 22 = .ok (.getfield 18, 3) := by decide +kernel
theorem dX7_stackUp_25 : decode cX7_stackUp 25 = .ok (.iconst 1, 1) := by decide +kernel
theorem dX7_stackUp_26 : decode cX7_stackUp 26 = .ok (.iadd, 1) := by decide +kernel
theorem dX7_stackUp_27 : decode cX7_stackUp 27 = .ok (.aload_n 0, 1) := by decide +kernel
theorem dX7_stackUp_28 : decode cX7_stackUp 28 = .ok (.getfield 18, 3) := by decide +kernel
theorem dX7_stackUp_31 : decode cX7_stackUp 31 = .ok (.iastore, 1) := by decide +kernel
theorem dX7_stackUp_32 : decode cX7_stackUp 32 = .ok (.return_, 1) := by decide +kernel
theorem dX7_stackDown_0 : decode cX7_stackDown 0 = .ok (.aload_n 0, 1) := by decide +kernel
theorem dX7_stackDown_1 : decode cX7_stackDown 1 = .ok (.getfield 18, 3) := by decide +kernel
theorem dX7_stackDown_4 : decode cX7_stackDown 4 = .ok (.ifCond .lt 36, 3) := by decide +kernel
theorem dX7_stackDown_7 : decode cX7_stackDown 7 = .ok (.aload_n 0, 1) := by decide +kernel
theorem dX7_stackDown_8 : decode cX7_stackDown 8 = .ok (.getfield 18, 3) := by decide +kernel
theorem dX7_stackDown_11 : decode cX7_stackDown 11 = .ok (.sipush 3000, 3) := by decide +kernel
theorem dX7_stackDown_14 : decode cX7_stackDown 14 = .ok (.if_icmp .ge 26, 3) := by decide +kernel
theorem dX7_stackDown_17 : decode cX7_stackDown 17 = .ok (.aload_n 0, 1) := by decide +kernel
theorem dX7_stackDown_18 : decode cX7_stackDown 18 = .ok (.getfield 75, 3) := by decide +kernel
theorem dX7_stackDown_21 : decode cX7_stackDown 21 = .ok (.aload_n 0, 1) := by decide +kernel
theorem dX7_stackDown_22 : decode cX7_stackDown 22 = .ok (.getfield 18, 3) := by decide +kernel
theorem dX7_stackDown_25 : decode cX7_stackDown 25 = .ok (.iconst 1, 1) := by decide +kernel
theorem dX7_stackDown_26 : decode cX7_stackDown 26 = .ok (.iadd, 1) := by decide +kernel
theorem dX7_stackDown_27 : decode cX7_stackDown 27 = .ok (.aload_n 0, 1) := by decide +kernel
theorem dX7_stackDown_28 : decode cX7_stackDown 28 = .ok (.aload_n 0, 1) := by decide +kernel
theorem dX7_stackDown_29 : decode cX7_stackDown 29 = .ok (.aload_n 0, 1) := by decide +kernel
theorem dX7_stackDown_30 : decode cX7_stackDown 30 = .ok (.getfield 18, 3) := by decide +kernel
theorem dX7_stackDown_33 : decode cX7_stackDown 33 = .ok (.invokevirtual 114, 3) := by decide +kernel
theorem dX7_stackDown_36 : decode cX7_stackDown 36 = .ok (.invokevirtual 114, 3) := by decide +kernel
theorem dX7_stackDown_39 : decode cX7_stackDown 39 = .ok (.iastore, 1) := by decide +kernel
theorem dX7_stackDown_40 : decode cX7_stackDown 40 = .ok (.return_, 1) := by decide +kernel
theorem dX7_goBack_0 : decode cX7_goBack 0 = .ok (.aload_n 0, 1) := by decide +kernel
theorem dX7_goBack_1 : decode cX7_goBack 1 = .ok (.iload_n 1, 1) := by decide +kernel
theorem dX7_goBack_2 : decode cX7_goBack 2 = .ok (.invokevirtual 110, 3) := by decide +kernel
theorem dX7_goBack_5 : decode cX7_goBack 5 = .ok (.ifCond .ne 4, 3) := by decide +kernel
theorem dX7_goBack_8 : decode cX7_goBack 8 = .ok (.return_, 1) := by decide +kernel
theorem dX7_goBack_9 : decode cX7_goBack 9 = .ok (.aload_n 0, 1) := by decide +kernel
theorem dX7_goBack_10 : decode cX7_goBack 10 = .ok (.getfield 40, 3) := by decide +kernel
theorem dX7_goBack_13 : decode cX7_goBack 13 = .ok (.iload_n 1, 1) := by decide +kernel
theorem dX7_goBack_14 : decode cX7_goBack 14 = .ok (.aload_n 2, 1) := by decide +kernel
theorem dX7_goBack_15 : decode cX7_goBack 15 = .ok (.invokevirtual 179, 3) := by decide +kernel
theorem dX7_goBack_18 : decode cX7_goBack 18 = .ok (.aload_n 0, 1) := by decide +kernel
theorem dX7_goBack_19 : decode cX7_goBack 19 = .ok (.getfield 47, 3) := by decide +kernel
theorem dX7_goBack_22 : decode cX7_goBack 22 = .ok (.iload_n 1, 1) := by decide +kernel
theorem dX7_goBack_23 : decode cX7_goBack 23 = .ok (.invokevirtual 183, 3) := by decide +kernel
theorem dX7_goBack_26 : decode cX7_goBack 26 = .ok (.aload_n 0, 1) := by decide +kernel
theorem dX7_goBack_27 : decode cX7_goBack 27 = .ok (.getfield 54, 3) := by decide +kernel
theorem dX7_goBack_30 : decode cX7_goBack 30 = .ok (.iload_n 1, 1) := by decide +kernel
theorem dX7_goBack_31 : decode cX7_goBack 31 = .ok (.invokevirtual 185, 3) := by decide +kernel
theorem dX7_goBack_34 : decode cX7_goBack 34 = .ok (.aload_n 0, 1) := by decide +kernel
theorem dX7_goBack_35 : decode cX7_goBack 35 = .ok (.getfield 61, 3) := by decide +kernel
theorem dX7_goBack_38 : decode cX7_goBack 38 = .ok (.iload_n 1, 1) := by decide +kernel
theorem dX7_goBack_39 : decode cX7_goBack 39 = .ok (.invokevirtual 188, 3) := by decide +kernel
theorem dX7_goBack_42 : decode cX7_goBack 42 = .ok (.aload_n 0, 1) := by decide +kernel
theorem dX7_goBack_43 : decode cX7_goBack 43 = .ok (.iload_n 1, 1) := by decide +kernel
theorem dX7_goBack_44 : decode cX7_goBack 44 = .ok (.putfield 18, 3) := by decide +kernel
theorem dX7_goBack_47 : decode cX7_goBack 47 = .ok (.aload_n 0, 1) := by decide +kernel
theorem dX7_goBack_48 : decode cX7_goBack 48 = .ok (.iconst 0, 1) := by decide +kernel
theorem dX7_goBack_49 : decode cX7_goBack 49 = .ok (.putfield 22, 3) := by decide +kernel
theorem dX7_goBack_52 : decode cX7_goBack 52 = .ok (.aload_n 0, 1) := by decide +kernel
theorem dX7_goBack_53 : decode cX7_goBack 53 = .ok (.dup, 1) := by decide +kernel
theorem dX7_goBack_54 : decode cX7_goBack 54 = .ok (.getfield 31, 3) := by decide +kernel
theorem dX7_goBack_57 : decode cX7_goBack 57 = .ok (.iconst 1, 1) := by decide +kernel
theorem dX7_goBack_58 : decode cX7_goBack 58 = .ok (.iadd, 1) := by decide +kernel
theorem dX7_goBack_59 : decode cX7_goBack 59 = .ok (.putfield 31, 3) := by decide +kernel
theorem dX7_goBack_62 : decode cX7_goBack 62 = .ok (.return_, 1) := by decide +kernel
theorem dX8_perform_0 : decode cX8_perform 0 = .ok (.aload_n 0, 1) := by decide +kernel
theorem dX8_perform_1 : decode cX8_perform 1 = .ok (.getfield 9, 3) := by decide +kernel
theorem dX8_perform_4 : decode cX8_perform 4 = .ok (.iload_n 1, 1) := by decide +kernel
theorem dX8_perform_5 : decode cX8_perform 5 = .ok (.invokevirtual 15, 3) := by decide +kernel
theorem dX8_perform_8 : decode cX8_perform 8 = .ok (.istore_n 3, 1) := by decide +kernel
theorem dX8_perform_9 : decode cX8_perform 9 = .ok (.aload_n 0, 1) := by decide +kernel
theorem dX8_perform_10 : decode cX8_perform 10 = .ok (.getfield 9, 3) := by decide +kernel
theorem dX8_perform_13 : decode cX8_perform 13 = .ok (.iload_n 1, 1) := by decide +kernel
theorem dX8_perform_14 : decode cX8_perform 14 = .ok (.invokevirtual 21, 3) := by decide +kernel
theorem dX8_perform_17 : decode cX8_perform 17 = .ok (.istore 4, 2) := by decide +kernel
theorem dX8_perform_19 : decode cX8_perform 19 = .ok (.aload_n 0, 1) := by decide +kernel
theorem dX8_perform_20 : decode cX8_perform 20 = .ok (.getfield 9, 3) := by decide +kernel
theorem dX8_perform_23 : decode cX8_perform 23 = .ok (.iload_n 1, 1) := by decide +kernel
theorem dX8_perform_24 : decode cX8_perform 24 = .ok (.invokevirtual 24, 3) := by decide +kernel
theorem dX8_perform_27 : decode cX8_perform 27 = .ok (.istore 5, 2) := by decide +kernel
theorem dX8_perform_29 : decode cX8_perform 29 = .ok (.aload_n 0, 1) := by decide +kernel
theorem dX8_perform_30 : decode cX8_perform 30 = .ok (.getfield 9, 3) := by decide +kernel
theorem dX8_perform_33 : decode cX8_perform 33 = .ok (.iload_n 1, 1) := by decide +kernel
theorem dX8_perform_34 : decode cX8_perform 34 = .ok (.invokevirtual 27, 3) := by decide +kernel
theorem dX8_perform_37 : decode cX8_perform 37 = .ok (.istore 6, 2) := by decide +kernel
theorem dX8_perform_39 : decode cX8_perform 39 = .ok (.iload_n 3, 1) := by decide +kernel
theorem dX8_perform_40 : decode cX8_perform 40 = .ok (.tableswitch 365 (-1) 22 #[363, 112, 119, 132, 157, 365, 365, 365, 365, 365, 365, 174, 200, 218, 244, 260, 326, 334, 350, 357, 283, 296, 311, 145], 112) := by decide +kernel
theorem dX8_perform_152 : decode cX8_perform 152 = .ok (.aload_n 0, 1) := by decide +kernel
theorem dX8_perform_153 : decode cX8_perform 153 = .ok (.iconst 2, 1) := by decide +kernel
theorem dX8_perform_154 : decode cX8_perform 154 = .ok (.putfield 30, 3) := by decide +kernel
theorem dX8_perform_157 : decode cX8_perform 157 = .ok (.iconst 0, 1) := by decide +kernel
theorem dX8_perform_158 : decode cX8_perform 158 = .ok (.ireturn, 1) := by decide +kernel
theorem dX8_perform_159 : decode cX8_perform 159 = .ok (.aload_n 0, 1) := by decide +kernel
theorem dX8_perform_160 : decode cX8_perform 160 = .ok (.iload 4, 2) := by decide +kernel
theorem dX8_perform_162 : decode cX8_perform 162 = .ok (.iconst 2, 1) := by decide +kernel
theorem dX8_perform_163 : decode cX8_perform 163 = .ok (.iload 5, 2) := by decide +kernel
theorem dX8_perform_165 : decode cX8_perform 165 = .ok (.iconst (-1), 1) := by decide +kernel
theorem dX8_perform_166 : decode cX8_perform 166 = .ok (.iconst (-1), 1) := by decide +kernel
theorem dX8_perform_167 : decode cX8_perform 167 = .ok (.invokevirtual 34, 3) := by decide +kernel
theorem dX8_perform_170 : decode cX8_perform 170 = .ok (.iconst 0, 1) := by decide +kernel
theorem dX8_perform_171 : decode cX8_perform 171 = .ok (.ireturn, 1) := by decide +kernel
theorem dX8_perform_172 : decode cX8_perform 172 = .ok (.aload_n 0, 1) := by decide +kernel
theorem dX8_perform_173 : decode cX8_perform 173 = .ok (.iload 4, 2) := by decide +kernel
theorem dX8_perform_175 : decode cX8_perform 175 = .ok (.iconst 1, 1) := by decide +kernel
theorem dX8_perform_176 : decode cX8_perform 176 = .ok (.iload 5, 2) := by decide +kernel
theorem dX8_perform_178 : decode cX8_perform 178 = .ok (.iconst (-1), 1) := by decide +kernel
theorem dX8_perform_179 : decode cX8_perform 179 = .ok (.iconst (-1), 1) := by decide +kernel
theorem dX8_perform_180 : decode cX8_perform 180 = .ok (.invokevirtual 34, 3) := by decide +kernel
theorem dX8_perform_183 : decode cX8_perform 183 = .ok (.iconst 0, 1) := by decide +kernel
theorem dX8_perform_184 : decode cX8_perform 184 = .ok (.ireturn, 1) := by decide +kernel
theorem dX8_perform_185 : decode cX8_perform 185 = .ok (.aload_n 0, 1) := by decide +kernel
theorem dX8_perform_186 : decode cX8_perform 186 = .ok (.iload 4, 2) := by decide +kernel
theorem dX8_perform_188 : decode cX8_perform 188 = .ok (.iconst 0, 1) := by decide +kernel
theorem dX8_perform_189 : decode cX8_perform 189 = .ok (.iconst 0, 1) := by decide +kernel
theorem dX8_perform_190 : decode cX8_perform 190 = .ok (.iconst (-1), 1) := by decide +kernel
theorem dX8_perform_191 : decode cX8_perform 191 = .ok (.iconst (-1), 1) := by decide +kernel
theorem dX8_perform_192 : decode cX8_perform 192 = .ok (.invokevirtual 34, 3) := by decide +kernel
theorem dX8_perform_195 : decode cX8_perform 195 = .ok (.iconst 0, 1) := by decide +kernel
theorem dX8_perform_196 : decode cX8_perform 196 = .ok (.ireturn, 1) := by decide +kernel
theorem dX8_perform_197 : decode cX8_perform 197 = .ok (.aload_n 0, 1) := by decide +kernel
theorem dX8_perform_198 : decode cX8_perform 198 = .ok (.iload 4, 2) := by decide +kernel
theorem dX8_perform_200 : decode cX8_perform 200 = .ok (.aload_n 0, 1) := by decide +kernel
theorem dX8_perform_201 : decode cX8_perform 201 = .ok (.getfield 38, 3) := by decide +kernel
theorem dX8_perform_204 : decode cX8_perform 204 = .ok (.iload 5, 2) := by decide +kernel
theorem dX8_perform_206 : decode cX8_perform 206 = .ok (.invokevirtual 42, 3) := by decide +kernel
theorem dX8_perform_209 : decode cX8_perform 209 = .ok (.invokestatic 47, 3) := by decide +kernel
theorem dX8_perform_212 : decode cX8_perform 212 = .ok (.iconst 0, 1) := by decide +kernel
theorem dX8_perform_213 : decode cX8_perform 213 = .ok (.ireturn, 1) := by decide +kernel
theorem dX8_perform_214 : decode cX8_perform 214 = .ok (.aload_n 0, 1) := by decide +kernel
theorem dX8_perform_215 : decode cX8_perform 215 = .ok (.iload 4, 2) := by decide +kernel
theorem dX8_perform_217 : decode cX8_perform 217 = .ok (.aload_n 0, 1) := by decide +kernel
theorem dX8_perform_218 : decode cX8_perform 218 = .ok (.getfield 38, 3) := by decide +kernel
theorem dX8_perform_221 : decode cX8_perform 221 = .ok (.iload 5, 2) := by decide +kernel
theorem dX8_perform_223 : decode cX8_perform 223 = .ok (.invokevirtual 42, 3) := by decide +kernel
theorem dX8_perform_226 : decode cX8_perform 226 = .ok (.aload_n 0, 1) := by decide +kernel
theorem dX8_perform_227 : decode cX8_perform 227 = .ok (.getfield 38, 3) := by decide +kernel
theorem dX8_perform_230 : decode cX8_perform 230 = .ok (.iload 6, 2) := by decide +kernel
theorem dX8_perform_232 : decode cX8_perform 232 = .ok (.invokevirtual 42, 3) := by decide +kernel
theorem dX8_perform_235 : decode cX8_perform 235 = .ok (.invokestatic 53, 3) := by decide +kernel
theorem dX8_perform_238 : decode cX8_perform 238 = .ok (.iconst 0, 1) := by decide +kernel
theorem dX8_perform_239 : decode cX8_perform 239 = .ok (.ireturn, 1) := by decide +kernel
theorem dX8_perform_240 : decode cX8_perform 240 = .ok (.aload_n 0, 1) := by decide +kernel
theorem dX8_perform_241 : decode cX8_perform 241 = .ok (.iload 4, 2) := by decide +kernel
theorem dX8_perform_243 : decode cX8_perform 243 = .ok (.aload_n 0, 1) := by decide +kernel
theorem dX8_perform_244 : decode cX8_perform 244 = .ok (.getfield 38, 3) := by decide +kernel
theorem dX8_perform_247 : decode cX8_perform 247 = .ok (.iload 5, 2) := by decide +kernel
theorem dX8_perform_249 : decode cX8_perform 249 = .ok (.invokevirtual 42, 3) := by decide +kernel
theorem dX8_perform_252 : decode cX8_perform 252 = .ok (.iconst (-1), 1) := by decide +kernel
theorem dX8_perform_253 : decode cX8_perform 253 = .ok (.iload_n 3, 1) := by decide +kernel
theorem dX8_perform_254 : decode cX8_perform 254 = .ok (.invokestatic 57, 3) := by decide +kernel
theorem dX8_perform_257 : decode cX8_perform 257 = .ok (.ireturn, 1) := by decide +kernel
theorem dX8_perform_258 : decode cX8_perform 258 = .ok (.aload_n 0, 1) := by decide +kernel
theorem dX8_perform_259 : decode cX8_perform 259 = .ok (.iload 4, 2) := by decide +kernel
theorem dX8_perform_261 : decode cX8_perform 261 = .ok (.aload_n 0, 1) := by decide +kernel
theorem dX8_perform_262 : decode cX8_perform 262 = .ok (.getfield 38, 3) := by decide +kernel
theorem dX8_perform_265 : decode cX8_perform 265 = .ok (.iload 5, 2) := by decide +kernel
theorem dX8_perform_267 : decode cX8_perform 267 = .ok (.invokevirtual 42, 3) := by decide +kernel
theorem dX8_perform_270 : decode cX8_perform 270 = .ok (.aload_n 0, 1) := by decide +kernel
theorem dX8_perform_271 : decode cX8_perform 271 = .ok (.getfield 38, 3) := by decide +kernel
theorem dX8_perform_274 : decode cX8_perform 274 = .ok (.iload 6, 2) := by decide +kernel
theorem dX8_perform_276 : decode cX8_perform 276 = .ok (.invokevirtual 42, 3) := by decide +kernel
theorem dX8_perform_279 : decode cX8_perform 279 = .ok (.iload_n 3, 1) := by decide +kernel
theorem dX8_perform_280 : decode cX8_perform 280 = .ok (.invokestatic 57, 3) := by decide +kernel
theorem dX8_perform_283 : decode cX8_perform 283 = .ok (.ireturn, 1) := by decide +kernel
theorem dX8_perform_284 : decode cX8_perform 284 = .ok (.aload_n 0, 1) := by decide +kernel
theorem dX8_perform_285 : decode cX8_perform 285 = .ok (.iload 4, 2) := by decide +kernel
theorem dX8_perform_287 : decode cX8_perform 287 = .ok (.aload_n 0, 1) := by decide +kernel
theorem dX8_perform_288 : decode cX8_perform 288 = .ok (.getfield 38, 3) := by decide +kernel
theorem dX8_perform_291 : decode cX8_perform 291 = .ok (.iload 5, 2) := by decide +kernel
theorem dX8_perform_293 : decode cX8_perform 293 = .ok (.invokevirtual 42, 3) := by decide +kernel
theorem dX8_perform_296 : decode cX8_perform 296 = .ok (.invokestatic 61, 3) := by decide +kernel
theorem dX8_perform_299 : decode cX8_perform 299 = .ok (.ireturn, 1) := by decide +kernel
theorem dX8_perform_300 : decode cX8_perform 300 = .ok (.aload_n 0, 1) := by decide +kernel
theorem dX8_perform_301 : decode cX8_perform 301 = .ok (.aload_n 0, 1) := by decide +kernel
theorem dX8_perform_302 : decode cX8_perform 302 = .ok (.getfield 38, 3) := by decide +kernel
theorem dX8_perform_305 : decode cX8_perform 305 = .ok (.iload 4, 2) := by decide +kernel
theorem dX8_perform_307 : decode cX8_perform 307 = .ok (.invokevirtual 42, 3) := by decide +kernel
theorem dX8_perform_310 : decode cX8_perform 310 = .ok (.aload_n 0, 1) := by decide +kernel
theorem dX8_perform_311 : decode cX8_perform 311 = .ok (.getfield 38, 3) := by decide +kernel
theorem dX8_perform_314 : decode cX8_perform 314 = .ok (.iload 5, 2) := by decide +kernel
theorem dX8_perform_316 : decode cX8_perform 316 = .ok (.invokevirtual 42, 3) := by decide +kernel
theorem dX8_perform_319 : decode cX8_perform 319 = .ok (.invokestatic 65, 3) := by decide +kernel
theorem dX8_perform_322 : decode cX8_perform 322 = .ok (.ireturn, 1) := by decide +kernel
theorem dX8_perform_323 : decode cX8_perform 323 = .ok (.aload_n 0, 1) := by decide +kernel
theorem dX8_perform_324 : decode cX8_perform 324 = .ok (.iload 4, 2) := by decide +kernel
theorem dX8_perform_326 : decode cX8_perform 326 = .ok (.iconst 0, 1) := by decide +kernel
theorem dX8_perform_327 : decode cX8_perform 327 = .ok (.aload_n 2, 1) := by decide +kernel
theorem dX8_perform_328 : decode cX8_perform 328 = .ok (.invokevirtual 68, 3) := by decide +kernel
theorem dX8_perform_331 : decode cX8_perform 331 = .ok (.invokevirtual 74, 3) := by decide +kernel
theorem dX8_perform_334 : decode cX8_perform 334 = .ok (.iconst 0, 1) := by decide +kernel
theorem dX8_perform_335 : decode cX8_perform 335 = .ok (.ireturn, 1) := by decide +kernel
theorem dX8_perform_336 : decode cX8_perform 336 = .ok (.aload_n 0, 1) := by decide +kernel
theorem dX8_perform_337 : decode cX8_perform 337 = .ok (.iload 4, 2) := by decide +kernel
theorem dX8_perform_339 : decode cX8_perform 339 = .ok (.iconst 1, 1) := by decide +kernel
theorem dX8_perform_340 : decode cX8_perform 340 = .ok (.aload_n 2, 1) := by decide +kernel
theorem dX8_perform_341 : decode cX8_perform 341 = .ok (.iload 5, 2) := by decide +kernel
theorem dX8_perform_343 : decode cX8_perform 343 = .ok (.invokevirtual 78, 3) := by decide +kernel
theorem dX8_perform_346 : decode cX8_perform 346 = .ok (.invokevirtual 74, 3) := by decide +kernel
theorem dX8_perform_349 : decode cX8_perform 349 = .ok (.iconst 0, 1) := by decide +kernel
theorem dX8_perform_350 : decode cX8_perform 350 = .ok (.ireturn, 1) := by decide +kernel
theorem dX8_perform_351 : decode cX8_perform 351 = .ok (.aload_n 0, 1) := by decide +kernel
theorem dX8_perform_352 : decode cX8_perform 352 = .ok (.aload_n 0, 1) := by decide +kernel
theorem dX8_perform_353 : decode cX8_perform 353 = .ok (.getfield 38, 3) := by decide +kernel
theorem dX8_perform_356 : decode cX8_perform 356 = .ok (.iload 4, 2) := by decide +kernel
theorem dX8_perform_358 : decode cX8_perform 358 = .ok (.invokevirtual 42, 3) := by decide +kernel
theorem dX8_perform_361 : decode cX8_perform 361 = .ok (.invokestatic 81, 3) := by decide +kernel
theorem dX8_perform_364 : decode cX8_perform 364 = .ok (.iconst 0, 1) := by decide +kernel
theorem dX8_perform_365 : decode cX8_perform 365 = .ok (.ireturn, 1) := by decide +kernel
theorem dX8_perform_366 : decode cX8_perform 366 = .ok (.aload_n 0, 1) := by decide +kernel
theorem dX8_perform_367 : decode cX8_perform 367 = .ok (.iload 4, 2) := by decide +kernel
theorem dX8_perform_369 : decode cX8_perform 369 = .ok (.invokevirtual 85, 3) := by decide +kernel
theorem dX8_perform_372 : decode cX8_perform 372 = .ok (.iconst 0, 1) := by decide +kernel
theorem dX8_perform_373 : decode cX8_perform 373 = .ok (.ireturn, 1) := by decide +kernel
theorem dX8_perform_374 : decode cX8_perform 374 = .ok (.aload_n 0, 1) := by decide +kernel
theorem dX8_perform_375 : decode cX8_perform 375 = .ok (.aload_n 0, 1) := by decide +kernel
theorem dX8_perform_376 : decode cX8_perform 376 = .ok (.getfield 38, 3) := by decide +kernel
theorem dX8_perform_379 : decode cX8_perform 379 = .ok (.iload 4, 2) := by decide +kernel
theorem dX8_perform_381 : decode cX8_perform 381 = .ok (.invokevirtual 42, 3) := by decide +kernel
theorem dX8_perform_384 : decode cX8_perform 384 = .ok (.iload 5, 2) := by decide +kernel
theorem dX8_perform_386 : decode cX8_perform 386 = .ok (.invokestatic 89, 3) := by decide +kernel
theorem dX8_perform_389 : decode cX8_perform 389 = .ok (.ireturn, 1) := by decide +kernel
theorem dX8_perform_390 : decode cX8_perform 390 = .ok (.aload_n 0, 1) := by decide +kernel
theorem dX8_perform_391 : decode cX8_perform 391 = .ok (.iload 4, 2) := by decide +kernel
theorem dX8_perform_393 : decode cX8_perform 393 = .ok (.invokestatic 92, 3) := by decide +kernel
theorem dX8_perform_396 : decode cX8_perform 396 = .ok (.ireturn, 1) := by decide +kernel
theorem dX8_perform_397 : decode cX8_perform 397 = .ok (.aload_n 0, 1) := by decide +kernel
theorem dX8_perform_398 : decode cX8_perform 398 = .ok (.invokestatic 96, 3) := by decide +kernel
theorem dX8_perform_401 : decode cX8_perform 401 = .ok (.iconst 0, 1) := by decide +kernel
theorem dX8_perform_402 : decode cX8_perform 402 = .ok (.ireturn, 1) := by decide +kernel
theorem dX8_perform_403 : decode cX8_perform 403 = .ok (.iconst 5, 1) := by decide +kernel
theorem dX8_perform_404 : decode cX8_perform 404 = .ok (.ireturn, 1) := by decide +kernel
theorem dX8_perform_405 : decode cX8_perform 405 = .ok (.aload_n 0, 1) := by decide +kernel
theorem dX8_perform_406 : decode cX8_perform 406 = .ok (.iload 4, 2) := by decide +kernel
theorem dX8_perform_408 : decode cX8_perform 408 = .ok (.aload_n 0, 1) := by decide +kernel
theorem dX8_perform_409 : decode cX8_perform 409 = .ok (.getfield 38, 3) := by decide +kernel
theorem dX8_perform_412 : decode cX8_perform 412 = .ok (.iload 5, 2) := by decide +kernel
theorem dX8_perform_414 : decode cX8_perform 414 = .ok (.invokevirtual 42, 3) := by decide +kernel
theorem dX8_perform_417 : decode cX8_perform 417 = .ok (.aload_n 0, 1) := by decide +kernel
theorem dX8_perform_418 : decode cX8_perform 418 = .ok (.getfield 38, 3) := by decide +kernel
theorem dX8_perform_421 : decode cX8_perform 421 = .ok (.iload 6, 2) := by decide +kernel
theorem dX8_perform_423 : decode cX8_perform 423 = .ok (.invokevirtual 42, 3) := by decide +kernel
theorem dX8_perform_426 : decode cX8_perform 426 = .ok (.iload_n 3, 1) := by decide +kernel
theorem dX8_perform_427 : decode cX8_perform 427 = .ok (.invokestatic 100, 3) := by decide +kernel
theorem dX8_perform_430 : decode cX8_perform 430 = .ok (.ireturn, 1) := by decide +kernel
theorem dX8_putOut_0 : decode cX8_putOut 0 = .ok (.aload_n 0, 1) := by decide +kernel
theorem dX8_putOut_1 : decode cX8_putOut 1 = .ok (.aload_n 0, 1) := by decide +kernel
theorem dX8_putOut_2 : decode cX8_putOut 2 = .ok (.getfield 38, 3) := by decide +kernel
theorem dX8_putOut_5 : decode cX8_putOut 5 = .ok (.iload_n 1, 1) := by decide +kernel
theorem dX8_putOut_6 : decode cX8_putOut 6 = .ok (.invokevirtual 103, 3) := by decide +kernel
theorem dX8_putOut_9 : decode cX8_putOut 9 = .ok (.aload_n 0, 1) := by decide +kernel
theorem dX8_putOut_10 : decode cX8_putOut 10 = .ok (.getfield 38, 3) := by decide +kernel
theorem dX8_putOut_13 : decode cX8_putOut 13 = .ok (.iload_n 1, 1) := by decide +kernel
theorem dX8_putOut_14 : decode cX8_putOut 14 = .ok (.invokevirtual 106, 3) := by decide +kernel
theorem dX8_putOut_17 : decode cX8_putOut 17 = .ok (.invokevirtual 109, 3) := by decide +kernel
theorem dX8_putOut_20 : decode cX8_putOut 20 = .ok (.return_, 1) := by decide +kernel
theorem dX8_copy_0 : decode cX8_copy 0 = .ok (.aload_n 0, 1) := by decide +kernel
theorem dX8_copy_1 : decode cX8_copy 1 = .ok (.iload_n 1, 1) := by decide +kernel
theorem dX8_copy_2 : decode cX8_copy 2 = .ok (.aload_n 0, 1) := by decide +kernel
theorem dX8_copy_3 : decode cX8_copy 3 = .ok (.getfield 38, 3) := by decide +kernel
theorem dX8_copy_6 : decode cX8_copy 6 = .ok (.iload_n 2, 1) := by decide +kernel
theorem dX8_copy_7 : decode cX8_copy 7 = .ok (.invokevirtual 103, 3) := by decide +kernel
theorem dX8_copy_10 : decode cX8_copy 10 = .ok (.aload_n 0, 1) := by decide +kernel
theorem dX8_copy_11 : decode cX8_copy 11 = .ok (.getfield 38, 3) := by decide +kernel
theorem dX8_copy_14 : decode cX8_copy 14 = .ok (.iload_n 2, 1) := by decide +kernel
theorem dX8_copy_15 : decode cX8_copy 15 = .ok (.invokevirtual 106, 3) := by decide +kernel
theorem dX8_copy_18 : decode cX8_copy 18 = .ok (.iload_n 2, 1) := by decide +kernel
theorem dX8_copy_19 : decode cX8_copy 19 = .ok (.iconst (-1), 1) := by decide +kernel
theorem dX8_copy_20 : decode cX8_copy 20 = .ok (.invokevirtual 34, 3) := by decide +kernel
theorem dX8_copy_23 : decode cX8_copy 23 = .ok (.return_, 1) := by decide +kernel
theorem dX8_compare_0 : decode cX8_compare 0 = .ok (.aload_n 0, 1) := by decide +kernel
theorem dX8_compare_1 : decode cX8_compare 1 = .ok (.getfield 38, 3) := by decide +kernel
theorem dX8_compare_4 : decode cX8_compare 4 = .ok (.iload_n 2, 1) := by decide +kernel
theorem dX8_compare_5 : decode cX8_compare 5 = .ok (.aload_n 0, 1) := by decide +kernel
theorem dX8_compare_6 : decode cX8_compare 6 = .ok (.getfield 38, 3) := by decide +kernel
theorem dX8_compare_9 : decode cX8_compare 9 = .ok (.iload_n 3, 1) := by decide +kernel
theorem dX8_compare_10 : decode cX8_compare 10 = .ok (.invokevirtual 103, 3) := by decide +kernel
theorem dX8_compare_13 : decode cX8_compare 13 = .ok (.aload_n 0, 1) := by decide +kernel
theorem dX8_compare_14 : decode cX8_compare 14 = .ok (.getfield 38, 3) := by decide +kernel
theorem dX8_compare_17 : decode cX8_compare 17 = .ok (.iload_n 3, 1) := by decide +kernel
theorem dX8_compare_18 : decode cX8_compare 18 = .ok (.invokevirtual 106, 3) := by decide +kernel
theorem dX8_compare_21 : decode cX8_compare 21 = .ok (.invokevirtual 113, 3) := by decide +kernel
theorem dX8_compare_24 : decode cX8_compare 24 = .ok (.istore 4, 2) := by decide +kernel
theorem dX8_compare_26 : decode cX8_compare 26 = .ok (.aload_n 0, 1) := by decide +kernel
theorem dX8_compare_27 : decode cX8_compare 27 = .ok (.iload_n 1, 1) := by decide +kernel
theorem dX8_compare_28 : decode cX8_compare 28 = .ok (.iconst 1, 1) := by decide +kernel
theorem dX8_compare_29 : decode cX8_compare 29 = .ok (.iload 4, 2) := by decide +kernel
theorem dX8_compare_31 : decode cX8_compare 31 = .ok (.ifCond .eq 7, 3) := by decide +kernel
theorem dX8_compare_34 : decode cX8_compare 34 = .ok (.iconst 1, 1) := by decide +kernel
theorem dX8_compare_35 : decode cX8_compare 35 = .ok (.goto 4, 3) := by decide +kernel
theorem dX8_compare_38 : decode cX8_compare 38 = .ok (.iconst 0, 1) := by decide +kernel
theorem dX8_compare_39 : decode cX8_compare 39 = .ok (.iload_n 2, 1) := by decide +kernel
theorem dX8_compare_40 : decode cX8_compare 40 = .ok (.iload_n 3, 1) := by decide +kernel
theorem dX8_compare_41 : decode cX8_compare 41 = .ok (.invokevirtual 34, 3) := by decide +kernel
theorem dX8_compare_44 : decode cX8_compare 44 = .ok (.return_, 1) := by decide +kernel
theorem dX8_combine_0 : decode cX8_combine 0 = .ok (.aload_n 0, 1) := by decide +kernel
theorem dX8_combine_1 : decode cX8_combine 1 = .ok (.getfield 38, 3) := by decide +kernel
theorem dX8_combine_4 : decode cX8_combine 4 = .ok (.iload_n 2, 1) := by decide +kernel
theorem dX8_combine_5 : decode cX8_combine 5 = .ok (.invokevirtual 103, 3) := by decide +kernel
theorem dX8_combine_8 : decode cX8_combine 8 = .ok (.iconst 1, 1) := by decide +kernel
theorem dX8_combine_9 : decode cX8_combine 9 = .ok (.if_icmp .ne 22, 3) := by decide +kernel
theorem dX8_combine_12 : decode cX8_combine 12 = .ok (.iload 4, 2) := by decide +kernel
theorem dX8_combine_14 : decode cX8_combine 14 = .ok (.bipush 12, 2) := by decide +kernel
theorem dX8_combine_16 : decode cX8_combine 16 = .ok (.if_icmp .ne 17, 3) := by decide +kernel
theorem dX8_combine_19 : decode cX8_combine 19 = .ok (.aload_n 0, 1) := by decide +kernel
theorem dX8_combine_20 : decode cX8_combine 20 = .ok (.getfield 38, 3) := by decide +kernel
theorem dX8_combine_23 : decode cX8_combine 23 = .ok (.iload_n 3, 1) := by decide +kernel
theorem dX8_combine_24 : decode cX8_combine 24 = .ok (.invokevirtual 103, 3) := by decide +kernel
theorem dX8_combine_27 : decode cX8_combine 27 = .ok (.iconst 1, 1) := by decide +kernel
theorem dX8_combine_28 : decode cX8_combine 28 = .ok (.if_icmp .eq 5, 3) := by decide +kernel
theorem dX8_combine_31 : decode cX8_combine 31 = .ok (.iconst 1, 1) := by decide +kernel
theorem dX8_combine_32 : decode cX8_combine 32 = .ok (.ireturn, 1) := by decide +kernel
theorem dX8_combine_33 : decode cX8_combine 33 = .ok (.aload_n 0, 1) := by decide +kernel
theorem dX8_combine_34 : decode cX8_combine 34 = .ok (.getfield 38, 3) := by decide +kernel
theorem dX8_combine_37 : decode cX8_combine 37 = .ok (.iload_n 2, 1) := by decide +kernel
theorem dX8_combine_38 : decode cX8_combine 38 = .ok (.invokevirtual 106, 3) := by decide +kernel
theorem dX8_combine_41 : decode cX8_combine 41 = .ok (.istore 5, 2) := by decide +kernel
theorem dX8_combine_43 : decode cX8_combine 43 = .ok (.iload 4, 2) := by decide +kernel
theorem dX8_combine_45 : decode cX8_combine 45 = .ok (.bipush 11, 2) := by decide +kernel
theorem dX8_combine_47 : decode cX8_combine 47 = .ok (.if_icmp .ne 10, 3) := by decide +kernel
theorem dX8_combine_50 : decode cX8_combine 50 = .ok (.iconst 1, 1) := by decide +kernel
theorem dX8_combine_51 : decode cX8_combine 51 = .ok (.iload 5, 2) := by decide +kernel
theorem dX8_combine_53 : decode cX8_combine 53 = .ok (.isub, 1) := by decide +kernel
theorem dX8_combine_54 : decode cX8_combine 54 = .ok (.goto 14, 3) := by decide +kernel
theorem dX8_combine_57 : decode cX8_combine 57 = .ok (.iload 5, 2) := by decide +kernel
theorem dX8_combine_59 : decode cX8_combine 59 = .ok (.aload_n 0, 1) := by decide +kernel
theorem dX8_combine_60 : decode cX8_combine 60 = .ok (.getfield 38, 3) := by decide +kernel
theorem dX8_combine_63 : decode cX8_combine 63 = .ok (.iload_n 3, 1) := by decide +kernel
theorem dX8_combine_64 : decode cX8_combine 64 = .ok (.invokevirtual 106, 3) := by decide +kernel
theorem dX8_combine_67 : decode cX8_combine 67 = .ok (.iand, 1) := by decide +kernel
theorem dX8_combine_68 : decode cX8_combine 68 = .ok (.istore 6, 2) := by decide +kernel
theorem dX8_combine_70 : decode cX8_combine 70 = .ok (.aload_n 0, 1) := by decide +kernel
theorem dX8_combine_71 : decode cX8_combine 71 = .ok (.iload_n 1, 1) := by decide +kernel
theorem dX8_combine_72 : decode cX8_combine 72 = .ok (.iconst 1, 1) := by decide +kernel
theorem dX8_combine_73 : decode cX8_combine 73 = .ok (.iload 6, 2) := by decide +kernel
theorem dX8_combine_75 : decode cX8_combine 75 = .ok (.iload_n 2, 1) := by decide +kernel
theorem dX8_combine_76 : decode cX8_combine 76 = .ok (.iload_n 3, 1) := by decide +kernel
theorem dX8_combine_77 : decode cX8_combine 77 = .ok (.invokevirtual 34, 3) := by decide +kernel
theorem dX8_combine_80 : decode cX8_combine 80 = .ok (.iconst 0, 1) := by decide +kernel
theorem dX8_combine_81 : decode cX8_combine 81 = .ok (.ireturn, 1) := by decide +kernel
theorem dX8_fromCell_0 : decode cX8_fromCell 0 = .ok (.aload_n 0, 1) := by decide +kernel
theorem dX8_fromCell_1 : decode cX8_fromCell 1 = .ok (.getfield 38, 3) := by decide +kernel
theorem dX8_fromCell_4 : decode cX8_fromCell 4 = .ok (.iload_n 2, 1) := by decide +kernel
theorem dX8_fromCell_5 : decode cX8_fromCell 5 = .ok (.invokevirtual 103, 3) := by decide +kernel
theorem dX8_fromCell_8 : decode cX8_fromCell 8 = .ok (.iconst 2, 1) := by decide +kernel
theorem dX8_fromCell_9 : decode cX8_fromCell 9 = .ok (.if_icmp .eq 5, 3) := by decide +kernel
theorem dX8_fromCell_12 : decode cX8_fromCell 12 = .ok (.iconst 1, 1) := by decide +kernel
theorem dX8_fromCell_13 : decode cX8_fromCell 13 = .ok (.ireturn, 1) := by decide +kernel
theorem dX8_fromCell_14 : decode cX8_fromCell 14 = .ok (.aload_n 0, 1) := by decide +kernel
theorem dX8_fromCell_15 : decode cX8_fromCell 15 = .ok (.getfield 38, 3) := by decide +kernel
theorem dX8_fromCell_18 : decode cX8_fromCell 18 = .ok (.iload_n 2, 1) := by decide +kernel
theorem dX8_fromCell_19 : decode cX8_fromCell 19 = .ok (.invokevirtual 106, 3) := by decide +kernel
theorem dX8_fromCell_22 : decode cX8_fromCell 22 = .ok (.istore_n 3, 1) := by decide +kernel
theorem dX8_fromCell_23 : decode cX8_fromCell 23 = .ok (.iload_n 3, 1) := by decide +kernel
theorem dX8_fromCell_24 : decode cX8_fromCell 24 = .ok (.ifCond .lt 9, 3) := by decide +kernel
theorem dX8_fromCell_27 : decode cX8_fromCell 27 = .ok (.iload_n 3, 1) := by decide +kernel
theorem dX8_fromCell_28 : decode cX8_fromCell 28 = .ok (.bipush 32, 2) := by decide +kernel
theorem dX8_fromCell_30 : decode cX8_fromCell 30 = .ok (.if_icmp .lt 5, 3) := by decide +kernel
theorem dX8_fromCell_33 : decode cX8_fromCell 33 = .ok (.iconst 3, 1) := by decide +kernel
theorem dX8_fromCell_34 : decode cX8_fromCell 34 = .ok (.ireturn, 1) := by decide +kernel
theorem dX8_fromCell_35 : decode cX8_fromCell 35 = .ok (.aload_n 0, 1) := by decide +kernel
theorem dX8_fromCell_36 : decode cX8_fromCell 36 = .ok (.getfield 38, 3) := by decide +kernel
theorem dX8_fromCell_39 : decode cX8_fromCell 39 = .ok (.bipush 8, 2) := by decide +kernel
theorem dX8_fromCell_41 : decode cX8_fromCell 41 = .ok (.iload_n 3, 1) := by decide +kernel
theorem dX8_fromCell_42 : decode cX8_fromCell 42 = .ok (.iadd, 1) := by decide +kernel
theorem dX8_fromCell_43 : decode cX8_fromCell 43 = .ok (.invokevirtual 42, 3) := by decide +kernel
theorem dX8_fromCell_46 : decode cX8_fromCell 46 = .ok (.istore 4, 2) := by decide +kernel
theorem dX8_fromCell_48 : decode cX8_fromCell 48 = .ok (.aload_n 0, 1) := by decide +kernel
theorem dX8_fromCell_49 : decode cX8_fromCell 49 = .ok (.iload_n 1, 1) := by decide +kernel
theorem dX8_fromCell_50 : decode cX8_fromCell 50 = .ok (.aload_n 0, 1) := by decide +kernel
theorem dX8_fromCell_51 : decode cX8_fromCell 51 = .ok (.getfield 38, 3) := by decide +kernel
theorem dX8_fromCell_54 : decode cX8_fromCell 54 = .ok (.iload 4, 2) := by decide +kernel
theorem dX8_fromCell_56 : decode cX8_fromCell 56 = .ok (.invokevirtual 103, 3) := by decide +kernel
theorem dX8_fromCell_59 : decode cX8_fromCell 59 = .ok (.aload_n 0, 1) := by decide +kernel
theorem dX8_fromCell_60 : decode cX8_fromCell 60 = .ok (.getfield 38, 3) := by decide +kernel
theorem dX8_fromCell_63 : decode cX8_fromCell 63 = .ok (.iload 4, 2) := by decide +kernel
theorem dX8_fromCell_65 : decode cX8_fromCell 65 = .ok (.invokevirtual 106, 3) := by decide +kernel
theorem dX8_fromCell_68 : decode cX8_fromCell 68 = .ok (.iload_n 2, 1) := by decide +kernel
theorem dX8_fromCell_69 : decode cX8_fromCell 69 = .ok (.iload 4, 2) := by decide +kernel
theorem dX8_fromCell_71 : decode cX8_fromCell 71 = .ok (.invokevirtual 34, 3) := by decide +kernel
theorem dX8_fromCell_74 : decode cX8_fromCell 74 = .ok (.iconst 0, 1) := by decide +kernel
theorem dX8_fromCell_75 : decode cX8_fromCell 75 = .ok (.ireturn, 1) := by decide +kernel
theorem dX8_toCell_0 : decode cX8_toCell 0 = .ok (.aload_n 0, 1) := by decide +kernel
theorem dX8_toCell_1 : decode cX8_toCell 1 = .ok (.getfield 38, 3) := by decide +kernel
theorem dX8_toCell_4 : decode cX8_toCell 4 = .ok (.iload_n 1, 1) := by decide +kernel
theorem dX8_toCell_5 : decode cX8_toCell 5 = .ok (.invokevirtual 103, 3) := by decide +kernel
theorem dX8_toCell_8 : decode cX8_toCell 8 = .ok (.iconst 2, 1) := by decide +kernel
theorem dX8_toCell_9 : decode cX8_toCell 9 = .ok (.if_icmp .eq 5, 3) := by decide +kernel
theorem dX8_toCell_12 : decode cX8_toCell 12 = .ok (.iconst 1, 1) := by decide +kernel
theorem dX8_toCell_13 : decode cX8_toCell 13 = .ok (.ireturn, 1) := by decide +kernel
theorem dX8_toCell_14 : decode cX8_toCell 14 = .ok (.aload_n 0, 1) := by decide +kernel
theorem dX8_toCell_15 : decode cX8_toCell 15 = .ok (.getfield 38, 3) := by decide +kernel
theorem dX8_toCell_18 : decode cX8_toCell 18 = .ok (.iload_n 1, 1) := by decide +kernel
theorem dX8_toCell_19 : decode cX8_toCell 19 = .ok (.invokevirtual 106, 3) := by decide +kernel
theorem dX8_toCell_22 : decode cX8_toCell 22 = .ok (.istore_n 3, 1) := by decide +kernel
theorem dX8_toCell_23 : decode cX8_toCell 23 = .ok (.iload_n 3, 1) := by decide +kernel
theorem dX8_toCell_24 : decode cX8_toCell 24 = .ok (.ifCond .lt 9, 3) := by decide +kernel
theorem dX8_toCell_27 : decode cX8_toCell 27 = .ok (.iload_n 3, 1) := by decide +kernel
theorem dX8_toCell_28 : decode cX8_toCell 28 = .ok (.bipush 32, 2) := by decide +kernel
theorem dX8_toCell_30 : decode cX8_toCell 30 = .ok (.if_icmp .lt 5, 3) := by decide +kernel
theorem dX8_toCell_33 : decode cX8_toCell 33 = .ok (.iconst 3, 1) := by decide +kernel
theorem dX8_toCell_34 : decode cX8_toCell 34 = .ok (.ireturn, 1) := by decide +kernel
theorem dX8_toCell_35 : decode cX8_toCell 35 = .ok (.aload_n 0, 1) := by decide +kernel
theorem dX8_toCell_36 : decode cX8_toCell 36 = .ok (.bipush 8, 2) := by decide +kernel
theorem dX8_toCell_38 : decode cX8_toCell 38 = .ok (.iload_n 3, 1) := by decide +kernel
theorem dX8_toCell_39 : decode cX8_toCell 39 = .ok (.iadd, 1) := by decide +kernel
theorem dX8_toCell_40 : decode cX8_toCell 40 = .ok (.aload_n 0, 1) := by decide +kernel
theorem dX8_toCell_41 : decode cX8_toCell 41 = .ok (.getfield 38, 3) := by decide +kernel
theorem dX8_toCell_44 : decode cX8_toCell 44 = .ok (.iload_n 2, 1) := by decide +kernel
theorem dX8_toCell_45 : decode cX8_toCell 45 = .ok (.invokevirtual 103, 3) := by decide +kernel
theorem dX8_toCell_48 : decode cX8_toCell 48 = .ok (.aload_n 0, 1) := by decide +kernel
theorem dX8_toCell_49 : decode cX8_toCell 49 = .ok (.getfield 38, 3) := by decide +kernel
theorem dX8_toCell_52 : decode cX8_toCell 52 = .ok (.iload_n 2, 1) := by decide +kernel
theorem dX8_toCell_53 : decode cX8_toCell 53 = .ok (.invokevirtual 106, 3) := by decide +kernel
theorem dX8_toCell_56 : decode cX8_toCell 56 = .ok (.iload_n 1, 1) := by decide +kernel
theorem dX8_toCell_57 : decode cX8_toCell 57 = .ok (.iload_n 2, 1) := by decide +kernel
theorem dX8_toCell_58 : decode cX8_toCell 58 = .ok (.invokevirtual 34, 3) := by decide +kernel
theorem dX8_toCell_61 : decode cX8_toCell 61 = .ok (.iconst 0, 1) := by decide +kernel
theorem dX8_toCell_62 : decode cX8_toCell 62 = .ok (.ireturn, 1) := by decide +kernel
theorem dX8_goOnIf_0 : decode cX8_goOnIf 0 = .ok (.aload_n 0, 1) := by decide +kernel
theorem dX8_goOnIf_1 : decode cX8_goOnIf 1 = .ok (.getfield 38, 3) := by decide +kernel
theorem dX8_goOnIf_4 : decode cX8_goOnIf 4 = .ok (.iload_n 1, 1) := by decide +kernel
theorem dX8_goOnIf_5 : decode cX8_goOnIf 5 = .ok (.invokevirtual 103, 3) := by decide +kernel
theorem dX8_goOnIf_8 : decode cX8_goOnIf 8 = .ok (.iconst 1, 1) := by decide +kernel
theorem dX8_goOnIf_9 : decode cX8_goOnIf 9 = .ok (.if_icmp .eq 5, 3) := by decide +kernel
theorem dX8_goOnIf_12 : decode cX8_goOnIf 12 = .ok (.iconst 1, 1) := by decide +kernel
theorem dX8_goOnIf_13 : decode cX8_goOnIf 13 = .ok (.ireturn, 1) := by decide +kernel
theorem dX8_goOnIf_14 : decode cX8_goOnIf 14 = .ok (.aload_n 0, 1) := by decide +kernel
theorem dX8_goOnIf_15 : decode cX8_goOnIf 15 = .ok (.getfield 38, 3) := by decide +kernel
theorem dX8_goOnIf_18 : decode cX8_goOnIf 18 = .ok (.iload_n 1, 1) := by decide +kernel
theorem dX8_goOnIf_19 : decode cX8_goOnIf 19 = .ok (.invokevirtual 106, 3) := by decide +kernel
theorem dX8_goOnIf_22 : decode cX8_goOnIf 22 = .ok (.iconst 1, 1) := by decide +kernel
theorem dX8_goOnIf_23 : decode cX8_goOnIf 23 = .ok (.if_icmp .ne 8, 3) := by decide +kernel
theorem dX8_goOnIf_26 : decode cX8_goOnIf 26 = .ok (.aload_n 0, 1) := by decide +kernel
theorem dX8_goOnIf_27 : decode cX8_goOnIf 27 = .ok (.iload_n 2, 1) := by decide +kernel
theorem dX8_goOnIf_28 : decode cX8_goOnIf 28 = .ok (.invokevirtual 85, 3) := by decide +kernel
theorem dX8_goOnIf_31 : decode cX8_goOnIf 31 = .ok (.iconst 0, 1) := by decide +kernel
theorem dX8_goOnIf_32 : decode cX8_goOnIf 32 = .ok (.ireturn, 1) := by decide +kernel
theorem dX8_goDown_0 : decode cX8_goDown 0 = .ok (.aload_n 0, 1) := by decide +kernel
theorem dX8_goDown_1 : decode cX8_goDown 1 = .ok (.aload_n 0, 1) := by decide +kernel
theorem dX8_goDown_2 : decode cX8_goDown 2 = .ok (.getfield 117, 3) := by decide +kernel
theorem dX8_goDown_5 : decode cX8_goDown 5 = .ok (.invokevirtual 120, 3) := by decide +kernel
theorem dX8_goDown_8 : decode cX8_goDown 8 = .ok (.istore_n 2, 1) := by decide +kernel
theorem dX8_goDown_9 : decode cX8_goDown 9 = .ok (.iload_n 2, 1) := by decide +kernel
theorem dX8_goDown_10 : decode cX8_goDown 10 = .ok (.bipush 8, 2) := by decide +kernel
theorem dX8_goDown_12 : decode cX8_goDown 12 = .ok (.if_icmp .lt 5, 3) := by decide +kernel
theorem dX8_goDown_15 : decode cX8_goDown 15 = .ok (.iconst 4, 1) := by decide +kernel
theorem dX8_goDown_16 : decode cX8_goDown 16 = .ok (.ireturn, 1) := by decide +kernel
theorem dX8_goDown_17 : decode cX8_goDown 17 = .ok (.aload_n 0, 1) := by decide +kernel
theorem dX8_goDown_18 : decode cX8_goDown 18 = .ok (.getfield 123, 3) := by decide +kernel
theorem dX8_goDown_21 : decode cX8_goDown 21 = .ok (.aload_n 0, 1) := by decide +kernel
theorem dX8_goDown_22 : decode cX8_goDown 22 = .ok (.getfield 117, 3) := by decide +kernel
theorem dX8_goDown_25 : decode cX8_goDown 25 = .ok (.iload_n 1, 1) := by decide +kernel
theorem dX8_goDown_26 : decode cX8_goDown 26 = .ok (.iload_n 2, 1) := by decide +kernel
theorem dX8_goDown_27 : decode cX8_goDown 27 = .ok (.invokevirtual 127, 3) := by decide +kernel
theorem dX8_goDown_30 : decode cX8_goDown 30 = .ok (.aload_n 0, 1) := by decide +kernel
theorem dX8_goDown_31 : decode cX8_goDown 31 = .ok (.invokevirtual 132, 3) := by decide +kernel
theorem dX8_goDown_34 : decode cX8_goDown 34 = .ok (.aload_n 0, 1) := by decide +kernel
theorem dX8_goDown_35 : decode cX8_goDown 35 = .ok (.iload_n 1, 1) := by decide +kernel
theorem dX8_goDown_36 : decode cX8_goDown 36 = .ok (.invokevirtual 85, 3) := by decide +kernel
theorem dX8_goDown_39 : decode cX8_goDown 39 = .ok (.iconst 0, 1) := by decide +kernel
theorem dX8_goDown_40 : decode cX8_goDown 40 = .ok (.ireturn, 1) := by decide +kernel
theorem dX8_goUp_0 : decode cX8_goUp 0 = .ok (.aload_n 0, 1) := by decide +kernel
theorem dX8_goUp_1 : decode cX8_goUp 1 = .ok (.aload_n 0, 1) := by decide +kernel
theorem dX8_goUp_2 : decode cX8_goUp 2 = .ok (.getfield 117, 3) := by decide +kernel
theorem dX8_goUp_5 : decode cX8_goUp 5 = .ok (.invokevirtual 120, 3) := by decide +kernel
theorem dX8_goUp_8 : decode cX8_goUp 8 = .ok (.istore_n 1, 1) := by decide +kernel
theorem dX8_goUp_9 : decode cX8_goUp 9 = .ok (.iload_n 1, 1) := by decide +kernel
theorem dX8_goUp_10 : decode cX8_goUp 10 = .ok (.ifCond .ne 9, 3) := by decide +kernel
theorem dX8_goUp_13 : decode cX8_goUp 13 = .ok (.aload_n 0, 1) := by decide +kernel
theorem dX8_goUp_14 : decode cX8_goUp 14 = .ok (.iconst 2, 1) := by decide +kernel
theorem dX8_goUp_15 : decode cX8_goUp 15 = .ok (.putfield 30, 3) := by decide +kernel
theorem dX8_goUp_18 : decode cX8_goUp 18 = .ok (.return_, 1) := by decide +kernel
theorem dX8_goUp_19 : decode cX8_goUp 19 = .ok (.aload_n 0, 1) := by decide +kernel
theorem dX8_goUp_20 : decode cX8_goUp 20 = .ok (.aload_n 0, 1) := by decide +kernel
theorem dX8_goUp_21 : decode cX8_goUp 21 = .ok (.aload_n 0, 1) := by decide +kernel
theorem dX8_goUp_22 : decode cX8_goUp 22 = .ok (.getfield 117, 3) := by decide +kernel
theorem dX8_goUp_25 : decode cX8_goUp 25 = .ok (.iload_n 1, 1) := by decide +kernel
theorem dX8_goUp_26 : decode cX8_goUp 26 = .ok (.iconst 1, 1) := by decide +kernel
theorem dX8_goUp_27 : decode cX8_goUp 27 = .ok (.isub, 1) := by decide +kernel
theorem dX8_goUp_28 : decode cX8_goUp 28 = .ok (.invokevirtual 135, 3) := by decide +kernel
theorem dX8_goUp_31 : decode cX8_goUp 31 = .ok (.invokevirtual 85, 3) := by decide +kernel
theorem dX8_goUp_34 : decode cX8_goUp 34 = .ok (.aload_n 0, 1) := by decide +kernel
theorem dX8_goUp_35 : decode cX8_goUp 35 = .ok (.invokevirtual 139, 3) := by decide +kernel
theorem dX8_goUp_38 : decode cX8_goUp 38 = .ok (.return_, 1) := by decide +kernel
theorem dX8_reckon_0 : decode cX8_reckon 0 = .ok (.aload_n 0, 1) := by decide +kernel
theorem dX8_reckon_1 : decode cX8_reckon 1 = .ok (.getfield 38, 3) := by decide +kernel
theorem dX8_reckon_4 : decode cX8_reckon 4 = .ok (.iload_n 2, 1) := by decide +kernel
theorem dX8_reckon_5 : decode cX8_reckon 5 = .ok (.invokevirtual 103, 3) := by decide +kernel
theorem dX8_reckon_8 : decode cX8_reckon 8 = .ok (.iconst 2, 1) := by decide +kernel
theorem dX8_reckon_9 : decode cX8_reckon 9 = .ok (.if_icmp .ne 15, 3) := by decide +kernel
theorem dX8_reckon_12 : decode cX8_reckon 12 = .ok (.aload_n 0, 1) := by decide +kernel
theorem dX8_reckon_13 : decode cX8_reckon 13 = .ok (.getfield 38, 3) := by decide +kernel
theorem dX8_reckon_16 : decode cX8_reckon 16 = .ok (.iload_n 3, 1) := by decide +kernel
theorem dX8_reckon_17 : decode cX8_reckon 17 = .ok (.invokevirtual 103, 3) := by decide +kernel
theorem dX8_reckon_20 : decode cX8_reckon 20 = .ok (.iconst 2, 1) := by decide +kernel
theorem dX8_reckon_21 : decode cX8_reckon 21 = .ok (.if_icmp .eq 5, 3) := by decide +kernel
theorem dX8_reckon_24 : decode cX8_reckon 24 = .ok (.iconst 1, 1) := by decide +kernel
theorem dX8_reckon_25 : decode cX8_reckon 25 = .ok (.ireturn, 1) := by decide +kernel
theorem dX8_reckon_26 : decode cX8_reckon 26 = .ok (.aload_n 0, 1) := by decide +kernel
theorem dX8_reckon_27 : decode cX8_reckon 27 = .ok (.getfield 38, 3) := by decide +kernel
theorem dX8_reckon_30 : decode cX8_reckon 30 = .ok (.iload_n 2, 1) := by decide +kernel
theorem dX8_reckon_31 : decode cX8_reckon 31 = .ok (.invokevirtual 106, 3) := by decide +kernel
theorem dX8_reckon_34 : decode cX8_reckon 34 = .ok (.istore 5, 2) := by decide +kernel
theorem dX8_reckon_36 : decode cX8_reckon 36 = .ok (.aload_n 0, 1) := by decide +kernel
theorem dX8_reckon_37 : decode cX8_reckon 37 = .ok (.getfield 38, 3) := by decide +kernel
theorem dX8_reckon_40 : decode cX8_reckon 40 = .ok (.iload_n 3, 1) := by decide +kernel
theorem dX8_reckon_41 : decode cX8_reckon 41 = .ok (.invokevirtual 106, 3) := by decide +kernel
theorem dX8_reckon_44 : decode cX8_reckon 44 = .ok (.istore 6, 2) := by decide +kernel
theorem dX8_reckon_46 : decode cX8_reckon 46 = .ok (.iload 4, 2) := by decide +kernel
theorem dX8_reckon_48 : decode cX8_reckon 48 = .ok (.bipush 7, 2) := by decide +kernel
theorem dX8_reckon_50 : decode cX8_reckon 50 = .ok (.if_icmp .eq 10, 3) := by decide +kernel
theorem dX8_reckon_53 : decode cX8_reckon 53 = .ok (.iload 4, 2) := by decide +kernel
theorem dX8_reckon_55 : decode cX8_reckon 55 = .ok (.bipush 8, 2) := by decide +kernel
theorem dX8_reckon_57 : decode cX8_reckon 57 = .ok (.if_icmp .ne 10, 3) := by decide +kernel
theorem dX8_reckon_60 : decode cX8_reckon 60 = .ok (.iload 6, 2) := by decide +kernel
theorem dX8_reckon_62 : decode cX8_reckon 62 = .ok (.ifCond .ne 5, 3) := by decide +kernel
theorem dX8_reckon_65 : decode cX8_reckon 65 = .ok (.iconst 2, 1) := by decide +kernel
theorem dX8_reckon_66 : decode cX8_reckon 66 = .ok (.ireturn, 1) := by decide +kernel
theorem dX8_reckon_67 : decode cX8_reckon 67 = .ok (.iload 4, 2) := by decide +kernel
theorem dX8_reckon_69 : decode cX8_reckon 69 = .ok (.bipush 9, 2) := by decide +kernel
theorem dX8_reckon_71 : decode cX8_reckon 71 = .ok (.if_icmp .ne 26, 3) := by decide +kernel
theorem dX8_reckon_74 : decode cX8_reckon 74 = .ok (.aload_n 0, 1) := by decide +kernel
theorem dX8_reckon_75 : decode cX8_reckon 75 = .ok (.iload_n 1, 1) := by decide +kernel
theorem dX8_reckon_76 : decode cX8_reckon 76 = .ok (.iconst 1, 1) := by decide +kernel
theorem dX8_reckon_77 : decode cX8_reckon 77 = .ok (.iload 5, 2) := by decide +kernel
theorem dX8_reckon_79 : decode cX8_reckon 79 = .ok (.iload 6, 2) := by decide +kernel
theorem dX8_reckon_81 : decode cX8_reckon 81 = .ok (.if_icmp .ge 7, 3) := by decide +kernel
theorem dX8_reckon_84 : decode cX8_reckon 84 = .ok (.iconst 1, 1) := by decide +kernel
theorem dX8_reckon_85 : decode cX8_reckon 85 = .ok (.goto 4, 3) := by decide +kernel
theorem dX8_reckon_88 : decode cX8_reckon 88 = .ok (.iconst 0, 1) := by decide +kernel
theorem dX8_reckon_89 : decode cX8_reckon 89 = .ok (.iload_n 2, 1) := by decide +kernel
theorem dX8_reckon_90 : decode cX8_reckon 90 = .ok (.iload_n 3, 1) := by decide +kernel
theorem dX8_reckon_91 : decode cX8_reckon 91 = .ok (.invokevirtual 34, 3) := by decide +kernel
theorem dX8_reckon_94 : decode cX8_reckon 94 = .ok (.goto 20, 3) := by decide +kernel
theorem dX8_reckon_97 : decode cX8_reckon 97 = .ok (.aload_n 0, 1) := by decide +kernel
theorem dX8_reckon_98 : decode cX8_reckon 98 = .ok (.iload_n 1, 1) := by decide +kernel
theorem dX8_reckon_99 : decode cX8_reckon 99 = .ok (.iconst 2, 1) := by decide +kernel
theorem dX8_reckon_100 : decode cX8_reckon 100 = .ok (.iload 4, 2) := by decide +kernel
theorem dX8_reckon_102 : decode cX8_reckon 102 = .ok (.iload 5, 2) := by decide +kernel
theorem dX8_reckon_104 : decode cX8_reckon 104 = .ok (.iload 6, 2) := by decide +kernel
theorem dX8_reckon_106 : decode cX8_reckon 106 = .ok (.invokestatic 142, 3) := by decide +kernel
theorem dX8_reckon_109 : decode cX8_reckon 109 = .ok (.iload_n 2, 1) := by decide +kernel
theorem dX8_reckon_110 : decode cX8_reckon 110 = .ok (.iload_n 3, 1) := by decide +kernel
theorem dX8_reckon_111 : decode cX8_reckon 111 = .ok (.invokevirtual 34, 3) := by decide +kernel
theorem dX8_reckon_114 : decode cX8_reckon 114 = .ok (.iconst 0, 1) := by decide +kernel
theorem dX8_reckon_115 : decode cX8_reckon 115 = .ok (.ireturn, 1) := by decide +kernel
theorem dX8_reckoned_0 : decode cX8_reckoned 0 = .ok (.iload_n 0, 1) := by decide +kernel
theorem dX8_reckoned_1 : decode cX8_reckoned 1 = .ok (.tableswitch 55 4 7 #[31, 35, 39, 43], 31) := by decide +kernel
theorem dX8_reckoned_32 : decode cX8_reckoned 32 = .ok (.iload_n 1, 1) := by decide +kernel
theorem dX8_reckoned_33 : decode cX8_reckoned 33 = .ok (.iload_n 2, 1) := by decide +kernel
theorem dX8_reckoned_34 : decode cX8_reckoned 34 = .ok (.iadd, 1) := by decide +kernel
theorem dX8_reckoned_35 : decode cX8_reckoned 35 = .ok (.ireturn, 1) := by decide +kernel
theorem dX8_reckoned_36 : decode cX8_reckoned 36 = .ok (.iload_n 1, 1) := by decide +kernel
theorem dX8_reckoned_37 : decode cX8_reckoned 37 = .ok (.iload_n 2, 1) := by decide +kernel
theorem dX8_reckoned_38 : decode cX8_reckoned 38 = .ok (.isub, 1) := by decide +kernel
theorem dX8_reckoned_39 : decode cX8_reckoned 39 = .ok (.ireturn, 1) := by decide +kernel
theorem dX8_reckoned_40 : decode cX8_reckoned 40 = .ok (.iload_n 1, 1) := by decide +kernel
theorem dX8_reckoned_41 : decode cX8_reckoned 41 = .ok (.iload_n 2, 1) := by decide +kernel
theorem dX8_reckoned_42 : decode cX8_reckoned 42 = .ok (.imul, 1) := by decide +kernel
theorem dX8_reckoned_43 : decode cX8_reckoned 43 = .ok (.ireturn, 1) := by decide +kernel
theorem dX8_reckoned_44 : decode cX8_reckoned 44 = .ok (.iload_n 2, 1) := by decide +kernel
theorem dX8_reckoned_45 : decode cX8_reckoned 45 = .ok (.ifCond .ne 7, 3) := by decide +kernel
theorem dX8_reckoned_48 : decode cX8_reckoned 48 = .ok (.iconst 0, 1) := by decide +kernel
theorem dX8_reckoned_49 : decode cX8_reckoned 49 = .ok (.goto 6, 3) := by decide +kernel
theorem dX8_reckoned_52 : decode cX8_reckoned 52 = .ok (.iload_n 1, 1) := by decide +kernel
theorem dX8_reckoned_53 : decode cX8_reckoned 53 = .ok (.iload_n 2, 1) := by decide +kernel
theorem dX8_reckoned_54 : decode cX8_reckoned 54 = .ok (.idiv, 1) := by decide +kernel
theorem dX8_reckoned_55 : decode cX8_reckoned 55 = .ok (.ireturn, 1) := by decide +kernel
theorem dX8_reckoned_56 : decode cX8_reckoned 56 = .ok (.iload_n 2, 1) := by decide +kernel
theorem dX8_reckoned_57 : decode cX8_reckoned 57 = .ok (.ifCond .ne 7, 3) := by decide +kernel
theorem dX8_reckoned_60 : decode cX8_reckoned 60 = .ok (.iconst 0, 1) := by decide +kernel
theorem dX8_reckoned_61 : decode cX8_reckoned 61 = .ok (.goto 6, 3) := by decide +kernel
theorem dX8_reckoned_64 : decode cX8_reckoned 64 = .ok (.iload_n 1, 1) := by decide +kernel
theorem dX8_reckoned_65 : decode cX8_reckoned 65 = .ok (.iload_n 2, 1) := by decide +kernel
theorem dX8_reckoned_66 : decode cX8_reckoned 66 = .ok (.irem, 1) := by decide +kernel
theorem dX8_reckoned_67 : decode cX8_reckoned 67 = .ok (.ireturn, 1) := by decide +kernel
theorem dX9_init_0 : decode cX9_init 0 = .ok (.aload_n 0, 1) := by decide +kernel
theorem dX9_init_1 : decode cX9_init 1 = .ok (.invokespecial 3, 3) := by decide +kernel
theorem dX9_init_4 : decode cX9_init 4 = .ok (.aload_n 0, 1) := by decide +kernel
theorem dX9_init_5 : decode cX9_init 5 = .ok (.new 9, 3) := by decide +kernel
theorem dX9_init_8 : decode cX9_init 8 = .ok (.dup, 1) := by decide +kernel
theorem dX9_init_9 : decode cX9_init 9 = .ok (.invokespecial 11, 3) := by decide +kernel
theorem dX9_init_12 : decode cX9_init 12 = .ok (.putfield 12, 3) := by decide +kernel
theorem dX9_init_15 : decode cX9_init 15 = .ok (.aload_n 0, 1) := by decide +kernel
theorem dX9_init_16 : decode cX9_init 16 = .ok (.new 16, 3) := by decide +kernel
theorem dX9_init_19 : decode cX9_init 19 = .ok (.dup, 1) := by decide +kernel
theorem dX9_init_20 : decode cX9_init 20 = .ok (.invokespecial 18, 3) := by decide +kernel
theorem dX9_init_23 : decode cX9_init 23 = .ok (.putfield 19, 3) := by decide +kernel
theorem dX9_init_26 : decode cX9_init 26 = .ok (.aload_n 0, 1) := by decide +kernel
theorem dX9_init_27 : decode cX9_init 27 = .ok (.new 23, 3) := by decide +kernel
theorem dX9_init_30 : decode cX9_init 30 = .ok (.dup, 1) := by decide +kernel
theorem dX9_init_31 : decode cX9_init 31 = .ok (.invokespecial 25, 3) := by decide +kernel
theorem dX9_init_34 : decode cX9_init 34 = .ok (.putfield 26, 3) := by decide +kernel
theorem dX9_init_37 : decode cX9_init 37 = .ok (.aload_n 0, 1) := by decide +kernel
theorem dX9_init_38 : decode cX9_init 38 = .ok (.sipush 3800, 3) := by decide +kernel
theorem dX9_init_41 : decode cX9_init 41 = .ok (.newarray .boolean, 2) := by decide +kernel
theorem dX9_init_43 : decode cX9_init 43 = .ok (.putfield 30, 3) := by decide +kernel
theorem dX9_init_46 : decode cX9_init 46 = .ok (.aload_n 0, 1) := by decide +kernel
theorem dX9_init_47 : decode cX9_init 47 = .ok (.iconst 4, 1) := by decide +kernel
theorem dX9_init_48 : decode cX9_init 48 = .ok (.anewarray 34, 3) := by decide +kernel
theorem dX9_init_51 : decode cX9_init 51 = .ok (.putfield 36, 3) := by decide +kernel
theorem dX9_init_54 : decode cX9_init 54 = .ok (.aload_n 0, 1) := by decide +kernel
theorem dX9_init_55 : decode cX9_init 55 = .ok (.iconst 0, 1) := by decide +kernel
theorem dX9_init_56 : decode cX9_init 56 = .ok (.putfield 40, 3) := by decide +kernel
theorem dX9_init_59 : decode cX9_init 59 = .ok (.aload_n 0, 1) := by decide +kernel
theorem dX9_init_60 : decode cX9_init 60 = .ok (.aconst_null, 1) := by decide +kernel
theorem dX9_init_61 : decode cX9_init 61 = .ok (.putfield 44, 3) := by decide +kernel
theorem dX9_init_64 : decode cX9_init 64 = .ok (.aload_n 0, 1) := by decide +kernel
theorem dX9_init_65 : decode cX9_init 65 = .ok (.iconst (-1), 1) := by decide +kernel
theorem dX9_init_66 : decode cX9_init 66 = .ok (.putfield 48, 3) := by decide +kernel
theorem dX9_init_69 : decode cX9_init 69 = .ok (.aload_n 0, 1) := by decide +kernel
theorem dX9_init_70 : decode cX9_init 70 = .ok (.bipush 8, 2) := by decide +kernel
theorem dX9_init_72 : decode cX9_init 72 = .ok (.putfield 51, 3) := by decide +kernel
theorem dX9_init_75 : decode cX9_init 75 = .ok (.aload_n 0, 1) := by decide +kernel
theorem dX9_init_76 : decode cX9_init 76 = .ok (.iconst 2, 1) := by decide +kernel
theorem dX9_init_77 : decode cX9_init 77 = .ok (.putfield 54, 3) := by decide +kernel
theorem dX9_init_80 : decode cX9_init 80 = .ok (.aload_n 0, 1) := by decide +kernel
theorem dX9_init_81 : decode cX9_init 81 = .ok (.iconst 0, 1) := by decide +kernel
theorem dX9_init_82 : decode cX9_init 82 = .ok (.putfield 57, 3) := by decide +kernel
theorem dX9_init_85 : decode cX9_init 85 = .ok (.aload_n 0, 1) := by decide +kernel
theorem dX9_init_86 : decode cX9_init 86 = .ok (.iconst 0, 1) := by decide +kernel
theorem dX9_init_87 : decode cX9_init 87 = .ok (.putfield 60, 3) := by decide +kernel
theorem dX9_init_90 : decode cX9_init 90 = .ok (.aload_n 0, 1) := by decide +kernel
theorem dX9_init_91 : decode cX9_init 91 = .ok (.iconst 0, 1) := by decide +kernel
theorem dX9_init_92 : decode cX9_init 92 = .ok (.putfield 63, 3) := by decide +kernel
theorem dX9_init_95 : decode cX9_init 95 = .ok (.return_, 1) := by decide +kernel
theorem dX9_code_0 : decode cX9_code 0 = .ok (.iload_n 1, 1) := by decide +kernel
theorem dX9_code_1 : decode cX9_code 1 = .ok (.invokestatic 66, 3) := by decide +kernel
theorem dX9_code_4 : decode cX9_code 4 = .ok (.ifCond .ne 5, 3) := by decide +kernel
theorem dX9_code_7 : decode cX9_code 7 = .ok (.iconst 0, 1) := by decide +kernel
theorem dX9_code_8 : decode cX9_code 8 = .ok (.ireturn, 1) := by decide +kernel
theorem dX9_code_9 : decode cX9_code 9 = .ok (.iload_n 2, 1) := by decide +kernel
theorem dX9_code_10 : decode cX9_code 10 = .ok (.iconst (-1), 1) := by decide +kernel
theorem dX9_code_11 : decode cX9_code 11 = .ok (.if_icmp .eq 17, 3) := by decide +kernel
theorem dX9_code_14 : decode cX9_code 14 = .ok (.iload_n 2, 1) := by decide +kernel
theorem dX9_code_15 : decode cX9_code 15 = .ok (.iload_n 3, 1) := by decide +kernel
theorem dX9_code_16 : decode cX9_code 16 = .ok (.iload 4, 2) := by decide +kernel
theorem dX9_code_18 : decode cX9_code 18 = .ok (.iload 5, 2) := by decide +kernel
theorem dX9_code_20 : decode cX9_code 20 = .ok (.invokestatic 70, 3) := by decide +kernel
theorem dX9_code_23 : decode cX9_code 23 = .ok (.ifCond .ne 5, 3) := by decide +kernel
theorem dX9_code_26 : decode cX9_code 26 = .ok (.iconst 0, 1) := by decide +kernel
theorem dX9_code_27 : decode cX9_code 27 = .ok (.ireturn, 1) := by decide +kernel
theorem dX9_code_28 : decode cX9_code 28 = .ok (.aload_n 0, 1) := by decide +kernel
theorem dX9_code_29 : decode cX9_code 29 = .ok (.getfield 12, 3) := by decide +kernel
theorem dX9_code_32 : decode cX9_code 32 = .ok (.iload_n 1, 1) := by decide +kernel
theorem dX9_code_33 : decode cX9_code 33 = .ok (.iload_n 2, 1) := by decide +kernel
theorem dX9_code_34 : decode cX9_code 34 = .ok (.iload_n 3, 1) := by decide +kernel
theorem dX9_code_35 : decode cX9_code 35 = .ok (.iload 4, 2) := by decide +kernel
theorem dX9_code_37 : decode cX9_code 37 = .ok (.iload 5, 2) := by decide +kernel
theorem dX9_code_39 : decode cX9_code 39 = .ok (.invokevirtual 74, 3) := by decide +kernel
theorem dX9_code_42 : decode cX9_code 42 = .ok (.iconst 1, 1) := by decide +kernel
theorem dX9_code_43 : decode cX9_code 43 = .ok (.ireturn, 1) := by decide +kernel
theorem dX9_spacing_0 : decode cX9_spacing 0 = .ok (.iload_n 1, 1) := by decide +kernel
theorem dX9_spacing_1 : decode cX9_spacing 1 = .ok (.invokestatic 78, 3) := by decide +kernel
theorem dX9_spacing_4 : decode cX9_spacing 4 = .ok (.ifCond .eq 10, 3) := by decide +kernel
theorem dX9_spacing_7 : decode cX9_spacing 7 = .ok (.iload_n 2, 1) := by decide +kernel
theorem dX9_spacing_8 : decode cX9_spacing 8 = .ok (.invokestatic 81, 3) := by decide +kernel
theorem dX9_spacing_11 : decode cX9_spacing 11 = .ok (.ifCond .ne 5, 3) := by decide +kernel
theorem dX9_spacing_14 : decode cX9_spacing 14 = .ok (.iconst 0, 1) := by decide +kernel
theorem dX9_spacing_15 : decode cX9_spacing 15 = .ok (.ireturn, 1) := by decide +kernel
theorem dX9_spacing_16 : decode cX9_spacing 16 = .ok (.aload_n 0, 1) := by decide +kernel
theorem dX9_spacing_17 : decode cX9_spacing 17 = .ok (.iload_n 1, 1) := by decide +kernel
theorem dX9_spacing_18 : decode cX9_spacing 18 = .ok (.putfield 51, 3) := by decide +kernel
theorem dX9_spacing_21 : decode cX9_spacing 21 = .ok (.aload_n 0, 1) := by decide +kernel
theorem dX9_spacing_22 : decode cX9_spacing 22 = .ok (.iload_n 2, 1) := by decide +kernel
theorem dX9_spacing_23 : decode cX9_spacing 23 = .ok (.putfield 54, 3) := by decide +kernel
theorem dX9_spacing_26 : decode cX9_spacing 26 = .ok (.iconst 1, 1) := by decide +kernel
theorem dX9_spacing_27 : decode cX9_spacing 27 = .ok (.ireturn, 1) := by decide +kernel
theorem dX9_begin_0 : decode cX9_begin 0 = .ok (.aload_n 0, 1) := by decide +kernel
theorem dX9_begin_1 : decode cX9_begin 1 = .ok (.getfield 44, 3) := by decide +kernel
theorem dX9_begin_4 : decode cX9_begin 4 = .ok (.ifnonnull 14, 3) := by decide +kernel
theorem dX9_begin_7 : decode cX9_begin 7 = .ok (.aload_n 0, 1) := by decide +kernel
theorem dX9_begin_8 : decode cX9_begin 8 = .ok (.new 34, 3) := by decide +kernel
theorem dX9_begin_11 : decode cX9_begin 11 = .ok (.dup, 1) := by decide +kernel
theorem dX9_begin_12 : decode cX9_begin 12 = .ok (.invokespecial 84, 3) := by decide +kernel
theorem dX9_begin_15 : decode cX9_begin 15 = .ok (.putfield 44, 3) := by decide +kernel
theorem dX9_begin_18 : decode cX9_begin 18 = .ok (.aload_n 0, 1) := by decide +kernel
theorem dX9_begin_19 : decode cX9_begin 19 = .ok (.getfield 44, 3) := by decide +kernel
theorem dX9_begin_22 : decode cX9_begin 22 = .ok (.aload_n 0, 1) := by decide +kernel
theorem dX9_begin_23 : decode cX9_begin 23 = .ok (.getfield 12, 3) := by decide +kernel
theorem dX9_begin_26 : decode cX9_begin 26 = .ok (.aload_n 0, 1) := by decide +kernel
theorem dX9_begin_27 : decode cX9_begin 27 = .ok (.getfield 51, 3) := by decide +kernel
theorem dX9_begin_30 : decode cX9_begin 30 = .ok (.aload_n 0, 1) := by decide +kernel
theorem dX9_begin_31 : decode cX9_begin 31 = .ok (.getfield 54, 3) := by decide +kernel
theorem dX9_begin_34 : decode cX9_begin 34 = .ok (.invokevirtual 85, 3) := by decide +kernel
theorem dX9_begin_37 : decode cX9_begin 37 = .ok (.aload_n 0, 1) := by decide +kernel
theorem dX9_begin_38 : decode cX9_begin 38 = .ok (.getfield 19, 3) := by decide +kernel
theorem dX9_begin_41 : decode cX9_begin 41 = .ok (.invokevirtual 89, 3) := by decide +kernel
theorem dX9_begin_44 : decode cX9_begin 44 = .ok (.aload_n 0, 1) := by decide +kernel
theorem dX9_begin_45 : decode cX9_begin 45 = .ok (.getfield 12, 3) := by decide +kernel
theorem dX9_begin_48 : decode cX9_begin 48 = .ok (.invokevirtual 92, 3) := by decide +kernel
theorem dX9_begin_51 : decode cX9_begin 51 = .ok (.ireturn, 1) := by decide +kernel
theorem dX9_give_0 : decode cX9_give 0 = .ok (.aload_n 0, 1) := by decide +kernel
theorem dX9_give_1 : decode cX9_give 1 = .ok (.getfield 44, 3) := by decide +kernel
theorem dX9_give_4 : decode cX9_give 4 = .ok (.ifnull 15, 3) := by decide +kernel
theorem dX9_give_7 : decode cX9_give 7 = .ok (.aload_n 0, 1) := by decide +kernel
theorem dX9_give_8 : decode cX9_give 8 = .ok (.getfield 19, 3) := by decide +kernel
theorem dX9_give_11 : decode cX9_give 11 = .ok (.getfield 96, 3) := by decide +kernel
theorem dX9_give_14 : decode cX9_give 14 = .ok (.bipush 100, 2) := by decide +kernel
theorem dX9_give_16 : decode cX9_give 16 = .ok (.if_icmp .lt 5, 3) := by decide +kernel
theorem dX9_give_19 : decode cX9_give 19 = .ok (.iconst (-1), 1) := by decide +kernel
theorem dX9_give_20 : decode cX9_give 20 = .ok (.ireturn, 1) := by decide +kernel
theorem dX9_give_21 : decode cX9_give 21 = .ok (.aload_n 0, 1) := by decide +kernel
theorem dX9_give_22 : decode cX9_give 22 = .ok (.getfield 19, 3) := by decide +kernel
theorem dX9_give_25 : decode cX9_give 25 = .ok (.iload_n 1, 1) := by decide +kernel
theorem dX9_give_26 : decode cX9_give 26 = .ok (.invokevirtual 99, 3) := by decide +kernel
theorem dX9_give_29 : decode cX9_give 29 = .ok (.aload_n 0, 1) := by decide +kernel
theorem dX9_give_30 : decode cX9_give 30 = .ok (.getfield 19, 3) := by decide +kernel
theorem dX9_give_33 : decode cX9_give 33 = .ok (.getfield 96, 3) := by decide +kernel
theorem dX9_give_36 : decode cX9_give 36 = .ok (.ireturn, 1) := by decide +kernel
theorem dX9_seed_0 : decode cX9_seed 0 = .ok (.aload_n 0, 1) := by decide +kernel
theorem dX9_seed_1 : decode cX9_seed 1 = .ok (.getfield 19, 3) := by decide +kernel
theorem dX9_seed_4 : decode cX9_seed 4 = .ok (.getfield 103, 3) := by decide +kernel
theorem dX9_seed_7 : decode cX9_seed 7 = .ok (.istore_n 2, 1) := by decide +kernel
theorem dX9_seed_8 : decode cX9_seed 8 = .ok (.aload_n 0, 1) := by decide +kernel
theorem dX9_seed_9 : decode cX9_seed 9 = .ok (.getfield 19, 3) := by decide +kernel
theorem dX9_seed_12 : decode cX9_seed 12 = .ok (.iload_n 1, 1) := by decide +kernel
theorem dX9_seed_13 : decode cX9_seed 13 = .ok (.putfield 103, 3) := by decide +kernel
theorem dX9_seed_16 : decode cX9_seed 16 = .ok (.iload_n 2, 1) := by decide +kernel
theorem dX9_seed_17 : decode cX9_seed 17 = .ok (.ireturn, 1) := by decide +kernel
theorem dX9_poke_0 : decode cX9_poke 0 = .ok (.aload_n 0, 1) := by decide +kernel
theorem dX9_poke_1 : decode cX9_poke 1 = .ok (.getfield 44, 3) := by decide +kernel
theorem dX9_poke_4 : decode cX9_poke 4 = .ok (.ifnull 31, 3) := by decide +kernel
theorem dX9_poke_7 : decode cX9_poke 7 = .ok (.aload_n 0, 1) := by decide +kernel
theorem dX9_poke_8 : decode cX9_poke 8 = .ok (.getfield 44, 3) := by decide +kernel
theorem dX9_poke_11 : decode cX9_poke 11 = .ok (.getfield 106, 3) := by decide +kernel
theorem dX9_poke_14 : decode cX9_poke 14 = .ok (.invokevirtual 110, 3) := by decide +kernel
theorem dX9_poke_17 : decode cX9_poke 17 = .ok (.ifCond .ne 18, 3) := by decide +kernel
theorem dX9_poke_20 : decode cX9_poke 20 = .ok (.iload_n 1, 1) := by decide +kernel
theorem dX9_poke_21 : decode cX9_poke 21 = .ok (.invokestatic 116, 3) := by decide +kernel
theorem dX9_poke_24 : decode cX9_poke 24 = .ok (.ifCond .eq 11, 3) := by decide +kernel
theorem dX9_poke_27 : decode cX9_poke 27 = .ok (.iload_n 2, 1) := by decide +kernel
theorem dX9_poke_28 : decode cX9_poke 28 = .ok (.iload_n 3, 1) := by decide +kernel
theorem dX9_poke_29 : decode cX9_poke 29 = .ok (.invokestatic 119, 3) := by decide +kernel
theorem dX9_poke_32 : decode cX9_poke 32 = .ok (.ifCond .ne 5, 3) := by decide +kernel
theorem dX9_poke_35 : decode cX9_poke 35 = .ok (.iconst (-1), 1) := by decide +kernel
theorem dX9_poke_36 : decode cX9_poke 36 = .ok (.ireturn, 1) := by decide +kernel
theorem dX9_poke_37 : decode cX9_poke 37 = .ok (.aload_n 0, 1) := by decide +kernel
theorem dX9_poke_38 : decode cX9_poke 38 = .ok (.getfield 44, 3) := by decide +kernel
theorem dX9_poke_41 : decode cX9_poke 41 = .ok (.iload_n 1, 1) := by decide +kernel
theorem dX9_poke_42 : decode cX9_poke 42 = .ok (.iload_n 2, 1) := by decide +kernel
theorem dX9_poke_43 : decode cX9_poke 43 = .ok (.iload_n 3, 1) := by decide +kernel
theorem dX9_poke_44 : decode cX9_poke 44 = .ok (.invokevirtual 123, 3) := by decide +kernel
theorem dX9_poke_47 : decode cX9_poke 47 = .ok (.ifCond .eq 7, 3) := by decide +kernel
theorem dX9_poke_50 : decode cX9_poke 50 = .ok (.iconst 1, 1) := by decide +kernel
theorem dX9_poke_51 : decode cX9_poke 51 = .ok (.goto 4, 3) := by decide +kernel
theorem dX9_poke_54 : decode cX9_poke 54 = .ok (.iconst 0, 1) := by decide +kernel
theorem dX9_poke_55 : decode cX9_poke 55 = .ok (.ireturn, 1) := by decide +kernel
theorem dX9_run_0 : decode cX9_run 0 = .ok (.aload_n 0, 1) := by decide +kernel
theorem dX9_run_1 : decode cX9_run 1 = .ok (.getfield 44, 3) := by decide +kernel
theorem dX9_run_4 : decode cX9_run 4 = .ok (.ifnull 15, 3) := by decide +kernel
theorem dX9_run_7 : decode cX9_run 7 = .ok (.iload_n 1, 1) := by decide +kernel
theorem dX9_run_8 : decode cX9_run 8 = .ok (.iconst 1, 1) := by decide +kernel
theorem dX9_run_9 : decode cX9_run 9 = .ok (.if_icmp .lt 10, 3) := by decide +kernel
theorem dX9_run_12 : decode cX9_run 12 = .ok (.iload_n 1, 1) := by decide +kernel
theorem dX9_run_13 : decode cX9_run 13 = .ok (.sipush 500, 3) := by decide +kernel
theorem dX9_run_16 : decode cX9_run 16 = .ok (.if_icmp .le 5, 3) := by decide +kernel
theorem dX9_run_19 : decode cX9_run 19 = .ok (.iconst (-1), 1) := by decide +kernel
theorem dX9_run_20 : decode cX9_run 20 = .ok (.ireturn, 1) := by decide +kernel
theorem dX9_run_21 : decode cX9_run 21 = .ok (.iconst 0, 1) := by decide +kernel
theorem dX9_run_22 : decode cX9_run 22 = .ok (.istore_n 2, 1) := by decide +kernel
theorem dX9_run_23 : decode cX9_run 23 = .ok (.iconst 1, 1) := by decide +kernel
theorem dX9_run_24 : decode cX9_run 24 = .ok (.istore_n 3, 1) := by decide +kernel
theorem dX9_run_25 : decode cX9_run 25 = .ok (.iload_n 3, 1) := by decide +kernel
theorem dX9_run_26 : decode cX9_run 26 = .ok (.ifCond .eq 59, 3) := by decide +kernel
theorem dX9_run_29 : decode cX9_run 29 = .ok (.iload_n 2, 1) := by decide +kernel
theorem dX9_run_30 : decode cX9_run 30 = .ok (.iload_n 1, 1) := by decide +kernel
theorem dX9_run_31 : decode cX9_run 31 = .ok (.if_icmp .ge 54, 3) := by decide +kernel
theorem dX9_run_34 : decode cX9_run 34 = .ok (.aload_n 0, 1) := by decide +kernel
theorem dX9_run_35 : decode cX9_run 35 = .ok (.getfield 44, 3) := by decide +kernel
theorem dX9_run_38 : decode cX9_run 38 = .ok (.aload_n 0, 1) := by decide +kernel
theorem dX9_run_39 : decode cX9_run 39 = .ok (.getfield 19, 3) := by decide +kernel
theorem dX9_run_42 : decode cX9_run 42 = .ok (.invokevirtual 127, 3) := by decide +kernel
theorem dX9_run_45 : decode cX9_run 45 = .ok (.ifCond .eq 40, 3) := by decide +kernel
theorem dX9_run_48 : decode cX9_run 48 = .ok (.aload_n 0, 1) := by decide +kernel
theorem dX9_run_49 : decode cX9_run 49 = .ok (.getfield 44, 3) := by decide +kernel
theorem dX9_run_52 : decode cX9_run 52 = .ok (.aload_n 0, 1) := by decide +kernel
theorem dX9_run_53 : decode cX9_run 53 = .ok (.getfield 19, 3) := by decide +kernel
theorem dX9_run_56 : decode cX9_run 56 = .ok (.invokevirtual 131, 3) := by decide +kernel
theorem dX9_run_59 : decode cX9_run 59 = .ok (.iinc 2 1, 3) := by decide +kernel
theorem dX9_run_62 : decode cX9_run 62 = .ok (.aload_n 0, 1) := by decide +kernel
theorem dX9_run_63 : decode cX9_run 63 = .ok (.aload_n 0, 1) := by decide +kernel
theorem dX9_run_64 : decode cX9_run 64 = .ok (.getfield 44, 3) := by decide +kernel
theorem dX9_run_67 : decode cX9_run 67 = .ok (.getfield 135, 3) := by decide +kernel
theorem dX9_run_70 : decode cX9_run 70 = .ok (.invokevirtual 138, 3) := by decide +kernel
theorem dX9_run_73 : decode cX9_run 73 = .ok (.ifCond .ne 7, 3) := by decide +kernel
theorem dX9_run_76 : decode cX9_run 76 = .ok (.iconst 1, 1) := by decide +kernel
theorem dX9_run_77 : decode cX9_run 77 = .ok (.goto 4, 3) := by decide +kernel
theorem dX9_run_80 : decode cX9_run 80 = .ok (.iconst 0, 1) := by decide +kernel
theorem dX9_run_81 : decode cX9_run 81 = .ok (.istore_n 3, 1) := by decide +kernel
theorem dX9_run_82 : decode cX9_run 82 = .ok (.goto (-57), 3) := by decide +kernel
theorem dX9_run_85 : decode cX9_run 85 = .ok (.iload_n 2, 1) := by decide +kernel
theorem dX9_run_86 : decode cX9_run 86 = .ok (.ireturn, 1) := by decide +kernel
theorem dX9_watch_0 : decode cX9_watch 0 = .ok (.iload_n 1, 1) := by decide +kernel
theorem dX9_watch_1 : decode cX9_watch 1 = .ok (.invokestatic 116, 3) := by decide +kernel
theorem dX9_watch_4 : decode cX9_watch 4 = .ok (.ifCond .eq 12, 3) := by decide +kernel
theorem dX9_watch_7 : decode cX9_watch 7 = .ok (.aload_n 0, 1) := by decide +kernel
theorem dX9_watch_8 : decode cX9_watch 8 = .ok (.iload_n 1, 1) := by decide +kernel
theorem dX9_watch_9 : decode cX9_watch 9 = .ok (.invokevirtual 138, 3) := by decide +kernel
theorem dX9_watch_12 : decode cX9_watch 12 = .ok (.iload_n 2, 1) := by decide +kernel
theorem dX9_watch_13 : decode cX9_watch 13 = .ok (.if_icmp .ne 5, 3) := by decide +kernel
theorem dX9_watch_16 : decode cX9_watch 16 = .ok (.iconst 0, 1) := by decide +kernel
theorem dX9_watch_17 : decode cX9_watch 17 = .ok (.ireturn, 1) := by decide +kernel
theorem dX9_watch_18 : decode cX9_watch 18 = .ok (.iload_n 1, 1) := by decide +kernel
theorem dX9_watch_19 : decode cX9_watch 19 = .ok (.bipush 8, 2) := by decide +kernel
theorem dX9_watch_21 : decode cX9_watch 21 = .ok (.if_icmp .ge 18, 3) := by decide +kernel
theorem dX9_watch_24 : decode cX9_watch 24 = .ok (.aload_n 0, 1) := by decide +kernel
theorem dX9_watch_25 : decode cX9_watch 25 = .ok (.dup, 1) := by decide +kernel
theorem dX9_watch_26 : decode cX9_watch 26 = .ok (.getfield 57, 3) := by decide +kernel
theorem dX9_watch_29 : decode cX9_watch 29 = .ok (.iconst 1, 1) := by decide +kernel
theorem dX9_watch_30 : decode cX9_watch 30 = .ok (.iload_n 1, 1) := by decide +kernel
theorem dX9_watch_31 : decode cX9_watch 31 = .ok (.ishl, 1) := by decide +kernel
theorem dX9_watch_32 : decode cX9_watch 32 = .ok (.ixor, 1) := by decide +kernel
theorem dX9_watch_33 : decode cX9_watch 33 = .ok (.putfield 57, 3) := by decide +kernel
theorem dX9_watch_36 : decode cX9_watch 36 = .ok (.goto 18, 3) := by decide +kernel
theorem dX9_watch_39 : decode cX9_watch 39 = .ok (.aload_n 0, 1) := by decide +kernel
theorem dX9_watch_40 : decode cX9_watch 40 = .ok (.dup, 1) := by decide +kernel
theorem dX9_watch_41 : decode cX9_watch 41 = .ok (.getfield 60, 3) := by decide +kernel
theorem dX9_watch_44 : decode cX9_watch 44 = .ok (.iconst 1, 1) := by decide +kernel
theorem dX9_watch_45 : decode cX9_watch 45 = .ok (.iload_n 1, 1) := by decide +kernel
theorem dX9_watch_46 : decode cX9_watch 46 = .ok (.bipush 8, 2) := by decide +kernel
theorem dX9_watch_48 : decode cX9_watch 48 = .ok (.isub, 1) := by decide +kernel
theorem dX9_watch_49 : decode cX9_watch 49 = .ok (.ishl, 1) := by decide +kernel
theorem dX9_watch_50 : decode cX9_watch 50 = .ok (.ixor, 1) := by decide +kernel
theorem dX9_watch_51 : decode cX9_watch 51 = .ok (.putfield 60, 3) := by decide +kernel
theorem dX9_watch_54 : decode cX9_watch 54 = .ok (.iconst 1, 1) := by decide +kernel
theorem dX9_watch_55 : decode cX9_watch 55 = .ok (.ireturn, 1) := by decide +kernel
theorem dX9_back_0 : decode cX9_back 0 = .ok (.aload_n 0, 1) := by decide +kernel
theorem dX9_back_1 : decode cX9_back 1 = .ok (.iconst 0, 1) := by decide +kernel
theorem dX9_back_2 : decode cX9_back 2 = .ok (.putfield 63, 3) := by decide +kernel
theorem dX9_back_5 : decode cX9_back 5 = .ok (.aload_n 0, 1) := by decide +kernel
theorem dX9_back_6 : decode cX9_back 6 = .ok (.getfield 44, 3) := by decide +kernel
theorem dX9_back_9 : decode cX9_back 9 = .ok (.ifnull 18, 3) := by decide +kernel
theorem dX9_back_12 : decode cX9_back 12 = .ok (.iload_n 1, 1) := by decide +kernel
theorem dX9_back_13 : decode cX9_back 13 = .ok (.ifCond .lt 14, 3) := by decide +kernel
theorem dX9_back_16 : decode cX9_back 16 = .ok (.iload_n 1, 1) := by decide +kernel
theorem dX9_back_17 : decode cX9_back 17 = .ok (.aload_n 0, 1) := by decide +kernel
theorem dX9_back_18 : decode cX9_back 18 = .ok (.getfield 44, 3) := by decide +kernel
theorem dX9_back_21 : decode cX9_back 21 = .ok (.getfield 141, 3) := by decide +kernel
theorem dX9_back_24 : decode cX9_back 24 = .ok (.if_icmp .lt 5, 3) := by decide +kernel
theorem dX9_back_27 : decode cX9_back 27 = .ok (.iconst (-1), 1) := by decide +kernel
theorem dX9_back_28 : decode cX9_back 28 = .ok (.ireturn, 1) := by decide +kernel
theorem dX9_back_29 : decode cX9_back 29 = .ok (.aload_n 0, 1) := by decide +kernel
theorem dX9_back_30 : decode cX9_back 30 = .ok (.aload_n 0, 1) := by decide +kernel
theorem dX9_back_31 : decode cX9_back 31 = .ok (.getfield 44, 3) := by decide +kernel
theorem dX9_back_34 : decode cX9_back 34 = .ok (.iload_n 1, 1) := by decide +kernel
theorem dX9_back_35 : decode cX9_back 35 = .ok (.invokevirtual 144, 3) := by decide +kernel
theorem dX9_back_38 : decode cX9_back 38 = .ok (.aload_n 0, 1) := by decide +kernel
theorem dX9_back_39 : decode cX9_back 39 = .ok (.getfield 44, 3) := by decide +kernel
theorem dX9_back_42 : decode cX9_back 42 = .ok (.iload_n 1, 1) := by decide +kernel
theorem dX9_back_43 : decode cX9_back 43 = .ok (.aload_n 0, 1) := by decide +kernel
theorem dX9_back_44 : decode cX9_back 44 = .ok (.getfield 19, 3) := by decide +kernel
theorem dX9_back_47 : decode cX9_back 47 = .ok (.invokevirtual 148, 3) := by decide +kernel
theorem dX9_back_50 : decode cX9_back 50 = .ok (.aload_n 0, 1) := by decide +kernel
theorem dX9_back_51 : decode cX9_back 51 = .ok (.getfield 63, 3) := by decide +kernel
theorem dX9_back_54 : decode cX9_back 54 = .ok (.ireturn, 1) := by decide +kernel
theorem dX9_keep_0 : decode cX9_keep 0 = .ok (.aload_n 0, 1) := by decide +kernel
theorem dX9_keep_1 : decode cX9_keep 1 = .ok (.getfield 44, 3) := by decide +kernel
theorem dX9_keep_4 : decode cX9_keep 4 = .ok (.ifnull 11, 3) := by decide +kernel
theorem dX9_keep_7 : decode cX9_keep 7 = .ok (.aload_n 0, 1) := by decide +kernel
theorem dX9_keep_8 : decode cX9_keep 8 = .ok (.getfield 40, 3) := by decide +kernel
theorem dX9_keep_11 : decode cX9_keep 11 = .ok (.iconst 4, 1) := by decide +kernel
theorem dX9_keep_12 : decode cX9_keep 12 = .ok (.if_icmp .lt 5, 3) := by decide +kernel
theorem dX9_keep_15 : decode cX9_keep 15 = .ok (.iconst (-1), 1) := by decide +kernel
theorem dX9_keep_16 : decode cX9_keep 16 = .ok (.ireturn, 1) := by decide +kernel
theorem dX9_keep_17 : decode cX9_keep 17 = .ok (.aload_n 0, 1) := by decide +kernel
theorem dX9_keep_18 : decode cX9_keep 18 = .ok (.getfield 36, 3) := by decide +kernel
theorem dX9_keep_21 : decode cX9_keep 21 = .ok (.aload_n 0, 1) := by decide +kernel
theorem dX9_keep_22 : decode cX9_keep 22 = .ok (.getfield 40, 3) := by decide +kernel
theorem dX9_keep_25 : decode cX9_keep 25 = .ok (.new 34, 3) := by decide +kernel
theorem dX9_keep_28 : decode cX9_keep 28 = .ok (.dup, 1) := by decide +kernel
theorem dX9_keep_29 : decode cX9_keep 29 = .ok (.aload_n 0, 1) := by decide +kernel
theorem dX9_keep_30 : decode cX9_keep 30 = .ok (.getfield 44, 3) := by decide +kernel
theorem dX9_keep_33 : decode cX9_keep 33 = .ok (.aload_n 0, 1) := by decide +kernel
theorem dX9_keep_34 : decode cX9_keep 34 = .ok (.getfield 44, 3) := by decide +kernel
theorem dX9_keep_37 : decode cX9_keep 37 = .ok (.aload_n 0, 1) := by decide +kernel
theorem dX9_keep_38 : decode cX9_keep 38 = .ok (.getfield 19, 3) := by decide +kernel
theorem dX9_keep_41 : decode cX9_keep 41 = .ok (.invokevirtual 152, 3) := by decide +kernel
theorem dX9_keep_44 : decode cX9_keep 44 = .ok (.invokespecial 156, 3) := by decide +kernel
theorem dX9_keep_47 : decode cX9_keep 47 = .ok (.aastore, 1) := by decide +kernel
theorem dX9_keep_48 : decode cX9_keep 48 = .ok (.aload_n 0, 1) := by decide +kernel
theorem dX9_keep_49 : decode cX9_keep 49 = .ok (.dup, 1) := by decide +kernel
theorem dX9_keep_50 : decode cX9_keep 50 = .ok (.getfield 40, 3) := by decide +kernel
theorem dX9_keep_53 : decode cX9_keep 53 = .ok (.iconst 1, 1) := by decide +kernel
theorem dX9_keep_54 : decode cX9_keep 54 = .ok (.iadd, 1) := by decide +kernel
theorem dX9_keep_55 : decode cX9_keep 55 = .ok (.putfield 40, 3) := by decide +kernel
theorem dX9_keep_58 : decode cX9_keep 58 = .ok (.aload_n 0, 1) := by decide +kernel
theorem dX9_keep_59 : decode cX9_keep 59 = .ok (.getfield 40, 3) := by decide +kernel
theorem dX9_keep_62 : decode cX9_keep 62 = .ok (.iconst 1, 1) := by decide +kernel
theorem dX9_keep_63 : decode cX9_keep 63 = .ok (.isub, 1) := by decide +kernel
theorem dX9_keep_64 : decode cX9_keep 64 = .ok (.ireturn, 1) := by decide +kernel
theorem dX9_use_0 : decode cX9_use 0 = .ok (.iload_n 1, 1) := by decide +kernel
theorem dX9_use_1 : decode cX9_use 1 = .ok (.iconst (-1), 1) := by decide +kernel
theorem dX9_use_2 : decode cX9_use 2 = .ok (.if_icmp .eq 13, 3) := by decide +kernel
theorem dX9_use_5 : decode cX9_use 5 = .ok (.aload_n 0, 1) := by decide +kernel
theorem dX9_use_6 : decode cX9_use 6 = .ok (.iload_n 1, 1) := by decide +kernel
theorem dX9_use_7 : decode cX9_use 7 = .ok (.invokevirtual 158, 3) := by decide +kernel
theorem dX9_use_10 : decode cX9_use 10 = .ok (.ifCond .ne 5, 3) := by decide +kernel
theorem dX9_use_13 : decode cX9_use 13 = .ok (.iconst 0, 1) := by decide +kernel
theorem dX9_use_14 : decode cX9_use 14 = .ok (.ireturn, 1) := by decide +kernel
theorem dX9_use_15 : decode cX9_use 15 = .ok (.aload_n 0, 1) := by decide +kernel
theorem dX9_use_16 : decode cX9_use 16 = .ok (.iload_n 1, 1) := by decide +kernel
theorem dX9_use_17 : decode cX9_use 17 = .ok (.putfield 48, 3) := by decide +kernel
theorem dX9_use_20 : decode cX9_use 20 = .ok (.iconst 1, 1) := by decide +kernel
theorem dX9_use_21 : decode cX9_use 21 = .ok (.ireturn, 1) := by decide +kernel
theorem dX9_at_0 : decode cX9_at 0 = .ok (.aload_n 0, 1) := by decide +kernel
theorem dX9_at_1 : decode cX9_at 1 = .ok (.iconst 0, 1) := by decide +kernel
theorem dX9_at_2 : decode cX9_at 2 = .ok (.putfield 63, 3) := by decide +kernel
theorem dX9_at_5 : decode cX9_at 5 = .ok (.aload_n 0, 1) := by decide +kernel
theorem dX9_at_6 : decode cX9_at 6 = .ok (.aload_n 0, 1) := by decide +kernel
theorem dX9_at_7 : decode cX9_at 7 = .ok (.getfield 48, 3) := by decide +kernel
theorem dX9_at_10 : decode cX9_at 10 = .ok (.invokevirtual 161, 3) := by decide +kernel
theorem dX9_at_13 : decode cX9_at 13 = .ok (.astore 4, 2) := by decide +kernel
theorem dX9_at_15 : decode cX9_at 15 = .ok (.aload 4, 2) := by decide +kernel
theorem dX9_at_17 : decode cX9_at 17 = .ok (.ifnull 28, 3) := by decide +kernel
theorem dX9_at_20 : decode cX9_at 20 = .ok (.aload 4, 2) := by decide +kernel
theorem dX9_at_22 : decode cX9_at 22 = .ok (.iload_n 1, 1) := by decide +kernel
theorem dX9_at_23 : decode cX9_at 23 = .ok (.invokevirtual 165, 3) := by decide +kernel
theorem dX9_at_26 : decode cX9_at 26 = .ok (.ifCond .eq 19, 3) := by decide +kernel
theorem dX9_at_29 : decode cX9_at 29 = .ok (.iload_n 2, 1) := by decide +kernel
theorem dX9_at_30 : decode cX9_at 30 = .ok (.invokestatic 116, 3) := by decide +kernel
theorem dX9_at_33 : decode cX9_at 33 = .ok (.ifCond .eq 12, 3) := by decide +kernel
theorem dX9_at_36 : decode cX9_at 36 = .ok (.iload_n 3, 1) := by decide +kernel
theorem dX9_at_37 : decode cX9_at 37 = .ok (.ifCond .lt 8, 3) := by decide +kernel
theorem dX9_at_40 : decode cX9_at 40 = .ok (.iload_n 3, 1) := by decide +kernel
theorem dX9_at_41 : decode cX9_at 41 = .ok (.iconst 2, 1) := by decide +kernel
theorem dX9_at_42 : decode cX9_at 42 = .ok (.if_icmp .le 6, 3) := by decide +kernel
theorem dX9_at_45 : decode cX9_at 45 = .ok (.ldc 168, 2) := by decide +kernel
theorem dX9_at_47 : decode cX9_at 47 = .ok (.ireturn, 1) := by decide +kernel
theorem dX9_at_48 : decode cX9_at 48 = .ok (.aload_n 0, 1) := by decide +kernel
theorem dX9_at_49 : decode cX9_at 49 = .ok (.aload 4, 2) := by decide +kernel
theorem dX9_at_51 : decode cX9_at 51 = .ok (.iload_n 1, 1) := by decide +kernel
theorem dX9_at_52 : decode cX9_at 52 = .ok (.invokevirtual 144, 3) := by decide +kernel
theorem dX9_at_55 : decode cX9_at 55 = .ok (.aload 4, 2) := by decide +kernel
theorem dX9_at_57 : decode cX9_at 57 = .ok (.getfield 169, 3) := by decide +kernel
theorem dX9_at_60 : decode cX9_at 60 = .ok (.iload_n 1, 1) := by decide +kernel
theorem dX9_at_61 : decode cX9_at 61 = .ok (.iload_n 2, 1) := by decide +kernel
theorem dX9_at_62 : decode cX9_at 62 = .ok (.invokevirtual 173, 3) := by decide +kernel
theorem dX9_at_65 : decode cX9_at 65 = .ok (.istore 5, 2) := by decide +kernel
theorem dX9_at_67 : decode cX9_at 67 = .ok (.iload_n 3, 1) := by decide +kernel
theorem dX9_at_68 : decode cX9_at 68 = .ok (.lookupswitch 50 #[(0, 28), (1, 39)], 28) := by decide +kernel
theorem dX9_at_96 : decode cX9_at 96 = .ok (.aload 4, 2) := by decide +kernel
theorem dX9_at_98 : decode cX9_at 98 = .ok (.getfield 169, 3) := by decide +kernel
theorem dX9_at_101 : decode cX9_at 101 = .ok (.iload 5, 2) := by decide +kernel
theorem dX9_at_103 : decode cX9_at 103 = .ok (.invokevirtual 179, 3) := by decide +kernel
theorem dX9_at_106 : decode cX9_at 106 = .ok (.ireturn, 1) := by decide +kernel
theorem dX9_at_107 : decode cX9_at 107 = .ok (.aload 4, 2) := by decide +kernel
theorem dX9_at_109 : decode cX9_at 109 = .ok (.getfield 169, 3) := by decide +kernel
theorem dX9_at_112 : decode cX9_at 112 = .ok (.iload 5, 2) := by decide +kernel
theorem dX9_at_114 : decode cX9_at 114 = .ok (.invokevirtual 183, 3) := by decide +kernel
theorem dX9_at_117 : decode cX9_at 117 = .ok (.ireturn, 1) := by decide +kernel
theorem dX9_at_118 : decode cX9_at 118 = .ok (.aload 4, 2) := by decide +kernel
theorem dX9_at_120 : decode cX9_at 120 = .ok (.getfield 169, 3) := by decide +kernel
theorem dX9_at_123 : decode cX9_at 123 = .ok (.iload 5, 2) := by decide +kernel
theorem dX9_at_125 : decode cX9_at 125 = .ok (.invokevirtual 186, 3) := by decide +kernel
theorem dX9_at_128 : decode cX9_at 128 = .ok (.ireturn, 1) := by decide +kernel
theorem dX9_state_0 : decode cX9_state 0 = .ok (.aload_n 0, 1) := by decide +kernel
theorem dX9_state_1 : decode cX9_state 1 = .ok (.iconst 0, 1) := by decide +kernel
theorem dX9_state_2 : decode cX9_state 2 = .ok (.putfield 63, 3) := by decide +kernel
theorem dX9_state_5 : decode cX9_state 5 = .ok (.aload_n 0, 1) := by decide +kernel
theorem dX9_state_6 : decode cX9_state 6 = .ok (.aload_n 0, 1) := by decide +kernel
theorem dX9_state_7 : decode cX9_state 7 = .ok (.getfield 48, 3) := by decide +kernel
theorem dX9_state_10 : decode cX9_state 10 = .ok (.invokevirtual 161, 3) := by decide +kernel
theorem dX9_state_13 : decode cX9_state 13 = .ok (.astore_n 3, 1) := by decide +kernel
theorem dX9_state_14 : decode cX9_state 14 = .ok (.aload_n 3, 1) := by decide +kernel
theorem dX9_state_15 : decode cX9_state 15 = .ok (.ifnull 18, 3) := by decide +kernel
theorem dX9_state_18 : decode cX9_state 18 = .ok (.aload_n 3, 1) := by decide +kernel
theorem dX9_state_19 : decode cX9_state 19 = .ok (.iload_n 1, 1) := by decide +kernel
theorem dX9_state_20 : decode cX9_state 20 = .ok (.invokevirtual 165, 3) := by decide +kernel
theorem dX9_state_23 : decode cX9_state 23 = .ok (.ifCond .eq 10, 3) := by decide +kernel
theorem dX9_state_26 : decode cX9_state 26 = .ok (.iload_n 2, 1) := by decide +kernel
theorem dX9_state_27 : decode cX9_state 27 = .ok (.invokestatic 189, 3) := by decide +kernel
theorem dX9_state_30 : decode cX9_state 30 = .ok (.ifCond .ne 6, 3) := by decide +kernel
theorem dX9_state_33 : decode cX9_state 33 = .ok (.ldc 168, 2) := by decide +kernel
theorem dX9_state_35 : decode cX9_state 35 = .ok (.ireturn, 1) := by decide +kernel
theorem dX9_state_36 : decode cX9_state 36 = .ok (.aload_n 0, 1) := by decide +kernel
theorem dX9_state_37 : decode cX9_state 37 = .ok (.aload_n 3, 1) := by decide +kernel
theorem dX9_state_38 : decode cX9_state 38 = .ok (.iload_n 1, 1) := by decide +kernel
theorem dX9_state_39 : decode cX9_state 39 = .ok (.invokevirtual 144, 3) := by decide +kernel
theorem dX9_state_42 : decode cX9_state 42 = .ok (.iload_n 2, 1) := by decide +kernel
theorem dX9_state_43 : decode cX9_state 43 = .ok (.tableswitch 70 0 4 #[33, 39, 45, 51, 57], 33) := by decide +kernel
theorem dX9_state_76 : decode cX9_state 76 = .ok (.aload_n 3, 1) := by decide +kernel
theorem dX9_state_77 : decode cX9_state 77 = .ok (.iload_n 1, 1) := by decide +kernel
theorem dX9_state_78 : decode cX9_state 78 = .ok (.invokevirtual 192, 3) := by decide +kernel
theorem dX9_state_81 : decode cX9_state 81 = .ok (.ireturn, 1) := by decide +kernel
theorem dX9_state_82 : decode cX9_state 82 = .ok (.aload_n 3, 1) := by decide +kernel
theorem dX9_state_83 : decode cX9_state 83 = .ok (.iload_n 1, 1) := by decide +kernel
theorem dX9_state_84 : decode cX9_state 84 = .ok (.invokevirtual 195, 3) := by decide +kernel
theorem dX9_state_87 : decode cX9_state 87 = .ok (.ireturn, 1) := by decide +kernel
theorem dX9_state_88 : decode cX9_state 88 = .ok (.aload_n 3, 1) := by decide +kernel
theorem dX9_state_89 : decode cX9_state 89 = .ok (.iload_n 1, 1) := by decide +kernel
theorem dX9_state_90 : decode cX9_state 90 = .ok (.invokevirtual 198, 3) := by decide +kernel
theorem dX9_state_93 : decode cX9_state 93 = .ok (.ireturn, 1) := by decide +kernel
theorem dX9_state_94 : decode cX9_state 94 = .ok (.aload_n 3, 1) := by decide +kernel
theorem dX9_state_95 : decode cX9_state 95 = .ok (.iload_n 1, 1) := by decide +kernel
theorem dX9_state_96 : decode cX9_state 96 = .ok (.invokevirtual 201, 3) := by decide +kernel
theorem dX9_state_99 : decode cX9_state 99 = .ok (.ireturn, 1) := by decide +kernel
theorem dX9_state_100 : decode cX9_state 100 = .ok (.aload_n 3, 1) := by decide +kernel
theorem dX9_state_101 : decode cX9_state 101 = .ok (.getfield 204, 3) := by decide +kernel
theorem dX9_state_104 : decode cX9_state 104 = .ok (.aload_n 3, 1) := by decide +kernel
theorem dX9_state_105 : decode cX9_state 105 = .ok (.iload_n 1, 1) := by decide +kernel
theorem dX9_state_106 : decode cX9_state 106 = .ok (.invokevirtual 192, 3) := by decide +kernel
theorem dX9_state_109 : decode cX9_state 109 = .ok (.invokevirtual 205, 3) := by decide +kernel
theorem dX9_state_112 : decode cX9_state 112 = .ok (.ireturn, 1) := by decide +kernel
theorem dX9_state_113 : decode cX9_state 113 = .ok (.aload_n 3, 1) := by decide +kernel
theorem dX9_state_114 : decode cX9_state 114 = .ok (.iload_n 1, 1) := by decide +kernel
theorem dX9_state_115 : decode cX9_state 115 = .ok (.iload_n 2, 1) := by decide +kernel
theorem dX9_state_116 : decode cX9_state 116 = .ok (.bipush 10, 2) := by decide +kernel
theorem dX9_state_118 : decode cX9_state 118 = .ok (.isub, 1) := by decide +kernel
theorem dX9_state_119 : decode cX9_state 119 = .ok (.invokevirtual 208, 3) := by decide +kernel
theorem dX9_state_122 : decode cX9_state 122 = .ok (.ireturn, 1) := by decide +kernel
theorem dX9_last_0 : decode cX9_last 0 = .ok (.aload_n 0, 1) := by decide +kernel
theorem dX9_last_1 : decode cX9_last 1 = .ok (.iconst 0, 1) := by decide +kernel
theorem dX9_last_2 : decode cX9_last 2 = .ok (.putfield 63, 3) := by decide +kernel
theorem dX9_last_5 : decode cX9_last 5 = .ok (.aload_n 0, 1) := by decide +kernel
theorem dX9_last_6 : decode cX9_last 6 = .ok (.aload_n 0, 1) := by decide +kernel
theorem dX9_last_7 : decode cX9_last 7 = .ok (.getfield 48, 3) := by decide +kernel
theorem dX9_last_10 : decode cX9_last 10 = .ok (.invokevirtual 161, 3) := by decide +kernel
theorem dX9_last_13 : decode cX9_last 13 = .ok (.astore_n 3, 1) := by decide +kernel
theorem dX9_last_14 : decode cX9_last 14 = .ok (.aload_n 3, 1) := by decide +kernel
theorem dX9_last_15 : decode cX9_last 15 = .ok (.ifnull 18, 3) := by decide +kernel
theorem dX9_last_18 : decode cX9_last 18 = .ok (.aload_n 3, 1) := by decide +kernel
theorem dX9_last_19 : decode cX9_last 19 = .ok (.iload_n 1, 1) := by decide +kernel
theorem dX9_last_20 : decode cX9_last 20 = .ok (.invokevirtual 165, 3) := by decide +kernel
theorem dX9_last_23 : decode cX9_last 23 = .ok (.ifCond .eq 10, 3) := by decide +kernel
theorem dX9_last_26 : decode cX9_last 26 = .ok (.iload_n 2, 1) := by decide +kernel
theorem dX9_last_27 : decode cX9_last 27 = .ok (.invokestatic 116, 3) := by decide +kernel
theorem dX9_last_30 : decode cX9_last 30 = .ok (.ifCond .ne 6, 3) := by decide +kernel
theorem dX9_last_33 : decode cX9_last 33 = .ok (.bipush (-2), 2) := by decide +kernel
theorem dX9_last_35 : decode cX9_last 35 = .ok (.ireturn, 1) := by decide +kernel
theorem dX9_last_36 : decode cX9_last 36 = .ok (.aload_n 0, 1) := by decide +kernel
theorem dX9_last_37 : decode cX9_last 37 = .ok (.aload_n 3, 1) := by decide +kernel
theorem dX9_last_38 : decode cX9_last 38 = .ok (.iload_n 1, 1) := by decide +kernel
theorem dX9_last_39 : decode cX9_last 39 = .ok (.iload_n 2, 1) := by decide +kernel
theorem dX9_last_40 : decode cX9_last 40 = .ok (.invokevirtual 211, 3) := by decide +kernel
theorem dX9_last_43 : decode cX9_last 43 = .ok (.ireturn, 1) := by decide +kernel
theorem dX9_when_0 : decode cX9_when 0 = .ok (.aload_n 0, 1) := by decide +kernel
theorem dX9_when_1 : decode cX9_when 1 = .ok (.iconst 0, 1) := by decide +kernel
theorem dX9_when_2 : decode cX9_when 2 = .ok (.putfield 63, 3) := by decide +kernel
theorem dX9_when_5 : decode cX9_when 5 = .ok (.aload_n 0, 1) := by decide +kernel
theorem dX9_when_6 : decode cX9_when 6 = .ok (.aload_n 0, 1) := by decide +kernel
theorem dX9_when_7 : decode cX9_when 7 = .ok (.getfield 48, 3) := by decide +kernel
theorem dX9_when_10 : decode cX9_when 10 = .ok (.invokevirtual 161, 3) := by decide +kernel
theorem dX9_when_13 : decode cX9_when 13 = .ok (.astore 5, 2) := by decide +kernel
theorem dX9_when_15 : decode cX9_when 15 = .ok (.aload 5, 2) := by decide +kernel
theorem dX9_when_17 : decode cX9_when 17 = .ok (.ifnull 28, 3) := by decide +kernel
theorem dX9_when_20 : decode cX9_when 20 = .ok (.aload 5, 2) := by decide +kernel
theorem dX9_when_22 : decode cX9_when 22 = .ok (.iload_n 1, 1) := by decide +kernel
theorem dX9_when_23 : decode cX9_when 23 = .ok (.invokevirtual 165, 3) := by decide +kernel
theorem dX9_when_26 : decode cX9_when 26 = .ok (.ifCond .eq 19, 3) := by decide +kernel
theorem dX9_when_29 : decode cX9_when 29 = .ok (.iload_n 2, 1) := by decide +kernel
theorem dX9_when_30 : decode cX9_when 30 = .ok (.invokestatic 116, 3) := by decide +kernel
theorem dX9_when_33 : decode cX9_when 33 = .ok (.ifCond .eq 12, 3) := by decide +kernel
theorem dX9_when_36 : decode cX9_when 36 = .ok (.iload_n 3, 1) := by decide +kernel
theorem dX9_when_37 : decode cX9_when 37 = .ok (.iload 4, 2) := by decide +kernel
theorem dX9_when_39 : decode cX9_when 39 = .ok (.invokestatic 119, 3) := by decide +kernel
theorem dX9_when_42 : decode cX9_when 42 = .ok (.ifCond .ne 6, 3) := by decide +kernel
theorem dX9_when_45 : decode cX9_when 45 = .ok (.bipush (-2), 2) := by decide +kernel
theorem dX9_when_47 : decode cX9_when 47 = .ok (.ireturn, 1) := by decide +kernel
theorem dX9_when_48 : decode cX9_when 48 = .ok (.aload 5, 2) := by decide +kernel
theorem dX9_when_50 : decode cX9_when 50 = .ok (.getfield 169, 3) := by decide +kernel
theorem dX9_when_53 : decode cX9_when 53 = .ok (.iload_n 1, 1) := by decide +kernel
theorem dX9_when_54 : decode cX9_when 54 = .ok (.iload_n 2, 1) := by decide +kernel
theorem dX9_when_55 : decode cX9_when 55 = .ok (.iload_n 3, 1) := by decide +kernel
theorem dX9_when_56 : decode cX9_when 56 = .ok (.iload 4, 2) := by decide +kernel
theorem dX9_when_58 : decode cX9_when 58 = .ok (.invokevirtual 215, 3) := by decide +kernel
theorem dX9_when_61 : decode cX9_when 61 = .ok (.istore 6, 2) := by decide +kernel
theorem dX9_when_63 : decode cX9_when 63 = .ok (.aload_n 0, 1) := by decide +kernel
theorem dX9_when_64 : decode cX9_when 64 = .ok (.aload 5, 2) := by decide +kernel
theorem dX9_when_66 : decode cX9_when 66 = .ok (.aload 5, 2) := by decide +kernel
theorem dX9_when_68 : decode cX9_when 68 = .ok (.getfield 219, 3) := by decide +kernel
theorem dX9_when_71 : decode cX9_when 71 = .ok (.iload 6, 2) := by decide +kernel
theorem dX9_when_73 : decode cX9_when 73 = .ok (.iload_n 1, 1) := by decide +kernel
theorem dX9_when_74 : decode cX9_when 74 = .ok (.invokevirtual 223, 3) := by decide +kernel
theorem dX9_when_77 : decode cX9_when 77 = .ok (.invokevirtual 228, 3) := by decide +kernel
theorem dX9_when_80 : decode cX9_when 80 = .ok (.iload 6, 2) := by decide +kernel
theorem dX9_when_82 : decode cX9_when 82 = .ok (.ireturn, 1) := by decide +kernel
theorem dX9_changed_0 : decode cX9_changed 0 = .ok (.aload_n 0, 1) := by decide +kernel
theorem dX9_changed_1 : decode cX9_changed 1 = .ok (.iconst 0, 1) := by decide +kernel
theorem dX9_changed_2 : decode cX9_changed 2 = .ok (.putfield 63, 3) := by decide +kernel
theorem dX9_changed_5 : decode cX9_changed 5 = .ok (.aload_n 0, 1) := by decide +kernel
theorem dX9_changed_6 : decode cX9_changed 6 = .ok (.aload_n 0, 1) := by decide +kernel
theorem dX9_changed_7 : decode cX9_changed 7 = .ok (.getfield 48, 3) := by decide +kernel
theorem dX9_changed_10 : decode cX9_changed 10 = .ok (.invokevirtual 161, 3) := by decide +kernel
theorem dX9_changed_13 : decode cX9_changed 13 = .ok (.astore_n 3, 1) := by decide +kernel
theorem dX9_changed_14 : decode cX9_changed 14 = .ok (.aload_n 3, 1) := by decide +kernel
theorem dX9_changed_15 : decode cX9_changed 15 = .ok (.ifnull 22, 3) := by decide +kernel
theorem dX9_changed_18 : decode cX9_changed 18 = .ok (.iload_n 1, 1) := by decide +kernel
theorem dX9_changed_19 : decode cX9_changed 19 = .ok (.ifCond .lt 18, 3) := by decide +kernel
theorem dX9_changed_22 : decode cX9_changed 22 = .ok (.iload_n 1, 1) := by decide +kernel
theorem dX9_changed_23 : decode cX9_changed 23 = .ok (.aload_n 3, 1) := by decide +kernel
theorem dX9_changed_24 : decode cX9_changed 24 = .ok (.getfield 141, 3) := by decide +kernel
theorem dX9_changed_27 : decode cX9_changed 27 = .ok (.if_icmp .ge 10, 3) := by decide +kernel
theorem dX9_changed_30 : decode cX9_changed 30 = .ok (.iload_n 2, 1) := by decide +kernel
theorem dX9_changed_31 : decode cX9_changed 31 = .ok (.invokestatic 231, 3) := by decide +kernel
theorem dX9_changed_34 : decode cX9_changed 34 = .ok (.ifCond .ne 6, 3) := by decide +kernel
theorem dX9_changed_37 : decode cX9_changed 37 = .ok (.ldc 168, 2) := by decide +kernel
theorem dX9_changed_39 : decode cX9_changed 39 = .ok (.ireturn, 1) := by decide +kernel
theorem dX9_changed_40 : decode cX9_changed 40 = .ok (.aload_n 0, 1) := by decide +kernel
theorem dX9_changed_41 : decode cX9_changed 41 = .ok (.aload_n 3, 1) := by decide +kernel
theorem dX9_changed_42 : decode cX9_changed 42 = .ok (.iload_n 1, 1) := by decide +kernel
theorem dX9_changed_43 : decode cX9_changed 43 = .ok (.invokevirtual 144, 3) := by decide +kernel
theorem dX9_changed_46 : decode cX9_changed 46 = .ok (.aload_n 0, 1) := by decide +kernel
theorem dX9_changed_47 : decode cX9_changed 47 = .ok (.aload_n 3, 1) := by decide +kernel
theorem dX9_changed_48 : decode cX9_changed 48 = .ok (.iload_n 1, 1) := by decide +kernel
theorem dX9_changed_49 : decode cX9_changed 49 = .ok (.iconst 1, 1) := by decide +kernel
theorem dX9_changed_50 : decode cX9_changed 50 = .ok (.iadd, 1) := by decide +kernel
theorem dX9_changed_51 : decode cX9_changed 51 = .ok (.invokevirtual 144, 3) := by decide +kernel
theorem dX9_changed_54 : decode cX9_changed 54 = .ok (.iconst 0, 1) := by decide +kernel
theorem dX9_changed_55 : decode cX9_changed 55 = .ok (.istore 4, 2) := by decide +kernel
theorem dX9_changed_57 : decode cX9_changed 57 = .ok (.iconst 0, 1) := by decide +kernel
theorem dX9_changed_58 : decode cX9_changed 58 = .ok (.istore 5, 2) := by decide +kernel
theorem dX9_changed_60 : decode cX9_changed 60 = .ok (.iload 5, 2) := by decide +kernel
theorem dX9_changed_62 : decode cX9_changed 62 = .ok (.iload_n 2, 1) := by decide +kernel
theorem dX9_changed_63 : decode cX9_changed 63 = .ok (.invokestatic 234, 3) := by decide +kernel
theorem dX9_changed_66 : decode cX9_changed 66 = .ok (.if_icmp .ge 74, 3) := by decide +kernel
theorem dX9_changed_69 : decode cX9_changed 69 = .ok (.iload_n 2, 1) := by decide +kernel
theorem dX9_changed_70 : decode cX9_changed 70 = .ok (.invokestatic 237, 3) := by decide +kernel
theorem dX9_changed_73 : decode cX9_changed 73 = .ok (.iload 5, 2) := by decide +kernel
theorem dX9_changed_75 : decode cX9_changed 75 = .ok (.iadd, 1) := by decide +kernel
theorem dX9_changed_76 : decode cX9_changed 76 = .ok (.istore 6, 2) := by decide +kernel
theorem dX9_changed_78 : decode cX9_changed 78 = .ok (.aload_n 3, 1) := by decide +kernel
theorem dX9_changed_79 : decode cX9_changed 79 = .ok (.getfield 169, 3) := by decide +kernel
theorem dX9_changed_82 : decode cX9_changed 82 = .ok (.aload_n 3, 1) := by decide +kernel
theorem dX9_changed_83 : decode cX9_changed 83 = .ok (.getfield 169, 3) := by decide +kernel
theorem dX9_changed_86 : decode cX9_changed 86 = .ok (.iload_n 1, 1) := by decide +kernel
theorem dX9_changed_87 : decode cX9_changed 87 = .ok (.iload 6, 2) := by decide +kernel
theorem dX9_changed_89 : decode cX9_changed 89 = .ok (.invokevirtual 173, 3) := by decide +kernel
theorem dX9_changed_92 : decode cX9_changed 92 = .ok (.invokevirtual 186, 3) := by decide +kernel
theorem dX9_changed_95 : decode cX9_changed 95 = .ok (.istore 7, 2) := by decide +kernel
theorem dX9_changed_97 : decode cX9_changed 97 = .ok (.aload_n 3, 1) := by decide +kernel
theorem dX9_changed_98 : decode cX9_changed 98 = .ok (.getfield 169, 3) := by decide +kernel
theorem dX9_changed_101 : decode cX9_changed 101 = .ok (.aload_n 3, 1) := by decide +kernel
theorem dX9_changed_102 : decode cX9_changed 102 = .ok (.getfield 169, 3) := by decide +kernel
theorem dX9_changed_105 : decode cX9_changed 105 = .ok (.iload_n 1, 1) := by decide +kernel
theorem dX9_changed_106 : decode cX9_changed 106 = .ok (.iconst 1, 1) := by decide +kernel
theorem dX9_changed_107 : decode cX9_changed 107 = .ok (.iadd, 1) := by decide +kernel
theorem dX9_changed_108 : decode cX9_changed 108 = .ok (.iload 6, 2) := by decide +kernel
theorem dX9_changed_110 : decode cX9_changed 110 = .ok (.invokevirtual 173, 3) := by decide +kernel
theorem dX9_changed_113 : decode cX9_changed 113 = .ok (.invokevirtual 186, 3) := by decide +kernel
theorem dX9_changed_116 : decode cX9_changed 116 = .ok (.istore 8, 2) := by decide +kernel
theorem dX9_changed_118 : decode cX9_changed 118 = .ok (.iload 7, 2) := by decide +kernel
theorem dX9_changed_120 : decode cX9_changed 120 = .ok (.iload 8, 2) := by decide +kernel
theorem dX9_changed_122 : decode cX9_changed 122 = .ok (.if_icmp .eq 12, 3) := by decide +kernel
theorem dX9_changed_125 : decode cX9_changed 125 = .ok (.iload 4, 2) := by decide +kernel
theorem dX9_changed_127 : decode cX9_changed 127 = .ok (.iconst 1, 1) := by decide +kernel
theorem dX9_changed_128 : decode cX9_changed 128 = .ok (.iload 5, 2) := by decide +kernel
theorem dX9_changed_130 : decode cX9_changed 130 = .ok (.ishl, 1) := by decide +kernel
theorem dX9_changed_131 : decode cX9_changed 131 = .ok (.ior, 1) := by decide +kernel
theorem dX9_changed_132 : decode cX9_changed 132 = .ok (.istore 4, 2) := by decide +kernel
theorem dX9_changed_134 : decode cX9_changed 134 = .ok (.iinc 5 1, 3) := by decide +kernel
theorem dX9_changed_137 : decode cX9_changed 137 = .ok (.goto (-77), 3) := by decide +kernel
theorem dX9_changed_140 : decode cX9_changed 140 = .ok (.iload 4, 2) := by decide +kernel
theorem dX9_changed_142 : decode cX9_changed 142 = .ok (.ireturn, 1) := by decide +kernel
theorem dX9_watched_0 : decode cX9_watched 0 = .ok (.aload_n 0, 1) := by decide +kernel
theorem dX9_watched_1 : decode cX9_watched 1 = .ok (.iconst 0, 1) := by decide +kernel
theorem dX9_watched_2 : decode cX9_watched 2 = .ok (.putfield 63, 3) := by decide +kernel
theorem dX9_watched_5 : decode cX9_watched 5 = .ok (.aload_n 0, 1) := by decide +kernel
theorem dX9_watched_6 : decode cX9_watched 6 = .ok (.aload_n 0, 1) := by decide +kernel
theorem dX9_watched_7 : decode cX9_watched 7 = .ok (.getfield 48, 3) := by decide +kernel
theorem dX9_watched_10 : decode cX9_watched 10 = .ok (.invokevirtual 161, 3) := by decide +kernel
theorem dX9_watched_13 : decode cX9_watched 13 = .ok (.astore_n 2, 1) := by decide +kernel
theorem dX9_watched_14 : decode cX9_watched 14 = .ok (.aload_n 2, 1) := by decide +kernel
theorem dX9_watched_15 : decode cX9_watched 15 = .ok (.ifnull 16, 3) := by decide +kernel
theorem dX9_watched_18 : decode cX9_watched 18 = .ok (.iload_n 1, 1) := by decide +kernel
theorem dX9_watched_19 : decode cX9_watched 19 = .ok (.iconst 1, 1) := by decide +kernel
theorem dX9_watched_20 : decode cX9_watched 20 = .ok (.if_icmp .lt 11, 3) := by decide +kernel
theorem dX9_watched_23 : decode cX9_watched 23 = .ok (.iload_n 1, 1) := by decide +kernel
theorem dX9_watched_24 : decode cX9_watched 24 = .ok (.aload_n 2, 1) := by decide +kernel
theorem dX9_watched_25 : decode cX9_watched 25 = .ok (.getfield 141, 3) := by decide +kernel
theorem dX9_watched_28 : decode cX9_watched 28 = .ok (.if_icmp .le 6, 3) := by decide +kernel
theorem dX9_watched_31 : decode cX9_watched 31 = .ok (.bipush (-2), 2) := by decide +kernel
theorem dX9_watched_33 : decode cX9_watched 33 = .ok (.ireturn, 1) := by decide +kernel
theorem dX9_watched_34 : decode cX9_watched 34 = .ok (.iconst (-1), 1) := by decide +kernel
theorem dX9_watched_35 : decode cX9_watched 35 = .ok (.istore_n 3, 1) := by decide +kernel
theorem dX9_watched_36 : decode cX9_watched 36 = .ok (.iconst 0, 1) := by decide +kernel
theorem dX9_watched_37 : decode cX9_watched 37 = .ok (.istore 4, 2) := by decide +kernel
theorem dX9_watched_39 : decode cX9_watched 39 = .ok (.iload 4, 2) := by decide +kernel
theorem dX9_watched_41 : decode cX9_watched 41 = .ok (.bipush 40, 2) := by decide +kernel
theorem dX9_watched_43 : decode cX9_watched 43 = .ok (.if_icmp .ge 33, 3) := by decide +kernel
theorem dX9_watched_46 : decode cX9_watched 46 = .ok (.aload_n 0, 1) := by decide +kernel
theorem dX9_watched_47 : decode cX9_watched 47 = .ok (.iload 4, 2) := by decide +kernel
theorem dX9_watched_49 : decode cX9_watched 49 = .ok (.invokevirtual 138, 3) := by decide +kernel
theorem dX9_watched_52 : decode cX9_watched 52 = .ok (.ifCond .eq 18, 3) := by decide +kernel
theorem dX9_watched_55 : decode cX9_watched 55 = .ok (.iload_n 3, 1) := by decide +kernel
theorem dX9_watched_56 : decode cX9_watched 56 = .ok (.aload_n 0, 1) := by decide +kernel
theorem dX9_watched_57 : decode cX9_watched 57 = .ok (.aload_n 2, 1) := by decide +kernel
theorem dX9_watched_58 : decode cX9_watched 58 = .ok (.iload_n 1, 1) := by decide +kernel
theorem dX9_watched_59 : decode cX9_watched 59 = .ok (.iconst 1, 1) := by decide +kernel
theorem dX9_watched_60 : decode cX9_watched 60 = .ok (.isub, 1) := by decide +kernel
theorem dX9_watched_61 : decode cX9_watched 61 = .ok (.iload 4, 2) := by decide +kernel
theorem dX9_watched_63 : decode cX9_watched 63 = .ok (.invokevirtual 211, 3) := by decide +kernel
theorem dX9_watched_66 : decode cX9_watched 66 = .ok (.invokestatic 240, 3) := by decide +kernel
theorem dX9_watched_69 : decode cX9_watched 69 = .ok (.istore_n 3, 1) := by decide +kernel
theorem dX9_watched_70 : decode cX9_watched 70 = .ok (.iinc 4 1, 3) := by decide +kernel
theorem dX9_watched_73 : decode cX9_watched 73 = .ok (.goto (-34), 3) := by decide +kernel
theorem dX9_watched_76 : decode cX9_watched 76 = .ok (.iload_n 3, 1) := by decide +kernel
theorem dX9_watched_77 : decode cX9_watched 77 = .ok (.ireturn, 1) := by decide +kernel
theorem dX9_rests_0 : decode cX9_rests 0 = .ok (.aload_n 0, 1) := by decide +kernel
theorem dX9_rests_1 : decode cX9_rests 1 = .ok (.aload_n 0, 1) := by decide +kernel
theorem dX9_rests_2 : decode cX9_rests 2 = .ok (.getfield 48, 3) := by decide +kernel
theorem dX9_rests_5 : decode cX9_rests 5 = .ok (.invokevirtual 161, 3) := by decide +kernel
theorem dX9_rests_8 : decode cX9_rests 8 = .ok (.astore 4, 2) := by decide +kernel
theorem dX9_rests_10 : decode cX9_rests 10 = .ok (.aload 4, 2) := by decide +kernel
theorem dX9_rests_12 : decode cX9_rests 12 = .ok (.ifnull 19, 3) := by decide +kernel
theorem dX9_rests_15 : decode cX9_rests 15 = .ok (.aload 4, 2) := by decide +kernel
theorem dX9_rests_17 : decode cX9_rests 17 = .ok (.iload_n 1, 1) := by decide +kernel
theorem dX9_rests_18 : decode cX9_rests 18 = .ok (.invokevirtual 165, 3) := by decide +kernel
theorem dX9_rests_21 : decode cX9_rests 21 = .ok (.ifCond .eq 10, 3) := by decide +kernel
theorem dX9_rests_24 : decode cX9_rests 24 = .ok (.iload_n 2, 1) := by decide +kernel
theorem dX9_rests_25 : decode cX9_rests 25 = .ok (.invokestatic 116, 3) := by decide +kernel
theorem dX9_rests_28 : decode cX9_rests 28 = .ok (.ifCond .ne 6, 3) := by decide +kernel
theorem dX9_rests_31 : decode cX9_rests 31 = .ok (.bipush (-2), 2) := by decide +kernel
theorem dX9_rests_33 : decode cX9_rests 33 = .ok (.ireturn, 1) := by decide +kernel
theorem dX9_rests_34 : decode cX9_rests 34 = .ok (.aload 4, 2) := by decide +kernel
theorem dX9_rests_36 : decode cX9_rests 36 = .ok (.getfield 169, 3) := by decide +kernel
theorem dX9_rests_39 : decode cX9_rests 39 = .ok (.aload 4, 2) := by decide +kernel
theorem dX9_rests_41 : decode cX9_rests 41 = .ok (.getfield 169, 3) := by decide +kernel
theorem dX9_rests_44 : decode cX9_rests 44 = .ok (.iload_n 1, 1) := by decide +kernel
theorem dX9_rests_45 : decode cX9_rests 45 = .ok (.iload_n 2, 1) := by decide +kernel
theorem dX9_rests_46 : decode cX9_rests 46 = .ok (.invokevirtual 173, 3) := by decide +kernel
theorem dX9_rests_49 : decode cX9_rests 49 = .ok (.aload_n 0, 1) := by decide +kernel
theorem dX9_rests_50 : decode cX9_rests 50 = .ok (.getfield 30, 3) := by decide +kernel
theorem dX9_rests_53 : decode cX9_rests 53 = .ok (.invokevirtual 245, 3) := by decide +kernel
theorem dX9_rests_56 : decode cX9_rests 56 = .ok (.aload 4, 2) := by decide +kernel
theorem dX9_rests_58 : decode cX9_rests 58 = .ok (.getfield 169, 3) := by decide +kernel
theorem dX9_rests_61 : decode cX9_rests 61 = .ok (.iload_n 3, 1) := by decide +kernel
theorem dX9_rests_62 : decode cX9_rests 62 = .ok (.aload_n 0, 1) := by decide +kernel
theorem dX9_rests_63 : decode cX9_rests 63 = .ok (.getfield 30, 3) := by decide +kernel
theorem dX9_rests_66 : decode cX9_rests 66 = .ok (.invokevirtual 249, 3) := by decide +kernel
theorem dX9_rests_69 : decode cX9_rests 69 = .ok (.ireturn, 1) := by decide +kernel
theorem dX9_hangs_0 : decode cX9_hangs 0 = .ok (.aload_n 0, 1) := by decide +kernel
theorem dX9_hangs_1 : decode cX9_hangs 1 = .ok (.aload_n 0, 1) := by decide +kernel
theorem dX9_hangs_2 : decode cX9_hangs 2 = .ok (.getfield 48, 3) := by decide +kernel
theorem dX9_hangs_5 : decode cX9_hangs 5 = .ok (.invokevirtual 161, 3) := by decide +kernel
theorem dX9_hangs_8 : decode cX9_hangs 8 = .ok (.astore 4, 2) := by decide +kernel
theorem dX9_hangs_10 : decode cX9_hangs 10 = .ok (.aload 4, 2) := by decide +kernel
theorem dX9_hangs_12 : decode cX9_hangs 12 = .ok (.ifnull 31, 3) := by decide +kernel
theorem dX9_hangs_15 : decode cX9_hangs 15 = .ok (.aload 4, 2) := by decide +kernel
theorem dX9_hangs_17 : decode cX9_hangs 17 = .ok (.getfield 106, 3) := by decide +kernel
theorem dX9_hangs_20 : decode cX9_hangs 20 = .ok (.iload_n 1, 1) := by decide +kernel
theorem dX9_hangs_21 : decode cX9_hangs 21 = .ok (.invokevirtual 253, 3) := by decide +kernel
theorem dX9_hangs_24 : decode cX9_hangs 24 = .ok (.ifCond .eq 19, 3) := by decide +kernel
theorem dX9_hangs_27 : decode cX9_hangs 27 = .ok (.aload 4, 2) := by decide +kernel
theorem dX9_hangs_29 : decode cX9_hangs 29 = .ok (.iload_n 2, 1) := by decide +kernel
theorem dX9_hangs_30 : decode cX9_hangs 30 = .ok (.invokevirtual 165, 3) := by decide +kernel
theorem dX9_hangs_33 : decode cX9_hangs 33 = .ok (.ifCond .eq 10, 3) := by decide +kernel
theorem dX9_hangs_36 : decode cX9_hangs 36 = .ok (.iload_n 3, 1) := by decide +kernel
theorem dX9_hangs_37 : decode cX9_hangs 37 = .ok (.invokestatic 231, 3) := by decide +kernel
theorem dX9_hangs_40 : decode cX9_hangs 40 = .ok (.ifCond .ne 6, 3) := by decide +kernel
theorem dX9_hangs_43 : decode cX9_hangs 43 = .ok (.ldc 168, 2) := by decide +kernel
theorem dX9_hangs_45 : decode cX9_hangs 45 = .ok (.ireturn, 1) := by decide +kernel
theorem dX9_hangs_46 : decode cX9_hangs 46 = .ok (.aload 4, 2) := by decide +kernel
theorem dX9_hangs_48 : decode cX9_hangs 48 = .ok (.getfield 169, 3) := by decide +kernel
theorem dX9_hangs_51 : decode cX9_hangs 51 = .ok (.iload_n 1, 1) := by decide +kernel
theorem dX9_hangs_52 : decode cX9_hangs 52 = .ok (.aload_n 0, 1) := by decide +kernel
theorem dX9_hangs_53 : decode cX9_hangs 53 = .ok (.getfield 30, 3) := by decide +kernel
theorem dX9_hangs_56 : decode cX9_hangs 56 = .ok (.invokevirtual 256, 3) := by decide +kernel
theorem dX9_hangs_59 : decode cX9_hangs 59 = .ok (.iconst 0, 1) := by decide +kernel
theorem dX9_hangs_60 : decode cX9_hangs 60 = .ok (.istore 5, 2) := by decide +kernel
theorem dX9_hangs_62 : decode cX9_hangs 62 = .ok (.iconst 0, 1) := by decide +kernel
theorem dX9_hangs_63 : decode cX9_hangs 63 = .ok (.istore 6, 2) := by decide +kernel
theorem dX9_hangs_65 : decode cX9_hangs 65 = .ok (.iload 6, 2) := by decide +kernel
theorem dX9_hangs_67 : decode cX9_hangs 67 = .ok (.iload_n 3, 1) := by decide +kernel
theorem dX9_hangs_68 : decode cX9_hangs 68 = .ok (.invokestatic 234, 3) := by decide +kernel
theorem dX9_hangs_71 : decode cX9_hangs 71 = .ok (.if_icmp .ge 44, 3) := by decide +kernel
theorem dX9_hangs_74 : decode cX9_hangs 74 = .ok (.aload_n 0, 1) := by decide +kernel
theorem dX9_hangs_75 : decode cX9_hangs 75 = .ok (.getfield 30, 3) := by decide +kernel
theorem dX9_hangs_78 : decode cX9_hangs 78 = .ok (.aload 4, 2) := by decide +kernel
theorem dX9_hangs_80 : decode cX9_hangs 80 = .ok (.getfield 169, 3) := by decide +kernel
theorem dX9_hangs_83 : decode cX9_hangs 83 = .ok (.iload_n 2, 1) := by decide +kernel
theorem dX9_hangs_84 : decode cX9_hangs 84 = .ok (.iload_n 3, 1) := by decide +kernel
theorem dX9_hangs_85 : decode cX9_hangs 85 = .ok (.invokestatic 237, 3) := by decide +kernel
theorem dX9_hangs_88 : decode cX9_hangs 88 = .ok (.iload 6, 2) := by decide +kernel
theorem dX9_hangs_90 : decode cX9_hangs 90 = .ok (.iadd, 1) := by decide +kernel
theorem dX9_hangs_91 : decode cX9_hangs 91 = .ok (.invokevirtual 173, 3) := by decide +kernel
theorem dX9_hangs_94 : decode cX9_hangs 94 = .ok (.invokestatic 259, 3) := by decide +kernel
theorem dX9_hangs_97 : decode cX9_hangs 97 = .ok (.ifCond .eq 12, 3) := by decide +kernel
theorem dX9_hangs_100 : decode cX9_hangs 100 = .ok (.iload 5, 2) := by decide +kernel
theorem dX9_hangs_102 : decode cX9_hangs 102 = .ok (.iconst 1, 1) := by decide +kernel
theorem dX9_hangs_103 : decode cX9_hangs 103 = .ok (.iload 6, 2) := by decide +kernel
theorem dX9_hangs_105 : decode cX9_hangs 105 = .ok (.ishl, 1) := by decide +kernel
theorem dX9_hangs_106 : decode cX9_hangs 106 = .ok (.ior, 1) := by decide +kernel
theorem dX9_hangs_107 : decode cX9_hangs 107 = .ok (.istore 5, 2) := by decide +kernel
theorem dX9_hangs_109 : decode cX9_hangs 109 = .ok (.iinc 6 1, 3) := by decide +kernel
theorem dX9_hangs_112 : decode cX9_hangs 112 = .ok (.goto (-47), 3) := by decide +kernel
theorem dX9_hangs_115 : decode cX9_hangs 115 = .ok (.iload 5, 2) := by decide +kernel
theorem dX9_hangs_117 : decode cX9_hangs 117 = .ok (.ireturn, 1) := by decide +kernel
theorem dX9_history_0 : decode cX9_history 0 = .ok (.aload_n 0, 1) := by decide +kernel
theorem dX9_history_1 : decode cX9_history 1 = .ok (.aload_n 0, 1) := by decide +kernel
theorem dX9_history_2 : decode cX9_history 2 = .ok (.getfield 48, 3) := by decide +kernel
theorem dX9_history_5 : decode cX9_history 5 = .ok (.invokevirtual 161, 3) := by decide +kernel
theorem dX9_history_8 : decode cX9_history 8 = .ok (.astore 4, 2) := by decide +kernel
theorem dX9_history_10 : decode cX9_history 10 = .ok (.aload 4, 2) := by decide +kernel
theorem dX9_history_12 : decode cX9_history 12 = .ok (.ifnull 19, 3) := by decide +kernel
theorem dX9_history_15 : decode cX9_history 15 = .ok (.iload_n 1, 1) := by decide +kernel
theorem dX9_history_16 : decode cX9_history 16 = .ok (.invokestatic 116, 3) := by decide +kernel
theorem dX9_history_19 : decode cX9_history 19 = .ok (.ifCond .eq 12, 3) := by decide +kernel
theorem dX9_history_22 : decode cX9_history 22 = .ok (.iload_n 3, 1) := by decide +kernel
theorem dX9_history_23 : decode cX9_history 23 = .ok (.ifCond .lt 8, 3) := by decide +kernel
theorem dX9_history_26 : decode cX9_history 26 = .ok (.iload_n 3, 1) := by decide +kernel
theorem dX9_history_27 : decode cX9_history 27 = .ok (.iconst 2, 1) := by decide +kernel
theorem dX9_history_28 : decode cX9_history 28 = .ok (.if_icmp .le 6, 3) := by decide +kernel
theorem dX9_history_31 : decode cX9_history 31 = .ok (.ldc 168, 2) := by decide +kernel
theorem dX9_history_33 : decode cX9_history 33 = .ok (.ireturn, 1) := by decide +kernel
theorem dX9_history_34 : decode cX9_history 34 = .ok (.iload_n 2, 1) := by decide +kernel
theorem dX9_history_35 : decode cX9_history 35 = .ok (.iconst (-1), 1) := by decide +kernel
theorem dX9_history_36 : decode cX9_history 36 = .ok (.if_icmp .ne 14, 3) := by decide +kernel
theorem dX9_history_39 : decode cX9_history 39 = .ok (.aload 4, 2) := by decide +kernel
theorem dX9_history_41 : decode cX9_history 41 = .ok (.getfield 169, 3) := by decide +kernel
theorem dX9_history_44 : decode cX9_history 44 = .ok (.iload_n 1, 1) := by decide +kernel
theorem dX9_history_45 : decode cX9_history 45 = .ok (.iconst (-1), 1) := by decide +kernel
theorem dX9_history_46 : decode cX9_history 46 = .ok (.invokevirtual 263, 3) := by decide +kernel
theorem dX9_history_49 : decode cX9_history 49 = .ok (.ireturn, 1) := by decide +kernel
theorem dX9_history_50 : decode cX9_history 50 = .ok (.iload_n 2, 1) := by decide +kernel
theorem dX9_history_51 : decode cX9_history 51 = .ok (.ifCond .ge 7, 3) := by decide +kernel
theorem dX9_history_54 : decode cX9_history 54 = .ok (.iconst (-1), 1) := by decide +kernel
theorem dX9_history_55 : decode cX9_history 55 = .ok (.goto 13, 3) := by decide +kernel
theorem dX9_history_58 : decode cX9_history 58 = .ok (.aload 4, 2) := by decide +kernel
theorem dX9_history_60 : decode cX9_history 60 = .ok (.getfield 169, 3) := by decide +kernel
theorem dX9_history_63 : decode cX9_history 63 = .ok (.iload_n 1, 1) := by decide +kernel
theorem dX9_history_64 : decode cX9_history 64 = .ok (.iload_n 2, 1) := by decide +kernel
theorem dX9_history_65 : decode cX9_history 65 = .ok (.invokevirtual 263, 3) := by decide +kernel
theorem dX9_history_68 : decode cX9_history 68 = .ok (.istore 5, 2) := by decide +kernel
theorem dX9_history_70 : decode cX9_history 70 = .ok (.iload 5, 2) := by decide +kernel
theorem dX9_history_72 : decode cX9_history 72 = .ok (.iconst (-1), 1) := by decide +kernel
theorem dX9_history_73 : decode cX9_history 73 = .ok (.if_icmp .ne 6, 3) := by decide +kernel
theorem dX9_history_76 : decode cX9_history 76 = .ok (.ldc 168, 2) := by decide +kernel
theorem dX9_history_78 : decode cX9_history 78 = .ok (.ireturn, 1) := by decide +kernel
theorem dX9_history_79 : decode cX9_history 79 = .ok (.aload 4, 2) := by decide +kernel
theorem dX9_history_81 : decode cX9_history 81 = .ok (.getfield 169, 3) := by decide +kernel
theorem dX9_history_84 : decode cX9_history 84 = .ok (.iload 5, 2) := by decide +kernel
theorem dX9_history_86 : decode cX9_history 86 = .ok (.iload_n 1, 1) := by decide +kernel
theorem dX9_history_87 : decode cX9_history 87 = .ok (.invokevirtual 173, 3) := by decide +kernel
theorem dX9_history_90 : decode cX9_history 90 = .ok (.istore 6, 2) := by decide +kernel
theorem dX9_history_92 : decode cX9_history 92 = .ok (.iload_n 3, 1) := by decide +kernel
theorem dX9_history_93 : decode cX9_history 93 = .ok (.lookupswitch 41 #[(0, 27), (1, 30)], 27) := by decide +kernel
theorem dX9_history_120 : decode cX9_history 120 = .ok (.iload 5, 2) := by decide +kernel
theorem dX9_history_122 : decode cX9_history 122 = .ok (.ireturn, 1) := by decide +kernel
theorem dX9_history_123 : decode cX9_history 123 = .ok (.aload 4, 2) := by decide +kernel
theorem dX9_history_125 : decode cX9_history 125 = .ok (.getfield 169, 3) := by decide +kernel
theorem dX9_history_128 : decode cX9_history 128 = .ok (.iload 6, 2) := by decide +kernel
theorem dX9_history_130 : decode cX9_history 130 = .ok (.invokevirtual 179, 3) := by decide +kernel
theorem dX9_history_133 : decode cX9_history 133 = .ok (.ireturn, 1) := by decide +kernel
theorem dX9_history_134 : decode cX9_history 134 = .ok (.aload 4, 2) := by decide +kernel
theorem dX9_history_136 : decode cX9_history 136 = .ok (.getfield 169, 3) := by decide +kernel
theorem dX9_history_139 : decode cX9_history 139 = .ok (.iload 6, 2) := by decide +kernel
theorem dX9_history_141 : decode cX9_history 141 = .ok (.invokevirtual 183, 3) := by decide +kernel
theorem dX9_history_144 : decode cX9_history 144 = .ok (.ireturn, 1) := by decide +kernel
theorem dX9_done_0 : decode cX9_done 0 = .ok (.aload_n 0, 1) := by decide +kernel
theorem dX9_done_1 : decode cX9_done 1 = .ok (.aload_n 0, 1) := by decide +kernel
theorem dX9_done_2 : decode cX9_done 2 = .ok (.getfield 48, 3) := by decide +kernel
theorem dX9_done_5 : decode cX9_done 5 = .ok (.invokevirtual 161, 3) := by decide +kernel
theorem dX9_done_8 : decode cX9_done 8 = .ok (.astore_n 3, 1) := by decide +kernel
theorem dX9_done_9 : decode cX9_done 9 = .ok (.aload_n 3, 1) := by decide +kernel
theorem dX9_done_10 : decode cX9_done 10 = .ok (.ifnull 21, 3) := by decide +kernel
theorem dX9_done_13 : decode cX9_done 13 = .ok (.aload_n 3, 1) := by decide +kernel
theorem dX9_done_14 : decode cX9_done 14 = .ok (.iload_n 1, 1) := by decide +kernel
theorem dX9_done_15 : decode cX9_done 15 = .ok (.invokevirtual 165, 3) := by decide +kernel
theorem dX9_done_18 : decode cX9_done 18 = .ok (.ifCond .eq 13, 3) := by decide +kernel
theorem dX9_done_21 : decode cX9_done 21 = .ok (.iload_n 2, 1) := by decide +kernel
theorem dX9_done_22 : decode cX9_done 22 = .ok (.ifCond .lt 9, 3) := by decide +kernel
theorem dX9_done_25 : decode cX9_done 25 = .ok (.iload_n 2, 1) := by decide +kernel
theorem dX9_done_26 : decode cX9_done 26 = .ok (.bipush 64, 2) := by decide +kernel
theorem dX9_done_28 : decode cX9_done 28 = .ok (.if_icmp .le 6, 3) := by decide +kernel
theorem dX9_done_31 : decode cX9_done 31 = .ok (.bipush (-2), 2) := by decide +kernel
theorem dX9_done_33 : decode cX9_done 33 = .ok (.ireturn, 1) := by decide +kernel
theorem dX9_done_34 : decode cX9_done 34 = .ok (.iconst 0, 1) := by decide +kernel
theorem dX9_done_35 : decode cX9_done 35 = .ok (.istore 4, 2) := by decide +kernel
theorem dX9_done_37 : decode cX9_done 37 = .ok (.iconst 0, 1) := by decide +kernel
theorem dX9_done_38 : decode cX9_done 38 = .ok (.istore 5, 2) := by decide +kernel
theorem dX9_done_40 : decode cX9_done 40 = .ok (.iload 5, 2) := by decide +kernel
theorem dX9_done_42 : decode cX9_done 42 = .ok (.iload_n 1, 1) := by decide +kernel
theorem dX9_done_43 : decode cX9_done 43 = .ok (.if_icmp .ge 22, 3) := by decide +kernel
theorem dX9_done_46 : decode cX9_done 46 = .ok (.aload_n 3, 1) := by decide +kernel
theorem dX9_done_47 : decode cX9_done 47 = .ok (.iload 5, 2) := by decide +kernel
theorem dX9_done_49 : decode cX9_done 49 = .ok (.invokevirtual 192, 3) := by decide +kernel
theorem dX9_done_52 : decode cX9_done 52 = .ok (.iload_n 2, 1) := by decide +kernel
theorem dX9_done_53 : decode cX9_done 53 = .ok (.if_icmp .ne 6, 3) := by decide +kernel
theorem dX9_done_56 : decode cX9_done 56 = .ok (.iinc 4 1, 3) := by decide +kernel
theorem dX9_done_59 : decode cX9_done 59 = .ok (.iinc 5 1, 3) := by decide +kernel
theorem dX9_done_62 : decode cX9_done 62 = .ok (.goto (-22), 3) := by decide +kernel
theorem dX9_done_65 : decode cX9_done 65 = .ok (.iload 4, 2) := by decide +kernel
theorem dX9_done_67 : decode cX9_done 67 = .ok (.ireturn, 1) := by decide +kernel
theorem dX9_call_0 : decode cX9_call 0 = .ok (.aload_n 0, 1) := by decide +kernel
theorem dX9_call_1 : decode cX9_call 1 = .ok (.aload_n 0, 1) := by decide +kernel
theorem dX9_call_2 : decode cX9_call 2 = .ok (.getfield 48, 3) := by decide +kernel
theorem dX9_call_5 : decode cX9_call 5 = .ok (.invokevirtual 161, 3) := by decide +kernel
theorem dX9_call_8 : decode cX9_call 8 = .ok (.astore_n 3, 1) := by decide +kernel
theorem dX9_call_9 : decode cX9_call 9 = .ok (.aload_n 3, 1) := by decide +kernel
theorem dX9_call_10 : decode cX9_call 10 = .ok (.ifnull 12, 3) := by decide +kernel
theorem dX9_call_13 : decode cX9_call 13 = .ok (.iload_n 2, 1) := by decide +kernel
theorem dX9_call_14 : decode cX9_call 14 = .ok (.ifCond .lt 8, 3) := by decide +kernel
theorem dX9_call_17 : decode cX9_call 17 = .ok (.iload_n 2, 1) := by decide +kernel
theorem dX9_call_18 : decode cX9_call 18 = .ok (.iconst 2, 1) := by decide +kernel
theorem dX9_call_19 : decode cX9_call 19 = .ok (.if_icmp .le 5, 3) := by decide +kernel
theorem dX9_call_22 : decode cX9_call 22 = .ok (.iconst (-1), 1) := by decide +kernel
theorem dX9_call_23 : decode cX9_call 23 = .ok (.ireturn, 1) := by decide +kernel
theorem dX9_call_24 : decode cX9_call 24 = .ok (.iload_n 1, 1) := by decide +kernel
theorem dX9_call_25 : decode cX9_call 25 = .ok (.iconst (-1), 1) := by decide +kernel
theorem dX9_call_26 : decode cX9_call 26 = .ok (.if_icmp .ne 13, 3) := by decide +kernel
theorem dX9_call_29 : decode cX9_call 29 = .ok (.aload_n 3, 1) := by decide +kernel
theorem dX9_call_30 : decode cX9_call 30 = .ok (.getfield 266, 3) := by decide +kernel
theorem dX9_call_33 : decode cX9_call 33 = .ok (.getfield 270, 3) := by decide +kernel
theorem dX9_call_36 : decode cX9_call 36 = .ok (.goto 12, 3) := by decide +kernel
theorem dX9_call_39 : decode cX9_call 39 = .ok (.aload_n 3, 1) := by decide +kernel
theorem dX9_call_40 : decode cX9_call 40 = .ok (.getfield 266, 3) := by decide +kernel
theorem dX9_call_43 : decode cX9_call 43 = .ok (.iload_n 1, 1) := by decide +kernel
theorem dX9_call_44 : decode cX9_call 44 = .ok (.iload_n 2, 1) := by decide +kernel
theorem dX9_call_45 : decode cX9_call 45 = .ok (.invokevirtual 274, 3) := by decide +kernel
theorem dX9_call_48 : decode cX9_call 48 = .ok (.ireturn, 1) := by decide +kernel
theorem dX9_log_0 : decode cX9_log 0 = .ok (.aload_n 0, 1) := by decide +kernel
theorem dX9_log_1 : decode cX9_log 1 = .ok (.aload_n 0, 1) := by decide +kernel
theorem dX9_log_2 : decode cX9_log 2 = .ok (.getfield 48, 3) := by decide +kernel
theorem dX9_log_5 : decode cX9_log 5 = .ok (.invokevirtual 161, 3) := by decide +kernel
theorem dX9_log_8 : decode cX9_log 8 = .ok (.astore_n 3, 1) := by decide +kernel
theorem dX9_log_9 : decode cX9_log 9 = .ok (.aload_n 3, 1) := by decide +kernel
theorem dX9_log_10 : decode cX9_log 10 = .ok (.ifnull 12, 3) := by decide +kernel
theorem dX9_log_13 : decode cX9_log 13 = .ok (.iload_n 2, 1) := by decide +kernel
theorem dX9_log_14 : decode cX9_log 14 = .ok (.ifCond .lt 8, 3) := by decide +kernel
theorem dX9_log_17 : decode cX9_log 17 = .ok (.iload_n 2, 1) := by decide +kernel
theorem dX9_log_18 : decode cX9_log 18 = .ok (.iconst 4, 1) := by decide +kernel
theorem dX9_log_19 : decode cX9_log 19 = .ok (.if_icmp .le 6, 3) := by decide +kernel
theorem dX9_log_22 : decode cX9_log 22 = .ok (.ldc 168, 2) := by decide +kernel
theorem dX9_log_24 : decode cX9_log 24 = .ok (.ireturn, 1) := by decide +kernel
theorem dX9_log_25 : decode cX9_log 25 = .ok (.iload_n 1, 1) := by decide +kernel
theorem dX9_log_26 : decode cX9_log 26 = .ok (.iconst (-1), 1) := by decide +kernel
theorem dX9_log_27 : decode cX9_log 27 = .ok (.if_icmp .ne 13, 3) := by decide +kernel
theorem dX9_log_30 : decode cX9_log 30 = .ok (.aload_n 3, 1) := by decide +kernel
theorem dX9_log_31 : decode cX9_log 31 = .ok (.getfield 106, 3) := by decide +kernel
theorem dX9_log_34 : decode cX9_log 34 = .ok (.getfield 277, 3) := by decide +kernel
theorem dX9_log_37 : decode cX9_log 37 = .ok (.goto 12, 3) := by decide +kernel
theorem dX9_log_40 : decode cX9_log 40 = .ok (.aload_n 3, 1) := by decide +kernel
theorem dX9_log_41 : decode cX9_log 41 = .ok (.getfield 106, 3) := by decide +kernel
theorem dX9_log_44 : decode cX9_log 44 = .ok (.iload_n 1, 1) := by decide +kernel
theorem dX9_log_45 : decode cX9_log 45 = .ok (.iload_n 2, 1) := by decide +kernel
theorem dX9_log_46 : decode cX9_log 46 = .ok (.invokevirtual 278, 3) := by decide +kernel
theorem dX9_log_49 : decode cX9_log 49 = .ok (.ireturn, 1) := by decide +kernel
theorem dX9_held_0 : decode cX9_held 0 = .ok (.aload_n 0, 1) := by decide +kernel
theorem dX9_held_1 : decode cX9_held 1 = .ok (.aload_n 0, 1) := by decide +kernel
theorem dX9_held_2 : decode cX9_held 2 = .ok (.getfield 48, 3) := by decide +kernel
theorem dX9_held_5 : decode cX9_held 5 = .ok (.invokevirtual 161, 3) := by decide +kernel
theorem dX9_held_8 : decode cX9_held 8 = .ok (.astore_n 3, 1) := by decide +kernel
theorem dX9_held_9 : decode cX9_held 9 = .ok (.aload_n 3, 1) := by decide +kernel
theorem dX9_held_10 : decode cX9_held 10 = .ok (.ifnull 12, 3) := by decide +kernel
theorem dX9_held_13 : decode cX9_held 13 = .ok (.iload_n 2, 1) := by decide +kernel
theorem dX9_held_14 : decode cX9_held 14 = .ok (.ifCond .lt 8, 3) := by decide +kernel
theorem dX9_held_17 : decode cX9_held 17 = .ok (.iload_n 2, 1) := by decide +kernel
theorem dX9_held_18 : decode cX9_held 18 = .ok (.iconst 1, 1) := by decide +kernel
theorem dX9_held_19 : decode cX9_held 19 = .ok (.if_icmp .le 5, 3) := by decide +kernel
theorem dX9_held_22 : decode cX9_held 22 = .ok (.iconst (-1), 1) := by decide +kernel
theorem dX9_held_23 : decode cX9_held 23 = .ok (.ireturn, 1) := by decide +kernel
theorem dX9_held_24 : decode cX9_held 24 = .ok (.iload_n 1, 1) := by decide +kernel
theorem dX9_held_25 : decode cX9_held 25 = .ok (.iconst (-1), 1) := by decide +kernel
theorem dX9_held_26 : decode cX9_held 26 = .ok (.if_icmp .ne 11, 3) := by decide +kernel
theorem dX9_held_29 : decode cX9_held 29 = .ok (.aload_n 3, 1) := by decide +kernel
theorem dX9_held_30 : decode cX9_held 30 = .ok (.getfield 219, 3) := by decide +kernel
theorem dX9_held_33 : decode cX9_held 33 = .ok (.getfield 279, 3) := by decide +kernel
theorem dX9_held_36 : decode cX9_held 36 = .ok (.ireturn, 1) := by decide +kernel
theorem dX9_held_37 : decode cX9_held 37 = .ok (.iload_n 2, 1) := by decide +kernel
theorem dX9_held_38 : decode cX9_held 38 = .ok (.ifCond .ne 14, 3) := by decide +kernel
theorem dX9_held_41 : decode cX9_held 41 = .ok (.aload_n 3, 1) := by decide +kernel
theorem dX9_held_42 : decode cX9_held 42 = .ok (.getfield 219, 3) := by decide +kernel
theorem dX9_held_45 : decode cX9_held 45 = .ok (.iload_n 1, 1) := by decide +kernel
theorem dX9_held_46 : decode cX9_held 46 = .ok (.invokevirtual 280, 3) := by decide +kernel
theorem dX9_held_49 : decode cX9_held 49 = .ok (.goto 11, 3) := by decide +kernel
theorem dX9_held_52 : decode cX9_held 52 = .ok (.aload_n 3, 1) := by decide +kernel
theorem dX9_held_53 : decode cX9_held 53 = .ok (.getfield 219, 3) := by decide +kernel
theorem dX9_held_56 : decode cX9_held 56 = .ok (.iload_n 1, 1) := by decide +kernel
theorem dX9_held_57 : decode cX9_held 57 = .ok (.invokevirtual 283, 3) := by decide +kernel
theorem dX9_held_60 : decode cX9_held 60 = .ok (.ireturn, 1) := by decide +kernel
theorem dX9_would_0 : decode cX9_would 0 = .ok (.iload_n 1, 1) := by decide +kernel
theorem dX9_would_1 : decode cX9_would 1 = .ok (.invokestatic 78, 3) := by decide +kernel
theorem dX9_would_4 : decode cX9_would 4 = .ok (.ifCond .eq 17, 3) := by decide +kernel
theorem dX9_would_7 : decode cX9_would 7 = .ok (.iload_n 2, 1) := by decide +kernel
theorem dX9_would_8 : decode cX9_would 8 = .ok (.invokestatic 81, 3) := by decide +kernel
theorem dX9_would_11 : decode cX9_would 11 = .ok (.ifCond .eq 10, 3) := by decide +kernel
theorem dX9_would_14 : decode cX9_would 14 = .ok (.iload_n 3, 1) := by decide +kernel
theorem dX9_would_15 : decode cX9_would 15 = .ok (.invokestatic 286, 3) := by decide +kernel
theorem dX9_would_18 : decode cX9_would 18 = .ok (.ifCond .ne 5, 3) := by decide +kernel
theorem dX9_would_21 : decode cX9_would 21 = .ok (.iconst (-1), 1) := by decide +kernel
theorem dX9_would_22 : decode cX9_would 22 = .ok (.ireturn, 1) := by decide +kernel
theorem dX9_would_23 : decode cX9_would 23 = .ok (.iload_n 1, 1) := by decide +kernel
theorem dX9_would_24 : decode cX9_would 24 = .ok (.iload_n 2, 1) := by decide +kernel
theorem dX9_would_25 : decode cX9_would 25 = .ok (.iload_n 3, 1) := by decide +kernel
theorem dX9_would_26 : decode cX9_would 26 = .ok (.invokestatic 289, 3) := by decide +kernel
theorem dX9_would_29 : decode cX9_would 29 = .ok (.ireturn, 1) := by decide +kernel
theorem dX9_gap_0 : decode cX9_gap 0 = .ok (.iload_n 1, 1) := by decide +kernel
theorem dX9_gap_1 : decode cX9_gap 1 = .ok (.invokestatic 78, 3) := by decide +kernel
theorem dX9_gap_4 : decode cX9_gap 4 = .ok (.ifCond .eq 17, 3) := by decide +kernel
theorem dX9_gap_7 : decode cX9_gap 7 = .ok (.iload_n 2, 1) := by decide +kernel
theorem dX9_gap_8 : decode cX9_gap 8 = .ok (.invokestatic 81, 3) := by decide +kernel
theorem dX9_gap_11 : decode cX9_gap 11 = .ok (.ifCond .eq 10, 3) := by decide +kernel
theorem dX9_gap_14 : decode cX9_gap 14 = .ok (.iload_n 3, 1) := by decide +kernel
theorem dX9_gap_15 : decode cX9_gap 15 = .ok (.invokestatic 286, 3) := by decide +kernel
theorem dX9_gap_18 : decode cX9_gap 18 = .ok (.ifCond .ne 5, 3) := by decide +kernel
theorem dX9_gap_21 : decode cX9_gap 21 = .ok (.iconst (-1), 1) := by decide +kernel
theorem dX9_gap_22 : decode cX9_gap 22 = .ok (.ireturn, 1) := by decide +kernel
theorem dX9_gap_23 : decode cX9_gap 23 = .ok (.iload_n 3, 1) := by decide +kernel
theorem dX9_gap_24 : decode cX9_gap 24 = .ok (.iload_n 1, 1) := by decide +kernel
theorem dX9_gap_25 : decode cX9_gap 25 = .ok (.idiv, 1) := by decide +kernel
theorem dX9_gap_26 : decode cX9_gap 26 = .ok (.istore 4, 2) := by decide +kernel
theorem dX9_gap_28 : decode cX9_gap 28 = .ok (.iconst 0, 1) := by decide +kernel
theorem dX9_gap_29 : decode cX9_gap 29 = .ok (.istore 5, 2) := by decide +kernel
theorem dX9_gap_31 : decode cX9_gap 31 = .ok (.iconst 0, 1) := by decide +kernel
theorem dX9_gap_32 : decode cX9_gap 32 = .ok (.istore 6, 2) := by decide +kernel
theorem dX9_gap_34 : decode cX9_gap 34 = .ok (.iconst 1, 1) := by decide +kernel
theorem dX9_gap_35 : decode cX9_gap 35 = .ok (.istore 7, 2) := by decide +kernel
theorem dX9_gap_37 : decode cX9_gap 37 = .ok (.iload 7, 2) := by decide +kernel
theorem dX9_gap_39 : decode cX9_gap 39 = .ok (.iload 4, 2) := by decide +kernel
theorem dX9_gap_41 : decode cX9_gap 41 = .ok (.if_icmp .gt 42, 3) := by decide +kernel
theorem dX9_gap_44 : decode cX9_gap 44 = .ok (.iload 7, 2) := by decide +kernel
theorem dX9_gap_46 : decode cX9_gap 46 = .ok (.iload_n 2, 1) := by decide +kernel
theorem dX9_gap_47 : decode cX9_gap 47 = .ok (.iload 4, 2) := by decide +kernel
theorem dX9_gap_49 : decode cX9_gap 49 = .ok (.invokestatic 293, 3) := by decide +kernel
theorem dX9_gap_52 : decode cX9_gap 52 = .ok (.ifCond .eq 25, 3) := by decide +kernel
theorem dX9_gap_55 : decode cX9_gap 55 = .ok (.iload 5, 2) := by decide +kernel
theorem dX9_gap_57 : decode cX9_gap 57 = .ok (.iload 7, 2) := by decide +kernel
theorem dX9_gap_59 : decode cX9_gap 59 = .ok (.iload_n 1, 1) := by decide +kernel
theorem dX9_gap_60 : decode cX9_gap 60 = .ok (.imul, 1) := by decide +kernel
theorem dX9_gap_61 : decode cX9_gap 61 = .ok (.iconst 1, 1) := by decide +kernel
theorem dX9_gap_62 : decode cX9_gap 62 = .ok (.isub, 1) := by decide +kernel
theorem dX9_gap_63 : decode cX9_gap 63 = .ok (.iload 6, 2) := by decide +kernel
theorem dX9_gap_65 : decode cX9_gap 65 = .ok (.isub, 1) := by decide +kernel
theorem dX9_gap_66 : decode cX9_gap 66 = .ok (.invokestatic 240, 3) := by decide +kernel
theorem dX9_gap_69 : decode cX9_gap 69 = .ok (.istore 5, 2) := by decide +kernel
theorem dX9_gap_71 : decode cX9_gap 71 = .ok (.iload 7, 2) := by decide +kernel
theorem dX9_gap_73 : decode cX9_gap 73 = .ok (.iload_n 1, 1) := by decide +kernel
theorem dX9_gap_74 : decode cX9_gap 74 = .ok (.imul, 1) := by decide +kernel
theorem dX9_gap_75 : decode cX9_gap 75 = .ok (.istore 6, 2) := by decide +kernel
theorem dX9_gap_77 : decode cX9_gap 77 = .ok (.iinc 7 1, 3) := by decide +kernel
theorem dX9_gap_80 : decode cX9_gap 80 = .ok (.goto (-43), 3) := by decide +kernel
theorem dX9_gap_83 : decode cX9_gap 83 = .ok (.iload 5, 2) := by decide +kernel
theorem dX9_gap_85 : decode cX9_gap 85 = .ok (.iload_n 3, 1) := by decide +kernel
theorem dX9_gap_86 : decode cX9_gap 86 = .ok (.iload 6, 2) := by decide +kernel
theorem dX9_gap_88 : decode cX9_gap 88 = .ok (.isub, 1) := by decide +kernel
theorem dX9_gap_89 : decode cX9_gap 89 = .ok (.invokestatic 240, 3) := by decide +kernel
theorem dX9_gap_92 : decode cX9_gap 92 = .ok (.ireturn, 1) := by decide +kernel
theorem dX9_sparing_0 : decode cX9_sparing 0 = .ok (.iload_n 1, 1) := by decide +kernel
theorem dX9_sparing_1 : decode cX9_sparing 1 = .ok (.invokestatic 81, 3) := by decide +kernel
theorem dX9_sparing_4 : decode cX9_sparing 4 = .ok (.ifCond .eq 10, 3) := by decide +kernel
theorem dX9_sparing_7 : decode cX9_sparing 7 = .ok (.iload_n 2, 1) := by decide +kernel
theorem dX9_sparing_8 : decode cX9_sparing 8 = .ok (.invokestatic 286, 3) := by decide +kernel
theorem dX9_sparing_11 : decode cX9_sparing 11 = .ok (.ifCond .ne 5, 3) := by decide +kernel
theorem dX9_sparing_14 : decode cX9_sparing 14 = .ok (.iconst (-1), 1) := by decide +kernel
theorem dX9_sparing_15 : decode cX9_sparing 15 = .ok (.ireturn, 1) := by decide +kernel
theorem dX9_sparing_16 : decode cX9_sparing 16 = .ok (.iconst 1, 1) := by decide +kernel
theorem dX9_sparing_17 : decode cX9_sparing 17 = .ok (.istore 4, 2) := by decide +kernel
theorem dX9_sparing_19 : decode cX9_sparing 19 = .ok (.iload 4, 2) := by decide +kernel
theorem dX9_sparing_21 : decode cX9_sparing 21 = .ok (.bipush 64, 2) := by decide +kernel
theorem dX9_sparing_23 : decode cX9_sparing 23 = .ok (.if_icmp .gt 23, 3) := by decide +kernel
theorem dX9_sparing_26 : decode cX9_sparing 26 = .ok (.iload 4, 2) := by decide +kernel
theorem dX9_sparing_28 : decode cX9_sparing 28 = .ok (.iload_n 1, 1) := by decide +kernel
theorem dX9_sparing_29 : decode cX9_sparing 29 = .ok (.iload_n 2, 1) := by decide +kernel
theorem dX9_sparing_30 : decode cX9_sparing 30 = .ok (.invokestatic 289, 3) := by decide +kernel
theorem dX9_sparing_33 : decode cX9_sparing 33 = .ok (.iload_n 3, 1) := by decide +kernel
theorem dX9_sparing_34 : decode cX9_sparing 34 = .ok (.if_icmp .gt 6, 3) := by decide +kernel
theorem dX9_sparing_37 : decode cX9_sparing 37 = .ok (.iload 4, 2) := by decide +kernel
theorem dX9_sparing_39 : decode cX9_sparing 39 = .ok (.ireturn, 1) := by decide +kernel
theorem dX9_sparing_40 : decode cX9_sparing 40 = .ok (.iinc 4 1, 3) := by decide +kernel
theorem dX9_sparing_43 : decode cX9_sparing 43 = .ok (.goto (-24), 3) := by decide +kernel
theorem dX9_sparing_46 : decode cX9_sparing 46 = .ok (.iconst (-1), 1) := by decide +kernel
theorem dX9_sparing_47 : decode cX9_sparing 47 = .ok (.ireturn, 1) := by decide +kernel
theorem dX9_align_0 : decode cX9_align 0 = .ok (.aload_n 0, 1) := by decide +kernel
theorem dX9_align_1 : decode cX9_align 1 = .ok (.iload_n 1, 1) := by decide +kernel
theorem dX9_align_2 : decode cX9_align 2 = .ok (.invokevirtual 161, 3) := by decide +kernel
theorem dX9_align_5 : decode cX9_align 5 = .ok (.astore_n 3, 1) := by decide +kernel
theorem dX9_align_6 : decode cX9_align 6 = .ok (.aload_n 0, 1) := by decide +kernel
theorem dX9_align_7 : decode cX9_align 7 = .ok (.iload_n 2, 1) := by decide +kernel
theorem dX9_align_8 : decode cX9_align 8 = .ok (.invokevirtual 161, 3) := by decide +kernel
theorem dX9_align_11 : decode cX9_align 11 = .ok (.astore 4, 2) := by decide +kernel
theorem dX9_align_13 : decode cX9_align 13 = .ok (.aload_n 3, 1) := by decide +kernel
theorem dX9_align_14 : decode cX9_align 14 = .ok (.ifnull 8, 3) := by decide +kernel
theorem dX9_align_17 : decode cX9_align 17 = .ok (.aload 4, 2) := by decide +kernel
theorem dX9_align_19 : decode cX9_align 19 = .ok (.ifnonnull 6, 3) := by decide +kernel
theorem dX9_align_22 : decode cX9_align 22 = .ok (.bipush (-2), 2) := by decide +kernel
theorem dX9_align_24 : decode cX9_align 24 = .ok (.ireturn, 1) := by decide +kernel
theorem dX9_align_25 : decode cX9_align 25 = .ok (.aload_n 0, 1) := by decide +kernel
theorem dX9_align_26 : decode cX9_align 26 = .ok (.getfield 26, 3) := by decide +kernel
theorem dX9_align_29 : decode cX9_align 29 = .ok (.aload_n 3, 1) := by decide +kernel
theorem dX9_align_30 : decode cX9_align 30 = .ok (.getfield 266, 3) := by decide +kernel
theorem dX9_align_33 : decode cX9_align 33 = .ok (.aload 4, 2) := by decide +kernel
theorem dX9_align_35 : decode cX9_align 35 = .ok (.getfield 266, 3) := by decide +kernel
theorem dX9_align_38 : decode cX9_align 38 = .ok (.invokevirtual 296, 3) := by decide +kernel
theorem dX9_align_41 : decode cX9_align 41 = .ok (.aload_n 0, 1) := by decide +kernel
theorem dX9_align_42 : decode cX9_align 42 = .ok (.getfield 26, 3) := by decide +kernel
theorem dX9_align_45 : decode cX9_align 45 = .ok (.getfield 300, 3) := by decide +kernel
theorem dX9_align_48 : decode cX9_align 48 = .ok (.ireturn, 1) := by decide +kernel
theorem dX9_pair_0 : decode cX9_pair 0 = .ok (.aload_n 0, 1) := by decide +kernel
theorem dX9_pair_1 : decode cX9_pair 1 = .ok (.iconst 0, 1) := by decide +kernel
theorem dX9_pair_2 : decode cX9_pair 2 = .ok (.putfield 63, 3) := by decide +kernel
theorem dX9_pair_5 : decode cX9_pair 5 = .ok (.aload_n 0, 1) := by decide +kernel
theorem dX9_pair_6 : decode cX9_pair 6 = .ok (.iload_n 1, 1) := by decide +kernel
theorem dX9_pair_7 : decode cX9_pair 7 = .ok (.invokevirtual 161, 3) := by decide +kernel
theorem dX9_pair_10 : decode cX9_pair 10 = .ok (.astore 5, 2) := by decide +kernel
theorem dX9_pair_12 : decode cX9_pair 12 = .ok (.aload_n 0, 1) := by decide +kernel
theorem dX9_pair_13 : decode cX9_pair 13 = .ok (.iload_n 2, 1) := by decide +kernel
theorem dX9_pair_14 : decode cX9_pair 14 = .ok (.invokevirtual 161, 3) := by decide +kernel
theorem dX9_pair_17 : decode cX9_pair 17 = .ok (.astore 6, 2) := by decide +kernel
theorem dX9_pair_19 : decode cX9_pair 19 = .ok (.aload 5, 2) := by decide +kernel
theorem dX9_pair_21 : decode cX9_pair 21 = .ok (.ifnull 19, 3) := by decide +kernel
theorem dX9_pair_24 : decode cX9_pair 24 = .ok (.aload 6, 2) := by decide +kernel
theorem dX9_pair_26 : decode cX9_pair 26 = .ok (.ifnull 14, 3) := by decide +kernel
theorem dX9_pair_29 : decode cX9_pair 29 = .ok (.iload 4, 2) := by decide +kernel
theorem dX9_pair_31 : decode cX9_pair 31 = .ok (.ifCond .lt 9, 3) := by decide +kernel
theorem dX9_pair_34 : decode cX9_pair 34 = .ok (.iload 4, 2) := by decide +kernel
theorem dX9_pair_36 : decode cX9_pair 36 = .ok (.iconst 3, 1) := by decide +kernel
theorem dX9_pair_37 : decode cX9_pair 37 = .ok (.if_icmp .le 6, 3) := by decide +kernel
theorem dX9_pair_40 : decode cX9_pair 40 = .ok (.ldc 168, 2) := by decide +kernel
theorem dX9_pair_42 : decode cX9_pair 42 = .ok (.ireturn, 1) := by decide +kernel
theorem dX9_pair_43 : decode cX9_pair 43 = .ok (.aload_n 0, 1) := by decide +kernel
theorem dX9_pair_44 : decode cX9_pair 44 = .ok (.getfield 26, 3) := by decide +kernel
theorem dX9_pair_47 : decode cX9_pair 47 = .ok (.aload 5, 2) := by decide +kernel
theorem dX9_pair_49 : decode cX9_pair 49 = .ok (.getfield 266, 3) := by decide +kernel
theorem dX9_pair_52 : decode cX9_pair 52 = .ok (.aload 6, 2) := by decide +kernel
theorem dX9_pair_54 : decode cX9_pair 54 = .ok (.getfield 266, 3) := by decide +kernel
theorem dX9_pair_57 : decode cX9_pair 57 = .ok (.invokevirtual 296, 3) := by decide +kernel
theorem dX9_pair_60 : decode cX9_pair 60 = .ok (.aload_n 0, 1) := by decide +kernel
theorem dX9_pair_61 : decode cX9_pair 61 = .ok (.getfield 26, 3) := by decide +kernel
theorem dX9_pair_64 : decode cX9_pair 64 = .ok (.iload_n 3, 1) := by decide +kernel
theorem dX9_pair_65 : decode cX9_pair 65 = .ok (.invokevirtual 303, 3) := by decide +kernel
theorem dX9_pair_68 : decode cX9_pair 68 = .ok (.ifCond .ne 6, 3) := by decide +kernel
theorem dX9_pair_71 : decode cX9_pair 71 = .ok (.ldc 168, 2) := by decide +kernel
theorem dX9_pair_73 : decode cX9_pair 73 = .ok (.ireturn, 1) := by decide +kernel
theorem dX9_pair_74 : decode cX9_pair 74 = .ok (.iload 4, 2) := by decide +kernel
theorem dX9_pair_76 : decode cX9_pair 76 = .ok (.ifCond .ne 12, 3) := by decide +kernel
theorem dX9_pair_79 : decode cX9_pair 79 = .ok (.aload_n 0, 1) := by decide +kernel
theorem dX9_pair_80 : decode cX9_pair 80 = .ok (.getfield 26, 3) := by decide +kernel
theorem dX9_pair_83 : decode cX9_pair 83 = .ok (.iload_n 3, 1) := by decide +kernel
theorem dX9_pair_84 : decode cX9_pair 84 = .ok (.invokevirtual 304, 3) := by decide +kernel
theorem dX9_pair_87 : decode cX9_pair 87 = .ok (.ireturn, 1) := by decide +kernel
theorem dX9_pair_88 : decode cX9_pair 88 = .ok (.iload 4, 2) := by decide +kernel
theorem dX9_pair_90 : decode cX9_pair 90 = .ok (.iconst 1, 1) := by decide +kernel
theorem dX9_pair_91 : decode cX9_pair 91 = .ok (.if_icmp .ne 12, 3) := by decide +kernel
theorem dX9_pair_94 : decode cX9_pair 94 = .ok (.aload_n 0, 1) := by decide +kernel
theorem dX9_pair_95 : decode cX9_pair 95 = .ok (.getfield 26, 3) := by decide +kernel
theorem dX9_pair_98 : decode cX9_pair 98 = .ok (.iload_n 3, 1) := by decide +kernel
theorem dX9_pair_99 : decode cX9_pair 99 = .ok (.invokevirtual 307, 3) := by decide +kernel
theorem dX9_pair_102 : decode cX9_pair 102 = .ok (.ireturn, 1) := by decide +kernel
theorem dX9_pair_103 : decode cX9_pair 103 = .ok (.aload 5, 2) := by decide +kernel
theorem dX9_pair_105 : decode cX9_pair 105 = .ok (.getfield 266, 3) := by decide +kernel
theorem dX9_pair_108 : decode cX9_pair 108 = .ok (.aload_n 0, 1) := by decide +kernel
theorem dX9_pair_109 : decode cX9_pair 109 = .ok (.getfield 26, 3) := by decide +kernel
theorem dX9_pair_112 : decode cX9_pair 112 = .ok (.iload_n 3, 1) := by decide +kernel
theorem dX9_pair_113 : decode cX9_pair 113 = .ok (.invokevirtual 304, 3) := by decide +kernel
theorem dX9_pair_116 : decode cX9_pair 116 = .ok (.iconst 0, 1) := by decide +kernel
theorem dX9_pair_117 : decode cX9_pair 117 = .ok (.invokevirtual 274, 3) := by decide +kernel
theorem dX9_pair_120 : decode cX9_pair 120 = .ok (.istore 7, 2) := by decide +kernel
theorem dX9_pair_122 : decode cX9_pair 122 = .ok (.aload 6, 2) := by decide +kernel
theorem dX9_pair_124 : decode cX9_pair 124 = .ok (.getfield 266, 3) := by decide +kernel
theorem dX9_pair_127 : decode cX9_pair 127 = .ok (.aload_n 0, 1) := by decide +kernel
theorem dX9_pair_128 : decode cX9_pair 128 = .ok (.getfield 26, 3) := by decide +kernel
theorem dX9_pair_131 : decode cX9_pair 131 = .ok (.iload_n 3, 1) := by decide +kernel
theorem dX9_pair_132 : decode cX9_pair 132 = .ok (.invokevirtual 307, 3) := by decide +kernel
theorem dX9_pair_135 : decode cX9_pair 135 = .ok (.iconst 0, 1) := by decide +kernel
theorem dX9_pair_136 : decode cX9_pair 136 = .ok (.invokevirtual 274, 3) := by decide +kernel
theorem dX9_pair_139 : decode cX9_pair 139 = .ok (.istore 8, 2) := by decide +kernel
theorem dX9_pair_141 : decode cX9_pair 141 = .ok (.aload_n 0, 1) := by decide +kernel
theorem dX9_pair_142 : decode cX9_pair 142 = .ok (.aload 5, 2) := by decide +kernel
theorem dX9_pair_144 : decode cX9_pair 144 = .ok (.iload 7, 2) := by decide +kernel
theorem dX9_pair_146 : decode cX9_pair 146 = .ok (.invokevirtual 144, 3) := by decide +kernel
theorem dX9_pair_149 : decode cX9_pair 149 = .ok (.aload_n 0, 1) := by decide +kernel
theorem dX9_pair_150 : decode cX9_pair 150 = .ok (.aload 6, 2) := by decide +kernel
theorem dX9_pair_152 : decode cX9_pair 152 = .ok (.iload 8, 2) := by decide +kernel
theorem dX9_pair_154 : decode cX9_pair 154 = .ok (.invokevirtual 144, 3) := by decide +kernel
theorem dX9_pair_157 : decode cX9_pair 157 = .ok (.aload 5, 2) := by decide +kernel
theorem dX9_pair_159 : decode cX9_pair 159 = .ok (.getfield 169, 3) := by decide +kernel
theorem dX9_pair_162 : decode cX9_pair 162 = .ok (.iload 7, 2) := by decide +kernel
theorem dX9_pair_164 : decode cX9_pair 164 = .ok (.aload 6, 2) := by decide +kernel
theorem dX9_pair_166 : decode cX9_pair 166 = .ok (.getfield 169, 3) := by decide +kernel
theorem dX9_pair_169 : decode cX9_pair 169 = .ok (.iload 8, 2) := by decide +kernel
theorem dX9_pair_171 : decode cX9_pair 171 = .ok (.iload 4, 2) := by decide +kernel
theorem dX9_pair_173 : decode cX9_pair 173 = .ok (.iconst 2, 1) := by decide +kernel
theorem dX9_pair_174 : decode cX9_pair 174 = .ok (.isub, 1) := by decide +kernel
theorem dX9_pair_175 : decode cX9_pair 175 = .ok (.invokestatic 310, 3) := by decide +kernel
theorem dX9_pair_178 : decode cX9_pair 178 = .ok (.ireturn, 1) := by decide +kernel
theorem dX9_parts_0 : decode cX9_parts 0 = .ok (.aload_n 0, 1) := by decide +kernel
theorem dX9_parts_1 : decode cX9_parts 1 = .ok (.iload_n 1, 1) := by decide +kernel
theorem dX9_parts_2 : decode cX9_parts 2 = .ok (.invokevirtual 161, 3) := by decide +kernel
theorem dX9_parts_5 : decode cX9_parts 5 = .ok (.astore_n 3, 1) := by decide +kernel
theorem dX9_parts_6 : decode cX9_parts 6 = .ok (.aload_n 0, 1) := by decide +kernel
theorem dX9_parts_7 : decode cX9_parts 7 = .ok (.iload_n 2, 1) := by decide +kernel
theorem dX9_parts_8 : decode cX9_parts 8 = .ok (.invokevirtual 161, 3) := by decide +kernel
theorem dX9_parts_11 : decode cX9_parts 11 = .ok (.astore 4, 2) := by decide +kernel
theorem dX9_parts_13 : decode cX9_parts 13 = .ok (.aload_n 3, 1) := by decide +kernel
theorem dX9_parts_14 : decode cX9_parts 14 = .ok (.ifnull 8, 3) := by decide +kernel
theorem dX9_parts_17 : decode cX9_parts 17 = .ok (.aload 4, 2) := by decide +kernel
theorem dX9_parts_19 : decode cX9_parts 19 = .ok (.ifnonnull 6, 3) := by decide +kernel
theorem dX9_parts_22 : decode cX9_parts 22 = .ok (.bipush (-2), 2) := by decide +kernel
theorem dX9_parts_24 : decode cX9_parts 24 = .ok (.ireturn, 1) := by decide +kernel
theorem dX9_parts_25 : decode cX9_parts 25 = .ok (.aload_n 0, 1) := by decide +kernel
theorem dX9_parts_26 : decode cX9_parts 26 = .ok (.getfield 26, 3) := by decide +kernel
theorem dX9_parts_29 : decode cX9_parts 29 = .ok (.aload_n 3, 1) := by decide +kernel
theorem dX9_parts_30 : decode cX9_parts 30 = .ok (.aload 4, 2) := by decide +kernel
theorem dX9_parts_32 : decode cX9_parts 32 = .ok (.invokevirtual 314, 3) := by decide +kernel
theorem dX9_parts_35 : decode cX9_parts 35 = .ok (.ireturn, 1) := by decide +kernel
theorem dX9_look_0 : decode cX9_look 0 = .ok (.iload_n 1, 1) := by decide +kernel
theorem dX9_look_1 : decode cX9_look 1 = .ok (.ifCond .lt 23, 3) := by decide +kernel
theorem dX9_look_4 : decode cX9_look 4 = .ok (.iload_n 1, 1) := by decide +kernel
theorem dX9_look_5 : decode cX9_look 5 = .ok (.bipush 6, 2) := by decide +kernel
theorem dX9_look_7 : decode cX9_look 7 = .ok (.if_icmp .gt 17, 3) := by decide +kernel
theorem dX9_look_10 : decode cX9_look 10 = .ok (.aload_n 0, 1) := by decide +kernel
theorem dX9_look_11 : decode cX9_look 11 = .ok (.aload_n 0, 1) := by decide +kernel
theorem dX9_look_12 : decode cX9_look 12 = .ok (.aload_n 0, 1) := by decide +kernel
theorem dX9_look_13 : decode cX9_look 13 = .ok (.getfield 48, 3) := by decide +kernel
theorem dX9_look_16 : decode cX9_look 16 = .ok (.invokevirtual 161, 3) := by decide +kernel
theorem dX9_look_19 : decode cX9_look 19 = .ok (.iload_n 1, 1) := by decide +kernel
theorem dX9_look_20 : decode cX9_look 20 = .ok (.invokevirtual 318, 3) := by decide +kernel
theorem dX9_look_23 : decode cX9_look 23 = .ok (.ireturn, 1) := by decide +kernel
theorem dX9_look_24 : decode cX9_look 24 = .ok (.iload_n 1, 1) := by decide +kernel
theorem dX9_look_25 : decode cX9_look 25 = .ok (.tableswitch 75 7 12 #[39, 44, 52, 60, 65, 70], 39) := by decide +kernel
theorem dX9_look_64 : decode cX9_look 64 = .ok (.aload_n 0, 1) := by decide +kernel
theorem dX9_look_65 : decode cX9_look 65 = .ok (.getfield 40, 3) := by decide +kernel
theorem dX9_look_68 : decode cX9_look 68 = .ok (.ireturn, 1) := by decide +kernel
theorem dX9_look_69 : decode cX9_look 69 = .ok (.aload_n 0, 1) := by decide +kernel
theorem dX9_look_70 : decode cX9_look 70 = .ok (.getfield 19, 3) := by decide +kernel
theorem dX9_look_73 : decode cX9_look 73 = .ok (.getfield 96, 3) := by decide +kernel
theorem dX9_look_76 : decode cX9_look 76 = .ok (.ireturn, 1) := by decide +kernel
theorem dX9_look_77 : decode cX9_look 77 = .ok (.aload_n 0, 1) := by decide +kernel
theorem dX9_look_78 : decode cX9_look 78 = .ok (.getfield 19, 3) := by decide +kernel
theorem dX9_look_81 : decode cX9_look 81 = .ok (.getfield 103, 3) := by decide +kernel
theorem dX9_look_84 : decode cX9_look 84 = .ok (.ireturn, 1) := by decide +kernel
theorem dX9_look_85 : decode cX9_look 85 = .ok (.aload_n 0, 1) := by decide +kernel
theorem dX9_look_86 : decode cX9_look 86 = .ok (.getfield 63, 3) := by decide +kernel
theorem dX9_look_89 : decode cX9_look 89 = .ok (.ireturn, 1) := by decide +kernel
theorem dX9_look_90 : decode cX9_look 90 = .ok (.aload_n 0, 1) := by decide +kernel
theorem dX9_look_91 : decode cX9_look 91 = .ok (.getfield 57, 3) := by decide +kernel
theorem dX9_look_94 : decode cX9_look 94 = .ok (.ireturn, 1) := by decide +kernel
theorem dX9_look_95 : decode cX9_look 95 = .ok (.aload_n 0, 1) := by decide +kernel
theorem dX9_look_96 : decode cX9_look 96 = .ok (.getfield 60, 3) := by decide +kernel
theorem dX9_look_99 : decode cX9_look 99 = .ok (.ireturn, 1) := by decide +kernel
theorem dX9_look_100 : decode cX9_look 100 = .ok (.ldc 168, 2) := by decide +kernel
theorem dX9_look_102 : decode cX9_look 102 = .ok (.ireturn, 1) := by decide +kernel
theorem dX9_lookAtRun_0 : decode cX9_lookAtRun 0 = .ok (.aload_n 1, 1) := by decide +kernel
theorem dX9_lookAtRun_1 : decode cX9_lookAtRun 1 = .ok (.ifnonnull 5, 3) := by decide +kernel
theorem dX9_lookAtRun_4 : decode cX9_lookAtRun 4 = .ok (.iconst 0, 1) := by decide +kernel
theorem dX9_lookAtRun_5 : decode cX9_lookAtRun 5 = .ok (.ireturn, 1) := by decide +kernel
theorem dX9_lookAtRun_6 : decode cX9_lookAtRun 6 = .ok (.iload_n 2, 1) := by decide +kernel
theorem dX9_lookAtRun_7 : decode cX9_lookAtRun 7 = .ok (.tableswitch 98 0 5 #[37, 42, 69, 74, 82, 90], 37) := by decide +kernel
theorem dX9_lookAtRun_44 : decode cX9_lookAtRun 44 = .ok (.aload_n 1, 1) := by decide +kernel
theorem dX9_lookAtRun_45 : decode cX9_lookAtRun 45 = .ok (.getfield 141, 3) := by decide +kernel
theorem dX9_lookAtRun_48 : decode cX9_lookAtRun 48 = .ok (.ireturn, 1) := by decide +kernel
theorem dX9_lookAtRun_49 : decode cX9_lookAtRun 49 = .ok (.aload_n 0, 1) := by decide +kernel
theorem dX9_lookAtRun_50 : decode cX9_lookAtRun 50 = .ok (.aload_n 0, 1) := by decide +kernel
theorem dX9_lookAtRun_51 : decode cX9_lookAtRun 51 = .ok (.getfield 48, 3) := by decide +kernel
theorem dX9_lookAtRun_54 : decode cX9_lookAtRun 54 = .ok (.invokevirtual 158, 3) := by decide +kernel
theorem dX9_lookAtRun_57 : decode cX9_lookAtRun 57 = .ok (.ifCond .eq 10, 3) := by decide +kernel
theorem dX9_lookAtRun_60 : decode cX9_lookAtRun 60 = .ok (.aload_n 1, 1) := by decide +kernel
theorem dX9_lookAtRun_61 : decode cX9_lookAtRun 61 = .ok (.getfield 322, 3) := by decide +kernel
theorem dX9_lookAtRun_64 : decode cX9_lookAtRun 64 = .ok (.goto 11, 3) := by decide +kernel
theorem dX9_lookAtRun_67 : decode cX9_lookAtRun 67 = .ok (.aload_n 1, 1) := by decide +kernel
theorem dX9_lookAtRun_68 : decode cX9_lookAtRun 68 = .ok (.aload_n 0, 1) := by decide +kernel
theorem dX9_lookAtRun_69 : decode cX9_lookAtRun 69 = .ok (.getfield 19, 3) := by decide +kernel
theorem dX9_lookAtRun_72 : decode cX9_lookAtRun 72 = .ok (.invokevirtual 152, 3) := by decide +kernel
theorem dX9_lookAtRun_75 : decode cX9_lookAtRun 75 = .ok (.ireturn, 1) := by decide +kernel
theorem dX9_lookAtRun_76 : decode cX9_lookAtRun 76 = .ok (.aload_n 1, 1) := by decide +kernel
theorem dX9_lookAtRun_77 : decode cX9_lookAtRun 77 = .ok (.getfield 325, 3) := by decide +kernel
theorem dX9_lookAtRun_80 : decode cX9_lookAtRun 80 = .ok (.ireturn, 1) := by decide +kernel
theorem dX9_lookAtRun_81 : decode cX9_lookAtRun 81 = .ok (.aload_n 1, 1) := by decide +kernel
theorem dX9_lookAtRun_82 : decode cX9_lookAtRun 82 = .ok (.getfield 219, 3) := by decide +kernel
theorem dX9_lookAtRun_85 : decode cX9_lookAtRun 85 = .ok (.getfield 328, 3) := by decide +kernel
theorem dX9_lookAtRun_88 : decode cX9_lookAtRun 88 = .ok (.ireturn, 1) := by decide +kernel
theorem dX9_lookAtRun_89 : decode cX9_lookAtRun 89 = .ok (.aload_n 1, 1) := by decide +kernel
theorem dX9_lookAtRun_90 : decode cX9_lookAtRun 90 = .ok (.getfield 219, 3) := by decide +kernel
theorem dX9_lookAtRun_93 : decode cX9_lookAtRun 93 = .ok (.getfield 331, 3) := by decide +kernel
theorem dX9_lookAtRun_96 : decode cX9_lookAtRun 96 = .ok (.ireturn, 1) := by decide +kernel
theorem dX9_lookAtRun_97 : decode cX9_lookAtRun 97 = .ok (.aload_n 1, 1) := by decide +kernel
theorem dX9_lookAtRun_98 : decode cX9_lookAtRun 98 = .ok (.getfield 219, 3) := by decide +kernel
theorem dX9_lookAtRun_101 : decode cX9_lookAtRun 101 = .ok (.getfield 334, 3) := by decide +kernel
theorem dX9_lookAtRun_104 : decode cX9_lookAtRun 104 = .ok (.ireturn, 1) := by decide +kernel
theorem dX9_lookAtRun_105 : decode cX9_lookAtRun 105 = .ok (.aload_n 1, 1) := by decide +kernel
theorem dX9_lookAtRun_106 : decode cX9_lookAtRun 106 = .ok (.getfield 337, 3) := by decide +kernel
theorem dX9_lookAtRun_109 : decode cX9_lookAtRun 109 = .ok (.ireturn, 1) := by decide +kernel
theorem dX9_isKept_0 : decode cX9_isKept 0 = .ok (.iload_n 1, 1) := by decide +kernel
theorem dX9_isKept_1 : decode cX9_isKept 1 = .ok (.ifCond .lt 20, 3) := by decide +kernel
theorem dX9_isKept_4 : decode cX9_isKept 4 = .ok (.iload_n 1, 1) := by decide +kernel
theorem dX9_isKept_5 : decode cX9_isKept 5 = .ok (.aload_n 0, 1) := by decide +kernel
theorem dX9_isKept_6 : decode cX9_isKept 6 = .ok (.getfield 40, 3) := by decide +kernel
theorem dX9_isKept_9 : decode cX9_isKept 9 = .ok (.if_icmp .ge 12, 3) := by decide +kernel
theorem dX9_isKept_12 : decode cX9_isKept 12 = .ok (.iload_n 1, 1) := by decide +kernel
theorem dX9_isKept_13 : decode cX9_isKept 13 = .ok (.iconst 4, 1) := by decide +kernel
theorem dX9_isKept_14 : decode cX9_isKept 14 = .ok (.if_icmp .ge 7, 3) := by decide +kernel
theorem dX9_isKept_17 : decode cX9_isKept 17 = .ok (.iconst 1, 1) := by decide +kernel
theorem dX9_isKept_18 : decode cX9_isKept 18 = .ok (.goto 4, 3) := by decide +kernel
theorem dX9_isKept_21 : decode cX9_isKept 21 = .ok (.iconst 0, 1) := by decide +kernel
theorem dX9_isKept_22 : decode cX9_isKept 22 = .ok (.ireturn, 1) := by decide +kernel
theorem dX9_numbered_0 : decode cX9_numbered 0 = .ok (.iload_n 1, 1) := by decide +kernel
theorem dX9_numbered_1 : decode cX9_numbered 1 = .ok (.iconst (-1), 1) := by decide +kernel
theorem dX9_numbered_2 : decode cX9_numbered 2 = .ok (.if_icmp .ne 8, 3) := by decide +kernel
theorem dX9_numbered_5 : decode cX9_numbered 5 = .ok (.aload_n 0, 1) := by decide +kernel
theorem dX9_numbered_6 : decode cX9_numbered 6 = .ok (.getfield 44, 3) := by decide +kernel
theorem dX9_numbered_9 : decode cX9_numbered 9 = .ok (.areturn, 1) := by decide +kernel
theorem dX9_numbered_10 : decode cX9_numbered 10 = .ok (.aload_n 0, 1) := by decide +kernel
theorem dX9_numbered_11 : decode cX9_numbered 11 = .ok (.iload_n 1, 1) := by decide +kernel
theorem dX9_numbered_12 : decode cX9_numbered 12 = .ok (.invokevirtual 158, 3) := by decide +kernel
theorem dX9_numbered_15 : decode cX9_numbered 15 = .ok (.ifCond .eq 12, 3) := by decide +kernel
theorem dX9_numbered_18 : decode cX9_numbered 18 = .ok (.aload_n 0, 1) := by decide +kernel
theorem dX9_numbered_19 : decode cX9_numbered 19 = .ok (.getfield 36, 3) := by decide +kernel
theorem dX9_numbered_22 : decode cX9_numbered 22 = .ok (.iload_n 1, 1) := by decide +kernel
theorem dX9_numbered_23 : decode cX9_numbered 23 = .ok (.aaload, 1) := by decide +kernel
theorem dX9_numbered_24 : decode cX9_numbered 24 = .ok (.goto 4, 3) := by decide +kernel
theorem dX9_numbered_27 : decode cX9_numbered 27 = .ok (.aconst_null, 1) := by decide +kernel
theorem dX9_numbered_28 : decode cX9_numbered 28 = .ok (.areturn, 1) := by decide +kernel
theorem dX9_isWatched_0 : decode cX9_isWatched 0 = .ok (.iload_n 1, 1) := by decide +kernel
theorem dX9_isWatched_1 : decode cX9_isWatched 1 = .ok (.invokestatic 116, 3) := by decide +kernel
theorem dX9_isWatched_4 : decode cX9_isWatched 4 = .ok (.ifCond .ne 5, 3) := by decide +kernel
theorem dX9_isWatched_7 : decode cX9_isWatched 7 = .ok (.iconst 0, 1) := by decide +kernel
theorem dX9_isWatched_8 : decode cX9_isWatched 8 = .ok (.ireturn, 1) := by decide +kernel
theorem dX9_isWatched_9 : decode cX9_isWatched 9 = .ok (.iload_n 1, 1) := by decide +kernel
theorem dX9_isWatched_10 : decode cX9_isWatched 10 = .ok (.bipush 8, 2) := by decide +kernel
theorem dX9_isWatched_12 : decode cX9_isWatched 12 = .ok (.if_icmp .ge 21, 3) := by decide +kernel
theorem dX9_isWatched_15 : decode cX9_isWatched 15 = .ok (.aload_n 0, 1) := by decide +kernel
theorem dX9_isWatched_16 : decode cX9_isWatched 16 = .ok (.getfield 57, 3) := by decide +kernel
theorem dX9_isWatched_19 : decode cX9_isWatched 19 = .ok (.iload_n 1, 1) := by decide +kernel
theorem dX9_isWatched_20 : decode cX9_isWatched 20 = .ok (.ishr, 1) := by decide +kernel
theorem dX9_isWatched_21 : decode cX9_isWatched 21 = .ok (.iconst 1, 1) := by decide +kernel
theorem dX9_isWatched_22 : decode cX9_isWatched 22 = .ok (.iand, 1) := by decide +kernel
theorem dX9_isWatched_23 : decode cX9_isWatched 23 = .ok (.iconst 1, 1) := by decide +kernel
theorem dX9_isWatched_24 : decode cX9_isWatched 24 = .ok (.if_icmp .ne 7, 3) := by decide +kernel
theorem dX9_isWatched_27 : decode cX9_isWatched 27 = .ok (.iconst 1, 1) := by decide +kernel
theorem dX9_isWatched_28 : decode cX9_isWatched 28 = .ok (.goto 4, 3) := by decide +kernel
theorem dX9_isWatched_31 : decode cX9_isWatched 31 = .ok (.iconst 0, 1) := by decide +kernel
theorem dX9_isWatched_32 : decode cX9_isWatched 32 = .ok (.ireturn, 1) := by decide +kernel
theorem dX9_isWatched_33 : decode cX9_isWatched 33 = .ok (.aload_n 0, 1) := by decide +kernel
theorem dX9_isWatched_34 : decode cX9_isWatched 34 = .ok (.getfield 60, 3) := by decide +kernel
theorem dX9_isWatched_37 : decode cX9_isWatched 37 = .ok (.iload_n 1, 1) := by decide +kernel
theorem dX9_isWatched_38 : decode cX9_isWatched 38 = .ok (.bipush 8, 2) := by decide +kernel
theorem dX9_isWatched_40 : decode cX9_isWatched 40 = .ok (.isub, 1) := by decide +kernel
theorem dX9_isWatched_41 : decode cX9_isWatched 41 = .ok (.ishr, 1) := by decide +kernel
theorem dX9_isWatched_42 : decode cX9_isWatched 42 = .ok (.iconst 1, 1) := by decide +kernel
theorem dX9_isWatched_43 : decode cX9_isWatched 43 = .ok (.iand, 1) := by decide +kernel
theorem dX9_isWatched_44 : decode cX9_isWatched 44 = .ok (.iconst 1, 1) := by decide +kernel
theorem dX9_isWatched_45 : decode cX9_isWatched 45 = .ok (.if_icmp .ne 7, 3) := by decide +kernel
theorem dX9_isWatched_48 : decode cX9_isWatched 48 = .ok (.iconst 1, 1) := by decide +kernel
theorem dX9_isWatched_49 : decode cX9_isWatched 49 = .ok (.goto 4, 3) := by decide +kernel
theorem dX9_isWatched_52 : decode cX9_isWatched 52 = .ok (.iconst 0, 1) := by decide +kernel
theorem dX9_isWatched_53 : decode cX9_isWatched 53 = .ok (.ireturn, 1) := by decide +kernel
theorem dX9_replay_0 : decode cX9_replay 0 = .ok (.aload_n 0, 1) := by decide +kernel
theorem dX9_replay_1 : decode cX9_replay 1 = .ok (.aload_n 1, 1) := by decide +kernel
theorem dX9_replay_2 : decode cX9_replay 2 = .ok (.iload_n 2, 1) := by decide +kernel
theorem dX9_replay_3 : decode cX9_replay 3 = .ok (.aload_n 1, 1) := by decide +kernel
theorem dX9_replay_4 : decode cX9_replay 4 = .ok (.getfield 141, 3) := by decide +kernel
theorem dX9_replay_7 : decode cX9_replay 7 = .ok (.if_icmp .ne 7, 3) := by decide +kernel
theorem dX9_replay_10 : decode cX9_replay 10 = .ok (.iconst 0, 1) := by decide +kernel
theorem dX9_replay_11 : decode cX9_replay 11 = .ok (.goto 13, 3) := by decide +kernel
theorem dX9_replay_14 : decode cX9_replay 14 = .ok (.iload_n 2, 1) := by decide +kernel
theorem dX9_replay_15 : decode cX9_replay 15 = .ok (.aload_n 1, 1) := by decide +kernel
theorem dX9_replay_16 : decode cX9_replay 16 = .ok (.getfield 219, 3) := by decide +kernel
theorem dX9_replay_19 : decode cX9_replay 19 = .ok (.iload_n 2, 1) := by decide +kernel
theorem dX9_replay_20 : decode cX9_replay 20 = .ok (.invokevirtual 340, 3) := by decide +kernel
theorem dX9_replay_23 : decode cX9_replay 23 = .ok (.isub, 1) := by decide +kernel
theorem dX9_replay_24 : decode cX9_replay 24 = .ok (.invokevirtual 228, 3) := by decide +kernel
theorem dX9_replay_27 : decode cX9_replay 27 = .ok (.return_, 1) := by decide +kernel
theorem dX9_count_0 : decode cX9_count 0 = .ok (.aload_n 1, 1) := by decide +kernel
theorem dX9_count_1 : decode cX9_count 1 = .ok (.dup, 1) := by decide +kernel
theorem dX9_count_2 : decode cX9_count 2 = .ok (.getfield 325, 3) := by decide +kernel
theorem dX9_count_5 : decode cX9_count 5 = .ok (.iload_n 2, 1) := by decide +kernel
theorem dX9_count_6 : decode cX9_count 6 = .ok (.iadd, 1) := by decide +kernel
theorem dX9_count_7 : decode cX9_count 7 = .ok (.putfield 325, 3) := by decide +kernel
theorem dX9_count_10 : decode cX9_count 10 = .ok (.aload_n 0, 1) := by decide +kernel
theorem dX9_count_11 : decode cX9_count 11 = .ok (.dup, 1) := by decide +kernel
theorem dX9_count_12 : decode cX9_count 12 = .ok (.getfield 63, 3) := by decide +kernel
theorem dX9_count_15 : decode cX9_count 15 = .ok (.iload_n 2, 1) := by decide +kernel
theorem dX9_count_16 : decode cX9_count 16 = .ok (.iadd, 1) := by decide +kernel
theorem dX9_count_17 : decode cX9_count 17 = .ok (.putfield 63, 3) := by decide +kernel
theorem dX9_count_20 : decode cX9_count 20 = .ok (.return_, 1) := by decide +kernel
theorem dX9_lastChange_0 : decode cX9_lastChange 0 = .ok (.aload_n 0, 1) := by decide +kernel
theorem dX9_lastChange_1 : decode cX9_lastChange 1 = .ok (.aload_n 1, 1) := by decide +kernel
theorem dX9_lastChange_2 : decode cX9_lastChange 2 = .ok (.iload_n 2, 1) := by decide +kernel
theorem dX9_lastChange_3 : decode cX9_lastChange 3 = .ok (.invokevirtual 144, 3) := by decide +kernel
theorem dX9_lastChange_6 : decode cX9_lastChange 6 = .ok (.aload_n 1, 1) := by decide +kernel
theorem dX9_lastChange_7 : decode cX9_lastChange 7 = .ok (.getfield 169, 3) := by decide +kernel
theorem dX9_lastChange_10 : decode cX9_lastChange 10 = .ok (.iload_n 2, 1) := by decide +kernel
theorem dX9_lastChange_11 : decode cX9_lastChange 11 = .ok (.iload_n 3, 1) := by decide +kernel
theorem dX9_lastChange_12 : decode cX9_lastChange 12 = .ok (.invokevirtual 173, 3) := by decide +kernel
theorem dX9_lastChange_15 : decode cX9_lastChange 15 = .ok (.istore 4, 2) := by decide +kernel
theorem dX9_lastChange_17 : decode cX9_lastChange 17 = .ok (.aload_n 1, 1) := by decide +kernel
theorem dX9_lastChange_18 : decode cX9_lastChange 18 = .ok (.getfield 169, 3) := by decide +kernel
theorem dX9_lastChange_21 : decode cX9_lastChange 21 = .ok (.iload 4, 2) := by decide +kernel
theorem dX9_lastChange_23 : decode cX9_lastChange 23 = .ok (.invokevirtual 186, 3) := by decide +kernel
theorem dX9_lastChange_26 : decode cX9_lastChange 26 = .ok (.ifCond .ne 5, 3) := by decide +kernel
theorem dX9_lastChange_29 : decode cX9_lastChange 29 = .ok (.iconst (-1), 1) := by decide +kernel
theorem dX9_lastChange_30 : decode cX9_lastChange 30 = .ok (.ireturn, 1) := by decide +kernel
theorem dX9_lastChange_31 : decode cX9_lastChange 31 = .ok (.aload_n 1, 1) := by decide +kernel
theorem dX9_lastChange_32 : decode cX9_lastChange 32 = .ok (.getfield 169, 3) := by decide +kernel
theorem dX9_lastChange_35 : decode cX9_lastChange 35 = .ok (.iload 4, 2) := by decide +kernel
theorem dX9_lastChange_37 : decode cX9_lastChange 37 = .ok (.invokevirtual 343, 3) := by decide +kernel
theorem dX9_lastChange_40 : decode cX9_lastChange 40 = .ok (.istore 5, 2) := by decide +kernel
theorem dX9_lastChange_42 : decode cX9_lastChange 42 = .ok (.iconst 0, 1) := by decide +kernel
theorem dX9_lastChange_43 : decode cX9_lastChange 43 = .ok (.istore 6, 2) := by decide +kernel
theorem dX9_lastChange_45 : decode cX9_lastChange 45 = .ok (.iload_n 2, 1) := by decide +kernel
theorem dX9_lastChange_46 : decode cX9_lastChange 46 = .ok (.istore 7, 2) := by decide +kernel
theorem dX9_lastChange_48 : decode cX9_lastChange 48 = .ok (.iload 6, 2) := by decide +kernel
theorem dX9_lastChange_50 : decode cX9_lastChange 50 = .ok (.iload 7, 2) := by decide +kernel
theorem dX9_lastChange_52 : decode cX9_lastChange 52 = .ok (.if_icmp .ge 42, 3) := by decide +kernel
theorem dX9_lastChange_55 : decode cX9_lastChange 55 = .ok (.iload 6, 2) := by decide +kernel
theorem dX9_lastChange_57 : decode cX9_lastChange 57 = .ok (.iload 7, 2) := by decide +kernel
theorem dX9_lastChange_59 : decode cX9_lastChange 59 = .ok (.iadd, 1) := by decide +kernel
theorem dX9_lastChange_60 : decode cX9_lastChange 60 = .ok (.iconst 2, 1) := by decide +kernel
theorem dX9_lastChange_61 : decode cX9_lastChange 61 = .ok (.idiv, 1) := by decide +kernel
theorem dX9_lastChange_62 : decode cX9_lastChange 62 = .ok (.istore 8, 2) := by decide +kernel
theorem dX9_lastChange_64 : decode cX9_lastChange 64 = .ok (.aload_n 0, 1) := by decide +kernel
theorem dX9_lastChange_65 : decode cX9_lastChange 65 = .ok (.aload_n 1, 1) := by decide +kernel
theorem dX9_lastChange_66 : decode cX9_lastChange 66 = .ok (.iload 8, 2) := by decide +kernel
theorem dX9_lastChange_68 : decode cX9_lastChange 68 = .ok (.invokevirtual 144, 3) := by decide +kernel
theorem dX9_lastChange_71 : decode cX9_lastChange 71 = .ok (.iload 8, 2) := by decide +kernel
theorem dX9_lastChange_73 : decode cX9_lastChange 73 = .ok (.iload 5, 2) := by decide +kernel
theorem dX9_lastChange_75 : decode cX9_lastChange 75 = .ok (.if_icmp .lt 10, 3) := by decide +kernel
theorem dX9_lastChange_78 : decode cX9_lastChange 78 = .ok (.iload 8, 2) := by decide +kernel
theorem dX9_lastChange_80 : decode cX9_lastChange 80 = .ok (.istore 7, 2) := by decide +kernel
theorem dX9_lastChange_82 : decode cX9_lastChange 82 = .ok (.goto 9, 3) := by decide +kernel
theorem dX9_lastChange_85 : decode cX9_lastChange 85 = .ok (.iload 8, 2) := by decide +kernel
theorem dX9_lastChange_87 : decode cX9_lastChange 87 = .ok (.iconst 1, 1) := by decide +kernel
theorem dX9_lastChange_88 : decode cX9_lastChange 88 = .ok (.iadd, 1) := by decide +kernel
theorem dX9_lastChange_89 : decode cX9_lastChange 89 = .ok (.istore 6, 2) := by decide +kernel
theorem dX9_lastChange_91 : decode cX9_lastChange 91 = .ok (.goto (-43), 3) := by decide +kernel
theorem dX9_lastChange_94 : decode cX9_lastChange 94 = .ok (.iload 6, 2) := by decide +kernel
theorem dX9_lastChange_96 : decode cX9_lastChange 96 = .ok (.ireturn, 1) := by decide +kernel
theorem dX9_unlike_0 : decode cX9_unlike 0 = .ok (.iconst 0, 1) := by decide +kernel
theorem dX9_unlike_1 : decode cX9_unlike 1 = .ok (.istore 5, 2) := by decide +kernel
theorem dX9_unlike_3 : decode cX9_unlike 3 = .ok (.iconst 0, 1) := by decide +kernel
theorem dX9_unlike_4 : decode cX9_unlike 4 = .ok (.istore 6, 2) := by decide +kernel
theorem dX9_unlike_6 : decode cX9_unlike 6 = .ok (.iload 6, 2) := by decide +kernel
theorem dX9_unlike_8 : decode cX9_unlike 8 = .ok (.iload 4, 2) := by decide +kernel
theorem dX9_unlike_10 : decode cX9_unlike 10 = .ok (.invokestatic 234, 3) := by decide +kernel
theorem dX9_unlike_13 : decode cX9_unlike 13 = .ok (.if_icmp .ge 63, 3) := by decide +kernel
theorem dX9_unlike_16 : decode cX9_unlike 16 = .ok (.iload 4, 2) := by decide +kernel
theorem dX9_unlike_18 : decode cX9_unlike 18 = .ok (.invokestatic 237, 3) := by decide +kernel
theorem dX9_unlike_21 : decode cX9_unlike 21 = .ok (.iload 6, 2) := by decide +kernel
theorem dX9_unlike_23 : decode cX9_unlike 23 = .ok (.iadd, 1) := by decide +kernel
theorem dX9_unlike_24 : decode cX9_unlike 24 = .ok (.istore 7, 2) := by decide +kernel
theorem dX9_unlike_26 : decode cX9_unlike 26 = .ok (.aload_n 2, 1) := by decide +kernel
theorem dX9_unlike_27 : decode cX9_unlike 27 = .ok (.iload_n 3, 1) := by decide +kernel
theorem dX9_unlike_28 : decode cX9_unlike 28 = .ok (.iload 7, 2) := by decide +kernel
theorem dX9_unlike_30 : decode cX9_unlike 30 = .ok (.invokevirtual 173, 3) := by decide +kernel
theorem dX9_unlike_33 : decode cX9_unlike 33 = .ok (.istore 8, 2) := by decide +kernel
theorem dX9_unlike_35 : decode cX9_unlike 35 = .ok (.aload_n 0, 1) := by decide +kernel
theorem dX9_unlike_36 : decode cX9_unlike 36 = .ok (.aload_n 0, 1) := by decide +kernel
theorem dX9_unlike_37 : decode cX9_unlike 37 = .ok (.iload_n 1, 1) := by decide +kernel
theorem dX9_unlike_38 : decode cX9_unlike 38 = .ok (.iload 7, 2) := by decide +kernel
theorem dX9_unlike_40 : decode cX9_unlike 40 = .ok (.invokevirtual 173, 3) := by decide +kernel
theorem dX9_unlike_43 : decode cX9_unlike 43 = .ok (.aload_n 2, 1) := by decide +kernel
theorem dX9_unlike_44 : decode cX9_unlike 44 = .ok (.iload 8, 2) := by decide +kernel
theorem dX9_unlike_46 : decode cX9_unlike 46 = .ok (.invokevirtual 179, 3) := by decide +kernel
theorem dX9_unlike_49 : decode cX9_unlike 49 = .ok (.aload_n 2, 1) := by decide +kernel
theorem dX9_unlike_50 : decode cX9_unlike 50 = .ok (.iload 8, 2) := by decide +kernel
theorem dX9_unlike_52 : decode cX9_unlike 52 = .ok (.invokevirtual 183, 3) := by decide +kernel
theorem dX9_unlike_55 : decode cX9_unlike 55 = .ok (.invokevirtual 346, 3) := by decide +kernel
theorem dX9_unlike_58 : decode cX9_unlike 58 = .ok (.ifCond .ne 12, 3) := by decide +kernel
theorem dX9_unlike_61 : decode cX9_unlike 61 = .ok (.iload 5, 2) := by decide +kernel
theorem dX9_unlike_63 : decode cX9_unlike 63 = .ok (.iconst 1, 1) := by decide +kernel
theorem dX9_unlike_64 : decode cX9_unlike 64 = .ok (.iload 6, 2) := by decide +kernel
theorem dX9_unlike_66 : decode cX9_unlike 66 = .ok (.ishl, 1) := by decide +kernel
theorem dX9_unlike_67 : decode cX9_unlike 67 = .ok (.ior, 1) := by decide +kernel
theorem dX9_unlike_68 : decode cX9_unlike 68 = .ok (.istore 5, 2) := by decide +kernel
theorem dX9_unlike_70 : decode cX9_unlike 70 = .ok (.iinc 6 1, 3) := by decide +kernel
theorem dX9_unlike_73 : decode cX9_unlike 73 = .ok (.goto (-67), 3) := by decide +kernel
theorem dX9_unlike_76 : decode cX9_unlike 76 = .ok (.iload 5, 2) := by decide +kernel
theorem dX9_unlike_78 : decode cX9_unlike 78 = .ok (.ireturn, 1) := by decide +kernel
theorem dX9_wouldBeHeld_0 : decode cX9_wouldBeHeld 0 = .ok (.iload_n 0, 1) := by decide +kernel
theorem dX9_wouldBeHeld_1 : decode cX9_wouldBeHeld 1 = .ok (.iconst 1, 1) := by decide +kernel
theorem dX9_wouldBeHeld_2 : decode cX9_wouldBeHeld 2 = .ok (.if_icmp .ge 5, 3) := by decide +kernel
theorem dX9_wouldBeHeld_5 : decode cX9_wouldBeHeld 5 = .ok (.iconst 0, 1) := by decide +kernel
theorem dX9_wouldBeHeld_6 : decode cX9_wouldBeHeld 6 = .ok (.ireturn, 1) := by decide +kernel
theorem dX9_wouldBeHeld_7 : decode cX9_wouldBeHeld 7 = .ok (.iload_n 2, 1) := by decide +kernel
theorem dX9_wouldBeHeld_8 : decode cX9_wouldBeHeld 8 = .ok (.iload_n 0, 1) := by decide +kernel
theorem dX9_wouldBeHeld_9 : decode cX9_wouldBeHeld 9 = .ok (.idiv, 1) := by decide +kernel
theorem dX9_wouldBeHeld_10 : decode cX9_wouldBeHeld 10 = .ok (.istore_n 3, 1) := by decide +kernel
theorem dX9_wouldBeHeld_11 : decode cX9_wouldBeHeld 11 = .ok (.iconst 1, 1) := by decide +kernel
theorem dX9_wouldBeHeld_12 : decode cX9_wouldBeHeld 12 = .ok (.istore 4, 2) := by decide +kernel
theorem dX9_wouldBeHeld_14 : decode cX9_wouldBeHeld 14 = .ok (.iconst 1, 1) := by decide +kernel
theorem dX9_wouldBeHeld_15 : decode cX9_wouldBeHeld 15 = .ok (.istore 5, 2) := by decide +kernel
theorem dX9_wouldBeHeld_17 : decode cX9_wouldBeHeld 17 = .ok (.iload 5, 2) := by decide +kernel
theorem dX9_wouldBeHeld_19 : decode cX9_wouldBeHeld 19 = .ok (.iload_n 3, 1) := by decide +kernel
theorem dX9_wouldBeHeld_20 : decode cX9_wouldBeHeld 20 = .ok (.if_icmp .gt 22, 3) := by decide +kernel
theorem dX9_wouldBeHeld_23 : decode cX9_wouldBeHeld 23 = .ok (.iload 5, 2) := by decide +kernel
theorem dX9_wouldBeHeld_25 : decode cX9_wouldBeHeld 25 = .ok (.iload_n 1, 1) := by decide +kernel
theorem dX9_wouldBeHeld_26 : decode cX9_wouldBeHeld 26 = .ok (.iload_n 3, 1) := by decide +kernel
theorem dX9_wouldBeHeld_27 : decode cX9_wouldBeHeld 27 = .ok (.invokestatic 293, 3) := by decide +kernel
theorem dX9_wouldBeHeld_30 : decode cX9_wouldBeHeld 30 = .ok (.ifCond .eq 6, 3) := by decide +kernel
theorem dX9_wouldBeHeld_33 : decode cX9_wouldBeHeld 33 = .ok (.iinc 4 1, 3) := by decide +kernel
theorem dX9_wouldBeHeld_36 : decode cX9_wouldBeHeld 36 = .ok (.iinc 5 1, 3) := by decide +kernel
theorem dX9_wouldBeHeld_39 : decode cX9_wouldBeHeld 39 = .ok (.goto (-22), 3) := by decide +kernel
theorem dX9_wouldBeHeld_42 : decode cX9_wouldBeHeld 42 = .ok (.iload 4, 2) := by decide +kernel
theorem dX9_wouldBeHeld_44 : decode cX9_wouldBeHeld 44 = .ok (.ireturn, 1) := by decide +kernel
theorem dX9_isPlace_0 : decode cX9_isPlace 0 = .ok (.iload_n 0, 1) := by decide +kernel
theorem dX9_isPlace_1 : decode cX9_isPlace 1 = .ok (.ifCond .lt 13, 3) := by decide +kernel
theorem dX9_isPlace_4 : decode cX9_isPlace 4 = .ok (.iload_n 0, 1) := by decide +kernel
theorem dX9_isPlace_5 : decode cX9_isPlace 5 = .ok (.bipush 40, 2) := by decide +kernel
theorem dX9_isPlace_7 : decode cX9_isPlace 7 = .ok (.if_icmp .ge 7, 3) := by decide +kernel
theorem dX9_isPlace_10 : decode cX9_isPlace 10 = .ok (.iconst 1, 1) := by decide +kernel
theorem dX9_isPlace_11 : decode cX9_isPlace 11 = .ok (.goto 4, 3) := by decide +kernel
theorem dX9_isPlace_14 : decode cX9_isPlace 14 = .ok (.iconst 0, 1) := by decide +kernel
theorem dX9_isPlace_15 : decode cX9_isPlace 15 = .ok (.ireturn, 1) := by decide +kernel
theorem dX9_isInstructionPlace_0 : decode cX9_isInstructionPlace 0 = .ok (.iload_n 0, 1) := by decide +kernel
theorem dX9_isInstructionPlace_1 : decode cX9_isInstructionPlace 1 = .ok (.ifCond .lt 13, 3) := by decide +kernel
theorem dX9_isInstructionPlace_4 : decode cX9_isInstructionPlace 4 = .ok (.iload_n 0, 1) := by decide +kernel
theorem dX9_isInstructionPlace_5 : decode cX9_isInstructionPlace 5 = .ok (.bipush 64, 2) := by decide +kernel
theorem dX9_isInstructionPlace_7 : decode cX9_isInstructionPlace 7 = .ok (.if_icmp .ge 7, 3) := by decide +kernel
theorem dX9_isInstructionPlace_10 : decode cX9_isInstructionPlace 10 = .ok (.iconst 1, 1) := by decide +kernel
theorem dX9_isInstructionPlace_11 : decode cX9_isInstructionPlace 11 = .ok (.goto 4, 3) := by decide +kernel
theorem dX9_isInstructionPlace_14 : decode cX9_isInstructionPlace 14 = .ok (.iconst 0, 1) := by decide +kernel
theorem dX9_isInstructionPlace_15 : decode cX9_isInstructionPlace 15 = .ok (.ireturn, 1) := by decide +kernel
theorem dX9_isUnit_0 : decode cX9_isUnit 0 = .ok (.iload_n 0, 1) := by decide +kernel
theorem dX9_isUnit_1 : decode cX9_isUnit 1 = .ok (.iconst 1, 1) := by decide +kernel
theorem dX9_isUnit_2 : decode cX9_isUnit 2 = .ok (.if_icmp .lt 13, 3) := by decide +kernel
theorem dX9_isUnit_5 : decode cX9_isUnit 5 = .ok (.iload_n 0, 1) := by decide +kernel
theorem dX9_isUnit_6 : decode cX9_isUnit 6 = .ok (.bipush 64, 2) := by decide +kernel
theorem dX9_isUnit_8 : decode cX9_isUnit 8 = .ok (.if_icmp .gt 7, 3) := by decide +kernel
theorem dX9_isUnit_11 : decode cX9_isUnit 11 = .ok (.iconst 1, 1) := by decide +kernel
theorem dX9_isUnit_12 : decode cX9_isUnit 12 = .ok (.goto 4, 3) := by decide +kernel
theorem dX9_isUnit_15 : decode cX9_isUnit 15 = .ok (.iconst 0, 1) := by decide +kernel
theorem dX9_isUnit_16 : decode cX9_isUnit 16 = .ok (.ireturn, 1) := by decide +kernel
theorem dX9_isDepth_0 : decode cX9_isDepth 0 = .ok (.iload_n 0, 1) := by decide +kernel
theorem dX9_isDepth_1 : decode cX9_isDepth 1 = .ok (.iconst 1, 1) := by decide +kernel
theorem dX9_isDepth_2 : decode cX9_isDepth 2 = .ok (.if_icmp .lt 13, 3) := by decide +kernel
theorem dX9_isDepth_5 : decode cX9_isDepth 5 = .ok (.iload_n 0, 1) := by decide +kernel
theorem dX9_isDepth_6 : decode cX9_isDepth 6 = .ok (.bipush 8, 2) := by decide +kernel
theorem dX9_isDepth_8 : decode cX9_isDepth 8 = .ok (.if_icmp .gt 7, 3) := by decide +kernel
theorem dX9_isDepth_11 : decode cX9_isDepth 11 = .ok (.iconst 1, 1) := by decide +kernel
theorem dX9_isDepth_12 : decode cX9_isDepth 12 = .ok (.goto 4, 3) := by decide +kernel
theorem dX9_isDepth_15 : decode cX9_isDepth 15 = .ok (.iconst 0, 1) := by decide +kernel
theorem dX9_isDepth_16 : decode cX9_isDepth 16 = .ok (.ireturn, 1) := by decide +kernel
theorem dX9_isAnyTime_0 : decode cX9_isAnyTime 0 = .ok (.iload_n 0, 1) := by decide +kernel
theorem dX9_isAnyTime_1 : decode cX9_isAnyTime 1 = .ok (.ifCond .lt 14, 3) := by decide +kernel
theorem dX9_isAnyTime_4 : decode cX9_isAnyTime 4 = .ok (.iload_n 0, 1) := by decide +kernel
theorem dX9_isAnyTime_5 : decode cX9_isAnyTime 5 = .ok (.sipush 3000, 3) := by decide +kernel
theorem dX9_isAnyTime_8 : decode cX9_isAnyTime 8 = .ok (.if_icmp .gt 7, 3) := by decide +kernel
theorem dX9_isAnyTime_11 : decode cX9_isAnyTime 11 = .ok (.iconst 1, 1) := by decide +kernel
theorem dX9_isAnyTime_12 : decode cX9_isAnyTime 12 = .ok (.goto 4, 3) := by decide +kernel
theorem dX9_isAnyTime_15 : decode cX9_isAnyTime 15 = .ok (.iconst 0, 1) := by decide +kernel
theorem dX9_isAnyTime_16 : decode cX9_isAnyTime 16 = .ok (.ireturn, 1) := by decide +kernel
theorem dX9_isStateWhat_0 : decode cX9_isStateWhat 0 = .ok (.iload_n 0, 1) := by decide +kernel
theorem dX9_isStateWhat_1 : decode cX9_isStateWhat 1 = .ok (.ifCond .lt 8, 3) := by decide +kernel
theorem dX9_isStateWhat_4 : decode cX9_isStateWhat 4 = .ok (.iload_n 0, 1) := by decide +kernel
theorem dX9_isStateWhat_5 : decode cX9_isStateWhat 5 = .ok (.iconst 4, 1) := by decide +kernel
theorem dX9_isStateWhat_6 : decode cX9_isStateWhat 6 = .ok (.if_icmp .le 15, 3) := by decide +kernel
theorem dX9_isStateWhat_9 : decode cX9_isStateWhat 9 = .ok (.iload_n 0, 1) := by decide +kernel
theorem dX9_isStateWhat_10 : decode cX9_isStateWhat 10 = .ok (.bipush 10, 2) := by decide +kernel
theorem dX9_isStateWhat_12 : decode cX9_isStateWhat 12 = .ok (.if_icmp .lt 13, 3) := by decide +kernel
theorem dX9_isStateWhat_15 : decode cX9_isStateWhat 15 = .ok (.iload_n 0, 1) := by decide +kernel
theorem dX9_isStateWhat_16 : decode cX9_isStateWhat 16 = .ok (.bipush 18, 2) := by decide +kernel
theorem dX9_isStateWhat_18 : decode cX9_isStateWhat 18 = .ok (.if_icmp .ge 7, 3) := by decide +kernel
theorem dX9_isStateWhat_21 : decode cX9_isStateWhat 21 = .ok (.iconst 1, 1) := by decide +kernel
theorem dX9_isStateWhat_22 : decode cX9_isStateWhat 22 = .ok (.goto 4, 3) := by decide +kernel
theorem dX9_isStateWhat_25 : decode cX9_isStateWhat 25 = .ok (.iconst 0, 1) := by decide +kernel
theorem dX9_isStateWhat_26 : decode cX9_isStateWhat 26 = .ok (.ireturn, 1) := by decide +kernel
theorem dX9_isPlacesWhat_0 : decode cX9_isPlacesWhat 0 = .ok (.iload_n 0, 1) := by decide +kernel
theorem dX9_isPlacesWhat_1 : decode cX9_isPlacesWhat 1 = .ok (.ifCond .eq 8, 3) := by decide +kernel
theorem dX9_isPlacesWhat_4 : decode cX9_isPlacesWhat 4 = .ok (.iload_n 0, 1) := by decide +kernel
theorem dX9_isPlacesWhat_5 : decode cX9_isPlacesWhat 5 = .ok (.iconst 1, 1) := by decide +kernel
theorem dX9_isPlacesWhat_6 : decode cX9_isPlacesWhat 6 = .ok (.if_icmp .ne 7, 3) := by decide +kernel
theorem dX9_isPlacesWhat_9 : decode cX9_isPlacesWhat 9 = .ok (.iconst 1, 1) := by decide +kernel
theorem dX9_isPlacesWhat_10 : decode cX9_isPlacesWhat 10 = .ok (.goto 4, 3) := by decide +kernel
theorem dX9_isPlacesWhat_13 : decode cX9_isPlacesWhat 13 = .ok (.iconst 0, 1) := by decide +kernel
theorem dX9_isPlacesWhat_14 : decode cX9_isPlacesWhat 14 = .ok (.ireturn, 1) := by decide +kernel
theorem dX9_firstPlaceOf_0 : decode cX9_firstPlaceOf 0 = .ok (.iload_n 0, 1) := by decide +kernel
theorem dX9_firstPlaceOf_1 : decode cX9_firstPlaceOf 1 = .ok (.ifCond .ne 7, 3) := by decide +kernel
theorem dX9_firstPlaceOf_4 : decode cX9_firstPlaceOf 4 = .ok (.iconst 0, 1) := by decide +kernel
theorem dX9_firstPlaceOf_5 : decode cX9_firstPlaceOf 5 = .ok (.goto 5, 3) := by decide +kernel
theorem dX9_firstPlaceOf_8 : decode cX9_firstPlaceOf 8 = .ok (.bipush 8, 2) := by decide +kernel
theorem dX9_firstPlaceOf_10 : decode cX9_firstPlaceOf 10 = .ok (.ireturn, 1) := by decide +kernel
theorem dX9_placesOf_0 : decode cX9_placesOf 0 = .ok (.iload_n 0, 1) := by decide +kernel
theorem dX9_placesOf_1 : decode cX9_placesOf 1 = .ok (.ifCond .ne 8, 3) := by decide +kernel
theorem dX9_placesOf_4 : decode cX9_placesOf 4 = .ok (.bipush 8, 2) := by decide +kernel
theorem dX9_placesOf_6 : decode cX9_placesOf 6 = .ok (.goto 5, 3) := by decide +kernel
theorem dX9_placesOf_9 : decode cX9_placesOf 9 = .ok (.bipush 32, 2) := by decide +kernel
theorem dX9_placesOf_11 : decode cX9_placesOf 11 = .ok (.ireturn, 1) := by decide +kernel
theorem dX9_isMarked_0 : decode cX9_isMarked 0 = .ok (.iload_n 1, 1) := by decide +kernel
theorem dX9_isMarked_1 : decode cX9_isMarked 1 = .ok (.ifCond .lt 19, 3) := by decide +kernel
theorem dX9_isMarked_4 : decode cX9_isMarked 4 = .ok (.iload_n 1, 1) := by decide +kernel
theorem dX9_isMarked_5 : decode cX9_isMarked 5 = .ok (.aload_n 0, 1) := by decide +kernel
theorem dX9_isMarked_6 : decode cX9_isMarked 6 = .ok (.arraylength, 1) := by decide +kernel
theorem dX9_isMarked_7 : decode cX9_isMarked 7 = .ok (.if_icmp .ge 13, 3) := by decide +kernel
theorem dX9_isMarked_10 : decode cX9_isMarked 10 = .ok (.aload_n 0, 1) := by decide +kernel
theorem dX9_isMarked_11 : decode cX9_isMarked 11 = .ok (.iload_n 1, 1) := by decide +kernel
theorem dX9_isMarked_12 : decode cX9_isMarked 12 = .ok (.baload, 1) := by decide +kernel
theorem dX9_isMarked_13 : decode cX9_isMarked 13 = .ok (.ifCond .eq 7, 3) := by decide +kernel
theorem dX9_isMarked_16 : decode cX9_isMarked 16 = .ok (.iconst 1, 1) := by decide +kernel
theorem dX9_isMarked_17 : decode cX9_isMarked 17 = .ok (.goto 4, 3) := by decide +kernel
theorem dX9_isMarked_20 : decode cX9_isMarked 20 = .ok (.iconst 0, 1) := by decide +kernel
theorem dX9_isMarked_21 : decode cX9_isMarked 21 = .ok (.ireturn, 1) := by decide +kernel
theorem dX9_isValue_0 : decode cX9_isValue 0 = .ok (.iload_n 0, 1) := by decide +kernel
theorem dX9_isValue_1 : decode cX9_isValue 1 = .ok (.lookupswitch 52 #[(0, 27), (1, 37)], 27) := by decide +kernel
theorem dX9_isValue_28 : decode cX9_isValue 28 = .ok (.iload_n 1, 1) := by decide +kernel
theorem dX9_isValue_29 : decode cX9_isValue 29 = .ok (.ifCond .ne 7, 3) := by decide +kernel
theorem dX9_isValue_32 : decode cX9_isValue 32 = .ok (.iconst 1, 1) := by decide +kernel
theorem dX9_isValue_33 : decode cX9_isValue 33 = .ok (.goto 4, 3) := by decide +kernel
theorem dX9_isValue_36 : decode cX9_isValue 36 = .ok (.iconst 0, 1) := by decide +kernel
theorem dX9_isValue_37 : decode cX9_isValue 37 = .ok (.ireturn, 1) := by decide +kernel
theorem dX9_isValue_38 : decode cX9_isValue 38 = .ok (.iload_n 1, 1) := by decide +kernel
theorem dX9_isValue_39 : decode cX9_isValue 39 = .ok (.ifCond .eq 8, 3) := by decide +kernel
theorem dX9_isValue_42 : decode cX9_isValue 42 = .ok (.iload_n 1, 1) := by decide +kernel
theorem dX9_isValue_43 : decode cX9_isValue 43 = .ok (.iconst 1, 1) := by decide +kernel
theorem dX9_isValue_44 : decode cX9_isValue 44 = .ok (.if_icmp .ne 7, 3) := by decide +kernel
theorem dX9_isValue_47 : decode cX9_isValue 47 = .ok (.iconst 1, 1) := by decide +kernel
theorem dX9_isValue_48 : decode cX9_isValue 48 = .ok (.goto 4, 3) := by decide +kernel
theorem dX9_isValue_51 : decode cX9_isValue 51 = .ok (.iconst 0, 1) := by decide +kernel
theorem dX9_isValue_52 : decode cX9_isValue 52 = .ok (.ireturn, 1) := by decide +kernel
theorem dX9_isValue_53 : decode cX9_isValue 53 = .ok (.iload_n 0, 1) := by decide +kernel
theorem dX9_isValue_54 : decode cX9_isValue 54 = .ok (.iconst 2, 1) := by decide +kernel
theorem dX9_isValue_55 : decode cX9_isValue 55 = .ok (.if_icmp .ne 7, 3) := by decide +kernel
theorem dX9_isValue_58 : decode cX9_isValue 58 = .ok (.iconst 1, 1) := by decide +kernel
theorem dX9_isValue_59 : decode cX9_isValue 59 = .ok (.goto 4, 3) := by decide +kernel
theorem dX9_isValue_62 : decode cX9_isValue 62 = .ok (.iconst 0, 1) := by decide +kernel
theorem dX9_isValue_63 : decode cX9_isValue 63 = .ok (.ireturn, 1) := by decide +kernel
theorem dX9_isInstruction_0 : decode cX9_isInstruction 0 = .ok (.iload_n 0, 1) := by decide +kernel
theorem dX9_isInstruction_1 : decode cX9_isInstruction 1 = .ok (.ifCond .lt 27, 3) := by decide +kernel
theorem dX9_isInstruction_4 : decode cX9_isInstruction 4 = .ok (.iload_n 0, 1) := by decide +kernel
theorem dX9_isInstruction_5 : decode cX9_isInstruction 5 = .ok (.getstatic 349, 3) := by decide +kernel
theorem dX9_isInstruction_8 : decode cX9_isInstruction 8 = .ok (.arraylength, 1) := by decide +kernel
theorem dX9_isInstruction_9 : decode cX9_isInstruction 9 = .ok (.if_icmp .ge 19, 3) := by decide +kernel
theorem dX9_isInstruction_12 : decode cX9_isInstruction 12 = .ok (.iload_n 0, 1) := by decide +kernel
theorem dX9_isInstruction_13 : decode cX9_isInstruction 13 = .ok (.getstatic 353, 3) := by decide +kernel
theorem dX9_isInstruction_16 : decode cX9_isInstruction 16 = .ok (.arraylength, 1) := by decide +kernel
theorem dX9_isInstruction_17 : decode cX9_isInstruction 17 = .ok (.if_icmp .ge 11, 3) := by decide +kernel
theorem dX9_isInstruction_20 : decode cX9_isInstruction 20 = .ok (.iload_n 0, 1) := by decide +kernel
theorem dX9_isInstruction_21 : decode cX9_isInstruction 21 = .ok (.getstatic 356, 3) := by decide +kernel
theorem dX9_isInstruction_24 : decode cX9_isInstruction 24 = .ok (.arraylength, 1) := by decide +kernel
theorem dX9_isInstruction_25 : decode cX9_isInstruction 25 = .ok (.if_icmp .lt 5, 3) := by decide +kernel
theorem dX9_isInstruction_28 : decode cX9_isInstruction 28 = .ok (.iconst 0, 1) := by decide +kernel
theorem dX9_isInstruction_29 : decode cX9_isInstruction 29 = .ok (.ireturn, 1) := by decide +kernel
theorem dX9_isInstruction_30 : decode cX9_isInstruction 30 = .ok (.getstatic 349, 3) := by decide +kernel
theorem dX9_isInstruction_33 : decode cX9_isInstruction 33 = .ok (.iload_n 0, 1) := by decide +kernel
theorem dX9_isInstruction_34 : decode cX9_isInstruction 34 = .ok (.iaload, 1) := by decide +kernel
theorem dX9_isInstruction_35 : decode cX9_isInstruction 35 = .ok (.iload_n 1, 1) := by decide +kernel
theorem dX9_isInstruction_36 : decode cX9_isInstruction 36 = .ok (.invokestatic 359, 3) := by decide +kernel
theorem dX9_isInstruction_39 : decode cX9_isInstruction 39 = .ok (.ifCond .eq 31, 3) := by decide +kernel
theorem dX9_isInstruction_42 : decode cX9_isInstruction 42 = .ok (.getstatic 353, 3) := by decide +kernel
theorem dX9_isInstruction_45 : decode cX9_isInstruction 45 = .ok (.iload_n 0, 1) := by decide +kernel
theorem dX9_isInstruction_46 : decode cX9_isInstruction 46 = .ok (.iaload, 1) := by decide +kernel
theorem dX9_isInstruction_47 : decode cX9_isInstruction 47 = .ok (.iload_n 2, 1) := by decide +kernel
theorem dX9_isInstruction_48 : decode cX9_isInstruction 48 = .ok (.invokestatic 359, 3) := by decide +kernel
theorem dX9_isInstruction_51 : decode cX9_isInstruction 51 = .ok (.ifCond .eq 19, 3) := by decide +kernel
theorem dX9_isInstruction_54 : decode cX9_isInstruction 54 = .ok (.getstatic 356, 3) := by decide +kernel
theorem dX9_isInstruction_57 : decode cX9_isInstruction 57 = .ok (.iload_n 0, 1) := by decide +kernel
theorem dX9_isInstruction_58 : decode cX9_isInstruction 58 = .ok (.iaload, 1) := by decide +kernel
theorem dX9_isInstruction_59 : decode cX9_isInstruction 59 = .ok (.iload_n 3, 1) := by decide +kernel
theorem dX9_isInstruction_60 : decode cX9_isInstruction 60 = .ok (.invokestatic 359, 3) := by decide +kernel
theorem dX9_isInstruction_63 : decode cX9_isInstruction 63 = .ok (.ifCond .eq 7, 3) := by decide +kernel
theorem dX9_isInstruction_66 : decode cX9_isInstruction 66 = .ok (.iconst 1, 1) := by decide +kernel
theorem dX9_isInstruction_67 : decode cX9_isInstruction 67 = .ok (.goto 4, 3) := by decide +kernel
theorem dX9_isInstruction_70 : decode cX9_isInstruction 70 = .ok (.iconst 0, 1) := by decide +kernel
theorem dX9_isInstruction_71 : decode cX9_isInstruction 71 = .ok (.ireturn, 1) := by decide +kernel
theorem dX9_fits_0 : decode cX9_fits 0 = .ok (.iload_n 0, 1) := by decide +kernel
theorem dX9_fits_1 : decode cX9_fits 1 = .ok (.tableswitch 85 1 4 #[31, 47, 52, 67], 31) := by decide +kernel
theorem dX9_fits_32 : decode cX9_fits 32 = .ok (.iload_n 1, 1) := by decide +kernel
theorem dX9_fits_33 : decode cX9_fits 33 = .ok (.ifCond .lt 13, 3) := by decide +kernel
theorem dX9_fits_36 : decode cX9_fits 36 = .ok (.iload_n 1, 1) := by decide +kernel
theorem dX9_fits_37 : decode cX9_fits 37 = .ok (.bipush 8, 2) := by decide +kernel
theorem dX9_fits_39 : decode cX9_fits 39 = .ok (.if_icmp .ge 7, 3) := by decide +kernel
theorem dX9_fits_42 : decode cX9_fits 42 = .ok (.iconst 1, 1) := by decide +kernel
theorem dX9_fits_43 : decode cX9_fits 43 = .ok (.goto 4, 3) := by decide +kernel
theorem dX9_fits_46 : decode cX9_fits 46 = .ok (.iconst 0, 1) := by decide +kernel
theorem dX9_fits_47 : decode cX9_fits 47 = .ok (.ireturn, 1) := by decide +kernel
theorem dX9_fits_48 : decode cX9_fits 48 = .ok (.iload_n 1, 1) := by decide +kernel
theorem dX9_fits_49 : decode cX9_fits 49 = .ok (.invokestatic 66, 3) := by decide +kernel
theorem dX9_fits_52 : decode cX9_fits 52 = .ok (.ireturn, 1) := by decide +kernel
theorem dX9_fits_53 : decode cX9_fits 53 = .ok (.iload_n 1, 1) := by decide +kernel
theorem dX9_fits_54 : decode cX9_fits 54 = .ok (.ifCond .eq 8, 3) := by decide +kernel
theorem dX9_fits_57 : decode cX9_fits 57 = .ok (.iload_n 1, 1) := by decide +kernel
theorem dX9_fits_58 : decode cX9_fits 58 = .ok (.iconst 1, 1) := by decide +kernel
theorem dX9_fits_59 : decode cX9_fits 59 = .ok (.if_icmp .ne 7, 3) := by decide +kernel
theorem dX9_fits_62 : decode cX9_fits 62 = .ok (.iconst 1, 1) := by decide +kernel
theorem dX9_fits_63 : decode cX9_fits 63 = .ok (.goto 4, 3) := by decide +kernel
theorem dX9_fits_66 : decode cX9_fits 66 = .ok (.iconst 0, 1) := by decide +kernel
theorem dX9_fits_67 : decode cX9_fits 67 = .ok (.ireturn, 1) := by decide +kernel
theorem dX9_fits_68 : decode cX9_fits 68 = .ok (.iload_n 1, 1) := by decide +kernel
theorem dX9_fits_69 : decode cX9_fits 69 = .ok (.iconst 1, 1) := by decide +kernel
theorem dX9_fits_70 : decode cX9_fits 70 = .ok (.if_icmp .lt 14, 3) := by decide +kernel
theorem dX9_fits_73 : decode cX9_fits 73 = .ok (.iload_n 1, 1) := by decide +kernel
theorem dX9_fits_74 : decode cX9_fits 74 = .ok (.sipush 1000, 3) := by decide +kernel
theorem dX9_fits_77 : decode cX9_fits 77 = .ok (.if_icmp .gt 7, 3) := by decide +kernel
theorem dX9_fits_80 : decode cX9_fits 80 = .ok (.iconst 1, 1) := by decide +kernel
theorem dX9_fits_81 : decode cX9_fits 81 = .ok (.goto 4, 3) := by decide +kernel
theorem dX9_fits_84 : decode cX9_fits 84 = .ok (.iconst 0, 1) := by decide +kernel
theorem dX9_fits_85 : decode cX9_fits 85 = .ok (.ireturn, 1) := by decide +kernel
theorem dX9_fits_86 : decode cX9_fits 86 = .ok (.iload_n 0, 1) := by decide +kernel
theorem dX9_fits_87 : decode cX9_fits 87 = .ok (.ifCond .ne 7, 3) := by decide +kernel
theorem dX9_fits_90 : decode cX9_fits 90 = .ok (.iconst 1, 1) := by decide +kernel
theorem dX9_fits_91 : decode cX9_fits 91 = .ok (.goto 4, 3) := by decide +kernel
theorem dX9_fits_94 : decode cX9_fits 94 = .ok (.iconst 0, 1) := by decide +kernel
theorem dX9_fits_95 : decode cX9_fits 95 = .ok (.ireturn, 1) := by decide +kernel
theorem dJ9_max_7cf53_0 : decode cJ9_max_7cf53 0 = .ok (.iload_n 0, 1) := by decide +kernel
theorem dJ9_max_7cf53_1 : decode cJ9_max_7cf53 1 = .ok (.iload_n 1, 1) := by decide +kernel
theorem dJ9_max_7cf53_2 : decode cJ9_max_7cf53 2 = .ok (.if_icmp .lt 7, 3) := by decide +kernel
theorem dJ9_max_7cf53_5 : decode cJ9_max_7cf53 5 = .ok (.iload_n 0, 1) := by decide +kernel
theorem dJ9_max_7cf53_6 : decode cJ9_max_7cf53 6 = .ok (.goto 4, 3) := by decide +kernel
theorem dJ9_max_7cf53_9 : decode cJ9_max_7cf53 9 = .ok (.iload_n 1, 1) := by decide +kernel
theorem dJ9_max_7cf53_10 : decode cJ9_max_7cf53 10 = .ok (.ireturn, 1) := by decide +kernel
theorem dJ9_min_7cf53_0 : decode cJ9_min_7cf53 0 = .ok (.iload_n 0, 1) := by decide +kernel
theorem dJ9_min_7cf53_1 : decode cJ9_min_7cf53 1 = .ok (.iload_n 1, 1) := by decide +kernel
theorem dJ9_min_7cf53_2 : decode cJ9_min_7cf53 2 = .ok (.if_icmp .gt 7, 3) := by decide +kernel
theorem dJ9_min_7cf53_5 : decode cJ9_min_7cf53 5 = .ok (.iload_n 0, 1) := by decide +kernel
theorem dJ9_min_7cf53_6 : decode cJ9_min_7cf53 6 = .ok (.goto 4, 3) := by decide +kernel
theorem dJ9_min_7cf53_9 : decode cJ9_min_7cf53 9 = .ok (.iload_n 1, 1) := by decide +kernel
theorem dJ9_min_7cf53_10 : decode cJ9_min_7cf53 10 = .ok (.ireturn, 1) := by decide +kernel
theorem dJ7_fill_53178_0 : decode cJ7_fill_53178 0 = .ok (.iconst 0, 1) := by decide +kernel
theorem dJ7_fill_53178_1 : decode cJ7_fill_53178 1 = .ok (.istore_n 2, 1) := by decide +kernel
theorem dJ7_fill_53178_2 : decode cJ7_fill_53178 2 = .ok (.aload_n 0, 1) := by decide +kernel
theorem dJ7_fill_53178_3 : decode cJ7_fill_53178 3 = .ok (.arraylength, 1) := by decide +kernel
theorem dJ7_fill_53178_4 : decode cJ7_fill_53178 4 = .ok (.istore_n 3, 1) := by decide +kernel
theorem dJ7_fill_53178_5 : decode cJ7_fill_53178 5 = .ok (.iload_n 2, 1) := by decide +kernel
theorem dJ7_fill_53178_6 : decode cJ7_fill_53178 6 = .ok (.iload_n 3, 1) := by decide +kernel
theorem dJ7_fill_53178_7 : decode cJ7_fill_53178 7 = .ok (.if_icmp .ge 13, 3) := by decide +kernel
theorem dJ7_fill_53178_10 : decode cJ7_fill_53178 10 = .ok (.aload_n 0, 1) := by decide +kernel
theorem dJ7_fill_53178_11 : decode cJ7_fill_53178 11 = .ok (.iload_n 2, 1) := by decide +kernel
theorem dJ7_fill_53178_12 : decode cJ7_fill_53178 12 = .ok (.iload_n 1, 1) := by decide +kernel
theorem dJ7_fill_53178_13 : decode cJ7_fill_53178 13 = .ok (.iastore, 1) := by decide +kernel
theorem dJ7_fill_53178_14 : decode cJ7_fill_53178 14 = .ok (.iinc 2 1, 3) := by decide +kernel
theorem dJ7_fill_53178_17 : decode cJ7_fill_53178 17 = .ok (.goto (-12), 3) := by decide +kernel
theorem dJ7_fill_53178_20 : decode cJ7_fill_53178 20 = .ok (.return_, 1) := by decide +kernel
theorem dJ7_fill_49daa_0 : decode cJ7_fill_49daa 0 = .ok (.iconst 0, 1) := by decide +kernel
theorem dJ7_fill_49daa_1 : decode cJ7_fill_49daa 1 = .ok (.istore_n 2, 1) := by decide +kernel
theorem dJ7_fill_49daa_2 : decode cJ7_fill_49daa 2 = .ok (.aload_n 0, 1) := by decide +kernel
theorem dJ7_fill_49daa_3 : decode cJ7_fill_49daa 3 = .ok (.arraylength, 1) := by decide +kernel
theorem dJ7_fill_49daa_4 : decode cJ7_fill_49daa 4 = .ok (.istore_n 3, 1) := by decide +kernel
theorem dJ7_fill_49daa_5 : decode cJ7_fill_49daa 5 = .ok (.iload_n 2, 1) := by decide +kernel
theorem dJ7_fill_49daa_6 : decode cJ7_fill_49daa 6 = .ok (.iload_n 3, 1) := by decide +kernel
theorem dJ7_fill_49daa_7 : decode cJ7_fill_49daa 7 = .ok (.if_icmp .ge 13, 3) := by decide +kernel
theorem dJ7_fill_49daa_10 : decode cJ7_fill_49daa 10 = .ok (.aload_n 0, 1) := by decide +kernel
theorem dJ7_fill_49daa_11 : decode cJ7_fill_49daa 11 = .ok (.iload_n 2, 1) := by decide +kernel
theorem dJ7_fill_49daa_12 : decode cJ7_fill_49daa 12 = .ok (.iload_n 1, 1) := by decide +kernel
theorem dJ7_fill_49daa_13 : decode cJ7_fill_49daa 13 = .ok (.bastore, 1) := by decide +kernel
theorem dJ7_fill_49daa_14 : decode cJ7_fill_49daa 14 = .ok (.iinc 2 1, 3) := by decide +kernel
theorem dJ7_fill_49daa_17 : decode cJ7_fill_49daa 17 = .ok (.goto (-12), 3) := by decide +kernel
theorem dJ7_fill_49daa_20 : decode cJ7_fill_49daa 20 = .ok (.return_, 1) := by decide +kernel
end
