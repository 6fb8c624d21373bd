section
-- ===== PART A: goes FIRST, ahead of the names: the tables' words, and 'selects' of the private methods out of them =====
/-- a private method of a class that the tables say can be made, by its rows of tables_1 -/
def lw_okq (q : MethodName × Nat) : Prop := (q.1.cls ≠ "java/lang/invoke/MethodHandle" ∧ q.1.cls ≠ "java/lang/invoke/VarHandle") ∧ Cond.instantiable q.1.cls q.2 ∈ tables_1 ∧ Cond.privateMethod q.1 ∈ tables_1 ∧ Cond.instanceMethod q.1 ∈ tables_1
theorem lw_p0 : lw_okq (⟨"RunsBack$Log", "add", "(IIIII)V"⟩, 6) := ⟨⟨by decide +kernel, by decide +kernel⟩, List.mem_of_getElem? (i := 184) (by decide +kernel), List.mem_of_getElem? (i := 426) (by decide +kernel), List.mem_of_getElem? (i := 427) (by decide +kernel)⟩
theorem lw_p1 : lw_okq (⟨"RunsBack$Puts", "has", "(I)Z"⟩, 12) := ⟨⟨by decide +kernel, by decide +kernel⟩, List.mem_of_getElem? (i := 211) (by decide +kernel), List.mem_of_getElem? (i := 451) (by decide +kernel), List.mem_of_getElem? (i := 452) (by decide +kernel)⟩
theorem lw_p2 : lw_okq (⟨"RunsBack$Run", "topAt", "(I)I"⟩, 15) := ⟨⟨by decide +kernel, by decide +kernel⟩, List.mem_of_getElem? (i := 176) (by decide +kernel), List.mem_of_getElem? (i := 573) (by decide +kernel), List.mem_of_getElem? (i := 574) (by decide +kernel)⟩
theorem lw_p3 : lw_okq (⟨"RunsBack$Holding", "dropWhatGoesBy", "(I)V"⟩, 5) := ⟨⟨by decide +kernel, by decide +kernel⟩, List.mem_of_getElem? (i := 278) (by decide +kernel), List.mem_of_getElem? (i := 608) (by decide +kernel), List.mem_of_getElem? (i := 609) (by decide +kernel)⟩
theorem lw_p4 : lw_okq (⟨"RunsBack$Holding", "has", "(I)Z"⟩, 5) := ⟨⟨by decide +kernel, by decide +kernel⟩, List.mem_of_getElem? (i := 278) (by decide +kernel), List.mem_of_getElem? (i := 616) (by decide +kernel), List.mem_of_getElem? (i := 617) (by decide +kernel)⟩
theorem lw_p5 : lw_okq (⟨"RunsBack", "isWatched", "(I)Z"⟩, 13) := ⟨⟨by decide +kernel, by decide +kernel⟩, List.mem_of_getElem? (i := 15) (by decide +kernel), List.mem_of_getElem? (i := 626) (by decide +kernel), List.mem_of_getElem? (i := 627) (by decide +kernel)⟩
theorem lw_p6 : lw_okq (⟨"RunsBack", "replay", "(LRunsBack$Run;I)V"⟩, 13) := ⟨⟨by decide +kernel, by decide +kernel⟩, List.mem_of_getElem? (i := 15) (by decide +kernel), List.mem_of_getElem? (i := 638) (by decide +kernel), List.mem_of_getElem? (i := 639) (by decide +kernel)⟩
theorem lw_p7 : lw_okq (⟨"RunsBack", "count", "(LRunsBack$Run;I)V"⟩, 13) := ⟨⟨by decide +kernel, by decide +kernel⟩, List.mem_of_getElem? (i := 15) (by decide +kernel), List.mem_of_getElem? (i := 650) (by decide +kernel), List.mem_of_getElem? (i := 651) (by decide +kernel)⟩
theorem lw_p8 : lw_okq (⟨"RunsBack$Log", "isBehind", "(II)Z"⟩, 6) := ⟨⟨by decide +kernel, by decide +kernel⟩, List.mem_of_getElem? (i := 184) (by decide +kernel), List.mem_of_getElem? (i := 662) (by decide +kernel), List.mem_of_getElem? (i := 663) (by decide +kernel)⟩
theorem lw_p9 : lw_okq (⟨"RunsBack$Calls", "has", "(I)Z"⟩, 4) := ⟨⟨by decide +kernel, by decide +kernel⟩, List.mem_of_getElem? (i := 256) (by decide +kernel), List.mem_of_getElem? (i := 686) (by decide +kernel), List.mem_of_getElem? (i := 687) (by decide +kernel)⟩
theorem lw_p10 : lw_okq (⟨"RunsBack", "isKept", "(I)Z"⟩, 13) := ⟨⟨by decide +kernel, by decide +kernel⟩, List.mem_of_getElem? (i := 15) (by decide +kernel), List.mem_of_getElem? (i := 733) (by decide +kernel), List.mem_of_getElem? (i := 734) (by decide +kernel)⟩
theorem lw_p11 : lw_okq (⟨"RunsBack", "numbered", "(I)LRunsBack$Run;"⟩, 13) := ⟨⟨by decide +kernel, by decide +kernel⟩, List.mem_of_getElem? (i := 15) (by decide +kernel), List.mem_of_getElem? (i := 741) (by decide +kernel), List.mem_of_getElem? (i := 742) (by decide +kernel)⟩
theorem lw_p12 : lw_okq (⟨"RunsBack$Puts", "aheadOf", "(I)I"⟩, 12) := ⟨⟨by decide +kernel, by decide +kernel⟩, List.mem_of_getElem? (i := 211) (by decide +kernel), List.mem_of_getElem? (i := 752) (by decide +kernel), List.mem_of_getElem? (i := 753) (by decide +kernel)⟩
theorem lw_p13 : lw_okq (⟨"RunsBack", "lastChange", "(LRunsBack$Run;II)I"⟩, 13) := ⟨⟨by decide +kernel, by decide +kernel⟩, List.mem_of_getElem? (i := 15) (by decide +kernel), List.mem_of_getElem? (i := 782) (by decide +kernel), List.mem_of_getElem? (i := 783) (by decide +kernel)⟩
theorem lw_p14 : lw_okq (⟨"RunsBack$Puts", "mark", "([ZI)V"⟩, 12) := ⟨⟨by decide +kernel, by decide +kernel⟩, List.mem_of_getElem? (i := 211) (by decide +kernel), List.mem_of_getElem? (i := 831) (by decide +kernel), List.mem_of_getElem? (i := 832) (by decide +kernel)⟩
theorem lw_p15 : lw_okq (⟨"RunsBack$Beside", "countPairs", "(LRunsBack$Calls;ILRunsBack$Calls;I)V"⟩, 6) := ⟨⟨by decide +kernel, by decide +kernel⟩, List.mem_of_getElem? (i := 68) (by decide +kernel), List.mem_of_getElem? (i := 918) (by decide +kernel), List.mem_of_getElem? (i := 919) (by decide +kernel)⟩
def lw_privs_1 : List (MethodName × Nat) := [(⟨"RunsBack$Log", "add", "(IIIII)V"⟩, 6), (⟨"RunsBack$Puts", "has", "(I)Z"⟩, 12), (⟨"RunsBack$Run", "topAt", "(I)I"⟩, 15), (⟨"RunsBack$Holding", "dropWhatGoesBy", "(I)V"⟩, 5), (⟨"RunsBack$Holding", "has", "(I)Z"⟩, 5), (⟨"RunsBack", "isWatched", "(I)Z"⟩, 13), (⟨"RunsBack", "replay", "(LRunsBack$Run;I)V"⟩, 13), (⟨"RunsBack", "count", "(LRunsBack$Run;I)V"⟩, 13), (⟨"RunsBack$Log", "isBehind", "(II)Z"⟩, 6), (⟨"RunsBack$Calls", "has", "(I)Z"⟩, 4), (⟨"RunsBack", "isKept", "(I)Z"⟩, 13), (⟨"RunsBack", "numbered", "(I)LRunsBack$Run;"⟩, 13), (⟨"RunsBack$Puts", "aheadOf", "(I)I"⟩, 12), (⟨"RunsBack", "lastChange", "(LRunsBack$Run;II)I"⟩, 13), (⟨"RunsBack$Puts", "mark", "([ZI)V"⟩, 12), (⟨"RunsBack$Beside", "countPairs", "(LRunsBack$Calls;ILRunsBack$Calls;I)V"⟩, 6)]
theorem lw_r1 : ∀ q ∈ lw_privs_1, lw_okq q := List.forall_mem_cons.mpr ⟨lw_p0, List.forall_mem_cons.mpr ⟨lw_p1, List.forall_mem_cons.mpr ⟨lw_p2, List.forall_mem_cons.mpr ⟨lw_p3, List.forall_mem_cons.mpr ⟨lw_p4, List.forall_mem_cons.mpr ⟨lw_p5, List.forall_mem_cons.mpr ⟨lw_p6, List.forall_mem_cons.mpr ⟨lw_p7, List.forall_mem_cons.mpr ⟨lw_p8, List.forall_mem_cons.mpr ⟨lw_p9, List.forall_mem_cons.mpr ⟨lw_p10, List.forall_mem_cons.mpr ⟨lw_p11, List.forall_mem_cons.mpr ⟨lw_p12, List.forall_mem_cons.mpr ⟨lw_p13, List.forall_mem_cons.mpr ⟨lw_p14, List.forall_mem_cons.mpr ⟨lw_p15, fun _ h => absurd h List.not_mem_nil⟩⟩⟩⟩⟩⟩⟩⟩⟩⟩⟩⟩⟩⟩⟩⟩
theorem lw_p16 : lw_okq (⟨"RunsBack$Beside", "choosePairs", "(LRunsBack$Calls;ILRunsBack$Calls;I)V"⟩, 6) := ⟨⟨by decide +kernel, by decide +kernel⟩, List.mem_of_getElem? (i := 68) (by decide +kernel), List.mem_of_getElem? (i := 928) (by decide +kernel), List.mem_of_getElem? (i := 929) (by decide +kernel)⟩
theorem lw_p17 : lw_okq (⟨"RunsBack$Beside", "areUnlike", "(LRunsBack$Puts;IILRunsBack$Puts;LRunsBack$Puts;)Z"⟩, 6) := ⟨⟨by decide +kernel, by decide +kernel⟩, List.mem_of_getElem? (i := 68) (by decide +kernel), List.mem_of_getElem? (i := 975) (by decide +kernel), List.mem_of_getElem? (i := 976) (by decide +kernel)⟩
theorem lw_p18 : lw_okq (⟨"RunsBack", "lookAtRun", "(LRunsBack$Run;I)I"⟩, 13) := ⟨⟨by decide +kernel, by decide +kernel⟩, List.mem_of_getElem? (i := 15) (by decide +kernel), List.mem_of_getElem? (i := 987) (by decide +kernel), List.mem_of_getElem? (i := 988) (by decide +kernel)⟩
theorem lw_p19 : lw_okq (⟨"RunsBackModel", "clears", "([I)V"⟩, 55) := ⟨⟨by decide +kernel, by decide +kernel⟩, List.mem_of_getElem? (i := 991) (by decide +kernel), List.mem_of_getElem? (i := 1193) (by decide +kernel), List.mem_of_getElem? (i := 1194) (by decide +kernel)⟩
theorem lw_p20 : lw_okq (⟨"RunsBackModel", "notes", "(IIII)V"⟩, 55) := ⟨⟨by decide +kernel, by decide +kernel⟩, List.mem_of_getElem? (i := 991) (by decide +kernel), List.mem_of_getElem? (i := 1215) (by decide +kernel), List.mem_of_getElem? (i := 1216) (by decide +kernel)⟩
theorem lw_p21 : lw_okq (⟨"RunsBackModel", "watchedChanges", "()I"⟩, 55) := ⟨⟨by decide +kernel, by decide +kernel⟩, List.mem_of_getElem? (i := 991) (by decide +kernel), List.mem_of_getElem? (i := 1226) (by decide +kernel), List.mem_of_getElem? (i := 1227) (by decide +kernel)⟩
theorem lw_p22 : lw_okq (⟨"RunsBackModel", "status", "()I"⟩, 55) := ⟨⟨by decide +kernel, by decide +kernel⟩, List.mem_of_getElem? (i := 991) (by decide +kernel), List.mem_of_getElem? (i := 1230) (by decide +kernel), List.mem_of_getElem? (i := 1231) (by decide +kernel)⟩
theorem lw_p23 : lw_okq (⟨"RunsBackModel", "kindAt", "(II)I"⟩, 55) := ⟨⟨by decide +kernel, by decide +kernel⟩, List.mem_of_getElem? (i := 991) (by decide +kernel), List.mem_of_getElem? (i := 1234) (by decide +kernel), List.mem_of_getElem? (i := 1235) (by decide +kernel)⟩
theorem lw_p24 : lw_okq (⟨"RunsBackModel", "goesOn", "()V"⟩, 55) := ⟨⟨by decide +kernel, by decide +kernel⟩, List.mem_of_getElem? (i := 991) (by decide +kernel), List.mem_of_getElem? (i := 1238) (by decide +kernel), List.mem_of_getElem? (i := 1239) (by decide +kernel)⟩
theorem lw_p25 : lw_okq (⟨"RunsBackModel", "takesInput", "()V"⟩, 55) := ⟨⟨by decide +kernel, by decide +kernel⟩, List.mem_of_getElem? (i := 991) (by decide +kernel), List.mem_of_getElem? (i := 1242) (by decide +kernel), List.mem_of_getElem? (i := 1243) (by decide +kernel)⟩
theorem lw_p26 : lw_okq (⟨"RunsBackModel", "draws", "(I)V"⟩, 55) := ⟨⟨by decide +kernel, by decide +kernel⟩, List.mem_of_getElem? (i := 991) (by decide +kernel), List.mem_of_getElem? (i := 1246) (by decide +kernel), List.mem_of_getElem? (i := 1247) (by decide +kernel)⟩
theorem lw_p27 : lw_okq (⟨"RunsBackModel", "steps", "([III)V"⟩, 55) := ⟨⟨by decide +kernel, by decide +kernel⟩, List.mem_of_getElem? (i := 991) (by decide +kernel), List.mem_of_getElem? (i := 1252) (by decide +kernel), List.mem_of_getElem? (i := 1253) (by decide +kernel)⟩
theorem lw_p28 : lw_okq (⟨"RunsBackModel", "traps", "([II)V"⟩, 55) := ⟨⟨by decide +kernel, by decide +kernel⟩, List.mem_of_getElem? (i := 991) (by decide +kernel), List.mem_of_getElem? (i := 1257) (by decide +kernel), List.mem_of_getElem? (i := 1258) (by decide +kernel)⟩
theorem lw_p29 : lw_okq (⟨"RunsBackModel", "does", "([IIIIIII)V"⟩, 55) := ⟨⟨by decide +kernel, by decide +kernel⟩, List.mem_of_getElem? (i := 991) (by decide +kernel), List.mem_of_getElem? (i := 1261) (by decide +kernel), List.mem_of_getElem? (i := 1262) (by decide +kernel)⟩
theorem lw_p30 : lw_okq (⟨"RunsBackModel", "gives", "([IIII)V"⟩, 55) := ⟨⟨by decide +kernel, by decide +kernel⟩, List.mem_of_getElem? (i := 991) (by decide +kernel), List.mem_of_getElem? (i := 1265) (by decide +kernel), List.mem_of_getElem? (i := 1266) (by decide +kernel)⟩
theorem lw_p31 : lw_okq (⟨"RunsBackModel", "cells", "([IIII)V"⟩, 55) := ⟨⟨by decide +kernel, by decide +kernel⟩, List.mem_of_getElem? (i := 991) (by decide +kernel), List.mem_of_getElem? (i := 1272) (by decide +kernel), List.mem_of_getElem? (i := 1273) (by decide +kernel)⟩
def lw_privs_2 : List (MethodName × Nat) := [(⟨"RunsBack$Beside", "choosePairs", "(LRunsBack$Calls;ILRunsBack$Calls;I)V"⟩, 6), (⟨"RunsBack$Beside", "areUnlike", "(LRunsBack$Puts;IILRunsBack$Puts;LRunsBack$Puts;)Z"⟩, 6), (⟨"RunsBack", "lookAtRun", "(LRunsBack$Run;I)I"⟩, 13), (⟨"RunsBackModel", "clears", "([I)V"⟩, 55), (⟨"RunsBackModel", "notes", "(IIII)V"⟩, 55), (⟨"RunsBackModel", "watchedChanges", "()I"⟩, 55), (⟨"RunsBackModel", "status", "()I"⟩, 55), (⟨"RunsBackModel", "kindAt", "(II)I"⟩, 55), (⟨"RunsBackModel", "goesOn", "()V"⟩, 55), (⟨"RunsBackModel", "takesInput", "()V"⟩, 55), (⟨"RunsBackModel", "draws", "(I)V"⟩, 55), (⟨"RunsBackModel", "steps", "([III)V"⟩, 55), (⟨"RunsBackModel", "traps", "([II)V"⟩, 55), (⟨"RunsBackModel", "does", "([IIIIIII)V"⟩, 55), (⟨"RunsBackModel", "gives", "([IIII)V"⟩, 55), (⟨"RunsBackModel", "cells", "([IIII)V"⟩, 55)]
theorem lw_r2 : ∀ q ∈ lw_privs_2, lw_okq q := List.forall_mem_cons.mpr ⟨lw_p16, List.forall_mem_cons.mpr ⟨lw_p17, List.forall_mem_cons.mpr ⟨lw_p18, List.forall_mem_cons.mpr ⟨lw_p19, List.forall_mem_cons.mpr ⟨lw_p20, List.forall_mem_cons.mpr ⟨lw_p21, List.forall_mem_cons.mpr ⟨lw_p22, List.forall_mem_cons.mpr ⟨lw_p23, List.forall_mem_cons.mpr ⟨lw_p24, List.forall_mem_cons.mpr ⟨lw_p25, List.forall_mem_cons.mpr ⟨lw_p26, List.forall_mem_cons.mpr ⟨lw_p27, List.forall_mem_cons.mpr ⟨lw_p28, List.forall_mem_cons.mpr ⟨lw_p29, List.forall_mem_cons.mpr ⟨lw_p30, List.forall_mem_cons.mpr ⟨lw_p31, fun _ h => absurd h List.not_mem_nil⟩⟩⟩⟩⟩⟩⟩⟩⟩⟩⟩⟩⟩⟩⟩⟩
theorem lw_p32 : lw_okq (⟨"RunsBackModel", "goes", "([IIII)V"⟩, 55) := ⟨⟨by decide +kernel, by decide +kernel⟩, List.mem_of_getElem? (i := 991) (by decide +kernel), List.mem_of_getElem? (i := 1276) (by decide +kernel), List.mem_of_getElem? (i := 1277) (by decide +kernel)⟩
theorem lw_p33 : lw_okq (⟨"RunsBackModel", "reckons", "([IIIII)V"⟩, 55) := ⟨⟨by decide +kernel, by decide +kernel⟩, List.mem_of_getElem? (i := 991) (by decide +kernel), List.mem_of_getElem? (i := 1280) (by decide +kernel), List.mem_of_getElem? (i := 1281) (by decide +kernel)⟩
theorem lw_p34 : lw_okq (⟨"RunsBackModel", "comes", "()V"⟩, 55) := ⟨⟨by decide +kernel, by decide +kernel⟩, List.mem_of_getElem? (i := 991) (by decide +kernel), List.mem_of_getElem? (i := 1284) (by decide +kernel), List.mem_of_getElem? (i := 1285) (by decide +kernel)⟩
theorem lw_p35 : lw_okq (⟨"RunsBackModel", "goesWith", "(II)I"⟩, 55) := ⟨⟨by decide +kernel, by decide +kernel⟩, List.mem_of_getElem? (i := 991) (by decide +kernel), List.mem_of_getElem? (i := 1288) (by decide +kernel), List.mem_of_getElem? (i := 1289) (by decide +kernel)⟩
theorem lw_p36 : lw_okq (⟨"RunsBackModel", "halvings", "(I)I"⟩, 55) := ⟨⟨by decide +kernel, by decide +kernel⟩, List.mem_of_getElem? (i := 991) (by decide +kernel), List.mem_of_getElem? (i := 1292) (by decide +kernel), List.mem_of_getElem? (i := 1293) (by decide +kernel)⟩
theorem lw_p37 : lw_okq (⟨"RunsBackModel", "heldMany", "(I)I"⟩, 55) := ⟨⟨by decide +kernel, by decide +kernel⟩, List.mem_of_getElem? (i := 991) (by decide +kernel), List.mem_of_getElem? (i := 1296) (by decide +kernel), List.mem_of_getElem? (i := 1297) (by decide +kernel)⟩
theorem lw_p38 : lw_okq (⟨"RunsBackModel", "replays", "(II)V"⟩, 55) := ⟨⟨by decide +kernel, by decide +kernel⟩, List.mem_of_getElem? (i := 991) (by decide +kernel), List.mem_of_getElem? (i := 1309) (by decide +kernel), List.mem_of_getElem? (i := 1310) (by decide +kernel)⟩
theorem lw_p39 : lw_okq (⟨"RunsBackModel", "heldBy", "(II)I"⟩, 55) := ⟨⟨by decide +kernel, by decide +kernel⟩, List.mem_of_getElem? (i := 991) (by decide +kernel), List.mem_of_getElem? (i := 1313) (by decide +kernel), List.mem_of_getElem? (i := 1314) (by decide +kernel)⟩
theorem lw_p40 : lw_okq (⟨"RunsBackModel", "counts", "(II)V"⟩, 55) := ⟨⟨by decide +kernel, by decide +kernel⟩, List.mem_of_getElem? (i := 991) (by decide +kernel), List.mem_of_getElem? (i := 1317) (by decide +kernel), List.mem_of_getElem? (i := 1318) (by decide +kernel)⟩
theorem lw_p41 : lw_okq (⟨"RunsBackModel", "lays", "(II)V"⟩, 55) := ⟨⟨by decide +kernel, by decide +kernel⟩, List.mem_of_getElem? (i := 991) (by decide +kernel), List.mem_of_getElem? (i := 1321) (by decide +kernel), List.mem_of_getElem? (i := 1322) (by decide +kernel)⟩
theorem lw_p42 : lw_okq (⟨"RunsBackModel", "simBegins", "(I)V"⟩, 55) := ⟨⟨by decide +kernel, by decide +kernel⟩, List.mem_of_getElem? (i := 991) (by decide +kernel), List.mem_of_getElem? (i := 1325) (by decide +kernel), List.mem_of_getElem? (i := 1326) (by decide +kernel)⟩
theorem lw_p43 : lw_okq (⟨"RunsBackModel", "simPokes", "()V"⟩, 55) := ⟨⟨by decide +kernel, by decide +kernel⟩, List.mem_of_getElem? (i := 991) (by decide +kernel), List.mem_of_getElem? (i := 1329) (by decide +kernel), List.mem_of_getElem? (i := 1330) (by decide +kernel)⟩
theorem lw_p44 : lw_okq (⟨"RunsBackModel", "simStep", "()V"⟩, 55) := ⟨⟨by decide +kernel, by decide +kernel⟩, List.mem_of_getElem? (i := 991) (by decide +kernel), List.mem_of_getElem? (i := 1333) (by decide +kernel), List.mem_of_getElem? (i := 1334) (by decide +kernel)⟩
theorem lw_p45 : lw_okq (⟨"RunsBackModel", "isTime", "(I)Z"⟩, 55) := ⟨⟨by decide +kernel, by decide +kernel⟩, List.mem_of_getElem? (i := 991) (by decide +kernel), List.mem_of_getElem? (i := 1352) (by decide +kernel), List.mem_of_getElem? (i := 1353) (by decide +kernel)⟩
theorem lw_p46 : lw_okq (⟨"RunsBackModel", "runAsked", "()I"⟩, 55) := ⟨⟨by decide +kernel, by decide +kernel⟩, List.mem_of_getElem? (i := 991) (by decide +kernel), List.mem_of_getElem? (i := 1356) (by decide +kernel), List.mem_of_getElem? (i := 1357) (by decide +kernel)⟩
theorem lw_p47 : lw_okq (⟨"RunsBackModel", "lastOf", "(II)I"⟩, 55) := ⟨⟨by decide +kernel, by decide +kernel⟩, List.mem_of_getElem? (i := 991) (by decide +kernel), List.mem_of_getElem? (i := 1369) (by decide +kernel), List.mem_of_getElem? (i := 1370) (by decide +kernel)⟩
def lw_privs_3 : List (MethodName × Nat) := [(⟨"RunsBackModel", "goes", "([IIII)V"⟩, 55), (⟨"RunsBackModel", "reckons", "([IIIII)V"⟩, 55), (⟨"RunsBackModel", "comes", "()V"⟩, 55), (⟨"RunsBackModel", "goesWith", "(II)I"⟩, 55), (⟨"RunsBackModel", "halvings", "(I)I"⟩, 55), (⟨"RunsBackModel", "heldMany", "(I)I"⟩, 55), (⟨"RunsBackModel", "replays", "(II)V"⟩, 55), (⟨"RunsBackModel", "heldBy", "(II)I"⟩, 55), (⟨"RunsBackModel", "counts", "(II)V"⟩, 55), (⟨"RunsBackModel", "lays", "(II)V"⟩, 55), (⟨"RunsBackModel", "simBegins", "(I)V"⟩, 55), (⟨"RunsBackModel", "simPokes", "()V"⟩, 55), (⟨"RunsBackModel", "simStep", "()V"⟩, 55), (⟨"RunsBackModel", "isTime", "(I)Z"⟩, 55), (⟨"RunsBackModel", "runAsked", "()I"⟩, 55), (⟨"RunsBackModel", "lastOf", "(II)I"⟩, 55)]
theorem lw_r3 : ∀ q ∈ lw_privs_3, lw_okq q := List.forall_mem_cons.mpr ⟨lw_p32, List.forall_mem_cons.mpr ⟨lw_p33, List.forall_mem_cons.mpr ⟨lw_p34, List.forall_mem_cons.mpr ⟨lw_p35, List.forall_mem_cons.mpr ⟨lw_p36, List.forall_mem_cons.mpr ⟨lw_p37, List.forall_mem_cons.mpr ⟨lw_p38, List.forall_mem_cons.mpr ⟨lw_p39, List.forall_mem_cons.mpr ⟨lw_p40, List.forall_mem_cons.mpr ⟨lw_p41, List.forall_mem_cons.mpr ⟨lw_p42, List.forall_mem_cons.mpr ⟨lw_p43, List.forall_mem_cons.mpr ⟨lw_p44, List.forall_mem_cons.mpr ⟨lw_p45, List.forall_mem_cons.mpr ⟨lw_p46, List.forall_mem_cons.mpr ⟨lw_p47, fun _ h => absurd h List.not_mem_nil⟩⟩⟩⟩⟩⟩⟩⟩⟩⟩⟩⟩⟩⟩⟩⟩
theorem lw_p48 : lw_okq (⟨"RunsBackModel", "hadIn", "(IIIIII)I"⟩, 55) := ⟨⟨by decide +kernel, by decide +kernel⟩, List.mem_of_getElem? (i := 991) (by decide +kernel), List.mem_of_getElem? (i := 1377) (by decide +kernel), List.mem_of_getElem? (i := 1378) (by decide +kernel)⟩
theorem lw_p49 : lw_okq (⟨"RunsBackModel", "laysRests", "(II)V"⟩, 55) := ⟨⟨by decide +kernel, by decide +kernel⟩, List.mem_of_getElem? (i := 991) (by decide +kernel), List.mem_of_getElem? (i := 1393) (by decide +kernel), List.mem_of_getElem? (i := 1394) (by decide +kernel)⟩
theorem lw_p50 : lw_okq (⟨"RunsBackModel", "restPokes", "()V"⟩, 55) := ⟨⟨by decide +kernel, by decide +kernel⟩, List.mem_of_getElem? (i := 991) (by decide +kernel), List.mem_of_getElem? (i := 1397) (by decide +kernel), List.mem_of_getElem? (i := 1398) (by decide +kernel)⟩
theorem lw_p51 : lw_okq (⟨"RunsBackModel", "clearsLooked", "()V"⟩, 55) := ⟨⟨by decide +kernel, by decide +kernel⟩, List.mem_of_getElem? (i := 991) (by decide +kernel), List.mem_of_getElem? (i := 1401) (by decide +kernel), List.mem_of_getElem? (i := 1402) (by decide +kernel)⟩
theorem lw_p52 : lw_okq (⟨"RunsBackModel", "adds", "(I)V"⟩, 55) := ⟨⟨by decide +kernel, by decide +kernel⟩, List.mem_of_getElem? (i := 991) (by decide +kernel), List.mem_of_getElem? (i := 1405) (by decide +kernel), List.mem_of_getElem? (i := 1406) (by decide +kernel)⟩
theorem lw_p53 : lw_okq (⟨"RunsBackModel", "restsOn", "(I)V"⟩, 55) := ⟨⟨by decide +kernel, by decide +kernel⟩, List.mem_of_getElem? (i := 991) (by decide +kernel), List.mem_of_getElem? (i := 1409) (by decide +kernel), List.mem_of_getElem? (i := 1410) (by decide +kernel)⟩
theorem lw_p54 : lw_okq (⟨"RunsBackModel", "looks", "()V"⟩, 55) := ⟨⟨by decide +kernel, by decide +kernel⟩, List.mem_of_getElem? (i := 991) (by decide +kernel), List.mem_of_getElem? (i := 1413) (by decide +kernel), List.mem_of_getElem? (i := 1414) (by decide +kernel)⟩
theorem lw_p55 : lw_okq (⟨"RunsBackModel", "looksAt", "(I)V"⟩, 55) := ⟨⟨by decide +kernel, by decide +kernel⟩, List.mem_of_getElem? (i := 991) (by decide +kernel), List.mem_of_getElem? (i := 1417) (by decide +kernel), List.mem_of_getElem? (i := 1418) (by decide +kernel)⟩
theorem lw_p56 : lw_okq (⟨"RunsBackModel", "restsOnBit", "(II)Z"⟩, 55) := ⟨⟨by decide +kernel, by decide +kernel⟩, List.mem_of_getElem? (i := 991) (by decide +kernel), List.mem_of_getElem? (i := 1421) (by decide +kernel), List.mem_of_getElem? (i := 1422) (by decide +kernel)⟩
theorem lw_p57 : lw_okq (⟨"RunsBackModel", "wouldOf", "(III)I"⟩, 55) := ⟨⟨by decide +kernel, by decide +kernel⟩, List.mem_of_getElem? (i := 991) (by decide +kernel), List.mem_of_getElem? (i := 1453) (by decide +kernel), List.mem_of_getElem? (i := 1454) (by decide +kernel)⟩
theorem lw_p58 : lw_okq (⟨"RunsBackModel", "wouldBe", "(III)Z"⟩, 55) := ⟨⟨by decide +kernel, by decide +kernel⟩, List.mem_of_getElem? (i := 991) (by decide +kernel), List.mem_of_getElem? (i := 1457) (by decide +kernel), List.mem_of_getElem? (i := 1458) (by decide +kernel)⟩
theorem lw_p59 : lw_okq (⟨"RunsBackModel", "isThere", "(I)Z"⟩, 55) := ⟨⟨by decide +kernel, by decide +kernel⟩, List.mem_of_getElem? (i := 991) (by decide +kernel), List.mem_of_getElem? (i := 1473) (by decide +kernel), List.mem_of_getElem? (i := 1474) (by decide +kernel)⟩
theorem lw_p60 : lw_okq (⟨"RunsBackModel", "laysPairs", "(II)V"⟩, 55) := ⟨⟨by decide +kernel, by decide +kernel⟩, List.mem_of_getElem? (i := 991) (by decide +kernel), List.mem_of_getElem? (i := 1477) (by decide +kernel), List.mem_of_getElem? (i := 1478) (by decide +kernel)⟩
theorem lw_p61 : lw_okq (⟨"RunsBackModel", "areLike", "(II)Z"⟩, 55) := ⟨⟨by decide +kernel, by decide +kernel⟩, List.mem_of_getElem? (i := 991) (by decide +kernel), List.mem_of_getElem? (i := 1481) (by decide +kernel), List.mem_of_getElem? (i := 1482) (by decide +kernel)⟩
theorem lw_p62 : lw_okq (⟨"RunsBackModel", "finds", "(I)V"⟩, 55) := ⟨⟨by decide +kernel, by decide +kernel⟩, List.mem_of_getElem? (i := 991) (by decide +kernel), List.mem_of_getElem? (i := 1489) (by decide +kernel), List.mem_of_getElem? (i := 1490) (by decide +kernel)⟩
theorem lw_p63 : lw_okq (⟨"RunsBackModel", "swaps", "()V"⟩, 55) := ⟨⟨by decide +kernel, by decide +kernel⟩, List.mem_of_getElem? (i := 991) (by decide +kernel), List.mem_of_getElem? (i := 1497) (by decide +kernel), List.mem_of_getElem? (i := 1498) (by decide +kernel)⟩
def lw_privs_4 : List (MethodName × Nat) := [(⟨"RunsBackModel", "hadIn", "(IIIIII)I"⟩, 55), (⟨"RunsBackModel", "laysRests", "(II)V"⟩, 55), (⟨"RunsBackModel", "restPokes", "()V"⟩, 55), (⟨"RunsBackModel", "clearsLooked", "()V"⟩, 55), (⟨"RunsBackModel", "adds", "(I)V"⟩, 55), (⟨"RunsBackModel", "restsOn", "(I)V"⟩, 55), (⟨"RunsBackModel", "looks", "()V"⟩, 55), (⟨"RunsBackModel", "looksAt", "(I)V"⟩, 55), (⟨"RunsBackModel", "restsOnBit", "(II)Z"⟩, 55), (⟨"RunsBackModel", "wouldOf", "(III)I"⟩, 55), (⟨"RunsBackModel", "wouldBe", "(III)Z"⟩, 55), (⟨"RunsBackModel", "isThere", "(I)Z"⟩, 55), (⟨"RunsBackModel", "laysPairs", "(II)V"⟩, 55), (⟨"RunsBackModel", "areLike", "(II)Z"⟩, 55), (⟨"RunsBackModel", "finds", "(I)V"⟩, 55), (⟨"RunsBackModel", "swaps", "()V"⟩, 55)]
theorem lw_r4 : ∀ q ∈ lw_privs_4, lw_okq q := List.forall_mem_cons.mpr ⟨lw_p48, List.forall_mem_cons.mpr ⟨lw_p49, List.forall_mem_cons.mpr ⟨lw_p50, List.forall_mem_cons.mpr ⟨lw_p51, List.forall_mem_cons.mpr ⟨lw_p52, List.forall_mem_cons.mpr ⟨lw_p53, List.forall_mem_cons.mpr ⟨lw_p54, List.forall_mem_cons.mpr ⟨lw_p55, List.forall_mem_cons.mpr ⟨lw_p56, List.forall_mem_cons.mpr ⟨lw_p57, List.forall_mem_cons.mpr ⟨lw_p58, List.forall_mem_cons.mpr ⟨lw_p59, List.forall_mem_cons.mpr ⟨lw_p60, List.forall_mem_cons.mpr ⟨lw_p61, List.forall_mem_cons.mpr ⟨lw_p62, List.forall_mem_cons.mpr ⟨lw_p63, fun _ h => absurd h List.not_mem_nil⟩⟩⟩⟩⟩⟩⟩⟩⟩⟩⟩⟩⟩⟩⟩⟩
theorem lw_p64 : lw_okq (⟨"RunsBackModel", "areStatesLike", "()Z"⟩, 55) := ⟨⟨by decide +kernel, by decide +kernel⟩, List.mem_of_getElem? (i := 991) (by decide +kernel), List.mem_of_getElem? (i := 1501) (by decide +kernel), List.mem_of_getElem? (i := 1502) (by decide +kernel)⟩
theorem lw_p65 : lw_okq (⟨"RunsBackModel", "ofRun", "(II)I"⟩, 55) := ⟨⟨by decide +kernel, by decide +kernel⟩, List.mem_of_getElem? (i := 991) (by decide +kernel), List.mem_of_getElem? (i := 1509) (by decide +kernel), List.mem_of_getElem? (i := 1510) (by decide +kernel)⟩
theorem lw_p66 : lw_okq (⟨"RunsBackModel", "watchedOf", "(II)I"⟩, 55) := ⟨⟨by decide +kernel, by decide +kernel⟩, List.mem_of_getElem? (i := 991) (by decide +kernel), List.mem_of_getElem? (i := 1513) (by decide +kernel), List.mem_of_getElem? (i := 1514) (by decide +kernel)⟩
def lw_privs_5 : List (MethodName × Nat) := [(⟨"RunsBackModel", "areStatesLike", "()Z"⟩, 55), (⟨"RunsBackModel", "ofRun", "(II)I"⟩, 55), (⟨"RunsBackModel", "watchedOf", "(II)I"⟩, 55)]
theorem lw_r5 : ∀ q ∈ lw_privs_5, lw_okq q := List.forall_mem_cons.mpr ⟨lw_p64, List.forall_mem_cons.mpr ⟨lw_p65, List.forall_mem_cons.mpr ⟨lw_p66, fun _ h => absurd h List.not_mem_nil⟩⟩⟩
def lw_privs : List (MethodName × Nat) := lw_privs_1 ++ (lw_privs_2 ++ (lw_privs_3 ++ (lw_privs_4 ++ (lw_privs_5))))
def lw_tbl : List Cond := k2_sels lw_privs ++ tables_1
theorem lw_privs_ok : ∀ q ∈ lw_privs, lw_okq q := by
  show ∀ q ∈ lw_privs_1 ++ (lw_privs_2 ++ (lw_privs_3 ++ (lw_privs_4 ++ (lw_privs_5)))), lw_okq q
  exact List.forall_mem_append.mpr ⟨lw_r1, List.forall_mem_append.mpr ⟨lw_r2, List.forall_mem_append.mpr ⟨lw_r3, List.forall_mem_append.mpr ⟨lw_r4, lw_r5⟩⟩⟩⟩
end
section
def RX0 : String := "RunsBack$Beside"
def TX0 : u_T := fun k => match k with
  | 0 => ("RunsBack$Beside", "most", "[[I", true)
  | 1 => ("RunsBack$Beside", "callOne", "[I", true)
  | 2 => ("RunsBack$Beside", "callOther", "[I", true)
  | 3 => ("RunsBack$Beside", "pairs", "I", false)
  | 4 => ("RunsBack$Beside", "putOne", "[I", true)
  | _ => ("RunsBack$Beside", "putOther", "[I", true)
def tyX0 : Nat → FieldType := fun k => match k with
  | 0 => .array (.array .int)
  | 1 => .array .int
  | 2 => .array .int
  | 3 => .int
  | 4 => .array .int
  | _ => .array .int
abbrev wsX00 : List Cond := u_ws RX0 TX0 6
theorem nmX0 : ∀ a, a < 6 → ∀ b, b < 6 → a ≠ b → (TX0 a).2.1 ≠ (TX0 b).2.1 := by decide +kernel
theorem tyX0_ok : ∀ k, k < 6 → parseFieldDescriptor (TX0 k).2.2.1 = some (tyX0 k) := by decide +kernel
abbrev cX0_init : ByteArray := prog_2_method_1_code
def yX0_init : MethodName := ⟨RX0, "<init>", "()V"⟩
abbrev cX0_has : ByteArray := prog_2_method_2_code
def yX0_has : MethodName := ⟨RX0, "has", "(I)Z"⟩
abbrev cX0_callOfOne : ByteArray := prog_2_method_3_code
def yX0_callOfOne : MethodName := ⟨RX0, "callOfOne", "(I)I"⟩
abbrev cX0_callOfOther : ByteArray := prog_2_method_4_code
def yX0_callOfOther : MethodName := ⟨RX0, "callOfOther", "(I)I"⟩
abbrev cX0_lay : ByteArray := prog_2_method_5_code
def yX0_lay : MethodName := ⟨RX0, "lay", "(LRunsBack$Calls;LRunsBack$Calls;)V"⟩
abbrev cX0_countPairs : ByteArray := prog_2_method_6_code
def yX0_countPairs : MethodName := ⟨RX0, "countPairs", "(LRunsBack$Calls;ILRunsBack$Calls;I)V"⟩
abbrev cX0_choosePairs : ByteArray := prog_2_method_7_code
def yX0_choosePairs : MethodName := ⟨RX0, "choosePairs", "(LRunsBack$Calls;ILRunsBack$Calls;I)V"⟩
abbrev cX0_firstUnlike : ByteArray := prog_2_method_8_code
def yX0_firstUnlike : MethodName := ⟨RX0, "firstUnlike", "(LRunsBack$Run;LRunsBack$Run;)I"⟩
abbrev cX0_goThrough : ByteArray := prog_2_method_9_code
def yX0_goThrough : MethodName := ⟨RX0, "goThrough", "(LRunsBack$Puts;II[I)I"⟩
abbrev cX0_areUnlike : ByteArray := prog_2_method_10_code
def yX0_areUnlike : MethodName := ⟨RX0, "areUnlike", "(LRunsBack$Puts;IILRunsBack$Puts;LRunsBack$Puts;)Z"⟩
def RX1 : String := "RunsBack$Calls"
def TX1 : u_T := fun k => match k with
  | 0 => ("RunsBack$Calls", "time", "[I", true)
  | 1 => ("RunsBack$Calls", "target", "[I", true)
  | 2 => ("RunsBack$Calls", "stacked", "[I", true)
  | _ => ("RunsBack$Calls", "count", "I", false)
def tyX1 : Nat → FieldType := fun k => match k with
  | 0 => .array .int
  | 1 => .array .int
  | 2 => .array .int
  | _ => .int
abbrev wsX10 : List Cond := u_ws RX1 TX1 4
theorem nmX1 : ∀ a, a < 4 → ∀ b, b < 4 → a ≠ b → (TX1 a).2.1 ≠ (TX1 b).2.1 := by decide +kernel
theorem tyX1_ok : ∀ k, k < 4 → parseFieldDescriptor (TX1 k).2.2.1 = some (tyX1 k) := by decide +kernel
abbrev cX1_init : ByteArray := prog_3_method_1_code
def yX1_init : MethodName := ⟨RX1, "<init>", "()V"⟩
abbrev cX1_init_ : ByteArray := prog_3_method_2_code
def yX1_init_ : MethodName := ⟨RX1, "<init>", "(LRunsBack$Calls;)V"⟩
abbrev cX1_has : ByteArray := prog_3_method_3_code
def yX1_has : MethodName := ⟨RX1, "has", "(I)Z"⟩
abbrev cX1_add : ByteArray := prog_3_method_4_code
def yX1_add : MethodName := ⟨RX1, "add", "(III)V"⟩
abbrev cX1_read : ByteArray := prog_3_method_5_code
def yX1_read : MethodName := ⟨RX1, "read", "(II)I"⟩
abbrev cX1_dropFrom : ByteArray := prog_3_method_6_code
def yX1_dropFrom : MethodName := ⟨RX1, "dropFrom", "(I)V"⟩
abbrev cX1_isLike : ByteArray := prog_3_method_7_code
def yX1_isLike : MethodName := ⟨RX1, "isLike", "(ILRunsBack$Calls;I)Z"⟩
def RX2 : String := "RunsBack$Holding"
def TX2 : u_T := fun k => match k with
  | 0 => ("RunsBack$Holding", "times", "[I", true)
  | 1 => ("RunsBack$Holding", "count", "I", false)
  | 2 => ("RunsBack$Holding", "most", "I", false)
  | 3 => ("RunsBack$Holding", "unit", "I", false)
  | _ => ("RunsBack$Holding", "depth", "I", false)
def tyX2 : Nat → FieldType := fun k => match k with
  | 0 => .array .int
  | 1 => .int
  | 2 => .int
  | 3 => .int
  | _ => .int
abbrev wsX20 : List Cond := u_ws RX2 TX2 5
theorem nmX2 : ∀ a, a < 5 → ∀ b, b < 5 → a ≠ b → (TX2 a).2.1 ≠ (TX2 b).2.1 := by decide +kernel
theorem tyX2_ok : ∀ k, k < 5 → parseFieldDescriptor (TX2 k).2.2.1 = some (tyX2 k) := by decide +kernel
abbrev cX2_init : ByteArray := prog_4_method_1_code
def yX2_init : MethodName := ⟨RX2, "<init>", "()V"⟩
abbrev cX2_init_ : ByteArray := prog_4_method_2_code
def yX2_init_ : MethodName := ⟨RX2, "<init>", "(LRunsBack$Holding;)V"⟩
abbrev cX2_start : ByteArray := prog_4_method_3_code
def yX2_start : MethodName := ⟨RX2, "start", "(II)V"⟩
abbrev cX2_goesWith : ByteArray := prog_4_method_4_code
def yX2_goesWith : MethodName := ⟨RX2, "goesWith", "(II)I"⟩
abbrev cX2_isHeldStill : ByteArray := prog_4_method_5_code
def yX2_isHeldStill : MethodName := ⟨RX2, "isHeldStill", "(III)Z"⟩
abbrev cX2_has : ByteArray := prog_4_method_6_code
def yX2_has : MethodName := ⟨RX2, "has", "(I)Z"⟩
abbrev cX2_timeOf : ByteArray := prog_4_method_7_code
def yX2_timeOf : MethodName := ⟨RX2, "timeOf", "(I)I"⟩
abbrev cX2_goesAt : ByteArray := prog_4_method_8_code
def yX2_goesAt : MethodName := ⟨RX2, "goesAt", "(I)I"⟩
abbrev cX2_timeComes : ByteArray := prog_4_method_9_code
def yX2_timeComes : MethodName := ⟨RX2, "timeComes", "(I)V"⟩
abbrev cX2_dropWhatGoesBy : ByteArray := prog_4_method_10_code
def yX2_dropWhatGoesBy : MethodName := ⟨RX2, "dropWhatGoesBy", "(I)V"⟩
abbrev cX2_dropAbove : ByteArray := prog_4_method_11_code
def yX2_dropAbove : MethodName := ⟨RX2, "dropAbove", "(I)V"⟩
abbrev cX2_latestBy : ByteArray := prog_4_method_12_code
def yX2_latestBy : MethodName := ⟨RX2, "latestBy", "(I)I"⟩
abbrev cX2_stepsToFind : ByteArray := prog_4_method_13_code
def yX2_stepsToFind : MethodName := ⟨RX2, "stepsToFind", "(II)I"⟩
def RX3 : String := "RunsBack$Log"
def TX3 : u_T := fun k => match k with
  | 0 => ("RunsBack$Log", "time", "[I", true)
  | 1 => ("RunsBack$Log", "origin", "[I", true)
  | 2 => ("RunsBack$Log", "number", "[I", true)
  | 3 => ("RunsBack$Log", "place", "[I", true)
  | 4 => ("RunsBack$Log", "sort", "[I", true)
  | _ => ("RunsBack$Log", "count", "I", false)
def tyX3 : Nat → FieldType := fun k => match k with
  | 0 => .array .int
  | 1 => .array .int
  | 2 => .array .int
  | 3 => .array .int
  | 4 => .array .int
  | _ => .int
abbrev wsX30 : List Cond := u_ws RX3 TX3 6
theorem nmX3 : ∀ a, a < 6 → ∀ b, b < 6 → a ≠ b → (TX3 a).2.1 ≠ (TX3 b).2.1 := by decide +kernel
theorem tyX3_ok : ∀ k, k < 6 → parseFieldDescriptor (TX3 k).2.2.1 = some (tyX3 k) := by decide +kernel
abbrev cX3_init : ByteArray := prog_5_method_1_code
def yX3_init : MethodName := ⟨RX3, "<init>", "()V"⟩
abbrev cX3_init_ : ByteArray := prog_5_method_2_code
def yX3_init_ : MethodName := ⟨RX3, "<init>", "(LRunsBack$Log;)V"⟩
abbrev cX3_has : ByteArray := prog_5_method_3_code
def yX3_has : MethodName := ⟨RX3, "has", "(I)Z"⟩
abbrev cX3_isFull : ByteArray := prog_5_method_4_code
def yX3_isFull : MethodName := ⟨RX3, "isFull", "()Z"⟩
abbrev cX3_addWhole : ByteArray := prog_5_method_5_code
def yX3_addWhole : MethodName := ⟨RX3, "addWhole", "(III)V"⟩
abbrev cX3_addPoke : ByteArray := prog_5_method_6_code
def yX3_addPoke : MethodName := ⟨RX3, "addPoke", "(IIII)V"⟩
abbrev cX3_add : ByteArray := prog_5_method_7_code
def yX3_add : MethodName := ⟨RX3, "add", "(IIIII)V"⟩
abbrev cX3_read : ByteArray := prog_5_method_8_code
def yX3_read : MethodName := ⟨RX3, "read", "(II)I"⟩
abbrev cX3_dropBehind : ByteArray := prog_5_method_9_code
def yX3_dropBehind : MethodName := ⟨RX3, "dropBehind", "(ILRunsBack$Outside;)V"⟩
abbrev cX3_isBehind : ByteArray := prog_5_method_10_code
def yX3_isBehind : MethodName := ⟨RX3, "isBehind", "(II)Z"⟩
def RX4 : String := "RunsBack$Outside"
def TX4 : u_T := fun k => match k with
  | 0 => ("RunsBack$Outside", "ring", "[I", true)
  | 1 => ("RunsBack$Outside", "first", "I", false)
  | 2 => ("RunsBack$Outside", "waiting", "I", false)
  | _ => ("RunsBack$Outside", "x", "I", false)
def tyX4 : Nat → FieldType := fun k => match k with
  | 0 => .array .int
  | 1 => .int
  | 2 => .int
  | _ => .int
abbrev wsX40 : List Cond := u_ws RX4 TX4 4
theorem nmX4 : ∀ a, a < 4 → ∀ b, b < 4 → a ≠ b → (TX4 a).2.1 ≠ (TX4 b).2.1 := by decide +kernel
theorem tyX4_ok : ∀ k, k < 4 → parseFieldDescriptor (TX4 k).2.2.1 = some (tyX4 k) := by decide +kernel
abbrev cX4_init : ByteArray := prog_6_method_1_code
def yX4_init : MethodName := ⟨RX4, "<init>", "()V"⟩
abbrev cX4_clearInputs : ByteArray := prog_6_method_2_code
def yX4_clearInputs : MethodName := ⟨RX4, "clearInputs", "()V"⟩
abbrev cX4_addLast : ByteArray := prog_6_method_3_code
def yX4_addLast : MethodName := ⟨RX4, "addLast", "(I)V"⟩
abbrev cX4_addFirst : ByteArray := prog_6_method_4_code
def yX4_addFirst : MethodName := ⟨RX4, "addFirst", "(I)V"⟩
abbrev cX4_takeFirst : ByteArray := prog_6_method_5_code
def yX4_takeFirst : MethodName := ⟨RX4, "takeFirst", "()I"⟩
abbrev cX4_draw : ByteArray := prog_6_method_6_code
def yX4_draw : MethodName := ⟨RX4, "draw", "(I)I"⟩
def RX5 : String := "RunsBack$Program"
def TX5 : u_T := fun k => match k with
  | 0 => ("RunsBack$Program", "kind", "[I", true)
  | 1 => ("RunsBack$Program", "a", "[I", true)
  | 2 => ("RunsBack$Program", "b", "[I", true)
  | _ => ("RunsBack$Program", "c", "[I", true)
def tyX5 : Nat → FieldType := fun k => match k with
  | 0 => .array .int
  | 1 => .array .int
  | 2 => .array .int
  | _ => .array .int
abbrev wsX50 : List Cond := u_ws RX5 TX5 4
theorem nmX5 : ∀ a, a < 4 → ∀ b, b < 4 → a ≠ b → (TX5 a).2.1 ≠ (TX5 b).2.1 := by decide +kernel
theorem tyX5_ok : ∀ k, k < 4 → parseFieldDescriptor (TX5 k).2.2.1 = some (tyX5 k) := by decide +kernel
abbrev cX5_init : ByteArray := prog_7_method_1_code
def yX5_init : MethodName := ⟨RX5, "<init>", "()V"⟩
abbrev cX5_write : ByteArray := prog_7_method_2_code
def yX5_write : MethodName := ⟨RX5, "write", "(IIIII)V"⟩
abbrev cX5_takeFrom : ByteArray := prog_7_method_3_code
def yX5_takeFrom : MethodName := ⟨RX5, "takeFrom", "(LRunsBack$Program;)V"⟩
abbrev cX5_size : ByteArray := prog_7_method_4_code
def yX5_size : MethodName := ⟨RX5, "size", "()I"⟩
abbrev cX5_kindAt : ByteArray := prog_7_method_5_code
def yX5_kindAt : MethodName := ⟨RX5, "kindAt", "(I)I"⟩
abbrev cX5_firstAt : ByteArray := prog_7_method_6_code
def yX5_firstAt : MethodName := ⟨RX5, "firstAt", "(I)I"⟩
abbrev cX5_secondAt : ByteArray := prog_7_method_7_code
def yX5_secondAt : MethodName := ⟨RX5, "secondAt", "(I)I"⟩
abbrev cX5_thirdAt : ByteArray := prog_7_method_8_code
def yX5_thirdAt : MethodName := ⟨RX5, "thirdAt", "(I)I"⟩
def RX6 : String := "RunsBack$Puts"
def TX6 : u_T := fun k => match k with
  | 0 => ("RunsBack$Puts", "time", "[I", true)
  | 1 => ("RunsBack$Puts", "place", "[I", true)
  | 2 => ("RunsBack$Puts", "sort", "[I", true)
  | 3 => ("RunsBack$Puts", "number", "[I", true)
  | 4 => ("RunsBack$Puts", "changes", "[I", true)
  | 5 => ("RunsBack$Puts", "ahead", "[I", true)
  | 6 => ("RunsBack$Puts", "began", "[I", true)
  | 7 => ("RunsBack$Puts", "entry", "[I", true)
  | 8 => ("RunsBack$Puts", "lookedOne", "[I", true)
  | 9 => ("RunsBack$Puts", "lookedTwo", "[I", true)
  | 10 => ("RunsBack$Puts", "latest", "[I", true)
  | _ => ("RunsBack$Puts", "count", "I", false)
def tyX6 : Nat → FieldType := fun k => match k with
  | 0 => .array .int
  | 1 => .array .int
  | 2 => .array .int
  | 3 => .array .int
  | 4 => .array .int
  | 5 => .array .int
  | 6 => .array .int
  | 7 => .array .int
  | 8 => .array .int
  | 9 => .array .int
  | 10 => .array .int
  | _ => .int
abbrev wsX60 : List Cond := u_ws RX6 TX6 12
theorem nmX6 : ∀ a, a < 12 → ∀ b, b < 12 → a ≠ b → (TX6 a).2.1 ≠ (TX6 b).2.1 := by decide +kernel
theorem tyX6_ok : ∀ k, k < 12 → parseFieldDescriptor (TX6 k).2.2.1 = some (tyX6 k) := by decide +kernel
abbrev cX6_init : ByteArray := prog_8_method_1_code
def yX6_init : MethodName := ⟨RX6, "<init>", "()V"⟩
abbrev cX6_init_ : ByteArray := prog_8_method_2_code
def yX6_init_ : MethodName := ⟨RX6, "<init>", "(LRunsBack$Puts;)V"⟩
abbrev cX6_clear : ByteArray := prog_8_method_3_code
def yX6_clear : MethodName := ⟨RX6, "clear", "()V"⟩
abbrev cX6_has : ByteArray := prog_8_method_4_code
def yX6_has : MethodName := ⟨RX6, "has", "(I)Z"⟩
abbrev cX6_timeOf : ByteArray := prog_8_method_5_code
def yX6_timeOf : MethodName := ⟨RX6, "timeOf", "(I)I"⟩
abbrev cX6_placeOf : ByteArray := prog_8_method_6_code
def yX6_placeOf : MethodName := ⟨RX6, "placeOf", "(I)I"⟩
abbrev cX6_sortOf : ByteArray := prog_8_method_7_code
def yX6_sortOf : MethodName := ⟨RX6, "sortOf", "(I)I"⟩
abbrev cX6_numberOf : ByteArray := prog_8_method_8_code
def yX6_numberOf : MethodName := ⟨RX6, "numberOf", "(I)I"⟩
abbrev cX6_changesOf : ByteArray := prog_8_method_9_code
def yX6_changesOf : MethodName := ⟨RX6, "changesOf", "(I)I"⟩
abbrev cX6_aheadOf : ByteArray := prog_8_method_10_code
def yX6_aheadOf : MethodName := ⟨RX6, "aheadOf", "(I)I"⟩
abbrev cX6_latestOf : ByteArray := prog_8_method_11_code
def yX6_latestOf : MethodName := ⟨RX6, "latestOf", "(I)I"⟩
abbrev cX6_hasValue : ByteArray := prog_8_method_12_code
def yX6_hasValue : MethodName := ⟨RX6, "hasValue", "(III)Z"⟩
abbrev cX6_add : ByteArray := prog_8_method_13_code
def yX6_add : MethodName := ⟨RX6, "add", "(IIII)Z"⟩
abbrev cX6_restLatestOn : ByteArray := prog_8_method_14_code
def yX6_restLatestOn : MethodName := ⟨RX6, "restLatestOn", "(IIII)V"⟩
abbrev cX6_dropBehind : ByteArray := prog_8_method_15_code
def yX6_dropBehind : MethodName := ⟨RX6, "dropBehind", "(I)V"⟩
abbrev cX6_putBy : ByteArray := prog_8_method_16_code
def yX6_putBy : MethodName := ⟨RX6, "putBy", "(II)I"⟩
abbrev cX6_changedSince : ByteArray := prog_8_method_17_code
def yX6_changedSince : MethodName := ⟨RX6, "changedSince", "(I)I"⟩
abbrev cX6_hadBy : ByteArray := prog_8_method_18_code
def yX6_hadBy : MethodName := ⟨RX6, "hadBy", "(IIII)I"⟩
abbrev cX6_changeTimes : ByteArray := prog_8_method_19_code
def yX6_changeTimes : MethodName := ⟨RX6, "changeTimes", "(II)I"⟩
abbrev cX6_markAllBelow : ByteArray := prog_8_method_20_code
def yX6_markAllBelow : MethodName := ⟨RX6, "markAllBelow", "(I[Z)V"⟩
abbrev cX6_mark : ByteArray := prog_8_method_21_code
def yX6_mark : MethodName := ⟨RX6, "mark", "([ZI)V"⟩
abbrev cX6_markedStep : ByteArray := prog_8_method_22_code
def yX6_markedStep : MethodName := ⟨RX6, "markedStep", "(I[Z)I"⟩
abbrev cX6_markAllAbove : ByteArray := prog_8_method_23_code
def yX6_markAllAbove : MethodName := ⟨RX6, "markAllAbove", "(I[Z)V"⟩
def RX7 : String := "RunsBack$Run"
def TX7 : u_T := fun k => match k with
  | 0 => ("RunsBack$Run", "program", "LRunsBack$Program;", true)
  | 1 => ("RunsBack$Run", "log", "LRunsBack$Log;", true)
  | 2 => ("RunsBack$Run", "puts", "LRunsBack$Puts;", true)
  | 3 => ("RunsBack$Run", "calls", "LRunsBack$Calls;", true)
  | 4 => ("RunsBack$Run", "holding", "LRunsBack$Holding;", true)
  | 5 => ("RunsBack$Run", "counter", "[I", true)
  | 6 => ("RunsBack$Run", "outs", "[I", true)
  | 7 => ("RunsBack$Run", "check", "[I", true)
  | 8 => ("RunsBack$Run", "top", "[I", true)
  | 9 => ("RunsBack$Run", "time", "I", false)
  | 10 => ("RunsBack$Run", "end", "I", false)
  | 11 => ("RunsBack$Run", "changedPlace", "I", false)
  | 12 => ("RunsBack$Run", "replayed", "I", false)
  | 13 => ("RunsBack$Run", "backs", "I", false)
  | _ => ("RunsBack$Run", "statusKept", "I", false)
def tyX7 : Nat → FieldType := fun k => match k with
  | 0 => .object "RunsBack$Program"
  | 1 => .object "RunsBack$Log"
  | 2 => .object "RunsBack$Puts"
  | 3 => .object "RunsBack$Calls"
  | 4 => .object "RunsBack$Holding"
  | 5 => .array .int
  | 6 => .array .int
  | 7 => .array .int
  | 8 => .array .int
  | 9 => .int
  | 10 => .int
  | 11 => .int
  | 12 => .int
  | 13 => .int
  | _ => .int
abbrev wsX70 : List Cond := u_ws RX7 TX7 15
theorem nmX7 : ∀ a, a < 15 → ∀ b, b < 15 → a ≠ b → (TX7 a).2.1 ≠ (TX7 b).2.1 := by decide +kernel
theorem tyX7_ok : ∀ k, k < 15 → parseFieldDescriptor (TX7 k).2.2.1 = some (tyX7 k) := by decide +kernel
abbrev cX7_init : ByteArray := prog_9_method_1_code
def yX7_init : MethodName := ⟨RX7, "<init>", "()V"⟩
abbrev cX7_init_ : ByteArray := prog_9_method_2_code
def yX7_init_ : MethodName := ⟨RX7, "<init>", "(LRunsBack$Run;I)V"⟩
abbrev cX7_start : ByteArray := prog_9_method_3_code
def yX7_start : MethodName := ⟨RX7, "start", "(LRunsBack$Program;II)V"⟩
abbrev cX7_hasTime : ByteArray := prog_9_method_4_code
def yX7_hasTime : MethodName := ⟨RX7, "hasTime", "(I)Z"⟩
abbrev cX7_counterAt : ByteArray := prog_9_method_5_code
def yX7_counterAt : MethodName := ⟨RX7, "counterAt", "(I)I"⟩
abbrev cX7_outsAt : ByteArray := prog_9_method_6_code
def yX7_outsAt : MethodName := ⟨RX7, "outsAt", "(I)I"⟩
abbrev cX7_checkAt : ByteArray := prog_9_method_7_code
def yX7_checkAt : MethodName := ⟨RX7, "checkAt", "(I)I"⟩
abbrev cX7_topAt : ByteArray := prog_9_method_8_code
def yX7_topAt : MethodName := ⟨RX7, "topAt", "(I)I"⟩
abbrev cX7_stackSizeAt : ByteArray := prog_9_method_9_code
def yX7_stackSizeAt : MethodName := ⟨RX7, "stackSizeAt", "(I)I"⟩
abbrev cX7_stackedAt : ByteArray := prog_9_method_10_code
def yX7_stackedAt : MethodName := ⟨RX7, "stackedAt", "(II)I"⟩
abbrev cX7_hasStackLike : ByteArray := prog_9_method_11_code
def yX7_hasStackLike : MethodName := ⟨RX7, "hasStackLike", "(ILRunsBack$Run;)Z"⟩
abbrev cX7_statusWith : ByteArray := prog_9_method_12_code
def yX7_statusWith : MethodName := ⟨RX7, "statusWith", "(LRunsBack$Outside;)I"⟩
abbrev cX7_canStep : ByteArray := prog_9_method_13_code
def yX7_canStep : MethodName := ⟨RX7, "canStep", "(LRunsBack$Outside;)Z"⟩
abbrev cX7_step : ByteArray := prog_9_method_14_code
def yX7_step : MethodName := ⟨RX7, "step", "(LRunsBack$Outside;)V"⟩
abbrev cX7_putByPoke : ByteArray := prog_9_method_15_code
def yX7_putByPoke : MethodName := ⟨RX7, "putByPoke", "(III)Z"⟩
abbrev cX7_putByStep : ByteArray := prog_9_method_16_code
def yX7_putByStep : MethodName := ⟨RX7, "putByStep", "(IIIII)V"⟩
abbrev cX7_putFromOutside : ByteArray := prog_9_method_17_code
def yX7_putFromOutside : MethodName := ⟨RX7, "putFromOutside", "(III)V"⟩
abbrev cX7_goOnAt : ByteArray := prog_9_method_18_code
def yX7_goOnAt : MethodName := ⟨RX7, "goOnAt", "(I)V"⟩
abbrev cX7_addOut : ByteArray := prog_9_method_19_code
def yX7_addOut : MethodName := ⟨RX7, "addOut", "(II)V"⟩
abbrev cX7_stackUp : ByteArray := prog_9_method_20_code
def yX7_stackUp : MethodName := ⟨RX7, "stackUp", "()V"⟩
abbrev cX7_stackDown : ByteArray := prog_9_method_21_code
def yX7_stackDown : MethodName := ⟨RX7, "stackDown", "()V"⟩
abbrev cX7_goBack : ByteArray := prog_9_method_22_code
def yX7_goBack : MethodName := ⟨RX7, "goBack", "(ILRunsBack$Outside;)V"⟩
def RX8 : String := "RunsBack$Stepping"
def TX8 : u_T := fun k => match k with
  | _ => ("", "", "", false)
def tyX8 : Nat → FieldType := fun k => match k with
  | _ => .int
abbrev wsX80 : List Cond := u_ws RX8 TX8 0
theorem nmX8 : ∀ a, a < 0 → ∀ b, b < 0 → a ≠ b → (TX8 a).2.1 ≠ (TX8 b).2.1 := by decide +kernel
theorem tyX8_ok : ∀ k, k < 0 → parseFieldDescriptor (TX8 k).2.2.1 = some (tyX8 k) := by decide +kernel
abbrev cX8_perform : ByteArray := prog_10_method_2_code
def yX8_perform : MethodName := ⟨RX8, "perform", "(LRunsBack$Run;ILRunsBack$Outside;)I"⟩
abbrev cX8_putOut : ByteArray := prog_10_method_3_code
def yX8_putOut : MethodName := ⟨RX8, "putOut", "(LRunsBack$Run;I)V"⟩
abbrev cX8_copy : ByteArray := prog_10_method_4_code
def yX8_copy : MethodName := ⟨RX8, "copy", "(LRunsBack$Run;II)V"⟩
abbrev cX8_compare : ByteArray := prog_10_method_5_code
def yX8_compare : MethodName := ⟨RX8, "compare", "(LRunsBack$Run;III)V"⟩
abbrev cX8_combine : ByteArray := prog_10_method_6_code
def yX8_combine : MethodName := ⟨RX8, "combine", "(LRunsBack$Run;IIII)I"⟩
abbrev cX8_fromCell : ByteArray := prog_10_method_7_code
def yX8_fromCell : MethodName := ⟨RX8, "fromCell", "(LRunsBack$Run;II)I"⟩
abbrev cX8_toCell : ByteArray := prog_10_method_8_code
def yX8_toCell : MethodName := ⟨RX8, "toCell", "(LRunsBack$Run;II)I"⟩
abbrev cX8_goOnIf : ByteArray := prog_10_method_9_code
def yX8_goOnIf : MethodName := ⟨RX8, "goOnIf", "(LRunsBack$Run;II)I"⟩
abbrev cX8_goDown : ByteArray := prog_10_method_10_code
def yX8_goDown : MethodName := ⟨RX8, "goDown", "(LRunsBack$Run;I)I"⟩
abbrev cX8_goUp : ByteArray := prog_10_method_11_code
def yX8_goUp : MethodName := ⟨RX8, "goUp", "(LRunsBack$Run;)V"⟩
abbrev cX8_reckon : ByteArray := prog_10_method_12_code
def yX8_reckon : MethodName := ⟨RX8, "reckon", "(LRunsBack$Run;IIII)I"⟩
abbrev cX8_reckoned : ByteArray := prog_10_method_13_code
def yX8_reckoned : MethodName := ⟨RX8, "reckoned", "(III)I"⟩
def RX9 : String := "RunsBack"
def TX9 : u_T := fun k => match k with
  | 0 => ("RunsBack", "program", "LRunsBack$Program;", true)
  | 1 => ("RunsBack", "outside", "LRunsBack$Outside;", true)
  | 2 => ("RunsBack", "beside", "LRunsBack$Beside;", true)
  | 3 => ("RunsBack", "marks", "[Z", true)
  | 4 => ("RunsBack", "kept", "[LRunsBack$Run;", true)
  | 5 => ("RunsBack", "keptCount", "I", false)
  | 6 => ("RunsBack", "now", "LRunsBack$Run;", false)
  | 7 => ("RunsBack", "askedNumber", "I", false)
  | 8 => ("RunsBack", "unitToCome", "I", false)
  | 9 => ("RunsBack", "depthToCome", "I", false)
  | 10 => ("RunsBack", "watchedRegisters", "I", false)
  | 11 => ("RunsBack", "watchedCells", "I", false)
  | _ => ("RunsBack", "latestReplayed", "I", false)
def tyX9 : Nat → FieldType := fun k => match k with
  | 0 => .object "RunsBack$Program"
  | 1 => .object "RunsBack$Outside"
  | 2 => .object "RunsBack$Beside"
  | 3 => .array .boolean
  | 4 => .array (.object "RunsBack$Run")
  | 5 => .int
  | 6 => .object "RunsBack$Run"
  | 7 => .int
  | 8 => .int
  | 9 => .int
  | 10 => .int
  | 11 => .int
  | _ => .int
abbrev wsX90 : List Cond := u_ws RX9 TX9 13
theorem nmX9 : ∀ a, a < 13 → ∀ b, b < 13 → a ≠ b → (TX9 a).2.1 ≠ (TX9 b).2.1 := by decide +kernel
theorem tyX9_ok : ∀ k, k < 13 → parseFieldDescriptor (TX9 k).2.2.1 = some (tyX9 k) := by decide +kernel
abbrev cX9_init : ByteArray := prog_1_method_1_code
def yX9_init : MethodName := ⟨RX9, "<init>", "()V"⟩
abbrev cX9_code : ByteArray := prog_1_method_2_code
def yX9_code : MethodName := ⟨RX9, "code", "(IIIII)Z"⟩
abbrev cX9_spacing : ByteArray := prog_1_method_3_code
def yX9_spacing : MethodName := ⟨RX9, "spacing", "(II)Z"⟩
abbrev cX9_begin : ByteArray := prog_1_method_4_code
def yX9_begin : MethodName := ⟨RX9, "begin", "()I"⟩
abbrev cX9_give : ByteArray := prog_1_method_5_code
def yX9_give : MethodName := ⟨RX9, "give", "(I)I"⟩
abbrev cX9_seed : ByteArray := prog_1_method_6_code
def yX9_seed : MethodName := ⟨RX9, "seed", "(I)I"⟩
abbrev cX9_poke : ByteArray := prog_1_method_7_code
def yX9_poke : MethodName := ⟨RX9, "poke", "(III)I"⟩
abbrev cX9_run : ByteArray := prog_1_method_8_code
def yX9_run : MethodName := ⟨RX9, "run", "(I)I"⟩
abbrev cX9_watch : ByteArray := prog_1_method_9_code
def yX9_watch : MethodName := ⟨RX9, "watch", "(IZ)Z"⟩
abbrev cX9_back : ByteArray := prog_1_method_10_code
def yX9_back : MethodName := ⟨RX9, "back", "(I)I"⟩
abbrev cX9_keep : ByteArray := prog_1_method_11_code
def yX9_keep : MethodName := ⟨RX9, "keep", "()I"⟩
abbrev cX9_use : ByteArray := prog_1_method_12_code
def yX9_use : MethodName := ⟨RX9, "use", "(I)Z"⟩
abbrev cX9_at : ByteArray := prog_1_method_13_code
def yX9_at : MethodName := ⟨RX9, "at", "(III)I"⟩
abbrev cX9_state : ByteArray := prog_1_method_14_code
def yX9_state : MethodName := ⟨RX9, "state", "(II)I"⟩
abbrev cX9_last : ByteArray := prog_1_method_15_code
def yX9_last : MethodName := ⟨RX9, "last", "(II)I"⟩
abbrev cX9_when : ByteArray := prog_1_method_16_code
def yX9_when : MethodName := ⟨RX9, "when", "(IIII)I"⟩
abbrev cX9_changed : ByteArray := prog_1_method_17_code
def yX9_changed : MethodName := ⟨RX9, "changed", "(II)I"⟩
abbrev cX9_watched : ByteArray := prog_1_method_18_code
def yX9_watched : MethodName := ⟨RX9, "watched", "(I)I"⟩
abbrev cX9_rests : ByteArray := prog_1_method_19_code
def yX9_rests : MethodName := ⟨RX9, "rests", "(III)I"⟩
abbrev cX9_hangs : ByteArray := prog_1_method_20_code
def yX9_hangs : MethodName := ⟨RX9, "hangs", "(III)I"⟩
abbrev cX9_history : ByteArray := prog_1_method_21_code
def yX9_history : MethodName := ⟨RX9, "history", "(III)I"⟩
abbrev cX9_done : ByteArray := prog_1_method_22_code
def yX9_done : MethodName := ⟨RX9, "done", "(II)I"⟩
abbrev cX9_call : ByteArray := prog_1_method_23_code
def yX9_call : MethodName := ⟨RX9, "call", "(II)I"⟩
abbrev cX9_log : ByteArray := prog_1_method_24_code
def yX9_log : MethodName := ⟨RX9, "log", "(II)I"⟩
abbrev cX9_held : ByteArray := prog_1_method_25_code
def yX9_held : MethodName := ⟨RX9, "held", "(II)I"⟩
abbrev cX9_would : ByteArray := prog_1_method_26_code
def yX9_would : MethodName := ⟨RX9, "would", "(III)I"⟩
abbrev cX9_gap : ByteArray := prog_1_method_27_code
def yX9_gap : MethodName := ⟨RX9, "gap", "(III)I"⟩
abbrev cX9_sparing : ByteArray := prog_1_method_28_code
def yX9_sparing : MethodName := ⟨RX9, "sparing", "(III)I"⟩
abbrev cX9_align : ByteArray := prog_1_method_29_code
def yX9_align : MethodName := ⟨RX9, "align", "(II)I"⟩
abbrev cX9_pair : ByteArray := prog_1_method_30_code
def yX9_pair : MethodName := ⟨RX9, "pair", "(IIII)I"⟩
abbrev cX9_parts : ByteArray := prog_1_method_31_code
def yX9_parts : MethodName := ⟨RX9, "parts", "(II)I"⟩
abbrev cX9_look : ByteArray := prog_1_method_32_code
def yX9_look : MethodName := ⟨RX9, "look", "(I)I"⟩
abbrev cX9_lookAtRun : ByteArray := prog_1_method_33_code
def yX9_lookAtRun : MethodName := ⟨RX9, "lookAtRun", "(LRunsBack$Run;I)I"⟩
abbrev cX9_isKept : ByteArray := prog_1_method_34_code
def yX9_isKept : MethodName := ⟨RX9, "isKept", "(I)Z"⟩
abbrev cX9_numbered : ByteArray := prog_1_method_35_code
def yX9_numbered : MethodName := ⟨RX9, "numbered", "(I)LRunsBack$Run;"⟩
abbrev cX9_isWatched : ByteArray := prog_1_method_36_code
def yX9_isWatched : MethodName := ⟨RX9, "isWatched", "(I)Z"⟩
abbrev cX9_replay : ByteArray := prog_1_method_37_code
def yX9_replay : MethodName := ⟨RX9, "replay", "(LRunsBack$Run;I)V"⟩
abbrev cX9_count : ByteArray := prog_1_method_38_code
def yX9_count : MethodName := ⟨RX9, "count", "(LRunsBack$Run;I)V"⟩
abbrev cX9_lastChange : ByteArray := prog_1_method_39_code
def yX9_lastChange : MethodName := ⟨RX9, "lastChange", "(LRunsBack$Run;II)I"⟩
abbrev cX9_unlike : ByteArray := prog_1_method_40_code
def yX9_unlike : MethodName := ⟨RX9, "unlike", "(LRunsBack$Puts;ILRunsBack$Puts;II)I"⟩
abbrev cX9_wouldBeHeld : ByteArray := prog_1_method_41_code
def yX9_wouldBeHeld : MethodName := ⟨RX9, "wouldBeHeld", "(III)I"⟩
abbrev cX9_isPlace : ByteArray := prog_1_method_42_code
def yX9_isPlace : MethodName := ⟨RX9, "isPlace", "(I)Z"⟩
abbrev cX9_isInstructionPlace : ByteArray := prog_1_method_43_code
def yX9_isInstructionPlace : MethodName := ⟨RX9, "isInstructionPlace", "(I)Z"⟩
abbrev cX9_isUnit : ByteArray := prog_1_method_44_code
def yX9_isUnit : MethodName := ⟨RX9, "isUnit", "(I)Z"⟩
abbrev cX9_isDepth : ByteArray := prog_1_method_45_code
def yX9_isDepth : MethodName := ⟨RX9, "isDepth", "(I)Z"⟩
abbrev cX9_isAnyTime : ByteArray := prog_1_method_46_code
def yX9_isAnyTime : MethodName := ⟨RX9, "isAnyTime", "(I)Z"⟩
abbrev cX9_isStateWhat : ByteArray := prog_1_method_47_code
def yX9_isStateWhat : MethodName := ⟨RX9, "isStateWhat", "(I)Z"⟩
abbrev cX9_isPlacesWhat : ByteArray := prog_1_method_48_code
def yX9_isPlacesWhat : MethodName := ⟨RX9, "isPlacesWhat", "(I)Z"⟩
abbrev cX9_firstPlaceOf : ByteArray := prog_1_method_49_code
def yX9_firstPlaceOf : MethodName := ⟨RX9, "firstPlaceOf", "(I)I"⟩
abbrev cX9_placesOf : ByteArray := prog_1_method_50_code
def yX9_placesOf : MethodName := ⟨RX9, "placesOf", "(I)I"⟩
abbrev cX9_isMarked : ByteArray := prog_1_method_51_code
def yX9_isMarked : MethodName := ⟨RX9, "isMarked", "([ZI)Z"⟩
abbrev cX9_isValue : ByteArray := prog_1_method_52_code
def yX9_isValue : MethodName := ⟨RX9, "isValue", "(II)Z"⟩
abbrev cX9_isInstruction : ByteArray := prog_1_method_53_code
def yX9_isInstruction : MethodName := ⟨RX9, "isInstruction", "(IIII)Z"⟩
abbrev cX9_fits : ByteArray := prog_1_method_54_code
def yX9_fits : MethodName := ⟨RX9, "fits", "(II)Z"⟩
def RX10 : String := "RunsBackModel"
def TX10 : u_T := fun k => match k with
  | 0 => ("RunsBackModel", "kinds", "[I", true)
  | 1 => ("RunsBackModel", "as", "[I", true)
  | 2 => ("RunsBackModel", "bs", "[I", true)
  | 3 => ("RunsBackModel", "cs", "[I", true)
  | 4 => ("RunsBackModel", "unit", "I", false)
  | 5 => ("RunsBackModel", "depth", "I", false)
  | 6 => ("RunsBackModel", "isRun", "[Z", true)
  | 7 => ("RunsBackModel", "runKind", "[I", true)
  | 8 => ("RunsBackModel", "runA", "[I", true)
  | 9 => ("RunsBackModel", "runB", "[I", true)
  | 10 => ("RunsBackModel", "runC", "[I", true)
  | 11 => ("RunsBackModel", "logTime", "[I", true)
  | 12 => ("RunsBackModel", "logSort", "[I", true)
  | 13 => ("RunsBackModel", "logNumber", "[I", true)
  | 14 => ("RunsBackModel", "logPlace", "[I", true)
  | 15 => ("RunsBackModel", "logValue", "[I", true)
  | 16 => ("RunsBackModel", "logs", "[I", true)
  | 17 => ("RunsBackModel", "callTime", "[I", true)
  | 18 => ("RunsBackModel", "callTo", "[I", true)
  | 19 => ("RunsBackModel", "callDeep", "[I", true)
  | 20 => ("RunsBackModel", "calls", "[I", true)
  | 21 => ("RunsBackModel", "isHeld", "[Z", true)
  | 22 => ("RunsBackModel", "times", "[I", true)
  | 23 => ("RunsBackModel", "statuses", "[I", true)
  | 24 => ("RunsBackModel", "units", "[I", true)
  | 25 => ("RunsBackModel", "depths", "[I", true)
  | 26 => ("RunsBackModel", "replayed", "[I", true)
  | 27 => ("RunsBackModel", "mostHeld", "[I", true)
  | 28 => ("RunsBackModel", "backs", "[I", true)
  | 29 => ("RunsBackModel", "kept", "I", false)
  | 30 => ("RunsBackModel", "asked", "I", false)
  | 31 => ("RunsBackModel", "live", "[I", true)
  | 32 => ("RunsBackModel", "inputs", "[I", true)
  | 33 => ("RunsBackModel", "waiting", "I", false)
  | 34 => ("RunsBackModel", "x", "I", false)
  | 35 => ("RunsBackModel", "latest", "I", false)
  | 36 => ("RunsBackModel", "isWatched", "[Z", true)
  | 37 => ("RunsBackModel", "trap", "I", false)
  | 38 => ("RunsBackModel", "took", "I", false)
  | 39 => ("RunsBackModel", "put", "I", false)
  | 40 => ("RunsBackModel", "sim", "[I", true)
  | 41 => ("RunsBackModel", "simRun", "I", false)
  | 42 => ("RunsBackModel", "simLog", "I", false)
  | 43 => ("RunsBackModel", "changesWere", "[I", true)
  | 44 => ("RunsBackModel", "rest", "[I", true)
  | 45 => ("RunsBackModel", "looked", "[I", true)
  | 46 => ("RunsBackModel", "pairs", "[I", true)
  | 47 => ("RunsBackModel", "oneRun", "I", false)
  | 48 => ("RunsBackModel", "otherRun", "I", false)
  | 49 => ("RunsBackModel", "pairOne", "I", false)
  | 50 => ("RunsBackModel", "pairOther", "I", false)
  | 51 => ("RunsBackModel", "aside", "[I", true)
  | 52 => ("RunsBackModel", "before", "[I", true)
  | 53 => ("RunsBackModel", "beforeRun", "I", false)
  | _ => ("RunsBackModel", "beforeLog", "I", false)
def tyX10 : Nat → FieldType := fun k => match k with
  | 0 => .array .int
  | 1 => .array .int
  | 2 => .array .int
  | 3 => .array .int
  | 4 => .int
  | 5 => .int
  | 6 => .array .boolean
  | 7 => .array .int
  | 8 => .array .int
  | 9 => .array .int
  | 10 => .array .int
  | 11 => .array .int
  | 12 => .array .int
  | 13 => .array .int
  | 14 => .array .int
  | 15 => .array .int
  | 16 => .array .int
  | 17 => .array .int
  | 18 => .array .int
  | 19 => .array .int
  | 20 => .array .int
  | 21 => .array .boolean
  | 22 => .array .int
  | 23 => .array .int
  | 24 => .array .int
  | 25 => .array .int
  | 26 => .array .int
  | 27 => .array .int
  | 28 => .array .int
  | 29 => .int
  | 30 => .int
  | 31 => .array .int
  | 32 => .array .int
  | 33 => .int
  | 34 => .int
  | 35 => .int
  | 36 => .array .boolean
  | 37 => .int
  | 38 => .int
  | 39 => .int
  | 40 => .array .int
  | 41 => .int
  | 42 => .int
  | 43 => .array .int
  | 44 => .array .int
  | 45 => .array .int
  | 46 => .array .int
  | 47 => .int
  | 48 => .int
  | 49 => .int
  | 50 => .int
  | 51 => .array .int
  | 52 => .array .int
  | 53 => .int
  | _ => .int
abbrev wsX100 : List Cond := u_ws RX10 TX10 55
theorem nmX10 : ∀ a, a < 55 → ∀ b, b < 55 → a ≠ b → (TX10 a).2.1 ≠ (TX10 b).2.1 := by decide +kernel
theorem tyX10_ok : ∀ k, k < 55 → parseFieldDescriptor (TX10 k).2.2.1 = some (tyX10 k) := by decide +kernel
abbrev cX10_isIn : ByteArray := prog_12_method_1_code
def yX10_isIn : MethodName := ⟨RX10, "isIn", "(III)Z"⟩
abbrev cX10_one : ByteArray := prog_12_method_2_code
def yX10_one : MethodName := ⟨RX10, "one", "(Z)I"⟩
abbrev cX10_init : ByteArray := prog_12_method_3_code
def yX10_init : MethodName := ⟨RX10, "<init>", "()V"⟩
abbrev cX10_isRegister : ByteArray := prog_12_method_4_code
def yX10_isRegister : MethodName := ⟨RX10, "isRegister", "(I)Z"⟩
abbrev cX10_isFine : ByteArray := prog_12_method_5_code
def yX10_isFine : MethodName := ⟨RX10, "isFine", "(IIII)Z"⟩
abbrev cX10_code : ByteArray := prog_12_method_6_code
def yX10_code : MethodName := ⟨RX10, "code", "(IIIII)Z"⟩
abbrev cX10_isSpacing : ByteArray := prog_12_method_7_code
def yX10_isSpacing : MethodName := ⟨RX10, "isSpacing", "(II)Z"⟩
abbrev cX10_spacing : ByteArray := prog_12_method_8_code
def yX10_spacing : MethodName := ⟨RX10, "spacing", "(II)Z"⟩
abbrev cX10_heldAt : ByteArray := prog_12_method_9_code
def yX10_heldAt : MethodName := ⟨RX10, "heldAt", "(II)I"⟩
abbrev cX10_clears : ByteArray := prog_12_method_10_code
def yX10_clears : MethodName := ⟨RX10, "clears", "([I)V"⟩
abbrev cX10_begin : ByteArray := prog_12_method_11_code
def yX10_begin : MethodName := ⟨RX10, "begin", "()I"⟩
abbrev cX10_give : ByteArray := prog_12_method_12_code
def yX10_give : MethodName := ⟨RX10, "give", "(I)I"⟩
abbrev cX10_seed : ByteArray := prog_12_method_13_code
def yX10_seed : MethodName := ⟨RX10, "seed", "(I)I"⟩
abbrev cX10_isValue : ByteArray := prog_12_method_14_code
def yX10_isValue : MethodName := ⟨RX10, "isValue", "(II)Z"⟩
abbrev cX10_isPlace : ByteArray := prog_12_method_15_code
def yX10_isPlace : MethodName := ⟨RX10, "isPlace", "(I)Z"⟩
abbrev cX10_puts : ByteArray := prog_12_method_16_code
def yX10_puts : MethodName := ⟨RX10, "puts", "([IIII)V"⟩
abbrev cX10_notes : ByteArray := prog_12_method_17_code
def yX10_notes : MethodName := ⟨RX10, "notes", "(IIII)V"⟩
abbrev cX10_poke : ByteArray := prog_12_method_18_code
def yX10_poke : MethodName := ⟨RX10, "poke", "(III)I"⟩
abbrev cX10_kindAt : ByteArray := prog_12_method_19_code
def yX10_kindAt : MethodName := ⟨RX10, "kindAt", "(II)I"⟩
abbrev cX10_isOf : ByteArray := prog_12_method_20_code
def yX10_isOf : MethodName := ⟨RX10, "isOf", "([III)Z"⟩
abbrev cX10_traps : ByteArray := prog_12_method_21_code
def yX10_traps : MethodName := ⟨RX10, "traps", "([II)V"⟩
abbrev cX10_gives : ByteArray := prog_12_method_22_code
def yX10_gives : MethodName := ⟨RX10, "gives", "([IIII)V"⟩
abbrev cX10_steps : ByteArray := prog_12_method_23_code
def yX10_steps : MethodName := ⟨RX10, "steps", "([III)V"⟩
abbrev cX10_does : ByteArray := prog_12_method_24_code
def yX10_does : MethodName := ⟨RX10, "does", "([IIIIIII)V"⟩
abbrev cX10_reckons : ByteArray := prog_12_method_25_code
def yX10_reckons : MethodName := ⟨RX10, "reckons", "([IIIII)V"⟩
abbrev cX10_cells : ByteArray := prog_12_method_26_code
def yX10_cells : MethodName := ⟨RX10, "cells", "([IIII)V"⟩
abbrev cX10_goes : ByteArray := prog_12_method_27_code
def yX10_goes : MethodName := ⟨RX10, "goes", "([IIII)V"⟩
abbrev cX10_status : ByteArray := prog_12_method_28_code
def yX10_status : MethodName := ⟨RX10, "status", "()I"⟩
abbrev cX10_halvings : ByteArray := prog_12_method_29_code
def yX10_halvings : MethodName := ⟨RX10, "halvings", "(I)I"⟩
abbrev cX10_goesWith : ByteArray := prog_12_method_30_code
def yX10_goesWith : MethodName := ⟨RX10, "goesWith", "(II)I"⟩
abbrev cX10_heldMany : ByteArray := prog_12_method_31_code
def yX10_heldMany : MethodName := ⟨RX10, "heldMany", "(I)I"⟩
abbrev cX10_comes : ByteArray := prog_12_method_32_code
def yX10_comes : MethodName := ⟨RX10, "comes", "()V"⟩
abbrev cX10_takesInput : ByteArray := prog_12_method_33_code
def yX10_takesInput : MethodName := ⟨RX10, "takesInput", "()V"⟩
abbrev cX10_draws : ByteArray := prog_12_method_34_code
def yX10_draws : MethodName := ⟨RX10, "draws", "(I)V"⟩
abbrev cX10_goesOn : ByteArray := prog_12_method_35_code
def yX10_goesOn : MethodName := ⟨RX10, "goesOn", "()V"⟩
abbrev cX10_watchedChanges : ByteArray := prog_12_method_36_code
def yX10_watchedChanges : MethodName := ⟨RX10, "watchedChanges", "()I"⟩
abbrev cX10_run : ByteArray := prog_12_method_37_code
def yX10_run : MethodName := ⟨RX10, "run", "(I)I"⟩
abbrev cX10_watch : ByteArray := prog_12_method_38_code
def yX10_watch : MethodName := ⟨RX10, "watch", "(IZ)Z"⟩
abbrev cX10_simPokes : ByteArray := prog_12_method_39_code
def yX10_simPokes : MethodName := ⟨RX10, "simPokes", "()V"⟩
abbrev cX10_simBegins : ByteArray := prog_12_method_40_code
def yX10_simBegins : MethodName := ⟨RX10, "simBegins", "(I)V"⟩
abbrev cX10_simStep : ByteArray := prog_12_method_41_code
def yX10_simStep : MethodName := ⟨RX10, "simStep", "()V"⟩
abbrev cX10_lays : ByteArray := prog_12_method_42_code
def yX10_lays : MethodName := ⟨RX10, "lays", "(II)V"⟩
abbrev cX10_heldBy : ByteArray := prog_12_method_43_code
def yX10_heldBy : MethodName := ⟨RX10, "heldBy", "(II)I"⟩
abbrev cX10_counts : ByteArray := prog_12_method_44_code
def yX10_counts : MethodName := ⟨RX10, "counts", "(II)V"⟩
abbrev cX10_replays : ByteArray := prog_12_method_45_code
def yX10_replays : MethodName := ⟨RX10, "replays", "(II)V"⟩
abbrev cX10_runAsked : ByteArray := prog_12_method_46_code
def yX10_runAsked : MethodName := ⟨RX10, "runAsked", "()I"⟩
abbrev cX10_isTime : ByteArray := prog_12_method_47_code
def yX10_isTime : MethodName := ⟨RX10, "isTime", "(I)Z"⟩
abbrev cX10_back : ByteArray := prog_12_method_48_code
def yX10_back : MethodName := ⟨RX10, "back", "(I)I"⟩
abbrev cX10_copies : ByteArray := prog_12_method_49_code
def yX10_copies : MethodName := ⟨RX10, "copies", "([IIII)V"⟩
abbrev cX10_keep : ByteArray := prog_12_method_50_code
def yX10_keep : MethodName := ⟨RX10, "keep", "()I"⟩
abbrev cX10_use : ByteArray := prog_12_method_51_code
def yX10_use : MethodName := ⟨RX10, "use", "(I)Z"⟩
abbrev cX10_at : ByteArray := prog_12_method_52_code
def yX10_at : MethodName := ⟨RX10, "at", "(III)I"⟩
abbrev cX10_state : ByteArray := prog_12_method_53_code
def yX10_state : MethodName := ⟨RX10, "state", "(II)I"⟩
abbrev cX10_lastOf : ByteArray := prog_12_method_54_code
def yX10_lastOf : MethodName := ⟨RX10, "lastOf", "(II)I"⟩
abbrev cX10_last : ByteArray := prog_12_method_55_code
def yX10_last : MethodName := ⟨RX10, "last", "(II)I"⟩
abbrev cX10_hadIn : ByteArray := prog_12_method_56_code
def yX10_hadIn : MethodName := ⟨RX10, "hadIn", "(IIIIII)I"⟩
abbrev cX10_when : ByteArray := prog_12_method_57_code
def yX10_when : MethodName := ⟨RX10, "when", "(IIII)I"⟩
abbrev cX10_changed : ByteArray := prog_12_method_58_code
def yX10_changed : MethodName := ⟨RX10, "changed", "(II)I"⟩
abbrev cX10_watched : ByteArray := prog_12_method_59_code
def yX10_watched : MethodName := ⟨RX10, "watched", "(I)I"⟩
abbrev cX10_clearsLooked : ByteArray := prog_12_method_60_code
def yX10_clearsLooked : MethodName := ⟨RX10, "clearsLooked", "()V"⟩
abbrev cX10_looksAt : ByteArray := prog_12_method_61_code
def yX10_looksAt : MethodName := ⟨RX10, "looksAt", "(I)V"⟩
abbrev cX10_adds : ByteArray := prog_12_method_62_code
def yX10_adds : MethodName := ⟨RX10, "adds", "(I)V"⟩
abbrev cX10_restsOn : ByteArray := prog_12_method_63_code
def yX10_restsOn : MethodName := ⟨RX10, "restsOn", "(I)V"⟩
abbrev cX10_restPokes : ByteArray := prog_12_method_64_code
def yX10_restPokes : MethodName := ⟨RX10, "restPokes", "()V"⟩
abbrev cX10_looks : ByteArray := prog_12_method_65_code
def yX10_looks : MethodName := ⟨RX10, "looks", "()V"⟩
abbrev cX10_laysRests : ByteArray := prog_12_method_66_code
def yX10_laysRests : MethodName := ⟨RX10, "laysRests", "(II)V"⟩
abbrev cX10_restsOnBit : ByteArray := prog_12_method_67_code
def yX10_restsOnBit : MethodName := ⟨RX10, "restsOnBit", "(II)Z"⟩
abbrev cX10_rests : ByteArray := prog_12_method_68_code
def yX10_rests : MethodName := ⟨RX10, "rests", "(III)I"⟩
abbrev cX10_hangs : ByteArray := prog_12_method_69_code
def yX10_hangs : MethodName := ⟨RX10, "hangs", "(III)I"⟩
abbrev cX10_history : ByteArray := prog_12_method_70_code
def yX10_history : MethodName := ⟨RX10, "history", "(III)I"⟩
abbrev cX10_done : ByteArray := prog_12_method_71_code
def yX10_done : MethodName := ⟨RX10, "done", "(II)I"⟩
abbrev cX10_call : ByteArray := prog_12_method_72_code
def yX10_call : MethodName := ⟨RX10, "call", "(II)I"⟩
abbrev cX10_log : ByteArray := prog_12_method_73_code
def yX10_log : MethodName := ⟨RX10, "log", "(II)I"⟩
abbrev cX10_held : ByteArray := prog_12_method_74_code
def yX10_held : MethodName := ⟨RX10, "held", "(II)I"⟩
abbrev cX10_wouldBe : ByteArray := prog_12_method_75_code
def yX10_wouldBe : MethodName := ⟨RX10, "wouldBe", "(III)Z"⟩
abbrev cX10_wouldOf : ByteArray := prog_12_method_76_code
def yX10_wouldOf : MethodName := ⟨RX10, "wouldOf", "(III)I"⟩
abbrev cX10_would : ByteArray := prog_12_method_77_code
def yX10_would : MethodName := ⟨RX10, "would", "(III)I"⟩
abbrev cX10_gap : ByteArray := prog_12_method_78_code
def yX10_gap : MethodName := ⟨RX10, "gap", "(III)I"⟩
abbrev cX10_sparing : ByteArray := prog_12_method_79_code
def yX10_sparing : MethodName := ⟨RX10, "sparing", "(III)I"⟩
abbrev cX10_isThere : ByteArray := prog_12_method_80_code
def yX10_isThere : MethodName := ⟨RX10, "isThere", "(I)Z"⟩
abbrev cX10_areLike : ByteArray := prog_12_method_81_code
def yX10_areLike : MethodName := ⟨RX10, "areLike", "(II)Z"⟩
abbrev cX10_laysPairs : ByteArray := prog_12_method_82_code
def yX10_laysPairs : MethodName := ⟨RX10, "laysPairs", "(II)V"⟩
abbrev cX10_align : ByteArray := prog_12_method_83_code
def yX10_align : MethodName := ⟨RX10, "align", "(II)I"⟩
abbrev cX10_finds : ByteArray := prog_12_method_84_code
def yX10_finds : MethodName := ⟨RX10, "finds", "(I)V"⟩
abbrev cX10_pair : ByteArray := prog_12_method_85_code
def yX10_pair : MethodName := ⟨RX10, "pair", "(IIII)I"⟩
abbrev cX10_swaps : ByteArray := prog_12_method_86_code
def yX10_swaps : MethodName := ⟨RX10, "swaps", "()V"⟩
abbrev cX10_areStatesLike : ByteArray := prog_12_method_87_code
def yX10_areStatesLike : MethodName := ⟨RX10, "areStatesLike", "()Z"⟩
abbrev cX10_parts : ByteArray := prog_12_method_88_code
def yX10_parts : MethodName := ⟨RX10, "parts", "(II)I"⟩
abbrev cX10_watchedOf : ByteArray := prog_12_method_89_code
def yX10_watchedOf : MethodName := ⟨RX10, "watchedOf", "(II)I"⟩
abbrev cX10_ofRun : ByteArray := prog_12_method_90_code
def yX10_ofRun : MethodName := ⟨RX10, "ofRun", "(II)I"⟩
abbrev cX10_look : ByteArray := prog_12_method_91_code
def yX10_look : MethodName := ⟨RX10, "look", "(I)I"⟩
def RJx8e188 : String := "java/lang/Cloneable"
def TJx8e188 : u_T := fun k => match k with
  | _ => ("", "", "", false)
def tyJx8e188 : Nat → FieldType := fun k => match k with
  | _ => .int
abbrev wsJx8e1880 : List Cond := u_ws RJx8e188 TJx8e188 0
theorem nmJx8e188 : ∀ a, a < 0 → ∀ b, b < 0 → a ≠ b → (TJx8e188 a).2.1 ≠ (TJx8e188 b).2.1 := by decide +kernel
theorem tyJx8e188_ok : ∀ k, k < 0 → parseFieldDescriptor (TJx8e188 k).2.2.1 = some (tyJx8e188 k) := by decide +kernel
def RJ9 : String := "java/lang/Math"
def TJ9 : u_T := fun k => match k with
  | _ => ("", "", "", false)
def tyJ9 : Nat → FieldType := fun k => match k with
  | _ => .int
abbrev wsJ90 : List Cond := u_ws RJ9 TJ9 0
theorem nmJ9 : ∀ a, a < 0 → ∀ b, b < 0 → a ≠ b → (TJ9 a).2.1 ≠ (TJ9 b).2.1 := by decide +kernel
theorem tyJ9_ok : ∀ k, k < 0 → parseFieldDescriptor (TJ9 k).2.2.1 = some (tyJ9 k) := by decide +kernel
abbrev cJ9_max_7cf53 : ByteArray := prog_14_method_65_code
def yJ9_max_7cf53 : MethodName := ⟨RJ9, "max", "(II)I"⟩
abbrev cJ9_min_7cf53 : ByteArray := prog_14_method_69_code
def yJ9_min_7cf53 : MethodName := ⟨RJ9, "min", "(II)I"⟩
def RJ7 : String := "java/util/Arrays"
def TJ7 : u_T := fun k => match k with
  | _ => ("", "", "", false)
def tyJ7 : Nat → FieldType := fun k => match k with
  | _ => .int
abbrev wsJ70 : List Cond := u_ws RJ7 TJ7 0
theorem nmJ7 : ∀ a, a < 0 → ∀ b, b < 0 → a ≠ b → (TJ7 a).2.1 ≠ (TJ7 b).2.1 := by decide +kernel
theorem tyJ7_ok : ∀ k, k < 0 → parseFieldDescriptor (TJ7 k).2.2.1 = some (tyJ7 k) := by decide +kernel
abbrev cJ7_fill_53178 : ByteArray := prog_15_method_103_code
def yJ7_fill_53178 : MethodName := ⟨RJ7, "fill", "([II)V"⟩
abbrev cJ7_fill_49daa : ByteArray := prog_15_method_111_code
def yJ7_fill_49daa : MethodName := ⟨RJ7, "fill", "([ZZ)V"⟩
def RL : String := "RunsBackLaw"
abbrev cL_law : ByteArray := code
def yL_law : MethodName := ⟨RL, "law", "([I)Z"⟩
abbrev vwCl : List vw_C := [(RX0, TX0, 6), (RX1, TX1, 4), (RX2, TX2, 5), (RX3, TX3, 6), (RX4, TX4, 4), (RX5, TX5, 4), (RX6, TX6, 12), (RX7, TX7, 15), (RX9, TX9, 13), (RX10, TX10, 55)]
end
section
/-! A LAYER OVER THE KIT'S ROWS: the machine seen purely. A world is a function from places (numbers) to cells, whose references are places again; where the places lie in the heap (ad), the regions, the words, the room are hidden in pm_X. -/
def pm_v (ad : Nat → Nat) (v : Value) : Value := match v with
  | .ref k => .ref (ad k)
  | v => v
theorem pm_v_cat (ad : Nat → Nat) (v : Value) : (pm_v ad v).category = v.category := by cases v <;> rfl
abbrev pm_A : Type := (Nat → Int32) ⊕ (Nat → Int64) ⊕ (Nat → UInt32) ⊕ (Nat → UInt64) ⊕ (Nat → Option Nat)
def pm_x (ad : Nat → Nat) (x : pm_A) : pm_A := match x with
  | .inr (.inr (.inr (.inr g))) => .inr (.inr (.inr (.inr (fun i => (g i).map ad))))
  | x => x
def pm_e (cA : Nat → ClassId) (ad : Nat → Nat) (e : va_E) : va_E := match e with
  | .inl (t, N, x) => .inl (cA t, N, pm_x ad x)
  | .inr (ci, fs) => .inr (ci, fs.map (pm_v ad))
def pm_W (cA : Nat → ClassId) (ad : Nat → Nat) (n : Nat) (w : Nat → va_E) : va_W := (List.range n).map (fun k => (ad k, pm_e cA ad (w k)))
theorem pm_W_len {cA : Nat → ClassId} {ad : Nat → Nat} {n : Nat} {w : Nat → va_E} : (pm_W cA ad n w).length = n := by simp [pm_W]
theorem pm_W_get {cA : Nat → ClassId} {ad : Nat → Nat} {n k : Nat} {w : Nat → va_E} (h : k < n) : (pm_W cA ad n w)[k]? = some (ad k, pm_e cA ad (w k)) := by
  simp [pm_W, h]
theorem pm_W_inv {cA : Nat → ClassId} {ad : Nat → Nat} {n k : Nat} {w : Nat → va_E} {q : Nat × va_E} (h : (pm_W cA ad n w)[k]? = some q) : k < n ∧ q = (ad k, pm_e cA ad (w k)) := by
  have hk : k < n := by
    have := (List.getElem?_eq_some_iff.mp h).1
    rwa [pm_W_len] at this
  rw [pm_W_get hk] at h
  exact ⟨hk, (Option.some.inj h).symm⟩
theorem pm_up_s {α : Type} {f : Nat → α} {k : Nat} {v : α} : va_up f k v k = v := by simp [va_up]
theorem pm_up_n {α : Type} {f : Nat → α} {k j : Nat} {v : α} (h : j ≠ k) : va_up f k v j = f j := by simp [va_up, h]
theorem pm_W_set {cA : Nat → ClassId} {ad : Nat → Nat} {n k : Nat} {w : Nat → va_E} (e : va_E) : (pm_W cA ad n w).set k (ad k, pm_e cA ad e) = pm_W cA ad n (va_up w k e) := by
  apply List.ext_getElem?
  intro j
  rw [List.getElem?_set, pm_W_len]
  by_cases hj : k = j
  · subst hj
    by_cases hk : k < n
    · rw [if_pos rfl, if_pos hk, pm_W_get hk, pm_up_s]
    · rw [if_pos rfl, if_neg hk, eq_comm, List.getElem?_eq_none_iff, pm_W_len]
      omega
  · rw [if_neg hj]
    by_cases hk : j < n
    · rw [pm_W_get hk, pm_W_get hk, pm_up_n (fun q => hj q.symm)]
    · rw [List.getElem?_eq_none_iff.mpr (by rw [pm_W_len]; omega), List.getElem?_eq_none_iff.mpr (by rw [pm_W_len]; omega)]
/-- a value, a cell, a world whose references are places of the world (or of the read-only arrays) -/
def pm_ok (n : Nat) (v : Value) : Prop := ∀ k, v = .ref k → k < n ∨ 1000000 ≤ k
def pm_ek (n : Nat) (e : va_E) : Prop := (∀ t N g, e = .inl (t, N, .inr (.inr (.inr (.inr g)))) → ∀ i k, g i = some k → k < n) ∧ ∀ ci fs, e = .inr (ci, fs) → ∀ v ∈ fs, pm_ok n v
def pm_wk (n : Nat) (w : Nat → va_E) : Prop := ∀ k, k < n → pm_ek n (w k)
theorem pm_oki {n : Nat} {x : Int32} : pm_ok n (.int x) := fun k h => by cases h
theorem pm_okn {n : Nat} : pm_ok n .null := fun k h => by cases h
theorem pm_okr {n k : Nat} (h : k < n) : pm_ok n (.ref k) := fun j e => by cases e; exact Or.inl h
theorem pm_okm {n n' : Nat} {v : Value} (h : n ≤ n') (hv : pm_ok n v) : pm_ok n' v := fun k e => (hv k e).imp (fun q => Nat.lt_of_lt_of_le q h) id
theorem pm_ekm {n n' : Nat} {e : va_E} (h : n ≤ n') (hv : pm_ek n e) : pm_ek n' e := ⟨fun t N g q i k z => Nat.lt_of_lt_of_le (hv.1 t N g q i k z) h, fun ci fs q v z => pm_okm h (hv.2 ci fs q v z)⟩
theorem pm_eki {n t N : Nat} {f : Nat → Int32} : pm_ek n (.inl (t, N, .inl f)) := ⟨fun t N g q => (by simp at q), fun ci fs q => (by cases q)⟩
theorem pm_eko {n ci : Nat} {fs : List Value} (h : ∀ v ∈ fs, pm_ok n v) : pm_ek n (.inr (ci, fs)) := ⟨fun t N g q => (by cases q), fun ci' fs' q => (by cases q; exact h)⟩
theorem pm_ekq {n t N : Nat} {g : Nat → Option Nat} (h : ∀ i k, g i = some k → k < n) : pm_ek n (.inl (t, N, .inr (.inr (.inr (.inr g))))) := ⟨fun t N g' q => (by simp at q; obtain ⟨-, -, rfl⟩ := q; exact h), fun ci fs q => (by cases q)⟩
theorem pm_wku {n k : Nat} {w : Nat → va_E} {e : va_E} (h : pm_wk n w) (he : pm_ek n e) : pm_wk n (va_up w k e) := fun j hj => by
  by_cases q : j = k
  · subst q; rw [pm_up_s]; exact he
  · rw [pm_up_n q]; exact h j hj
/-- two layings that agree on the world's places agree on all that it holds -/
def pm_ag (n : Nat) (ad ad' : Nat → Nat) : Prop := ∀ k, k < n ∨ 1000000 ≤ k → ad' k = ad k
theorem pm_v_ag {n : Nat} {ad ad' : Nat → Nat} (h : pm_ag n ad ad') {v : Value} (hv : pm_ok n v) : pm_v ad' v = pm_v ad v := by
  cases v with
  | ref k => exact congrArg Value.ref (h k (hv k rfl))
  | _ => rfl
theorem pm_vs_ag {n : Nat} {ad ad' : Nat → Nat} (h : pm_ag n ad ad') {vs : List Value} (hv : ∀ v ∈ vs, pm_ok n v) : vs.map (pm_v ad') = vs.map (pm_v ad) := List.map_congr_left fun v q => pm_v_ag h (hv v q)
theorem pm_e_ag {n : Nat} {cA : Nat → ClassId} {ad ad' : Nat → Nat} (h : pm_ag n ad ad') {e : va_E} (he : pm_ek n e) : pm_e cA ad' e = pm_e cA ad e := by
  rcases e with ⟨t, N, f | f | f | f | g⟩ | ⟨ci, fs⟩
  · rfl
  · rfl
  · rfl
  · rfl
  · have hg : (fun i => (g i).map ad') = fun i => (g i).map ad := funext fun i => by
      cases hi : g i with
      | none => rfl
      | some k => exact congrArg some (h k (Or.inl (he.1 t N g rfl i k hi)))
    show Sum.inl (cA t, N, Sum.inr (Sum.inr (Sum.inr (Sum.inr (fun i => (g i).map ad'))))) = Sum.inl (cA t, N, Sum.inr (Sum.inr (Sum.inr (Sum.inr (fun i => (g i).map ad)))))
    rw [hg]
  · show Sum.inr (ci, fs.map (pm_v ad')) = Sum.inr (ci, fs.map (pm_v ad))
    rw [pm_vs_ag h (he.2 ci fs rfl)]
theorem pm_W_ag {n : Nat} {cA : Nat → ClassId} {ad ad' : Nat → Nat} (h : pm_ag n ad ad') {w : Nat → va_E} (hw : pm_wk n w) : pm_W cA ad' n w = pm_W cA ad n w := by
  apply List.ext_getElem?
  intro j
  by_cases hj : j < n
  · rw [pm_W_get hj, pm_W_get hj, h j (Or.inl hj), pm_e_ag h (hw j hj)]
  · rw [List.getElem?_eq_none_iff.mpr (by rw [pm_W_len]; omega), List.getElem?_eq_none_iff.mpr (by rw [pm_W_len]; omega)]
theorem pm_W_push {n q : Nat} {cA : Nat → ClassId} {ad : Nat → Nat} {w : Nat → va_E} {e : va_E} (hn : n < 1000000) (hw : pm_wk n w) (he : pm_ek n e) : pm_W cA ad n w ++ [(q, pm_e cA ad e)] = pm_W cA (va_up ad n q) (n + 1) (va_up w n e) := by
  have hag : pm_ag n ad (va_up ad n q) := fun k hk => pm_up_n (by omega)
  apply List.ext_getElem?
  intro j
  by_cases hj : j < n
  · rw [List.getElem?_append_left (by rw [pm_W_len]; exact hj), pm_W_get hj, pm_W_get (Nat.lt_succ_of_lt hj), pm_up_n (Nat.ne_of_lt hj), pm_up_n (Nat.ne_of_lt hj), pm_e_ag hag (hw j hj)]
  · by_cases hj2 : j = n
    · subst hj2
      rw [List.getElem?_append_right (by rw [pm_W_len]; exact Nat.le_refl _), pm_W_len, Nat.sub_self, pm_W_get (Nat.lt_succ_self _), pm_up_s, pm_up_s, pm_e_ag hag he]
      rfl
    · rw [List.getElem?_eq_none_iff.mpr (by rw [List.length_append, pm_W_len]; simp; omega), List.getElem?_eq_none_iff.mpr (by rw [pm_W_len]; omega)]
end
section
/-- a method: its name, its bytes, its locals, what it returns -/
abbrev pm_M : Type := MethodName × ByteArray × Nat × Option FieldType
/-- the tables' words that stay true while the machine warms up; the others (nest mates, arrays of references) are kept as facts: pm_N -/
def lw_g : List Cond := lw_tbl.filter goodWord
abbrev pm_ws (M : pm_M) : List Cond := .code M.1 M.2.1 M.2.2.1 M.2.2.2 :: lw_g
def pm_N (U : State) : Prop := (∀ own idx y host, Cond.methodLinkNest own idx y host ∈ lw_tbl → va_Nw (.methodLinkNest own idx y host) U) ∧ ∀ C, Cond.arrayOver (.object C) ∈ lw_tbl → va_AO C U
def pm_rm (d mc ms : Nat) : Room := { frames := d, cells := mc, slots := ms, locals := 40 * d }
def pm_tys (cA : Nat → ClassId) : List (ClassId × FieldType) := [(cA 0, .int), (cA 1, .boolean), (cA 2, .object RX7), (cA 3, .array .int)]
/-- arrays that nobody writes, by their places (1000000 and on): statics, and the script of the law -/
abbrev pm_RO : Type := Nat → Option (Nat × (Nat → Int32))
def pm_R (ro : pm_RO) (ad : Nat → Nat) (A : Nat → Prop) (U : State) : Prop := ∀ k N f, ro k = some (N, f) → 1000000 ≤ k ∧ va_T .int (ad k) N (fun i => .int (f i)) A U U.heap
/-- the static fields of RunsBack that hold such arrays -/
def pm_Z (gs : List String) (ad : Nat → Nat) (A : Nat → Prop) (U : State) : Prop := ∀ (j : Nat) (nm : String), gs[j]? = some nm → va_Z "RunsBack" nm "[I" (.ref (ad (1000000 + j))) A U U.heap
def pm_Q (D : va_G) (cA : Nat → ClassId) (ad0 : Nat → Nat) (n0 : Nat) (A : Nat → Prop) (Q : Option Value → Nat → (Nat → va_E) → Prop) : Array Value → State → Outcome → State → Prop := fun _ st o t =>
  (∃ (r : Option Value) (n' : Nat) (w' : Nat → va_E) (ad' : Nat → Nat), o = .returned (r.map (pm_v ad')) ∧ Q r n' w' ∧ n0 ≤ n' ∧ n' < 1000000 ∧ pm_ag n0 ad0 ad' ∧ pm_wk n' w' ∧ (∀ v, r = some v → pm_ok n' v) ∧ va_P D vwCl (pm_W cA ad' n' w') t.heap ∧ va_K D vwCl (pm_tys cA) t ∧ va_D A (pm_W cA ad' n' w')) ∧ va_F A st t
/-- what stays through a method's walk -/
def pm_F (gs : List String) (ro : pm_RO) (M : pm_M) (p : Program) (s : State) (m : MethodId) (args : Array Value) (meth : Method) (c : Code) (D : va_G) (cA : Nat → ClassId) (ad0 : Nat → Nat) (A : Nat → Prop) : Prop :=
  p.tables.exec = Jvm.exec ∧ c.code = M.2.1 ∧ c.maxLocals = M.2.2.1 ∧ meth.sig.returnType = M.2.2.2 ∧ meth.locks = false ∧ meth.name = M.1.name ∧ s.vm.findClass M.1.cls = some m.cls ∧ (∀ w ∈ pm_ws M, w.before args s = true) ∧ va_K D vwCl (pm_tys cA) s ∧ (∀ q, s.heap.size ≤ q → A q) ∧ pm_R ro ad0 A s ∧ pm_Z gs ad0 A s ∧ pm_N s
/-- the heap holds the world -/
def pm_G (s : State) (D : va_G) (cA : Nat → ClassId) (ad0 : Nat → Nat) (n0 : Nat) (A : Nat → Prop) (H : Heap) (locs : List Loc) (ad : Nat → Nat) (n : Nat) (w : Nat → va_E) : Prop :=
  va_P D vwCl (pm_W cA ad n w) H ∧ va_D A (pm_W cA ad n w) ∧ va_S A s.heap H locs ∧ n0 ≤ n ∧ n < 1000000 ∧ pm_ag n0 ad0 ad ∧ pm_wk n w
/-- the locals -/
def pm_L (nL : Nat) (ls : Array Slot) (ad : Nat → Nat) (n : Nat) (L : List (Option Value)) : Prop := ls.size = nL ∧ lv_wf ls ∧ ∀ (i : Nat) (v : Value), L[i]? = some (some v) → ls[i]? = some (Slot.val (pm_v ad v)) ∧ pm_ok n v
def pm_S (n : Nat) (st : List Value) : Prop := ∀ v ∈ st, pm_ok n v
/-- THE JUDGEMENT: method M, at pc, with these locals, this stack, this world: it returns, and Q holds of its answer and the world then. d: how many frames may lie above; mc, ms: cells and slots that it makes at most in all, c0, s0: made already -/
def pm_X (gs : List String) (ro : pm_RO) (M : pm_M) (d mc ms c0 s0 pc : Nat) (L : List (Option Value)) (st : List Value) (n : Nat) (w : Nat → va_E) (Q : Option Value → Nat → (Nat → va_E) → Prop) : Prop :=
  ∀ (p : Program) (l : Launch) (e : Env) (s : State) (m : MethodId) (args : Array Value) (below : List Frame) (meth : Method) (c : Code) (H : Heap) (locs : List Loc) (ls : Array Slot) (D : va_G) (cA : Nat → ClassId) (ad ad0 : Nat → Nat) (n0 : Nat) (A : Nat → Prop),
    pm_F gs ro M p s m args meth c D cA ad0 A → pm_G s D cA ad0 n0 A H locs ad n w → pm_L M.2.2.1 ls ad n L → pm_S n st →
    W p l e (pm_rm d mc ms) s m args below meth c H locs c0 s0 (MQ below (pm_Q D cA ad0 n0 A Q) args s mc ms A) (F0 m pc ls (st.map (pm_v ad)))
theorem pm_S0 {n : Nat} : pm_S n [] := fun v h => by cases h
theorem pm_Sc {n : Nat} {v : Value} {st : List Value} (h : pm_ok n v) (hs : pm_S n st) : pm_S n (v :: st) := fun u hu => by
  rcases List.mem_cons.mp hu with q | q
  · rw [q]; exact h
  · exact hs u q
theorem pm_Si {n : Nat} {x : Int32} {st : List Value} (hs : pm_S n st) : pm_S n (.int x :: st) := pm_Sc pm_oki hs
theorem pm_St {n : Nat} {v : Value} {st : List Value} (hs : pm_S n (v :: st)) : pm_S n st := fun u hu => hs u (List.mem_cons_of_mem _ hu)
theorem pm_Sh {n : Nat} {v : Value} {st : List Value} (hs : pm_S n (v :: st)) : pm_ok n v := hs v List.mem_cons_self
end
section
section PMR
variable {gs : List String} {ro : pm_RO} {M : pm_M} {d mc ms c0 s0 pc : Nat} {L : List (Option Value)} {st : List Value} {n : Nat} {w : Nat → va_E} {Q : Option Value → Nat → (Nat → va_E) → Prop}
theorem pm_iconst {k : Int} {v : Int32} (h : decode M.2.1 pc = .ok (.iconst k, 1)) (hv : Int32.ofInt k = v) (kk : pm_X gs ro M d mc ms c0 s0 (pc + 1) L (.int v :: st) n w Q) : pm_X gs ro M d mc ms c0 s0 pc L (st) n w Q := by
  intro p l e s m args below meth c H locs ls D cA ad ad0 n0 A F G LL SS
  exact lv_iconst F.1 F.2.1 h hv (kk p l e s m args below meth c H locs ls D cA ad ad0 n0 A F G LL (pm_Si SS))
theorem pm_bipush {k : Int} {v : Int32} (h : decode M.2.1 pc = .ok (.bipush k, 2)) (hv : (Int8.ofInt k).toInt32 = v) (kk : pm_X gs ro M d mc ms c0 s0 (pc + 2) L (.int v :: st) n w Q) : pm_X gs ro M d mc ms c0 s0 pc L (st) n w Q := by
  intro p l e s m args below meth c H locs ls D cA ad ad0 n0 A F G LL SS
  exact lv_bipush F.1 F.2.1 h hv (kk p l e s m args below meth c H locs ls D cA ad ad0 n0 A F G LL (pm_Si SS))
theorem pm_sipush {k : Int} {v : Int32} (h : decode M.2.1 pc = .ok (.sipush k, 3)) (hv : (Int16.ofInt k).toInt32 = v) (kk : pm_X gs ro M d mc ms c0 s0 (pc + 3) L (.int v :: st) n w Q) : pm_X gs ro M d mc ms c0 s0 pc L (st) n w Q := by
  intro p l e s m args below meth c H locs ls D cA ad ad0 n0 A F G LL SS
  exact lv_sipush F.1 F.2.1 h hv (kk p l e s m args below meth c H locs ls D cA ad ad0 n0 A F G LL (pm_Si SS))
theorem pm_null  (h : decode M.2.1 pc = .ok (.aconst_null, 1)) (kk : pm_X gs ro M d mc ms c0 s0 (pc + 1) L (.null :: st) n w Q) : pm_X gs ro M d mc ms c0 s0 pc L (st) n w Q := by
  intro p l e s m args below meth c H locs ls D cA ad ad0 n0 A F G LL SS
  exact lv_null F.1 F.2.1 h (kk p l e s m args below meth c H locs ls D cA ad ad0 n0 A F G LL (pm_Sc pm_okn SS))
theorem pm_ldc {k : Nat} {v : Int32} (h : decode M.2.1 pc = .ok (.ldc k, 2)) (hm : Cond.constant M.1.cls k v ∈ lw_g) (kk : pm_X gs ro M d mc ms c0 s0 (pc + 2) L (.int v :: st) n w Q) : pm_X gs ro M d mc ms c0 s0 pc L (st) n w Q := by
  intro p l e s m args below meth c H locs ls D cA ad ad0 n0 A F G LL SS
  exact lv_ldc F.1 F.2.1 F.2.2.2.2.2.2.1 (F.2.2.2.2.2.2.2.1 _ (List.mem_cons_of_mem _ hm)) h (kk p l e s m args below meth c H locs ls D cA ad ad0 n0 A F G LL (pm_Si SS))
theorem pm_iadd {x y : Int32} (h : decode M.2.1 pc = .ok (.iadd, 1)) (kk : pm_X gs ro M d mc ms c0 s0 (pc + 1) L (.int (x + y) :: st) n w Q) : pm_X gs ro M d mc ms c0 s0 pc L (.int y :: .int x :: st) n w Q := by
  intro p l e s m args below meth c H locs ls D cA ad ad0 n0 A F G LL SS
  exact lv_iadd F.1 F.2.1 h (kk p l e s m args below meth c H locs ls D cA ad ad0 n0 A F G LL (pm_Si (pm_St (pm_St SS))))
theorem pm_isub {x y : Int32} (h : decode M.2.1 pc = .ok (.isub, 1)) (kk : pm_X gs ro M d mc ms c0 s0 (pc + 1) L (.int (x - y) :: st) n w Q) : pm_X gs ro M d mc ms c0 s0 pc L (.int y :: .int x :: st) n w Q := by
  intro p l e s m args below meth c H locs ls D cA ad ad0 n0 A F G LL SS
  exact lv_isub F.1 F.2.1 h (kk p l e s m args below meth c H locs ls D cA ad ad0 n0 A F G LL (pm_Si (pm_St (pm_St SS))))
theorem pm_imul {x y : Int32} (h : decode M.2.1 pc = .ok (.imul, 1)) (kk : pm_X gs ro M d mc ms c0 s0 (pc + 1) L (.int (x * y) :: st) n w Q) : pm_X gs ro M d mc ms c0 s0 pc L (.int y :: .int x :: st) n w Q := by
  intro p l e s m args below meth c H locs ls D cA ad ad0 n0 A F G LL SS
  exact lv_imul F.1 F.2.1 h (kk p l e s m args below meth c H locs ls D cA ad ad0 n0 A F G LL (pm_Si (pm_St (pm_St SS))))
theorem pm_iand {x y : Int32} (h : decode M.2.1 pc = .ok (.iand, 1)) (kk : pm_X gs ro M d mc ms c0 s0 (pc + 1) L (.int (x &&& y) :: st) n w Q) : pm_X gs ro M d mc ms c0 s0 pc L (.int y :: .int x :: st) n w Q := by
  intro p l e s m args below meth c H locs ls D cA ad ad0 n0 A F G LL SS
  exact lv_iand F.1 F.2.1 h (kk p l e s m args below meth c H locs ls D cA ad ad0 n0 A F G LL (pm_Si (pm_St (pm_St SS))))
theorem pm_ior {x y : Int32} (h : decode M.2.1 pc = .ok (.ior, 1)) (kk : pm_X gs ro M d mc ms c0 s0 (pc + 1) L (.int (x ||| y) :: st) n w Q) : pm_X gs ro M d mc ms c0 s0 pc L (.int y :: .int x :: st) n w Q := by
  intro p l e s m args below meth c H locs ls D cA ad ad0 n0 A F G LL SS
  exact lv_ior F.1 F.2.1 h (kk p l e s m args below meth c H locs ls D cA ad ad0 n0 A F G LL (pm_Si (pm_St (pm_St SS))))
theorem pm_ixor {x y : Int32} (h : decode M.2.1 pc = .ok (.ixor, 1)) (kk : pm_X gs ro M d mc ms c0 s0 (pc + 1) L (.int (x ^^^ y) :: st) n w Q) : pm_X gs ro M d mc ms c0 s0 pc L (.int y :: .int x :: st) n w Q := by
  intro p l e s m args below meth c H locs ls D cA ad ad0 n0 A F G LL SS
  exact lv_ixor F.1 F.2.1 h (kk p l e s m args below meth c H locs ls D cA ad ad0 n0 A F G LL (pm_Si (pm_St (pm_St SS))))
theorem pm_ishl {x y : Int32} (h : decode M.2.1 pc = .ok (.ishl, 1)) (kk : pm_X gs ro M d mc ms c0 s0 (pc + 1) L (.int (x <<< (y &&& 31)) :: st) n w Q) : pm_X gs ro M d mc ms c0 s0 pc L (.int y :: .int x :: st) n w Q := by
  intro p l e s m args below meth c H locs ls D cA ad ad0 n0 A F G LL SS
  exact lv_ishl F.1 F.2.1 h (kk p l e s m args below meth c H locs ls D cA ad ad0 n0 A F G LL (pm_Si (pm_St (pm_St SS))))
theorem pm_ishr {x y : Int32} (h : decode M.2.1 pc = .ok (.ishr, 1)) (kk : pm_X gs ro M d mc ms c0 s0 (pc + 1) L (.int (x >>> (y &&& 31)) :: st) n w Q) : pm_X gs ro M d mc ms c0 s0 pc L (.int y :: .int x :: st) n w Q := by
  intro p l e s m args below meth c H locs ls D cA ad ad0 n0 A F G LL SS
  exact lv_ishr F.1 F.2.1 h (kk p l e s m args below meth c H locs ls D cA ad ad0 n0 A F G LL (pm_Si (pm_St (pm_St SS))))
theorem pm_iushr {x y : Int32} (h : decode M.2.1 pc = .ok (.iushr, 1)) (kk : pm_X gs ro M d mc ms c0 s0 (pc + 1) L (.int ((x.toUInt32 >>> (y.toUInt32 &&& Int32.toUInt32 31)).toInt32) :: st) n w Q) : pm_X gs ro M d mc ms c0 s0 pc L (.int y :: .int x :: st) n w Q := by
  intro p l e s m args below meth c H locs ls D cA ad ad0 n0 A F G LL SS
  exact lv_iushr F.1 F.2.1 h rfl (kk p l e s m args below meth c H locs ls D cA ad ad0 n0 A F G LL (pm_Si (pm_St (pm_St SS))))
theorem pm_ineg {x : Int32} (h : decode M.2.1 pc = .ok (.ineg, 1)) (kk : pm_X gs ro M d mc ms c0 s0 (pc + 1) L (.int (-x) :: st) n w Q) : pm_X gs ro M d mc ms c0 s0 pc L (.int x :: st) n w Q := by
  intro p l e s m args below meth c H locs ls D cA ad ad0 n0 A F G LL SS
  exact lv_ineg F.1 F.2.1 h (kk p l e s m args below meth c H locs ls D cA ad ad0 n0 A F G LL (pm_Si (pm_St SS)))
theorem pm_idiv {x y : Int32} (h : decode M.2.1 pc = .ok (.idiv, 1)) (hy : ¬ y = 0) (kk : pm_X gs ro M d mc ms c0 s0 (pc + 1) L (.int (x / y) :: st) n w Q) : pm_X gs ro M d mc ms c0 s0 pc L (.int y :: .int x :: st) n w Q := by
  intro p l e s m args below meth c H locs ls D cA ad ad0 n0 A F G LL SS
  exact lv_idiv F.1 F.2.1 h hy (kk p l e s m args below meth c H locs ls D cA ad ad0 n0 A F G LL (pm_Si (pm_St (pm_St SS))))
theorem pm_irem {x y : Int32} (h : decode M.2.1 pc = .ok (.irem, 1)) (hy : ¬ y = 0) (kk : pm_X gs ro M d mc ms c0 s0 (pc + 1) L (.int (x - x / y * y) :: st) n w Q) : pm_X gs ro M d mc ms c0 s0 pc L (.int y :: .int x :: st) n w Q := by
  intro p l e s m args below meth c H locs ls D cA ad ad0 n0 A F G LL SS
  exact lv_irem F.1 F.2.1 h hy (kk p l e s m args below meth c H locs ls D cA ad ad0 n0 A F G LL (pm_Si (pm_St (pm_St SS))))
theorem pm_dup {v : Value} (h : decode M.2.1 pc = .ok (.dup, 1)) (hc : v.category = 1) (kk : pm_X gs ro M d mc ms c0 s0 (pc + 1) L (v :: v :: st) n w Q) : pm_X gs ro M d mc ms c0 s0 pc L (v :: st) n w Q := by
  intro p l e s m args below meth c H locs ls D cA ad ad0 n0 A F G LL SS
  exact lv_dup F.1 F.2.1 h (by rw [pm_v_cat]; exact hc) (kk p l e s m args below meth c H locs ls D cA ad ad0 n0 A F G LL (pm_Sc (pm_Sh SS) SS))
theorem pm_pop {v : Value} (h : decode M.2.1 pc = .ok (.pop, 1)) (hc : v.category = 1) (kk : pm_X gs ro M d mc ms c0 s0 (pc + 1) L (st) n w Q) : pm_X gs ro M d mc ms c0 s0 pc L (v :: st) n w Q := by
  intro p l e s m args below meth c H locs ls D cA ad ad0 n0 A F G LL SS
  exact lv_pop F.1 F.2.1 h (by rw [pm_v_cat]; exact hc) (kk p l e s m args below meth c H locs ls D cA ad ad0 n0 A F G LL (pm_St SS))
theorem pm_dup2 {v u : Value} (h : decode M.2.1 pc = .ok (.dup2, 1)) (hc : v.category = 1) (hu : u.category = 1) (kk : pm_X gs ro M d mc ms c0 s0 (pc + 1) L (v :: u :: v :: u :: st) n w Q) : pm_X gs ro M d mc ms c0 s0 pc L (v :: u :: st) n w Q := by
  intro p l e s m args below meth c H locs ls D cA ad ad0 n0 A F G LL SS
  exact lv_dup2_11 F.1 F.2.1 h (by rw [pm_v_cat]; exact hc) (by rw [pm_v_cat]; exact hu) (kk p l e s m args below meth c H locs ls D cA ad ad0 n0 A F G LL (pm_Sc (pm_Sh SS) (pm_Sc (pm_Sh (pm_St SS)) SS)))
theorem pm_dup_x1 {v u : Value} (h : decode M.2.1 pc = .ok (.dup_x1, 1)) (hc : v.category = 1) (hu : u.category = 1) (kk : pm_X gs ro M d mc ms c0 s0 (pc + 1) L (v :: u :: v :: st) n w Q) : pm_X gs ro M d mc ms c0 s0 pc L (v :: u :: st) n w Q := by
  intro p l e s m args below meth c H locs ls D cA ad ad0 n0 A F G LL SS
  exact lv_dup_x1 F.1 F.2.1 h (by rw [pm_v_cat]; exact hc) (by rw [pm_v_cat]; exact hu) (kk p l e s m args below meth c H locs ls D cA ad ad0 n0 A F G LL (pm_Sc (pm_Sh SS) (pm_Sc (pm_Sh (pm_St SS)) (pm_Sc (pm_Sh SS) (pm_St (pm_St SS))))))
theorem pm_iload {i : Nat} {x : Int32} (h : decode M.2.1 pc = .ok (.iload i, 2)) (hl : L[i]? = some (some (.int x))) (kk : pm_X gs ro M d mc ms c0 s0 (pc + 2) L (.int x :: st) n w Q) : pm_X gs ro M d mc ms c0 s0 pc L (st) n w Q := by
  intro p l e s m args below meth c H locs ls D cA ad ad0 n0 A F G LL SS
  exact lv_iload F.1 F.2.1 h (LL.2.2 i _ hl).1 (kk p l e s m args below meth c H locs ls D cA ad ad0 n0 A F G LL (pm_Si SS))
theorem pm_iload_n {k : Fin 4} {x : Int32} (h : decode M.2.1 pc = .ok (.iload_n k, 1)) (hl : L[(k : Nat)]? = some (some (.int x))) (kk : pm_X gs ro M d mc ms c0 s0 (pc + 1) L (.int x :: st) n w Q) : pm_X gs ro M d mc ms c0 s0 pc L (st) n w Q := by
  intro p l e s m args below meth c H locs ls D cA ad ad0 n0 A F G LL SS
  exact lv_iload_n F.1 F.2.1 h rfl (LL.2.2 k _ hl).1 (kk p l e s m args below meth c H locs ls D cA ad ad0 n0 A F G LL (pm_Si SS))
theorem pm_aload {i : Nat} {x : Nat} (h : decode M.2.1 pc = .ok (.aload i, 2)) (hl : L[i]? = some (some (.ref x))) (kk : pm_X gs ro M d mc ms c0 s0 (pc + 2) L (.ref x :: st) n w Q) : pm_X gs ro M d mc ms c0 s0 pc L (st) n w Q := by
  intro p l e s m args below meth c H locs ls D cA ad ad0 n0 A F G LL SS
  exact lv_aload F.1 F.2.1 h (LL.2.2 i _ hl).1 (kk p l e s m args below meth c H locs ls D cA ad ad0 n0 A F G LL (pm_Sc (LL.2.2 i _ hl).2 SS))
theorem pm_aload_n {k : Fin 4} {x : Nat} (h : decode M.2.1 pc = .ok (.aload_n k, 1)) (hl : L[(k : Nat)]? = some (some (.ref x))) (kk : pm_X gs ro M d mc ms c0 s0 (pc + 1) L (.ref x :: st) n w Q) : pm_X gs ro M d mc ms c0 s0 pc L (st) n w Q := by
  intro p l e s m args below meth c H locs ls D cA ad ad0 n0 A F G LL SS
  exact lv_aload_n F.1 F.2.1 h rfl (LL.2.2 k _ hl).1 (kk p l e s m args below meth c H locs ls D cA ad ad0 n0 A F G LL (pm_Sc (LL.2.2 k _ hl).2 SS))
theorem pm_aloadN {i : Nat} (h : decode M.2.1 pc = .ok (.aload i, 2)) (hl : L[i]? = some (some .null)) (kk : pm_X gs ro M d mc ms c0 s0 (pc + 2) L (.null :: st) n w Q) : pm_X gs ro M d mc ms c0 s0 pc L (st) n w Q := by
  intro p l e s m args below meth c H locs ls D cA ad ad0 n0 A F G LL SS
  exact lv_aloadN F.1 F.2.1 h (LL.2.2 i _ hl).1 (kk p l e s m args below meth c H locs ls D cA ad ad0 n0 A F G LL (pm_Sc pm_okn SS))
theorem pm_aload_nN {k : Fin 4} (h : decode M.2.1 pc = .ok (.aload_n k, 1)) (hl : L[(k : Nat)]? = some (some .null)) (kk : pm_X gs ro M d mc ms c0 s0 (pc + 1) L (.null :: st) n w Q) : pm_X gs ro M d mc ms c0 s0 pc L (st) n w Q := by
  intro p l e s m args below meth c H locs ls D cA ad ad0 n0 A F G LL SS
  exact lv_aload_nN F.1 F.2.1 h rfl (LL.2.2 k _ hl).1 (kk p l e s m args below meth c H locs ls D cA ad ad0 n0 A F G LL (pm_Sc pm_okn SS))
theorem pm_if_eq {x : Int32} {off : Int} {tgt : Nat} (h : decode M.2.1 pc = .ok (.ifCond .eq off, 3)) (ht : (pc : Int) + off = (tgt : Int)) (kt : x = 0 → pm_X gs ro M d mc ms c0 s0 tgt L st n w Q) (kf : ¬ x = 0 → pm_X gs ro M d mc ms c0 s0 (pc + 3) L st n w Q) : pm_X gs ro M d mc ms c0 s0 pc L (.int x :: st) n w Q := by
  intro p l e s m args below meth c H locs ls D cA ad ad0 n0 A F G LL SS
  exact lv_if_eq F.1 F.2.1 h ht (fun q => kt q p l e s m args below meth c H locs ls D cA ad ad0 n0 A F G LL (pm_St SS)) (fun q => kf q p l e s m args below meth c H locs ls D cA ad ad0 n0 A F G LL (pm_St SS))
theorem pm_icmp_eq {x y : Int32} {off : Int} {tgt : Nat} (h : decode M.2.1 pc = .ok (.if_icmp .eq off, 3)) (ht : (pc : Int) + off = (tgt : Int)) (kt : x = y → pm_X gs ro M d mc ms c0 s0 tgt L st n w Q) (kf : ¬ x = y → pm_X gs ro M d mc ms c0 s0 (pc + 3) L st n w Q) : pm_X gs ro M d mc ms c0 s0 pc L (.int y :: .int x :: st) n w Q := by
  intro p l e s m args below meth c H locs ls D cA ad ad0 n0 A F G LL SS
  exact lv_icmp_eq F.1 F.2.1 h ht (fun q => kt q p l e s m args below meth c H locs ls D cA ad ad0 n0 A F G LL (pm_St (pm_St SS))) (fun q => kf q p l e s m args below meth c H locs ls D cA ad ad0 n0 A F G LL (pm_St (pm_St SS)))
theorem pm_if_ne {x : Int32} {off : Int} {tgt : Nat} (h : decode M.2.1 pc = .ok (.ifCond .ne off, 3)) (ht : (pc : Int) + off = (tgt : Int)) (kt : ¬ x = 0 → pm_X gs ro M d mc ms c0 s0 tgt L st n w Q) (kf : x = 0 → pm_X gs ro M d mc ms c0 s0 (pc + 3) L st n w Q) : pm_X gs ro M d mc ms c0 s0 pc L (.int x :: st) n w Q := by
  intro p l e s m args below meth c H locs ls D cA ad ad0 n0 A F G LL SS
  exact lv_if_ne F.1 F.2.1 h ht (fun q => kt q p l e s m args below meth c H locs ls D cA ad ad0 n0 A F G LL (pm_St SS)) (fun q => kf q p l e s m args below meth c H locs ls D cA ad ad0 n0 A F G LL (pm_St SS))
theorem pm_icmp_ne {x y : Int32} {off : Int} {tgt : Nat} (h : decode M.2.1 pc = .ok (.if_icmp .ne off, 3)) (ht : (pc : Int) + off = (tgt : Int)) (kt : ¬ x = y → pm_X gs ro M d mc ms c0 s0 tgt L st n w Q) (kf : x = y → pm_X gs ro M d mc ms c0 s0 (pc + 3) L st n w Q) : pm_X gs ro M d mc ms c0 s0 pc L (.int y :: .int x :: st) n w Q := by
  intro p l e s m args below meth c H locs ls D cA ad ad0 n0 A F G LL SS
  exact lv_icmp_ne F.1 F.2.1 h ht (fun q => kt q p l e s m args below meth c H locs ls D cA ad ad0 n0 A F G LL (pm_St (pm_St SS))) (fun q => kf q p l e s m args below meth c H locs ls D cA ad ad0 n0 A F G LL (pm_St (pm_St SS)))
theorem pm_if_lt {x : Int32} {off : Int} {tgt : Nat} (h : decode M.2.1 pc = .ok (.ifCond .lt off, 3)) (ht : (pc : Int) + off = (tgt : Int)) (kt : x < 0 → pm_X gs ro M d mc ms c0 s0 tgt L st n w Q) (kf : ¬ x < 0 → pm_X gs ro M d mc ms c0 s0 (pc + 3) L st n w Q) : pm_X gs ro M d mc ms c0 s0 pc L (.int x :: st) n w Q := by
  intro p l e s m args below meth c H locs ls D cA ad ad0 n0 A F G LL SS
  exact lv_if_lt F.1 F.2.1 h ht (fun q => kt q p l e s m args below meth c H locs ls D cA ad ad0 n0 A F G LL (pm_St SS)) (fun q => kf q p l e s m args below meth c H locs ls D cA ad ad0 n0 A F G LL (pm_St SS))
theorem pm_icmp_lt {x y : Int32} {off : Int} {tgt : Nat} (h : decode M.2.1 pc = .ok (.if_icmp .lt off, 3)) (ht : (pc : Int) + off = (tgt : Int)) (kt : x < y → pm_X gs ro M d mc ms c0 s0 tgt L st n w Q) (kf : ¬ x < y → pm_X gs ro M d mc ms c0 s0 (pc + 3) L st n w Q) : pm_X gs ro M d mc ms c0 s0 pc L (.int y :: .int x :: st) n w Q := by
  intro p l e s m args below meth c H locs ls D cA ad ad0 n0 A F G LL SS
  exact lv_icmp_lt F.1 F.2.1 h ht (fun q => kt q p l e s m args below meth c H locs ls D cA ad ad0 n0 A F G LL (pm_St (pm_St SS))) (fun q => kf q p l e s m args below meth c H locs ls D cA ad ad0 n0 A F G LL (pm_St (pm_St SS)))
theorem pm_if_ge {x : Int32} {off : Int} {tgt : Nat} (h : decode M.2.1 pc = .ok (.ifCond .ge off, 3)) (ht : (pc : Int) + off = (tgt : Int)) (kt : 0 ≤ x → pm_X gs ro M d mc ms c0 s0 tgt L st n w Q) (kf : ¬ 0 ≤ x → pm_X gs ro M d mc ms c0 s0 (pc + 3) L st n w Q) : pm_X gs ro M d mc ms c0 s0 pc L (.int x :: st) n w Q := by
  intro p l e s m args below meth c H locs ls D cA ad ad0 n0 A F G LL SS
  exact lv_if_ge F.1 F.2.1 h ht (fun q => kt q p l e s m args below meth c H locs ls D cA ad ad0 n0 A F G LL (pm_St SS)) (fun q => kf q p l e s m args below meth c H locs ls D cA ad ad0 n0 A F G LL (pm_St SS))
theorem pm_icmp_ge {x y : Int32} {off : Int} {tgt : Nat} (h : decode M.2.1 pc = .ok (.if_icmp .ge off, 3)) (ht : (pc : Int) + off = (tgt : Int)) (kt : y ≤ x → pm_X gs ro M d mc ms c0 s0 tgt L st n w Q) (kf : ¬ y ≤ x → pm_X gs ro M d mc ms c0 s0 (pc + 3) L st n w Q) : pm_X gs ro M d mc ms c0 s0 pc L (.int y :: .int x :: st) n w Q := by
  intro p l e s m args below meth c H locs ls D cA ad ad0 n0 A F G LL SS
  exact lv_icmp_ge F.1 F.2.1 h ht (fun q => kt q p l e s m args below meth c H locs ls D cA ad ad0 n0 A F G LL (pm_St (pm_St SS))) (fun q => kf q p l e s m args below meth c H locs ls D cA ad ad0 n0 A F G LL (pm_St (pm_St SS)))
theorem pm_if_gt {x : Int32} {off : Int} {tgt : Nat} (h : decode M.2.1 pc = .ok (.ifCond .gt off, 3)) (ht : (pc : Int) + off = (tgt : Int)) (kt : 0 < x → pm_X gs ro M d mc ms c0 s0 tgt L st n w Q) (kf : ¬ 0 < x → pm_X gs ro M d mc ms c0 s0 (pc + 3) L st n w Q) : pm_X gs ro M d mc ms c0 s0 pc L (.int x :: st) n w Q := by
  intro p l e s m args below meth c H locs ls D cA ad ad0 n0 A F G LL SS
  exact lv_if_gt F.1 F.2.1 h ht (fun q => kt q p l e s m args below meth c H locs ls D cA ad ad0 n0 A F G LL (pm_St SS)) (fun q => kf q p l e s m args below meth c H locs ls D cA ad ad0 n0 A F G LL (pm_St SS))
theorem pm_icmp_gt {x y : Int32} {off : Int} {tgt : Nat} (h : decode M.2.1 pc = .ok (.if_icmp .gt off, 3)) (ht : (pc : Int) + off = (tgt : Int)) (kt : y < x → pm_X gs ro M d mc ms c0 s0 tgt L st n w Q) (kf : ¬ y < x → pm_X gs ro M d mc ms c0 s0 (pc + 3) L st n w Q) : pm_X gs ro M d mc ms c0 s0 pc L (.int y :: .int x :: st) n w Q := by
  intro p l e s m args below meth c H locs ls D cA ad ad0 n0 A F G LL SS
  exact lv_icmp_gt F.1 F.2.1 h ht (fun q => kt q p l e s m args below meth c H locs ls D cA ad ad0 n0 A F G LL (pm_St (pm_St SS))) (fun q => kf q p l e s m args below meth c H locs ls D cA ad ad0 n0 A F G LL (pm_St (pm_St SS)))
theorem pm_if_le {x : Int32} {off : Int} {tgt : Nat} (h : decode M.2.1 pc = .ok (.ifCond .le off, 3)) (ht : (pc : Int) + off = (tgt : Int)) (kt : x ≤ 0 → pm_X gs ro M d mc ms c0 s0 tgt L st n w Q) (kf : ¬ x ≤ 0 → pm_X gs ro M d mc ms c0 s0 (pc + 3) L st n w Q) : pm_X gs ro M d mc ms c0 s0 pc L (.int x :: st) n w Q := by
  intro p l e s m args below meth c H locs ls D cA ad ad0 n0 A F G LL SS
  exact lv_if_le F.1 F.2.1 h ht (fun q => kt q p l e s m args below meth c H locs ls D cA ad ad0 n0 A F G LL (pm_St SS)) (fun q => kf q p l e s m args below meth c H locs ls D cA ad ad0 n0 A F G LL (pm_St SS))
theorem pm_icmp_le {x y : Int32} {off : Int} {tgt : Nat} (h : decode M.2.1 pc = .ok (.if_icmp .le off, 3)) (ht : (pc : Int) + off = (tgt : Int)) (kt : x ≤ y → pm_X gs ro M d mc ms c0 s0 tgt L st n w Q) (kf : ¬ x ≤ y → pm_X gs ro M d mc ms c0 s0 (pc + 3) L st n w Q) : pm_X gs ro M d mc ms c0 s0 pc L (.int y :: .int x :: st) n w Q := by
  intro p l e s m args below meth c H locs ls D cA ad ad0 n0 A F G LL SS
  exact lv_icmp_le F.1 F.2.1 h ht (fun q => kt q p l e s m args below meth c H locs ls D cA ad ad0 n0 A F G LL (pm_St (pm_St SS))) (fun q => kf q p l e s m args below meth c H locs ls D cA ad ad0 n0 A F G LL (pm_St (pm_St SS)))
theorem pm_goto {off : Int} {tgt : Nat} (h : decode M.2.1 pc = .ok (.goto off, 3)) (ht : (pc : Int) + off = (tgt : Int)) (kk : pm_X gs ro M d mc ms c0 s0 tgt L st n w Q) : pm_X gs ro M d mc ms c0 s0 pc L st n w Q := by
  intro p l e s m args below meth c H locs ls D cA ad ad0 n0 A F G LL SS
  exact lv_goto F.1 F.2.1 h ht (kk p l e s m args below meth c H locs ls D cA ad ad0 n0 A F G LL SS)
theorem pm_ifnull {x : Nat} {off : Int} (h : decode M.2.1 pc = .ok (.ifnull off, 3)) (kk : pm_X gs ro M d mc ms c0 s0 (pc + 3) L st n w Q) : pm_X gs ro M d mc ms c0 s0 pc L (.ref x :: st) n w Q := by
  intro p l e s m args below meth c H locs ls D cA ad ad0 n0 A F G LL SS
  exact lv_ifnull F.1 F.2.1 h (kk p l e s m args below meth c H locs ls D cA ad ad0 n0 A F G LL (pm_St SS))
theorem pm_ifnullN {x : Nat} {off : Int} {tgt : Nat} (h : decode M.2.1 pc = .ok (.ifnull off, 3)) (ht : (pc : Int) + off = (tgt : Int)) (kk : pm_X gs ro M d mc ms c0 s0 tgt L st n w Q) : pm_X gs ro M d mc ms c0 s0 pc L (.null :: st) n w Q := by
  intro p l e s m args below meth c H locs ls D cA ad ad0 n0 A F G LL SS
  exact lv_ifnullN F.1 F.2.1 h ht (kk p l e s m args below meth c H locs ls D cA ad ad0 n0 A F G LL (pm_St SS))
theorem pm_ifnonnull {x : Nat} {off : Int} {tgt : Nat} (h : decode M.2.1 pc = .ok (.ifnonnull off, 3)) (ht : (pc : Int) + off = (tgt : Int)) (kk : pm_X gs ro M d mc ms c0 s0 tgt L st n w Q) : pm_X gs ro M d mc ms c0 s0 pc L (.ref x :: st) n w Q := by
  intro p l e s m args below meth c H locs ls D cA ad ad0 n0 A F G LL SS
  exact lv_ifnonnull F.1 F.2.1 h ht (kk p l e s m args below meth c H locs ls D cA ad ad0 n0 A F G LL (pm_St SS))
theorem pm_ifnonnullN {x : Nat} {off : Int} (h : decode M.2.1 pc = .ok (.ifnonnull off, 3)) (kk : pm_X gs ro M d mc ms c0 s0 (pc + 3) L st n w Q) : pm_X gs ro M d mc ms c0 s0 pc L (.null :: st) n w Q := by
  intro p l e s m args below meth c H locs ls D cA ad ad0 n0 A F G LL SS
  exact lv_ifnonnullN F.1 F.2.1 h (kk p l e s m args below meth c H locs ls D cA ad ad0 n0 A F G LL (pm_St SS))
theorem pm_lookup {dflt : Int} {ps : Array (Int × Int)} {len : Nat} {x : Int32} {off : Int} {tgt : Nat} (h : decode M.2.1 pc = .ok (.lookupswitch dflt ps, len)) (hp : (ps.toList.zip (ps.toList.drop 1)).all (fun (a, next) => a.1 < next.1) = true) (ho : Op.lookupswitch.offset ps.toList dflt x.toInt = off) (ht : (pc : Int) + off = (tgt : Int)) (kk : pm_X gs ro M d mc ms c0 s0 tgt L st n w Q) : pm_X gs ro M d mc ms c0 s0 pc L (.int x :: st) n w Q := by
  intro p l e s m args below meth c H locs ls D cA ad ad0 n0 A F G LL SS
  exact lv_lookup F.1 F.2.1 h hp ho ht (kk p l e s m args below meth c H locs ls D cA ad ad0 n0 A F G LL (pm_St SS))
theorem pm_tableOut {dflt lo hi : Int} {offs : Array Int} {len : Nat} {x : Int32} {tgt : Nat} (h : decode M.2.1 pc = .ok (.tableswitch dflt lo hi offs, len)) (hx : x.toInt < lo ∨ hi < x.toInt) (ht : (pc : Int) + dflt = (tgt : Int)) (kk : pm_X gs ro M d mc ms c0 s0 tgt L st n w Q) : pm_X gs ro M d mc ms c0 s0 pc L (.int x :: st) n w Q := by
  intro p l e s m args below meth c H locs ls D cA ad ad0 n0 A F G LL SS
  exact lv_tableOut F.1 F.2.1 h hx ht (kk p l e s m args below meth c H locs ls D cA ad ad0 n0 A F G LL (pm_St SS))
theorem pm_tableIn {dflt lo hi : Int} {offs : Array Int} {len : Nat} {x : Int32} {off : Int} {tgt : Nat} (h : decode M.2.1 pc = .ok (.tableswitch dflt lo hi offs, len)) (h1 : ¬ x.toInt < lo) (h2 : ¬ hi < x.toInt) (ho : offs[(x.toInt - lo).toNat]? = some off) (ht : (pc : Int) + off = (tgt : Int)) (kk : pm_X gs ro M d mc ms c0 s0 tgt L st n w Q) : pm_X gs ro M d mc ms c0 s0 pc L (.int x :: st) n w Q := by
  intro p l e s m args below meth c H locs ls D cA ad ad0 n0 A F G LL SS
  exact lv_tableIn F.1 F.2.1 h h1 h2 ho ht (kk p l e s m args below meth c H locs ls D cA ad ad0 n0 A F G LL (pm_St SS))
theorem pm_L_store {nL i n : Nat} {ls : Array Slot} {ad : Nat → Nat} {L : List (Option Value)} {v : Value} (h : pm_L nL ls ad n L) (hi : i < nL) (hc : v.category = 1) (hv : pm_ok n v) (h2 : ∀ (j : Nat) (u : Value), L[j]? = some (some u) → u.category = 1) : ∃ ls', storeLocals ls i (pm_v ad v) = some ls' ∧ pm_L nL ls' ad n (L.set i (some v)) := by
  have hh : lv_has ls nL ((List.range L.length).filterMap (fun j => match L[j]? with | some (some u) => some (j, pm_v ad u) | _ => none)) := by
    refine ⟨h.1, h.2.1, fun q hq => ?_⟩
    obtain ⟨j, -, hj⟩ := List.mem_filterMap.mp hq
    cases hL : L[j]? with
    | none => rw [hL] at hj; cases hj
    | some o =>
      cases o with
      | none => rw [hL] at hj; cases hj
      | some u => rw [hL] at hj; cases hj; exact (h.2.2 j u hL).1
  obtain ⟨ls', e', h'⟩ := lv_store1 (v := pm_v ad v) hh hi (by rw [pm_v_cat]; exact hc)
  refine ⟨ls', e', h'.1, h'.2.1, fun j u hj => ?_⟩
  by_cases q : i = j
  · subst q
    have hlt : i < L.length := by
      have := (List.getElem?_eq_some_iff.mp hj).1
      rwa [List.length_set] at this
    rw [List.getElem?_set_self hlt] at hj
    cases hj
    exact ⟨h'.2.2 _ List.mem_cons_self, hv⟩
  · rw [List.getElem?_set_ne q] at hj
    refine ⟨h'.2.2 (j, pm_v ad u) (List.mem_cons_of_mem _ (List.mem_filter.mpr ⟨List.mem_filterMap.mpr ⟨j, List.mem_range.mpr (List.getElem?_eq_some_iff.mp hj).1, by rw [hj]⟩, ?_⟩)), (h.2.2 j u hj).2⟩
    have hcu : (pm_v ad u).category = 1 := by rw [pm_v_cat]; exact h2 j u hj
    simp [hcu, Ne.symm q]
/-- no long stands among the locals -/
def pm_L1 (L : List (Option Value)) : Bool := L.all (fun o => match o with | some u => u.category == 1 | none => true)
theorem pm_L1_spec {L : List (Option Value)} (h : pm_L1 L = true) : ∀ (j : Nat) (u : Value), L[j]? = some (some u) → u.category = 1 := fun j u hj => by
  have := List.all_eq_true.mp h _ (List.mem_of_getElem? hj)
  simpa using this
theorem pm_istore {i : Nat} {x : Int32} {L' : List (Option Value)} (h : decode M.2.1 pc = .ok (.istore i, 2)) (hi : i < M.2.2.1) (h1 : pm_L1 L = true) (hL : L.set i (some (.int x)) = L') (kk : pm_X gs ro M d mc ms c0 s0 (pc + 2) L' st n w Q) : pm_X gs ro M d mc ms c0 s0 pc L (.int x :: st) n w Q := by
  intro p l e s m args below meth c H locs ls D cA ad ad0 n0 A F G LL SS
  subst hL
  obtain ⟨ls', e', h'⟩ := pm_L_store (v := .int x) LL hi rfl (pm_Sh SS) (pm_L1_spec h1)
  intro T hT X
  obtain ⟨t, a, b⟩ := kk p l e s m args below meth c H locs ls' D cA ad ad0 n0 A F G h' (pm_St SS) T hT X
  refine ⟨t, ?_, b⟩
  have e' : storeLocals ls i (.int x) = some ls' := e'
  show Steps p.tables e below (T.setTop (F0 m pc ls (.int x :: st.map (pm_v ad)))) t
  jvm_step X.here [X.here.top, ↓top_set X.here.top, F.1, F.2.1, h, e']
  exact a
theorem pm_istore_n {k : Fin 4} {x : Int32} {L' : List (Option Value)} (h : decode M.2.1 pc = .ok (.istore_n k, 1)) (hi : (k : Nat) < M.2.2.1) (h1 : pm_L1 L = true) (hL : L.set (k : Nat) (some (.int x)) = L') (kk : pm_X gs ro M d mc ms c0 s0 (pc + 1) L' st n w Q) : pm_X gs ro M d mc ms c0 s0 pc L (.int x :: st) n w Q := by
  intro p l e s m args below meth c H locs ls D cA ad ad0 n0 A F G LL SS
  subst hL
  obtain ⟨ls', e', h'⟩ := pm_L_store (v := .int x) LL hi rfl (pm_Sh SS) (pm_L1_spec h1)
  intro T hT X
  obtain ⟨t, a, b⟩ := kk p l e s m args below meth c H locs ls' D cA ad ad0 n0 A F G h' (pm_St SS) T hT X
  refine ⟨t, ?_, b⟩
  have e' : storeLocals ls (k : Nat) (.int x) = some ls' := e'
  show Steps p.tables e below (T.setTop (F0 m pc ls (.int x :: st.map (pm_v ad)))) t
  jvm_step X.here [X.here.top, ↓top_set X.here.top, F.1, F.2.1, h, e']
  exact a
theorem pm_astore {i : Nat} {x : Nat} {L' : List (Option Value)} (h : decode M.2.1 pc = .ok (.astore i, 2)) (hi : i < M.2.2.1) (h1 : pm_L1 L = true) (hL : L.set i (some (.ref x)) = L') (kk : pm_X gs ro M d mc ms c0 s0 (pc + 2) L' st n w Q) : pm_X gs ro M d mc ms c0 s0 pc L (.ref x :: st) n w Q := by
  intro p l e s m args below meth c H locs ls D cA ad ad0 n0 A F G LL SS
  subst hL
  obtain ⟨ls', e', h'⟩ := pm_L_store (v := .ref x) LL hi rfl (pm_Sh SS) (pm_L1_spec h1)
  intro T hT X
  obtain ⟨t, a, b⟩ := kk p l e s m args below meth c H locs ls' D cA ad ad0 n0 A F G h' (pm_St SS) T hT X
  refine ⟨t, ?_, b⟩
  have e' : storeLocals ls i (.ref (ad x)) = some ls' := e'
  show Steps p.tables e below (T.setTop (F0 m pc ls (.ref (ad x) :: st.map (pm_v ad)))) t
  jvm_step X.here [X.here.top, ↓top_set X.here.top, F.1, F.2.1, h, e', Value.isRef]
  exact a
theorem pm_astore_n {k : Fin 4} {x : Nat} {L' : List (Option Value)} (h : decode M.2.1 pc = .ok (.astore_n k, 1)) (hi : (k : Nat) < M.2.2.1) (h1 : pm_L1 L = true) (hL : L.set (k : Nat) (some (.ref x)) = L') (kk : pm_X gs ro M d mc ms c0 s0 (pc + 1) L' st n w Q) : pm_X gs ro M d mc ms c0 s0 pc L (.ref x :: st) n w Q := by
  intro p l e s m args below meth c H locs ls D cA ad ad0 n0 A F G LL SS
  subst hL
  obtain ⟨ls', e', h'⟩ := pm_L_store (v := .ref x) LL hi rfl (pm_Sh SS) (pm_L1_spec h1)
  intro T hT X
  obtain ⟨t, a, b⟩ := kk p l e s m args below meth c H locs ls' D cA ad ad0 n0 A F G h' (pm_St SS) T hT X
  refine ⟨t, ?_, b⟩
  have e' : storeLocals ls (k : Nat) (.ref (ad x)) = some ls' := e'
  show Steps p.tables e below (T.setTop (F0 m pc ls (.ref (ad x) :: st.map (pm_v ad)))) t
  jvm_step X.here [X.here.top, ↓top_set X.here.top, F.1, F.2.1, h, e', Value.isRef]
  exact a
theorem pm_astoreN {i : Nat} {L' : List (Option Value)} (h : decode M.2.1 pc = .ok (.astore i, 2)) (hi : i < M.2.2.1) (h1 : pm_L1 L = true) (hL : L.set i (some .null) = L') (kk : pm_X gs ro M d mc ms c0 s0 (pc + 2) L' st n w Q) : pm_X gs ro M d mc ms c0 s0 pc L (.null :: st) n w Q := by
  intro p l e s m args below meth c H locs ls D cA ad ad0 n0 A F G LL SS
  subst hL
  obtain ⟨ls', e', h'⟩ := pm_L_store (v := .null) LL hi rfl pm_okn (pm_L1_spec h1)
  intro T hT X
  obtain ⟨t, a, b⟩ := kk p l e s m args below meth c H locs ls' D cA ad ad0 n0 A F G h' (pm_St SS) T hT X
  refine ⟨t, ?_, b⟩
  have e' : storeLocals ls i .null = some ls' := e'
  show Steps p.tables e below (T.setTop (F0 m pc ls (.null :: st.map (pm_v ad)))) t
  jvm_step X.here [X.here.top, ↓top_set X.here.top, F.1, F.2.1, h, e', Value.isRef]
  exact a
theorem pm_astore_nN {k : Fin 4} {L' : List (Option Value)} (h : decode M.2.1 pc = .ok (.astore_n k, 1)) (hi : (k : Nat) < M.2.2.1) (h1 : pm_L1 L = true) (hL : L.set (k : Nat) (some .null) = L') (kk : pm_X gs ro M d mc ms c0 s0 (pc + 1) L' st n w Q) : pm_X gs ro M d mc ms c0 s0 pc L (.null :: st) n w Q := by
  intro p l e s m args below meth c H locs ls D cA ad ad0 n0 A F G LL SS
  subst hL
  obtain ⟨ls', e', h'⟩ := pm_L_store (v := .null) LL hi rfl pm_okn (pm_L1_spec h1)
  intro T hT X
  obtain ⟨t, a, b⟩ := kk p l e s m args below meth c H locs ls' D cA ad ad0 n0 A F G h' (pm_St SS) T hT X
  refine ⟨t, ?_, b⟩
  have e' : storeLocals ls (k : Nat) .null = some ls' := e'
  show Steps p.tables e below (T.setTop (F0 m pc ls (.null :: st.map (pm_v ad)))) t
  jvm_step X.here [X.here.top, ↓top_set X.here.top, F.1, F.2.1, h, e', Value.isRef]
  exact a
theorem pm_iinc {i : Nat} {k : Int} {x v : Int32} {L' : List (Option Value)} (h : decode M.2.1 pc = .ok (.iinc i k, 3)) (hx : L[i]? = some (some (.int x))) (hv : x + Int32.ofInt k = v) (hi : i < M.2.2.1) (h1 : pm_L1 L = true) (hL : L.set i (some (.int v)) = L') (kk : pm_X gs ro M d mc ms c0 s0 (pc + 3) L' st n w Q) : pm_X gs ro M d mc ms c0 s0 pc L st n w Q := by
  intro p l e s m args below meth c H locs ls D cA ad ad0 n0 A F G LL SS
  subst hL
  subst hv
  obtain ⟨ls', e', h'⟩ := pm_L_store (v := .int (x + Int32.ofInt k)) LL hi rfl pm_oki (pm_L1_spec h1)
  have hg : ls[i]? = some (.val (.int x)) := (LL.2.2 i _ hx).1
  intro T hT X
  obtain ⟨t, a, b⟩ := kk p l e s m args below meth c H locs ls' D cA ad ad0 n0 A F G h' SS T hT X
  refine ⟨t, ?_, b⟩
  have e' : storeLocals ls i (.int (x + Int32.ofInt k)) = some ls' := e'
  jvm_step X.here [X.here.top, ↓top_set X.here.top, F.1, F.2.1, h, hg, e']
  exact a
end PMR
end
section
/-- a class: its number among vwCl, its words in the tables -/
def pm_cl (ci : Nat) (C : String) (T : u_T) (N : Nat) (ty : Nat → FieldType) : Prop := vwCl[ci]? = some (C, T, N) ∧ (∀ w ∈ u_ws C T N, w ∈ lw_g) ∧ (∀ k, k < N → parseFieldDescriptor (T k).2.2.1 = some (ty k)) ∧ ∀ a, a < N → ∀ b, b < N → a ≠ b → (T a).2.1 ≠ (T b).2.1
/-- entry idx of the pool of own: slot k (of type t, final or not) of class ci -/
def pm_fl (own : String) (idx ci k : Nat) (t : FieldType) (fin : Bool) : Prop := ∃ C T N ty, pm_cl ci C T N ty ∧ k < N ∧ Cond.fieldLink own idx (T k).1 (T k).2.1 (T k).2.2.1 ∈ lw_g ∧ ty k = t ∧ (T k).2.2.2 = fin ∧ (T k).1 = C
theorem pm_hts {M : pm_M} {args : Array Value} {s : State} (h : ∀ w ∈ pm_ws M, w.before args s = true) {x : Cond} (hx : x ∈ lw_g) : x.before args s = true := h x (List.mem_cons_of_mem _ hx)
section PMH
variable {gs : List String} {ro : pm_RO} {M : pm_M} {d mc ms c0 s0 pc : Nat} {L : List (Option Value)} {st : List Value} {n : Nat} {w : Nat → va_E} {Q : Option Value → Nat → (Nat → va_E) → Prop}
theorem pm_get {idx ci k a : Nat} {t : FieldType} {fin : Bool} {fs : List Value} {v : Value} (h : decode M.2.1 pc = .ok (.getfield idx, 3)) (hf : pm_fl M.1.cls idx ci k t fin) (ha : a < n) (hw : w a = .inr (ci, fs)) (hv : fs[k]? = some v) (kk : pm_X gs ro M d mc ms c0 s0 (pc + 3) L (v :: st) n w Q) : pm_X gs ro M d mc ms c0 s0 pc L (.ref a :: st) n w Q := by
  intro p l e s m args below meth c H locs ls D cA ad ad0 n0 A F G LL SS
  obtain ⟨C, T, N, ty, ⟨hc, hin, -, -⟩, hk, hlk, -, -, -⟩ := hf
  have hts := F.2.2.2.2.2.2.2.1
  have hok : pm_ok n v := (G.2.2.2.2.2.2 a ha).2 ci fs hw v (List.mem_of_getElem? hv)
  refine va_get (D := D) (ci := ci) (fs := fs.map (pm_v ad)) (C := C) (T := T) (N := N) F.1 F.2.1 (Ts := pm_ws M) hts (fun x hx => List.mem_cons_of_mem _ (hin x hx)) F.2.2.2.2.2.2.1 F.2.2.2.2.2.2.2.2.1 G.1 a ?_ hc k hk (pm_hts hts hlk) (fun _ q => q) (v := pm_v ad v) ?_ h (kk p l e s m args below meth c H locs ls D cA ad ad0 n0 A F G LL (pm_Sc hok (pm_St SS)))
  · rw [pm_W_get ha, hw]; rfl
  · rw [List.getElem?_map, hv]; rfl
theorem pm_put {idx ci k a : Nat} {t : FieldType} {fs : List Value} {v : Value} (h : decode M.2.1 pc = .ok (.putfield idx, 3)) (hf : pm_fl M.1.cls idx ci k t false) (ha : a < n) (hw : w a = .inr (ci, fs)) (hl : k < fs.length) (hn : ∀ ad : Nat → Nat, narrow t (pm_v ad v) = pm_v ad v) (hfit : ∀ ad : Nat → Nat, fits t (pm_v ad v) = true) (kk : pm_X gs ro M d mc ms c0 s0 (pc + 3) L st n (va_up w a (.inr (ci, fs.set k v))) Q) : pm_X gs ro M d mc ms c0 s0 pc L (v :: .ref a :: st) n w Q := by
  intro p l e s m args below meth c H locs ls D cA ad ad0 n0 A F G LL SS
  obtain ⟨C, T, N, ty, ⟨hc, hin, hty, hnm⟩, hk, hlk, ht, hfin, hC⟩ := hf
  have hts := F.2.2.2.2.2.2.2.1
  have hwk := G.2.2.2.2.2.2
  have hek : pm_ek n (.inr (ci, fs.set k v)) := pm_eko fun u hu => by
    rcases List.mem_or_eq_of_mem_set hu with q | q
    · exact (hwk a ha).2 ci fs hw u q
    · rw [q]; exact pm_Sh SS
  refine va_put (D := D) (ci := ci) (fs := fs.map (pm_v ad)) (C := C) (T := T) (N := N) F.1 F.2.1 (Ts := pm_ws M) hts (fun x hx => List.mem_cons_of_mem _ (hin x hx)) ty hty hnm F.2.2.2.2.2.2.1 F.2.2.2.2.2.2.2.2.1 G.1 G.2.1 G.2.2.1 a ?_ hc k hk (pm_hts hts hlk) (fun _ q => q) hfin (ty := t) (v := pm_v ad v) (by rw [hty k hk, ht]) (hn ad) (hfit ad) (by rw [List.length_map]; exact hl) h (fun H1 locs1 hP hD hS => ?_)
  · rw [pm_W_get ha, hw]; rfl
  · have e1 : (pm_W cA ad n w).set a (ad a, .inr (ci, (fs.map (pm_v ad)).set k (pm_v ad v))) = pm_W cA ad n (va_up w a (.inr (ci, fs.set k v))) := by
      rw [← pm_W_set]
      show _ = (pm_W cA ad n w).set a (ad a, .inr (ci, (fs.set k v).map (pm_v ad)))
      rw [List.map_set]
    rw [e1] at hP hD
    exact kk p l e s m args below meth c H1 locs1 ls D cA ad ad0 n0 A F ⟨hP, hD, hS, G.2.2.2.1, G.2.2.2.2.1, G.2.2.2.2.2.1, pm_wku hwk hek⟩ LL (pm_St (pm_St SS))
theorem pm_putF {idx ci k a : Nat} {t : FieldType} {fs : List Value} {v : Value} (h : decode M.2.1 pc = .ok (.putfield idx, 3)) (hf : pm_fl M.1.cls idx ci k t true) (ha : a < n) (hw : w a = .inr (ci, fs)) (hl : k < fs.length) (hi : M.1.name = "<init>") (hown : ∀ r, vwCl[ci]? = some r → r.1 = M.1.cls) (hn : ∀ ad : Nat → Nat, narrow t (pm_v ad v) = pm_v ad v) (hfit : ∀ ad : Nat → Nat, fits t (pm_v ad v) = true) (kk : pm_X gs ro M d mc ms c0 s0 (pc + 3) L st n (va_up w a (.inr (ci, fs.set k v))) Q) : pm_X gs ro M d mc ms c0 s0 pc L (v :: .ref a :: st) n w Q := by
  intro p l e s m args below meth c H locs ls D cA ad ad0 n0 A F G LL SS
  obtain ⟨C, T, N, ty, ⟨hc, hin, hty, hnm⟩, hk, hlk, ht, hfin, hC⟩ := hf
  have hts := F.2.2.2.2.2.2.2.1
  have hwk := G.2.2.2.2.2.2
  have hek : pm_ek n (.inr (ci, fs.set k v)) := pm_eko fun u hu => by
    rcases List.mem_or_eq_of_mem_set hu with q | q
    · exact (hwk a ha).2 ci fs hw u q
    · rw [q]; exact pm_Sh SS
  refine va_putF (D := D) (ci := ci) (fs := fs.map (pm_v ad)) (C := C) (T := T) (N := N) F.1 F.2.1 (Ts := pm_ws M) hts (fun x hx => List.mem_cons_of_mem _ (hin x hx)) ty hty hnm F.2.2.2.2.2.2.1 F.2.2.2.2.2.2.2.2.1 G.1 G.2.1 G.2.2.1 a ?_ hc k hk (pm_hts hts hlk) (fun _ q => q) hfin (F.2.2.2.2.2.1.trans hi) (hC.trans (hown _ hc)) (ty := t) (v := pm_v ad v) (by rw [hty k hk, ht]) (hn ad) (hfit ad) (by rw [List.length_map]; exact hl) h (fun H1 locs1 hP hD hS => ?_)
  · rw [pm_W_get ha, hw]; rfl
  · have e1 : (pm_W cA ad n w).set a (ad a, .inr (ci, (fs.map (pm_v ad)).set k (pm_v ad v))) = pm_W cA ad n (va_up w a (.inr (ci, fs.set k v))) := by
      rw [← pm_W_set]
      show _ = (pm_W cA ad n w).set a (ad a, .inr (ci, (fs.set k v).map (pm_v ad)))
      rw [List.map_set]
    rw [e1] at hP hD
    exact kk p l e s m args below meth c H1 locs1 ls D cA ad ad0 n0 A F ⟨hP, hD, hS, G.2.2.2.1, G.2.2.2.2.1, G.2.2.2.2.2.1, pm_wku hwk hek⟩ LL (pm_St (pm_St SS))
theorem pm_iald {a N : Nat} {f : Nat → Int32} {i : Int32} (h : decode M.2.1 pc = .ok (.iaload, 1)) (ha : a < n) (hw : w a = .inl (0, N, .inl f)) (hi : vp_in i N) (kk : pm_X gs ro M d mc ms c0 s0 (pc + 1) L (.int (f i.toNatClampNeg) :: st) n w Q) : pm_X gs ro M d mc ms c0 s0 pc L (.int i :: .ref a :: st) n w Q := by
  intro p l e s m args below meth c H locs ls D cA ad ad0 n0 A F G LL SS
  refine va_iald (D := D) F.1 F.2.1 F.2.2.2.2.2.2.2.2.1 G.1 a 0 (cA := cA 0) (n := N) (f := f) ?_ rfl hi h (kk p l e s m args below meth c H locs ls D cA ad ad0 n0 A F G LL (pm_Si (pm_St (pm_St SS))))
  rw [pm_W_get ha, hw]; rfl
theorem pm_zald {a N : Nat} {f : Nat → Int32} {i : Int32} (h : decode M.2.1 pc = .ok (.baload, 1)) (ha : a < n) (hw : w a = .inl (1, N, .inl f)) (hi : vp_in i N) (kk : pm_X gs ro M d mc ms c0 s0 (pc + 1) L (.int (f i.toNatClampNeg) :: st) n w Q) : pm_X gs ro M d mc ms c0 s0 pc L (.int i :: .ref a :: st) n w Q := by
  intro p l e s m args below meth c H locs ls D cA ad ad0 n0 A F G LL SS
  refine va_zald (D := D) F.1 F.2.1 F.2.2.2.2.2.2.2.2.1 G.1 a 1 (cA := cA 1) (n := N) (f := f) ?_ rfl hi h (kk p l e s m args below meth c H locs ls D cA ad ad0 n0 A F G LL (pm_Si (pm_St (pm_St SS))))
  rw [pm_W_get ha, hw]; rfl
theorem pm_iast {a N : Nat} {f : Nat → Int32} {i x : Int32} (h : decode M.2.1 pc = .ok (.iastore, 1)) (ha : a < n) (hw : w a = .inl (0, N, .inl f)) (hi : vp_in i N) (kk : pm_X gs ro M d mc ms c0 s0 (pc + 1) L st n (va_up w a (.inl (0, N, .inl (upd f i.toNatClampNeg x)))) Q) : pm_X gs ro M d mc ms c0 s0 pc L (.int x :: .int i :: .ref a :: st) n w Q := by
  intro p l e s m args below meth c H locs ls D cA ad ad0 n0 A F G LL SS
  refine va_iast (D := D) F.1 F.2.1 F.2.2.2.2.2.2.2.2.1 G.1 G.2.1 G.2.2.1 a 0 (cA := cA 0) (n := N) (f := f) ?_ rfl hi h (fun H1 locs1 hP hD hS => ?_)
  · rw [pm_W_get ha, hw]; rfl
  · have e1 := pm_W_set (cA := cA) (ad := ad) (n := n) (k := a) (w := w) (.inl (0, N, .inl (upd f i.toNatClampNeg x)))
    have hP : va_P D vwCl (pm_W cA ad n (va_up w a (.inl (0, N, .inl (upd f i.toNatClampNeg x))))) H1 := e1 ▸ hP
    have hD : va_D A (pm_W cA ad n (va_up w a (.inl (0, N, .inl (upd f i.toNatClampNeg x))))) := e1 ▸ hD
    exact kk p l e s m args below meth c H1 locs1 ls D cA ad ad0 n0 A F ⟨hP, hD, hS, G.2.2.2.1, G.2.2.2.2.1, G.2.2.2.2.2.1, pm_wku G.2.2.2.2.2.2 pm_eki⟩ LL (pm_St (pm_St (pm_St SS)))
theorem pm_zast {a N : Nat} {f : Nat → Int32} {i x : Int32} (h : decode M.2.1 pc = .ok (.bastore, 1)) (ha : a < n) (hw : w a = .inl (1, N, .inl f)) (hi : vp_in i N) (kk : pm_X gs ro M d mc ms c0 s0 (pc + 1) L st n (va_up w a (.inl (1, N, .inl (upd f i.toNatClampNeg (vp_nar .boolean x))))) Q) : pm_X gs ro M d mc ms c0 s0 pc L (.int x :: .int i :: .ref a :: st) n w Q := by
  intro p l e s m args below meth c H locs ls D cA ad ad0 n0 A F G LL SS
  refine va_zast (D := D) F.1 F.2.1 F.2.2.2.2.2.2.2.2.1 G.1 G.2.1 G.2.2.1 a 1 (cA := cA 1) (n := N) (f := f) ?_ rfl hi h (fun H1 locs1 hP hD hS => ?_)
  · rw [pm_W_get ha, hw]; rfl
  · have e1 := pm_W_set (cA := cA) (ad := ad) (n := n) (k := a) (w := w) (.inl (1, N, .inl (upd f i.toNatClampNeg (vp_nar .boolean x))))
    have hP : va_P D vwCl (pm_W cA ad n (va_up w a (.inl (1, N, .inl (upd f i.toNatClampNeg (vp_nar .boolean x)))))) H1 := e1 ▸ hP
    have hD : va_D A (pm_W cA ad n (va_up w a (.inl (1, N, .inl (upd f i.toNatClampNeg (vp_nar .boolean x)))))) := e1 ▸ hD
    exact kk p l e s m args below meth c H1 locs1 ls D cA ad ad0 n0 A F ⟨hP, hD, hS, G.2.2.2.1, G.2.2.2.2.1, G.2.2.2.2.2.1, pm_wku G.2.2.2.2.2.2 pm_eki⟩ LL (pm_St (pm_St (pm_St SS)))
theorem pm_alen {a t N : Nat} {x : pm_A} {v : Int32} (h : decode M.2.1 pc = .ok (.arraylength, 1)) (ha : a < n) (hw : w a = .inl (t, N, x)) (ht : t < 4) (hv : Int32.ofNat N = v) (kk : pm_X gs ro M d mc ms c0 s0 (pc + 1) L (.int v :: st) n w Q) : pm_X gs ro M d mc ms c0 s0 pc L (.ref a :: st) n w Q := by
  intro p l e s m args below meth c H locs ls D cA ad ad0 n0 A F G LL SS
  obtain ⟨ty, hty⟩ : ∃ ty, (pm_tys cA)[t]? = some (cA t, ty) := by
    match t, ht with
    | 0, _ => exact ⟨_, rfl⟩
    | 1, _ => exact ⟨_, rfl⟩
    | 2, _ => exact ⟨_, rfl⟩
    | 3, _ => exact ⟨_, rfl⟩
  refine va_alen (D := D) F.1 F.2.1 F.2.2.2.2.2.2.2.2.1 G.1 a t (cA := cA t) (x := (N, pm_x ad x)) ?_ hty hv h (kk p l e s m args below meth c H locs ls D cA ad ad0 n0 A F G LL (pm_Si (pm_St SS)))
  rw [pm_W_get ha, hw]; rfl
/-- a read-only array -/
theorem pm_tld {a N : Nat} {f : Nat → Int32} {i : Int32} (h : decode M.2.1 pc = .ok (.iaload, 1)) (hr : ro a = some (N, f)) (hi : vp_in i N) (kk : pm_X gs ro M d mc ms c0 s0 (pc + 1) L (.int (f i.toNatClampNeg) :: st) n w Q) : pm_X gs ro M d mc ms c0 s0 pc L (.int i :: .ref a :: st) n w Q := by
  intro p l e s m args below meth c H locs ls D cA ad ad0 n0 A F G LL SS
  obtain ⟨h1, h2⟩ := F.2.2.2.2.2.2.2.2.2.2.1 a N f hr
  rw [← G.2.2.2.2.2.1 a (Or.inr h1)] at h2
  exact va_ti F.1 F.2.1 h2 G.2.2.1 hi rfl h (kk p l e s m args below meth c H locs ls D cA ad ad0 n0 A F G LL (pm_Si (pm_St (pm_St SS))))
theorem pm_tlen {a N : Nat} {f : Nat → Int32} {v : Int32} (h : decode M.2.1 pc = .ok (.arraylength, 1)) (hr : ro a = some (N, f)) (hv : Int32.ofNat N = v) (kk : pm_X gs ro M d mc ms c0 s0 (pc + 1) L (.int v :: st) n w Q) : pm_X gs ro M d mc ms c0 s0 pc L (.ref a :: st) n w Q := by
  intro p l e s m args below meth c H locs ls D cA ad ad0 n0 A F G LL SS
  obtain ⟨h1, h2⟩ := F.2.2.2.2.2.2.2.2.2.2.1 a N f hr
  rw [← G.2.2.2.2.2.1 a (Or.inr h1)] at h2
  exact va_tlen F.1 F.2.1 h2 G.2.2.1 hv h (kk p l e s m args below meth c H locs ls D cA ad ad0 n0 A F G LL (pm_Si (pm_St SS)))
theorem pm_gets {idx j : Nat} {nm : String} (h : decode M.2.1 pc = .ok (.getstatic idx, 3)) (hj : gs[j]? = some nm) (hl : Cond.fieldLink M.1.cls idx "RunsBack" nm "[I" ∈ lw_g) (kk : pm_X gs ro M d mc ms c0 s0 (pc + 3) L (.ref (1000000 + j) :: st) n w Q) : pm_X gs ro M d mc ms c0 s0 pc L st n w Q := by
  intro p l e s m args below meth c H locs ls D cA ad ad0 n0 A F G LL SS
  have hz := F.2.2.2.2.2.2.2.2.2.2.2.1 j nm hj
  rw [← G.2.2.2.2.2.1 (1000000 + j) (Or.inr (Nat.le_add_right _ _))] at hz
  exact va_gets F.1 F.2.1 hz G.2.2.1 F.2.2.2.2.2.2.1 (pm_hts F.2.2.2.2.2.2.2.1 hl) (fun _ q => q) h (kk p l e s m args below meth c H locs ls D cA ad ad0 n0 A F G LL (pm_Sc (fun k q => by cases q; exact Or.inr (Nat.le_add_right _ _)) SS))
/-! returns -/
theorem pm_ret0 {r : Option Value} {s : State} {D : va_G} {cA : Nat → ClassId} {ad ad0 : Nat → Nat} {n0 : Nat} {A : Nat → Prop} {H : Heap} {locs : List Loc} {args : Array Value} (hK : va_K D vwCl (pm_tys cA) s) (G : pm_G s D cA ad0 n0 A H locs ad n w) (hr : ∀ v, r = some v → pm_ok n v) (hq : Q r n w) : ∀ t : State, t.heap = H → s.WarmedH t.vm → pm_Q D cA ad0 n0 A Q args s (.returned (r.map (pm_v ad))) t := fun t ht hW =>
  ⟨⟨r, n, w, ad, rfl, hq, G.2.2.2.1, G.2.2.2.2.1, G.2.2.2.2.2.1, G.2.2.2.2.2.2, hr, by rw [ht]; exact G.1, va_K.moved hW.alike hK, G.2.1⟩, G.2.2.1.F ht⟩
theorem pm_iret {v : Int32} (h : decode M.2.1 pc = .ok (.ireturn, 1)) (hr : M.2.2.2 = some .int) (hc : c0 ≤ mc) (hs : s0 ≤ ms) (hq : Q (some (.int v)) n w) : pm_X gs ro M d mc ms c0 s0 pc L [.int v] n w Q := by
  intro p l e s m args below meth c H locs ls D cA ad ad0 n0 A F G LL SS
  refine W.widen hc hs ?_
  exact W.iret (v := v) F.1 F.2.1 (F.2.2.2.1.trans hr) (pm_ret0 (r := some (.int v)) F.2.2.2.2.2.2.2.2.1 G (fun u q => by cases q; exact pm_oki) hq) G.2.2.1.2.2 h F.2.2.2.2.1
theorem pm_zret {v : Int32} (h : decode M.2.1 pc = .ok (.ireturn, 1)) (hr : M.2.2.2 = some .boolean) (hv : v = 0 ∨ v = 1) (hc : c0 ≤ mc) (hs : s0 ≤ ms) (hq : Q (some (.int v)) n w) : pm_X gs ro M d mc ms c0 s0 pc L [.int v] n w Q := by
  intro p l e s m args below meth c H locs ls D cA ad ad0 n0 A F G LL SS
  refine W.widen hc hs ?_
  exact W.zret (v := v) (ty := .boolean) F.1 F.2.1 (F.2.2.2.1.trans hr) (by rcases hv with rfl | rfl <;> decide +kernel) (pm_ret0 (r := some (.int v)) F.2.2.2.2.2.2.2.2.1 G (fun u q => by cases q; exact pm_oki) hq) G.2.2.1.2.2 h F.2.2.2.2.1
theorem pm_vret (h : decode M.2.1 pc = .ok (.return_, 1)) (hr : M.2.2.2 = none) (hc : c0 ≤ mc) (hs : s0 ≤ ms) (hq : Q none n w) : pm_X gs ro M d mc ms c0 s0 pc L [] n w Q := by
  intro p l e s m args below meth c H locs ls D cA ad ad0 n0 A F G LL SS
  refine W.widen hc hs ?_
  exact W.vret F.1 F.2.1 (F.2.2.2.1.trans hr) (pm_ret0 (r := none) F.2.2.2.2.2.2.2.2.1 G (fun u q => by cases q) hq) G.2.2.1.2.2 h F.2.2.2.2.1
theorem pm_aret {v : Value} {rt : FieldType} (h : decode M.2.1 pc = .ok (.areturn, 1)) (hr : M.2.2.2 = some rt) (hrt : (∃ n, rt = .object n) ∨ ∃ t, rt = .array t) (hv : v = .null ∨ ∃ a, v = .ref a) (hc : c0 ≤ mc) (hs : s0 ≤ ms) (hq : Q (some v) n w) : pm_X gs ro M d mc ms c0 s0 pc L [v] n w Q := by
  intro p l e s m args below meth c H locs ls D cA ad ad0 n0 A F G LL SS
  refine W.widen hc hs ?_
  exact W.aret (v := pm_v ad v) F.1 F.2.1 (F.2.2.2.1.trans hr) hrt (by rcases hv with rfl | ⟨a, rfl⟩; exact Or.inl rfl; exact Or.inr ⟨_, rfl⟩) (pm_ret0 (r := some v) F.2.2.2.2.2.2.2.2.1 G (fun u q => by cases q; exact pm_Sh SS) hq) G.2.2.1.2.2 h F.2.2.2.2.1
end PMH
end
section
theorem pm_good {M : pm_M} {x : Cond} (hx : x ∈ lw_g) : x ∈ pm_ws M ∧ ((x.onTables && x.keeps) = true ∨ ∃ ty, x = .arrayClass ty) := ⟨List.mem_cons_of_mem _ hx, good_of_word (List.mem_filter.mp hx).2⟩
theorem pm_N_warm {s U : State} (hW : s.WarmedH U.vm) (h : pm_N s) : pm_N U := ⟨fun own idx y host hm => (h.1 own idx y host hm).warmM hW, fun C hC => (h.2 C hC).moved hW.alike⟩
theorem pm_N_same {u U : State} (hvm : u.vm = U.vm) (h : pm_N u) : pm_N U := ⟨fun own idx y host hm => (h.1 own idx y host hm).same rfl hvm, fun C hC => (h.2 C hC).moved (by rw [hvm]; exact Vm.Alike.refl _)⟩
/-- a method's word stands in the tables -/
def pm_in (M : pm_M) : Prop := Cond.code M.1 M.2.1 M.2.2.1 M.2.2.2 ∈ lw_g ∧ plainName M.1.cls = true ∧ M.2.2.1 ≤ 21 ∧ M.1.cls ≠ "java/lang/invoke/MethodHandle" ∧ M.1.cls ≠ "java/lang/invoke/VarHandle" ∧ Cond.initialized M.1.cls ∈ lw_g
theorem pm_goodIn {M M' : pm_M} (h : pm_in M') : GoodIn (pm_ws M) (pm_ws M') := fun x hx => by
  rcases List.mem_cons.mp hx with q | q
  · rw [q]; exact pm_good h.1
  · exact pm_good q
/-- A METHOD'S CONTRACT: called with these arguments in this world it returns, and Q holds of its answer and of the world then -/
def pm_Met (gs : List String) (ro : pm_RO) (M : pm_M) (d mc ms : Nat) (av : List Value) (n : Nat) (w : Nat → va_E) (Q : Option Value → Nat → (Nat → va_E) → Prop) : Prop :=
  ∀ (l : Launch) (D : va_G) (cA : Nat → ClassId) (ad : Nat → Nat) (sz : Nat), n < 1000000 → pm_wk n w → pm_S n av →
    Met l M.1 (pm_ws M) (pm_rm d mc ms) (va_Pc (av.map (pm_v ad)) (fun U => U.heap.size = sz ∧ va_P D vwCl (pm_W cA ad n w) U.heap ∧ va_K D vwCl (pm_tys cA) U ∧ va_D (fun _ => True) (pm_W cA ad n w) ∧ pm_R ro ad (va_A (pm_W cA ad n w) sz) U ∧ pm_Z gs ad (va_A (pm_W cA ad n w) sz) U ∧ pm_N U)) (pm_Q D cA ad n (va_A (pm_W cA ad n w) sz) Q) mc ms (va_A (pm_W cA ad n w) sz)
theorem pm_args {ad : Nat → Nat} : ∀ (av : List Value) (i j : Nat) (v : Value), (∀ u ∈ av, u.category = 1) → av[j]? = some v → (i + j, pm_v ad v) ∈ lv_args i (av.map (pm_v ad))
  | [], i, j, v, _, h => by simp at h
  | u :: av, i, 0, v, hc, h => by
    simp at h
    subst h
    exact List.mem_cons_self
  | u :: av, i, j + 1, v, hc, h => by
    show _ ∈ (i, pm_v ad u) :: lv_args (if (pm_v ad u).category = 2 then i + 2 else i + 1) (av.map (pm_v ad))
    rw [if_neg (by rw [pm_v_cat, hc u List.mem_cons_self]; decide)]
    have := pm_args (ad := ad) av (i + 1) j v (fun q hq => hc q (List.mem_cons_of_mem _ hq)) (by simpa using h)
    rw [show i + (j + 1) = i + 1 + j by omega]
    exact List.mem_cons_of_mem _ this
theorem pm_slen {ad : Nat → Nat} : ∀ (av : List Value), (∀ u ∈ av, u.category = 1) → (lg_sl (av.map (pm_v ad))).length = av.length
  | [], _ => rfl
  | u :: av, hc => by
    have ih := pm_slen (ad := ad) av (fun q hq => hc q (List.mem_cons_of_mem _ hq))
    show ((if (pm_v ad u).category = 2 then [Slot.val (pm_v ad u), Slot.second] else [Slot.val (pm_v ad u)]) ++ lg_sl (av.map (pm_v ad))).length = av.length + 1
    rw [if_neg (by rw [pm_v_cat, hc u List.mem_cons_self]; decide), List.length_append, ih]
    simp
    omega
/-- the locals at a method's entry -/
abbrev pm_L0 (M : pm_M) (av : List Value) : List (Option Value) := av.map some ++ List.replicate (M.2.2.1 - av.length) none
theorem pm_ofX {gs : List String} {ro : pm_RO} {M : pm_M} {d mc ms : Nat} {av : List Value} {n : Nat} {w : Nat → va_E} {Q : Option Value → Nat → (Nat → va_E) → Prop} (hM : pm_in M) (hlen : av.length ≤ M.2.2.1) (hcat : av.all (fun v => v.category == 1) = true) {L : List (Option Value)} (hL : pm_L0 M av = L) (hx : pm_X gs ro M d mc ms 0 0 0 L [] n w Q) : pm_Met gs ro M d mc ms av n w Q := by
  subst hL
  have hcat : ∀ u ∈ av, u.category = 1 := fun u hu => by have := List.all_eq_true.mp hcat u hu; simpa using this
  intro l D cA ad sz hn hwk hav
  refine Met.ofW (cc := M.2.1) (maxL := M.2.2.1) (ret := M.2.2.2) hM.2.1 rfl ?_
  intro p e s m args below meth c s₁ B hml hv
  obtain ⟨rfl, hsz, hP, hK, hD0, hR, hZ, hN⟩ := hv
  subst hsz
  have hts := atoms_spec (ws := pm_ws M) B.pre
  have hown : s.vm.findClass M.1.cls = some m.cls := findClass_of_methodNamed B.named
  have hnm := (name_of_methodNamed B.named B.method).1
  have hD := hD0.self (sz := s.heap.size)
  rw [lg_entry_eq]
  have hl := lv_entry (av.map (pm_v ad)) (n := M.2.2.1) (by rw [pm_slen av hcat]; exact hlen)
  refine hx p l e s m _ below meth c s.heap [] _ D cA ad ad n (va_A (pm_W cA ad n w) s.heap.size) ⟨B.exec, B.bytes, hml, B.returns, B.notSynchronized, hnm, hown, hts, hK, fun q h => Or.inr h, hR, hZ, hN⟩ ⟨hP, hD, va_S.rf, Nat.le_refl _, hn, fun _ _ => rfl, hwk⟩ ⟨hl.1, hl.2.1, fun i v hi => ?_⟩ pm_S0
  have hi2 : av[i]? = some v := by
    by_cases q : i < av.length
    · rw [List.getElem?_append_left (by rw [List.length_map]; exact q), List.getElem?_map] at hi
      cases hq : av[i]? with
      | none => rw [hq] at hi; cases hi
      | some u => rw [hq] at hi; cases hi; rfl
    · rw [List.getElem?_append_right (by rw [List.length_map]; omega)] at hi
      have := List.mem_of_getElem? hi
      rw [List.mem_replicate] at this
      cases this.2
  refine ⟨?_, hav v (List.mem_of_getElem? hi2)⟩
  have := pm_args (ad := ad) av 0 i v hcat hi2
  rw [Nat.zero_add] at this
  exact hl.2.2 _ this
theorem pm_R_go {ro roc : pm_RO} {ad ad0 : Nat → Nat} {A B : Nat → Prop} {s U : State} {H : Heap} {n0 : Nat} (hro : ∀ k v, roc k = some v → ro k = some v) (h : pm_R ro ad0 A s) (hU : U.heap = H) (hvm : s.vm.Alike U.vm) (hS : ∀ q : Nat, q < s.heap.size → ¬ A q → H[q]? = s.heap[q]?) (hB : ∀ q, B q → A q) (hag : pm_ag n0 ad0 ad) : pm_R roc ad B U := fun k N f hk => by
  obtain ⟨h1, h2⟩ := h k N f (hro k _ hk)
  refine ⟨h1, ?_⟩
  rw [hag k (Or.inr h1), hU]
  exact ((h2.moved hvm).kept hS).narrow hB
theorem pm_Z_go {gs : List String} {ad ad0 : Nat → Nat} {A B : Nat → Prop} {s U : State} {H : Heap} {n0 : Nat} (h : pm_Z gs ad0 A s) (hU : U.heap = H) (hvm : s.vm.Alike U.vm) (hS : ∀ q : Nat, q < s.heap.size → ¬ A q → H[q]? = s.heap[q]?) (hB : ∀ q, B q → A q) (hag : pm_ag n0 ad0 ad) : pm_Z gs ad B U := fun j nm hj => by
  rw [hag (1000000 + j) (Or.inr (Nat.le_add_right _ _)), hU]
  exact (((h j nm hj).moved hvm).kept hS).narrow hB
theorem pm_ag_tr {n0 n : Nat} {a b c : Nat → Nat} (hn : n0 ≤ n) (h : pm_ag n0 a b) (h2 : pm_ag n b c) : pm_ag n0 a c := fun k hk => (h2 k (hk.imp (fun q => Nat.lt_of_lt_of_le q hn) id)).trans (h k hk)
theorem pm_L_ag {nL n n' : Nat} {ls : Array Slot} {ad ad' : Nat → Nat} {L : List (Option Value)} (h : pm_L nL ls ad n L) (hn : n ≤ n') (hag : pm_ag n ad ad') : pm_L nL ls ad' n' L := ⟨h.1, h.2.1, fun i v hi => by
  obtain ⟨h1, h2⟩ := h.2.2 i v hi
  exact ⟨by rw [pm_v_ag hag h2]; exact h1, pm_okm hn h2⟩⟩
theorem pm_A_in {A : Nat → Prop} {cA : Nat → ClassId} {ad : Nat → Nat} {n : Nat} {w : Nat → va_E} {H0 H : Heap} {locs : List Loc} (hD : va_D A (pm_W cA ad n w)) (hS : va_S A H0 H locs) (hA : ∀ q, H0.size ≤ q → A q) : ∀ q, va_A (pm_W cA ad n w) H.size q → A q := fun q h => by
  rcases h with ⟨k, e, hk⟩ | h
  · exact hD.2 k _ hk
  · exact hA q (Nat.le_trans hS.1 h)
section PMC
variable {gs : List String} {ro roc : pm_RO} {M Mc : pm_M} {d dc mc ms c0 s0 mcc msc pc : Nat} {L : List (Option Value)} {st As : List Value} {n : Nat} {w : Nat → va_E} {Q Qc : Option Value → Nat → (Nat → va_E) → Prop}
/-- behind a call -/
theorem pm_behind {p : Program} {l : Launch} {e : Env} {s : State} {m : MethodId} {args : Array Value} {below : List Frame} {meth : Method} {c : Code} {H : Heap} {locs : List Loc} {ls : Array Slot} {D : va_G} {cA : Nat → ClassId} {ad ad0 : Nat → Nat} {n0 : Nat} {A : Nat → Prop} {st0 : List Value} {a : Array Value}
    (F : pm_F gs ro M p s m args meth c D cA ad0 A) (G : pm_G s D cA ad0 n0 A H locs ad n w) (LL : pm_L M.2.2.1 ls ad n L) (SS : pm_S n st)
    (hr : va_Run p l e (pm_rm d mc ms) s m args below meth c H locs c0 s0 mcc msc (F0 m pc ls st0) (st.map (pm_v ad)) (pm_Q D cA ad n (va_A (pm_W cA ad n w) H.size) Qc a) (va_A (pm_W cA ad n w) H.size))
    (kk : ∀ r n' w', Qc r n' w' → n ≤ n' → pm_X gs ro M d mc ms (c0 + mcc) (s0 + msc) (pc + 3) L (r.toList ++ st) n' w' Q) :
    W p l e (pm_rm d mc ms) s m args below meth c H locs c0 s0 (MQ below (pm_Q D cA ad0 n0 A Q) args s mc ms A) (F0 m pc ls st0) := by
  have hAin := pm_A_in G.2.1 G.2.2.1 F.2.2.2.2.2.2.2.2.2.1
  intro T hT X
  obtain ⟨v, st₀, t, T', Lc, h0, X', hLc, e1, e2, ⟨⟨r, n', w', ad', hv, hq, hn, hn6, hag, hwk, hok, hP, hK, hD⟩, hz, hk⟩, stp⟩ := hr T hT X
  cases hv
  rw [h0] at hz hk
  have hS' : va_S A s.heap T'.heap (locs ++ Lc) := by
    refine ⟨Nat.le_trans G.2.2.1.1 (by rw [e1]; exact hz), fun q h1 h2 => ?_, fun q hq => ?_⟩
    · rw [e1, hk q (Nat.lt_of_lt_of_le h1 G.2.2.1.1) (fun z => h2 (hAin q z))]
      exact G.2.2.1.2.1 q h1 h2
    · rcases List.mem_append.mp hq with h | h
      · exact G.2.2.1.2.2 q h
      · exact hAin _ (hLc q h)
  have hD' : va_D A (pm_W cA ad' n' w') := ⟨hD.1, fun k q h => hAin _ (hD.2 k q h)⟩
  have hstk : (Option.map (pm_v ad') r).toList ++ st.map (pm_v ad) = (r.toList ++ st).map (pm_v ad') := by
    rw [List.map_append, pm_vs_ag hag SS]
    cases r <;> rfl
  have SS' : pm_S n' (r.toList ++ st) := fun u hu => by
    rcases List.mem_append.mp hu with h | h
    · cases r with
      | none => cases h
      | some v => rw [List.mem_singleton.mp h]; exact hok v rfl
    · exact pm_okm hn (SS u h)
  have K := kk r n' w' hq hn p l e s m args below meth c T'.heap (locs ++ Lc) ls D cA ad' ad0 n0 A F ⟨by rw [e1]; exact hP, hD', hS', Nat.le_trans G.2.2.2.1 hn, hn6, pm_ag_tr G.2.2.2.1 G.2.2.2.2.2.1 hag, hwk⟩ (pm_L_ag LL hn hag) SS'
  rw [← hstk] at K
  obtain ⟨t2, a1, b1⟩ := K T' rfl X'
  exact ⟨t2, stp t2 a1, b1⟩
theorem pm_pre {s U : State} {args : Array Value} {m : MethodId} {p : Program} {meth : Method} {c : Code} {H : Heap} {locs : List Loc} {D : va_G} {cA : Nat → ClassId} {ad ad0 : Nat → Nat} {n0 : Nat} {A : Nat → Prop} (hro : ∀ k v, roc k = some v → ro k = some v)
    (F : pm_F gs ro M p s m args meth c D cA ad0 A) (G : pm_G s D cA ad0 n0 A H locs ad n w) (hU : U.heap = H) (hWm : s.WarmedH U.vm) : U.heap.size = H.size ∧ va_P D vwCl (pm_W cA ad n w) U.heap ∧ va_K D vwCl (pm_tys cA) U ∧ va_D (fun _ => True) (pm_W cA ad n w) ∧ pm_R roc ad (va_A (pm_W cA ad n w) H.size) U ∧ pm_Z gs ad (va_A (pm_W cA ad n w) H.size) U ∧ pm_N U := by
  have hW := hWm.alike
  have hAin := pm_A_in G.2.1 G.2.2.1 F.2.2.2.2.2.2.2.2.2.1
  exact ⟨by rw [hU], by rw [hU]; exact G.1, va_K.moved hW F.2.2.2.2.2.2.2.2.1, ⟨G.2.1.1, fun _ _ _ => trivial⟩, pm_R_go hro F.2.2.2.2.2.2.2.2.2.2.1 hU hW G.2.2.1.2.1 hAin G.2.2.2.2.2.1, pm_Z_go F.2.2.2.2.2.2.2.2.2.2.2.1 hU hW G.2.2.1.2.1 hAin G.2.2.2.2.2.1, pm_N_warm hWm F.2.2.2.2.2.2.2.2.2.2.2.2⟩
theorem pm_blind {roc : pm_RO} {av : List Value} {D : va_G} {cA : Nat → ClassId} {ad : Nat → Nat} {n sz : Nat} {w : Nat → va_E} : FrameBlind (va_Pc (av.map (pm_v ad)) (fun U => U.heap.size = sz ∧ va_P D vwCl (pm_W cA ad n w) U.heap ∧ va_K D vwCl (pm_tys cA) U ∧ va_D (fun _ => True) (pm_W cA ad n w) ∧ pm_R roc ad (va_A (pm_W cA ad n w) sz) U ∧ pm_Z gs ad (va_A (pm_W cA ad n w) sz) U ∧ pm_N U)) := fun a U g mk q => by
  obtain ⟨q0, q1, qP, qK, qD, qR, qZ, qN⟩ := q
  exact ⟨q0, q1, qP, va_K.moved (u := U) (U := U.calling g mk a) (Vm.Alike.refl U.vm) qK, qD, fun k N f hk => ⟨(qR k N f hk).1, (qR k N f hk).2.moved (u := U) (U := U.calling g mk a) (Vm.Alike.refl U.vm)⟩, fun j nm hj => (qZ j nm hj).moved (u := U) (U := U.calling g mk a) (Vm.Alike.refl U.vm), pm_N_same (u := U) (U := U.calling g mk a) rfl qN⟩
/-- the words of a call -/
def pm_lV (own : String) (idx : Nat) (Mc : pm_M) (k : Nat) : Prop := pm_in Mc ∧ Cond.methodLink own idx Mc.1 ∈ lw_g ∧ Cond.instanceMethod Mc.1 ∈ lw_g ∧ Cond.selects Mc.1.cls Mc.1 Mc.1 ∈ lw_g ∧ (parseMethodDescriptor Mc.1.desc).map (fun d => d.parameters.length) = some k
def pm_lS (own : String) (idx : Nat) (Mc : pm_M) (k : Nat) : Prop := pm_in Mc ∧ Cond.methodLink own idx Mc.1 ∈ lw_g ∧ Cond.static Mc.1 ∈ lw_g ∧ (parseMethodDescriptor Mc.1.desc).map (fun d => d.parameters.length) = some k
def pm_lI (own : String) (idx : Nat) (Mc : pm_M) (k : Nat) : Prop := pm_in Mc ∧ Cond.methodLink own idx Mc.1 ∈ lw_g ∧ Cond.instanceMethod Mc.1 ∈ lw_g ∧ Mc.1.name = "<init>" ∧ Mc.2.2.2 = none ∧ (parseMethodDescriptor Mc.1.desc).map (fun d => d.parameters.length) = some k
def pm_nV (own : String) (idx : Nat) (Mc : pm_M) (host : String) (k : Nat) : Prop := pm_in Mc ∧ Cond.methodLinkNest own idx Mc.1 host ∈ lw_tbl ∧ Cond.instanceMethod Mc.1 ∈ lw_g ∧ Cond.selects Mc.1.cls Mc.1 Mc.1 ∈ lw_g ∧ (parseMethodDescriptor Mc.1.desc).map (fun d => d.parameters.length) = some k
def pm_nS (own : String) (idx : Nat) (Mc : pm_M) (host : String) (k : Nat) : Prop := pm_in Mc ∧ Cond.methodLinkNest own idx Mc.1 host ∈ lw_tbl ∧ Cond.static Mc.1 ∈ lw_g ∧ (parseMethodDescriptor Mc.1.desc).map (fun d => d.parameters.length) = some k
def pm_nI (own : String) (idx : Nat) (Mc : pm_M) (host : String) (k : Nat) : Prop := pm_in Mc ∧ Cond.methodLinkNest own idx Mc.1 host ∈ lw_tbl ∧ Cond.instanceMethod Mc.1 ∈ lw_g ∧ Mc.1.name = "<init>" ∧ Mc.2.2.2 = none ∧ (parseMethodDescriptor Mc.1.desc).map (fun d => d.parameters.length) = some k
theorem pm_room (h : dc + 1 ≤ d) (hM : pm_in Mc) : (pm_rm dc mcc msc).frames + 1 ≤ (pm_rm d mc ms).frames ∧ 8 + (Mc.2.2.1 + 11) + (pm_rm dc mcc msc).locals ≤ (pm_rm d mc ms).locals := by
  refine ⟨h, ?_⟩
  have := hM.2.2.1
  show 8 + (Mc.2.2.1 + 11) + 40 * dc ≤ 40 * d
  omega
theorem pm_lvroom {m : MethodId} {ls : Array Slot} {ad : Nat → Nat} {st0 : List Value} (h : (st.map fun v => v.category).sum ≤ 8) : 2 * (F0 m pc ls st0).monitorRoom + ((st.map (pm_v ad)).map fun v => v.category).sum ≤ 8 := by
  have e1 : (st.map (pm_v ad)).map (fun v => v.category) = st.map fun v => v.category := by
    rw [List.map_map]
    exact List.map_congr_left fun v _ => pm_v_cat ad v
  exact lv_room (by rw [e1]; exact h)
theorem pm_callV {idx b ci : Nat} {fs : List Value} (h : decode M.2.1 pc = .ok (.invokevirtual idx, 3)) (hl : pm_lV M.1.cls idx Mc As.length) (hcl : ∃ T N, vwCl[ci]? = some (Mc.1.cls, T, N)) (hb : b < n) (hw : w b = .inr (ci, fs)) (hro : ∀ k v, roc k = some v → ro k = some v) (hd : dc + 1 ≤ d) (hc : c0 + mcc ≤ mc) (hs : s0 + msc ≤ ms) (hst : (st.map fun v => v.category).sum ≤ 8) {st0 : List Value} (hst0 : As.reverse ++ .ref b :: st = st0)
    (hM : pm_Met gs roc Mc dc mcc msc (.ref b :: As) n w Qc) (kk : ∀ r n' w', Qc r n' w' → n ≤ n' → pm_X gs ro M d mc ms (c0 + mcc) (s0 + msc) (pc + 3) L (r.toList ++ st) n' w' Q) : pm_X gs ro M d mc ms c0 s0 pc L st0 n w Q := by
  subst hst0
  intro p l e s m args below meth c H locs ls D cA ad ad0 n0 A F G LL SS
  obtain ⟨hin, hml, him, hse, hpar⟩ := hl
  obtain ⟨T, N, hcl⟩ := hcl
  have hts := F.2.2.2.2.2.2.2.1
  have SSt : pm_S n st := fun u hu => SS u (List.mem_append_right _ (List.mem_cons_of_mem _ hu))
  have SSa : pm_S n (.ref b :: As) := fun u hu => by
    rcases List.mem_cons.mp hu with q | q
    · rw [q]; exact pm_okr hb
    · exact SS u (List.mem_append_left _ (List.mem_reverse.mpr q))
  have hgi : GoodIn (pm_ws M) (wsV M.1.cls idx Mc.1.cls Mc.1 (pm_ws Mc)) := fun x hx => by
    unfold wsV at hx
    rcases List.mem_append.mp hx with q | q
    · simp only [List.mem_cons, List.not_mem_nil, or_false] at q
      rcases q with rfl | rfl | rfl | rfl
      · exact pm_good hml
      · exact pm_good him
      · exact pm_good hse
      · exact pm_good hin.2.2.2.2.2
    · exact pm_goodIn hin x q
  refine pm_behind F G LL SSt (va_runV (As := As.map (pm_v ad)) (b := ad b) (n := As.length) ⟨F.1, F.2.1, F.2.2.1, F.2.2.2.2.2.2.1, hts⟩ (hM l D cA ad H.size G.2.2.2.2.1 G.2.2.2.2.2.2 SSa) (cwV As.length hts hgi rfl rfl rfl ⟨rfl, hin.2.2.2.1, hin.2.2.2.2.1, hpar⟩ (pm_room hd hin)) ⟨pm_blind, va_recv (cl := vwCl) (q0 := b) F.2.2.2.2.2.2.2.2.1 G.1 hcl (fs := fs.map (pm_v ad)) (by rw [pm_W_get hb, hw]; rfl), fun U hU hWm => ⟨rfl, pm_pre hro F G hU hWm⟩⟩ rfl (by rw [List.length_map]) (LL.1) (by show _ = _; rw [List.map_append, List.map_reverse]; rfl) (pm_lvroom hst) h ⟨hc, hs⟩) kk
theorem pm_callVN {idx b ci : Nat} {host : String} {fs : List Value} (h : decode M.2.1 pc = .ok (.invokevirtual idx, 3)) (hl : pm_nV M.1.cls idx Mc host As.length) (hcl : ∃ T N, vwCl[ci]? = some (Mc.1.cls, T, N)) (hb : b < n) (hw : w b = .inr (ci, fs)) (hro : ∀ k v, roc k = some v → ro k = some v) (hd : dc + 1 ≤ d) (hc : c0 + mcc ≤ mc) (hs : s0 + msc ≤ ms) (hst : (st.map fun v => v.category).sum ≤ 8) {st0 : List Value} (hst0 : As.reverse ++ .ref b :: st = st0)
    (hM : pm_Met gs roc Mc dc mcc msc (.ref b :: As) n w Qc) (kk : ∀ r n' w', Qc r n' w' → n ≤ n' → pm_X gs ro M d mc ms (c0 + mcc) (s0 + msc) (pc + 3) L (r.toList ++ st) n' w' Q) : pm_X gs ro M d mc ms c0 s0 pc L st0 n w Q := by
  subst hst0
  intro p l e s m args below meth c H locs ls D cA ad ad0 n0 A F G LL SS
  obtain ⟨hin, hml, him, hse, hpar⟩ := hl
  obtain ⟨T, N, hcl⟩ := hcl
  have hts := F.2.2.2.2.2.2.2.1
  have SSt : pm_S n st := fun u hu => SS u (List.mem_append_right _ (List.mem_cons_of_mem _ hu))
  have SSa : pm_S n (.ref b :: As) := fun u hu => by
    rcases List.mem_cons.mp hu with q | q
    · rw [q]; exact pm_okr hb
    · exact SS u (List.mem_append_left _ (List.mem_reverse.mpr q))
  refine pm_behind F G LL SSt (va_runVN (As := As.map (pm_v ad)) (b := ad b) (n := As.length) ⟨F.1, F.2.1, F.2.2.1, F.2.2.2.2.2.2.1, hts⟩ (hM l D cA ad H.size G.2.2.2.2.1 G.2.2.2.2.2.2 SSa) ⟨va_cnB As.length hts (pm_goodIn hin) rfl rfl rfl (F.2.2.2.2.2.2.2.2.2.2.2.2.1 _ _ _ _ hml) (pm_hts hts hin.2.2.2.2.2) ⟨hin.2.2.2.1, hin.2.2.2.2.1, hpar⟩ (pm_room hd hin), pm_hts hts him, pm_hts hts hse⟩ ⟨pm_blind, va_recv (cl := vwCl) (q0 := b) F.2.2.2.2.2.2.2.2.1 G.1 hcl (fs := fs.map (pm_v ad)) (by rw [pm_W_get hb, hw]; rfl), fun U hU hWm => ⟨rfl, pm_pre hro F G hU hWm⟩⟩ rfl (by rw [List.length_map]) (LL.1) (by show _ = _; rw [List.map_append, List.map_reverse]; rfl) (pm_lvroom hst) h ⟨hc, hs⟩) kk
theorem pm_callS {idx : Nat} (h : decode M.2.1 pc = .ok (.invokestatic idx, 3)) (hl : pm_lS M.1.cls idx Mc As.length) (hro : ∀ k v, roc k = some v → ro k = some v) (hd : dc + 1 ≤ d) (hc : c0 + mcc ≤ mc) (hs : s0 + msc ≤ ms) (hst : (st.map fun v => v.category).sum ≤ 8) {st0 : List Value} (hst0 : As.reverse ++ st = st0)
    (hM : pm_Met gs roc Mc dc mcc msc As n w Qc) (kk : ∀ r n' w', Qc r n' w' → n ≤ n' → pm_X gs ro M d mc ms (c0 + mcc) (s0 + msc) (pc + 3) L (r.toList ++ st) n' w' Q) : pm_X gs ro M d mc ms c0 s0 pc L st0 n w Q := by
  subst hst0
  intro p l e s m args below meth c H locs ls D cA ad ad0 n0 A F G LL SS
  obtain ⟨hin, hml, him, hpar⟩ := hl
  have hts := F.2.2.2.2.2.2.2.1
  have SSt : pm_S n st := fun u hu => SS u (List.mem_append_right _ hu)
  have SSa : pm_S n As := fun u hu => SS u (List.mem_append_left _ (List.mem_reverse.mpr hu))
  have hgi : GoodIn (pm_ws M) (va_wsS M.1.cls idx Mc.1 (pm_ws Mc)) := fun x hx => by
    unfold va_wsS at hx
    rcases List.mem_append.mp hx with q | q
    · simp only [List.mem_cons, List.not_mem_nil, or_false] at q
      rcases q with rfl | rfl | rfl
      · exact pm_good hml
      · exact pm_good him
      · exact pm_good hin.2.2.2.2.2
    · exact pm_goodIn hin x q
  refine pm_behind F G LL SSt (va_runS (As := As.map (pm_v ad)) (n := As.length) ⟨F.1, F.2.1, F.2.2.1, F.2.2.2.2.2.2.1, hts⟩ (hM l D cA ad H.size G.2.2.2.2.1 G.2.2.2.2.2.2 SSa) (va_cwS As.length hts hgi rfl rfl rfl ⟨hin.2.2.2.1, hin.2.2.2.2.1, hpar⟩ (pm_room hd hin)) ⟨pm_blind, fun U hU hWm => ⟨rfl, pm_pre hro F G hU hWm⟩⟩ rfl (by rw [List.length_map]) (LL.1) (by show _ = _; rw [List.map_append, List.map_reverse]) (pm_lvroom hst) h ⟨hc, hs⟩) kk
theorem pm_callSN {idx : Nat} {host : String} (h : decode M.2.1 pc = .ok (.invokestatic idx, 3)) (hl : pm_nS M.1.cls idx Mc host As.length) (hro : ∀ k v, roc k = some v → ro k = some v) (hd : dc + 1 ≤ d) (hc : c0 + mcc ≤ mc) (hs : s0 + msc ≤ ms) (hst : (st.map fun v => v.category).sum ≤ 8) {st0 : List Value} (hst0 : As.reverse ++ st = st0)
    (hM : pm_Met gs roc Mc dc mcc msc As n w Qc) (kk : ∀ r n' w', Qc r n' w' → n ≤ n' → pm_X gs ro M d mc ms (c0 + mcc) (s0 + msc) (pc + 3) L (r.toList ++ st) n' w' Q) : pm_X gs ro M d mc ms c0 s0 pc L st0 n w Q := by
  subst hst0
  intro p l e s m args below meth c H locs ls D cA ad ad0 n0 A F G LL SS
  obtain ⟨hin, hml, him, hpar⟩ := hl
  have hts := F.2.2.2.2.2.2.2.1
  have SSt : pm_S n st := fun u hu => SS u (List.mem_append_right _ hu)
  have SSa : pm_S n As := fun u hu => SS u (List.mem_append_left _ (List.mem_reverse.mpr hu))
  refine pm_behind F G LL SSt (va_runSN (As := As.map (pm_v ad)) (n := As.length) ⟨F.1, F.2.1, F.2.2.1, F.2.2.2.2.2.2.1, hts⟩ (hM l D cA ad H.size G.2.2.2.2.1 G.2.2.2.2.2.2 SSa) ⟨va_cnB As.length hts (pm_goodIn hin) rfl rfl rfl (F.2.2.2.2.2.2.2.2.2.2.2.2.1 _ _ _ _ hml) (pm_hts hts hin.2.2.2.2.2) ⟨hin.2.2.2.1, hin.2.2.2.2.1, hpar⟩ (pm_room hd hin), pm_hts hts him, trivial⟩ ⟨pm_blind, fun U hU hWm => ⟨rfl, pm_pre hro F G hU hWm⟩⟩ rfl (by rw [List.length_map]) (LL.1) (by show _ = _; rw [List.map_append, List.map_reverse]) (pm_lvroom hst) h ⟨hc, hs⟩) kk
end PMC
end
section
section PMN
variable {gs : List String} {ro roc : pm_RO} {M Mc : pm_M} {d dc mc ms c0 s0 mcc msc pc : Nat} {L : List (Option Value)} {st As : List Value} {n : Nat} {w : Nat → va_E} {Q Qc : Option Value → Nat → (Nat → va_E) → Prop}
theorem pm_callI {idx b : Nat} (h : decode M.2.1 pc = .ok (.invokespecial idx, 3)) (hl : pm_lI M.1.cls idx Mc As.length) (hb : b < n) (hro : ∀ k v, roc k = some v → ro k = some v) (hd : dc + 1 ≤ d) (hc : c0 + mcc ≤ mc) (hs : s0 + msc ≤ ms) (hst : (st.map fun v => v.category).sum ≤ 8) {st0 : List Value} (hst0 : As.reverse ++ .ref b :: st = st0)
    (hM : pm_Met gs roc Mc dc mcc msc (.ref b :: As) n w Qc) (kk : ∀ r n' w', Qc r n' w' → n ≤ n' → pm_X gs ro M d mc ms (c0 + mcc) (s0 + msc) (pc + 3) L (r.toList ++ st) n' w' Q) : pm_X gs ro M d mc ms c0 s0 pc L st0 n w Q := by
  subst hst0
  intro p l e s m args below meth c H locs ls D cA ad ad0 n0 A F G LL SS
  obtain ⟨y, cc, nL, ret⟩ := Mc
  obtain ⟨hin, hml, him, hnm, hret, hpar⟩ := hl
  cases hret
  have hts := F.2.2.2.2.2.2.2.1
  have SSt : pm_S n st := fun u hu => SS u (List.mem_append_right _ (List.mem_cons_of_mem _ hu))
  have SSa : pm_S n (.ref b :: As) := fun u hu => by
    rcases List.mem_cons.mp hu with q | q
    · rw [q]; exact pm_okr hb
    · exact SS u (List.mem_append_left _ (List.mem_reverse.mpr q))
  refine pm_behind F G LL SSt (va_runI (As := As.map (pm_v ad)) (b := ad b) (n := As.length) ⟨F.1, F.2.1, F.2.2.1, F.2.2.2.2.2.2.1, hts⟩ (hM l D cA ad H.size G.2.2.2.2.1 G.2.2.2.2.2.2 SSa) (cwI As.length hts (pm_goodIn hin) rfl rfl rfl (pm_hts hts hin.2.2.2.2.2) (pm_hts hts hml) (pm_hts hts him) hnm ⟨hin.2.2.2.1, hin.2.2.2.2.1, hpar⟩ (pm_room hd hin)) ⟨pm_blind, fun U hU hWm => ⟨rfl, pm_pre hro F G hU hWm⟩⟩ rfl (by rw [List.length_map]) (LL.1) (by show _ = _; rw [List.map_append, List.map_reverse]; rfl) (pm_lvroom hst) h ⟨hc, hs⟩) kk
theorem pm_callIN {idx b : Nat} {host : String} (h : decode M.2.1 pc = .ok (.invokespecial idx, 3)) (hl : pm_nI M.1.cls idx Mc host As.length) (hb : b < n) (hro : ∀ k v, roc k = some v → ro k = some v) (hd : dc + 1 ≤ d) (hc : c0 + mcc ≤ mc) (hs : s0 + msc ≤ ms) (hst : (st.map fun v => v.category).sum ≤ 8) {st0 : List Value} (hst0 : As.reverse ++ .ref b :: st = st0)
    (hM : pm_Met gs roc Mc dc mcc msc (.ref b :: As) n w Qc) (kk : ∀ r n' w', Qc r n' w' → n ≤ n' → pm_X gs ro M d mc ms (c0 + mcc) (s0 + msc) (pc + 3) L (r.toList ++ st) n' w' Q) : pm_X gs ro M d mc ms c0 s0 pc L st0 n w Q := by
  subst hst0
  intro p l e s m args below meth c H locs ls D cA ad ad0 n0 A F G LL SS
  obtain ⟨y, cc, nL, ret⟩ := Mc
  obtain ⟨hin, hml, him, hnm, hret, hpar⟩ := hl
  cases hret
  have hts := F.2.2.2.2.2.2.2.1
  have SSt : pm_S n st := fun u hu => SS u (List.mem_append_right _ (List.mem_cons_of_mem _ hu))
  have SSa : pm_S n (.ref b :: As) := fun u hu => by
    rcases List.mem_cons.mp hu with q | q
    · rw [q]; exact pm_okr hb
    · exact SS u (List.mem_append_left _ (List.mem_reverse.mpr q))
  refine pm_behind F G LL SSt (va_runIN (As := As.map (pm_v ad)) (b := ad b) (n := As.length) ⟨F.1, F.2.1, F.2.2.1, F.2.2.2.2.2.2.1, hts⟩ (hM l D cA ad H.size G.2.2.2.2.1 G.2.2.2.2.2.2 SSa) ⟨va_cnB As.length hts (pm_goodIn hin) rfl rfl rfl (F.2.2.2.2.2.2.2.2.2.2.2.2.1 _ _ _ _ hml) (pm_hts hts hin.2.2.2.2.2) ⟨hin.2.2.2.1, hin.2.2.2.2.1, hpar⟩ (pm_room hd hin), hnm, pm_hts hts him⟩ ⟨pm_blind, fun U hU hWm => ⟨rfl, pm_pre hro F G hU hWm⟩⟩ rfl (by rw [List.length_map]) (LL.1) (by show _ = _; rw [List.map_append, List.map_reverse]; rfl) (pm_lvroom hst) h ⟨hc, hs⟩) kk
/-- Object's own constructor -/
theorem pm_obj {idx b : Nat} (h : decode M.2.1 pc = .ok (.invokespecial idx, 3)) (h1 : Cond.methodLink M.1.cls idx Lib.objectInit ∈ lw_g) (h2 : Cond.instanceMethod Lib.objectInit ∈ lw_g) (h3 : Cond.code Lib.objectInit ⟨#[0xb1]⟩ 1 none ∈ lw_g) (hd : 1 ≤ d) (hst : (st.map fun v => v.category).sum ≤ 8) (kk : pm_X gs ro M d mc ms c0 s0 (pc + 3) L st n w Q) : pm_X gs ro M d mc ms c0 s0 pc L (.ref b :: st) n w Q := by
  intro p l e s m args below meth c H locs ls D cA ad ad0 n0 A F G LL SS
  have hts := F.2.2.2.2.2.2.2.1
  have hr := pm_lvroom (m := m) (pc := pc) (ls := ls) (ad := ad) (st0 := (.ref b :: st).map (pm_v ad)) hst
  refine W.objInit F.1 F.2.1 F.2.2.2.2.2.2.1 (pm_hts hts h1) (pm_hts hts h2) (pm_hts hts h3) rfl (by rw [F.2.2.1]; exact LL.1) (a := ad b) (rest := st.map (pm_v ad)) rfl h hd ?_ (kk p l e s m args below meth c H locs ls D cA ad ad0 n0 A F G LL (pm_St SS))
  show _ ≤ 40 * d
  omega
/-- what a made cell gives -/
theorem pm_made {p : Program} {l : Launch} {e : Env} {s : State} {m : MethodId} {args : Array Value} {below : List Frame} {meth : Method} {c : Code} {H1 : Heap} {locs : List Loc} {ls : Array Slot} {D : va_G} {cA : Nat → ClassId} {ad ad0 : Nat → Nat} {n0 : Nat} {A : Nat → Prop} {q c1 s1 pc' : Nat} {e0 : va_E} {rest : List Value}
    (F : pm_F gs ro M p s m args meth c D cA ad0 A) (hn0 : n0 ≤ n) (hn : n + 1 < 1000000) (hag : pm_ag n0 ad0 ad) (hwk : pm_wk n w) (LL : pm_L M.2.2.1 ls ad n L) (SS : pm_S n st) (he : pm_ek n e0)
    (hP : va_P D vwCl (pm_W cA ad n w ++ [(q, pm_e cA ad e0)]) H1) (hD : va_D A (pm_W cA ad n w ++ [(q, pm_e cA ad e0)])) (hS : va_S A s.heap H1 locs) (hrest : rest = .ref q :: st.map (pm_v ad))
    (kk : pm_X gs ro M d mc ms c1 s1 pc' L (.ref n :: st) (n + 1) (va_up w n e0) Q) : W p l e (pm_rm d mc ms) s m args below meth c H1 locs c1 s1 (MQ below (pm_Q D cA ad0 n0 A Q) args s mc ms A) (F0 m pc' ls rest) := by
  have hag1 : pm_ag n ad (va_up ad n q) := fun k hk => pm_up_n (by omega)
  rw [pm_W_push (by omega) hwk he] at hP hD
  have K := kk p l e s m args below meth c H1 locs ls D cA (va_up ad n q) ad0 n0 A F ⟨hP, hD, hS, Nat.le_succ_of_le hn0, hn, pm_ag_tr hn0 hag hag1, fun k hk => ?_⟩ (pm_L_ag LL (Nat.le_succ _) hag1) (pm_Sc (pm_okr (Nat.lt_succ_self _)) (fun u hu => pm_okm (Nat.le_succ _) (SS u hu)))
  · have e1 : (Value.ref n :: st).map (pm_v (va_up ad n q)) = rest := by
      rw [hrest]
      show Value.ref (va_up ad n q n) :: st.map (pm_v (va_up ad n q)) = _
      rw [pm_up_s, pm_vs_ag hag1 SS]
    rw [e1] at K
    exact K
  · by_cases hk2 : k = n
    · subst hk2; rw [pm_up_s]; exact pm_ekm (Nat.le_succ _) he
    · rw [pm_up_n hk2]; exact pm_ekm (Nat.le_succ _) (hwk k (by omega))
theorem pm_new {idx ci : Nat} {C : String} {T : u_T} {N : Nat} {ty : Nat → FieldType} {fs : List Value} (h : decode M.2.1 pc = .ok (.new idx, 3)) (hcl : pm_cl ci C T N ty) (h1 : Cond.classLink M.1.cls idx C ∈ lw_g) (h2 : Cond.instantiable C N ∈ lw_g) (h3 : Cond.initialized C ∈ lw_g) (hfs : ∀ j, j < N → defaultValue (ty j) = vp_V fs j) (hfs2 : fs.all (fun v => match v with | .ref _ => false | _ => true) = true) (hc : c0 + 1 ≤ mc) (hs : s0 + N ≤ ms) (hn : n + 1 < 1000000)
    (kk : pm_X gs ro M d mc ms (c0 + 1) (s0 + N) (pc + 3) L (.ref n :: st) (n + 1) (va_up w n (.inr (ci, fs))) Q) : pm_X gs ro M d mc ms c0 s0 pc L st n w Q := by
  intro p l e s m args below meth c H locs ls D cA ad ad0 n0 A F G LL SS
  obtain ⟨hc1, hin, hty, hnm⟩ := hcl
  have hts := F.2.2.2.2.2.2.2.1
  have hno : ∀ v ∈ fs, ∀ k, v ≠ .ref k := fun v hv k q => by
    have := List.all_eq_true.mp hfs2 v hv
    rw [q] at this
    cases this
  have hmap : fs.map (pm_v ad) = fs := by
    rw [List.map_congr_left (g := id) (fun v hv => ?_), List.map_id]
    cases v with
    | ref k => exact absurd rfl (hno _ hv k)
    | _ => rfl
  refine va_new (D := D) F.1 F.2.1 (Ts := pm_ws M) hts (fun x hx => List.mem_cons_of_mem _ (hin x hx)) ty hty F.2.2.2.2.2.2.1 (pm_hts hts h1) (pm_hts hts h2) (pm_hts hts h3) F.2.2.2.2.2.2.2.2.1 G.1 G.2.1 G.2.2.1 F.2.2.2.2.2.2.2.2.2.1 hc1 (fs := fs) hfs hc hs h (fun q H1 hP hD hS => ?_)
  refine pm_made (e0 := .inr (ci, fs)) F G.2.2.2.1 hn G.2.2.2.2.2.1 G.2.2.2.2.2.2 LL SS (pm_eko fun v hv k q => absurd q (hno v hv k)) ?_ ?_ hS rfl kk
  · show va_P D vwCl (pm_W cA ad n w ++ [(q, .inr (ci, fs.map (pm_v ad)))]) H1
    rw [hmap]; exact hP
  · show va_D A (pm_W cA ad n w ++ [(q, .inr (ci, fs.map (pm_v ad)))])
    rw [hmap]; exact hD
theorem pm_newi {k : Int32} {N : Nat} (h : decode M.2.1 pc = .ok (.newarray .int, 2)) (h1 : Cond.arrayClass .int ∈ lw_g) (hk : ¬ k < 0) (hN : k.toNatClampNeg = N) (hb : N * 4 ≤ 536870912) (hc : c0 + 1 ≤ mc) (hs : s0 + N ≤ ms) (hn : n + 1 < 1000000)
    (kk : pm_X gs ro M d mc ms (c0 + 1) (s0 + N) (pc + 2) L (.ref n :: st) (n + 1) (va_up w n (.inl (0, N, .inl (fun _ => 0)))) Q) : pm_X gs ro M d mc ms c0 s0 pc L (.int k :: st) n w Q := by
  intro p l e s m args below meth c H locs ls D cA ad ad0 n0 A F G LL SS
  have hts := F.2.2.2.2.2.2.2.1
  refine va_newa (D := D) F.1 F.2.1 (atype := .int) (pm_hts hts h1) (ty := .int) rfl F.2.2.2.2.2.2.2.2.1 G.1 G.2.1 G.2.2.1 F.2.2.2.2.2.2.2.2.2.1 (a0 := (N, .inl (fun _ => 0))) (fun _ => rfl) hk hN hb hc hs h (fun q cB H1 hK hP hD hS => ?_)
  have e0 : cB = cA 0 := by
    have a1 := (hK.2 4 (cB, .int) rfl).2
    have a2 := (hK.2 0 (cA 0, .int) rfl).2
    exact Option.some.inj (a1.symm.trans a2)
  subst e0
  exact pm_made (e0 := .inl (0, N, .inl (fun _ => 0))) F G.2.2.2.1 hn G.2.2.2.2.2.1 G.2.2.2.2.2.2 LL (pm_St SS) pm_eki hP hD hS rfl kk
theorem pm_newz {k : Int32} {N : Nat} (h : decode M.2.1 pc = .ok (.newarray .boolean, 2)) (h1 : Cond.arrayClass .boolean ∈ lw_g) (hk : ¬ k < 0) (hN : k.toNatClampNeg = N) (hb : N * 1 ≤ 536870912) (hc : c0 + 1 ≤ mc) (hs : s0 + N ≤ ms) (hn : n + 1 < 1000000)
    (kk : pm_X gs ro M d mc ms (c0 + 1) (s0 + N) (pc + 2) L (.ref n :: st) (n + 1) (va_up w n (.inl (1, N, .inl (fun _ => 0)))) Q) : pm_X gs ro M d mc ms c0 s0 pc L (.int k :: st) n w Q := by
  intro p l e s m args below meth c H locs ls D cA ad ad0 n0 A F G LL SS
  have hts := F.2.2.2.2.2.2.2.1
  refine va_newa (D := D) F.1 F.2.1 (atype := .boolean) (pm_hts hts h1) (ty := .boolean) rfl F.2.2.2.2.2.2.2.2.1 G.1 G.2.1 G.2.2.1 F.2.2.2.2.2.2.2.2.2.1 (a0 := (N, .inl (fun _ => 0))) (fun _ => rfl) hk hN hb hc hs h (fun q cB H1 hK hP hD hS => ?_)
  have e0 : cB = cA 1 := by
    have a1 := (hK.2 4 (cB, .boolean) rfl).2
    have a2 := (hK.2 1 (cA 1, .boolean) rfl).2
    exact Option.some.inj (a1.symm.trans a2)
  subst e0
  exact pm_made (e0 := .inl (1, N, .inl (fun _ => 0))) F G.2.2.2.1 hn G.2.2.2.2.2.1 G.2.2.2.2.2.2 LL (pm_St SS) pm_eki hP hD hS rfl kk
/-- new Run[N] -/
theorem pm_newq {idx : Nat} {k : Int32} {N : Nat} (h : decode M.2.1 pc = .ok (.anewarray idx, 3)) (h1 : Cond.classLink M.1.cls idx RX7 ∈ lw_g) (h2 : Cond.arrayOver (.object RX7) ∈ lw_tbl) (hk : ¬ k < 0) (hN : k.toNatClampNeg = N) (hb : N * 4 ≤ 536870912) (hc : c0 + 1 ≤ mc) (hs : s0 + N ≤ ms) (hn : n + 1 < 1000000)
    (kk : pm_X gs ro M d mc ms (c0 + 1) (s0 + N) (pc + 3) L (.ref n :: st) (n + 1) (va_up w n (.inl (2, N, .inr (.inr (.inr (.inr (fun _ => none))))))) Q) : pm_X gs ro M d mc ms c0 s0 pc L (.int k :: st) n w Q := by
  intro p l e s m args below meth c H locs ls D cA ad ad0 n0 A F G LL SS
  have hts := F.2.2.2.2.2.2.2.1
  refine va_newq (D := D) F.1 F.2.1 F.2.2.2.2.2.2.1 (pm_hts hts h1) (F.2.2.2.2.2.2.2.2.2.2.2.2.2 _ h2) F.2.2.2.2.2.2.2.2.1 G.1 G.2.1 G.2.2.1 F.2.2.2.2.2.2.2.2.2.1 hk hN hb hc hs h (fun q cB H1 hK hP hD hS => ?_)
  have e0 : cB = cA 2 := by
    obtain ⟨_, _, -, -, -, a1⟩ := (hK.2 4 (cB, .object RX7) rfl).2
    obtain ⟨_, _, -, -, -, a2⟩ := (hK.2 2 (cA 2, .object RX7) rfl).2
    exact Option.some.inj (a1.symm.trans a2)
  subst e0
  exact pm_made (e0 := .inl (2, N, .inr (.inr (.inr (.inr (fun _ => none)))))) F G.2.2.2.1 hn G.2.2.2.2.2.1 G.2.2.2.2.2.2 LL (pm_St SS) (pm_ekq (fun i k q => by cases q)) hP hD hS rfl kk
/-- reading an array of Runs -/
theorem pm_aldq {a N : Nat} {g : Nat → Option Nat} {i : Int32} {v : Value} (h : decode M.2.1 pc = .ok (.aaload, 1)) (ha : a < n) (hw : w a = .inl (2, N, .inr (.inr (.inr (.inr g))))) (hi : vp_in i N) (hv : va_rf (g i.toNatClampNeg) = v) (kk : pm_X gs ro M d mc ms c0 s0 (pc + 1) L (v :: st) n w Q) : pm_X gs ro M d mc ms c0 s0 pc L (.int i :: .ref a :: st) n w Q := by
  subst hv
  intro p l e s m args below meth c H locs ls D cA ad ad0 n0 A F G LL SS
  have hok : pm_ok n (va_rf (g i.toNatClampNeg)) := by
    cases hg : g i.toNatClampNeg with
    | none => exact pm_okn
    | some k => exact pm_okr ((G.2.2.2.2.2.2 a ha).1 2 N g hw _ k hg)
  have K := kk p l e s m args below meth c H locs ls D cA ad ad0 n0 A F G LL (pm_Sc hok (pm_St (pm_St SS)))
  refine va_aldq (D := D) F.1 F.2.1 F.2.2.2.2.2.2.2.2.1 G.1 a 2 (cA := cA 2) (C := RX7) (n := N) (f := fun i => (g i).map ad) ?_ rfl hi h ?_
  · rw [pm_W_get ha, hw]; rfl
  · have e1 : pm_v ad (va_rf (g i.toNatClampNeg)) = va_rf ((g i.toNatClampNeg).map ad) := by cases g i.toNatClampNeg <;> rfl
    rw [← e1]
    exact K
theorem pm_mmax {idx : Nat} {x y : Int32} (h : decode M.2.1 pc = .ok (.invokestatic idx, 3)) (h1 : Cond.methodLink M.1.cls idx Lib.Math.max.name ∈ lw_g) (h2 : Cond.static Lib.Math.max.name ∈ lw_g) (h3 : Cond.initialized "java/lang/Math" ∈ lw_g) (h4 : Cond.code Lib.Math.max.name Lib.Math.max.code 2 (some .int) ∈ lw_g) (hd : 1 ≤ d) (hc : c0 ≤ mc) (hs : s0 ≤ ms) (hst : (st.map fun v => v.category).sum ≤ 8) (kk : pm_X gs ro M d mc ms c0 s0 (pc + 3) L (.int (if x < y then y else x) :: st) n w Q) : pm_X gs ro M d mc ms c0 s0 pc L (.int y :: .int x :: st) n w Q := by
  intro p l e s m args below meth c H locs ls D cA ad ad0 n0 A F G LL SS
  have hts := F.2.2.2.2.2.2.2.1
  have hr := pm_lvroom (m := m) (pc := pc) (ls := ls) (ad := ad) (st0 := st.map (pm_v ad)) hst
  refine va_mmax F.1 F.2.1 (F.2.2.1.trans LL.1.symm) F.2.2.2.2.2.2.1 (pm_hts hts h1) (pm_hts hts h2) (pm_hts hts h3) (pm_hts hts h4) hd ?_ hc hs h (kk p l e s m args below meth c H locs ls D cA ad ad0 n0 A F G LL (pm_Si (pm_St (pm_St SS))))
  show _ ≤ 40 * d
  omega
theorem pm_mmin {idx : Nat} {x y : Int32} (h : decode M.2.1 pc = .ok (.invokestatic idx, 3)) (h1 : Cond.methodLink M.1.cls idx Lib.Math.min.name ∈ lw_g) (h2 : Cond.static Lib.Math.min.name ∈ lw_g) (h3 : Cond.initialized "java/lang/Math" ∈ lw_g) (h4 : Cond.code Lib.Math.min.name Lib.Math.min.code 2 (some .int) ∈ lw_g) (hd : 1 ≤ d) (hc : c0 ≤ mc) (hs : s0 ≤ ms) (hst : (st.map fun v => v.category).sum ≤ 8) (kk : pm_X gs ro M d mc ms c0 s0 (pc + 3) L (.int (if y < x then y else x) :: st) n w Q) : pm_X gs ro M d mc ms c0 s0 pc L (.int y :: .int x :: st) n w Q := by
  intro p l e s m args below meth c H locs ls D cA ad ad0 n0 A F G LL SS
  have hts := F.2.2.2.2.2.2.2.1
  have hr := pm_lvroom (m := m) (pc := pc) (ls := ls) (ad := ad) (st0 := st.map (pm_v ad)) hst
  refine va_mmin F.1 F.2.1 (F.2.2.1.trans LL.1.symm) F.2.2.2.2.2.2.1 (pm_hts hts h1) (pm_hts hts h2) (pm_hts hts h3) (pm_hts hts h4) hd ?_ hc hs h (kk p l e s m args below meth c H locs ls D cA ad ad0 n0 A F G LL (pm_Si (pm_St (pm_St SS))))
  show _ ≤ 40 * d
  omega
end PMN
end
section
/-! REGIONS: a run of places of a known shape, and what they hold as numbers: the int at slot s of the object at offset j is u.1 (100 * j + s), the ints of the array at offset j are u.2.1 j, a reference that may change is u.2.2.1 (100 * j + s), the references of an array u.2.2.2 j -/
abbrev rg_U : Type := (Nat → Int32) × (Nat → Nat → Int32) × (Nat → Option Nat) × (Nat → Nat → Option Nat)
/-- object (number of its class, fields: 0 an int, 1 a reference that may change, k + 2 the place at offset k), array of ints (tag, length), array of references (length) -/
abbrev rg_S : Type := (Nat × List Nat) ⊕ (Nat × Nat) ⊕ Nat
def rg_f (b : Nat) (u : rg_U) (j s c : Nat) : Value := match c with
  | 0 => .int (u.1 (100 * j + s))
  | 1 => va_rf (u.2.2.1 (100 * j + s))
  | k + 2 => .ref (b + k)
def rg_fs (b : Nat) (u : rg_U) (j : Nat) (t : List Nat) : List Value := (List.range t.length).map (fun s => rg_f b u j s (t.getD s 0))
def rg_e (b : Nat) (u : rg_U) (j : Nat) (x : rg_S) : va_E := match x with
  | .inl (ci, t) => .inr (ci, rg_fs b u j t)
  | .inr (.inl (tag, N)) => .inl (tag, N, .inl (u.2.1 j))
  | .inr (.inr N) => .inl (2, N, .inr (.inr (.inr (.inr (u.2.2.2 j)))))
def rg_wf (sh : List rg_S) : Bool := sh.all (fun x => match x with | .inl (_, t) => decide (t.length ≤ 100) | _ => true)
def rg (sh : List rg_S) (b : Nat) (u : rg_U) (n : Nat) (w : Nat → va_E) : Prop := rg_wf sh = true ∧ b + sh.length ≤ n ∧ ∀ (j : Nat) (x : rg_S), sh[j]? = some x → w (b + j) = rg_e b u j x
def rg_F (u : rg_U) (k : Nat) (v : Int32) : rg_U := (upd u.1 k v, u.2)
def rg_R (u : rg_U) (j i : Nat) (x : Int32) : rg_U := (u.1, va_up u.2.1 j (upd (u.2.1 j) i x), u.2.2)
def rg_G (u : rg_U) (k : Nat) (r : Option Nat) : rg_U := (u.1, u.2.1, va_up u.2.2.1 k r, u.2.2.2)
/-- nothing but the region has changed -/
def rg_k (b m : Nat) (w w' : Nat → va_E) : Prop := ∀ k, k < b ∨ b + m ≤ k → w' k = w k
theorem rg_k0 {b m : Nat} {w : Nat → va_E} : rg_k b m w w := fun _ _ => rfl
theorem rg_kt {b m : Nat} {w w' w'' : Nat → va_E} (h : rg_k b m w w') (h2 : rg_k b m w' w'') : rg_k b m w w'' := fun k hk => (h2 k hk).trans (h k hk)
theorem rg_ku {b m j : Nat} {w : Nat → va_E} {e : va_E} (hj : j < m) : rg_k b m w (va_up w (b + j) e) := fun k hk => pm_up_n (by omega)
theorem rg_lt {sh : List rg_S} {b : Nat} {u : rg_U} {n : Nat} {w : Nat → va_E} {j : Nat} {x : rg_S} (h : rg sh b u n w) (hx : sh[j]? = some x) : b + j < n := by
  have := (List.getElem?_eq_some_iff.mp hx).1
  have := h.2.1
  omega
theorem rg_fs_get {b : Nat} {u : rg_U} {j s c : Nat} {t : List Nat} (h : t[s]? = some c) : (rg_fs b u j t)[s]? = some (rg_f b u j s c) := by
  have hs := (List.getElem?_eq_some_iff.mp h).1
  have hc := (List.getElem?_eq_some_iff.mp h).2
  simp [rg_fs, hs, hc]
theorem rg_fs_len {b : Nat} {u : rg_U} {j : Nat} {t : List Nat} : (rg_fs b u j t).length = t.length := by simp [rg_fs]
theorem rg_t {sh : List rg_S} (h : rg_wf sh = true) {j ci : Nat} {t : List Nat} (hx : sh[j]? = some (.inl (ci, t))) : t.length ≤ 100 := by
  have := List.all_eq_true.mp h _ (List.mem_of_getElem? hx)
  simpa using this
theorem rg_fs_put {b : Nat} {u : rg_U} {j s : Nat} {t : List Nat} {v : Int32} (h : t[s]? = some 0) (hl : t.length ≤ 100) : (rg_fs b u j t).set s (.int v) = rg_fs b (rg_F u (100 * j + s) v) j t := by
  have hs := (List.getElem?_eq_some_iff.mp h).1
  apply List.ext_getElem?
  intro i
  rw [List.getElem?_set, rg_fs_len]
  by_cases hi : s = i
  · subst hi
    rw [if_pos rfl, if_pos hs, rg_fs_get h]
    show _ = some (Value.int (upd u.1 (100 * j + s) v (100 * j + s)))
    rw [pk_us]
  · rw [if_neg hi]
    by_cases hi2 : i < t.length
    · rw [rg_fs_get (List.getElem?_eq_getElem hi2), rg_fs_get (List.getElem?_eq_getElem hi2)]
      cases t[i] with
      | zero =>
        show some (Value.int (u.1 _)) = some (Value.int (upd u.1 (100 * j + s) v _))
        rw [pk_un (by omega)]
      | succ k => cases k <;> rfl
    · rw [List.getElem?_eq_none_iff.mpr (by rw [rg_fs_len]; omega), List.getElem?_eq_none_iff.mpr (by rw [rg_fs_len]; omega)]
theorem rg_e_F {b : Nat} {u : rg_U} {j j' s : Nat} {v : Int32} {x : rg_S} (hs : s < 100) (hx : ∀ ci t, x = .inl (ci, t) → t.length ≤ 100) (hj : j' ≠ j) : rg_e b (rg_F u (100 * j + s) v) j' x = rg_e b u j' x := by
  rcases x with ⟨ci, t⟩ | ⟨tag, N⟩ | N
  · have hl := hx ci t rfl
    show Sum.inr (ci, rg_fs b (rg_F u (100 * j + s) v) j' t) = Sum.inr (ci, rg_fs b u j' t)
    congr 2
    apply List.map_congr_left
    intro i hi
    have hi := List.mem_range.mp hi
    cases t.getD i 0 with
    | zero =>
      show Value.int (upd u.1 (100 * j + s) v _) = Value.int (u.1 _)
      rw [pk_un (by omega)]
    | succ k => cases k <;> rfl
  · rfl
  · rfl
theorem rg_putF {sh : List rg_S} {b : Nat} {u : rg_U} {n : Nat} {w : Nat → va_E} {j ci s : Nat} {t : List Nat} {v : Int32} (h : rg sh b u n w) (hx : sh[j]? = some (.inl (ci, t))) (ht : t[s]? = some 0) : rg sh b (rg_F u (100 * j + s) v) n (va_up w (b + j) (.inr (ci, (rg_fs b u j t).set s (.int v)))) := by
  have hl := rg_t h.1 hx
  have hs := (List.getElem?_eq_some_iff.mp ht).1
  refine ⟨h.1, h.2.1, fun j' x hx' => ?_⟩
  by_cases hj : j' = j
  · subst hj
    rw [pm_up_s]
    rw [hx] at hx'
    cases hx'
    rw [rg_fs_put ht hl]
    rfl
  · rw [pm_up_n (by omega), h.2.2 j' x hx', rg_e_F (by omega) (fun ci t q => by subst q; exact rg_t h.1 hx') hj]
theorem rg_putR {sh : List rg_S} {b : Nat} {u : rg_U} {n : Nat} {w : Nat → va_E} {j tag N i : Nat} {v : Int32} (h : rg sh b u n w) (hx : sh[j]? = some (.inr (.inl (tag, N)))) : rg sh b (rg_R u j i v) n (va_up w (b + j) (.inl (tag, N, .inl (upd (u.2.1 j) i v)))) := by
  refine ⟨h.1, h.2.1, fun j' x hx' => ?_⟩
  by_cases hj : j' = j
  · subst hj
    rw [pm_up_s]
    rw [hx] at hx'
    cases hx'
    show _ = Sum.inl (tag, N, Sum.inl (va_up u.2.1 j' (upd (u.2.1 j') i v) j'))
    rw [pm_up_s]
  · rw [pm_up_n (by omega), h.2.2 j' x hx']
    rcases x with ⟨ci, t⟩ | ⟨tag, N⟩ | N
    · rfl
    · show _ = Sum.inl (tag, N, Sum.inl (va_up u.2.1 j (upd (u.2.1 j) i v) j'))
      rw [pm_up_n hj]
      rfl
    · rfl
theorem rg_keep {sh : List rg_S} {b : Nat} {u : rg_U} {n n' : Nat} {w w' : Nat → va_E} (h : rg sh b u n w) (hn : n ≤ n') (hk : ∀ j, j < sh.length → w' (b + j) = w (b + j)) : rg sh b u n' w' := ⟨h.1, Nat.le_trans h.2.1 hn, fun j x hx => by rw [hk j (List.getElem?_eq_some_iff.mp hx).1]; exact h.2.2 j x hx⟩
section RGR
variable {gs : List String} {ro : pm_RO} {M : pm_M} {d mc ms c0 s0 pc : Nat} {L : List (Option Value)} {st : List Value} {n : Nat} {w : Nat → va_E} {Q : Option Value → Nat → (Nat → va_E) → Prop} {sh : List rg_S} {b : Nat} {u : rg_U}
/-- getfield, an int -/
theorem rg_gi {idx ci k j : Nat} {ty : FieldType} {fin : Bool} {t : List Nat} (hR : rg sh b u n w) (h : decode M.2.1 pc = .ok (.getfield idx, 3)) (hf : pm_fl M.1.cls idx ci k ty fin) (hx : sh[j]? = some (.inl (ci, t))) (ht : t[k]? = some 0) (kk : pm_X gs ro M d mc ms c0 s0 (pc + 3) L (.int (u.1 (100 * j + k)) :: st) n w Q) : pm_X gs ro M d mc ms c0 s0 pc L (.ref (b + j) :: st) n w Q :=
  pm_get h hf (rg_lt hR hx) (hR.2.2 j _ hx) (rg_fs_get ht) kk
/-- getfield, a place of the region -/
theorem rg_gr {idx ci k j o : Nat} {ty : FieldType} {fin : Bool} {t : List Nat} (hR : rg sh b u n w) (h : decode M.2.1 pc = .ok (.getfield idx, 3)) (hf : pm_fl M.1.cls idx ci k ty fin) (hx : sh[j]? = some (.inl (ci, t))) (ht : t[k]? = some (o + 2)) (kk : pm_X gs ro M d mc ms c0 s0 (pc + 3) L (.ref (b + o) :: st) n w Q) : pm_X gs ro M d mc ms c0 s0 pc L (.ref (b + j) :: st) n w Q :=
  pm_get h hf (rg_lt hR hx) (hR.2.2 j _ hx) (rg_fs_get ht) kk
/-- putfield, an int -/
theorem rg_pi {idx ci k j : Nat} {t : List Nat} {v : Int32} (hR : rg sh b u n w) (h : decode M.2.1 pc = .ok (.putfield idx, 3)) (hf : pm_fl M.1.cls idx ci k .int false) (hx : sh[j]? = some (.inl (ci, t))) (ht : t[k]? = some 0) (kk : ∀ w', rg sh b (rg_F u (100 * j + k) v) n w' → rg_k b sh.length w w' → pm_X gs ro M d mc ms c0 s0 (pc + 3) L st n w' Q) : pm_X gs ro M d mc ms c0 s0 pc L (.int v :: .ref (b + j) :: st) n w Q :=
  pm_put h hf (rg_lt hR hx) (hR.2.2 j _ hx) (by rw [rg_fs_len]; exact (List.getElem?_eq_some_iff.mp ht).1) (fun _ => rfl) (fun _ => rfl) (kk _ (rg_putF hR hx ht) (rg_ku (List.getElem?_eq_some_iff.mp hx).1))
/-- iaload, iastore, baload, bastore, arraylength -/
theorem rg_al {j N : Nat} {i : Int32} (hR : rg sh b u n w) (h : decode M.2.1 pc = .ok (.iaload, 1)) (hx : sh[j]? = some (.inr (.inl (0, N)))) (hi : vp_in i N) (kk : pm_X gs ro M d mc ms c0 s0 (pc + 1) L (.int (u.2.1 j i.toNatClampNeg) :: st) n w Q) : pm_X gs ro M d mc ms c0 s0 pc L (.int i :: .ref (b + j) :: st) n w Q :=
  pm_iald h (rg_lt hR hx) (hR.2.2 j _ hx) hi kk
theorem rg_zl {j N : Nat} {i : Int32} (hR : rg sh b u n w) (h : decode M.2.1 pc = .ok (.baload, 1)) (hx : sh[j]? = some (.inr (.inl (1, N)))) (hi : vp_in i N) (kk : pm_X gs ro M d mc ms c0 s0 (pc + 1) L (.int (u.2.1 j i.toNatClampNeg) :: st) n w Q) : pm_X gs ro M d mc ms c0 s0 pc L (.int i :: .ref (b + j) :: st) n w Q :=
  pm_zald h (rg_lt hR hx) (hR.2.2 j _ hx) hi kk
theorem rg_as {j N : Nat} {i v : Int32} (hR : rg sh b u n w) (h : decode M.2.1 pc = .ok (.iastore, 1)) (hx : sh[j]? = some (.inr (.inl (0, N)))) (hi : vp_in i N) (kk : ∀ w', rg sh b (rg_R u j i.toNatClampNeg v) n w' → rg_k b sh.length w w' → pm_X gs ro M d mc ms c0 s0 (pc + 1) L st n w' Q) : pm_X gs ro M d mc ms c0 s0 pc L (.int v :: .int i :: .ref (b + j) :: st) n w Q :=
  pm_iast h (rg_lt hR hx) (hR.2.2 j _ hx) hi (kk _ (rg_putR hR hx) (rg_ku (List.getElem?_eq_some_iff.mp hx).1))
theorem rg_zs {j N : Nat} {i v : Int32} (hR : rg sh b u n w) (h : decode M.2.1 pc = .ok (.bastore, 1)) (hx : sh[j]? = some (.inr (.inl (1, N)))) (hi : vp_in i N) (kk : ∀ w', rg sh b (rg_R u j i.toNatClampNeg (vp_nar .boolean v)) n w' → rg_k b sh.length w w' → pm_X gs ro M d mc ms c0 s0 (pc + 1) L st n w' Q) : pm_X gs ro M d mc ms c0 s0 pc L (.int v :: .int i :: .ref (b + j) :: st) n w Q :=
  pm_zast h (rg_lt hR hx) (hR.2.2 j _ hx) hi (kk _ (rg_putR hR hx) (rg_ku (List.getElem?_eq_some_iff.mp hx).1))
end RGR
end
section
theorem lwt_0 {x : Cond} (h : x ∈ k2_sels lw_privs) : x ∈ lw_tbl := List.mem_append_left _ h
theorem lwm_0 {x : Cond} (h : x ∈ k2_sels lw_privs) (hg : goodWord x = true) : x ∈ lw_g := List.mem_filter.mpr ⟨lwt_0 h, hg⟩
theorem lwt_tables_1_1 {x : Cond} (h : x ∈ tables_1_1) : x ∈ lw_tbl := List.mem_append_right _ (show x ∈ tables_1 from List.mem_append_left _ h)
theorem lwm_tables_1_1 {x : Cond} (h : x ∈ tables_1_1) (hg : goodWord x = true) : x ∈ lw_g := List.mem_filter.mpr ⟨lwt_tables_1_1 h, hg⟩
theorem lwt_tables_1_2 {x : Cond} (h : x ∈ tables_1_2) : x ∈ lw_tbl := List.mem_append_right _ (show x ∈ tables_1 from List.mem_append_right _ (List.mem_append_left _ h))
theorem lwm_tables_1_2 {x : Cond} (h : x ∈ tables_1_2) (hg : goodWord x = true) : x ∈ lw_g := List.mem_filter.mpr ⟨lwt_tables_1_2 h, hg⟩
theorem lwt_tables_1_3 {x : Cond} (h : x ∈ tables_1_3) : x ∈ lw_tbl := List.mem_append_right _ (show x ∈ tables_1 from List.mem_append_right _ (List.mem_append_right _ (List.mem_append_left _ h)))
theorem lwm_tables_1_3 {x : Cond} (h : x ∈ tables_1_3) (hg : goodWord x = true) : x ∈ lw_g := List.mem_filter.mpr ⟨lwt_tables_1_3 h, hg⟩
theorem lwt_tables_1_4 {x : Cond} (h : x ∈ tables_1_4) : x ∈ lw_tbl := List.mem_append_right _ (show x ∈ tables_1 from List.mem_append_right _ (List.mem_append_right _ (List.mem_append_right _ (List.mem_append_left _ h))))
theorem lwm_tables_1_4 {x : Cond} (h : x ∈ tables_1_4) (hg : goodWord x = true) : x ∈ lw_g := List.mem_filter.mpr ⟨lwt_tables_1_4 h, hg⟩
theorem lwt_tables_1_5 {x : Cond} (h : x ∈ tables_1_5) : x ∈ lw_tbl := List.mem_append_right _ (show x ∈ tables_1 from List.mem_append_right _ (List.mem_append_right _ (List.mem_append_right _ (List.mem_append_right _ (List.mem_append_left _ h)))))
theorem lwm_tables_1_5 {x : Cond} (h : x ∈ tables_1_5) (hg : goodWord x = true) : x ∈ lw_g := List.mem_filter.mpr ⟨lwt_tables_1_5 h, hg⟩
theorem lwt_tables_1_6 {x : Cond} (h : x ∈ tables_1_6) : x ∈ lw_tbl := List.mem_append_right _ (show x ∈ tables_1 from List.mem_append_right _ (List.mem_append_right _ (List.mem_append_right _ (List.mem_append_right _ (List.mem_append_right _ (List.mem_append_left _ h))))))
theorem lwm_tables_1_6 {x : Cond} (h : x ∈ tables_1_6) (hg : goodWord x = true) : x ∈ lw_g := List.mem_filter.mpr ⟨lwt_tables_1_6 h, hg⟩
theorem lwt_tables_1_7 {x : Cond} (h : x ∈ tables_1_7) : x ∈ lw_tbl := List.mem_append_right _ (show x ∈ tables_1 from List.mem_append_right _ (List.mem_append_right _ (List.mem_append_right _ (List.mem_append_right _ (List.mem_append_right _ (List.mem_append_right _ (h)))))))
theorem lwm_tables_1_7 {x : Cond} (h : x ∈ tables_1_7) (hg : goodWord x = true) : x ∈ lw_g := List.mem_filter.mpr ⟨lwt_tables_1_7 h, hg⟩
theorem cl_X0 : pm_cl 0 RX0 TX0 6 tyX0 := ⟨rfl, fun x hx => by
  have hx : x ∈ ([.laysFinal RX0 "RunsBack$Beside" "most" "[[I", .laysFinal RX0 "RunsBack$Beside" "callOne" "[I", .laysFinal RX0 "RunsBack$Beside" "callOther" "[I", .lays RX0 "RunsBack$Beside" "pairs" "I", .laysFinal RX0 "RunsBack$Beside" "putOne" "[I", .laysFinal RX0 "RunsBack$Beside" "putOther" "[I"] : List Cond) := hx
  simp only [List.mem_cons, List.not_mem_nil, or_false] at hx
  rcases hx with rfl | rfl | rfl | rfl | rfl | rfl
  · exact (lwm_tables_1_1 (List.mem_of_getElem? (i := 82) rfl) rfl)
  · exact (lwm_tables_1_1 (List.mem_of_getElem? (i := 84) rfl) rfl)
  · exact (lwm_tables_1_1 (List.mem_of_getElem? (i := 86) rfl) rfl)
  · exact (lwm_tables_1_1 (List.mem_of_getElem? (i := 88) rfl) rfl)
  · exact (lwm_tables_1_1 (List.mem_of_getElem? (i := 90) rfl) rfl)
  · exact (lwm_tables_1_1 (List.mem_of_getElem? (i := 92) rfl) rfl), tyX0_ok, nmX0⟩
theorem cl_X1 : pm_cl 1 RX1 TX1 4 tyX1 := ⟨rfl, fun x hx => by
  have hx : x ∈ ([.laysFinal RX1 "RunsBack$Calls" "time" "[I", .laysFinal RX1 "RunsBack$Calls" "target" "[I", .laysFinal RX1 "RunsBack$Calls" "stacked" "[I", .lays RX1 "RunsBack$Calls" "count" "I"] : List Cond) := hx
  simp only [List.mem_cons, List.not_mem_nil, or_false] at hx
  rcases hx with rfl | rfl | rfl | rfl
  · exact (lwm_tables_1_2 (List.mem_of_getElem? (i := 28) rfl) rfl)
  · exact (lwm_tables_1_2 (List.mem_of_getElem? (i := 30) rfl) rfl)
  · exact (lwm_tables_1_2 (List.mem_of_getElem? (i := 32) rfl) rfl)
  · exact (lwm_tables_1_2 (List.mem_of_getElem? (i := 34) rfl) rfl), tyX1_ok, nmX1⟩
theorem cl_X2 : pm_cl 2 RX2 TX2 5 tyX2 := ⟨rfl, fun x hx => by
  have hx : x ∈ ([.laysFinal RX2 "RunsBack$Holding" "times" "[I", .lays RX2 "RunsBack$Holding" "count" "I", .lays RX2 "RunsBack$Holding" "most" "I", .lays RX2 "RunsBack$Holding" "unit" "I", .lays RX2 "RunsBack$Holding" "depth" "I"] : List Cond) := hx
  simp only [List.mem_cons, List.not_mem_nil, or_false] at hx
  rcases hx with rfl | rfl | rfl | rfl | rfl
  · exact (lwm_tables_1_2 (List.mem_of_getElem? (i := 52) rfl) rfl)
  · exact (lwm_tables_1_2 (List.mem_of_getElem? (i := 54) rfl) rfl)
  · exact (lwm_tables_1_2 (List.mem_of_getElem? (i := 56) rfl) rfl)
  · exact (lwm_tables_1_2 (List.mem_of_getElem? (i := 58) rfl) rfl)
  · exact (lwm_tables_1_2 (List.mem_of_getElem? (i := 60) rfl) rfl), tyX2_ok, nmX2⟩
theorem cl_X3 : pm_cl 3 RX3 TX3 6 tyX3 := ⟨rfl, fun x hx => by
  have hx : x ∈ ([.laysFinal RX3 "RunsBack$Log" "time" "[I", .laysFinal RX3 "RunsBack$Log" "origin" "[I", .laysFinal RX3 "RunsBack$Log" "number" "[I", .laysFinal RX3 "RunsBack$Log" "place" "[I", .laysFinal RX3 "RunsBack$Log" "sort" "[I", .lays RX3 "RunsBack$Log" "count" "I"] : List Cond) := hx
  simp only [List.mem_cons, List.not_mem_nil, or_false] at hx
  rcases hx with rfl | rfl | rfl | rfl | rfl | rfl
  · exact (lwm_tables_1_1 (List.mem_of_getElem? (i := 197) rfl) rfl)
  · exact (lwm_tables_1_1 (List.mem_of_getElem? (i := 199) rfl) rfl)
  · exact (lwm_tables_1_1 (List.mem_of_getElem? (i := 201) rfl) rfl)
  · exact (lwm_tables_1_1 (List.mem_of_getElem? (i := 203) rfl) rfl)
  · exact (lwm_tables_1_1 (List.mem_of_getElem? (i := 205) rfl) rfl)
  · exact (lwm_tables_1_1 (List.mem_of_getElem? (i := 207) rfl) rfl), tyX3_ok, nmX3⟩
theorem cl_X4 : pm_cl 4 RX4 TX4 4 tyX4 := ⟨rfl, fun x hx => by
  have hx : x ∈ ([.laysFinal RX4 "RunsBack$Outside" "ring" "[I", .lays RX4 "RunsBack$Outside" "first" "I", .lays RX4 "RunsBack$Outside" "waiting" "I", .lays RX4 "RunsBack$Outside" "x" "I"] : List Cond) := hx
  simp only [List.mem_cons, List.not_mem_nil, or_false] at hx
  rcases hx with rfl | rfl | rfl | rfl
  · exact (lwm_tables_1_1 (List.mem_of_getElem? (i := 58) rfl) rfl)
  · exact (lwm_tables_1_1 (List.mem_of_getElem? (i := 60) rfl) rfl)
  · exact (lwm_tables_1_1 (List.mem_of_getElem? (i := 62) rfl) rfl)
  · exact (lwm_tables_1_1 (List.mem_of_getElem? (i := 64) rfl) rfl), tyX4_ok, nmX4⟩
theorem cl_X5 : pm_cl 5 RX5 TX5 4 tyX5 := ⟨rfl, fun x hx => by
  have hx : x ∈ ([.laysFinal RX5 "RunsBack$Program" "kind" "[I", .laysFinal RX5 "RunsBack$Program" "a" "[I", .laysFinal RX5 "RunsBack$Program" "b" "[I", .laysFinal RX5 "RunsBack$Program" "c" "[I"] : List Cond) := hx
  simp only [List.mem_cons, List.not_mem_nil, or_false] at hx
  rcases hx with rfl | rfl | rfl | rfl
  · exact (lwm_tables_1_1 (List.mem_of_getElem? (i := 35) rfl) rfl)
  · exact (lwm_tables_1_1 (List.mem_of_getElem? (i := 37) rfl) rfl)
  · exact (lwm_tables_1_1 (List.mem_of_getElem? (i := 39) rfl) rfl)
  · exact (lwm_tables_1_1 (List.mem_of_getElem? (i := 41) rfl) rfl), tyX5_ok, nmX5⟩
theorem cl_X6 : pm_cl 6 RX6 TX6 12 tyX6 := ⟨rfl, fun x hx => by
  have hx : x ∈ ([.laysFinal RX6 "RunsBack$Puts" "time" "[I", .laysFinal RX6 "RunsBack$Puts" "place" "[I", .laysFinal RX6 "RunsBack$Puts" "sort" "[I", .laysFinal RX6 "RunsBack$Puts" "number" "[I", .laysFinal RX6 "RunsBack$Puts" "changes" "[I", .laysFinal RX6 "RunsBack$Puts" "ahead" "[I", .laysFinal RX6 "RunsBack$Puts" "began" "[I", .laysFinal RX6 "RunsBack$Puts" "entry" "[I", .laysFinal RX6 "RunsBack$Puts" "lookedOne" "[I", .laysFinal RX6 "RunsBack$Puts" "lookedTwo" "[I", .laysFinal RX6 "RunsBack$Puts" "latest" "[I", .lays RX6 "RunsBack$Puts" "count" "I"] : List Cond) := hx
  simp only [List.mem_cons, List.not_mem_nil, or_false] at hx
  rcases hx with rfl | rfl | rfl | rfl | rfl | rfl | rfl | rfl | rfl | rfl | rfl | rfl
  · exact (lwm_tables_1_1 (List.mem_of_getElem? (i := 230) rfl) rfl)
  · exact (lwm_tables_1_1 (List.mem_of_getElem? (i := 232) rfl) rfl)
  · exact (lwm_tables_1_1 (List.mem_of_getElem? (i := 234) rfl) rfl)
  · exact (lwm_tables_1_1 (List.mem_of_getElem? (i := 236) rfl) rfl)
  · exact (lwm_tables_1_1 (List.mem_of_getElem? (i := 238) rfl) rfl)
  · exact (lwm_tables_1_2 (List.mem_of_getElem? (i := 0) rfl) rfl)
  · exact (lwm_tables_1_2 (List.mem_of_getElem? (i := 2) rfl) rfl)
  · exact (lwm_tables_1_2 (List.mem_of_getElem? (i := 4) rfl) rfl)
  · exact (lwm_tables_1_2 (List.mem_of_getElem? (i := 6) rfl) rfl)
  · exact (lwm_tables_1_2 (List.mem_of_getElem? (i := 8) rfl) rfl)
  · exact (lwm_tables_1_2 (List.mem_of_getElem? (i := 10) rfl) rfl)
  · exact (lwm_tables_1_2 (List.mem_of_getElem? (i := 12) rfl) rfl), tyX6_ok, nmX6⟩
theorem cl_X7 : pm_cl 7 RX7 TX7 15 tyX7 := ⟨rfl, fun x hx => by
  have hx : x ∈ ([.laysFinal RX7 "RunsBack$Run" "program" "LRunsBack$Program;", .laysFinal RX7 "RunsBack$Run" "log" "LRunsBack$Log;", .laysFinal RX7 "RunsBack$Run" "puts" "LRunsBack$Puts;", .laysFinal RX7 "RunsBack$Run" "calls" "LRunsBack$Calls;", .laysFinal RX7 "RunsBack$Run" "holding" "LRunsBack$Holding;", .laysFinal RX7 "RunsBack$Run" "counter" "[I", .laysFinal RX7 "RunsBack$Run" "outs" "[I", .laysFinal RX7 "RunsBack$Run" "check" "[I", .laysFinal RX7 "RunsBack$Run" "top" "[I", .lays RX7 "RunsBack$Run" "time" "I", .lays RX7 "RunsBack$Run" "end" "I", .lays RX7 "RunsBack$Run" "changedPlace" "I", .lays RX7 "RunsBack$Run" "replayed" "I", .lays RX7 "RunsBack$Run" "backs" "I", .lays RX7 "RunsBack$Run" "statusKept" "I"] : List Cond) := hx
  simp only [List.mem_cons, List.not_mem_nil, or_false] at hx
  rcases hx with rfl | rfl | rfl | rfl | rfl | rfl | rfl | rfl | rfl | rfl | rfl | rfl | rfl | rfl | rfl
  · exact (lwm_tables_1_2 (List.mem_of_getElem? (i := 95) rfl) rfl)
  · exact (lwm_tables_1_2 (List.mem_of_getElem? (i := 97) rfl) rfl)
  · exact (lwm_tables_1_2 (List.mem_of_getElem? (i := 99) rfl) rfl)
  · exact (lwm_tables_1_2 (List.mem_of_getElem? (i := 101) rfl) rfl)
  · exact (lwm_tables_1_2 (List.mem_of_getElem? (i := 103) rfl) rfl)
  · exact (lwm_tables_1_2 (List.mem_of_getElem? (i := 105) rfl) rfl)
  · exact (lwm_tables_1_2 (List.mem_of_getElem? (i := 107) rfl) rfl)
  · exact (lwm_tables_1_2 (List.mem_of_getElem? (i := 109) rfl) rfl)
  · exact (lwm_tables_1_2 (List.mem_of_getElem? (i := 111) rfl) rfl)
  · exact (lwm_tables_1_2 (List.mem_of_getElem? (i := 113) rfl) rfl)
  · exact (lwm_tables_1_2 (List.mem_of_getElem? (i := 115) rfl) rfl)
  · exact (lwm_tables_1_2 (List.mem_of_getElem? (i := 117) rfl) rfl)
  · exact (lwm_tables_1_2 (List.mem_of_getElem? (i := 119) rfl) rfl)
  · exact (lwm_tables_1_2 (List.mem_of_getElem? (i := 121) rfl) rfl)
  · exact (lwm_tables_1_2 (List.mem_of_getElem? (i := 123) rfl) rfl), tyX7_ok, nmX7⟩
theorem cl_X9 : pm_cl 8 RX9 TX9 13 tyX9 := ⟨rfl, fun x hx => by
  have hx : x ∈ ([.laysFinal RX9 "RunsBack" "program" "LRunsBack$Program;", .laysFinal RX9 "RunsBack" "outside" "LRunsBack$Outside;", .laysFinal RX9 "RunsBack" "beside" "LRunsBack$Beside;", .laysFinal RX9 "RunsBack" "marks" "[Z", .laysFinal RX9 "RunsBack" "kept" "[LRunsBack$Run;", .lays RX9 "RunsBack" "keptCount" "I", .lays RX9 "RunsBack" "now" "LRunsBack$Run;", .lays RX9 "RunsBack" "askedNumber" "I", .lays RX9 "RunsBack" "unitToCome" "I", .lays RX9 "RunsBack" "depthToCome" "I", .lays RX9 "RunsBack" "watchedRegisters" "I", .lays RX9 "RunsBack" "watchedCells" "I", .lays RX9 "RunsBack" "latestReplayed" "I"] : List Cond) := hx
  simp only [List.mem_cons, List.not_mem_nil, or_false] at hx
  rcases hx with rfl | rfl | rfl | rfl | rfl | rfl | rfl | rfl | rfl | rfl | rfl | rfl | rfl
  · exact (lwm_tables_1_1 (List.mem_of_getElem? (i := 110) rfl) rfl)
  · exact (lwm_tables_1_1 (List.mem_of_getElem? (i := 112) rfl) rfl)
  · exact (lwm_tables_1_1 (List.mem_of_getElem? (i := 114) rfl) rfl)
  · exact (lwm_tables_1_1 (List.mem_of_getElem? (i := 116) rfl) rfl)
  · exact (lwm_tables_1_1 (List.mem_of_getElem? (i := 118) rfl) rfl)
  · exact (lwm_tables_1_1 (List.mem_of_getElem? (i := 120) rfl) rfl)
  · exact (lwm_tables_1_1 (List.mem_of_getElem? (i := 122) rfl) rfl)
  · exact (lwm_tables_1_1 (List.mem_of_getElem? (i := 124) rfl) rfl)
  · exact (lwm_tables_1_1 (List.mem_of_getElem? (i := 126) rfl) rfl)
  · exact (lwm_tables_1_1 (List.mem_of_getElem? (i := 128) rfl) rfl)
  · exact (lwm_tables_1_1 (List.mem_of_getElem? (i := 130) rfl) rfl)
  · exact (lwm_tables_1_1 (List.mem_of_getElem? (i := 132) rfl) rfl)
  · exact (lwm_tables_1_1 (List.mem_of_getElem? (i := 134) rfl) rfl), tyX9_ok, nmX9⟩
theorem cl_X10 : pm_cl 9 RX10 TX10 55 tyX10 := ⟨rfl, fun x hx => by
  have hx : x ∈ ([.laysFinal RX10 "RunsBackModel" "kinds" "[I", .laysFinal RX10 "RunsBackModel" "as" "[I", .laysFinal RX10 "RunsBackModel" "bs" "[I", .laysFinal RX10 "RunsBackModel" "cs" "[I", .lays RX10 "RunsBackModel" "unit" "I", .lays RX10 "RunsBackModel" "depth" "I", .laysFinal RX10 "RunsBackModel" "isRun" "[Z", .laysFinal RX10 "RunsBackModel" "runKind" "[I", .laysFinal RX10 "RunsBackModel" "runA" "[I", .laysFinal RX10 "RunsBackModel" "runB" "[I", .laysFinal RX10 "RunsBackModel" "runC" "[I", .laysFinal RX10 "RunsBackModel" "logTime" "[I", .laysFinal RX10 "RunsBackModel" "logSort" "[I", .laysFinal RX10 "RunsBackModel" "logNumber" "[I", .laysFinal RX10 "RunsBackModel" "logPlace" "[I", .laysFinal RX10 "RunsBackModel" "logValue" "[I", .laysFinal RX10 "RunsBackModel" "logs" "[I", .laysFinal RX10 "RunsBackModel" "callTime" "[I", .laysFinal RX10 "RunsBackModel" "callTo" "[I", .laysFinal RX10 "RunsBackModel" "callDeep" "[I", .laysFinal RX10 "RunsBackModel" "calls" "[I", .laysFinal RX10 "RunsBackModel" "isHeld" "[Z", .laysFinal RX10 "RunsBackModel" "times" "[I", .laysFinal RX10 "RunsBackModel" "statuses" "[I", .laysFinal RX10 "RunsBackModel" "units" "[I", .laysFinal RX10 "RunsBackModel" "depths" "[I", .laysFinal RX10 "RunsBackModel" "replayed" "[I", .laysFinal RX10 "RunsBackModel" "mostHeld" "[I", .laysFinal RX10 "RunsBackModel" "backs" "[I", .lays RX10 "RunsBackModel" "kept" "I", .lays RX10 "RunsBackModel" "asked" "I", .laysFinal RX10 "RunsBackModel" "live" "[I", .laysFinal RX10 "RunsBackModel" "inputs" "[I", .lays RX10 "RunsBackModel" "waiting" "I", .lays RX10 "RunsBackModel" "x" "I", .lays RX10 "RunsBackModel" "latest" "I", .laysFinal RX10 "RunsBackModel" "isWatched" "[Z", .lays RX10 "RunsBackModel" "trap" "I", .lays RX10 "RunsBackModel" "took" "I", .lays RX10 "RunsBackModel" "put" "I", .laysFinal RX10 "RunsBackModel" "sim" "[I", .lays RX10 "RunsBackModel" "simRun" "I", .lays RX10 "RunsBackModel" "simLog" "I", .laysFinal RX10 "RunsBackModel" "changesWere" "[I", .laysFinal RX10 "RunsBackModel" "rest" "[I", .laysFinal RX10 "RunsBackModel" "looked" "[I", .laysFinal RX10 "RunsBackModel" "pairs" "[I", .lays RX10 "RunsBackModel" "oneRun" "I", .lays RX10 "RunsBackModel" "otherRun" "I", .lays RX10 "RunsBackModel" "pairOne" "I", .lays RX10 "RunsBackModel" "pairOther" "I", .laysFinal RX10 "RunsBackModel" "aside" "[I", .laysFinal RX10 "RunsBackModel" "before" "[I", .lays RX10 "RunsBackModel" "beforeRun" "I", .lays RX10 "RunsBackModel" "beforeLog" "I"] : List Cond) := hx
  simp only [List.mem_cons, List.not_mem_nil, or_false] at hx
  rcases hx with rfl | rfl | rfl | rfl | rfl | rfl | rfl | rfl | rfl | rfl | rfl | rfl | rfl | rfl | rfl | rfl | rfl | rfl | rfl | rfl | rfl | rfl | rfl | rfl | rfl | rfl | rfl | rfl | rfl | rfl | rfl | rfl | rfl | rfl | rfl | rfl | rfl | rfl | rfl | rfl | rfl | rfl | rfl | rfl | rfl | rfl | rfl | rfl | rfl | rfl | rfl | rfl | rfl | rfl | rfl
  · exact (lwm_tables_1_5 (List.mem_of_getElem? (i := 91) rfl) rfl)
  · exact (lwm_tables_1_5 (List.mem_of_getElem? (i := 93) rfl) rfl)
  · exact (lwm_tables_1_5 (List.mem_of_getElem? (i := 95) rfl) rfl)
  · exact (lwm_tables_1_5 (List.mem_of_getElem? (i := 97) rfl) rfl)
  · exact (lwm_tables_1_5 (List.mem_of_getElem? (i := 99) rfl) rfl)
  · exact (lwm_tables_1_5 (List.mem_of_getElem? (i := 101) rfl) rfl)
  · exact (lwm_tables_1_5 (List.mem_of_getElem? (i := 103) rfl) rfl)
  · exact (lwm_tables_1_5 (List.mem_of_getElem? (i := 105) rfl) rfl)
  · exact (lwm_tables_1_5 (List.mem_of_getElem? (i := 107) rfl) rfl)
  · exact (lwm_tables_1_5 (List.mem_of_getElem? (i := 109) rfl) rfl)
  · exact (lwm_tables_1_5 (List.mem_of_getElem? (i := 111) rfl) rfl)
  · exact (lwm_tables_1_5 (List.mem_of_getElem? (i := 113) rfl) rfl)
  · exact (lwm_tables_1_5 (List.mem_of_getElem? (i := 115) rfl) rfl)
  · exact (lwm_tables_1_5 (List.mem_of_getElem? (i := 117) rfl) rfl)
  · exact (lwm_tables_1_5 (List.mem_of_getElem? (i := 119) rfl) rfl)
  · exact (lwm_tables_1_5 (List.mem_of_getElem? (i := 121) rfl) rfl)
  · exact (lwm_tables_1_5 (List.mem_of_getElem? (i := 123) rfl) rfl)
  · exact (lwm_tables_1_5 (List.mem_of_getElem? (i := 125) rfl) rfl)
  · exact (lwm_tables_1_5 (List.mem_of_getElem? (i := 127) rfl) rfl)
  · exact (lwm_tables_1_5 (List.mem_of_getElem? (i := 129) rfl) rfl)
  · exact (lwm_tables_1_5 (List.mem_of_getElem? (i := 131) rfl) rfl)
  · exact (lwm_tables_1_5 (List.mem_of_getElem? (i := 133) rfl) rfl)
  · exact (lwm_tables_1_5 (List.mem_of_getElem? (i := 135) rfl) rfl)
  · exact (lwm_tables_1_5 (List.mem_of_getElem? (i := 137) rfl) rfl)
  · exact (lwm_tables_1_5 (List.mem_of_getElem? (i := 139) rfl) rfl)
  · exact (lwm_tables_1_5 (List.mem_of_getElem? (i := 141) rfl) rfl)
  · exact (lwm_tables_1_5 (List.mem_of_getElem? (i := 143) rfl) rfl)
  · exact (lwm_tables_1_5 (List.mem_of_getElem? (i := 145) rfl) rfl)
  · exact (lwm_tables_1_5 (List.mem_of_getElem? (i := 147) rfl) rfl)
  · exact (lwm_tables_1_5 (List.mem_of_getElem? (i := 149) rfl) rfl)
  · exact (lwm_tables_1_5 (List.mem_of_getElem? (i := 151) rfl) rfl)
  · exact (lwm_tables_1_5 (List.mem_of_getElem? (i := 153) rfl) rfl)
  · exact (lwm_tables_1_5 (List.mem_of_getElem? (i := 155) rfl) rfl)
  · exact (lwm_tables_1_5 (List.mem_of_getElem? (i := 157) rfl) rfl)
  · exact (lwm_tables_1_5 (List.mem_of_getElem? (i := 159) rfl) rfl)
  · exact (lwm_tables_1_5 (List.mem_of_getElem? (i := 161) rfl) rfl)
  · exact (lwm_tables_1_5 (List.mem_of_getElem? (i := 163) rfl) rfl)
  · exact (lwm_tables_1_5 (List.mem_of_getElem? (i := 165) rfl) rfl)
  · exact (lwm_tables_1_5 (List.mem_of_getElem? (i := 167) rfl) rfl)
  · exact (lwm_tables_1_5 (List.mem_of_getElem? (i := 169) rfl) rfl)
  · exact (lwm_tables_1_5 (List.mem_of_getElem? (i := 171) rfl) rfl)
  · exact (lwm_tables_1_5 (List.mem_of_getElem? (i := 173) rfl) rfl)
  · exact (lwm_tables_1_5 (List.mem_of_getElem? (i := 175) rfl) rfl)
  · exact (lwm_tables_1_5 (List.mem_of_getElem? (i := 177) rfl) rfl)
  · exact (lwm_tables_1_5 (List.mem_of_getElem? (i := 179) rfl) rfl)
  · exact (lwm_tables_1_5 (List.mem_of_getElem? (i := 181) rfl) rfl)
  · exact (lwm_tables_1_5 (List.mem_of_getElem? (i := 183) rfl) rfl)
  · exact (lwm_tables_1_5 (List.mem_of_getElem? (i := 185) rfl) rfl)
  · exact (lwm_tables_1_5 (List.mem_of_getElem? (i := 187) rfl) rfl)
  · exact (lwm_tables_1_5 (List.mem_of_getElem? (i := 189) rfl) rfl)
  · exact (lwm_tables_1_5 (List.mem_of_getElem? (i := 191) rfl) rfl)
  · exact (lwm_tables_1_5 (List.mem_of_getElem? (i := 193) rfl) rfl)
  · exact (lwm_tables_1_5 (List.mem_of_getElem? (i := 195) rfl) rfl)
  · exact (lwm_tables_1_5 (List.mem_of_getElem? (i := 197) rfl) rfl)
  · exact (lwm_tables_1_5 (List.mem_of_getElem? (i := 199) rfl) rfl), tyX10_ok, nmX10⟩
theorem fl_X9_12 : pm_fl RX9 12 8 0 (.object "RunsBack$Program") true := ⟨RX9, TX9, 13, tyX9, cl_X9, by decide, (lwm_tables_1_1 (List.mem_of_getElem? (i := 97) rfl) rfl), rfl, rfl, rfl⟩
theorem fl_X9_19 : pm_fl RX9 19 8 1 (.object "RunsBack$Outside") true := ⟨RX9, TX9, 13, tyX9, cl_X9, by decide, (lwm_tables_1_1 (List.mem_of_getElem? (i := 98) rfl) rfl), rfl, rfl, rfl⟩
theorem fl_X9_26 : pm_fl RX9 26 8 2 (.object "RunsBack$Beside") true := ⟨RX9, TX9, 13, tyX9, cl_X9, by decide, (lwm_tables_1_1 (List.mem_of_getElem? (i := 99) rfl) rfl), rfl, rfl, rfl⟩
theorem fl_X9_30 : pm_fl RX9 30 8 3 (.array .boolean) true := ⟨RX9, TX9, 13, tyX9, cl_X9, by decide, (lwm_tables_1_1 (List.mem_of_getElem? (i := 100) rfl) rfl), rfl, rfl, rfl⟩
theorem fl_X9_36 : pm_fl RX9 36 8 4 (.array (.object "RunsBack$Run")) true := ⟨RX9, TX9, 13, tyX9, cl_X9, by decide, (lwm_tables_1_1 (List.mem_of_getElem? (i := 101) rfl) rfl), rfl, rfl, rfl⟩
theorem fl_X9_40 : pm_fl RX9 40 8 5 (.int) false := ⟨RX9, TX9, 13, tyX9, cl_X9, by decide, (lwm_tables_1_1 (List.mem_of_getElem? (i := 102) rfl) rfl), rfl, rfl, rfl⟩
theorem fl_X9_44 : pm_fl RX9 44 8 6 (.object "RunsBack$Run") false := ⟨RX9, TX9, 13, tyX9, cl_X9, by decide, (lwm_tables_1_1 (List.mem_of_getElem? (i := 103) rfl) rfl), rfl, rfl, rfl⟩
theorem fl_X9_48 : pm_fl RX9 48 8 7 (.int) false := ⟨RX9, TX9, 13, tyX9, cl_X9, by decide, (lwm_tables_1_1 (List.mem_of_getElem? (i := 104) rfl) rfl), rfl, rfl, rfl⟩
theorem fl_X9_51 : pm_fl RX9 51 8 8 (.int) false := ⟨RX9, TX9, 13, tyX9, cl_X9, by decide, (lwm_tables_1_1 (List.mem_of_getElem? (i := 105) rfl) rfl), rfl, rfl, rfl⟩
theorem fl_X9_54 : pm_fl RX9 54 8 9 (.int) false := ⟨RX9, TX9, 13, tyX9, cl_X9, by decide, (lwm_tables_1_1 (List.mem_of_getElem? (i := 106) rfl) rfl), rfl, rfl, rfl⟩
theorem fl_X9_57 : pm_fl RX9 57 8 10 (.int) false := ⟨RX9, TX9, 13, tyX9, cl_X9, by decide, (lwm_tables_1_1 (List.mem_of_getElem? (i := 107) rfl) rfl), rfl, rfl, rfl⟩
theorem fl_X9_60 : pm_fl RX9 60 8 11 (.int) false := ⟨RX9, TX9, 13, tyX9, cl_X9, by decide, (lwm_tables_1_1 (List.mem_of_getElem? (i := 108) rfl) rfl), rfl, rfl, rfl⟩
theorem fl_X9_63 : pm_fl RX9 63 8 12 (.int) false := ⟨RX9, TX9, 13, tyX9, cl_X9, by decide, (lwm_tables_1_1 (List.mem_of_getElem? (i := 109) rfl) rfl), rfl, rfl, rfl⟩
theorem fl_X9_96 : pm_fl RX9 96 4 2 (.int) false := ⟨RX4, TX4, 4, tyX4, cl_X4, by decide, (lwm_tables_1_1 (List.mem_of_getElem? (i := 54) rfl) rfl), rfl, rfl, rfl⟩
theorem fl_X9_103 : pm_fl RX9 103 4 3 (.int) false := ⟨RX4, TX4, 4, tyX4, cl_X4, by decide, (lwm_tables_1_1 (List.mem_of_getElem? (i := 57) rfl) rfl), rfl, rfl, rfl⟩
theorem fl_X9_106 : pm_fl RX9 106 7 1 (.object "RunsBack$Log") true := ⟨RX7, TX7, 15, tyX7, cl_X7, by decide, (lwm_tables_1_2 (List.mem_of_getElem? (i := 67) rfl) rfl), rfl, rfl, rfl⟩
theorem fl_X9_135 : pm_fl RX9 135 7 11 (.int) false := ⟨RX7, TX7, 15, tyX7, cl_X7, by decide, (lwm_tables_1_2 (List.mem_of_getElem? (i := 88) rfl) rfl), rfl, rfl, rfl⟩
theorem fl_X9_141 : pm_fl RX9 141 7 9 (.int) false := ⟨RX7, TX7, 15, tyX7, cl_X7, by decide, (lwm_tables_1_2 (List.mem_of_getElem? (i := 84) rfl) rfl), rfl, rfl, rfl⟩
theorem fl_X9_169 : pm_fl RX9 169 7 2 (.object "RunsBack$Puts") true := ⟨RX7, TX7, 15, tyX7, cl_X7, by decide, (lwm_tables_1_2 (List.mem_of_getElem? (i := 71) rfl) rfl), rfl, rfl, rfl⟩
theorem fl_X9_204 : pm_fl RX9 204 7 0 (.object "RunsBack$Program") true := ⟨RX7, TX7, 15, tyX7, cl_X7, by decide, (lwm_tables_1_2 (List.mem_of_getElem? (i := 65) rfl) rfl), rfl, rfl, rfl⟩
theorem fl_X9_219 : pm_fl RX9 219 7 4 (.object "RunsBack$Holding") true := ⟨RX7, TX7, 15, tyX7, cl_X7, by decide, (lwm_tables_1_2 (List.mem_of_getElem? (i := 76) rfl) rfl), rfl, rfl, rfl⟩
theorem fl_X9_266 : pm_fl RX9 266 7 3 (.object "RunsBack$Calls") true := ⟨RX7, TX7, 15, tyX7, cl_X7, by decide, (lwm_tables_1_2 (List.mem_of_getElem? (i := 74) rfl) rfl), rfl, rfl, rfl⟩
theorem fl_X9_270 : pm_fl RX9 270 1 3 (.int) false := ⟨RX1, TX1, 4, tyX1, cl_X1, by decide, (lwm_tables_1_2 (List.mem_of_getElem? (i := 27) rfl) rfl), rfl, rfl, rfl⟩
theorem fl_X9_277 : pm_fl RX9 277 3 5 (.int) false := ⟨RX3, TX3, 6, tyX3, cl_X3, by decide, (lwm_tables_1_1 (List.mem_of_getElem? (i := 196) rfl) rfl), rfl, rfl, rfl⟩
theorem fl_X9_279 : pm_fl RX9 279 2 1 (.int) false := ⟨RX2, TX2, 5, tyX2, cl_X2, by decide, (lwm_tables_1_2 (List.mem_of_getElem? (i := 45) rfl) rfl), rfl, rfl, rfl⟩
theorem fl_X9_300 : pm_fl RX9 300 0 3 (.int) false := ⟨RX0, TX0, 6, tyX0, cl_X0, by decide, (lwm_tables_1_1 (List.mem_of_getElem? (i := 79) rfl) rfl), rfl, rfl, rfl⟩
theorem fl_X9_322 : pm_fl RX9 322 7 14 (.int) false := ⟨RX7, TX7, 15, tyX7, cl_X7, by decide, (lwm_tables_1_2 (List.mem_of_getElem? (i := 94) rfl) rfl), rfl, rfl, rfl⟩
theorem fl_X9_325 : pm_fl RX9 325 7 12 (.int) false := ⟨RX7, TX7, 15, tyX7, cl_X7, by decide, (lwm_tables_1_2 (List.mem_of_getElem? (i := 90) rfl) rfl), rfl, rfl, rfl⟩
theorem fl_X9_328 : pm_fl RX9 328 2 2 (.int) false := ⟨RX2, TX2, 5, tyX2, cl_X2, by decide, (lwm_tables_1_2 (List.mem_of_getElem? (i := 47) rfl) rfl), rfl, rfl, rfl⟩
theorem fl_X9_331 : pm_fl RX9 331 2 3 (.int) false := ⟨RX2, TX2, 5, tyX2, cl_X2, by decide, (lwm_tables_1_2 (List.mem_of_getElem? (i := 49) rfl) rfl), rfl, rfl, rfl⟩
theorem fl_X9_334 : pm_fl RX9 334 2 4 (.int) false := ⟨RX2, TX2, 5, tyX2, cl_X2, by decide, (lwm_tables_1_2 (List.mem_of_getElem? (i := 51) rfl) rfl), rfl, rfl, rfl⟩
theorem fl_X9_337 : pm_fl RX9 337 7 13 (.int) false := ⟨RX7, TX7, 15, tyX7, cl_X7, by decide, (lwm_tables_1_2 (List.mem_of_getElem? (i := 92) rfl) rfl), rfl, rfl, rfl⟩
theorem sl_X9_349 : Cond.fieldLink RX9 349 "RunsBack" "ASKS_OF_A" "[I" ∈ lw_g := (lwm_tables_1_1 (List.mem_of_getElem? (i := 148) rfl) rfl)
theorem sl_X9_353 : Cond.fieldLink RX9 353 "RunsBack" "ASKS_OF_B" "[I" ∈ lw_g := (lwm_tables_1_1 (List.mem_of_getElem? (i := 150) rfl) rfl)
theorem sl_X9_356 : Cond.fieldLink RX9 356 "RunsBack" "ASKS_OF_C" "[I" ∈ lw_g := (lwm_tables_1_1 (List.mem_of_getElem? (i := 152) rfl) rfl)
theorem fl_X0_11 : pm_fl RX0 11 0 0 (.array (.array .int)) true := ⟨RX0, TX0, 6, tyX0, cl_X0, by decide, (lwm_tables_1_1 (List.mem_of_getElem? (i := 75) rfl) rfl), rfl, rfl, rfl⟩
theorem fl_X0_16 : pm_fl RX0 16 0 1 (.array .int) true := ⟨RX0, TX0, 6, tyX0, cl_X0, by decide, (lwm_tables_1_1 (List.mem_of_getElem? (i := 76) rfl) rfl), rfl, rfl, rfl⟩
theorem fl_X0_20 : pm_fl RX0 20 0 2 (.array .int) true := ⟨RX0, TX0, 6, tyX0, cl_X0, by decide, (lwm_tables_1_1 (List.mem_of_getElem? (i := 77) rfl) rfl), rfl, rfl, rfl⟩
theorem fl_X0_23 : pm_fl RX0 23 0 3 (.int) false := ⟨RX0, TX0, 6, tyX0, cl_X0, by decide, (lwm_tables_1_1 (List.mem_of_getElem? (i := 78) rfl) rfl), rfl, rfl, rfl⟩
theorem fl_X0_27 : pm_fl RX0 27 0 4 (.array .int) true := ⟨RX0, TX0, 6, tyX0, cl_X0, by decide, (lwm_tables_1_1 (List.mem_of_getElem? (i := 80) rfl) rfl), rfl, rfl, rfl⟩
theorem fl_X0_30 : pm_fl RX0 30 0 5 (.array .int) true := ⟨RX0, TX0, 6, tyX0, cl_X0, by decide, (lwm_tables_1_1 (List.mem_of_getElem? (i := 81) rfl) rfl), rfl, rfl, rfl⟩
theorem fl_X0_37 : pm_fl RX0 37 1 3 (.int) false := ⟨RX1, TX1, 4, tyX1, cl_X1, by decide, (lwm_tables_1_2 (List.mem_of_getElem? (i := 26) rfl) rfl), rfl, rfl, rfl⟩
theorem fl_X0_68 : pm_fl RX0 68 7 9 (.int) false := ⟨RX7, TX7, 15, tyX7, cl_X7, by decide, (lwm_tables_1_2 (List.mem_of_getElem? (i := 82) rfl) rfl), rfl, rfl, rfl⟩
theorem fl_X0_73 : pm_fl RX0 73 7 2 (.object "RunsBack$Puts") true := ⟨RX7, TX7, 15, tyX7, cl_X7, by decide, (lwm_tables_1_2 (List.mem_of_getElem? (i := 70) rfl) rfl), rfl, rfl, rfl⟩
theorem fl_X0_93 : pm_fl RX0 93 6 11 (.int) false := ⟨RX6, TX6, 12, tyX6, cl_X6, by decide, (lwm_tables_1_1 (List.mem_of_getElem? (i := 229) rfl) rfl), rfl, rfl, rfl⟩
theorem fl_X1_9 : pm_fl RX1 9 1 3 (.int) false := ⟨RX1, TX1, 4, tyX1, cl_X1, by decide, (lwm_tables_1_2 (List.mem_of_getElem? (i := 24) rfl) rfl), rfl, rfl, rfl⟩
theorem fl_X1_15 : pm_fl RX1 15 1 0 (.array .int) true := ⟨RX1, TX1, 4, tyX1, cl_X1, by decide, (lwm_tables_1_2 (List.mem_of_getElem? (i := 21) rfl) rfl), rfl, rfl, rfl⟩
theorem fl_X1_19 : pm_fl RX1 19 1 1 (.array .int) true := ⟨RX1, TX1, 4, tyX1, cl_X1, by decide, (lwm_tables_1_2 (List.mem_of_getElem? (i := 22) rfl) rfl), rfl, rfl, rfl⟩
theorem fl_X1_22 : pm_fl RX1 22 1 2 (.array .int) true := ⟨RX1, TX1, 4, tyX1, cl_X1, by decide, (lwm_tables_1_2 (List.mem_of_getElem? (i := 23) rfl) rfl), rfl, rfl, rfl⟩
theorem fl_X2_9 : pm_fl RX2 9 2 1 (.int) false := ⟨RX2, TX2, 5, tyX2, cl_X2, by decide, (lwm_tables_1_2 (List.mem_of_getElem? (i := 44) rfl) rfl), rfl, rfl, rfl⟩
theorem fl_X2_15 : pm_fl RX2 15 2 2 (.int) false := ⟨RX2, TX2, 5, tyX2, cl_X2, by decide, (lwm_tables_1_2 (List.mem_of_getElem? (i := 46) rfl) rfl), rfl, rfl, rfl⟩
theorem fl_X2_18 : pm_fl RX2 18 2 3 (.int) false := ⟨RX2, TX2, 5, tyX2, cl_X2, by decide, (lwm_tables_1_2 (List.mem_of_getElem? (i := 48) rfl) rfl), rfl, rfl, rfl⟩
theorem fl_X2_21 : pm_fl RX2 21 2 4 (.int) false := ⟨RX2, TX2, 5, tyX2, cl_X2, by decide, (lwm_tables_1_2 (List.mem_of_getElem? (i := 50) rfl) rfl), rfl, rfl, rfl⟩
theorem fl_X2_24 : pm_fl RX2 24 2 0 (.array .int) true := ⟨RX2, TX2, 5, tyX2, cl_X2, by decide, (lwm_tables_1_2 (List.mem_of_getElem? (i := 43) rfl) rfl), rfl, rfl, rfl⟩
theorem fl_X3_9 : pm_fl RX3 9 3 5 (.int) false := ⟨RX3, TX3, 6, tyX3, cl_X3, by decide, (lwm_tables_1_1 (List.mem_of_getElem? (i := 194) rfl) rfl), rfl, rfl, rfl⟩
theorem fl_X3_15 : pm_fl RX3 15 3 0 (.array .int) true := ⟨RX3, TX3, 6, tyX3, cl_X3, by decide, (lwm_tables_1_1 (List.mem_of_getElem? (i := 189) rfl) rfl), rfl, rfl, rfl⟩
theorem fl_X3_19 : pm_fl RX3 19 3 1 (.array .int) true := ⟨RX3, TX3, 6, tyX3, cl_X3, by decide, (lwm_tables_1_1 (List.mem_of_getElem? (i := 190) rfl) rfl), rfl, rfl, rfl⟩
theorem fl_X3_22 : pm_fl RX3 22 3 2 (.array .int) true := ⟨RX3, TX3, 6, tyX3, cl_X3, by decide, (lwm_tables_1_1 (List.mem_of_getElem? (i := 191) rfl) rfl), rfl, rfl, rfl⟩
theorem fl_X3_25 : pm_fl RX3 25 3 3 (.array .int) true := ⟨RX3, TX3, 6, tyX3, cl_X3, by decide, (lwm_tables_1_1 (List.mem_of_getElem? (i := 192) rfl) rfl), rfl, rfl, rfl⟩
theorem fl_X3_28 : pm_fl RX3 28 3 4 (.array .int) true := ⟨RX3, TX3, 6, tyX3, cl_X3, by decide, (lwm_tables_1_1 (List.mem_of_getElem? (i := 193) rfl) rfl), rfl, rfl, rfl⟩
theorem fl_X4_9 : pm_fl RX4 9 4 0 (.array .int) true := ⟨RX4, TX4, 4, tyX4, cl_X4, by decide, (lwm_tables_1_1 (List.mem_of_getElem? (i := 51) rfl) rfl), rfl, rfl, rfl⟩
theorem fl_X4_15 : pm_fl RX4 15 4 1 (.int) false := ⟨RX4, TX4, 4, tyX4, cl_X4, by decide, (lwm_tables_1_1 (List.mem_of_getElem? (i := 52) rfl) rfl), rfl, rfl, rfl⟩
theorem fl_X4_19 : pm_fl RX4 19 4 2 (.int) false := ⟨RX4, TX4, 4, tyX4, cl_X4, by decide, (lwm_tables_1_1 (List.mem_of_getElem? (i := 53) rfl) rfl), rfl, rfl, rfl⟩
theorem fl_X4_22 : pm_fl RX4 22 4 3 (.int) false := ⟨RX4, TX4, 4, tyX4, cl_X4, by decide, (lwm_tables_1_1 (List.mem_of_getElem? (i := 56) rfl) rfl), rfl, rfl, rfl⟩
theorem fl_X5_9 : pm_fl RX5 9 5 0 (.array .int) true := ⟨RX5, TX5, 4, tyX5, cl_X5, by decide, (lwm_tables_1_1 (List.mem_of_getElem? (i := 31) rfl) rfl), rfl, rfl, rfl⟩
theorem fl_X5_15 : pm_fl RX5 15 5 1 (.array .int) true := ⟨RX5, TX5, 4, tyX5, cl_X5, by decide, (lwm_tables_1_1 (List.mem_of_getElem? (i := 32) rfl) rfl), rfl, rfl, rfl⟩
theorem fl_X5_18 : pm_fl RX5 18 5 2 (.array .int) true := ⟨RX5, TX5, 4, tyX5, cl_X5, by decide, (lwm_tables_1_1 (List.mem_of_getElem? (i := 33) rfl) rfl), rfl, rfl, rfl⟩
theorem fl_X5_21 : pm_fl RX5 21 5 3 (.array .int) true := ⟨RX5, TX5, 4, tyX5, cl_X5, by decide, (lwm_tables_1_1 (List.mem_of_getElem? (i := 34) rfl) rfl), rfl, rfl, rfl⟩
theorem fl_X6_9 : pm_fl RX6 9 6 11 (.int) false := ⟨RX6, TX6, 12, tyX6, cl_X6, by decide, (lwm_tables_1_1 (List.mem_of_getElem? (i := 228) rfl) rfl), rfl, rfl, rfl⟩
theorem fl_X6_15 : pm_fl RX6 15 6 0 (.array .int) true := ⟨RX6, TX6, 12, tyX6, cl_X6, by decide, (lwm_tables_1_1 (List.mem_of_getElem? (i := 217) rfl) rfl), rfl, rfl, rfl⟩
theorem fl_X6_19 : pm_fl RX6 19 6 1 (.array .int) true := ⟨RX6, TX6, 12, tyX6, cl_X6, by decide, (lwm_tables_1_1 (List.mem_of_getElem? (i := 218) rfl) rfl), rfl, rfl, rfl⟩
theorem fl_X6_22 : pm_fl RX6 22 6 2 (.array .int) true := ⟨RX6, TX6, 12, tyX6, cl_X6, by decide, (lwm_tables_1_1 (List.mem_of_getElem? (i := 219) rfl) rfl), rfl, rfl, rfl⟩
theorem fl_X6_25 : pm_fl RX6 25 6 3 (.array .int) true := ⟨RX6, TX6, 12, tyX6, cl_X6, by decide, (lwm_tables_1_1 (List.mem_of_getElem? (i := 220) rfl) rfl), rfl, rfl, rfl⟩
theorem fl_X6_28 : pm_fl RX6 28 6 4 (.array .int) true := ⟨RX6, TX6, 12, tyX6, cl_X6, by decide, (lwm_tables_1_1 (List.mem_of_getElem? (i := 221) rfl) rfl), rfl, rfl, rfl⟩
theorem fl_X6_31 : pm_fl RX6 31 6 5 (.array .int) true := ⟨RX6, TX6, 12, tyX6, cl_X6, by decide, (lwm_tables_1_1 (List.mem_of_getElem? (i := 222) rfl) rfl), rfl, rfl, rfl⟩
theorem fl_X6_34 : pm_fl RX6 34 6 6 (.array .int) true := ⟨RX6, TX6, 12, tyX6, cl_X6, by decide, (lwm_tables_1_1 (List.mem_of_getElem? (i := 223) rfl) rfl), rfl, rfl, rfl⟩
theorem fl_X6_37 : pm_fl RX6 37 6 7 (.array .int) true := ⟨RX6, TX6, 12, tyX6, cl_X6, by decide, (lwm_tables_1_1 (List.mem_of_getElem? (i := 224) rfl) rfl), rfl, rfl, rfl⟩
theorem fl_X6_40 : pm_fl RX6 40 6 8 (.array .int) true := ⟨RX6, TX6, 12, tyX6, cl_X6, by decide, (lwm_tables_1_1 (List.mem_of_getElem? (i := 225) rfl) rfl), rfl, rfl, rfl⟩
theorem fl_X6_43 : pm_fl RX6 43 6 9 (.array .int) true := ⟨RX6, TX6, 12, tyX6, cl_X6, by decide, (lwm_tables_1_1 (List.mem_of_getElem? (i := 226) rfl) rfl), rfl, rfl, rfl⟩
theorem fl_X6_46 : pm_fl RX6 46 6 10 (.array .int) true := ⟨RX6, TX6, 12, tyX6, cl_X6, by decide, (lwm_tables_1_1 (List.mem_of_getElem? (i := 227) rfl) rfl), rfl, rfl, rfl⟩
theorem fl_X7_12 : pm_fl RX7 12 7 0 (.object "RunsBack$Program") true := ⟨RX7, TX7, 15, tyX7, cl_X7, by decide, (lwm_tables_1_2 (List.mem_of_getElem? (i := 63) rfl) rfl), rfl, rfl, rfl⟩
theorem fl_X7_18 : pm_fl RX7 18 7 9 (.int) false := ⟨RX7, TX7, 15, tyX7, cl_X7, by decide, (lwm_tables_1_2 (List.mem_of_getElem? (i := 81) rfl) rfl), rfl, rfl, rfl⟩
theorem fl_X7_22 : pm_fl RX7 22 7 10 (.int) false := ⟨RX7, TX7, 15, tyX7, cl_X7, by decide, (lwm_tables_1_2 (List.mem_of_getElem? (i := 85) rfl) rfl), rfl, rfl, rfl⟩
theorem fl_X7_25 : pm_fl RX7 25 7 11 (.int) false := ⟨RX7, TX7, 15, tyX7, cl_X7, by decide, (lwm_tables_1_2 (List.mem_of_getElem? (i := 87) rfl) rfl), rfl, rfl, rfl⟩
theorem fl_X7_28 : pm_fl RX7 28 7 12 (.int) false := ⟨RX7, TX7, 15, tyX7, cl_X7, by decide, (lwm_tables_1_2 (List.mem_of_getElem? (i := 89) rfl) rfl), rfl, rfl, rfl⟩
theorem fl_X7_31 : pm_fl RX7 31 7 13 (.int) false := ⟨RX7, TX7, 15, tyX7, cl_X7, by decide, (lwm_tables_1_2 (List.mem_of_getElem? (i := 91) rfl) rfl), rfl, rfl, rfl⟩
theorem fl_X7_34 : pm_fl RX7 34 7 14 (.int) false := ⟨RX7, TX7, 15, tyX7, cl_X7, by decide, (lwm_tables_1_2 (List.mem_of_getElem? (i := 93) rfl) rfl), rfl, rfl, rfl⟩
theorem fl_X7_40 : pm_fl RX7 40 7 1 (.object "RunsBack$Log") true := ⟨RX7, TX7, 15, tyX7, cl_X7, by decide, (lwm_tables_1_2 (List.mem_of_getElem? (i := 66) rfl) rfl), rfl, rfl, rfl⟩
theorem fl_X7_47 : pm_fl RX7 47 7 2 (.object "RunsBack$Puts") true := ⟨RX7, TX7, 15, tyX7, cl_X7, by decide, (lwm_tables_1_2 (List.mem_of_getElem? (i := 68) rfl) rfl), rfl, rfl, rfl⟩
theorem fl_X7_54 : pm_fl RX7 54 7 3 (.object "RunsBack$Calls") true := ⟨RX7, TX7, 15, tyX7, cl_X7, by decide, (lwm_tables_1_2 (List.mem_of_getElem? (i := 72) rfl) rfl), rfl, rfl, rfl⟩
theorem fl_X7_61 : pm_fl RX7 61 7 4 (.object "RunsBack$Holding") true := ⟨RX7, TX7, 15, tyX7, cl_X7, by decide, (lwm_tables_1_2 (List.mem_of_getElem? (i := 75) rfl) rfl), rfl, rfl, rfl⟩
theorem fl_X7_65 : pm_fl RX7 65 7 5 (.array .int) true := ⟨RX7, TX7, 15, tyX7, cl_X7, by decide, (lwm_tables_1_2 (List.mem_of_getElem? (i := 77) rfl) rfl), rfl, rfl, rfl⟩
theorem fl_X7_69 : pm_fl RX7 69 7 6 (.array .int) true := ⟨RX7, TX7, 15, tyX7, cl_X7, by decide, (lwm_tables_1_2 (List.mem_of_getElem? (i := 78) rfl) rfl), rfl, rfl, rfl⟩
theorem fl_X7_72 : pm_fl RX7 72 7 7 (.array .int) true := ⟨RX7, TX7, 15, tyX7, cl_X7, by decide, (lwm_tables_1_2 (List.mem_of_getElem? (i := 79) rfl) rfl), rfl, rfl, rfl⟩
theorem fl_X7_75 : pm_fl RX7 75 7 8 (.array .int) true := ⟨RX7, TX7, 15, tyX7, cl_X7, by decide, (lwm_tables_1_2 (List.mem_of_getElem? (i := 80) rfl) rfl), rfl, rfl, rfl⟩
theorem fl_X7_99 : pm_fl RX7 99 3 5 (.int) false := ⟨RX3, TX3, 6, tyX3, cl_X3, by decide, (lwm_tables_1_1 (List.mem_of_getElem? (i := 195) rfl) rfl), rfl, rfl, rfl⟩
theorem fl_X7_105 : pm_fl RX7 105 1 3 (.int) false := ⟨RX1, TX1, 4, tyX1, cl_X1, by decide, (lwm_tables_1_2 (List.mem_of_getElem? (i := 25) rfl) rfl), rfl, rfl, rfl⟩
theorem fl_X7_132 : pm_fl RX7 132 4 2 (.int) false := ⟨RX4, TX4, 4, tyX4, cl_X4, by decide, (lwm_tables_1_1 (List.mem_of_getElem? (i := 55) rfl) rfl), rfl, rfl, rfl⟩
theorem fl_X8_9 : pm_fl RX8 9 7 0 (.object "RunsBack$Program") true := ⟨RX7, TX7, 15, tyX7, cl_X7, by decide, (lwm_tables_1_2 (List.mem_of_getElem? (i := 64) rfl) rfl), rfl, rfl, rfl⟩
theorem fl_X8_30 : pm_fl RX8 30 7 10 (.int) false := ⟨RX7, TX7, 15, tyX7, cl_X7, by decide, (lwm_tables_1_2 (List.mem_of_getElem? (i := 86) rfl) rfl), rfl, rfl, rfl⟩
theorem fl_X8_38 : pm_fl RX8 38 7 2 (.object "RunsBack$Puts") true := ⟨RX7, TX7, 15, tyX7, cl_X7, by decide, (lwm_tables_1_2 (List.mem_of_getElem? (i := 69) rfl) rfl), rfl, rfl, rfl⟩
theorem fl_X8_117 : pm_fl RX8 117 7 9 (.int) false := ⟨RX7, TX7, 15, tyX7, cl_X7, by decide, (lwm_tables_1_2 (List.mem_of_getElem? (i := 83) rfl) rfl), rfl, rfl, rfl⟩
theorem fl_X8_123 : pm_fl RX8 123 7 3 (.object "RunsBack$Calls") true := ⟨RX7, TX7, 15, tyX7, cl_X7, by decide, (lwm_tables_1_2 (List.mem_of_getElem? (i := 73) rfl) rfl), rfl, rfl, rfl⟩
theorem fl_X10_7 : pm_fl RX10 7 9 0 (.array .int) true := ⟨RX10, TX10, 55, tyX10, cl_X10, by decide, (lwm_tables_1_5 (List.mem_of_getElem? (i := 36) rfl) rfl), rfl, rfl, rfl⟩
theorem fl_X10_13 : pm_fl RX10 13 9 1 (.array .int) true := ⟨RX10, TX10, 55, tyX10, cl_X10, by decide, (lwm_tables_1_5 (List.mem_of_getElem? (i := 37) rfl) rfl), rfl, rfl, rfl⟩
theorem fl_X10_16 : pm_fl RX10 16 9 2 (.array .int) true := ⟨RX10, TX10, 55, tyX10, cl_X10, by decide, (lwm_tables_1_5 (List.mem_of_getElem? (i := 38) rfl) rfl), rfl, rfl, rfl⟩
theorem fl_X10_19 : pm_fl RX10 19 9 3 (.array .int) true := ⟨RX10, TX10, 55, tyX10, cl_X10, by decide, (lwm_tables_1_5 (List.mem_of_getElem? (i := 39) rfl) rfl), rfl, rfl, rfl⟩
theorem fl_X10_22 : pm_fl RX10 22 9 4 (.int) false := ⟨RX10, TX10, 55, tyX10, cl_X10, by decide, (lwm_tables_1_5 (List.mem_of_getElem? (i := 40) rfl) rfl), rfl, rfl, rfl⟩
theorem fl_X10_26 : pm_fl RX10 26 9 5 (.int) false := ⟨RX10, TX10, 55, tyX10, cl_X10, by decide, (lwm_tables_1_5 (List.mem_of_getElem? (i := 41) rfl) rfl), rfl, rfl, rfl⟩
theorem fl_X10_29 : pm_fl RX10 29 9 6 (.array .boolean) true := ⟨RX10, TX10, 55, tyX10, cl_X10, by decide, (lwm_tables_1_5 (List.mem_of_getElem? (i := 42) rfl) rfl), rfl, rfl, rfl⟩
theorem fl_X10_33 : pm_fl RX10 33 9 7 (.array .int) true := ⟨RX10, TX10, 55, tyX10, cl_X10, by decide, (lwm_tables_1_5 (List.mem_of_getElem? (i := 43) rfl) rfl), rfl, rfl, rfl⟩
theorem fl_X10_36 : pm_fl RX10 36 9 8 (.array .int) true := ⟨RX10, TX10, 55, tyX10, cl_X10, by decide, (lwm_tables_1_5 (List.mem_of_getElem? (i := 44) rfl) rfl), rfl, rfl, rfl⟩
theorem fl_X10_39 : pm_fl RX10 39 9 9 (.array .int) true := ⟨RX10, TX10, 55, tyX10, cl_X10, by decide, (lwm_tables_1_5 (List.mem_of_getElem? (i := 45) rfl) rfl), rfl, rfl, rfl⟩
theorem fl_X10_42 : pm_fl RX10 42 9 10 (.array .int) true := ⟨RX10, TX10, 55, tyX10, cl_X10, by decide, (lwm_tables_1_5 (List.mem_of_getElem? (i := 46) rfl) rfl), rfl, rfl, rfl⟩
theorem fl_X10_45 : pm_fl RX10 45 9 11 (.array .int) true := ⟨RX10, TX10, 55, tyX10, cl_X10, by decide, (lwm_tables_1_5 (List.mem_of_getElem? (i := 47) rfl) rfl), rfl, rfl, rfl⟩
theorem fl_X10_48 : pm_fl RX10 48 9 12 (.array .int) true := ⟨RX10, TX10, 55, tyX10, cl_X10, by decide, (lwm_tables_1_5 (List.mem_of_getElem? (i := 48) rfl) rfl), rfl, rfl, rfl⟩
theorem fl_X10_51 : pm_fl RX10 51 9 13 (.array .int) true := ⟨RX10, TX10, 55, tyX10, cl_X10, by decide, (lwm_tables_1_5 (List.mem_of_getElem? (i := 49) rfl) rfl), rfl, rfl, rfl⟩
theorem fl_X10_54 : pm_fl RX10 54 9 14 (.array .int) true := ⟨RX10, TX10, 55, tyX10, cl_X10, by decide, (lwm_tables_1_5 (List.mem_of_getElem? (i := 50) rfl) rfl), rfl, rfl, rfl⟩
theorem fl_X10_57 : pm_fl RX10 57 9 15 (.array .int) true := ⟨RX10, TX10, 55, tyX10, cl_X10, by decide, (lwm_tables_1_5 (List.mem_of_getElem? (i := 51) rfl) rfl), rfl, rfl, rfl⟩
theorem fl_X10_60 : pm_fl RX10 60 9 16 (.array .int) true := ⟨RX10, TX10, 55, tyX10, cl_X10, by decide, (lwm_tables_1_5 (List.mem_of_getElem? (i := 52) rfl) rfl), rfl, rfl, rfl⟩
theorem fl_X10_63 : pm_fl RX10 63 9 17 (.array .int) true := ⟨RX10, TX10, 55, tyX10, cl_X10, by decide, (lwm_tables_1_5 (List.mem_of_getElem? (i := 53) rfl) rfl), rfl, rfl, rfl⟩
theorem fl_X10_66 : pm_fl RX10 66 9 18 (.array .int) true := ⟨RX10, TX10, 55, tyX10, cl_X10, by decide, (lwm_tables_1_5 (List.mem_of_getElem? (i := 54) rfl) rfl), rfl, rfl, rfl⟩
theorem fl_X10_69 : pm_fl RX10 69 9 19 (.array .int) true := ⟨RX10, TX10, 55, tyX10, cl_X10, by decide, (lwm_tables_1_5 (List.mem_of_getElem? (i := 55) rfl) rfl), rfl, rfl, rfl⟩
theorem fl_X10_72 : pm_fl RX10 72 9 20 (.array .int) true := ⟨RX10, TX10, 55, tyX10, cl_X10, by decide, (lwm_tables_1_5 (List.mem_of_getElem? (i := 56) rfl) rfl), rfl, rfl, rfl⟩
theorem fl_X10_75 : pm_fl RX10 75 9 21 (.array .boolean) true := ⟨RX10, TX10, 55, tyX10, cl_X10, by decide, (lwm_tables_1_5 (List.mem_of_getElem? (i := 57) rfl) rfl), rfl, rfl, rfl⟩
theorem fl_X10_78 : pm_fl RX10 78 9 22 (.array .int) true := ⟨RX10, TX10, 55, tyX10, cl_X10, by decide, (lwm_tables_1_5 (List.mem_of_getElem? (i := 58) rfl) rfl), rfl, rfl, rfl⟩
theorem fl_X10_81 : pm_fl RX10 81 9 23 (.array .int) true := ⟨RX10, TX10, 55, tyX10, cl_X10, by decide, (lwm_tables_1_5 (List.mem_of_getElem? (i := 59) rfl) rfl), rfl, rfl, rfl⟩
theorem fl_X10_84 : pm_fl RX10 84 9 24 (.array .int) true := ⟨RX10, TX10, 55, tyX10, cl_X10, by decide, (lwm_tables_1_5 (List.mem_of_getElem? (i := 60) rfl) rfl), rfl, rfl, rfl⟩
theorem fl_X10_87 : pm_fl RX10 87 9 25 (.array .int) true := ⟨RX10, TX10, 55, tyX10, cl_X10, by decide, (lwm_tables_1_5 (List.mem_of_getElem? (i := 61) rfl) rfl), rfl, rfl, rfl⟩
theorem fl_X10_90 : pm_fl RX10 90 9 26 (.array .int) true := ⟨RX10, TX10, 55, tyX10, cl_X10, by decide, (lwm_tables_1_5 (List.mem_of_getElem? (i := 62) rfl) rfl), rfl, rfl, rfl⟩
theorem fl_X10_93 : pm_fl RX10 93 9 27 (.array .int) true := ⟨RX10, TX10, 55, tyX10, cl_X10, by decide, (lwm_tables_1_5 (List.mem_of_getElem? (i := 63) rfl) rfl), rfl, rfl, rfl⟩
theorem fl_X10_96 : pm_fl RX10 96 9 28 (.array .int) true := ⟨RX10, TX10, 55, tyX10, cl_X10, by decide, (lwm_tables_1_5 (List.mem_of_getElem? (i := 64) rfl) rfl), rfl, rfl, rfl⟩
theorem fl_X10_99 : pm_fl RX10 99 9 30 (.int) false := ⟨RX10, TX10, 55, tyX10, cl_X10, by decide, (lwm_tables_1_5 (List.mem_of_getElem? (i := 66) rfl) rfl), rfl, rfl, rfl⟩
theorem fl_X10_102 : pm_fl RX10 102 9 31 (.array .int) true := ⟨RX10, TX10, 55, tyX10, cl_X10, by decide, (lwm_tables_1_5 (List.mem_of_getElem? (i := 67) rfl) rfl), rfl, rfl, rfl⟩
theorem fl_X10_105 : pm_fl RX10 105 9 32 (.array .int) true := ⟨RX10, TX10, 55, tyX10, cl_X10, by decide, (lwm_tables_1_5 (List.mem_of_getElem? (i := 68) rfl) rfl), rfl, rfl, rfl⟩
theorem fl_X10_108 : pm_fl RX10 108 9 34 (.int) false := ⟨RX10, TX10, 55, tyX10, cl_X10, by decide, (lwm_tables_1_5 (List.mem_of_getElem? (i := 70) rfl) rfl), rfl, rfl, rfl⟩
theorem fl_X10_111 : pm_fl RX10 111 9 36 (.array .boolean) true := ⟨RX10, TX10, 55, tyX10, cl_X10, by decide, (lwm_tables_1_5 (List.mem_of_getElem? (i := 72) rfl) rfl), rfl, rfl, rfl⟩
theorem fl_X10_114 : pm_fl RX10 114 9 40 (.array .int) true := ⟨RX10, TX10, 55, tyX10, cl_X10, by decide, (lwm_tables_1_5 (List.mem_of_getElem? (i := 76) rfl) rfl), rfl, rfl, rfl⟩
theorem fl_X10_117 : pm_fl RX10 117 9 41 (.int) false := ⟨RX10, TX10, 55, tyX10, cl_X10, by decide, (lwm_tables_1_5 (List.mem_of_getElem? (i := 77) rfl) rfl), rfl, rfl, rfl⟩
theorem fl_X10_120 : pm_fl RX10 120 9 43 (.array .int) true := ⟨RX10, TX10, 55, tyX10, cl_X10, by decide, (lwm_tables_1_5 (List.mem_of_getElem? (i := 79) rfl) rfl), rfl, rfl, rfl⟩
theorem fl_X10_123 : pm_fl RX10 123 9 44 (.array .int) true := ⟨RX10, TX10, 55, tyX10, cl_X10, by decide, (lwm_tables_1_5 (List.mem_of_getElem? (i := 80) rfl) rfl), rfl, rfl, rfl⟩
theorem fl_X10_126 : pm_fl RX10 126 9 45 (.array .int) true := ⟨RX10, TX10, 55, tyX10, cl_X10, by decide, (lwm_tables_1_5 (List.mem_of_getElem? (i := 81) rfl) rfl), rfl, rfl, rfl⟩
theorem fl_X10_129 : pm_fl RX10 129 9 46 (.array .int) true := ⟨RX10, TX10, 55, tyX10, cl_X10, by decide, (lwm_tables_1_5 (List.mem_of_getElem? (i := 82) rfl) rfl), rfl, rfl, rfl⟩
theorem fl_X10_132 : pm_fl RX10 132 9 51 (.array .int) true := ⟨RX10, TX10, 55, tyX10, cl_X10, by decide, (lwm_tables_1_5 (List.mem_of_getElem? (i := 87) rfl) rfl), rfl, rfl, rfl⟩
theorem fl_X10_135 : pm_fl RX10 135 9 52 (.array .int) true := ⟨RX10, TX10, 55, tyX10, cl_X10, by decide, (lwm_tables_1_5 (List.mem_of_getElem? (i := 88) rfl) rfl), rfl, rfl, rfl⟩
theorem fl_X10_166 : pm_fl RX10 166 9 33 (.int) false := ⟨RX10, TX10, 55, tyX10, cl_X10, by decide, (lwm_tables_1_5 (List.mem_of_getElem? (i := 69) rfl) rfl), rfl, rfl, rfl⟩
theorem fl_X10_183 : pm_fl RX10 183 9 37 (.int) false := ⟨RX10, TX10, 55, tyX10, cl_X10, by decide, (lwm_tables_1_5 (List.mem_of_getElem? (i := 73) rfl) rfl), rfl, rfl, rfl⟩
theorem fl_X10_186 : pm_fl RX10 186 9 39 (.int) false := ⟨RX10, TX10, 55, tyX10, cl_X10, by decide, (lwm_tables_1_5 (List.mem_of_getElem? (i := 75) rfl) rfl), rfl, rfl, rfl⟩
theorem fl_X10_192 : pm_fl RX10 192 9 38 (.int) false := ⟨RX10, TX10, 55, tyX10, cl_X10, by decide, (lwm_tables_1_5 (List.mem_of_getElem? (i := 74) rfl) rfl), rfl, rfl, rfl⟩
theorem fl_X10_264 : pm_fl RX10 264 9 42 (.int) false := ⟨RX10, TX10, 55, tyX10, cl_X10, by decide, (lwm_tables_1_5 (List.mem_of_getElem? (i := 78) rfl) rfl), rfl, rfl, rfl⟩
theorem fl_X10_276 : pm_fl RX10 276 9 35 (.int) false := ⟨RX10, TX10, 55, tyX10, cl_X10, by decide, (lwm_tables_1_5 (List.mem_of_getElem? (i := 71) rfl) rfl), rfl, rfl, rfl⟩
theorem fl_X10_295 : pm_fl RX10 295 9 29 (.int) false := ⟨RX10, TX10, 55, tyX10, cl_X10, by decide, (lwm_tables_1_5 (List.mem_of_getElem? (i := 65) rfl) rfl), rfl, rfl, rfl⟩
theorem fl_X10_343 : pm_fl RX10 343 9 47 (.int) false := ⟨RX10, TX10, 55, tyX10, cl_X10, by decide, (lwm_tables_1_5 (List.mem_of_getElem? (i := 83) rfl) rfl), rfl, rfl, rfl⟩
theorem fl_X10_346 : pm_fl RX10 346 9 48 (.int) false := ⟨RX10, TX10, 55, tyX10, cl_X10, by decide, (lwm_tables_1_5 (List.mem_of_getElem? (i := 84) rfl) rfl), rfl, rfl, rfl⟩
theorem fl_X10_358 : pm_fl RX10 358 9 49 (.int) false := ⟨RX10, TX10, 55, tyX10, cl_X10, by decide, (lwm_tables_1_5 (List.mem_of_getElem? (i := 85) rfl) rfl), rfl, rfl, rfl⟩
theorem fl_X10_361 : pm_fl RX10 361 9 50 (.int) false := ⟨RX10, TX10, 55, tyX10, cl_X10, by decide, (lwm_tables_1_5 (List.mem_of_getElem? (i := 86) rfl) rfl), rfl, rfl, rfl⟩
theorem fl_X10_367 : pm_fl RX10 367 9 53 (.int) false := ⟨RX10, TX10, 55, tyX10, cl_X10, by decide, (lwm_tables_1_5 (List.mem_of_getElem? (i := 89) rfl) rfl), rfl, rfl, rfl⟩
theorem fl_X10_370 : pm_fl RX10 370 9 54 (.int) false := ⟨RX10, TX10, 55, tyX10, cl_X10, by decide, (lwm_tables_1_5 (List.mem_of_getElem? (i := 90) rfl) rfl), rfl, rfl, rfl⟩
abbrev M_X0_init : pm_M := (yX0_init, cX0_init, 1, none)
theorem in_X0_init : pm_in M_X0_init := ⟨(lwm_tables_1_1 (List.mem_of_getElem? (i := 71) rfl) rfl), by decide +kernel, by decide, by decide +kernel, by decide +kernel, (lwm_tables_1_1 (List.mem_of_getElem? (i := 5) rfl) rfl)⟩
abbrev M_X0_has : pm_M := (yX0_has, cX0_has, 2, (some .boolean))
theorem in_X0_has : pm_in M_X0_has := ⟨(lwm_tables_1_4 (List.mem_of_getElem? (i := 218) rfl) rfl), by decide +kernel, by decide, by decide +kernel, by decide +kernel, (lwm_tables_1_1 (List.mem_of_getElem? (i := 5) rfl) rfl)⟩
abbrev M_X0_callOfOne : pm_M := (yX0_callOfOne, cX0_callOfOne, 2, (some .int))
theorem in_X0_callOfOne : pm_in M_X0_callOfOne := ⟨(lwm_tables_1_4 (List.mem_of_getElem? (i := 222) rfl) rfl), by decide +kernel, by decide, by decide +kernel, by decide +kernel, (lwm_tables_1_1 (List.mem_of_getElem? (i := 5) rfl) rfl)⟩
abbrev M_X0_callOfOther : pm_M := (yX0_callOfOther, cX0_callOfOther, 2, (some .int))
theorem in_X0_callOfOther : pm_in M_X0_callOfOther := ⟨(lwm_tables_1_4 (List.mem_of_getElem? (i := 227) rfl) rfl), by decide +kernel, by decide, by decide +kernel, by decide +kernel, (lwm_tables_1_1 (List.mem_of_getElem? (i := 5) rfl) rfl)⟩
abbrev M_X0_lay : pm_M := (yX0_lay, cX0_lay, 5, none)
theorem in_X0_lay : pm_in M_X0_lay := ⟨(lwm_tables_1_4 (List.mem_of_getElem? (i := 195) rfl) rfl), by decide +kernel, by decide, by decide +kernel, by decide +kernel, (lwm_tables_1_1 (List.mem_of_getElem? (i := 5) rfl) rfl)⟩
abbrev M_X0_countPairs : pm_M := (yX0_countPairs, cX0_countPairs, 9, none)
theorem in_X0_countPairs : pm_in M_X0_countPairs := ⟨(lwm_tables_1_4 (List.mem_of_getElem? (i := 200) rfl) rfl), by decide +kernel, by decide, by decide +kernel, by decide +kernel, (lwm_tables_1_1 (List.mem_of_getElem? (i := 5) rfl) rfl)⟩
abbrev M_X0_choosePairs : pm_M := (yX0_choosePairs, cX0_choosePairs, 8, none)
theorem in_X0_choosePairs : pm_in M_X0_choosePairs := ⟨(lwm_tables_1_4 (List.mem_of_getElem? (i := 210) rfl) rfl), by decide +kernel, by decide, by decide +kernel, by decide +kernel, (lwm_tables_1_1 (List.mem_of_getElem? (i := 5) rfl) rfl)⟩
abbrev M_X0_firstUnlike : pm_M := (yX0_firstUnlike, cX0_firstUnlike, 9, (some .int))
theorem in_X0_firstUnlike : pm_in M_X0_firstUnlike := ⟨(lwm_tables_1_4 (List.mem_of_getElem? (i := 239) rfl) rfl), by decide +kernel, by decide, by decide +kernel, by decide +kernel, (lwm_tables_1_1 (List.mem_of_getElem? (i := 5) rfl) rfl)⟩
abbrev M_X0_goThrough : pm_M := (yX0_goThrough, cX0_goThrough, 6, (some .int))
theorem in_X0_goThrough : pm_in M_X0_goThrough := ⟨(lwm_tables_1_5 (List.mem_of_getElem? (i := 2) rfl) rfl), by decide +kernel, by decide, by decide +kernel, by decide +kernel, (lwm_tables_1_1 (List.mem_of_getElem? (i := 5) rfl) rfl)⟩
abbrev M_X0_areUnlike : pm_M := (yX0_areUnlike, cX0_areUnlike, 9, (some .boolean))
theorem in_X0_areUnlike : pm_in M_X0_areUnlike := ⟨(lwm_tables_1_5 (List.mem_of_getElem? (i := 17) rfl) rfl), by decide +kernel, by decide, by decide +kernel, by decide +kernel, (lwm_tables_1_1 (List.mem_of_getElem? (i := 5) rfl) rfl)⟩
abbrev M_X1_init : pm_M := (yX1_init, cX1_init, 1, none)
theorem in_X1_init : pm_in M_X1_init := ⟨(lwm_tables_1_2 (List.mem_of_getElem? (i := 19) rfl) rfl), by decide +kernel, by decide, by decide +kernel, by decide +kernel, (lwm_tables_1_1 (List.mem_of_getElem? (i := 10) rfl) rfl)⟩
abbrev M_X1_init_ : pm_M := (yX1_init_, cX1_init_, 2, none)
theorem in_X1_init_ : pm_in M_X1_init_ := ⟨(lwm_tables_1_3 (List.mem_of_getElem? (i := 238) rfl) rfl), by decide +kernel, by decide, by decide +kernel, by decide +kernel, (lwm_tables_1_1 (List.mem_of_getElem? (i := 10) rfl) rfl)⟩
abbrev M_X1_has : pm_M := (yX1_has, cX1_has, 2, (some .boolean))
theorem in_X1_has : pm_in M_X1_has := ⟨(lwm_tables_1_3 (List.mem_of_getElem? (i := 208) rfl) rfl), by decide +kernel, by decide, by decide +kernel, by decide +kernel, (lwm_tables_1_1 (List.mem_of_getElem? (i := 10) rfl) rfl)⟩
abbrev M_X1_add : pm_M := (yX1_add, cX1_add, 4, none)
theorem in_X1_add : pm_in M_X1_add := ⟨(lwm_tables_1_3 (List.mem_of_getElem? (i := 99) rfl) rfl), by decide +kernel, by decide, by decide +kernel, by decide +kernel, (lwm_tables_1_1 (List.mem_of_getElem? (i := 10) rfl) rfl)⟩
abbrev M_X1_read : pm_M := (yX1_read, cX1_read, 3, (some .int))
theorem in_X1_read : pm_in M_X1_read := ⟨(lwm_tables_1_4 (List.mem_of_getElem? (i := 151) rfl) rfl), by decide +kernel, by decide, by decide +kernel, by decide +kernel, (lwm_tables_1_1 (List.mem_of_getElem? (i := 10) rfl) rfl)⟩
abbrev M_X1_dropFrom : pm_M := (yX1_dropFrom, cX1_dropFrom, 3, none)
theorem in_X1_dropFrom : pm_in M_X1_dropFrom := ⟨(lwm_tables_1_3 (List.mem_of_getElem? (i := 204) rfl) rfl), by decide +kernel, by decide, by decide +kernel, by decide +kernel, (lwm_tables_1_1 (List.mem_of_getElem? (i := 10) rfl) rfl)⟩
abbrev M_X1_isLike : pm_M := (yX1_isLike, cX1_isLike, 4, (some .boolean))
theorem in_X1_isLike : pm_in M_X1_isLike := ⟨(lwm_tables_1_4 (List.mem_of_getElem? (i := 206) rfl) rfl), by decide +kernel, by decide, by decide +kernel, by decide +kernel, (lwm_tables_1_1 (List.mem_of_getElem? (i := 10) rfl) rfl)⟩
abbrev M_X2_init : pm_M := (yX2_init, cX2_init, 1, none)
theorem in_X2_init : pm_in M_X2_init := ⟨(lwm_tables_1_2 (List.mem_of_getElem? (i := 41) rfl) rfl), by decide +kernel, by decide, by decide +kernel, by decide +kernel, (lwm_tables_1_1 (List.mem_of_getElem? (i := 11) rfl) rfl)⟩
abbrev M_X2_init_ : pm_M := (yX2_init_, cX2_init_, 2, none)
theorem in_X2_init_ : pm_in M_X2_init_ := ⟨(lwm_tables_1_4 (List.mem_of_getElem? (i := 3) rfl) rfl), by decide +kernel, by decide, by decide +kernel, by decide +kernel, (lwm_tables_1_1 (List.mem_of_getElem? (i := 11) rfl) rfl)⟩
abbrev M_X2_start : pm_M := (yX2_start, cX2_start, 3, none)
theorem in_X2_start : pm_in M_X2_start := ⟨(lwm_tables_1_2 (List.mem_of_getElem? (i := 142) rfl) rfl), by decide +kernel, by decide, by decide +kernel, by decide +kernel, (lwm_tables_1_1 (List.mem_of_getElem? (i := 11) rfl) rfl)⟩
abbrev M_X2_goesWith : pm_M := (yX2_goesWith, cX2_goesWith, 2, (some .int))
theorem in_X2_goesWith : pm_in M_X2_goesWith := ⟨(lwm_tables_1_3 (List.mem_of_getElem? (i := 141) rfl) rfl), by decide +kernel, by decide, by decide +kernel, by decide +kernel, (lwm_tables_1_1 (List.mem_of_getElem? (i := 11) rfl) rfl)⟩
abbrev M_X2_isHeldStill : pm_M := (yX2_isHeldStill, cX2_isHeldStill, 3, (some .boolean))
theorem in_X2_isHeldStill : pm_in M_X2_isHeldStill := ⟨(lwm_tables_1_4 (List.mem_of_getElem? (i := 179) rfl) rfl), by decide +kernel, by decide, by decide +kernel, by decide +kernel, (lwm_tables_1_1 (List.mem_of_getElem? (i := 11) rfl) rfl)⟩
abbrev M_X2_has : pm_M := (yX2_has, cX2_has, 2, (some .boolean))
theorem in_X2_has : pm_in M_X2_has := ⟨(lwm_tables_1_3 (List.mem_of_getElem? (i := 138) rfl) rfl), by decide +kernel, by decide, by decide +kernel, by decide +kernel, (lwm_tables_1_1 (List.mem_of_getElem? (i := 11) rfl) rfl)⟩
abbrev M_X2_timeOf : pm_M := (yX2_timeOf, cX2_timeOf, 2, (some .int))
theorem in_X2_timeOf : pm_in M_X2_timeOf := ⟨(lwm_tables_1_3 (List.mem_of_getElem? (i := 168) rfl) rfl), by decide +kernel, by decide, by decide +kernel, by decide +kernel, (lwm_tables_1_1 (List.mem_of_getElem? (i := 11) rfl) rfl)⟩
abbrev M_X2_goesAt : pm_M := (yX2_goesAt, cX2_goesAt, 2, (some .int))
theorem in_X2_goesAt : pm_in M_X2_goesAt := ⟨(lwm_tables_1_3 (List.mem_of_getElem? (i := 134) rfl) rfl), by decide +kernel, by decide, by decide +kernel, by decide +kernel, (lwm_tables_1_1 (List.mem_of_getElem? (i := 11) rfl) rfl)⟩
abbrev M_X2_timeComes : pm_M := (yX2_timeComes, cX2_timeComes, 2, none)
theorem in_X2_timeComes : pm_in M_X2_timeComes := ⟨(lwm_tables_1_3 (List.mem_of_getElem? (i := 126) rfl) rfl), by decide +kernel, by decide, by decide +kernel, by decide +kernel, (lwm_tables_1_1 (List.mem_of_getElem? (i := 11) rfl) rfl)⟩
abbrev M_X2_dropWhatGoesBy : pm_M := (yX2_dropWhatGoesBy, cX2_dropWhatGoesBy, 5, none)
theorem in_X2_dropWhatGoesBy : pm_in M_X2_dropWhatGoesBy := ⟨(lwm_tables_1_3 (List.mem_of_getElem? (i := 130) rfl) rfl), by decide +kernel, by decide, by decide +kernel, by decide +kernel, (lwm_tables_1_1 (List.mem_of_getElem? (i := 11) rfl) rfl)⟩
abbrev M_X2_dropAbove : pm_M := (yX2_dropAbove, cX2_dropAbove, 3, none)
theorem in_X2_dropAbove : pm_in M_X2_dropAbove := ⟨(lwm_tables_1_3 (List.mem_of_getElem? (i := 212) rfl) rfl), by decide +kernel, by decide, by decide +kernel, by decide +kernel, (lwm_tables_1_1 (List.mem_of_getElem? (i := 11) rfl) rfl)⟩
abbrev M_X2_latestBy : pm_M := (yX2_latestBy, cX2_latestBy, 4, (some .int))
theorem in_X2_latestBy : pm_in M_X2_latestBy := ⟨(lwm_tables_1_3 (List.mem_of_getElem? (i := 164) rfl) rfl), by decide +kernel, by decide, by decide +kernel, by decide +kernel, (lwm_tables_1_1 (List.mem_of_getElem? (i := 11) rfl) rfl)⟩
abbrev M_X2_stepsToFind : pm_M := (yX2_stepsToFind, cX2_stepsToFind, 6, (some .int))
theorem in_X2_stepsToFind : pm_in M_X2_stepsToFind := ⟨(lwm_tables_1_4 (List.mem_of_getElem? (i := 80) rfl) rfl), by decide +kernel, by decide, by decide +kernel, by decide +kernel, (lwm_tables_1_1 (List.mem_of_getElem? (i := 11) rfl) rfl)⟩
abbrev M_X3_init : pm_M := (yX3_init, cX3_init, 1, none)
theorem in_X3_init : pm_in M_X3_init := ⟨(lwm_tables_1_1 (List.mem_of_getElem? (i := 187) rfl) rfl), by decide +kernel, by decide, by decide +kernel, by decide +kernel, (lwm_tables_1_1 (List.mem_of_getElem? (i := 8) rfl) rfl)⟩
abbrev M_X3_init_ : pm_M := (yX3_init_, cX3_init_, 2, none)
theorem in_X3_init_ : pm_in M_X3_init_ := ⟨(lwm_tables_1_3 (List.mem_of_getElem? (i := 223) rfl) rfl), by decide +kernel, by decide, by decide +kernel, by decide +kernel, (lwm_tables_1_1 (List.mem_of_getElem? (i := 8) rfl) rfl)⟩
abbrev M_X3_has : pm_M := (yX3_has, cX3_has, 2, (some .boolean))
theorem in_X3_has : pm_in M_X3_has := ⟨(lwm_tables_1_3 (List.mem_of_getElem? (i := 188) rfl) rfl), by decide +kernel, by decide, by decide +kernel, by decide +kernel, (lwm_tables_1_1 (List.mem_of_getElem? (i := 8) rfl) rfl)⟩
abbrev M_X3_isFull : pm_M := (yX3_isFull, cX3_isFull, 1, (some .boolean))
theorem in_X3_isFull : pm_in M_X3_isFull := ⟨(lwm_tables_1_2 (List.mem_of_getElem? (i := 170) rfl) rfl), by decide +kernel, by decide, by decide +kernel, by decide +kernel, (lwm_tables_1_1 (List.mem_of_getElem? (i := 8) rfl) rfl)⟩
abbrev M_X3_addWhole : pm_M := (yX3_addWhole, cX3_addWhole, 4, none)
theorem in_X3_addWhole : pm_in M_X3_addWhole := ⟨(lwm_tables_1_3 (List.mem_of_getElem? (i := 63) rfl) rfl), by decide +kernel, by decide, by decide +kernel, by decide +kernel, (lwm_tables_1_1 (List.mem_of_getElem? (i := 8) rfl) rfl)⟩
abbrev M_X3_addPoke : pm_M := (yX3_addPoke, cX3_addPoke, 5, none)
theorem in_X3_addPoke : pm_in M_X3_addPoke := ⟨(lwm_tables_1_2 (List.mem_of_getElem? (i := 184) rfl) rfl), by decide +kernel, by decide, by decide +kernel, by decide +kernel, (lwm_tables_1_1 (List.mem_of_getElem? (i := 8) rfl) rfl)⟩
abbrev M_X3_add : pm_M := (yX3_add, cX3_add, 6, none)
theorem in_X3_add : pm_in M_X3_add := ⟨(lwm_tables_1_2 (List.mem_of_getElem? (i := 188) rfl) rfl), by decide +kernel, by decide, by decide +kernel, by decide +kernel, (lwm_tables_1_1 (List.mem_of_getElem? (i := 8) rfl) rfl)⟩
abbrev M_X3_read : pm_M := (yX3_read, cX3_read, 3, (some .int))
theorem in_X3_read : pm_in M_X3_read := ⟨(lwm_tables_1_4 (List.mem_of_getElem? (i := 159) rfl) rfl), by decide +kernel, by decide, by decide +kernel, by decide +kernel, (lwm_tables_1_1 (List.mem_of_getElem? (i := 8) rfl) rfl)⟩
abbrev M_X3_dropBehind : pm_M := (yX3_dropBehind, cX3_dropBehind, 4, none)
theorem in_X3_dropBehind : pm_in M_X3_dropBehind := ⟨(lwm_tables_1_3 (List.mem_of_getElem? (i := 180) rfl) rfl), by decide +kernel, by decide, by decide +kernel, by decide +kernel, (lwm_tables_1_1 (List.mem_of_getElem? (i := 8) rfl) rfl)⟩
abbrev M_X3_isBehind : pm_M := (yX3_isBehind, cX3_isBehind, 3, (some .boolean))
theorem in_X3_isBehind : pm_in M_X3_isBehind := ⟨(lwm_tables_1_3 (List.mem_of_getElem? (i := 184) rfl) rfl), by decide +kernel, by decide, by decide +kernel, by decide +kernel, (lwm_tables_1_1 (List.mem_of_getElem? (i := 8) rfl) rfl)⟩
abbrev M_X4_init : pm_M := (yX4_init, cX4_init, 1, none)
theorem in_X4_init : pm_in M_X4_init := ⟨(lwm_tables_1_1 (List.mem_of_getElem? (i := 49) rfl) rfl), by decide +kernel, by decide, by decide +kernel, by decide +kernel, (lwm_tables_1_1 (List.mem_of_getElem? (i := 4) rfl) rfl)⟩
abbrev M_X4_clearInputs : pm_M := (yX4_clearInputs, cX4_clearInputs, 1, none)
theorem in_X4_clearInputs : pm_in M_X4_clearInputs := ⟨(lwm_tables_1_2 (List.mem_of_getElem? (i := 146) rfl) rfl), by decide +kernel, by decide, by decide +kernel, by decide +kernel, (lwm_tables_1_1 (List.mem_of_getElem? (i := 4) rfl) rfl)⟩
abbrev M_X4_addLast : pm_M := (yX4_addLast, cX4_addLast, 2, none)
theorem in_X4_addLast : pm_in M_X4_addLast := ⟨(lwm_tables_1_2 (List.mem_of_getElem? (i := 158) rfl) rfl), by decide +kernel, by decide, by decide +kernel, by decide +kernel, (lwm_tables_1_1 (List.mem_of_getElem? (i := 4) rfl) rfl)⟩
abbrev M_X4_addFirst : pm_M := (yX4_addFirst, cX4_addFirst, 2, none)
theorem in_X4_addFirst : pm_in M_X4_addFirst := ⟨(lwm_tables_1_3 (List.mem_of_getElem? (i := 192) rfl) rfl), by decide +kernel, by decide, by decide +kernel, by decide +kernel, (lwm_tables_1_1 (List.mem_of_getElem? (i := 4) rfl) rfl)⟩
abbrev M_X4_takeFirst : pm_M := (yX4_takeFirst, cX4_takeFirst, 2, (some .int))
theorem in_X4_takeFirst : pm_in M_X4_takeFirst := ⟨(lwm_tables_1_3 (List.mem_of_getElem? (i := 55) rfl) rfl), by decide +kernel, by decide, by decide +kernel, by decide +kernel, (lwm_tables_1_1 (List.mem_of_getElem? (i := 4) rfl) rfl)⟩
abbrev M_X4_draw : pm_M := (yX4_draw, cX4_draw, 2, (some .int))
theorem in_X4_draw : pm_in M_X4_draw := ⟨(lwm_tables_1_3 (List.mem_of_getElem? (i := 68) rfl) rfl), by decide +kernel, by decide, by decide +kernel, by decide +kernel, (lwm_tables_1_1 (List.mem_of_getElem? (i := 4) rfl) rfl)⟩
abbrev M_X5_init : pm_M := (yX5_init, cX5_init, 1, none)
theorem in_X5_init : pm_in M_X5_init := ⟨(lwm_tables_1_1 (List.mem_of_getElem? (i := 26) rfl) rfl), by decide +kernel, by decide, by decide +kernel, by decide +kernel, (lwm_tables_1_1 (List.mem_of_getElem? (i := 2) rfl) rfl)⟩
abbrev M_X5_write : pm_M := (yX5_write, cX5_write, 6, none)
theorem in_X5_write : pm_in M_X5_write := ⟨(lwm_tables_1_1 (List.mem_of_getElem? (i := 160) rfl) rfl), by decide +kernel, by decide, by decide +kernel, by decide +kernel, (lwm_tables_1_1 (List.mem_of_getElem? (i := 2) rfl) rfl)⟩
abbrev M_X5_takeFrom : pm_M := (yX5_takeFrom, cX5_takeFrom, 3, none)
theorem in_X5_takeFrom : pm_in M_X5_takeFrom := ⟨(lwm_tables_1_2 (List.mem_of_getElem? (i := 133) rfl) rfl), by decide +kernel, by decide, by decide +kernel, by decide +kernel, (lwm_tables_1_1 (List.mem_of_getElem? (i := 2) rfl) rfl)⟩
abbrev M_X5_size : pm_M := (yX5_size, cX5_size, 3, (some .int))
theorem in_X5_size : pm_in M_X5_size := ⟨(lwm_tables_1_2 (List.mem_of_getElem? (i := 150) rfl) rfl), by decide +kernel, by decide, by decide +kernel, by decide +kernel, (lwm_tables_1_1 (List.mem_of_getElem? (i := 2) rfl) rfl)⟩
abbrev M_X5_kindAt : pm_M := (yX5_kindAt, cX5_kindAt, 2, (some .int))
theorem in_X5_kindAt : pm_in M_X5_kindAt := ⟨(lwm_tables_1_3 (List.mem_of_getElem? (i := 1) rfl) rfl), by decide +kernel, by decide, by decide +kernel, by decide +kernel, (lwm_tables_1_1 (List.mem_of_getElem? (i := 2) rfl) rfl)⟩
abbrev M_X5_firstAt : pm_M := (yX5_firstAt, cX5_firstAt, 2, (some .int))
theorem in_X5_firstAt : pm_in M_X5_firstAt := ⟨(lwm_tables_1_3 (List.mem_of_getElem? (i := 17) rfl) rfl), by decide +kernel, by decide, by decide +kernel, by decide +kernel, (lwm_tables_1_1 (List.mem_of_getElem? (i := 2) rfl) rfl)⟩
abbrev M_X5_secondAt : pm_M := (yX5_secondAt, cX5_secondAt, 2, (some .int))
theorem in_X5_secondAt : pm_in M_X5_secondAt := ⟨(lwm_tables_1_3 (List.mem_of_getElem? (i := 21) rfl) rfl), by decide +kernel, by decide, by decide +kernel, by decide +kernel, (lwm_tables_1_1 (List.mem_of_getElem? (i := 2) rfl) rfl)⟩
abbrev M_X5_thirdAt : pm_M := (yX5_thirdAt, cX5_thirdAt, 2, (some .int))
theorem in_X5_thirdAt : pm_in M_X5_thirdAt := ⟨(lwm_tables_1_3 (List.mem_of_getElem? (i := 25) rfl) rfl), by decide +kernel, by decide, by decide +kernel, by decide +kernel, (lwm_tables_1_1 (List.mem_of_getElem? (i := 2) rfl) rfl)⟩
abbrev M_X6_init : pm_M := (yX6_init, cX6_init, 1, none)
theorem in_X6_init : pm_in M_X6_init := ⟨(lwm_tables_1_1 (List.mem_of_getElem? (i := 214) rfl) rfl), by decide +kernel, by decide, by decide +kernel, by decide +kernel, (lwm_tables_1_1 (List.mem_of_getElem? (i := 9) rfl) rfl)⟩
abbrev M_X6_init_ : pm_M := (yX6_init_, cX6_init_, 2, none)
theorem in_X6_init_ : pm_in M_X6_init_ := ⟨(lwm_tables_1_3 (List.mem_of_getElem? (i := 233) rfl) rfl), by decide +kernel, by decide, by decide +kernel, by decide +kernel, (lwm_tables_1_1 (List.mem_of_getElem? (i := 9) rfl) rfl)⟩
abbrev M_X6_clear : pm_M := (yX6_clear, cX6_clear, 1, none)
theorem in_X6_clear : pm_in M_X6_clear := ⟨(lwm_tables_1_2 (List.mem_of_getElem? (i := 138) rfl) rfl), by decide +kernel, by decide, by decide +kernel, by decide +kernel, (lwm_tables_1_1 (List.mem_of_getElem? (i := 9) rfl) rfl)⟩
abbrev M_X6_has : pm_M := (yX6_has, cX6_has, 2, (some .boolean))
theorem in_X6_has : pm_in M_X6_has := ⟨(lwm_tables_1_2 (List.mem_of_getElem? (i := 213) rfl) rfl), by decide +kernel, by decide, by decide +kernel, by decide +kernel, (lwm_tables_1_1 (List.mem_of_getElem? (i := 9) rfl) rfl)⟩
abbrev M_X6_timeOf : pm_M := (yX6_timeOf, cX6_timeOf, 2, (some .int))
theorem in_X6_timeOf : pm_in M_X6_timeOf := ⟨(lwm_tables_1_3 (List.mem_of_getElem? (i := 200) rfl) rfl), by decide +kernel, by decide, by decide +kernel, by decide +kernel, (lwm_tables_1_1 (List.mem_of_getElem? (i := 9) rfl) rfl)⟩
abbrev M_X6_placeOf : pm_M := (yX6_placeOf, cX6_placeOf, 2, (some .int))
theorem in_X6_placeOf : pm_in M_X6_placeOf := ⟨(lwm_tables_1_5 (List.mem_of_getElem? (i := 7) rfl) rfl), by decide +kernel, by decide, by decide +kernel, by decide +kernel, (lwm_tables_1_1 (List.mem_of_getElem? (i := 9) rfl) rfl)⟩
abbrev M_X6_sortOf : pm_M := (yX6_sortOf, cX6_sortOf, 2, (some .int))
theorem in_X6_sortOf : pm_in M_X6_sortOf := ⟨(lwm_tables_1_2 (List.mem_of_getElem? (i := 201) rfl) rfl), by decide +kernel, by decide, by decide +kernel, by decide +kernel, (lwm_tables_1_1 (List.mem_of_getElem? (i := 9) rfl) rfl)⟩
abbrev M_X6_numberOf : pm_M := (yX6_numberOf, cX6_numberOf, 2, (some .int))
theorem in_X6_numberOf : pm_in M_X6_numberOf := ⟨(lwm_tables_1_2 (List.mem_of_getElem? (i := 205) rfl) rfl), by decide +kernel, by decide, by decide +kernel, by decide +kernel, (lwm_tables_1_1 (List.mem_of_getElem? (i := 9) rfl) rfl)⟩
abbrev M_X6_changesOf : pm_M := (yX6_changesOf, cX6_changesOf, 2, (some .int))
theorem in_X6_changesOf : pm_in M_X6_changesOf := ⟨(lwm_tables_1_2 (List.mem_of_getElem? (i := 209) rfl) rfl), by decide +kernel, by decide, by decide +kernel, by decide +kernel, (lwm_tables_1_1 (List.mem_of_getElem? (i := 9) rfl) rfl)⟩
abbrev M_X6_aheadOf : pm_M := (yX6_aheadOf, cX6_aheadOf, 2, (some .int))
theorem in_X6_aheadOf : pm_in M_X6_aheadOf := ⟨(lwm_tables_1_4 (List.mem_of_getElem? (i := 34) rfl) rfl), by decide +kernel, by decide, by decide +kernel, by decide +kernel, (lwm_tables_1_1 (List.mem_of_getElem? (i := 9) rfl) rfl)⟩
abbrev M_X6_latestOf : pm_M := (yX6_latestOf, cX6_latestOf, 2, (some .int))
theorem in_X6_latestOf : pm_in M_X6_latestOf := ⟨(lwm_tables_1_3 (List.mem_of_getElem? (i := 33) rfl) rfl), by decide +kernel, by decide, by decide +kernel, by decide +kernel, (lwm_tables_1_1 (List.mem_of_getElem? (i := 9) rfl) rfl)⟩
abbrev M_X6_hasValue : pm_M := (yX6_hasValue, cX6_hasValue, 4, (some .boolean))
theorem in_X6_hasValue : pm_in M_X6_hasValue := ⟨(lwm_tables_1_2 (List.mem_of_getElem? (i := 197) rfl) rfl), by decide +kernel, by decide, by decide +kernel, by decide +kernel, (lwm_tables_1_1 (List.mem_of_getElem? (i := 9) rfl) rfl)⟩
abbrev M_X6_add : pm_M := (yX6_add, cX6_add, 7, (some .boolean))
theorem in_X6_add : pm_in M_X6_add := ⟨(lwm_tables_1_2 (List.mem_of_getElem? (i := 192) rfl) rfl), by decide +kernel, by decide, by decide +kernel, by decide +kernel, (lwm_tables_1_1 (List.mem_of_getElem? (i := 9) rfl) rfl)⟩
abbrev M_X6_restLatestOn : pm_M := (yX6_restLatestOn, cX6_restLatestOn, 6, none)
theorem in_X6_restLatestOn : pm_in M_X6_restLatestOn := ⟨(lwm_tables_1_2 (List.mem_of_getElem? (i := 217) rfl) rfl), by decide +kernel, by decide, by decide +kernel, by decide +kernel, (lwm_tables_1_1 (List.mem_of_getElem? (i := 9) rfl) rfl)⟩
abbrev M_X6_dropBehind : pm_M := (yX6_dropBehind, cX6_dropBehind, 3, none)
theorem in_X6_dropBehind : pm_in M_X6_dropBehind := ⟨(lwm_tables_1_3 (List.mem_of_getElem? (i := 196) rfl) rfl), by decide +kernel, by decide, by decide +kernel, by decide +kernel, (lwm_tables_1_1 (List.mem_of_getElem? (i := 9) rfl) rfl)⟩
abbrev M_X6_putBy : pm_M := (yX6_putBy, cX6_putBy, 5, (some .int))
theorem in_X6_putBy : pm_in M_X6_putBy := ⟨(lwm_tables_1_4 (List.mem_of_getElem? (i := 29) rfl) rfl), by decide +kernel, by decide, by decide +kernel, by decide +kernel, (lwm_tables_1_1 (List.mem_of_getElem? (i := 9) rfl) rfl)⟩
abbrev M_X6_changedSince : pm_M := (yX6_changedSince, cX6_changedSince, 4, (some .int))
theorem in_X6_changedSince : pm_in M_X6_changedSince := ⟨(lwm_tables_1_4 (List.mem_of_getElem? (i := 68) rfl) rfl), by decide +kernel, by decide, by decide +kernel, by decide +kernel, (lwm_tables_1_1 (List.mem_of_getElem? (i := 9) rfl) rfl)⟩
abbrev M_X6_hadBy : pm_M := (yX6_hadBy, cX6_hadBy, 8, (some .int))
theorem in_X6_hadBy : pm_in M_X6_hadBy := ⟨(lwm_tables_1_4 (List.mem_of_getElem? (i := 76) rfl) rfl), by decide +kernel, by decide, by decide +kernel, by decide +kernel, (lwm_tables_1_1 (List.mem_of_getElem? (i := 9) rfl) rfl)⟩
abbrev M_X6_changeTimes : pm_M := (yX6_changeTimes, cX6_changeTimes, 6, (some .int))
theorem in_X6_changeTimes : pm_in M_X6_changeTimes := ⟨(lwm_tables_1_4 (List.mem_of_getElem? (i := 139) rfl) rfl), by decide +kernel, by decide, by decide +kernel, by decide +kernel, (lwm_tables_1_1 (List.mem_of_getElem? (i := 9) rfl) rfl)⟩
abbrev M_X6_markAllBelow : pm_M := (yX6_markAllBelow, cX6_markAllBelow, 4, none)
theorem in_X6_markAllBelow : pm_in M_X6_markAllBelow := ⟨(lwm_tables_1_4 (List.mem_of_getElem? (i := 106) rfl) rfl), by decide +kernel, by decide, by decide +kernel, by decide +kernel, (lwm_tables_1_1 (List.mem_of_getElem? (i := 9) rfl) rfl)⟩
abbrev M_X6_mark : pm_M := (yX6_mark, cX6_mark, 3, none)
theorem in_X6_mark : pm_in M_X6_mark := ⟨(lwm_tables_1_4 (List.mem_of_getElem? (i := 113) rfl) rfl), by decide +kernel, by decide, by decide +kernel, by decide +kernel, (lwm_tables_1_1 (List.mem_of_getElem? (i := 9) rfl) rfl)⟩
abbrev M_X6_markedStep : pm_M := (yX6_markedStep, cX6_markedStep, 5, (some .int))
theorem in_X6_markedStep : pm_in M_X6_markedStep := ⟨(lwm_tables_1_4 (List.mem_of_getElem? (i := 121) rfl) rfl), by decide +kernel, by decide, by decide +kernel, by decide +kernel, (lwm_tables_1_1 (List.mem_of_getElem? (i := 9) rfl) rfl)⟩
abbrev M_X6_markAllAbove : pm_M := (yX6_markAllAbove, cX6_markAllAbove, 4, none)
theorem in_X6_markAllAbove : pm_in M_X6_markAllAbove := ⟨(lwm_tables_1_4 (List.mem_of_getElem? (i := 130) rfl) rfl), by decide +kernel, by decide, by decide +kernel, by decide +kernel, (lwm_tables_1_1 (List.mem_of_getElem? (i := 9) rfl) rfl)⟩
abbrev M_X7_init : pm_M := (yX7_init, cX7_init, 1, none)
theorem in_X7_init : pm_in M_X7_init := ⟨(lwm_tables_1_1 (List.mem_of_getElem? (i := 179) rfl) rfl), by decide +kernel, by decide, by decide +kernel, by decide +kernel, (lwm_tables_1_1 (List.mem_of_getElem? (i := 7) rfl) rfl)⟩
abbrev M_X7_init_ : pm_M := (yX7_init_, cX7_init_, 3, none)
theorem in_X7_init_ : pm_in M_X7_init_ := ⟨(lwm_tables_1_3 (List.mem_of_getElem? (i := 220) rfl) rfl), by decide +kernel, by decide, by decide +kernel, by decide +kernel, (lwm_tables_1_1 (List.mem_of_getElem? (i := 7) rfl) rfl)⟩
abbrev M_X7_start : pm_M := (yX7_start, cX7_start, 4, none)
theorem in_X7_start : pm_in M_X7_start := ⟨(lwm_tables_1_2 (List.mem_of_getElem? (i := 129) rfl) rfl), by decide +kernel, by decide, by decide +kernel, by decide +kernel, (lwm_tables_1_1 (List.mem_of_getElem? (i := 7) rfl) rfl)⟩
abbrev M_X7_hasTime : pm_M := (yX7_hasTime, cX7_hasTime, 2, (some .boolean))
theorem in_X7_hasTime : pm_in M_X7_hasTime := ⟨(lwm_tables_1_2 (List.mem_of_getElem? (i := 237) rfl) rfl), by decide +kernel, by decide, by decide +kernel, by decide +kernel, (lwm_tables_1_1 (List.mem_of_getElem? (i := 7) rfl) rfl)⟩
abbrev M_X7_counterAt : pm_M := (yX7_counterAt, cX7_counterAt, 2, (some .int))
theorem in_X7_counterAt : pm_in M_X7_counterAt := ⟨(lwm_tables_1_2 (List.mem_of_getElem? (i := 233) rfl) rfl), by decide +kernel, by decide, by decide +kernel, by decide +kernel, (lwm_tables_1_1 (List.mem_of_getElem? (i := 7) rfl) rfl)⟩
abbrev M_X7_outsAt : pm_M := (yX7_outsAt, cX7_outsAt, 2, (some .int))
theorem in_X7_outsAt : pm_in M_X7_outsAt := ⟨(lwm_tables_1_4 (List.mem_of_getElem? (i := 50) rfl) rfl), by decide +kernel, by decide, by decide +kernel, by decide +kernel, (lwm_tables_1_1 (List.mem_of_getElem? (i := 7) rfl) rfl)⟩
abbrev M_X7_checkAt : pm_M := (yX7_checkAt, cX7_checkAt, 2, (some .int))
theorem in_X7_checkAt : pm_in M_X7_checkAt := ⟨(lwm_tables_1_4 (List.mem_of_getElem? (i := 54) rfl) rfl), by decide +kernel, by decide, by decide +kernel, by decide +kernel, (lwm_tables_1_1 (List.mem_of_getElem? (i := 7) rfl) rfl)⟩
abbrev M_X7_topAt : pm_M := (yX7_topAt, cX7_topAt, 2, (some .int))
theorem in_X7_topAt : pm_in M_X7_topAt := ⟨(lwm_tables_1_3 (List.mem_of_getElem? (i := 95) rfl) rfl), by decide +kernel, by decide, by decide +kernel, by decide +kernel, (lwm_tables_1_1 (List.mem_of_getElem? (i := 7) rfl) rfl)⟩
abbrev M_X7_stackSizeAt : pm_M := (yX7_stackSizeAt, cX7_stackSizeAt, 4, (some .int))
theorem in_X7_stackSizeAt : pm_in M_X7_stackSizeAt := ⟨(lwm_tables_1_3 (List.mem_of_getElem? (i := 91) rfl) rfl), by decide +kernel, by decide, by decide +kernel, by decide +kernel, (lwm_tables_1_1 (List.mem_of_getElem? (i := 7) rfl) rfl)⟩
abbrev M_X7_stackedAt : pm_M := (yX7_stackedAt, cX7_stackedAt, 6, (some .int))
theorem in_X7_stackedAt : pm_in M_X7_stackedAt := ⟨(lwm_tables_1_3 (List.mem_of_getElem? (i := 110) rfl) rfl), by decide +kernel, by decide, by decide +kernel, by decide +kernel, (lwm_tables_1_1 (List.mem_of_getElem? (i := 7) rfl) rfl)⟩
abbrev M_X7_hasStackLike : pm_M := (yX7_hasStackLike, cX7_hasStackLike, 5, (some .boolean))
theorem in_X7_hasStackLike : pm_in M_X7_hasStackLike := ⟨(lwm_tables_1_5 (List.mem_of_getElem? (i := 12) rfl) rfl), by decide +kernel, by decide, by decide +kernel, by decide +kernel, (lwm_tables_1_1 (List.mem_of_getElem? (i := 7) rfl) rfl)⟩
abbrev M_X7_statusWith : pm_M := (yX7_statusWith, cX7_statusWith, 3, (some .int))
theorem in_X7_statusWith : pm_in M_X7_statusWith := ⟨(lwm_tables_1_2 (List.mem_of_getElem? (i := 229) rfl) rfl), by decide +kernel, by decide, by decide +kernel, by decide +kernel, (lwm_tables_1_1 (List.mem_of_getElem? (i := 7) rfl) rfl)⟩
abbrev M_X7_canStep : pm_M := (yX7_canStep, cX7_canStep, 2, (some .boolean))
theorem in_X7_canStep : pm_in M_X7_canStep := ⟨(lwm_tables_1_2 (List.mem_of_getElem? (i := 225) rfl) rfl), by decide +kernel, by decide, by decide +kernel, by decide +kernel, (lwm_tables_1_1 (List.mem_of_getElem? (i := 7) rfl) rfl)⟩
abbrev M_X7_step : pm_M := (yX7_step, cX7_step, 4, none)
theorem in_X7_step : pm_in M_X7_step := ⟨(lwm_tables_1_3 (List.mem_of_getElem? (i := 6) rfl) rfl), by decide +kernel, by decide, by decide +kernel, by decide +kernel, (lwm_tables_1_1 (List.mem_of_getElem? (i := 7) rfl) rfl)⟩
abbrev M_X7_putByPoke : pm_M := (yX7_putByPoke, cX7_putByPoke, 5, (some .boolean))
theorem in_X7_putByPoke : pm_in M_X7_putByPoke := ⟨(lwm_tables_1_2 (List.mem_of_getElem? (i := 180) rfl) rfl), by decide +kernel, by decide, by decide +kernel, by decide +kernel, (lwm_tables_1_1 (List.mem_of_getElem? (i := 7) rfl) rfl)⟩
abbrev M_X7_putByStep : pm_M := (yX7_putByStep, cX7_putByStep, 7, none)
theorem in_X7_putByStep : pm_in M_X7_putByStep := ⟨(lwm_tables_1_3 (List.mem_of_getElem? (i := 29) rfl) rfl), by decide +kernel, by decide, by decide +kernel, by decide +kernel, (lwm_tables_1_1 (List.mem_of_getElem? (i := 7) rfl) rfl)⟩
abbrev M_X7_putFromOutside : pm_M := (yX7_putFromOutside, cX7_putFromOutside, 4, none)
theorem in_X7_putFromOutside : pm_in M_X7_putFromOutside := ⟨(lwm_tables_1_3 (List.mem_of_getElem? (i := 59) rfl) rfl), by decide +kernel, by decide, by decide +kernel, by decide +kernel, (lwm_tables_1_1 (List.mem_of_getElem? (i := 7) rfl) rfl)⟩
abbrev M_X7_goOnAt : pm_M := (yX7_goOnAt, cX7_goOnAt, 2, none)
theorem in_X7_goOnAt : pm_in M_X7_goOnAt := ⟨(lwm_tables_1_3 (List.mem_of_getElem? (i := 81) rfl) rfl), by decide +kernel, by decide, by decide +kernel, by decide +kernel, (lwm_tables_1_1 (List.mem_of_getElem? (i := 7) rfl) rfl)⟩
abbrev M_X7_addOut : pm_M := (yX7_addOut, cX7_addOut, 3, none)
theorem in_X7_addOut : pm_in M_X7_addOut := ⟨(lwm_tables_1_3 (List.mem_of_getElem? (i := 77) rfl) rfl), by decide +kernel, by decide, by decide +kernel, by decide +kernel, (lwm_tables_1_1 (List.mem_of_getElem? (i := 7) rfl) rfl)⟩
abbrev M_X7_stackUp : pm_M := (yX7_stackUp, cX7_stackUp, 1, none)
theorem in_X7_stackUp : pm_in M_X7_stackUp := ⟨(lwm_tables_1_3 (List.mem_of_getElem? (i := 103) rfl) rfl), by decide +kernel, by decide, by decide +kernel, by decide +kernel, (lwm_tables_1_1 (List.mem_of_getElem? (i := 7) rfl) rfl)⟩
abbrev M_X7_stackDown : pm_M := (yX7_stackDown, cX7_stackDown, 1, none)
theorem in_X7_stackDown : pm_in M_X7_stackDown := ⟨(lwm_tables_1_3 (List.mem_of_getElem? (i := 116) rfl) rfl), by decide +kernel, by decide, by decide +kernel, by decide +kernel, (lwm_tables_1_1 (List.mem_of_getElem? (i := 7) rfl) rfl)⟩
abbrev M_X7_goBack : pm_M := (yX7_goBack, cX7_goBack, 3, none)
theorem in_X7_goBack : pm_in M_X7_goBack := ⟨(lwm_tables_1_3 (List.mem_of_getElem? (i := 176) rfl) rfl), by decide +kernel, by decide, by decide +kernel, by decide +kernel, (lwm_tables_1_1 (List.mem_of_getElem? (i := 7) rfl) rfl)⟩
abbrev M_X8_perform : pm_M := (yX8_perform, cX8_perform, 7, (some .int))
theorem in_X8_perform : pm_in M_X8_perform := ⟨(lwm_tables_1_3 (List.mem_of_getElem? (i := 12) rfl) rfl), by decide +kernel, by decide, by decide +kernel, by decide +kernel, (lwm_tables_1_1 (List.mem_of_getElem? (i := 13) rfl) rfl)⟩
abbrev M_X8_putOut : pm_M := (yX8_putOut, cX8_putOut, 2, none)
theorem in_X8_putOut : pm_in M_X8_putOut := ⟨(lwm_tables_1_3 (List.mem_of_getElem? (i := 73) rfl) rfl), by decide +kernel, by decide, by decide +kernel, by decide +kernel, (lwm_tables_1_1 (List.mem_of_getElem? (i := 13) rfl) rfl)⟩
abbrev M_X8_copy : pm_M := (yX8_copy, cX8_copy, 3, none)
theorem in_X8_copy : pm_in M_X8_copy := ⟨(lwm_tables_1_3 (List.mem_of_getElem? (i := 36) rfl) rfl), by decide +kernel, by decide, by decide +kernel, by decide +kernel, (lwm_tables_1_1 (List.mem_of_getElem? (i := 13) rfl) rfl)⟩
abbrev M_X8_compare : pm_M := (yX8_compare, cX8_compare, 5, none)
theorem in_X8_compare : pm_in M_X8_compare := ⟨(lwm_tables_1_3 (List.mem_of_getElem? (i := 41) rfl) rfl), by decide +kernel, by decide, by decide +kernel, by decide +kernel, (lwm_tables_1_1 (List.mem_of_getElem? (i := 13) rfl) rfl)⟩
abbrev M_X8_combine : pm_M := (yX8_combine, cX8_combine, 7, (some .int))
theorem in_X8_combine : pm_in M_X8_combine := ⟨(lwm_tables_1_3 (List.mem_of_getElem? (i := 45) rfl) rfl), by decide +kernel, by decide, by decide +kernel, by decide +kernel, (lwm_tables_1_1 (List.mem_of_getElem? (i := 13) rfl) rfl)⟩
abbrev M_X8_fromCell : pm_M := (yX8_fromCell, cX8_fromCell, 5, (some .int))
theorem in_X8_fromCell : pm_in M_X8_fromCell := ⟨(lwm_tables_1_3 (List.mem_of_getElem? (i := 48) rfl) rfl), by decide +kernel, by decide, by decide +kernel, by decide +kernel, (lwm_tables_1_1 (List.mem_of_getElem? (i := 13) rfl) rfl)⟩
abbrev M_X8_toCell : pm_M := (yX8_toCell, cX8_toCell, 4, (some .int))
theorem in_X8_toCell : pm_in M_X8_toCell := ⟨(lwm_tables_1_3 (List.mem_of_getElem? (i := 51) rfl) rfl), by decide +kernel, by decide, by decide +kernel, by decide +kernel, (lwm_tables_1_1 (List.mem_of_getElem? (i := 13) rfl) rfl)⟩
abbrev M_X8_goOnIf : pm_M := (yX8_goOnIf, cX8_goOnIf, 3, (some .int))
theorem in_X8_goOnIf : pm_in M_X8_goOnIf := ⟨(lwm_tables_1_3 (List.mem_of_getElem? (i := 84) rfl) rfl), by decide +kernel, by decide, by decide +kernel, by decide +kernel, (lwm_tables_1_1 (List.mem_of_getElem? (i := 13) rfl) rfl)⟩
abbrev M_X8_goDown : pm_M := (yX8_goDown, cX8_goDown, 3, (some .int))
theorem in_X8_goDown : pm_in M_X8_goDown := ⟨(lwm_tables_1_3 (List.mem_of_getElem? (i := 87) rfl) rfl), by decide +kernel, by decide, by decide +kernel, by decide +kernel, (lwm_tables_1_1 (List.mem_of_getElem? (i := 13) rfl) rfl)⟩
abbrev M_X8_goUp : pm_M := (yX8_goUp, cX8_goUp, 2, none)
theorem in_X8_goUp : pm_in M_X8_goUp := ⟨(lwm_tables_1_3 (List.mem_of_getElem? (i := 106) rfl) rfl), by decide +kernel, by decide, by decide +kernel, by decide +kernel, (lwm_tables_1_1 (List.mem_of_getElem? (i := 13) rfl) rfl)⟩
abbrev M_X8_reckon : pm_M := (yX8_reckon, cX8_reckon, 7, (some .int))
theorem in_X8_reckon : pm_in M_X8_reckon := ⟨(lwm_tables_1_3 (List.mem_of_getElem? (i := 119) rfl) rfl), by decide +kernel, by decide, by decide +kernel, by decide +kernel, (lwm_tables_1_1 (List.mem_of_getElem? (i := 13) rfl) rfl)⟩
abbrev M_X8_reckoned : pm_M := (yX8_reckoned, cX8_reckoned, 3, (some .int))
theorem in_X8_reckoned : pm_in M_X8_reckoned := ⟨(lwm_tables_1_3 (List.mem_of_getElem? (i := 122) rfl) rfl), by decide +kernel, by decide, by decide +kernel, by decide +kernel, (lwm_tables_1_1 (List.mem_of_getElem? (i := 13) rfl) rfl)⟩
abbrev M_X9_init : pm_M := (yX9_init, cX9_init, 1, none)
theorem in_X9_init : pm_in M_X9_init := ⟨(lwm_tables_1_1 (List.mem_of_getElem? (i := 18) rfl) rfl), by decide +kernel, by decide, by decide +kernel, by decide +kernel, (lwm_tables_1_1 (List.mem_of_getElem? (i := 1) rfl) rfl)⟩
abbrev M_X9_code : pm_M := (yX9_code, cX9_code, 6, (some .boolean))
theorem in_X9_code : pm_in M_X9_code := ⟨(lwm_tables_1_1 (List.mem_of_getElem? (i := 141) rfl) rfl), by decide +kernel, by decide, by decide +kernel, by decide +kernel, (lwm_tables_1_1 (List.mem_of_getElem? (i := 1) rfl) rfl)⟩
abbrev M_X9_spacing : pm_M := (yX9_spacing, cX9_spacing, 3, (some .boolean))
theorem in_X9_spacing : pm_in M_X9_spacing := ⟨(lwm_tables_1_1 (List.mem_of_getElem? (i := 165) rfl) rfl), by decide +kernel, by decide, by decide +kernel, by decide +kernel, (lwm_tables_1_1 (List.mem_of_getElem? (i := 1) rfl) rfl)⟩
abbrev M_X9_begin : pm_M := (yX9_begin, cX9_begin, 1, (some .int))
theorem in_X9_begin : pm_in M_X9_begin := ⟨(lwm_tables_1_1 (List.mem_of_getElem? (i := 175) rfl) rfl), by decide +kernel, by decide, by decide +kernel, by decide +kernel, (lwm_tables_1_1 (List.mem_of_getElem? (i := 1) rfl) rfl)⟩
abbrev M_X9_give : pm_M := (yX9_give, cX9_give, 2, (some .int))
theorem in_X9_give : pm_in M_X9_give := ⟨(lwm_tables_1_2 (List.mem_of_getElem? (i := 154) rfl) rfl), by decide +kernel, by decide, by decide +kernel, by decide +kernel, (lwm_tables_1_1 (List.mem_of_getElem? (i := 1) rfl) rfl)⟩
abbrev M_X9_seed : pm_M := (yX9_seed, cX9_seed, 3, (some .int))
theorem in_X9_seed : pm_in M_X9_seed := ⟨(lwm_tables_1_2 (List.mem_of_getElem? (i := 162) rfl) rfl), by decide +kernel, by decide, by decide +kernel, by decide +kernel, (lwm_tables_1_1 (List.mem_of_getElem? (i := 1) rfl) rfl)⟩
abbrev M_X9_poke : pm_M := (yX9_poke, cX9_poke, 4, (some .int))
theorem in_X9_poke : pm_in M_X9_poke := ⟨(lwm_tables_1_2 (List.mem_of_getElem? (i := 166) rfl) rfl), by decide +kernel, by decide, by decide +kernel, by decide +kernel, (lwm_tables_1_1 (List.mem_of_getElem? (i := 1) rfl) rfl)⟩
abbrev M_X9_run : pm_M := (yX9_run, cX9_run, 4, (some .int))
theorem in_X9_run : pm_in M_X9_run := ⟨(lwm_tables_1_2 (List.mem_of_getElem? (i := 221) rfl) rfl), by decide +kernel, by decide, by decide +kernel, by decide +kernel, (lwm_tables_1_1 (List.mem_of_getElem? (i := 1) rfl) rfl)⟩
abbrev M_X9_watch : pm_M := (yX9_watch, cX9_watch, 3, (some .boolean))
theorem in_X9_watch : pm_in M_X9_watch := ⟨(lwm_tables_1_3 (List.mem_of_getElem? (i := 152) rfl) rfl), by decide +kernel, by decide, by decide +kernel, by decide +kernel, (lwm_tables_1_1 (List.mem_of_getElem? (i := 1) rfl) rfl)⟩
abbrev M_X9_back : pm_M := (yX9_back, cX9_back, 2, (some .int))
theorem in_X9_back : pm_in M_X9_back := ⟨(lwm_tables_1_3 (List.mem_of_getElem? (i := 156) rfl) rfl), by decide +kernel, by decide, by decide +kernel, by decide +kernel, (lwm_tables_1_1 (List.mem_of_getElem? (i := 1) rfl) rfl)⟩
abbrev M_X9_keep : pm_M := (yX9_keep, cX9_keep, 1, (some .int))
theorem in_X9_keep : pm_in M_X9_keep := ⟨(lwm_tables_1_3 (List.mem_of_getElem? (i := 216) rfl) rfl), by decide +kernel, by decide, by decide +kernel, by decide +kernel, (lwm_tables_1_1 (List.mem_of_getElem? (i := 1) rfl) rfl)⟩
abbrev M_X9_use : pm_M := (yX9_use, cX9_use, 2, (some .boolean))
theorem in_X9_use : pm_in M_X9_use := ⟨(lwm_tables_1_4 (List.mem_of_getElem? (i := 11) rfl) rfl), by decide +kernel, by decide, by decide +kernel, by decide +kernel, (lwm_tables_1_1 (List.mem_of_getElem? (i := 1) rfl) rfl)⟩
abbrev M_X9_at : pm_M := (yX9_at, cX9_at, 6, (some .int))
theorem in_X9_at : pm_in M_X9_at := ⟨(lwm_tables_1_4 (List.mem_of_getElem? (i := 19) rfl) rfl), by decide +kernel, by decide, by decide +kernel, by decide +kernel, (lwm_tables_1_1 (List.mem_of_getElem? (i := 1) rfl) rfl)⟩
abbrev M_X9_state : pm_M := (yX9_state, cX9_state, 4, (some .int))
theorem in_X9_state : pm_in M_X9_state := ⟨(lwm_tables_1_4 (List.mem_of_getElem? (i := 41) rfl) rfl), by decide +kernel, by decide, by decide +kernel, by decide +kernel, (lwm_tables_1_1 (List.mem_of_getElem? (i := 1) rfl) rfl)⟩
abbrev M_X9_last : pm_M := (yX9_last, cX9_last, 4, (some .int))
theorem in_X9_last : pm_in M_X9_last := ⟨(lwm_tables_1_4 (List.mem_of_getElem? (i := 60) rfl) rfl), by decide +kernel, by decide, by decide +kernel, by decide +kernel, (lwm_tables_1_1 (List.mem_of_getElem? (i := 1) rfl) rfl)⟩
abbrev M_X9_when : pm_M := (yX9_when, cX9_when, 7, (some .int))
theorem in_X9_when : pm_in M_X9_when := ⟨(lwm_tables_1_4 (List.mem_of_getElem? (i := 72) rfl) rfl), by decide +kernel, by decide, by decide +kernel, by decide +kernel, (lwm_tables_1_1 (List.mem_of_getElem? (i := 1) rfl) rfl)⟩
abbrev M_X9_changed : pm_M := (yX9_changed, cX9_changed, 9, (some .int))
theorem in_X9_changed : pm_in M_X9_changed := ⟨(lwm_tables_1_4 (List.mem_of_getElem? (i := 84) rfl) rfl), by decide +kernel, by decide, by decide +kernel, by decide +kernel, (lwm_tables_1_1 (List.mem_of_getElem? (i := 1) rfl) rfl)⟩
abbrev M_X9_watched : pm_M := (yX9_watched, cX9_watched, 5, (some .int))
theorem in_X9_watched : pm_in M_X9_watched := ⟨(lwm_tables_1_4 (List.mem_of_getElem? (i := 97) rfl) rfl), by decide +kernel, by decide, by decide +kernel, by decide +kernel, (lwm_tables_1_1 (List.mem_of_getElem? (i := 1) rfl) rfl)⟩
abbrev M_X9_rests : pm_M := (yX9_rests, cX9_rests, 5, (some .int))
theorem in_X9_rests : pm_in M_X9_rests := ⟨(lwm_tables_1_4 (List.mem_of_getElem? (i := 102) rfl) rfl), by decide +kernel, by decide, by decide +kernel, by decide +kernel, (lwm_tables_1_1 (List.mem_of_getElem? (i := 1) rfl) rfl)⟩
abbrev M_X9_hangs : pm_M := (yX9_hangs, cX9_hangs, 7, (some .int))
theorem in_X9_hangs : pm_in M_X9_hangs := ⟨(lwm_tables_1_4 (List.mem_of_getElem? (i := 125) rfl) rfl), by decide +kernel, by decide, by decide +kernel, by decide +kernel, (lwm_tables_1_1 (List.mem_of_getElem? (i := 1) rfl) rfl)⟩
abbrev M_X9_history : pm_M := (yX9_history, cX9_history, 7, (some .int))
theorem in_X9_history : pm_in M_X9_history := ⟨(lwm_tables_1_4 (List.mem_of_getElem? (i := 135) rfl) rfl), by decide +kernel, by decide, by decide +kernel, by decide +kernel, (lwm_tables_1_1 (List.mem_of_getElem? (i := 1) rfl) rfl)⟩
abbrev M_X9_done : pm_M := (yX9_done, cX9_done, 6, (some .int))
theorem in_X9_done : pm_in M_X9_done := ⟨(lwm_tables_1_4 (List.mem_of_getElem? (i := 143) rfl) rfl), by decide +kernel, by decide, by decide +kernel, by decide +kernel, (lwm_tables_1_1 (List.mem_of_getElem? (i := 1) rfl) rfl)⟩
abbrev M_X9_call : pm_M := (yX9_call, cX9_call, 4, (some .int))
theorem in_X9_call : pm_in M_X9_call := ⟨(lwm_tables_1_4 (List.mem_of_getElem? (i := 147) rfl) rfl), by decide +kernel, by decide, by decide +kernel, by decide +kernel, (lwm_tables_1_1 (List.mem_of_getElem? (i := 1) rfl) rfl)⟩
abbrev M_X9_log : pm_M := (yX9_log, cX9_log, 4, (some .int))
theorem in_X9_log : pm_in M_X9_log := ⟨(lwm_tables_1_4 (List.mem_of_getElem? (i := 155) rfl) rfl), by decide +kernel, by decide, by decide +kernel, by decide +kernel, (lwm_tables_1_1 (List.mem_of_getElem? (i := 1) rfl) rfl)⟩
abbrev M_X9_held : pm_M := (yX9_held, cX9_held, 4, (some .int))
theorem in_X9_held : pm_in M_X9_held := ⟨(lwm_tables_1_4 (List.mem_of_getElem? (i := 164) rfl) rfl), by decide +kernel, by decide, by decide +kernel, by decide +kernel, (lwm_tables_1_1 (List.mem_of_getElem? (i := 1) rfl) rfl)⟩
abbrev M_X9_would : pm_M := (yX9_would, cX9_would, 4, (some .int))
theorem in_X9_would : pm_in M_X9_would := ⟨(lwm_tables_1_4 (List.mem_of_getElem? (i := 170) rfl) rfl), by decide +kernel, by decide, by decide +kernel, by decide +kernel, (lwm_tables_1_1 (List.mem_of_getElem? (i := 1) rfl) rfl)⟩
abbrev M_X9_gap : pm_M := (yX9_gap, cX9_gap, 8, (some .int))
theorem in_X9_gap : pm_in M_X9_gap := ⟨(lwm_tables_1_4 (List.mem_of_getElem? (i := 183) rfl) rfl), by decide +kernel, by decide, by decide +kernel, by decide +kernel, (lwm_tables_1_1 (List.mem_of_getElem? (i := 1) rfl) rfl)⟩
abbrev M_X9_sparing : pm_M := (yX9_sparing, cX9_sparing, 5, (some .int))
theorem in_X9_sparing : pm_in M_X9_sparing := ⟨(lwm_tables_1_4 (List.mem_of_getElem? (i := 187) rfl) rfl), by decide +kernel, by decide, by decide +kernel, by decide +kernel, (lwm_tables_1_1 (List.mem_of_getElem? (i := 1) rfl) rfl)⟩
abbrev M_X9_align : pm_M := (yX9_align, cX9_align, 5, (some .int))
theorem in_X9_align : pm_in M_X9_align := ⟨(lwm_tables_1_4 (List.mem_of_getElem? (i := 191) rfl) rfl), by decide +kernel, by decide, by decide +kernel, by decide +kernel, (lwm_tables_1_1 (List.mem_of_getElem? (i := 1) rfl) rfl)⟩
abbrev M_X9_pair : pm_M := (yX9_pair, cX9_pair, 9, (some .int))
theorem in_X9_pair : pm_in M_X9_pair := ⟨(lwm_tables_1_4 (List.mem_of_getElem? (i := 214) rfl) rfl), by decide +kernel, by decide, by decide +kernel, by decide +kernel, (lwm_tables_1_1 (List.mem_of_getElem? (i := 1) rfl) rfl)⟩
abbrev M_X9_parts : pm_M := (yX9_parts, cX9_parts, 5, (some .int))
theorem in_X9_parts : pm_in M_X9_parts := ⟨(lwm_tables_1_4 (List.mem_of_getElem? (i := 235) rfl) rfl), by decide +kernel, by decide, by decide +kernel, by decide +kernel, (lwm_tables_1_1 (List.mem_of_getElem? (i := 1) rfl) rfl)⟩
abbrev M_X9_look : pm_M := (yX9_look, cX9_look, 2, (some .int))
theorem in_X9_look : pm_in M_X9_look := ⟨(lwm_tables_1_5 (List.mem_of_getElem? (i := 25) rfl) rfl), by decide +kernel, by decide, by decide +kernel, by decide +kernel, (lwm_tables_1_1 (List.mem_of_getElem? (i := 1) rfl) rfl)⟩
abbrev M_X9_lookAtRun : pm_M := (yX9_lookAtRun, cX9_lookAtRun, 3, (some .int))
theorem in_X9_lookAtRun : pm_in M_X9_lookAtRun := ⟨(lwm_tables_1_5 (List.mem_of_getElem? (i := 29) rfl) rfl), by decide +kernel, by decide, by decide +kernel, by decide +kernel, (lwm_tables_1_1 (List.mem_of_getElem? (i := 1) rfl) rfl)⟩
abbrev M_X9_isKept : pm_M := (yX9_isKept, cX9_isKept, 2, (some .boolean))
theorem in_X9_isKept : pm_in M_X9_isKept := ⟨(lwm_tables_1_4 (List.mem_of_getElem? (i := 15) rfl) rfl), by decide +kernel, by decide, by decide +kernel, by decide +kernel, (lwm_tables_1_1 (List.mem_of_getElem? (i := 1) rfl) rfl)⟩
abbrev M_X9_numbered : pm_M := (yX9_numbered, cX9_numbered, 2, (some (.object "RunsBack$Run")))
theorem in_X9_numbered : pm_in M_X9_numbered := ⟨(lwm_tables_1_4 (List.mem_of_getElem? (i := 23) rfl) rfl), by decide +kernel, by decide, by decide +kernel, by decide +kernel, (lwm_tables_1_1 (List.mem_of_getElem? (i := 1) rfl) rfl)⟩
abbrev M_X9_isWatched : pm_M := (yX9_isWatched, cX9_isWatched, 2, (some .boolean))
theorem in_X9_isWatched : pm_in M_X9_isWatched := ⟨(lwm_tables_1_3 (List.mem_of_getElem? (i := 148) rfl) rfl), by decide +kernel, by decide, by decide +kernel, by decide +kernel, (lwm_tables_1_1 (List.mem_of_getElem? (i := 1) rfl) rfl)⟩
abbrev M_X9_replay : pm_M := (yX9_replay, cX9_replay, 3, none)
theorem in_X9_replay : pm_in M_X9_replay := ⟨(lwm_tables_1_3 (List.mem_of_getElem? (i := 160) rfl) rfl), by decide +kernel, by decide, by decide +kernel, by decide +kernel, (lwm_tables_1_1 (List.mem_of_getElem? (i := 1) rfl) rfl)⟩
abbrev M_X9_count : pm_M := (yX9_count, cX9_count, 3, none)
theorem in_X9_count : pm_in M_X9_count := ⟨(lwm_tables_1_3 (List.mem_of_getElem? (i := 172) rfl) rfl), by decide +kernel, by decide, by decide +kernel, by decide +kernel, (lwm_tables_1_1 (List.mem_of_getElem? (i := 1) rfl) rfl)⟩
abbrev M_X9_lastChange : pm_M := (yX9_lastChange, cX9_lastChange, 9, (some .int))
theorem in_X9_lastChange : pm_in M_X9_lastChange := ⟨(lwm_tables_1_4 (List.mem_of_getElem? (i := 64) rfl) rfl), by decide +kernel, by decide, by decide +kernel, by decide +kernel, (lwm_tables_1_1 (List.mem_of_getElem? (i := 1) rfl) rfl)⟩
abbrev M_X9_unlike : pm_M := (yX9_unlike, cX9_unlike, 9, (some .int))
theorem in_X9_unlike : pm_in M_X9_unlike := ⟨(lwm_tables_1_4 (List.mem_of_getElem? (i := 230) rfl) rfl), by decide +kernel, by decide, by decide +kernel, by decide +kernel, (lwm_tables_1_1 (List.mem_of_getElem? (i := 1) rfl) rfl)⟩
abbrev M_X9_wouldBeHeld : pm_M := (yX9_wouldBeHeld, cX9_wouldBeHeld, 6, (some .int))
theorem in_X9_wouldBeHeld : pm_in M_X9_wouldBeHeld := ⟨(lwm_tables_1_4 (List.mem_of_getElem? (i := 176) rfl) rfl), by decide +kernel, by decide, by decide +kernel, by decide +kernel, (lwm_tables_1_1 (List.mem_of_getElem? (i := 1) rfl) rfl)⟩
abbrev M_X9_isPlace : pm_M := (yX9_isPlace, cX9_isPlace, 1, (some .boolean))
theorem in_X9_isPlace : pm_in M_X9_isPlace := ⟨(lwm_tables_1_2 (List.mem_of_getElem? (i := 173) rfl) rfl), by decide +kernel, by decide, by decide +kernel, by decide +kernel, (lwm_tables_1_1 (List.mem_of_getElem? (i := 1) rfl) rfl)⟩
abbrev M_X9_isInstructionPlace : pm_M := (yX9_isInstructionPlace, cX9_isInstructionPlace, 1, (some .boolean))
theorem in_X9_isInstructionPlace : pm_in M_X9_isInstructionPlace := ⟨(lwm_tables_1_1 (List.mem_of_getElem? (i := 144) rfl) rfl), by decide +kernel, by decide, by decide +kernel, by decide +kernel, (lwm_tables_1_1 (List.mem_of_getElem? (i := 1) rfl) rfl)⟩
abbrev M_X9_isUnit : pm_M := (yX9_isUnit, cX9_isUnit, 1, (some .boolean))
theorem in_X9_isUnit : pm_in M_X9_isUnit := ⟨(lwm_tables_1_1 (List.mem_of_getElem? (i := 168) rfl) rfl), by decide +kernel, by decide, by decide +kernel, by decide +kernel, (lwm_tables_1_1 (List.mem_of_getElem? (i := 1) rfl) rfl)⟩
abbrev M_X9_isDepth : pm_M := (yX9_isDepth, cX9_isDepth, 1, (some .boolean))
theorem in_X9_isDepth : pm_in M_X9_isDepth := ⟨(lwm_tables_1_1 (List.mem_of_getElem? (i := 171) rfl) rfl), by decide +kernel, by decide, by decide +kernel, by decide +kernel, (lwm_tables_1_1 (List.mem_of_getElem? (i := 1) rfl) rfl)⟩
abbrev M_X9_isAnyTime : pm_M := (yX9_isAnyTime, cX9_isAnyTime, 1, (some .boolean))
theorem in_X9_isAnyTime : pm_in M_X9_isAnyTime := ⟨(lwm_tables_1_4 (List.mem_of_getElem? (i := 173) rfl) rfl), by decide +kernel, by decide, by decide +kernel, by decide +kernel, (lwm_tables_1_1 (List.mem_of_getElem? (i := 1) rfl) rfl)⟩
abbrev M_X9_isStateWhat : pm_M := (yX9_isStateWhat, cX9_isStateWhat, 1, (some .boolean))
theorem in_X9_isStateWhat : pm_in M_X9_isStateWhat := ⟨(lwm_tables_1_4 (List.mem_of_getElem? (i := 44) rfl) rfl), by decide +kernel, by decide, by decide +kernel, by decide +kernel, (lwm_tables_1_1 (List.mem_of_getElem? (i := 1) rfl) rfl)⟩
abbrev M_X9_isPlacesWhat : pm_M := (yX9_isPlacesWhat, cX9_isPlacesWhat, 1, (some .boolean))
theorem in_X9_isPlacesWhat : pm_in M_X9_isPlacesWhat := ⟨(lwm_tables_1_4 (List.mem_of_getElem? (i := 87) rfl) rfl), by decide +kernel, by decide, by decide +kernel, by decide +kernel, (lwm_tables_1_1 (List.mem_of_getElem? (i := 1) rfl) rfl)⟩
abbrev M_X9_firstPlaceOf : pm_M := (yX9_firstPlaceOf, cX9_firstPlaceOf, 1, (some .int))
theorem in_X9_firstPlaceOf : pm_in M_X9_firstPlaceOf := ⟨(lwm_tables_1_4 (List.mem_of_getElem? (i := 93) rfl) rfl), by decide +kernel, by decide, by decide +kernel, by decide +kernel, (lwm_tables_1_1 (List.mem_of_getElem? (i := 1) rfl) rfl)⟩
abbrev M_X9_placesOf : pm_M := (yX9_placesOf, cX9_placesOf, 1, (some .int))
theorem in_X9_placesOf : pm_in M_X9_placesOf := ⟨(lwm_tables_1_4 (List.mem_of_getElem? (i := 90) rfl) rfl), by decide +kernel, by decide, by decide +kernel, by decide +kernel, (lwm_tables_1_1 (List.mem_of_getElem? (i := 1) rfl) rfl)⟩
abbrev M_X9_isMarked : pm_M := (yX9_isMarked, cX9_isMarked, 2, (some .boolean))
theorem in_X9_isMarked : pm_in M_X9_isMarked := ⟨(lwm_tables_1_4 (List.mem_of_getElem? (i := 117) rfl) rfl), by decide +kernel, by decide, by decide +kernel, by decide +kernel, (lwm_tables_1_1 (List.mem_of_getElem? (i := 1) rfl) rfl)⟩
abbrev M_X9_isValue : pm_M := (yX9_isValue, cX9_isValue, 2, (some .boolean))
theorem in_X9_isValue : pm_in M_X9_isValue := ⟨(lwm_tables_1_2 (List.mem_of_getElem? (i := 176) rfl) rfl), by decide +kernel, by decide, by decide +kernel, by decide +kernel, (lwm_tables_1_1 (List.mem_of_getElem? (i := 1) rfl) rfl)⟩
abbrev M_X9_isInstruction : pm_M := (yX9_isInstruction, cX9_isInstruction, 4, (some .boolean))
theorem in_X9_isInstruction : pm_in M_X9_isInstruction := ⟨(lwm_tables_1_1 (List.mem_of_getElem? (i := 147) rfl) rfl), by decide +kernel, by decide, by decide +kernel, by decide +kernel, (lwm_tables_1_1 (List.mem_of_getElem? (i := 1) rfl) rfl)⟩
abbrev M_X9_fits : pm_M := (yX9_fits, cX9_fits, 2, (some .boolean))
theorem in_X9_fits : pm_in M_X9_fits := ⟨(lwm_tables_1_1 (List.mem_of_getElem? (i := 156) rfl) rfl), by decide +kernel, by decide, by decide +kernel, by decide +kernel, (lwm_tables_1_1 (List.mem_of_getElem? (i := 1) rfl) rfl)⟩
abbrev M_X10_isIn : pm_M := (yX10_isIn, cX10_isIn, 3, (some .boolean))
theorem in_X10_isIn : pm_in M_X10_isIn := ⟨(lwm_tables_1_5 (List.mem_of_getElem? (i := 208) rfl) rfl), by decide +kernel, by decide, by decide +kernel, by decide +kernel, (lwm_tables_1_1 (List.mem_of_getElem? (i := 6) rfl) rfl)⟩
abbrev M_X10_one : pm_M := (yX10_one, cX10_one, 1, (some .int))
theorem in_X10_one : pm_in M_X10_one := ⟨(lwm_tables_1_5 (List.mem_of_getElem? (i := 228) rfl) rfl), by decide +kernel, by decide, by decide +kernel, by decide +kernel, (lwm_tables_1_1 (List.mem_of_getElem? (i := 6) rfl) rfl)⟩
abbrev M_X10_init : pm_M := (yX10_init, cX10_init, 2, none)
theorem in_X10_init : pm_in M_X10_init := ⟨(lwm_tables_1_5 (List.mem_of_getElem? (i := 34) rfl) rfl), by decide +kernel, by decide, by decide +kernel, by decide +kernel, (lwm_tables_1_1 (List.mem_of_getElem? (i := 6) rfl) rfl)⟩
abbrev M_X10_isRegister : pm_M := (yX10_isRegister, cX10_isRegister, 1, (some .boolean))
theorem in_X10_isRegister : pm_in M_X10_isRegister := ⟨(lwm_tables_1_5 (List.mem_of_getElem? (i := 214) rfl) rfl), by decide +kernel, by decide, by decide +kernel, by decide +kernel, (lwm_tables_1_1 (List.mem_of_getElem? (i := 6) rfl) rfl)⟩
abbrev M_X10_isFine : pm_M := (yX10_isFine, cX10_isFine, 4, (some .boolean))
theorem in_X10_isFine : pm_in M_X10_isFine := ⟨(lwm_tables_1_5 (List.mem_of_getElem? (i := 211) rfl) rfl), by decide +kernel, by decide, by decide +kernel, by decide +kernel, (lwm_tables_1_1 (List.mem_of_getElem? (i := 6) rfl) rfl)⟩
abbrev M_X10_code : pm_M := (yX10_code, cX10_code, 6, (some .boolean))
theorem in_X10_code : pm_in M_X10_code := ⟨(lwm_tables_1_5 (List.mem_of_getElem? (i := 205) rfl) rfl), by decide +kernel, by decide, by decide +kernel, by decide +kernel, (lwm_tables_1_1 (List.mem_of_getElem? (i := 6) rfl) rfl)⟩
abbrev M_X10_isSpacing : pm_M := (yX10_isSpacing, cX10_isSpacing, 2, (some .boolean))
theorem in_X10_isSpacing : pm_in M_X10_isSpacing := ⟨(lwm_tables_1_5 (List.mem_of_getElem? (i := 221) rfl) rfl), by decide +kernel, by decide, by decide +kernel, by decide +kernel, (lwm_tables_1_1 (List.mem_of_getElem? (i := 6) rfl) rfl)⟩
abbrev M_X10_spacing : pm_M := (yX10_spacing, cX10_spacing, 3, (some .boolean))
theorem in_X10_spacing : pm_in M_X10_spacing := ⟨(lwm_tables_1_5 (List.mem_of_getElem? (i := 218) rfl) rfl), by decide +kernel, by decide, by decide +kernel, by decide +kernel, (lwm_tables_1_1 (List.mem_of_getElem? (i := 6) rfl) rfl)⟩
abbrev M_X10_heldAt : pm_M := (yX10_heldAt, cX10_heldAt, 2, (some .int))
theorem in_X10_heldAt : pm_in M_X10_heldAt := ⟨(lwm_tables_1_5 (List.mem_of_getElem? (i := 231) rfl) rfl), by decide +kernel, by decide, by decide +kernel, by decide +kernel, (lwm_tables_1_1 (List.mem_of_getElem? (i := 6) rfl) rfl)⟩
abbrev M_X10_clears : pm_M := (yX10_clears, cX10_clears, 3, none)
theorem in_X10_clears : pm_in M_X10_clears := ⟨(lwm_tables_1_5 (List.mem_of_getElem? (i := 235) rfl) rfl), by decide +kernel, by decide, by decide +kernel, by decide +kernel, (lwm_tables_1_1 (List.mem_of_getElem? (i := 6) rfl) rfl)⟩
abbrev M_X10_begin : pm_M := (yX10_begin, cX10_begin, 3, (some .int))
theorem in_X10_begin : pm_in M_X10_begin := ⟨(lwm_tables_1_5 (List.mem_of_getElem? (i := 225) rfl) rfl), by decide +kernel, by decide, by decide +kernel, by decide +kernel, (lwm_tables_1_1 (List.mem_of_getElem? (i := 6) rfl) rfl)⟩
abbrev M_X10_give : pm_M := (yX10_give, cX10_give, 2, (some .int))
theorem in_X10_give : pm_in M_X10_give := ⟨(lwm_tables_1_5 (List.mem_of_getElem? (i := 239) rfl) rfl), by decide +kernel, by decide, by decide +kernel, by decide +kernel, (lwm_tables_1_1 (List.mem_of_getElem? (i := 6) rfl) rfl)⟩
abbrev M_X10_seed : pm_M := (yX10_seed, cX10_seed, 3, (some .int))
theorem in_X10_seed : pm_in M_X10_seed := ⟨(lwm_tables_1_6 (List.mem_of_getElem? (i := 3) rfl) rfl), by decide +kernel, by decide, by decide +kernel, by decide +kernel, (lwm_tables_1_1 (List.mem_of_getElem? (i := 6) rfl) rfl)⟩
abbrev M_X10_isValue : pm_M := (yX10_isValue, cX10_isValue, 2, (some .boolean))
theorem in_X10_isValue : pm_in M_X10_isValue := ⟨(lwm_tables_1_6 (List.mem_of_getElem? (i := 13) rfl) rfl), by decide +kernel, by decide, by decide +kernel, by decide +kernel, (lwm_tables_1_1 (List.mem_of_getElem? (i := 6) rfl) rfl)⟩
abbrev M_X10_isPlace : pm_M := (yX10_isPlace, cX10_isPlace, 1, (some .boolean))
theorem in_X10_isPlace : pm_in M_X10_isPlace := ⟨(lwm_tables_1_6 (List.mem_of_getElem? (i := 10) rfl) rfl), by decide +kernel, by decide, by decide +kernel, by decide +kernel, (lwm_tables_1_1 (List.mem_of_getElem? (i := 6) rfl) rfl)⟩
abbrev M_X10_puts : pm_M := (yX10_puts, cX10_puts, 4, none)
theorem in_X10_puts : pm_in M_X10_puts := ⟨(lwm_tables_1_6 (List.mem_of_getElem? (i := 20) rfl) rfl), by decide +kernel, by decide, by decide +kernel, by decide +kernel, (lwm_tables_1_1 (List.mem_of_getElem? (i := 6) rfl) rfl)⟩
abbrev M_X10_notes : pm_M := (yX10_notes, cX10_notes, 6, none)
theorem in_X10_notes : pm_in M_X10_notes := ⟨(lwm_tables_1_6 (List.mem_of_getElem? (i := 17) rfl) rfl), by decide +kernel, by decide, by decide +kernel, by decide +kernel, (lwm_tables_1_1 (List.mem_of_getElem? (i := 6) rfl) rfl)⟩
abbrev M_X10_poke : pm_M := (yX10_poke, cX10_poke, 5, (some .int))
theorem in_X10_poke : pm_in M_X10_poke := ⟨(lwm_tables_1_6 (List.mem_of_getElem? (i := 7) rfl) rfl), by decide +kernel, by decide, by decide +kernel, by decide +kernel, (lwm_tables_1_1 (List.mem_of_getElem? (i := 6) rfl) rfl)⟩
abbrev M_X10_kindAt : pm_M := (yX10_kindAt, cX10_kindAt, 3, (some .int))
theorem in_X10_kindAt : pm_in M_X10_kindAt := ⟨(lwm_tables_1_6 (List.mem_of_getElem? (i := 36) rfl) rfl), by decide +kernel, by decide, by decide +kernel, by decide +kernel, (lwm_tables_1_1 (List.mem_of_getElem? (i := 6) rfl) rfl)⟩
abbrev M_X10_isOf : pm_M := (yX10_isOf, cX10_isOf, 3, (some .boolean))
theorem in_X10_isOf : pm_in M_X10_isOf := ⟨(lwm_tables_1_6 (List.mem_of_getElem? (i := 70) rfl) rfl), by decide +kernel, by decide, by decide +kernel, by decide +kernel, (lwm_tables_1_1 (List.mem_of_getElem? (i := 6) rfl) rfl)⟩
abbrev M_X10_traps : pm_M := (yX10_traps, cX10_traps, 3, none)
theorem in_X10_traps : pm_in M_X10_traps := ⟨(lwm_tables_1_6 (List.mem_of_getElem? (i := 59) rfl) rfl), by decide +kernel, by decide, by decide +kernel, by decide +kernel, (lwm_tables_1_1 (List.mem_of_getElem? (i := 6) rfl) rfl)⟩
abbrev M_X10_gives : pm_M := (yX10_gives, cX10_gives, 5, none)
theorem in_X10_gives : pm_in M_X10_gives := ⟨(lwm_tables_1_6 (List.mem_of_getElem? (i := 67) rfl) rfl), by decide +kernel, by decide, by decide +kernel, by decide +kernel, (lwm_tables_1_1 (List.mem_of_getElem? (i := 6) rfl) rfl)⟩
abbrev M_X10_steps : pm_M := (yX10_steps, cX10_steps, 6, none)
theorem in_X10_steps : pm_in M_X10_steps := ⟨(lwm_tables_1_6 (List.mem_of_getElem? (i := 54) rfl) rfl), by decide +kernel, by decide, by decide +kernel, by decide +kernel, (lwm_tables_1_1 (List.mem_of_getElem? (i := 6) rfl) rfl)⟩
abbrev M_X10_does : pm_M := (yX10_does, cX10_does, 8, none)
theorem in_X10_does : pm_in M_X10_does := ⟨(lwm_tables_1_6 (List.mem_of_getElem? (i := 63) rfl) rfl), by decide +kernel, by decide, by decide +kernel, by decide +kernel, (lwm_tables_1_1 (List.mem_of_getElem? (i := 6) rfl) rfl)⟩
abbrev M_X10_reckons : pm_M := (yX10_reckons, cX10_reckons, 8, none)
theorem in_X10_reckons : pm_in M_X10_reckons := ⟨(lwm_tables_1_6 (List.mem_of_getElem? (i := 82) rfl) rfl), by decide +kernel, by decide, by decide +kernel, by decide +kernel, (lwm_tables_1_1 (List.mem_of_getElem? (i := 6) rfl) rfl)⟩
abbrev M_X10_cells : pm_M := (yX10_cells, cX10_cells, 7, none)
theorem in_X10_cells : pm_in M_X10_cells := ⟨(lwm_tables_1_6 (List.mem_of_getElem? (i := 74) rfl) rfl), by decide +kernel, by decide, by decide +kernel, by decide +kernel, (lwm_tables_1_1 (List.mem_of_getElem? (i := 6) rfl) rfl)⟩
abbrev M_X10_goes : pm_M := (yX10_goes, cX10_goes, 5, none)
theorem in_X10_goes : pm_in M_X10_goes := ⟨(lwm_tables_1_6 (List.mem_of_getElem? (i := 78) rfl) rfl), by decide +kernel, by decide, by decide +kernel, by decide +kernel, (lwm_tables_1_1 (List.mem_of_getElem? (i := 6) rfl) rfl)⟩
abbrev M_X10_status : pm_M := (yX10_status, cX10_status, 2, (some .int))
theorem in_X10_status : pm_in M_X10_status := ⟨(lwm_tables_1_6 (List.mem_of_getElem? (i := 32) rfl) rfl), by decide +kernel, by decide, by decide +kernel, by decide +kernel, (lwm_tables_1_1 (List.mem_of_getElem? (i := 6) rfl) rfl)⟩
abbrev M_X10_halvings : pm_M := (yX10_halvings, cX10_halvings, 3, (some .int))
theorem in_X10_halvings : pm_in M_X10_halvings := ⟨(lwm_tables_1_6 (List.mem_of_getElem? (i := 94) rfl) rfl), by decide +kernel, by decide, by decide +kernel, by decide +kernel, (lwm_tables_1_1 (List.mem_of_getElem? (i := 6) rfl) rfl)⟩
abbrev M_X10_goesWith : pm_M := (yX10_goesWith, cX10_goesWith, 3, (some .int))
theorem in_X10_goesWith : pm_in M_X10_goesWith := ⟨(lwm_tables_1_6 (List.mem_of_getElem? (i := 90) rfl) rfl), by decide +kernel, by decide, by decide +kernel, by decide +kernel, (lwm_tables_1_1 (List.mem_of_getElem? (i := 6) rfl) rfl)⟩
abbrev M_X10_heldMany : pm_M := (yX10_heldMany, cX10_heldMany, 4, (some .int))
theorem in_X10_heldMany : pm_in M_X10_heldMany := ⟨(lwm_tables_1_6 (List.mem_of_getElem? (i := 98) rfl) rfl), by decide +kernel, by decide, by decide +kernel, by decide +kernel, (lwm_tables_1_1 (List.mem_of_getElem? (i := 6) rfl) rfl)⟩
abbrev M_X10_comes : pm_M := (yX10_comes, cX10_comes, 4, none)
theorem in_X10_comes : pm_in M_X10_comes := ⟨(lwm_tables_1_6 (List.mem_of_getElem? (i := 86) rfl) rfl), by decide +kernel, by decide, by decide +kernel, by decide +kernel, (lwm_tables_1_1 (List.mem_of_getElem? (i := 6) rfl) rfl)⟩
abbrev M_X10_takesInput : pm_M := (yX10_takesInput, cX10_takesInput, 2, none)
theorem in_X10_takesInput : pm_in M_X10_takesInput := ⟨(lwm_tables_1_6 (List.mem_of_getElem? (i := 44) rfl) rfl), by decide +kernel, by decide, by decide +kernel, by decide +kernel, (lwm_tables_1_1 (List.mem_of_getElem? (i := 6) rfl) rfl)⟩
abbrev M_X10_draws : pm_M := (yX10_draws, cX10_draws, 2, none)
theorem in_X10_draws : pm_in M_X10_draws := ⟨(lwm_tables_1_6 (List.mem_of_getElem? (i := 48) rfl) rfl), by decide +kernel, by decide, by decide +kernel, by decide +kernel, (lwm_tables_1_1 (List.mem_of_getElem? (i := 6) rfl) rfl)⟩
abbrev M_X10_goesOn : pm_M := (yX10_goesOn, cX10_goesOn, 5, none)
theorem in_X10_goesOn : pm_in M_X10_goesOn := ⟨(lwm_tables_1_6 (List.mem_of_getElem? (i := 40) rfl) rfl), by decide +kernel, by decide, by decide +kernel, by decide +kernel, (lwm_tables_1_1 (List.mem_of_getElem? (i := 6) rfl) rfl)⟩
abbrev M_X10_watchedChanges : pm_M := (yX10_watchedChanges, cX10_watchedChanges, 3, (some .int))
theorem in_X10_watchedChanges : pm_in M_X10_watchedChanges := ⟨(lwm_tables_1_6 (List.mem_of_getElem? (i := 28) rfl) rfl), by decide +kernel, by decide, by decide +kernel, by decide +kernel, (lwm_tables_1_1 (List.mem_of_getElem? (i := 6) rfl) rfl)⟩
abbrev M_X10_run : pm_M := (yX10_run, cX10_run, 4, (some .int))
theorem in_X10_run : pm_in M_X10_run := ⟨(lwm_tables_1_6 (List.mem_of_getElem? (i := 24) rfl) rfl), by decide +kernel, by decide, by decide +kernel, by decide +kernel, (lwm_tables_1_1 (List.mem_of_getElem? (i := 6) rfl) rfl)⟩
abbrev M_X10_watch : pm_M := (yX10_watch, cX10_watch, 3, (some .boolean))
theorem in_X10_watch : pm_in M_X10_watch := ⟨(lwm_tables_1_6 (List.mem_of_getElem? (i := 103) rfl) rfl), by decide +kernel, by decide, by decide +kernel, by decide +kernel, (lwm_tables_1_1 (List.mem_of_getElem? (i := 6) rfl) rfl)⟩
abbrev M_X10_simPokes : pm_M := (yX10_simPokes, cX10_simPokes, 2, none)
theorem in_X10_simPokes : pm_in M_X10_simPokes := ⟨(lwm_tables_1_6 (List.mem_of_getElem? (i := 131) rfl) rfl), by decide +kernel, by decide, by decide +kernel, by decide +kernel, (lwm_tables_1_1 (List.mem_of_getElem? (i := 6) rfl) rfl)⟩
abbrev M_X10_simBegins : pm_M := (yX10_simBegins, cX10_simBegins, 2, none)
theorem in_X10_simBegins : pm_in M_X10_simBegins := ⟨(lwm_tables_1_6 (List.mem_of_getElem? (i := 127) rfl) rfl), by decide +kernel, by decide, by decide +kernel, by decide +kernel, (lwm_tables_1_1 (List.mem_of_getElem? (i := 6) rfl) rfl)⟩
abbrev M_X10_simStep : pm_M := (yX10_simStep, cX10_simStep, 1, none)
theorem in_X10_simStep : pm_in M_X10_simStep := ⟨(lwm_tables_1_6 (List.mem_of_getElem? (i := 135) rfl) rfl), by decide +kernel, by decide, by decide +kernel, by decide +kernel, (lwm_tables_1_1 (List.mem_of_getElem? (i := 6) rfl) rfl)⟩
abbrev M_X10_lays : pm_M := (yX10_lays, cX10_lays, 3, none)
theorem in_X10_lays : pm_in M_X10_lays := ⟨(lwm_tables_1_6 (List.mem_of_getElem? (i := 123) rfl) rfl), by decide +kernel, by decide, by decide +kernel, by decide +kernel, (lwm_tables_1_1 (List.mem_of_getElem? (i := 6) rfl) rfl)⟩
abbrev M_X10_heldBy : pm_M := (yX10_heldBy, cX10_heldBy, 4, (some .int))
theorem in_X10_heldBy : pm_in M_X10_heldBy := ⟨(lwm_tables_1_6 (List.mem_of_getElem? (i := 115) rfl) rfl), by decide +kernel, by decide, by decide +kernel, by decide +kernel, (lwm_tables_1_1 (List.mem_of_getElem? (i := 6) rfl) rfl)⟩
abbrev M_X10_counts : pm_M := (yX10_counts, cX10_counts, 3, none)
theorem in_X10_counts : pm_in M_X10_counts := ⟨(lwm_tables_1_6 (List.mem_of_getElem? (i := 119) rfl) rfl), by decide +kernel, by decide, by decide +kernel, by decide +kernel, (lwm_tables_1_1 (List.mem_of_getElem? (i := 6) rfl) rfl)⟩
abbrev M_X10_replays : pm_M := (yX10_replays, cX10_replays, 3, none)
theorem in_X10_replays : pm_in M_X10_replays := ⟨(lwm_tables_1_6 (List.mem_of_getElem? (i := 111) rfl) rfl), by decide +kernel, by decide, by decide +kernel, by decide +kernel, (lwm_tables_1_1 (List.mem_of_getElem? (i := 6) rfl) rfl)⟩
abbrev M_X10_runAsked : pm_M := (yX10_runAsked, cX10_runAsked, 1, (some .int))
theorem in_X10_runAsked : pm_in M_X10_runAsked := ⟨(lwm_tables_1_6 (List.mem_of_getElem? (i := 158) rfl) rfl), by decide +kernel, by decide, by decide +kernel, by decide +kernel, (lwm_tables_1_1 (List.mem_of_getElem? (i := 6) rfl) rfl)⟩
abbrev M_X10_isTime : pm_M := (yX10_isTime, cX10_isTime, 3, (some .boolean))
theorem in_X10_isTime : pm_in M_X10_isTime := ⟨(lwm_tables_1_6 (List.mem_of_getElem? (i := 154) rfl) rfl), by decide +kernel, by decide, by decide +kernel, by decide +kernel, (lwm_tables_1_1 (List.mem_of_getElem? (i := 6) rfl) rfl)⟩
abbrev M_X10_back : pm_M := (yX10_back, cX10_back, 7, (some .int))
theorem in_X10_back : pm_in M_X10_back := ⟨(lwm_tables_1_6 (List.mem_of_getElem? (i := 107) rfl) rfl), by decide +kernel, by decide, by decide +kernel, by decide +kernel, (lwm_tables_1_1 (List.mem_of_getElem? (i := 6) rfl) rfl)⟩
abbrev M_X10_copies : pm_M := (yX10_copies, cX10_copies, 5, none)
theorem in_X10_copies : pm_in M_X10_copies := ⟨(lwm_tables_1_6 (List.mem_of_getElem? (i := 142) rfl) rfl), by decide +kernel, by decide, by decide +kernel, by decide +kernel, (lwm_tables_1_1 (List.mem_of_getElem? (i := 6) rfl) rfl)⟩
abbrev M_X10_keep : pm_M := (yX10_keep, cX10_keep, 3, (some .int))
theorem in_X10_keep : pm_in M_X10_keep := ⟨(lwm_tables_1_6 (List.mem_of_getElem? (i := 139) rfl) rfl), by decide +kernel, by decide, by decide +kernel, by decide +kernel, (lwm_tables_1_1 (List.mem_of_getElem? (i := 6) rfl) rfl)⟩
abbrev M_X10_use : pm_M := (yX10_use, cX10_use, 2, (some .boolean))
theorem in_X10_use : pm_in M_X10_use := ⟨(lwm_tables_1_6 (List.mem_of_getElem? (i := 146) rfl) rfl), by decide +kernel, by decide, by decide +kernel, by decide +kernel, (lwm_tables_1_1 (List.mem_of_getElem? (i := 6) rfl) rfl)⟩
abbrev M_X10_at : pm_M := (yX10_at, cX10_at, 4, (some .int))
theorem in_X10_at : pm_in M_X10_at := ⟨(lwm_tables_1_6 (List.mem_of_getElem? (i := 150) rfl) rfl), by decide +kernel, by decide, by decide +kernel, by decide +kernel, (lwm_tables_1_1 (List.mem_of_getElem? (i := 6) rfl) rfl)⟩
abbrev M_X10_state : pm_M := (yX10_state, cX10_state, 3, (some .int))
theorem in_X10_state : pm_in M_X10_state := ⟨(lwm_tables_1_6 (List.mem_of_getElem? (i := 163) rfl) rfl), by decide +kernel, by decide, by decide +kernel, by decide +kernel, (lwm_tables_1_1 (List.mem_of_getElem? (i := 6) rfl) rfl)⟩
abbrev M_X10_lastOf : pm_M := (yX10_lastOf, cX10_lastOf, 8, (some .int))
theorem in_X10_lastOf : pm_in M_X10_lastOf := ⟨(lwm_tables_1_6 (List.mem_of_getElem? (i := 171) rfl) rfl), by decide +kernel, by decide, by decide +kernel, by decide +kernel, (lwm_tables_1_1 (List.mem_of_getElem? (i := 6) rfl) rfl)⟩
abbrev M_X10_last : pm_M := (yX10_last, cX10_last, 3, (some .int))
theorem in_X10_last : pm_in M_X10_last := ⟨(lwm_tables_1_6 (List.mem_of_getElem? (i := 167) rfl) rfl), by decide +kernel, by decide, by decide +kernel, by decide +kernel, (lwm_tables_1_1 (List.mem_of_getElem? (i := 6) rfl) rfl)⟩
abbrev M_X10_hadIn : pm_M := (yX10_hadIn, cX10_hadIn, 9, (some .int))
theorem in_X10_hadIn : pm_in M_X10_hadIn := ⟨(lwm_tables_1_6 (List.mem_of_getElem? (i := 179) rfl) rfl), by decide +kernel, by decide, by decide +kernel, by decide +kernel, (lwm_tables_1_1 (List.mem_of_getElem? (i := 6) rfl) rfl)⟩
abbrev M_X10_when : pm_M := (yX10_when, cX10_when, 9, (some .int))
theorem in_X10_when : pm_in M_X10_when := ⟨(lwm_tables_1_6 (List.mem_of_getElem? (i := 175) rfl) rfl), by decide +kernel, by decide, by decide +kernel, by decide +kernel, (lwm_tables_1_1 (List.mem_of_getElem? (i := 6) rfl) rfl)⟩
abbrev M_X10_changed : pm_M := (yX10_changed, cX10_changed, 8, (some .int))
theorem in_X10_changed : pm_in M_X10_changed := ⟨(lwm_tables_1_6 (List.mem_of_getElem? (i := 183) rfl) rfl), by decide +kernel, by decide, by decide +kernel, by decide +kernel, (lwm_tables_1_1 (List.mem_of_getElem? (i := 6) rfl) rfl)⟩
abbrev M_X10_watched : pm_M := (yX10_watched, cX10_watched, 4, (some .int))
theorem in_X10_watched : pm_in M_X10_watched := ⟨(lwm_tables_1_6 (List.mem_of_getElem? (i := 187) rfl) rfl), by decide +kernel, by decide, by decide +kernel, by decide +kernel, (lwm_tables_1_1 (List.mem_of_getElem? (i := 6) rfl) rfl)⟩
abbrev M_X10_clearsLooked : pm_M := (yX10_clearsLooked, cX10_clearsLooked, 2, none)
theorem in_X10_clearsLooked : pm_in M_X10_clearsLooked := ⟨(lwm_tables_1_6 (List.mem_of_getElem? (i := 203) rfl) rfl), by decide +kernel, by decide, by decide +kernel, by decide +kernel, (lwm_tables_1_1 (List.mem_of_getElem? (i := 6) rfl) rfl)⟩
abbrev M_X10_looksAt : pm_M := (yX10_looksAt, cX10_looksAt, 3, none)
theorem in_X10_looksAt : pm_in M_X10_looksAt := ⟨(lwm_tables_1_6 (List.mem_of_getElem? (i := 219) rfl) rfl), by decide +kernel, by decide, by decide +kernel, by decide +kernel, (lwm_tables_1_1 (List.mem_of_getElem? (i := 6) rfl) rfl)⟩
abbrev M_X10_adds : pm_M := (yX10_adds, cX10_adds, 2, none)
theorem in_X10_adds : pm_in M_X10_adds := ⟨(lwm_tables_1_6 (List.mem_of_getElem? (i := 207) rfl) rfl), by decide +kernel, by decide, by decide +kernel, by decide +kernel, (lwm_tables_1_1 (List.mem_of_getElem? (i := 6) rfl) rfl)⟩
abbrev M_X10_restsOn : pm_M := (yX10_restsOn, cX10_restsOn, 3, none)
theorem in_X10_restsOn : pm_in M_X10_restsOn := ⟨(lwm_tables_1_6 (List.mem_of_getElem? (i := 211) rfl) rfl), by decide +kernel, by decide, by decide +kernel, by decide +kernel, (lwm_tables_1_1 (List.mem_of_getElem? (i := 6) rfl) rfl)⟩
abbrev M_X10_restPokes : pm_M := (yX10_restPokes, cX10_restPokes, 2, none)
theorem in_X10_restPokes : pm_in M_X10_restPokes := ⟨(lwm_tables_1_6 (List.mem_of_getElem? (i := 199) rfl) rfl), by decide +kernel, by decide, by decide +kernel, by decide +kernel, (lwm_tables_1_1 (List.mem_of_getElem? (i := 6) rfl) rfl)⟩
abbrev M_X10_looks : pm_M := (yX10_looks, cX10_looks, 5, none)
theorem in_X10_looks : pm_in M_X10_looks := ⟨(lwm_tables_1_6 (List.mem_of_getElem? (i := 215) rfl) rfl), by decide +kernel, by decide, by decide +kernel, by decide +kernel, (lwm_tables_1_1 (List.mem_of_getElem? (i := 6) rfl) rfl)⟩
abbrev M_X10_laysRests : pm_M := (yX10_laysRests, cX10_laysRests, 4, none)
theorem in_X10_laysRests : pm_in M_X10_laysRests := ⟨(lwm_tables_1_6 (List.mem_of_getElem? (i := 195) rfl) rfl), by decide +kernel, by decide, by decide +kernel, by decide +kernel, (lwm_tables_1_1 (List.mem_of_getElem? (i := 6) rfl) rfl)⟩
abbrev M_X10_restsOnBit : pm_M := (yX10_restsOnBit, cX10_restsOnBit, 3, (some .boolean))
theorem in_X10_restsOnBit : pm_in M_X10_restsOnBit := ⟨(lwm_tables_1_6 (List.mem_of_getElem? (i := 223) rfl) rfl), by decide +kernel, by decide, by decide +kernel, by decide +kernel, (lwm_tables_1_1 (List.mem_of_getElem? (i := 6) rfl) rfl)⟩
abbrev M_X10_rests : pm_M := (yX10_rests, cX10_rests, 6, (some .int))
theorem in_X10_rests : pm_in M_X10_rests := ⟨(lwm_tables_1_6 (List.mem_of_getElem? (i := 191) rfl) rfl), by decide +kernel, by decide, by decide +kernel, by decide +kernel, (lwm_tables_1_1 (List.mem_of_getElem? (i := 6) rfl) rfl)⟩
abbrev M_X10_hangs : pm_M := (yX10_hangs, cX10_hangs, 9, (some .int))
theorem in_X10_hangs : pm_in M_X10_hangs := ⟨(lwm_tables_1_6 (List.mem_of_getElem? (i := 227) rfl) rfl), by decide +kernel, by decide, by decide +kernel, by decide +kernel, (lwm_tables_1_1 (List.mem_of_getElem? (i := 6) rfl) rfl)⟩
abbrev M_X10_history : pm_M := (yX10_history, cX10_history, 8, (some .int))
theorem in_X10_history : pm_in M_X10_history := ⟨(lwm_tables_1_6 (List.mem_of_getElem? (i := 231) rfl) rfl), by decide +kernel, by decide, by decide +kernel, by decide +kernel, (lwm_tables_1_1 (List.mem_of_getElem? (i := 6) rfl) rfl)⟩
abbrev M_X10_done : pm_M := (yX10_done, cX10_done, 6, (some .int))
theorem in_X10_done : pm_in M_X10_done := ⟨(lwm_tables_1_6 (List.mem_of_getElem? (i := 235) rfl) rfl), by decide +kernel, by decide, by decide +kernel, by decide +kernel, (lwm_tables_1_1 (List.mem_of_getElem? (i := 6) rfl) rfl)⟩
abbrev M_X10_call : pm_M := (yX10_call, cX10_call, 5, (some .int))
theorem in_X10_call : pm_in M_X10_call := ⟨(lwm_tables_1_6 (List.mem_of_getElem? (i := 239) rfl) rfl), by decide +kernel, by decide, by decide +kernel, by decide +kernel, (lwm_tables_1_1 (List.mem_of_getElem? (i := 6) rfl) rfl)⟩
abbrev M_X10_log : pm_M := (yX10_log, cX10_log, 5, (some .int))
theorem in_X10_log : pm_in M_X10_log := ⟨(lwm_tables_1_7 (List.mem_of_getElem? (i := 3) rfl) rfl), by decide +kernel, by decide, by decide +kernel, by decide +kernel, (lwm_tables_1_1 (List.mem_of_getElem? (i := 6) rfl) rfl)⟩
abbrev M_X10_held : pm_M := (yX10_held, cX10_held, 6, (some .int))
theorem in_X10_held : pm_in M_X10_held := ⟨(lwm_tables_1_7 (List.mem_of_getElem? (i := 7) rfl) rfl), by decide +kernel, by decide, by decide +kernel, by decide +kernel, (lwm_tables_1_1 (List.mem_of_getElem? (i := 6) rfl) rfl)⟩
abbrev M_X10_wouldBe : pm_M := (yX10_wouldBe, cX10_wouldBe, 4, (some .boolean))
theorem in_X10_wouldBe : pm_in M_X10_wouldBe := ⟨(lwm_tables_1_7 (List.mem_of_getElem? (i := 19) rfl) rfl), by decide +kernel, by decide, by decide +kernel, by decide +kernel, (lwm_tables_1_1 (List.mem_of_getElem? (i := 6) rfl) rfl)⟩
abbrev M_X10_wouldOf : pm_M := (yX10_wouldOf, cX10_wouldOf, 6, (some .int))
theorem in_X10_wouldOf : pm_in M_X10_wouldOf := ⟨(lwm_tables_1_7 (List.mem_of_getElem? (i := 15) rfl) rfl), by decide +kernel, by decide, by decide +kernel, by decide +kernel, (lwm_tables_1_1 (List.mem_of_getElem? (i := 6) rfl) rfl)⟩
abbrev M_X10_would : pm_M := (yX10_would, cX10_would, 4, (some .int))
theorem in_X10_would : pm_in M_X10_would := ⟨(lwm_tables_1_7 (List.mem_of_getElem? (i := 11) rfl) rfl), by decide +kernel, by decide, by decide +kernel, by decide +kernel, (lwm_tables_1_1 (List.mem_of_getElem? (i := 6) rfl) rfl)⟩
abbrev M_X10_gap : pm_M := (yX10_gap, cX10_gap, 7, (some .int))
theorem in_X10_gap : pm_in M_X10_gap := ⟨(lwm_tables_1_7 (List.mem_of_getElem? (i := 23) rfl) rfl), by decide +kernel, by decide, by decide +kernel, by decide +kernel, (lwm_tables_1_1 (List.mem_of_getElem? (i := 6) rfl) rfl)⟩
abbrev M_X10_sparing : pm_M := (yX10_sparing, cX10_sparing, 5, (some .int))
theorem in_X10_sparing : pm_in M_X10_sparing := ⟨(lwm_tables_1_7 (List.mem_of_getElem? (i := 27) rfl) rfl), by decide +kernel, by decide, by decide +kernel, by decide +kernel, (lwm_tables_1_1 (List.mem_of_getElem? (i := 6) rfl) rfl)⟩
abbrev M_X10_isThere : pm_M := (yX10_isThere, cX10_isThere, 2, (some .boolean))
theorem in_X10_isThere : pm_in M_X10_isThere := ⟨(lwm_tables_1_7 (List.mem_of_getElem? (i := 35) rfl) rfl), by decide +kernel, by decide, by decide +kernel, by decide +kernel, (lwm_tables_1_1 (List.mem_of_getElem? (i := 6) rfl) rfl)⟩
abbrev M_X10_areLike : pm_M := (yX10_areLike, cX10_areLike, 5, (some .boolean))
theorem in_X10_areLike : pm_in M_X10_areLike := ⟨(lwm_tables_1_7 (List.mem_of_getElem? (i := 43) rfl) rfl), by decide +kernel, by decide, by decide +kernel, by decide +kernel, (lwm_tables_1_1 (List.mem_of_getElem? (i := 6) rfl) rfl)⟩
abbrev M_X10_laysPairs : pm_M := (yX10_laysPairs, cX10_laysPairs, 8, none)
theorem in_X10_laysPairs : pm_in M_X10_laysPairs := ⟨(lwm_tables_1_7 (List.mem_of_getElem? (i := 39) rfl) rfl), by decide +kernel, by decide, by decide +kernel, by decide +kernel, (lwm_tables_1_1 (List.mem_of_getElem? (i := 6) rfl) rfl)⟩
abbrev M_X10_align : pm_M := (yX10_align, cX10_align, 3, (some .int))
theorem in_X10_align : pm_in M_X10_align := ⟨(lwm_tables_1_7 (List.mem_of_getElem? (i := 31) rfl) rfl), by decide +kernel, by decide, by decide +kernel, by decide +kernel, (lwm_tables_1_1 (List.mem_of_getElem? (i := 6) rfl) rfl)⟩
abbrev M_X10_finds : pm_M := (yX10_finds, cX10_finds, 8, none)
theorem in_X10_finds : pm_in M_X10_finds := ⟨(lwm_tables_1_7 (List.mem_of_getElem? (i := 51) rfl) rfl), by decide +kernel, by decide, by decide +kernel, by decide +kernel, (lwm_tables_1_1 (List.mem_of_getElem? (i := 6) rfl) rfl)⟩
abbrev M_X10_pair : pm_M := (yX10_pair, cX10_pair, 9, (some .int))
theorem in_X10_pair : pm_in M_X10_pair := ⟨(lwm_tables_1_7 (List.mem_of_getElem? (i := 47) rfl) rfl), by decide +kernel, by decide, by decide +kernel, by decide +kernel, (lwm_tables_1_1 (List.mem_of_getElem? (i := 6) rfl) rfl)⟩
abbrev M_X10_swaps : pm_M := (yX10_swaps, cX10_swaps, 3, none)
theorem in_X10_swaps : pm_in M_X10_swaps := ⟨(lwm_tables_1_7 (List.mem_of_getElem? (i := 59) rfl) rfl), by decide +kernel, by decide, by decide +kernel, by decide +kernel, (lwm_tables_1_1 (List.mem_of_getElem? (i := 6) rfl) rfl)⟩
abbrev M_X10_areStatesLike : pm_M := (yX10_areStatesLike, cX10_areStatesLike, 2, (some .boolean))
theorem in_X10_areStatesLike : pm_in M_X10_areStatesLike := ⟨(lwm_tables_1_7 (List.mem_of_getElem? (i := 63) rfl) rfl), by decide +kernel, by decide, by decide +kernel, by decide +kernel, (lwm_tables_1_1 (List.mem_of_getElem? (i := 6) rfl) rfl)⟩
abbrev M_X10_parts : pm_M := (yX10_parts, cX10_parts, 8, (some .int))
theorem in_X10_parts : pm_in M_X10_parts := ⟨(lwm_tables_1_7 (List.mem_of_getElem? (i := 55) rfl) rfl), by decide +kernel, by decide, by decide +kernel, by decide +kernel, (lwm_tables_1_1 (List.mem_of_getElem? (i := 6) rfl) rfl)⟩
abbrev M_X10_watchedOf : pm_M := (yX10_watchedOf, cX10_watchedOf, 5, (some .int))
theorem in_X10_watchedOf : pm_in M_X10_watchedOf := ⟨(lwm_tables_1_7 (List.mem_of_getElem? (i := 75) rfl) rfl), by decide +kernel, by decide, by decide +kernel, by decide +kernel, (lwm_tables_1_1 (List.mem_of_getElem? (i := 6) rfl) rfl)⟩
abbrev M_X10_ofRun : pm_M := (yX10_ofRun, cX10_ofRun, 3, (some .int))
theorem in_X10_ofRun : pm_in M_X10_ofRun := ⟨(lwm_tables_1_7 (List.mem_of_getElem? (i := 71) rfl) rfl), by decide +kernel, by decide, by decide +kernel, by decide +kernel, (lwm_tables_1_1 (List.mem_of_getElem? (i := 6) rfl) rfl)⟩
abbrev M_X10_look : pm_M := (yX10_look, cX10_look, 2, (some .int))
theorem in_X10_look : pm_in M_X10_look := ⟨(lwm_tables_1_7 (List.mem_of_getElem? (i := 67) rfl) rfl), by decide +kernel, by decide, by decide +kernel, by decide +kernel, (lwm_tables_1_1 (List.mem_of_getElem? (i := 6) rfl) rfl)⟩
abbrev M_J7_fill_53178 : pm_M := (yJ7_fill_53178, cJ7_fill_53178, 4, none)
theorem in_J7_fill_53178 : pm_in M_J7_fill_53178 := ⟨(lwm_tables_1_1 (List.mem_of_getElem? (i := 30) rfl) rfl), by decide +kernel, by decide, by decide +kernel, by decide +kernel, (lwm_tables_1_1 (List.mem_of_getElem? (i := 3) rfl) rfl)⟩
abbrev M_J7_fill_49daa : pm_M := (yJ7_fill_49daa, cJ7_fill_49daa, 4, none)
theorem in_J7_fill_49daa : pm_in M_J7_fill_49daa := ⟨(lwm_tables_1_4 (List.mem_of_getElem? (i := 109) rfl) rfl), by decide +kernel, by decide, by decide +kernel, by decide +kernel, (lwm_tables_1_1 (List.mem_of_getElem? (i := 3) rfl) rfl)⟩
theorem ml_X9_11 : pm_lI RX9 11 M_X5_init 0 := ⟨in_X5_init, (lwm_tables_1_1 (List.mem_of_getElem? (i := 24) rfl) rfl), (lwm_tables_1_1 (List.mem_of_getElem? (i := 25) rfl) rfl), rfl, rfl, by decide +kernel⟩
theorem ml_X9_18 : pm_nI RX9 18 M_X4_init RX9 0 := ⟨in_X4_init, (lwt_tables_1_1 (List.mem_of_getElem? (i := 47) rfl)), (lwm_tables_1_1 (List.mem_of_getElem? (i := 48) rfl) rfl), rfl, rfl, by decide +kernel⟩
theorem ml_X9_25 : pm_nI RX9 25 M_X0_init RX9 0 := ⟨in_X0_init, (lwt_tables_1_1 (List.mem_of_getElem? (i := 69) rfl)), (lwm_tables_1_1 (List.mem_of_getElem? (i := 70) rfl) rfl), rfl, rfl, by decide +kernel⟩
theorem ml_X9_66 : pm_lS RX9 66 M_X9_isInstructionPlace 1 := ⟨in_X9_isInstructionPlace, (lwm_tables_1_1 (List.mem_of_getElem? (i := 142) rfl) rfl), (lwm_tables_1_1 (List.mem_of_getElem? (i := 143) rfl) rfl), by decide +kernel⟩
theorem ml_X9_70 : pm_lS RX9 70 M_X9_isInstruction 4 := ⟨in_X9_isInstruction, (lwm_tables_1_1 (List.mem_of_getElem? (i := 145) rfl) rfl), (lwm_tables_1_1 (List.mem_of_getElem? (i := 146) rfl) rfl), by decide +kernel⟩
theorem ml_X9_74 : pm_lV RX9 74 M_X5_write 5 := ⟨in_X5_write, (lwm_tables_1_1 (List.mem_of_getElem? (i := 157) rfl) rfl), (lwm_tables_1_1 (List.mem_of_getElem? (i := 158) rfl) rfl), (lwm_tables_1_1 (List.mem_of_getElem? (i := 159) rfl) rfl), by decide +kernel⟩
theorem ml_X9_78 : pm_lS RX9 78 M_X9_isUnit 1 := ⟨in_X9_isUnit, (lwm_tables_1_1 (List.mem_of_getElem? (i := 166) rfl) rfl), (lwm_tables_1_1 (List.mem_of_getElem? (i := 167) rfl) rfl), by decide +kernel⟩
theorem ml_X9_81 : pm_lS RX9 81 M_X9_isDepth 1 := ⟨in_X9_isDepth, (lwm_tables_1_1 (List.mem_of_getElem? (i := 169) rfl) rfl), (lwm_tables_1_1 (List.mem_of_getElem? (i := 170) rfl) rfl), by decide +kernel⟩
theorem ml_X9_84 : pm_lI RX9 84 M_X7_init 0 := ⟨in_X7_init, (lwm_tables_1_1 (List.mem_of_getElem? (i := 177) rfl) rfl), (lwm_tables_1_1 (List.mem_of_getElem? (i := 178) rfl) rfl), rfl, rfl, by decide +kernel⟩
theorem ml_X9_85 : pm_lV RX9 85 M_X7_start 3 := ⟨in_X7_start, (lwm_tables_1_2 (List.mem_of_getElem? (i := 126) rfl) rfl), (lwm_tables_1_2 (List.mem_of_getElem? (i := 127) rfl) rfl), (lwm_tables_1_2 (List.mem_of_getElem? (i := 128) rfl) rfl), by decide +kernel⟩
theorem ml_X9_89 : pm_lV RX9 89 M_X4_clearInputs 0 := ⟨in_X4_clearInputs, (lwm_tables_1_2 (List.mem_of_getElem? (i := 143) rfl) rfl), (lwm_tables_1_2 (List.mem_of_getElem? (i := 144) rfl) rfl), (lwm_tables_1_2 (List.mem_of_getElem? (i := 145) rfl) rfl), by decide +kernel⟩
theorem ml_X9_92 : pm_lV RX9 92 M_X5_size 0 := ⟨in_X5_size, (lwm_tables_1_2 (List.mem_of_getElem? (i := 147) rfl) rfl), (lwm_tables_1_2 (List.mem_of_getElem? (i := 148) rfl) rfl), (lwm_tables_1_2 (List.mem_of_getElem? (i := 149) rfl) rfl), by decide +kernel⟩
theorem ml_X9_99 : pm_lV RX9 99 M_X4_addLast 1 := ⟨in_X4_addLast, (lwm_tables_1_2 (List.mem_of_getElem? (i := 155) rfl) rfl), (lwm_tables_1_2 (List.mem_of_getElem? (i := 156) rfl) rfl), (lwm_tables_1_2 (List.mem_of_getElem? (i := 157) rfl) rfl), by decide +kernel⟩
theorem ml_X9_110 : pm_lV RX9 110 M_X3_isFull 0 := ⟨in_X3_isFull, (lwm_tables_1_2 (List.mem_of_getElem? (i := 167) rfl) rfl), (lwm_tables_1_2 (List.mem_of_getElem? (i := 168) rfl) rfl), (lwm_tables_1_2 (List.mem_of_getElem? (i := 169) rfl) rfl), by decide +kernel⟩
theorem ml_X9_116 : pm_lS RX9 116 M_X9_isPlace 1 := ⟨in_X9_isPlace, (lwm_tables_1_2 (List.mem_of_getElem? (i := 171) rfl) rfl), (lwm_tables_1_2 (List.mem_of_getElem? (i := 172) rfl) rfl), by decide +kernel⟩
theorem ml_X9_119 : pm_lS RX9 119 M_X9_isValue 2 := ⟨in_X9_isValue, (lwm_tables_1_2 (List.mem_of_getElem? (i := 174) rfl) rfl), (lwm_tables_1_2 (List.mem_of_getElem? (i := 175) rfl) rfl), by decide +kernel⟩
theorem ml_X9_123 : pm_lV RX9 123 M_X7_putByPoke 3 := ⟨in_X7_putByPoke, (lwm_tables_1_2 (List.mem_of_getElem? (i := 177) rfl) rfl), (lwm_tables_1_2 (List.mem_of_getElem? (i := 178) rfl) rfl), (lwm_tables_1_2 (List.mem_of_getElem? (i := 179) rfl) rfl), by decide +kernel⟩
theorem ml_X9_127 : pm_lV RX9 127 M_X7_canStep 1 := ⟨in_X7_canStep, (lwm_tables_1_2 (List.mem_of_getElem? (i := 222) rfl) rfl), (lwm_tables_1_2 (List.mem_of_getElem? (i := 223) rfl) rfl), (lwm_tables_1_2 (List.mem_of_getElem? (i := 224) rfl) rfl), by decide +kernel⟩
theorem ml_X9_131 : pm_lV RX9 131 M_X7_step 1 := ⟨in_X7_step, (lwm_tables_1_3 (List.mem_of_getElem? (i := 3) rfl) rfl), (lwm_tables_1_3 (List.mem_of_getElem? (i := 4) rfl) rfl), (lwm_tables_1_3 (List.mem_of_getElem? (i := 5) rfl) rfl), by decide +kernel⟩
theorem ml_X9_138 : pm_lV RX9 138 M_X9_isWatched 1 := ⟨in_X9_isWatched, (lwm_tables_1_3 (List.mem_of_getElem? (i := 145) rfl) rfl), (lwm_tables_1_3 (List.mem_of_getElem? (i := 147) rfl) rfl), (lwm_0 (List.mem_of_getElem? (i := 5) rfl) rfl), by decide +kernel⟩
theorem ml_X9_144 : pm_lV RX9 144 M_X9_replay 2 := ⟨in_X9_replay, (lwm_tables_1_3 (List.mem_of_getElem? (i := 157) rfl) rfl), (lwm_tables_1_3 (List.mem_of_getElem? (i := 159) rfl) rfl), (lwm_0 (List.mem_of_getElem? (i := 6) rfl) rfl), by decide +kernel⟩
theorem ml_X9_148 : pm_lV RX9 148 M_X7_goBack 2 := ⟨in_X7_goBack, (lwm_tables_1_3 (List.mem_of_getElem? (i := 173) rfl) rfl), (lwm_tables_1_3 (List.mem_of_getElem? (i := 174) rfl) rfl), (lwm_tables_1_3 (List.mem_of_getElem? (i := 175) rfl) rfl), by decide +kernel⟩
theorem ml_X9_152 : pm_lV RX9 152 M_X7_statusWith 1 := ⟨in_X7_statusWith, (lwm_tables_1_3 (List.mem_of_getElem? (i := 217) rfl) rfl), (lwm_tables_1_2 (List.mem_of_getElem? (i := 227) rfl) rfl), (lwm_tables_1_2 (List.mem_of_getElem? (i := 228) rfl) rfl), by decide +kernel⟩
theorem ml_X9_156 : pm_lI RX9 156 M_X7_init_ 2 := ⟨in_X7_init_, (lwm_tables_1_3 (List.mem_of_getElem? (i := 218) rfl) rfl), (lwm_tables_1_3 (List.mem_of_getElem? (i := 219) rfl) rfl), rfl, rfl, by decide +kernel⟩
theorem ml_X9_158 : pm_lV RX9 158 M_X9_isKept 1 := ⟨in_X9_isKept, (lwm_tables_1_4 (List.mem_of_getElem? (i := 12) rfl) rfl), (lwm_tables_1_4 (List.mem_of_getElem? (i := 14) rfl) rfl), (lwm_0 (List.mem_of_getElem? (i := 10) rfl) rfl), by decide +kernel⟩
theorem ml_X9_161 : pm_lV RX9 161 M_X9_numbered 1 := ⟨in_X9_numbered, (lwm_tables_1_4 (List.mem_of_getElem? (i := 20) rfl) rfl), (lwm_tables_1_4 (List.mem_of_getElem? (i := 22) rfl) rfl), (lwm_0 (List.mem_of_getElem? (i := 11) rfl) rfl), by decide +kernel⟩
theorem ml_X9_165 : pm_lV RX9 165 M_X7_hasTime 1 := ⟨in_X7_hasTime, (lwm_tables_1_4 (List.mem_of_getElem? (i := 24) rfl) rfl), (lwm_tables_1_2 (List.mem_of_getElem? (i := 235) rfl) rfl), (lwm_tables_1_2 (List.mem_of_getElem? (i := 236) rfl) rfl), by decide +kernel⟩
theorem ml_X9_173 : pm_lV RX9 173 M_X6_putBy 2 := ⟨in_X6_putBy, (lwm_tables_1_4 (List.mem_of_getElem? (i := 26) rfl) rfl), (lwm_tables_1_4 (List.mem_of_getElem? (i := 27) rfl) rfl), (lwm_tables_1_4 (List.mem_of_getElem? (i := 28) rfl) rfl), by decide +kernel⟩
theorem ml_X9_179 : pm_lV RX9 179 M_X6_sortOf 1 := ⟨in_X6_sortOf, (lwm_tables_1_4 (List.mem_of_getElem? (i := 35) rfl) rfl), (lwm_tables_1_2 (List.mem_of_getElem? (i := 199) rfl) rfl), (lwm_tables_1_2 (List.mem_of_getElem? (i := 200) rfl) rfl), by decide +kernel⟩
theorem ml_X9_183 : pm_lV RX9 183 M_X6_numberOf 1 := ⟨in_X6_numberOf, (lwm_tables_1_4 (List.mem_of_getElem? (i := 36) rfl) rfl), (lwm_tables_1_2 (List.mem_of_getElem? (i := 203) rfl) rfl), (lwm_tables_1_2 (List.mem_of_getElem? (i := 204) rfl) rfl), by decide +kernel⟩
theorem ml_X9_186 : pm_lV RX9 186 M_X6_changesOf 1 := ⟨in_X6_changesOf, (lwm_tables_1_4 (List.mem_of_getElem? (i := 37) rfl) rfl), (lwm_tables_1_2 (List.mem_of_getElem? (i := 207) rfl) rfl), (lwm_tables_1_2 (List.mem_of_getElem? (i := 208) rfl) rfl), by decide +kernel⟩
theorem ml_X9_189 : pm_lS RX9 189 M_X9_isStateWhat 1 := ⟨in_X9_isStateWhat, (lwm_tables_1_4 (List.mem_of_getElem? (i := 42) rfl) rfl), (lwm_tables_1_4 (List.mem_of_getElem? (i := 43) rfl) rfl), by decide +kernel⟩
theorem ml_X9_192 : pm_lV RX9 192 M_X7_counterAt 1 := ⟨in_X7_counterAt, (lwm_tables_1_4 (List.mem_of_getElem? (i := 45) rfl) rfl), (lwm_tables_1_2 (List.mem_of_getElem? (i := 231) rfl) rfl), (lwm_tables_1_2 (List.mem_of_getElem? (i := 232) rfl) rfl), by decide +kernel⟩
theorem ml_X9_195 : pm_lV RX9 195 M_X7_stackSizeAt 1 := ⟨in_X7_stackSizeAt, (lwm_tables_1_4 (List.mem_of_getElem? (i := 46) rfl) rfl), (lwm_tables_1_3 (List.mem_of_getElem? (i := 89) rfl) rfl), (lwm_tables_1_3 (List.mem_of_getElem? (i := 90) rfl) rfl), by decide +kernel⟩
theorem ml_X9_198 : pm_lV RX9 198 M_X7_outsAt 1 := ⟨in_X7_outsAt, (lwm_tables_1_4 (List.mem_of_getElem? (i := 47) rfl) rfl), (lwm_tables_1_4 (List.mem_of_getElem? (i := 48) rfl) rfl), (lwm_tables_1_4 (List.mem_of_getElem? (i := 49) rfl) rfl), by decide +kernel⟩
theorem ml_X9_201 : pm_lV RX9 201 M_X7_checkAt 1 := ⟨in_X7_checkAt, (lwm_tables_1_4 (List.mem_of_getElem? (i := 51) rfl) rfl), (lwm_tables_1_4 (List.mem_of_getElem? (i := 52) rfl) rfl), (lwm_tables_1_4 (List.mem_of_getElem? (i := 53) rfl) rfl), by decide +kernel⟩
theorem ml_X9_205 : pm_lV RX9 205 M_X5_kindAt 1 := ⟨in_X5_kindAt, (lwm_tables_1_4 (List.mem_of_getElem? (i := 55) rfl) rfl), (lwm_tables_1_2 (List.mem_of_getElem? (i := 239) rfl) rfl), (lwm_tables_1_3 (List.mem_of_getElem? (i := 0) rfl) rfl), by decide +kernel⟩
theorem ml_X9_208 : pm_lV RX9 208 M_X7_stackedAt 2 := ⟨in_X7_stackedAt, (lwm_tables_1_4 (List.mem_of_getElem? (i := 56) rfl) rfl), (lwm_tables_1_3 (List.mem_of_getElem? (i := 108) rfl) rfl), (lwm_tables_1_3 (List.mem_of_getElem? (i := 109) rfl) rfl), by decide +kernel⟩
theorem ml_X9_211 : pm_lV RX9 211 M_X9_lastChange 3 := ⟨in_X9_lastChange, (lwm_tables_1_4 (List.mem_of_getElem? (i := 61) rfl) rfl), (lwm_tables_1_4 (List.mem_of_getElem? (i := 63) rfl) rfl), (lwm_0 (List.mem_of_getElem? (i := 13) rfl) rfl), by decide +kernel⟩
theorem ml_X9_215 : pm_lV RX9 215 M_X6_hadBy 4 := ⟨in_X6_hadBy, (lwm_tables_1_4 (List.mem_of_getElem? (i := 73) rfl) rfl), (lwm_tables_1_4 (List.mem_of_getElem? (i := 74) rfl) rfl), (lwm_tables_1_4 (List.mem_of_getElem? (i := 75) rfl) rfl), by decide +kernel⟩
theorem ml_X9_223 : pm_lV RX9 223 M_X2_stepsToFind 2 := ⟨in_X2_stepsToFind, (lwm_tables_1_4 (List.mem_of_getElem? (i := 77) rfl) rfl), (lwm_tables_1_4 (List.mem_of_getElem? (i := 78) rfl) rfl), (lwm_tables_1_4 (List.mem_of_getElem? (i := 79) rfl) rfl), by decide +kernel⟩
theorem ml_X9_228 : pm_lV RX9 228 M_X9_count 2 := ⟨in_X9_count, (lwm_tables_1_3 (List.mem_of_getElem? (i := 169) rfl) rfl), (lwm_tables_1_3 (List.mem_of_getElem? (i := 171) rfl) rfl), (lwm_0 (List.mem_of_getElem? (i := 7) rfl) rfl), by decide +kernel⟩
theorem ml_X9_231 : pm_lS RX9 231 M_X9_isPlacesWhat 1 := ⟨in_X9_isPlacesWhat, (lwm_tables_1_4 (List.mem_of_getElem? (i := 85) rfl) rfl), (lwm_tables_1_4 (List.mem_of_getElem? (i := 86) rfl) rfl), by decide +kernel⟩
theorem ml_X9_234 : pm_lS RX9 234 M_X9_placesOf 1 := ⟨in_X9_placesOf, (lwm_tables_1_4 (List.mem_of_getElem? (i := 88) rfl) rfl), (lwm_tables_1_4 (List.mem_of_getElem? (i := 89) rfl) rfl), by decide +kernel⟩
theorem ml_X9_237 : pm_lS RX9 237 M_X9_firstPlaceOf 1 := ⟨in_X9_firstPlaceOf, (lwm_tables_1_4 (List.mem_of_getElem? (i := 91) rfl) rfl), (lwm_tables_1_4 (List.mem_of_getElem? (i := 92) rfl) rfl), by decide +kernel⟩
theorem ml_X9_245 : pm_lV RX9 245 M_X6_markAllBelow 2 := ⟨in_X6_markAllBelow, (lwm_tables_1_4 (List.mem_of_getElem? (i := 103) rfl) rfl), (lwm_tables_1_4 (List.mem_of_getElem? (i := 104) rfl) rfl), (lwm_tables_1_4 (List.mem_of_getElem? (i := 105) rfl) rfl), by decide +kernel⟩
theorem ml_X9_249 : pm_lV RX9 249 M_X6_markedStep 2 := ⟨in_X6_markedStep, (lwm_tables_1_4 (List.mem_of_getElem? (i := 118) rfl) rfl), (lwm_tables_1_4 (List.mem_of_getElem? (i := 119) rfl) rfl), (lwm_tables_1_4 (List.mem_of_getElem? (i := 120) rfl) rfl), by decide +kernel⟩
theorem ml_X9_253 : pm_lV RX9 253 M_X3_has 1 := ⟨in_X3_has, (lwm_tables_1_4 (List.mem_of_getElem? (i := 126) rfl) rfl), (lwm_tables_1_3 (List.mem_of_getElem? (i := 186) rfl) rfl), (lwm_tables_1_3 (List.mem_of_getElem? (i := 187) rfl) rfl), by decide +kernel⟩
theorem ml_X9_256 : pm_lV RX9 256 M_X6_markAllAbove 2 := ⟨in_X6_markAllAbove, (lwm_tables_1_4 (List.mem_of_getElem? (i := 127) rfl) rfl), (lwm_tables_1_4 (List.mem_of_getElem? (i := 128) rfl) rfl), (lwm_tables_1_4 (List.mem_of_getElem? (i := 129) rfl) rfl), by decide +kernel⟩
theorem ml_X9_259 : pm_lS RX9 259 M_X9_isMarked 2 := ⟨in_X9_isMarked, (lwm_tables_1_4 (List.mem_of_getElem? (i := 131) rfl) rfl), (lwm_tables_1_4 (List.mem_of_getElem? (i := 116) rfl) rfl), by decide +kernel⟩
theorem ml_X9_263 : pm_lV RX9 263 M_X6_changeTimes 2 := ⟨in_X6_changeTimes, (lwm_tables_1_4 (List.mem_of_getElem? (i := 136) rfl) rfl), (lwm_tables_1_4 (List.mem_of_getElem? (i := 137) rfl) rfl), (lwm_tables_1_4 (List.mem_of_getElem? (i := 138) rfl) rfl), by decide +kernel⟩
theorem ml_X9_274 : pm_lV RX9 274 M_X1_read 2 := ⟨in_X1_read, (lwm_tables_1_4 (List.mem_of_getElem? (i := 148) rfl) rfl), (lwm_tables_1_4 (List.mem_of_getElem? (i := 149) rfl) rfl), (lwm_tables_1_4 (List.mem_of_getElem? (i := 150) rfl) rfl), by decide +kernel⟩
theorem ml_X9_278 : pm_lV RX9 278 M_X3_read 2 := ⟨in_X3_read, (lwm_tables_1_4 (List.mem_of_getElem? (i := 156) rfl) rfl), (lwm_tables_1_4 (List.mem_of_getElem? (i := 157) rfl) rfl), (lwm_tables_1_4 (List.mem_of_getElem? (i := 158) rfl) rfl), by decide +kernel⟩
theorem ml_X9_280 : pm_lV RX9 280 M_X2_timeOf 1 := ⟨in_X2_timeOf, (lwm_tables_1_4 (List.mem_of_getElem? (i := 165) rfl) rfl), (lwm_tables_1_3 (List.mem_of_getElem? (i := 166) rfl) rfl), (lwm_tables_1_3 (List.mem_of_getElem? (i := 167) rfl) rfl), by decide +kernel⟩
theorem ml_X9_283 : pm_lV RX9 283 M_X2_goesAt 1 := ⟨in_X2_goesAt, (lwm_tables_1_4 (List.mem_of_getElem? (i := 166) rfl) rfl), (lwm_tables_1_3 (List.mem_of_getElem? (i := 132) rfl) rfl), (lwm_tables_1_3 (List.mem_of_getElem? (i := 133) rfl) rfl), by decide +kernel⟩
theorem ml_X9_286 : pm_lS RX9 286 M_X9_isAnyTime 1 := ⟨in_X9_isAnyTime, (lwm_tables_1_4 (List.mem_of_getElem? (i := 171) rfl) rfl), (lwm_tables_1_4 (List.mem_of_getElem? (i := 172) rfl) rfl), by decide +kernel⟩
theorem ml_X9_289 : pm_lS RX9 289 M_X9_wouldBeHeld 3 := ⟨in_X9_wouldBeHeld, (lwm_tables_1_4 (List.mem_of_getElem? (i := 174) rfl) rfl), (lwm_tables_1_4 (List.mem_of_getElem? (i := 175) rfl) rfl), by decide +kernel⟩
theorem ml_X9_293 : pm_lS RX9 293 M_X2_isHeldStill 3 := ⟨in_X2_isHeldStill, (lwm_tables_1_4 (List.mem_of_getElem? (i := 177) rfl) rfl), (lwm_tables_1_4 (List.mem_of_getElem? (i := 178) rfl) rfl), by decide +kernel⟩
theorem ml_X9_296 : pm_lV RX9 296 M_X0_lay 2 := ⟨in_X0_lay, (lwm_tables_1_4 (List.mem_of_getElem? (i := 192) rfl) rfl), (lwm_tables_1_4 (List.mem_of_getElem? (i := 193) rfl) rfl), (lwm_tables_1_4 (List.mem_of_getElem? (i := 194) rfl) rfl), by decide +kernel⟩
theorem ml_X9_303 : pm_lV RX9 303 M_X0_has 1 := ⟨in_X0_has, (lwm_tables_1_4 (List.mem_of_getElem? (i := 215) rfl) rfl), (lwm_tables_1_4 (List.mem_of_getElem? (i := 216) rfl) rfl), (lwm_tables_1_4 (List.mem_of_getElem? (i := 217) rfl) rfl), by decide +kernel⟩
theorem ml_X9_304 : pm_lV RX9 304 M_X0_callOfOne 1 := ⟨in_X0_callOfOne, (lwm_tables_1_4 (List.mem_of_getElem? (i := 219) rfl) rfl), (lwm_tables_1_4 (List.mem_of_getElem? (i := 220) rfl) rfl), (lwm_tables_1_4 (List.mem_of_getElem? (i := 221) rfl) rfl), by decide +kernel⟩
theorem ml_X9_307 : pm_lV RX9 307 M_X0_callOfOther 1 := ⟨in_X0_callOfOther, (lwm_tables_1_4 (List.mem_of_getElem? (i := 224) rfl) rfl), (lwm_tables_1_4 (List.mem_of_getElem? (i := 225) rfl) rfl), (lwm_tables_1_4 (List.mem_of_getElem? (i := 226) rfl) rfl), by decide +kernel⟩
theorem ml_X9_310 : pm_lS RX9 310 M_X9_unlike 5 := ⟨in_X9_unlike, (lwm_tables_1_4 (List.mem_of_getElem? (i := 228) rfl) rfl), (lwm_tables_1_4 (List.mem_of_getElem? (i := 229) rfl) rfl), by decide +kernel⟩
theorem ml_X9_314 : pm_lV RX9 314 M_X0_firstUnlike 2 := ⟨in_X0_firstUnlike, (lwm_tables_1_4 (List.mem_of_getElem? (i := 236) rfl) rfl), (lwm_tables_1_4 (List.mem_of_getElem? (i := 237) rfl) rfl), (lwm_tables_1_4 (List.mem_of_getElem? (i := 238) rfl) rfl), by decide +kernel⟩
theorem ml_X9_318 : pm_lV RX9 318 M_X9_lookAtRun 2 := ⟨in_X9_lookAtRun, (lwm_tables_1_5 (List.mem_of_getElem? (i := 26) rfl) rfl), (lwm_tables_1_5 (List.mem_of_getElem? (i := 28) rfl) rfl), (lwm_0 (List.mem_of_getElem? (i := 18) rfl) rfl), by decide +kernel⟩
theorem ml_X9_340 : pm_lV RX9 340 M_X2_latestBy 1 := ⟨in_X2_latestBy, (lwm_tables_1_3 (List.mem_of_getElem? (i := 161) rfl) rfl), (lwm_tables_1_3 (List.mem_of_getElem? (i := 162) rfl) rfl), (lwm_tables_1_3 (List.mem_of_getElem? (i := 163) rfl) rfl), by decide +kernel⟩
theorem ml_X9_343 : pm_lV RX9 343 M_X6_changedSince 1 := ⟨in_X6_changedSince, (lwm_tables_1_4 (List.mem_of_getElem? (i := 65) rfl) rfl), (lwm_tables_1_4 (List.mem_of_getElem? (i := 66) rfl) rfl), (lwm_tables_1_4 (List.mem_of_getElem? (i := 67) rfl) rfl), by decide +kernel⟩
theorem ml_X9_346 : pm_lV RX9 346 M_X6_hasValue 3 := ⟨in_X6_hasValue, (lwm_tables_1_4 (List.mem_of_getElem? (i := 231) rfl) rfl), (lwm_tables_1_2 (List.mem_of_getElem? (i := 195) rfl) rfl), (lwm_tables_1_2 (List.mem_of_getElem? (i := 196) rfl) rfl), by decide +kernel⟩
theorem ml_X9_359 : pm_lS RX9 359 M_X9_fits 2 := ⟨in_X9_fits, (lwm_tables_1_1 (List.mem_of_getElem? (i := 154) rfl) rfl), (lwm_tables_1_1 (List.mem_of_getElem? (i := 155) rfl) rfl), by decide +kernel⟩
theorem ml_X0_33 : pm_lV RX0 33 M_X0_has 1 := ⟨in_X0_has, (lwm_tables_1_4 (List.mem_of_getElem? (i := 223) rfl) rfl), (lwm_tables_1_4 (List.mem_of_getElem? (i := 216) rfl) rfl), (lwm_tables_1_4 (List.mem_of_getElem? (i := 217) rfl) rfl), by decide +kernel⟩
theorem ml_X0_48 : pm_lV RX0 48 M_X0_countPairs 4 := ⟨in_X0_countPairs, (lwm_tables_1_4 (List.mem_of_getElem? (i := 197) rfl) rfl), (lwm_tables_1_4 (List.mem_of_getElem? (i := 199) rfl) rfl), (lwm_0 (List.mem_of_getElem? (i := 15) rfl) rfl), by decide +kernel⟩
theorem ml_X0_52 : pm_lV RX0 52 M_X0_choosePairs 4 := ⟨in_X0_choosePairs, (lwm_tables_1_4 (List.mem_of_getElem? (i := 207) rfl) rfl), (lwm_tables_1_4 (List.mem_of_getElem? (i := 209) rfl) rfl), (lwm_0 (List.mem_of_getElem? (i := 16) rfl) rfl), by decide +kernel⟩
theorem ml_X0_55 : pm_lS RX0 55 M_J7_fill_53178 2 := ⟨in_J7_fill_53178, (lwm_tables_1_4 (List.mem_of_getElem? (i := 201) rfl) rfl), (lwm_tables_1_1 (List.mem_of_getElem? (i := 29) rfl) rfl), by decide +kernel⟩
theorem ml_X0_64 : pm_lV RX0 64 M_X1_isLike 3 := ⟨in_X1_isLike, (lwm_tables_1_4 (List.mem_of_getElem? (i := 203) rfl) rfl), (lwm_tables_1_4 (List.mem_of_getElem? (i := 204) rfl) rfl), (lwm_tables_1_4 (List.mem_of_getElem? (i := 205) rfl) rfl), by decide +kernel⟩
theorem ml_X0_77 : pm_lS RX0 77 M_X0_goThrough 4 := ⟨in_X0_goThrough, (lwm_tables_1_5 (List.mem_of_getElem? (i := 0) rfl) rfl), (lwm_tables_1_5 (List.mem_of_getElem? (i := 1) rfl) rfl), by decide +kernel⟩
theorem ml_X0_81 : pm_lV RX0 81 M_X7_counterAt 1 := ⟨in_X7_counterAt, (lwm_tables_1_5 (List.mem_of_getElem? (i := 8) rfl) rfl), (lwm_tables_1_2 (List.mem_of_getElem? (i := 231) rfl) rfl), (lwm_tables_1_2 (List.mem_of_getElem? (i := 232) rfl) rfl), by decide +kernel⟩
theorem ml_X0_85 : pm_lV RX0 85 M_X7_hasStackLike 2 := ⟨in_X7_hasStackLike, (lwm_tables_1_5 (List.mem_of_getElem? (i := 9) rfl) rfl), (lwm_tables_1_5 (List.mem_of_getElem? (i := 10) rfl) rfl), (lwm_tables_1_5 (List.mem_of_getElem? (i := 11) rfl) rfl), by decide +kernel⟩
theorem ml_X0_89 : pm_lV RX0 89 M_X0_areUnlike 5 := ⟨in_X0_areUnlike, (lwm_tables_1_5 (List.mem_of_getElem? (i := 14) rfl) rfl), (lwm_tables_1_5 (List.mem_of_getElem? (i := 16) rfl) rfl), (lwm_0 (List.mem_of_getElem? (i := 17) rfl) rfl), by decide +kernel⟩
theorem ml_X0_96 : pm_lV RX0 96 M_X6_timeOf 1 := ⟨in_X6_timeOf, (lwm_tables_1_5 (List.mem_of_getElem? (i := 3) rfl) rfl), (lwm_tables_1_3 (List.mem_of_getElem? (i := 198) rfl) rfl), (lwm_tables_1_3 (List.mem_of_getElem? (i := 199) rfl) rfl), by decide +kernel⟩
theorem ml_X0_99 : pm_lV RX0 99 M_X6_placeOf 1 := ⟨in_X6_placeOf, (lwm_tables_1_5 (List.mem_of_getElem? (i := 4) rfl) rfl), (lwm_tables_1_5 (List.mem_of_getElem? (i := 5) rfl) rfl), (lwm_tables_1_5 (List.mem_of_getElem? (i := 6) rfl) rfl), by decide +kernel⟩
theorem ml_X0_102 : pm_nS RX0 102 M_X9_isPlace RX9 1 := ⟨in_X9_isPlace, (lwt_tables_1_5 (List.mem_of_getElem? (i := 18) rfl)), (lwm_tables_1_2 (List.mem_of_getElem? (i := 172) rfl) rfl), by decide +kernel⟩
theorem ml_X0_105 : pm_lV RX0 105 M_X6_sortOf 1 := ⟨in_X6_sortOf, (lwm_tables_1_5 (List.mem_of_getElem? (i := 19) rfl) rfl), (lwm_tables_1_2 (List.mem_of_getElem? (i := 199) rfl) rfl), (lwm_tables_1_2 (List.mem_of_getElem? (i := 200) rfl) rfl), by decide +kernel⟩
theorem ml_X0_108 : pm_lV RX0 108 M_X6_numberOf 1 := ⟨in_X6_numberOf, (lwm_tables_1_5 (List.mem_of_getElem? (i := 20) rfl) rfl), (lwm_tables_1_2 (List.mem_of_getElem? (i := 203) rfl) rfl), (lwm_tables_1_2 (List.mem_of_getElem? (i := 204) rfl) rfl), by decide +kernel⟩
theorem ml_X0_111 : pm_lV RX0 111 M_X6_hasValue 3 := ⟨in_X6_hasValue, (lwm_tables_1_5 (List.mem_of_getElem? (i := 21) rfl) rfl), (lwm_tables_1_2 (List.mem_of_getElem? (i := 195) rfl) rfl), (lwm_tables_1_2 (List.mem_of_getElem? (i := 196) rfl) rfl), by decide +kernel⟩
theorem ml_X1_30 : pm_lV RX1 30 M_X1_has 1 := ⟨in_X1_has, (lwm_tables_1_3 (List.mem_of_getElem? (i := 205) rfl) rfl), (lwm_tables_1_3 (List.mem_of_getElem? (i := 207) rfl) rfl), (lwm_0 (List.mem_of_getElem? (i := 9) rfl) rfl), by decide +kernel⟩
theorem ml_X2_33 : pm_lS RX2 33 M_X2_goesWith 2 := ⟨in_X2_goesWith, (lwm_tables_1_3 (List.mem_of_getElem? (i := 139) rfl) rfl), (lwm_tables_1_3 (List.mem_of_getElem? (i := 140) rfl) rfl), by decide +kernel⟩
theorem ml_X2_37 : pm_lV RX2 37 M_X2_has 1 := ⟨in_X2_has, (lwm_tables_1_3 (List.mem_of_getElem? (i := 135) rfl) rfl), (lwm_tables_1_3 (List.mem_of_getElem? (i := 137) rfl) rfl), (lwm_0 (List.mem_of_getElem? (i := 4) rfl) rfl), by decide +kernel⟩
theorem ml_X2_41 : pm_lV RX2 41 M_X2_dropWhatGoesBy 1 := ⟨in_X2_dropWhatGoesBy, (lwm_tables_1_3 (List.mem_of_getElem? (i := 127) rfl) rfl), (lwm_tables_1_3 (List.mem_of_getElem? (i := 129) rfl) rfl), (lwm_0 (List.mem_of_getElem? (i := 3) rfl) rfl), by decide +kernel⟩
theorem ml_X2_50 : pm_lV RX2 50 M_X2_goesAt 1 := ⟨in_X2_goesAt, (lwm_tables_1_3 (List.mem_of_getElem? (i := 131) rfl) rfl), (lwm_tables_1_3 (List.mem_of_getElem? (i := 132) rfl) rfl), (lwm_tables_1_3 (List.mem_of_getElem? (i := 133) rfl) rfl), by decide +kernel⟩
theorem ml_X2_54 : pm_lV RX2 54 M_X2_timeOf 1 := ⟨in_X2_timeOf, (lwm_tables_1_3 (List.mem_of_getElem? (i := 165) rfl) rfl), (lwm_tables_1_3 (List.mem_of_getElem? (i := 166) rfl) rfl), (lwm_tables_1_3 (List.mem_of_getElem? (i := 167) rfl) rfl), by decide +kernel⟩
theorem ml_X3_36 : pm_lV RX3 36 M_X3_add 5 := ⟨in_X3_add, (lwm_tables_1_2 (List.mem_of_getElem? (i := 185) rfl) rfl), (lwm_tables_1_2 (List.mem_of_getElem? (i := 187) rfl) rfl), (lwm_0 (List.mem_of_getElem? (i := 0) rfl) rfl), by decide +kernel⟩
theorem ml_X3_40 : pm_lV RX3 40 M_X3_has 1 := ⟨in_X3_has, (lwm_tables_1_3 (List.mem_of_getElem? (i := 185) rfl) rfl), (lwm_tables_1_3 (List.mem_of_getElem? (i := 186) rfl) rfl), (lwm_tables_1_3 (List.mem_of_getElem? (i := 187) rfl) rfl), by decide +kernel⟩
theorem ml_X3_45 : pm_lV RX3 45 M_X3_isBehind 2 := ⟨in_X3_isBehind, (lwm_tables_1_3 (List.mem_of_getElem? (i := 181) rfl) rfl), (lwm_tables_1_3 (List.mem_of_getElem? (i := 183) rfl) rfl), (lwm_0 (List.mem_of_getElem? (i := 8) rfl) rfl), by decide +kernel⟩
theorem ml_X3_49 : pm_lV RX3 49 M_X4_addFirst 1 := ⟨in_X4_addFirst, (lwm_tables_1_3 (List.mem_of_getElem? (i := 189) rfl) rfl), (lwm_tables_1_3 (List.mem_of_getElem? (i := 190) rfl) rfl), (lwm_tables_1_3 (List.mem_of_getElem? (i := 191) rfl) rfl), by decide +kernel⟩
theorem ml_X5_24 : pm_lS RX5 24 M_J7_fill_53178 2 := ⟨in_J7_fill_53178, (lwm_tables_1_1 (List.mem_of_getElem? (i := 28) rfl) rfl), (lwm_tables_1_1 (List.mem_of_getElem? (i := 29) rfl) rfl), by decide +kernel⟩
theorem ml_X5_30 : pm_nS RX5 30 M_X9_isInstructionPlace RX9 1 := ⟨in_X9_isInstructionPlace, (lwt_tables_1_1 (List.mem_of_getElem? (i := 161) rfl)), (lwm_tables_1_1 (List.mem_of_getElem? (i := 143) rfl) rfl), by decide +kernel⟩
theorem ml_X5_34 : pm_lV RX5 34 M_X5_write 5 := ⟨in_X5_write, (lwm_tables_1_2 (List.mem_of_getElem? (i := 134) rfl) rfl), (lwm_tables_1_1 (List.mem_of_getElem? (i := 158) rfl) rfl), (lwm_tables_1_1 (List.mem_of_getElem? (i := 159) rfl) rfl), by decide +kernel⟩
theorem ml_X6_49 : pm_lS RX6 49 M_J7_fill_53178 2 := ⟨in_J7_fill_53178, (lwm_tables_1_1 (List.mem_of_getElem? (i := 216) rfl) rfl), (lwm_tables_1_1 (List.mem_of_getElem? (i := 29) rfl) rfl), by decide +kernel⟩
theorem ml_X6_60 : pm_lV RX6 60 M_X6_has 1 := ⟨in_X6_has, (lwm_tables_1_2 (List.mem_of_getElem? (i := 210) rfl) rfl), (lwm_tables_1_2 (List.mem_of_getElem? (i := 212) rfl) rfl), (lwm_0 (List.mem_of_getElem? (i := 1) rfl) rfl), by decide +kernel⟩
theorem ml_X6_64 : pm_nS RX6 64 M_X9_isPlace RX9 1 := ⟨in_X9_isPlace, (lwt_tables_1_2 (List.mem_of_getElem? (i := 193) rfl)), (lwm_tables_1_2 (List.mem_of_getElem? (i := 172) rfl) rfl), by decide +kernel⟩
theorem ml_X6_67 : pm_lV RX6 67 M_X6_sortOf 1 := ⟨in_X6_sortOf, (lwm_tables_1_2 (List.mem_of_getElem? (i := 198) rfl) rfl), (lwm_tables_1_2 (List.mem_of_getElem? (i := 199) rfl) rfl), (lwm_tables_1_2 (List.mem_of_getElem? (i := 200) rfl) rfl), by decide +kernel⟩
theorem ml_X6_71 : pm_lV RX6 71 M_X6_numberOf 1 := ⟨in_X6_numberOf, (lwm_tables_1_2 (List.mem_of_getElem? (i := 202) rfl) rfl), (lwm_tables_1_2 (List.mem_of_getElem? (i := 203) rfl) rfl), (lwm_tables_1_2 (List.mem_of_getElem? (i := 204) rfl) rfl), by decide +kernel⟩
theorem ml_X6_74 : pm_lV RX6 74 M_X6_hasValue 3 := ⟨in_X6_hasValue, (lwm_tables_1_2 (List.mem_of_getElem? (i := 194) rfl) rfl), (lwm_tables_1_2 (List.mem_of_getElem? (i := 195) rfl) rfl), (lwm_tables_1_2 (List.mem_of_getElem? (i := 196) rfl) rfl), by decide +kernel⟩
theorem ml_X6_78 : pm_lV RX6 78 M_X6_changesOf 1 := ⟨in_X6_changesOf, (lwm_tables_1_2 (List.mem_of_getElem? (i := 206) rfl) rfl), (lwm_tables_1_2 (List.mem_of_getElem? (i := 207) rfl) rfl), (lwm_tables_1_2 (List.mem_of_getElem? (i := 208) rfl) rfl), by decide +kernel⟩
theorem ml_X6_81 : pm_lV RX6 81 M_X6_timeOf 1 := ⟨in_X6_timeOf, (lwm_tables_1_3 (List.mem_of_getElem? (i := 197) rfl) rfl), (lwm_tables_1_3 (List.mem_of_getElem? (i := 198) rfl) rfl), (lwm_tables_1_3 (List.mem_of_getElem? (i := 199) rfl) rfl), by decide +kernel⟩
theorem ml_X6_84 : pm_lV RX6 84 M_X6_latestOf 1 := ⟨in_X6_latestOf, (lwm_tables_1_4 (List.mem_of_getElem? (i := 30) rfl) rfl), (lwm_tables_1_3 (List.mem_of_getElem? (i := 31) rfl) rfl), (lwm_tables_1_3 (List.mem_of_getElem? (i := 32) rfl) rfl), by decide +kernel⟩
theorem ml_X6_87 : pm_lV RX6 87 M_X6_aheadOf 1 := ⟨in_X6_aheadOf, (lwm_tables_1_4 (List.mem_of_getElem? (i := 31) rfl) rfl), (lwm_tables_1_4 (List.mem_of_getElem? (i := 33) rfl) rfl), (lwm_0 (List.mem_of_getElem? (i := 12) rfl) rfl), by decide +kernel⟩
theorem ml_X6_90 : pm_lS RX6 90 M_J7_fill_49daa 2 := ⟨in_J7_fill_49daa, (lwm_tables_1_4 (List.mem_of_getElem? (i := 107) rfl) rfl), (lwm_tables_1_4 (List.mem_of_getElem? (i := 108) rfl) rfl), by decide +kernel⟩
theorem ml_X6_93 : pm_lV RX6 93 M_X6_mark 2 := ⟨in_X6_mark, (lwm_tables_1_4 (List.mem_of_getElem? (i := 110) rfl) rfl), (lwm_tables_1_4 (List.mem_of_getElem? (i := 112) rfl) rfl), (lwm_0 (List.mem_of_getElem? (i := 14) rfl) rfl), by decide +kernel⟩
theorem ml_X6_103 : pm_nS RX6 103 M_X9_isMarked RX9 2 := ⟨in_X9_isMarked, (lwt_tables_1_4 (List.mem_of_getElem? (i := 115) rfl)), (lwm_tables_1_4 (List.mem_of_getElem? (i := 116) rfl) rfl), by decide +kernel⟩
theorem ml_X7_11 : pm_lI RX7 11 M_X5_init 0 := ⟨in_X5_init, (lwm_tables_1_1 (List.mem_of_getElem? (i := 182) rfl) rfl), (lwm_tables_1_1 (List.mem_of_getElem? (i := 25) rfl) rfl), rfl, rfl, by decide +kernel⟩
theorem ml_X7_39 : pm_lI RX7 39 M_X3_init 0 := ⟨in_X3_init, (lwm_tables_1_1 (List.mem_of_getElem? (i := 185) rfl) rfl), (lwm_tables_1_1 (List.mem_of_getElem? (i := 186) rfl) rfl), rfl, rfl, by decide +kernel⟩
theorem ml_X7_46 : pm_lI RX7 46 M_X6_init 0 := ⟨in_X6_init, (lwm_tables_1_1 (List.mem_of_getElem? (i := 212) rfl) rfl), (lwm_tables_1_1 (List.mem_of_getElem? (i := 213) rfl) rfl), rfl, rfl, by decide +kernel⟩
theorem ml_X7_53 : pm_lI RX7 53 M_X1_init 0 := ⟨in_X1_init, (lwm_tables_1_2 (List.mem_of_getElem? (i := 17) rfl) rfl), (lwm_tables_1_2 (List.mem_of_getElem? (i := 18) rfl) rfl), rfl, rfl, by decide +kernel⟩
theorem ml_X7_60 : pm_lI RX7 60 M_X2_init 0 := ⟨in_X2_init, (lwm_tables_1_2 (List.mem_of_getElem? (i := 39) rfl) rfl), (lwm_tables_1_2 (List.mem_of_getElem? (i := 40) rfl) rfl), rfl, rfl, by decide +kernel⟩
theorem ml_X7_78 : pm_lV RX7 78 M_X5_takeFrom 1 := ⟨in_X5_takeFrom, (lwm_tables_1_2 (List.mem_of_getElem? (i := 130) rfl) rfl), (lwm_tables_1_2 (List.mem_of_getElem? (i := 131) rfl) rfl), (lwm_tables_1_2 (List.mem_of_getElem? (i := 132) rfl) rfl), by decide +kernel⟩
theorem ml_X7_82 : pm_lI RX7 82 M_X3_init_ 1 := ⟨in_X3_init_, (lwm_tables_1_3 (List.mem_of_getElem? (i := 221) rfl) rfl), (lwm_tables_1_3 (List.mem_of_getElem? (i := 222) rfl) rfl), rfl, rfl, by decide +kernel⟩
theorem ml_X7_85 : pm_lI RX7 85 M_X6_init_ 1 := ⟨in_X6_init_, (lwm_tables_1_3 (List.mem_of_getElem? (i := 231) rfl) rfl), (lwm_tables_1_3 (List.mem_of_getElem? (i := 232) rfl) rfl), rfl, rfl, by decide +kernel⟩
theorem ml_X7_88 : pm_lI RX7 88 M_X1_init_ 1 := ⟨in_X1_init_, (lwm_tables_1_3 (List.mem_of_getElem? (i := 236) rfl) rfl), (lwm_tables_1_3 (List.mem_of_getElem? (i := 237) rfl) rfl), rfl, rfl, by decide +kernel⟩
theorem ml_X7_91 : pm_lI RX7 91 M_X2_init_ 1 := ⟨in_X2_init_, (lwm_tables_1_4 (List.mem_of_getElem? (i := 1) rfl) rfl), (lwm_tables_1_4 (List.mem_of_getElem? (i := 2) rfl) rfl), rfl, rfl, by decide +kernel⟩
theorem ml_X7_102 : pm_lV RX7 102 M_X6_clear 0 := ⟨in_X6_clear, (lwm_tables_1_2 (List.mem_of_getElem? (i := 135) rfl) rfl), (lwm_tables_1_2 (List.mem_of_getElem? (i := 136) rfl) rfl), (lwm_tables_1_2 (List.mem_of_getElem? (i := 137) rfl) rfl), by decide +kernel⟩
theorem ml_X7_106 : pm_lV RX7 106 M_X2_start 2 := ⟨in_X2_start, (lwm_tables_1_2 (List.mem_of_getElem? (i := 139) rfl) rfl), (lwm_tables_1_2 (List.mem_of_getElem? (i := 140) rfl) rfl), (lwm_tables_1_2 (List.mem_of_getElem? (i := 141) rfl) rfl), by decide +kernel⟩
theorem ml_X7_110 : pm_lV RX7 110 M_X7_hasTime 1 := ⟨in_X7_hasTime, (lwm_tables_1_2 (List.mem_of_getElem? (i := 234) rfl) rfl), (lwm_tables_1_2 (List.mem_of_getElem? (i := 235) rfl) rfl), (lwm_tables_1_2 (List.mem_of_getElem? (i := 236) rfl) rfl), by decide +kernel⟩
theorem ml_X7_114 : pm_lV RX7 114 M_X7_topAt 1 := ⟨in_X7_topAt, (lwm_tables_1_3 (List.mem_of_getElem? (i := 92) rfl) rfl), (lwm_tables_1_3 (List.mem_of_getElem? (i := 94) rfl) rfl), (lwm_0 (List.mem_of_getElem? (i := 2) rfl) rfl), by decide +kernel⟩
theorem ml_X7_118 : pm_lV RX7 118 M_X7_stackSizeAt 1 := ⟨in_X7_stackSizeAt, (lwm_tables_1_3 (List.mem_of_getElem? (i := 111) rfl) rfl), (lwm_tables_1_3 (List.mem_of_getElem? (i := 89) rfl) rfl), (lwm_tables_1_3 (List.mem_of_getElem? (i := 90) rfl) rfl), by decide +kernel⟩
theorem ml_X7_122 : pm_lV RX7 122 M_X7_counterAt 1 := ⟨in_X7_counterAt, (lwm_tables_1_2 (List.mem_of_getElem? (i := 230) rfl) rfl), (lwm_tables_1_2 (List.mem_of_getElem? (i := 231) rfl) rfl), (lwm_tables_1_2 (List.mem_of_getElem? (i := 232) rfl) rfl), by decide +kernel⟩
theorem ml_X7_125 : pm_lV RX7 125 M_X7_stackedAt 2 := ⟨in_X7_stackedAt, (lwm_tables_1_5 (List.mem_of_getElem? (i := 13) rfl) rfl), (lwm_tables_1_3 (List.mem_of_getElem? (i := 108) rfl) rfl), (lwm_tables_1_3 (List.mem_of_getElem? (i := 109) rfl) rfl), by decide +kernel⟩
theorem ml_X7_129 : pm_lV RX7 129 M_X5_kindAt 1 := ⟨in_X5_kindAt, (lwm_tables_1_2 (List.mem_of_getElem? (i := 238) rfl) rfl), (lwm_tables_1_2 (List.mem_of_getElem? (i := 239) rfl) rfl), (lwm_tables_1_3 (List.mem_of_getElem? (i := 0) rfl) rfl), by decide +kernel⟩
theorem ml_X7_137 : pm_lV RX7 137 M_X3_isFull 0 := ⟨in_X3_isFull, (lwm_tables_1_3 (List.mem_of_getElem? (i := 2) rfl) rfl), (lwm_tables_1_2 (List.mem_of_getElem? (i := 168) rfl) rfl), (lwm_tables_1_2 (List.mem_of_getElem? (i := 169) rfl) rfl), by decide +kernel⟩
theorem ml_X7_141 : pm_lV RX7 141 M_X7_statusWith 1 := ⟨in_X7_statusWith, (lwm_tables_1_2 (List.mem_of_getElem? (i := 226) rfl) rfl), (lwm_tables_1_2 (List.mem_of_getElem? (i := 227) rfl) rfl), (lwm_tables_1_2 (List.mem_of_getElem? (i := 228) rfl) rfl), by decide +kernel⟩
theorem ml_X7_150 : pm_lS RX7 150 M_X8_perform 3 := ⟨in_X8_perform, (lwm_tables_1_3 (List.mem_of_getElem? (i := 10) rfl) rfl), (lwm_tables_1_3 (List.mem_of_getElem? (i := 11) rfl) rfl), by decide +kernel⟩
theorem ml_X7_156 : pm_lV RX7 156 M_X2_timeComes 1 := ⟨in_X2_timeComes, (lwm_tables_1_3 (List.mem_of_getElem? (i := 123) rfl) rfl), (lwm_tables_1_3 (List.mem_of_getElem? (i := 124) rfl) rfl), (lwm_tables_1_3 (List.mem_of_getElem? (i := 125) rfl) rfl), by decide +kernel⟩
theorem ml_X7_160 : pm_lV RX7 160 M_X3_addPoke 4 := ⟨in_X3_addPoke, (lwm_tables_1_2 (List.mem_of_getElem? (i := 181) rfl) rfl), (lwm_tables_1_2 (List.mem_of_getElem? (i := 182) rfl) rfl), (lwm_tables_1_2 (List.mem_of_getElem? (i := 183) rfl) rfl), by decide +kernel⟩
theorem ml_X7_164 : pm_lV RX7 164 M_X6_add 4 := ⟨in_X6_add, (lwm_tables_1_2 (List.mem_of_getElem? (i := 189) rfl) rfl), (lwm_tables_1_2 (List.mem_of_getElem? (i := 190) rfl) rfl), (lwm_tables_1_2 (List.mem_of_getElem? (i := 191) rfl) rfl), by decide +kernel⟩
theorem ml_X7_168 : pm_lV RX7 168 M_X6_restLatestOn 4 := ⟨in_X6_restLatestOn, (lwm_tables_1_2 (List.mem_of_getElem? (i := 214) rfl) rfl), (lwm_tables_1_2 (List.mem_of_getElem? (i := 215) rfl) rfl), (lwm_tables_1_2 (List.mem_of_getElem? (i := 216) rfl) rfl), by decide +kernel⟩
theorem ml_X7_171 : pm_lV RX7 171 M_X3_addWhole 3 := ⟨in_X3_addWhole, (lwm_tables_1_3 (List.mem_of_getElem? (i := 60) rfl) rfl), (lwm_tables_1_3 (List.mem_of_getElem? (i := 61) rfl) rfl), (lwm_tables_1_3 (List.mem_of_getElem? (i := 62) rfl) rfl), by decide +kernel⟩
theorem ml_X7_175 : pm_lV RX7 175 M_X7_putByStep 5 := ⟨in_X7_putByStep, (lwm_tables_1_3 (List.mem_of_getElem? (i := 64) rfl) rfl), (lwm_tables_1_3 (List.mem_of_getElem? (i := 27) rfl) rfl), (lwm_tables_1_3 (List.mem_of_getElem? (i := 28) rfl) rfl), by decide +kernel⟩
theorem ml_X7_179 : pm_lV RX7 179 M_X3_dropBehind 2 := ⟨in_X3_dropBehind, (lwm_tables_1_3 (List.mem_of_getElem? (i := 177) rfl) rfl), (lwm_tables_1_3 (List.mem_of_getElem? (i := 178) rfl) rfl), (lwm_tables_1_3 (List.mem_of_getElem? (i := 179) rfl) rfl), by decide +kernel⟩
theorem ml_X7_183 : pm_lV RX7 183 M_X6_dropBehind 1 := ⟨in_X6_dropBehind, (lwm_tables_1_3 (List.mem_of_getElem? (i := 193) rfl) rfl), (lwm_tables_1_3 (List.mem_of_getElem? (i := 194) rfl) rfl), (lwm_tables_1_3 (List.mem_of_getElem? (i := 195) rfl) rfl), by decide +kernel⟩
theorem ml_X7_185 : pm_lV RX7 185 M_X1_dropFrom 1 := ⟨in_X1_dropFrom, (lwm_tables_1_3 (List.mem_of_getElem? (i := 201) rfl) rfl), (lwm_tables_1_3 (List.mem_of_getElem? (i := 202) rfl) rfl), (lwm_tables_1_3 (List.mem_of_getElem? (i := 203) rfl) rfl), by decide +kernel⟩
theorem ml_X7_188 : pm_lV RX7 188 M_X2_dropAbove 1 := ⟨in_X2_dropAbove, (lwm_tables_1_3 (List.mem_of_getElem? (i := 209) rfl) rfl), (lwm_tables_1_3 (List.mem_of_getElem? (i := 210) rfl) rfl), (lwm_tables_1_3 (List.mem_of_getElem? (i := 211) rfl) rfl), by decide +kernel⟩
theorem ml_X8_15 : pm_lV RX8 15 M_X5_kindAt 1 := ⟨in_X5_kindAt, (lwm_tables_1_3 (List.mem_of_getElem? (i := 13) rfl) rfl), (lwm_tables_1_2 (List.mem_of_getElem? (i := 239) rfl) rfl), (lwm_tables_1_3 (List.mem_of_getElem? (i := 0) rfl) rfl), by decide +kernel⟩
theorem ml_X8_21 : pm_lV RX8 21 M_X5_firstAt 1 := ⟨in_X5_firstAt, (lwm_tables_1_3 (List.mem_of_getElem? (i := 14) rfl) rfl), (lwm_tables_1_3 (List.mem_of_getElem? (i := 15) rfl) rfl), (lwm_tables_1_3 (List.mem_of_getElem? (i := 16) rfl) rfl), by decide +kernel⟩
theorem ml_X8_24 : pm_lV RX8 24 M_X5_secondAt 1 := ⟨in_X5_secondAt, (lwm_tables_1_3 (List.mem_of_getElem? (i := 18) rfl) rfl), (lwm_tables_1_3 (List.mem_of_getElem? (i := 19) rfl) rfl), (lwm_tables_1_3 (List.mem_of_getElem? (i := 20) rfl) rfl), by decide +kernel⟩
theorem ml_X8_27 : pm_lV RX8 27 M_X5_thirdAt 1 := ⟨in_X5_thirdAt, (lwm_tables_1_3 (List.mem_of_getElem? (i := 22) rfl) rfl), (lwm_tables_1_3 (List.mem_of_getElem? (i := 23) rfl) rfl), (lwm_tables_1_3 (List.mem_of_getElem? (i := 24) rfl) rfl), by decide +kernel⟩
theorem ml_X8_34 : pm_lV RX8 34 M_X7_putByStep 5 := ⟨in_X7_putByStep, (lwm_tables_1_3 (List.mem_of_getElem? (i := 26) rfl) rfl), (lwm_tables_1_3 (List.mem_of_getElem? (i := 27) rfl) rfl), (lwm_tables_1_3 (List.mem_of_getElem? (i := 28) rfl) rfl), by decide +kernel⟩
theorem ml_X8_42 : pm_lV RX8 42 M_X6_latestOf 1 := ⟨in_X6_latestOf, (lwm_tables_1_3 (List.mem_of_getElem? (i := 30) rfl) rfl), (lwm_tables_1_3 (List.mem_of_getElem? (i := 31) rfl) rfl), (lwm_tables_1_3 (List.mem_of_getElem? (i := 32) rfl) rfl), by decide +kernel⟩
theorem ml_X8_47 : pm_lS RX8 47 M_X8_copy 3 := ⟨in_X8_copy, (lwm_tables_1_3 (List.mem_of_getElem? (i := 34) rfl) rfl), (lwm_tables_1_3 (List.mem_of_getElem? (i := 35) rfl) rfl), by decide +kernel⟩
theorem ml_X8_53 : pm_lS RX8 53 M_X8_compare 4 := ⟨in_X8_compare, (lwm_tables_1_3 (List.mem_of_getElem? (i := 39) rfl) rfl), (lwm_tables_1_3 (List.mem_of_getElem? (i := 40) rfl) rfl), by decide +kernel⟩
theorem ml_X8_57 : pm_lS RX8 57 M_X8_combine 5 := ⟨in_X8_combine, (lwm_tables_1_3 (List.mem_of_getElem? (i := 43) rfl) rfl), (lwm_tables_1_3 (List.mem_of_getElem? (i := 44) rfl) rfl), by decide +kernel⟩
theorem ml_X8_61 : pm_lS RX8 61 M_X8_fromCell 3 := ⟨in_X8_fromCell, (lwm_tables_1_3 (List.mem_of_getElem? (i := 46) rfl) rfl), (lwm_tables_1_3 (List.mem_of_getElem? (i := 47) rfl) rfl), by decide +kernel⟩
theorem ml_X8_65 : pm_lS RX8 65 M_X8_toCell 3 := ⟨in_X8_toCell, (lwm_tables_1_3 (List.mem_of_getElem? (i := 49) rfl) rfl), (lwm_tables_1_3 (List.mem_of_getElem? (i := 50) rfl) rfl), by decide +kernel⟩
theorem ml_X8_68 : pm_lV RX8 68 M_X4_takeFirst 0 := ⟨in_X4_takeFirst, (lwm_tables_1_3 (List.mem_of_getElem? (i := 52) rfl) rfl), (lwm_tables_1_3 (List.mem_of_getElem? (i := 53) rfl) rfl), (lwm_tables_1_3 (List.mem_of_getElem? (i := 54) rfl) rfl), by decide +kernel⟩
theorem ml_X8_74 : pm_lV RX8 74 M_X7_putFromOutside 3 := ⟨in_X7_putFromOutside, (lwm_tables_1_3 (List.mem_of_getElem? (i := 56) rfl) rfl), (lwm_tables_1_3 (List.mem_of_getElem? (i := 57) rfl) rfl), (lwm_tables_1_3 (List.mem_of_getElem? (i := 58) rfl) rfl), by decide +kernel⟩
theorem ml_X8_78 : pm_lV RX8 78 M_X4_draw 1 := ⟨in_X4_draw, (lwm_tables_1_3 (List.mem_of_getElem? (i := 65) rfl) rfl), (lwm_tables_1_3 (List.mem_of_getElem? (i := 66) rfl) rfl), (lwm_tables_1_3 (List.mem_of_getElem? (i := 67) rfl) rfl), by decide +kernel⟩
theorem ml_X8_81 : pm_lS RX8 81 M_X8_putOut 2 := ⟨in_X8_putOut, (lwm_tables_1_3 (List.mem_of_getElem? (i := 71) rfl) rfl), (lwm_tables_1_3 (List.mem_of_getElem? (i := 72) rfl) rfl), by decide +kernel⟩
theorem ml_X8_85 : pm_lV RX8 85 M_X7_goOnAt 1 := ⟨in_X7_goOnAt, (lwm_tables_1_3 (List.mem_of_getElem? (i := 78) rfl) rfl), (lwm_tables_1_3 (List.mem_of_getElem? (i := 79) rfl) rfl), (lwm_tables_1_3 (List.mem_of_getElem? (i := 80) rfl) rfl), by decide +kernel⟩
theorem ml_X8_89 : pm_lS RX8 89 M_X8_goOnIf 3 := ⟨in_X8_goOnIf, (lwm_tables_1_3 (List.mem_of_getElem? (i := 82) rfl) rfl), (lwm_tables_1_3 (List.mem_of_getElem? (i := 83) rfl) rfl), by decide +kernel⟩
theorem ml_X8_92 : pm_lS RX8 92 M_X8_goDown 2 := ⟨in_X8_goDown, (lwm_tables_1_3 (List.mem_of_getElem? (i := 85) rfl) rfl), (lwm_tables_1_3 (List.mem_of_getElem? (i := 86) rfl) rfl), by decide +kernel⟩
theorem ml_X8_96 : pm_lS RX8 96 M_X8_goUp 1 := ⟨in_X8_goUp, (lwm_tables_1_3 (List.mem_of_getElem? (i := 104) rfl) rfl), (lwm_tables_1_3 (List.mem_of_getElem? (i := 105) rfl) rfl), by decide +kernel⟩
theorem ml_X8_100 : pm_lS RX8 100 M_X8_reckon 5 := ⟨in_X8_reckon, (lwm_tables_1_3 (List.mem_of_getElem? (i := 117) rfl) rfl), (lwm_tables_1_3 (List.mem_of_getElem? (i := 118) rfl) rfl), by decide +kernel⟩
theorem ml_X8_103 : pm_lV RX8 103 M_X6_sortOf 1 := ⟨in_X6_sortOf, (lwm_tables_1_3 (List.mem_of_getElem? (i := 37) rfl) rfl), (lwm_tables_1_2 (List.mem_of_getElem? (i := 199) rfl) rfl), (lwm_tables_1_2 (List.mem_of_getElem? (i := 200) rfl) rfl), by decide +kernel⟩
theorem ml_X8_106 : pm_lV RX8 106 M_X6_numberOf 1 := ⟨in_X6_numberOf, (lwm_tables_1_3 (List.mem_of_getElem? (i := 38) rfl) rfl), (lwm_tables_1_2 (List.mem_of_getElem? (i := 203) rfl) rfl), (lwm_tables_1_2 (List.mem_of_getElem? (i := 204) rfl) rfl), by decide +kernel⟩
theorem ml_X8_109 : pm_lV RX8 109 M_X7_addOut 2 := ⟨in_X7_addOut, (lwm_tables_1_3 (List.mem_of_getElem? (i := 74) rfl) rfl), (lwm_tables_1_3 (List.mem_of_getElem? (i := 75) rfl) rfl), (lwm_tables_1_3 (List.mem_of_getElem? (i := 76) rfl) rfl), by decide +kernel⟩
theorem ml_X8_113 : pm_lV RX8 113 M_X6_hasValue 3 := ⟨in_X6_hasValue, (lwm_tables_1_3 (List.mem_of_getElem? (i := 42) rfl) rfl), (lwm_tables_1_2 (List.mem_of_getElem? (i := 195) rfl) rfl), (lwm_tables_1_2 (List.mem_of_getElem? (i := 196) rfl) rfl), by decide +kernel⟩
theorem ml_X8_120 : pm_lV RX8 120 M_X7_stackSizeAt 1 := ⟨in_X7_stackSizeAt, (lwm_tables_1_3 (List.mem_of_getElem? (i := 88) rfl) rfl), (lwm_tables_1_3 (List.mem_of_getElem? (i := 89) rfl) rfl), (lwm_tables_1_3 (List.mem_of_getElem? (i := 90) rfl) rfl), by decide +kernel⟩
theorem ml_X8_127 : pm_lV RX8 127 M_X1_add 3 := ⟨in_X1_add, (lwm_tables_1_3 (List.mem_of_getElem? (i := 96) rfl) rfl), (lwm_tables_1_3 (List.mem_of_getElem? (i := 97) rfl) rfl), (lwm_tables_1_3 (List.mem_of_getElem? (i := 98) rfl) rfl), by decide +kernel⟩
theorem ml_X8_132 : pm_lV RX8 132 M_X7_stackUp 0 := ⟨in_X7_stackUp, (lwm_tables_1_3 (List.mem_of_getElem? (i := 100) rfl) rfl), (lwm_tables_1_3 (List.mem_of_getElem? (i := 101) rfl) rfl), (lwm_tables_1_3 (List.mem_of_getElem? (i := 102) rfl) rfl), by decide +kernel⟩
theorem ml_X8_135 : pm_lV RX8 135 M_X7_stackedAt 2 := ⟨in_X7_stackedAt, (lwm_tables_1_3 (List.mem_of_getElem? (i := 107) rfl) rfl), (lwm_tables_1_3 (List.mem_of_getElem? (i := 108) rfl) rfl), (lwm_tables_1_3 (List.mem_of_getElem? (i := 109) rfl) rfl), by decide +kernel⟩
theorem ml_X8_139 : pm_lV RX8 139 M_X7_stackDown 0 := ⟨in_X7_stackDown, (lwm_tables_1_3 (List.mem_of_getElem? (i := 113) rfl) rfl), (lwm_tables_1_3 (List.mem_of_getElem? (i := 114) rfl) rfl), (lwm_tables_1_3 (List.mem_of_getElem? (i := 115) rfl) rfl), by decide +kernel⟩
theorem ml_X8_142 : pm_lS RX8 142 M_X8_reckoned 3 := ⟨in_X8_reckoned, (lwm_tables_1_3 (List.mem_of_getElem? (i := 120) rfl) rfl), (lwm_tables_1_3 (List.mem_of_getElem? (i := 121) rfl) rfl), by decide +kernel⟩
theorem ml_L_9 : pm_lI RL 9 M_X9_init 0 := ⟨in_X9_init, (lwm_tables_1_1 (List.mem_of_getElem? (i := 16) rfl) rfl), (lwm_tables_1_1 (List.mem_of_getElem? (i := 17) rfl) rfl), rfl, rfl, by decide +kernel⟩
theorem ml_L_12 : pm_lI RL 12 M_X10_init 0 := ⟨in_X10_init, (lwm_tables_1_5 (List.mem_of_getElem? (i := 32) rfl) rfl), (lwm_tables_1_5 (List.mem_of_getElem? (i := 33) rfl) rfl), rfl, rfl, by decide +kernel⟩
theorem ml_L_13 : pm_lV RL 13 M_X9_code 5 := ⟨in_X9_code, (lwm_tables_1_1 (List.mem_of_getElem? (i := 138) rfl) rfl), (lwm_tables_1_1 (List.mem_of_getElem? (i := 139) rfl) rfl), (lwm_tables_1_1 (List.mem_of_getElem? (i := 140) rfl) rfl), by decide +kernel⟩
theorem ml_L_17 : pm_lV RL 17 M_X10_code 5 := ⟨in_X10_code, (lwm_tables_1_5 (List.mem_of_getElem? (i := 202) rfl) rfl), (lwm_tables_1_5 (List.mem_of_getElem? (i := 203) rfl) rfl), (lwm_tables_1_5 (List.mem_of_getElem? (i := 204) rfl) rfl), by decide +kernel⟩
theorem ml_L_18 : pm_lV RL 18 M_X9_spacing 2 := ⟨in_X9_spacing, (lwm_tables_1_1 (List.mem_of_getElem? (i := 162) rfl) rfl), (lwm_tables_1_1 (List.mem_of_getElem? (i := 163) rfl) rfl), (lwm_tables_1_1 (List.mem_of_getElem? (i := 164) rfl) rfl), by decide +kernel⟩
theorem ml_L_22 : pm_lV RL 22 M_X10_spacing 2 := ⟨in_X10_spacing, (lwm_tables_1_5 (List.mem_of_getElem? (i := 215) rfl) rfl), (lwm_tables_1_5 (List.mem_of_getElem? (i := 216) rfl) rfl), (lwm_tables_1_5 (List.mem_of_getElem? (i := 217) rfl) rfl), by decide +kernel⟩
theorem ml_L_23 : pm_lV RL 23 M_X9_begin 0 := ⟨in_X9_begin, (lwm_tables_1_1 (List.mem_of_getElem? (i := 172) rfl) rfl), (lwm_tables_1_1 (List.mem_of_getElem? (i := 173) rfl) rfl), (lwm_tables_1_1 (List.mem_of_getElem? (i := 174) rfl) rfl), by decide +kernel⟩
theorem ml_L_27 : pm_lV RL 27 M_X10_begin 0 := ⟨in_X10_begin, (lwm_tables_1_5 (List.mem_of_getElem? (i := 222) rfl) rfl), (lwm_tables_1_5 (List.mem_of_getElem? (i := 223) rfl) rfl), (lwm_tables_1_5 (List.mem_of_getElem? (i := 224) rfl) rfl), by decide +kernel⟩
theorem ml_L_28 : pm_lV RL 28 M_X9_give 1 := ⟨in_X9_give, (lwm_tables_1_2 (List.mem_of_getElem? (i := 151) rfl) rfl), (lwm_tables_1_2 (List.mem_of_getElem? (i := 152) rfl) rfl), (lwm_tables_1_2 (List.mem_of_getElem? (i := 153) rfl) rfl), by decide +kernel⟩
theorem ml_L_32 : pm_lV RL 32 M_X10_give 1 := ⟨in_X10_give, (lwm_tables_1_5 (List.mem_of_getElem? (i := 236) rfl) rfl), (lwm_tables_1_5 (List.mem_of_getElem? (i := 237) rfl) rfl), (lwm_tables_1_5 (List.mem_of_getElem? (i := 238) rfl) rfl), by decide +kernel⟩
theorem ml_L_33 : pm_lV RL 33 M_X9_seed 1 := ⟨in_X9_seed, (lwm_tables_1_2 (List.mem_of_getElem? (i := 159) rfl) rfl), (lwm_tables_1_2 (List.mem_of_getElem? (i := 160) rfl) rfl), (lwm_tables_1_2 (List.mem_of_getElem? (i := 161) rfl) rfl), by decide +kernel⟩
theorem ml_L_36 : pm_lV RL 36 M_X10_seed 1 := ⟨in_X10_seed, (lwm_tables_1_6 (List.mem_of_getElem? (i := 0) rfl) rfl), (lwm_tables_1_6 (List.mem_of_getElem? (i := 1) rfl) rfl), (lwm_tables_1_6 (List.mem_of_getElem? (i := 2) rfl) rfl), by decide +kernel⟩
theorem ml_L_37 : pm_lV RL 37 M_X9_poke 3 := ⟨in_X9_poke, (lwm_tables_1_2 (List.mem_of_getElem? (i := 163) rfl) rfl), (lwm_tables_1_2 (List.mem_of_getElem? (i := 164) rfl) rfl), (lwm_tables_1_2 (List.mem_of_getElem? (i := 165) rfl) rfl), by decide +kernel⟩
theorem ml_L_41 : pm_lV RL 41 M_X10_poke 3 := ⟨in_X10_poke, (lwm_tables_1_6 (List.mem_of_getElem? (i := 4) rfl) rfl), (lwm_tables_1_6 (List.mem_of_getElem? (i := 5) rfl) rfl), (lwm_tables_1_6 (List.mem_of_getElem? (i := 6) rfl) rfl), by decide +kernel⟩
theorem ml_L_42 : pm_lV RL 42 M_X9_run 1 := ⟨in_X9_run, (lwm_tables_1_2 (List.mem_of_getElem? (i := 218) rfl) rfl), (lwm_tables_1_2 (List.mem_of_getElem? (i := 219) rfl) rfl), (lwm_tables_1_2 (List.mem_of_getElem? (i := 220) rfl) rfl), by decide +kernel⟩
theorem ml_L_45 : pm_lV RL 45 M_X10_run 1 := ⟨in_X10_run, (lwm_tables_1_6 (List.mem_of_getElem? (i := 21) rfl) rfl), (lwm_tables_1_6 (List.mem_of_getElem? (i := 22) rfl) rfl), (lwm_tables_1_6 (List.mem_of_getElem? (i := 23) rfl) rfl), by decide +kernel⟩
theorem ml_L_46 : pm_lV RL 46 M_X9_watch 2 := ⟨in_X9_watch, (lwm_tables_1_3 (List.mem_of_getElem? (i := 149) rfl) rfl), (lwm_tables_1_3 (List.mem_of_getElem? (i := 150) rfl) rfl), (lwm_tables_1_3 (List.mem_of_getElem? (i := 151) rfl) rfl), by decide +kernel⟩
theorem ml_L_50 : pm_lV RL 50 M_X10_watch 2 := ⟨in_X10_watch, (lwm_tables_1_6 (List.mem_of_getElem? (i := 100) rfl) rfl), (lwm_tables_1_6 (List.mem_of_getElem? (i := 101) rfl) rfl), (lwm_tables_1_6 (List.mem_of_getElem? (i := 102) rfl) rfl), by decide +kernel⟩
theorem ml_L_51 : pm_lV RL 51 M_X9_back 1 := ⟨in_X9_back, (lwm_tables_1_3 (List.mem_of_getElem? (i := 153) rfl) rfl), (lwm_tables_1_3 (List.mem_of_getElem? (i := 154) rfl) rfl), (lwm_tables_1_3 (List.mem_of_getElem? (i := 155) rfl) rfl), by decide +kernel⟩
theorem ml_L_54 : pm_lV RL 54 M_X10_back 1 := ⟨in_X10_back, (lwm_tables_1_6 (List.mem_of_getElem? (i := 104) rfl) rfl), (lwm_tables_1_6 (List.mem_of_getElem? (i := 105) rfl) rfl), (lwm_tables_1_6 (List.mem_of_getElem? (i := 106) rfl) rfl), by decide +kernel⟩
theorem ml_L_55 : pm_lV RL 55 M_X9_keep 0 := ⟨in_X9_keep, (lwm_tables_1_3 (List.mem_of_getElem? (i := 213) rfl) rfl), (lwm_tables_1_3 (List.mem_of_getElem? (i := 214) rfl) rfl), (lwm_tables_1_3 (List.mem_of_getElem? (i := 215) rfl) rfl), by decide +kernel⟩
theorem ml_L_58 : pm_lV RL 58 M_X10_keep 0 := ⟨in_X10_keep, (lwm_tables_1_6 (List.mem_of_getElem? (i := 136) rfl) rfl), (lwm_tables_1_6 (List.mem_of_getElem? (i := 137) rfl) rfl), (lwm_tables_1_6 (List.mem_of_getElem? (i := 138) rfl) rfl), by decide +kernel⟩
theorem ml_L_59 : pm_lV RL 59 M_X9_use 1 := ⟨in_X9_use, (lwm_tables_1_4 (List.mem_of_getElem? (i := 8) rfl) rfl), (lwm_tables_1_4 (List.mem_of_getElem? (i := 9) rfl) rfl), (lwm_tables_1_4 (List.mem_of_getElem? (i := 10) rfl) rfl), by decide +kernel⟩
theorem ml_L_63 : pm_lV RL 63 M_X10_use 1 := ⟨in_X10_use, (lwm_tables_1_6 (List.mem_of_getElem? (i := 143) rfl) rfl), (lwm_tables_1_6 (List.mem_of_getElem? (i := 144) rfl) rfl), (lwm_tables_1_6 (List.mem_of_getElem? (i := 145) rfl) rfl), by decide +kernel⟩
theorem ml_L_64 : pm_lV RL 64 M_X9_at 3 := ⟨in_X9_at, (lwm_tables_1_4 (List.mem_of_getElem? (i := 16) rfl) rfl), (lwm_tables_1_4 (List.mem_of_getElem? (i := 17) rfl) rfl), (lwm_tables_1_4 (List.mem_of_getElem? (i := 18) rfl) rfl), by decide +kernel⟩
theorem ml_L_67 : pm_lV RL 67 M_X10_at 3 := ⟨in_X10_at, (lwm_tables_1_6 (List.mem_of_getElem? (i := 147) rfl) rfl), (lwm_tables_1_6 (List.mem_of_getElem? (i := 148) rfl) rfl), (lwm_tables_1_6 (List.mem_of_getElem? (i := 149) rfl) rfl), by decide +kernel⟩
theorem ml_L_68 : pm_lV RL 68 M_X9_state 2 := ⟨in_X9_state, (lwm_tables_1_4 (List.mem_of_getElem? (i := 38) rfl) rfl), (lwm_tables_1_4 (List.mem_of_getElem? (i := 39) rfl) rfl), (lwm_tables_1_4 (List.mem_of_getElem? (i := 40) rfl) rfl), by decide +kernel⟩
theorem ml_L_72 : pm_lV RL 72 M_X10_state 2 := ⟨in_X10_state, (lwm_tables_1_6 (List.mem_of_getElem? (i := 160) rfl) rfl), (lwm_tables_1_6 (List.mem_of_getElem? (i := 161) rfl) rfl), (lwm_tables_1_6 (List.mem_of_getElem? (i := 162) rfl) rfl), by decide +kernel⟩
theorem ml_L_73 : pm_lV RL 73 M_X9_last 2 := ⟨in_X9_last, (lwm_tables_1_4 (List.mem_of_getElem? (i := 57) rfl) rfl), (lwm_tables_1_4 (List.mem_of_getElem? (i := 58) rfl) rfl), (lwm_tables_1_4 (List.mem_of_getElem? (i := 59) rfl) rfl), by decide +kernel⟩
theorem ml_L_76 : pm_lV RL 76 M_X10_last 2 := ⟨in_X10_last, (lwm_tables_1_6 (List.mem_of_getElem? (i := 164) rfl) rfl), (lwm_tables_1_6 (List.mem_of_getElem? (i := 165) rfl) rfl), (lwm_tables_1_6 (List.mem_of_getElem? (i := 166) rfl) rfl), by decide +kernel⟩
theorem ml_L_77 : pm_lV RL 77 M_X9_when 4 := ⟨in_X9_when, (lwm_tables_1_4 (List.mem_of_getElem? (i := 69) rfl) rfl), (lwm_tables_1_4 (List.mem_of_getElem? (i := 70) rfl) rfl), (lwm_tables_1_4 (List.mem_of_getElem? (i := 71) rfl) rfl), by decide +kernel⟩
theorem ml_L_81 : pm_lV RL 81 M_X10_when 4 := ⟨in_X10_when, (lwm_tables_1_6 (List.mem_of_getElem? (i := 172) rfl) rfl), (lwm_tables_1_6 (List.mem_of_getElem? (i := 173) rfl) rfl), (lwm_tables_1_6 (List.mem_of_getElem? (i := 174) rfl) rfl), by decide +kernel⟩
theorem ml_L_82 : pm_lV RL 82 M_X9_changed 2 := ⟨in_X9_changed, (lwm_tables_1_4 (List.mem_of_getElem? (i := 81) rfl) rfl), (lwm_tables_1_4 (List.mem_of_getElem? (i := 82) rfl) rfl), (lwm_tables_1_4 (List.mem_of_getElem? (i := 83) rfl) rfl), by decide +kernel⟩
theorem ml_L_85 : pm_lV RL 85 M_X10_changed 2 := ⟨in_X10_changed, (lwm_tables_1_6 (List.mem_of_getElem? (i := 180) rfl) rfl), (lwm_tables_1_6 (List.mem_of_getElem? (i := 181) rfl) rfl), (lwm_tables_1_6 (List.mem_of_getElem? (i := 182) rfl) rfl), by decide +kernel⟩
theorem ml_L_86 : pm_lV RL 86 M_X9_watched 1 := ⟨in_X9_watched, (lwm_tables_1_4 (List.mem_of_getElem? (i := 94) rfl) rfl), (lwm_tables_1_4 (List.mem_of_getElem? (i := 95) rfl) rfl), (lwm_tables_1_4 (List.mem_of_getElem? (i := 96) rfl) rfl), by decide +kernel⟩
theorem ml_L_89 : pm_lV RL 89 M_X10_watched 1 := ⟨in_X10_watched, (lwm_tables_1_6 (List.mem_of_getElem? (i := 184) rfl) rfl), (lwm_tables_1_6 (List.mem_of_getElem? (i := 185) rfl) rfl), (lwm_tables_1_6 (List.mem_of_getElem? (i := 186) rfl) rfl), by decide +kernel⟩
theorem ml_L_90 : pm_lV RL 90 M_X9_rests 3 := ⟨in_X9_rests, (lwm_tables_1_4 (List.mem_of_getElem? (i := 99) rfl) rfl), (lwm_tables_1_4 (List.mem_of_getElem? (i := 100) rfl) rfl), (lwm_tables_1_4 (List.mem_of_getElem? (i := 101) rfl) rfl), by decide +kernel⟩
theorem ml_L_93 : pm_lV RL 93 M_X10_rests 3 := ⟨in_X10_rests, (lwm_tables_1_6 (List.mem_of_getElem? (i := 188) rfl) rfl), (lwm_tables_1_6 (List.mem_of_getElem? (i := 189) rfl) rfl), (lwm_tables_1_6 (List.mem_of_getElem? (i := 190) rfl) rfl), by decide +kernel⟩
theorem ml_L_94 : pm_lV RL 94 M_X9_hangs 3 := ⟨in_X9_hangs, (lwm_tables_1_4 (List.mem_of_getElem? (i := 122) rfl) rfl), (lwm_tables_1_4 (List.mem_of_getElem? (i := 123) rfl) rfl), (lwm_tables_1_4 (List.mem_of_getElem? (i := 124) rfl) rfl), by decide +kernel⟩
theorem ml_L_97 : pm_lV RL 97 M_X10_hangs 3 := ⟨in_X10_hangs, (lwm_tables_1_6 (List.mem_of_getElem? (i := 224) rfl) rfl), (lwm_tables_1_6 (List.mem_of_getElem? (i := 225) rfl) rfl), (lwm_tables_1_6 (List.mem_of_getElem? (i := 226) rfl) rfl), by decide +kernel⟩
theorem ml_L_98 : pm_lV RL 98 M_X9_history 3 := ⟨in_X9_history, (lwm_tables_1_4 (List.mem_of_getElem? (i := 132) rfl) rfl), (lwm_tables_1_4 (List.mem_of_getElem? (i := 133) rfl) rfl), (lwm_tables_1_4 (List.mem_of_getElem? (i := 134) rfl) rfl), by decide +kernel⟩
theorem ml_L_101 : pm_lV RL 101 M_X10_history 3 := ⟨in_X10_history, (lwm_tables_1_6 (List.mem_of_getElem? (i := 228) rfl) rfl), (lwm_tables_1_6 (List.mem_of_getElem? (i := 229) rfl) rfl), (lwm_tables_1_6 (List.mem_of_getElem? (i := 230) rfl) rfl), by decide +kernel⟩
theorem ml_L_102 : pm_lV RL 102 M_X9_done 2 := ⟨in_X9_done, (lwm_tables_1_4 (List.mem_of_getElem? (i := 140) rfl) rfl), (lwm_tables_1_4 (List.mem_of_getElem? (i := 141) rfl) rfl), (lwm_tables_1_4 (List.mem_of_getElem? (i := 142) rfl) rfl), by decide +kernel⟩
theorem ml_L_105 : pm_lV RL 105 M_X10_done 2 := ⟨in_X10_done, (lwm_tables_1_6 (List.mem_of_getElem? (i := 232) rfl) rfl), (lwm_tables_1_6 (List.mem_of_getElem? (i := 233) rfl) rfl), (lwm_tables_1_6 (List.mem_of_getElem? (i := 234) rfl) rfl), by decide +kernel⟩
theorem ml_L_106 : pm_lV RL 106 M_X9_call 2 := ⟨in_X9_call, (lwm_tables_1_4 (List.mem_of_getElem? (i := 144) rfl) rfl), (lwm_tables_1_4 (List.mem_of_getElem? (i := 145) rfl) rfl), (lwm_tables_1_4 (List.mem_of_getElem? (i := 146) rfl) rfl), by decide +kernel⟩
theorem ml_L_109 : pm_lV RL 109 M_X10_call 2 := ⟨in_X10_call, (lwm_tables_1_6 (List.mem_of_getElem? (i := 236) rfl) rfl), (lwm_tables_1_6 (List.mem_of_getElem? (i := 237) rfl) rfl), (lwm_tables_1_6 (List.mem_of_getElem? (i := 238) rfl) rfl), by decide +kernel⟩
theorem ml_L_110 : pm_lV RL 110 M_X9_log 2 := ⟨in_X9_log, (lwm_tables_1_4 (List.mem_of_getElem? (i := 152) rfl) rfl), (lwm_tables_1_4 (List.mem_of_getElem? (i := 153) rfl) rfl), (lwm_tables_1_4 (List.mem_of_getElem? (i := 154) rfl) rfl), by decide +kernel⟩
theorem ml_L_113 : pm_lV RL 113 M_X10_log 2 := ⟨in_X10_log, (lwm_tables_1_7 (List.mem_of_getElem? (i := 0) rfl) rfl), (lwm_tables_1_7 (List.mem_of_getElem? (i := 1) rfl) rfl), (lwm_tables_1_7 (List.mem_of_getElem? (i := 2) rfl) rfl), by decide +kernel⟩
theorem ml_L_114 : pm_lV RL 114 M_X9_held 2 := ⟨in_X9_held, (lwm_tables_1_4 (List.mem_of_getElem? (i := 161) rfl) rfl), (lwm_tables_1_4 (List.mem_of_getElem? (i := 162) rfl) rfl), (lwm_tables_1_4 (List.mem_of_getElem? (i := 163) rfl) rfl), by decide +kernel⟩
theorem ml_L_117 : pm_lV RL 117 M_X10_held 2 := ⟨in_X10_held, (lwm_tables_1_7 (List.mem_of_getElem? (i := 4) rfl) rfl), (lwm_tables_1_7 (List.mem_of_getElem? (i := 5) rfl) rfl), (lwm_tables_1_7 (List.mem_of_getElem? (i := 6) rfl) rfl), by decide +kernel⟩
theorem ml_L_118 : pm_lV RL 118 M_X9_would 3 := ⟨in_X9_would, (lwm_tables_1_4 (List.mem_of_getElem? (i := 167) rfl) rfl), (lwm_tables_1_4 (List.mem_of_getElem? (i := 168) rfl) rfl), (lwm_tables_1_4 (List.mem_of_getElem? (i := 169) rfl) rfl), by decide +kernel⟩
theorem ml_L_121 : pm_lV RL 121 M_X10_would 3 := ⟨in_X10_would, (lwm_tables_1_7 (List.mem_of_getElem? (i := 8) rfl) rfl), (lwm_tables_1_7 (List.mem_of_getElem? (i := 9) rfl) rfl), (lwm_tables_1_7 (List.mem_of_getElem? (i := 10) rfl) rfl), by decide +kernel⟩
theorem ml_L_122 : pm_lV RL 122 M_X9_gap 3 := ⟨in_X9_gap, (lwm_tables_1_4 (List.mem_of_getElem? (i := 180) rfl) rfl), (lwm_tables_1_4 (List.mem_of_getElem? (i := 181) rfl) rfl), (lwm_tables_1_4 (List.mem_of_getElem? (i := 182) rfl) rfl), by decide +kernel⟩
theorem ml_L_125 : pm_lV RL 125 M_X10_gap 3 := ⟨in_X10_gap, (lwm_tables_1_7 (List.mem_of_getElem? (i := 20) rfl) rfl), (lwm_tables_1_7 (List.mem_of_getElem? (i := 21) rfl) rfl), (lwm_tables_1_7 (List.mem_of_getElem? (i := 22) rfl) rfl), by decide +kernel⟩
theorem ml_L_126 : pm_lV RL 126 M_X9_sparing 3 := ⟨in_X9_sparing, (lwm_tables_1_4 (List.mem_of_getElem? (i := 184) rfl) rfl), (lwm_tables_1_4 (List.mem_of_getElem? (i := 185) rfl) rfl), (lwm_tables_1_4 (List.mem_of_getElem? (i := 186) rfl) rfl), by decide +kernel⟩
theorem ml_L_129 : pm_lV RL 129 M_X10_sparing 3 := ⟨in_X10_sparing, (lwm_tables_1_7 (List.mem_of_getElem? (i := 24) rfl) rfl), (lwm_tables_1_7 (List.mem_of_getElem? (i := 25) rfl) rfl), (lwm_tables_1_7 (List.mem_of_getElem? (i := 26) rfl) rfl), by decide +kernel⟩
theorem ml_L_130 : pm_lV RL 130 M_X9_align 2 := ⟨in_X9_align, (lwm_tables_1_4 (List.mem_of_getElem? (i := 188) rfl) rfl), (lwm_tables_1_4 (List.mem_of_getElem? (i := 189) rfl) rfl), (lwm_tables_1_4 (List.mem_of_getElem? (i := 190) rfl) rfl), by decide +kernel⟩
theorem ml_L_133 : pm_lV RL 133 M_X10_align 2 := ⟨in_X10_align, (lwm_tables_1_7 (List.mem_of_getElem? (i := 28) rfl) rfl), (lwm_tables_1_7 (List.mem_of_getElem? (i := 29) rfl) rfl), (lwm_tables_1_7 (List.mem_of_getElem? (i := 30) rfl) rfl), by decide +kernel⟩
theorem ml_L_134 : pm_lV RL 134 M_X9_pair 4 := ⟨in_X9_pair, (lwm_tables_1_4 (List.mem_of_getElem? (i := 211) rfl) rfl), (lwm_tables_1_4 (List.mem_of_getElem? (i := 212) rfl) rfl), (lwm_tables_1_4 (List.mem_of_getElem? (i := 213) rfl) rfl), by decide +kernel⟩
theorem ml_L_137 : pm_lV RL 137 M_X10_pair 4 := ⟨in_X10_pair, (lwm_tables_1_7 (List.mem_of_getElem? (i := 44) rfl) rfl), (lwm_tables_1_7 (List.mem_of_getElem? (i := 45) rfl) rfl), (lwm_tables_1_7 (List.mem_of_getElem? (i := 46) rfl) rfl), by decide +kernel⟩
theorem ml_L_138 : pm_lV RL 138 M_X9_parts 2 := ⟨in_X9_parts, (lwm_tables_1_4 (List.mem_of_getElem? (i := 232) rfl) rfl), (lwm_tables_1_4 (List.mem_of_getElem? (i := 233) rfl) rfl), (lwm_tables_1_4 (List.mem_of_getElem? (i := 234) rfl) rfl), by decide +kernel⟩
theorem ml_L_141 : pm_lV RL 141 M_X10_parts 2 := ⟨in_X10_parts, (lwm_tables_1_7 (List.mem_of_getElem? (i := 52) rfl) rfl), (lwm_tables_1_7 (List.mem_of_getElem? (i := 53) rfl) rfl), (lwm_tables_1_7 (List.mem_of_getElem? (i := 54) rfl) rfl), by decide +kernel⟩
theorem ml_L_142 : pm_lV RL 142 M_X9_look 1 := ⟨in_X9_look, (lwm_tables_1_5 (List.mem_of_getElem? (i := 22) rfl) rfl), (lwm_tables_1_5 (List.mem_of_getElem? (i := 23) rfl) rfl), (lwm_tables_1_5 (List.mem_of_getElem? (i := 24) rfl) rfl), by decide +kernel⟩
theorem ml_L_145 : pm_lV RL 145 M_X10_look 1 := ⟨in_X10_look, (lwm_tables_1_7 (List.mem_of_getElem? (i := 64) rfl) rfl), (lwm_tables_1_7 (List.mem_of_getElem? (i := 65) rfl) rfl), (lwm_tables_1_7 (List.mem_of_getElem? (i := 66) rfl) rfl), by decide +kernel⟩
theorem ml_X10_138 : pm_lS RX10 138 M_X10_isIn 3 := ⟨in_X10_isIn, (lwm_tables_1_5 (List.mem_of_getElem? (i := 206) rfl) rfl), (lwm_tables_1_5 (List.mem_of_getElem? (i := 207) rfl) rfl), by decide +kernel⟩
theorem ml_X10_142 : pm_lS RX10 142 M_X10_isRegister 1 := ⟨in_X10_isRegister, (lwm_tables_1_5 (List.mem_of_getElem? (i := 212) rfl) rfl), (lwm_tables_1_5 (List.mem_of_getElem? (i := 213) rfl) rfl), by decide +kernel⟩
theorem ml_X10_146 : pm_lS RX10 146 M_X10_isFine 4 := ⟨in_X10_isFine, (lwm_tables_1_5 (List.mem_of_getElem? (i := 209) rfl) rfl), (lwm_tables_1_5 (List.mem_of_getElem? (i := 210) rfl) rfl), by decide +kernel⟩
theorem ml_X10_150 : pm_lS RX10 150 M_X10_isSpacing 2 := ⟨in_X10_isSpacing, (lwm_tables_1_5 (List.mem_of_getElem? (i := 219) rfl) rfl), (lwm_tables_1_5 (List.mem_of_getElem? (i := 220) rfl) rfl), by decide +kernel⟩
theorem ml_X10_154 : pm_lS RX10 154 M_X10_one 1 := ⟨in_X10_one, (lwm_tables_1_5 (List.mem_of_getElem? (i := 226) rfl) rfl), (lwm_tables_1_5 (List.mem_of_getElem? (i := 227) rfl) rfl), by decide +kernel⟩
theorem ml_X10_158 : pm_lS RX10 158 M_X10_heldAt 2 := ⟨in_X10_heldAt, (lwm_tables_1_5 (List.mem_of_getElem? (i := 229) rfl) rfl), (lwm_tables_1_5 (List.mem_of_getElem? (i := 230) rfl) rfl), by decide +kernel⟩
theorem ml_X10_162 : pm_lV RX10 162 M_X10_clears 1 := ⟨in_X10_clears, (lwm_tables_1_5 (List.mem_of_getElem? (i := 232) rfl) rfl), (lwm_tables_1_5 (List.mem_of_getElem? (i := 234) rfl) rfl), (lwm_0 (List.mem_of_getElem? (i := 19) rfl) rfl), by decide +kernel⟩
theorem ml_X10_169 : pm_lS RX10 169 M_X10_isPlace 1 := ⟨in_X10_isPlace, (lwm_tables_1_6 (List.mem_of_getElem? (i := 8) rfl) rfl), (lwm_tables_1_6 (List.mem_of_getElem? (i := 9) rfl) rfl), by decide +kernel⟩
theorem ml_X10_172 : pm_lS RX10 172 M_X10_isValue 2 := ⟨in_X10_isValue, (lwm_tables_1_6 (List.mem_of_getElem? (i := 11) rfl) rfl), (lwm_tables_1_6 (List.mem_of_getElem? (i := 12) rfl) rfl), by decide +kernel⟩
theorem ml_X10_175 : pm_lV RX10 175 M_X10_notes 4 := ⟨in_X10_notes, (lwm_tables_1_6 (List.mem_of_getElem? (i := 14) rfl) rfl), (lwm_tables_1_6 (List.mem_of_getElem? (i := 16) rfl) rfl), (lwm_0 (List.mem_of_getElem? (i := 20) rfl) rfl), by decide +kernel⟩
theorem ml_X10_179 : pm_lS RX10 179 M_X10_puts 4 := ⟨in_X10_puts, (lwm_tables_1_6 (List.mem_of_getElem? (i := 18) rfl) rfl), (lwm_tables_1_6 (List.mem_of_getElem? (i := 19) rfl) rfl), by decide +kernel⟩
theorem ml_X10_189 : pm_lV RX10 189 M_X10_kindAt 2 := ⟨in_X10_kindAt, (lwm_tables_1_6 (List.mem_of_getElem? (i := 33) rfl) rfl), (lwm_tables_1_6 (List.mem_of_getElem? (i := 35) rfl) rfl), (lwm_0 (List.mem_of_getElem? (i := 23) rfl) rfl), by decide +kernel⟩
theorem ml_X10_200 : pm_lV RX10 200 M_X10_traps 2 := ⟨in_X10_traps, (lwm_tables_1_6 (List.mem_of_getElem? (i := 56) rfl) rfl), (lwm_tables_1_6 (List.mem_of_getElem? (i := 58) rfl) rfl), (lwm_0 (List.mem_of_getElem? (i := 28) rfl) rfl), by decide +kernel⟩
theorem ml_X10_204 : pm_lV RX10 204 M_X10_does 7 := ⟨in_X10_does, (lwm_tables_1_6 (List.mem_of_getElem? (i := 60) rfl) rfl), (lwm_tables_1_6 (List.mem_of_getElem? (i := 62) rfl) rfl), (lwm_0 (List.mem_of_getElem? (i := 29) rfl) rfl), by decide +kernel⟩
theorem ml_X10_208 : pm_lV RX10 208 M_X10_gives 4 := ⟨in_X10_gives, (lwm_tables_1_6 (List.mem_of_getElem? (i := 64) rfl) rfl), (lwm_tables_1_6 (List.mem_of_getElem? (i := 66) rfl) rfl), (lwm_0 (List.mem_of_getElem? (i := 30) rfl) rfl), by decide +kernel⟩
theorem ml_X10_211 : pm_lS RX10 211 M_X10_isOf 3 := ⟨in_X10_isOf, (lwm_tables_1_6 (List.mem_of_getElem? (i := 68) rfl) rfl), (lwm_tables_1_6 (List.mem_of_getElem? (i := 69) rfl) rfl), by decide +kernel⟩
theorem ml_X10_215 : pm_lV RX10 215 M_X10_cells 4 := ⟨in_X10_cells, (lwm_tables_1_6 (List.mem_of_getElem? (i := 71) rfl) rfl), (lwm_tables_1_6 (List.mem_of_getElem? (i := 73) rfl) rfl), (lwm_0 (List.mem_of_getElem? (i := 31) rfl) rfl), by decide +kernel⟩
theorem ml_X10_218 : pm_lV RX10 218 M_X10_goes 4 := ⟨in_X10_goes, (lwm_tables_1_6 (List.mem_of_getElem? (i := 75) rfl) rfl), (lwm_tables_1_6 (List.mem_of_getElem? (i := 77) rfl) rfl), (lwm_0 (List.mem_of_getElem? (i := 32) rfl) rfl), by decide +kernel⟩
theorem ml_X10_221 : pm_lV RX10 221 M_X10_reckons 5 := ⟨in_X10_reckons, (lwm_tables_1_6 (List.mem_of_getElem? (i := 79) rfl) rfl), (lwm_tables_1_6 (List.mem_of_getElem? (i := 81) rfl) rfl), (lwm_0 (List.mem_of_getElem? (i := 33) rfl) rfl), by decide +kernel⟩
theorem ml_X10_225 : pm_lV RX10 225 M_X10_halvings 1 := ⟨in_X10_halvings, (lwm_tables_1_6 (List.mem_of_getElem? (i := 91) rfl) rfl), (lwm_tables_1_6 (List.mem_of_getElem? (i := 93) rfl) rfl), (lwm_0 (List.mem_of_getElem? (i := 36) rfl) rfl), by decide +kernel⟩
theorem ml_X10_229 : pm_lV RX10 229 M_X10_goesWith 2 := ⟨in_X10_goesWith, (lwm_tables_1_6 (List.mem_of_getElem? (i := 87) rfl) rfl), (lwm_tables_1_6 (List.mem_of_getElem? (i := 89) rfl) rfl), (lwm_0 (List.mem_of_getElem? (i := 35) rfl) rfl), by decide +kernel⟩
theorem ml_X10_232 : pm_lV RX10 232 M_X10_heldMany 1 := ⟨in_X10_heldMany, (lwm_tables_1_6 (List.mem_of_getElem? (i := 95) rfl) rfl), (lwm_tables_1_6 (List.mem_of_getElem? (i := 97) rfl) rfl), (lwm_0 (List.mem_of_getElem? (i := 37) rfl) rfl), by decide +kernel⟩
theorem ml_X10_240 : pm_lV RX10 240 M_X10_takesInput 0 := ⟨in_X10_takesInput, (lwm_tables_1_6 (List.mem_of_getElem? (i := 41) rfl) rfl), (lwm_tables_1_6 (List.mem_of_getElem? (i := 43) rfl) rfl), (lwm_0 (List.mem_of_getElem? (i := 25) rfl) rfl), by decide +kernel⟩
theorem ml_X10_243 : pm_lV RX10 243 M_X10_draws 1 := ⟨in_X10_draws, (lwm_tables_1_6 (List.mem_of_getElem? (i := 45) rfl) rfl), (lwm_tables_1_6 (List.mem_of_getElem? (i := 47) rfl) rfl), (lwm_0 (List.mem_of_getElem? (i := 26) rfl) rfl), by decide +kernel⟩
theorem ml_X10_247 : pm_lV RX10 247 M_X10_steps 3 := ⟨in_X10_steps, (lwm_tables_1_6 (List.mem_of_getElem? (i := 51) rfl) rfl), (lwm_tables_1_6 (List.mem_of_getElem? (i := 53) rfl) rfl), (lwm_0 (List.mem_of_getElem? (i := 27) rfl) rfl), by decide +kernel⟩
theorem ml_X10_251 : pm_lV RX10 251 M_X10_comes 0 := ⟨in_X10_comes, (lwm_tables_1_6 (List.mem_of_getElem? (i := 83) rfl) rfl), (lwm_tables_1_6 (List.mem_of_getElem? (i := 85) rfl) rfl), (lwm_0 (List.mem_of_getElem? (i := 34) rfl) rfl), by decide +kernel⟩
theorem ml_X10_254 : pm_lV RX10 254 M_X10_watchedChanges 0 := ⟨in_X10_watchedChanges, (lwm_tables_1_6 (List.mem_of_getElem? (i := 25) rfl) rfl), (lwm_tables_1_6 (List.mem_of_getElem? (i := 27) rfl) rfl), (lwm_0 (List.mem_of_getElem? (i := 21) rfl) rfl), by decide +kernel⟩
theorem ml_X10_258 : pm_lV RX10 258 M_X10_status 0 := ⟨in_X10_status, (lwm_tables_1_6 (List.mem_of_getElem? (i := 29) rfl) rfl), (lwm_tables_1_6 (List.mem_of_getElem? (i := 31) rfl) rfl), (lwm_0 (List.mem_of_getElem? (i := 22) rfl) rfl), by decide +kernel⟩
theorem ml_X10_261 : pm_lV RX10 261 M_X10_goesOn 0 := ⟨in_X10_goesOn, (lwm_tables_1_6 (List.mem_of_getElem? (i := 37) rfl) rfl), (lwm_tables_1_6 (List.mem_of_getElem? (i := 39) rfl) rfl), (lwm_0 (List.mem_of_getElem? (i := 24) rfl) rfl), by decide +kernel⟩
theorem ml_X10_267 : pm_lV RX10 267 M_X10_simPokes 0 := ⟨in_X10_simPokes, (lwm_tables_1_6 (List.mem_of_getElem? (i := 128) rfl) rfl), (lwm_tables_1_6 (List.mem_of_getElem? (i := 130) rfl) rfl), (lwm_0 (List.mem_of_getElem? (i := 43) rfl) rfl), by decide +kernel⟩
theorem ml_X10_270 : pm_lV RX10 270 M_X10_simBegins 1 := ⟨in_X10_simBegins, (lwm_tables_1_6 (List.mem_of_getElem? (i := 124) rfl) rfl), (lwm_tables_1_6 (List.mem_of_getElem? (i := 126) rfl) rfl), (lwm_0 (List.mem_of_getElem? (i := 42) rfl) rfl), by decide +kernel⟩
theorem ml_X10_273 : pm_lV RX10 273 M_X10_simStep 0 := ⟨in_X10_simStep, (lwm_tables_1_6 (List.mem_of_getElem? (i := 132) rfl) rfl), (lwm_tables_1_6 (List.mem_of_getElem? (i := 134) rfl) rfl), (lwm_0 (List.mem_of_getElem? (i := 44) rfl) rfl), by decide +kernel⟩
theorem ml_X10_279 : pm_lV RX10 279 M_X10_heldBy 2 := ⟨in_X10_heldBy, (lwm_tables_1_6 (List.mem_of_getElem? (i := 112) rfl) rfl), (lwm_tables_1_6 (List.mem_of_getElem? (i := 114) rfl) rfl), (lwm_0 (List.mem_of_getElem? (i := 39) rfl) rfl), by decide +kernel⟩
theorem ml_X10_282 : pm_lV RX10 282 M_X10_counts 2 := ⟨in_X10_counts, (lwm_tables_1_6 (List.mem_of_getElem? (i := 116) rfl) rfl), (lwm_tables_1_6 (List.mem_of_getElem? (i := 118) rfl) rfl), (lwm_0 (List.mem_of_getElem? (i := 40) rfl) rfl), by decide +kernel⟩
theorem ml_X10_286 : pm_lV RX10 286 M_X10_lays 2 := ⟨in_X10_lays, (lwm_tables_1_6 (List.mem_of_getElem? (i := 120) rfl) rfl), (lwm_tables_1_6 (List.mem_of_getElem? (i := 122) rfl) rfl), (lwm_0 (List.mem_of_getElem? (i := 41) rfl) rfl), by decide +kernel⟩
theorem ml_X10_289 : pm_lV RX10 289 M_X10_runAsked 0 := ⟨in_X10_runAsked, (lwm_tables_1_6 (List.mem_of_getElem? (i := 155) rfl) rfl), (lwm_tables_1_6 (List.mem_of_getElem? (i := 157) rfl) rfl), (lwm_0 (List.mem_of_getElem? (i := 46) rfl) rfl), by decide +kernel⟩
theorem ml_X10_292 : pm_lV RX10 292 M_X10_replays 2 := ⟨in_X10_replays, (lwm_tables_1_6 (List.mem_of_getElem? (i := 108) rfl) rfl), (lwm_tables_1_6 (List.mem_of_getElem? (i := 110) rfl) rfl), (lwm_0 (List.mem_of_getElem? (i := 38) rfl) rfl), by decide +kernel⟩
theorem ml_X10_298 : pm_lS RX10 298 M_X10_copies 4 := ⟨in_X10_copies, (lwm_tables_1_6 (List.mem_of_getElem? (i := 140) rfl) rfl), (lwm_tables_1_6 (List.mem_of_getElem? (i := 141) rfl) rfl), by decide +kernel⟩
theorem ml_X10_301 : pm_lV RX10 301 M_X10_isTime 1 := ⟨in_X10_isTime, (lwm_tables_1_6 (List.mem_of_getElem? (i := 151) rfl) rfl), (lwm_tables_1_6 (List.mem_of_getElem? (i := 153) rfl) rfl), (lwm_0 (List.mem_of_getElem? (i := 45) rfl) rfl), by decide +kernel⟩
theorem ml_X10_305 : pm_lV RX10 305 M_X10_lastOf 2 := ⟨in_X10_lastOf, (lwm_tables_1_6 (List.mem_of_getElem? (i := 168) rfl) rfl), (lwm_tables_1_6 (List.mem_of_getElem? (i := 170) rfl) rfl), (lwm_0 (List.mem_of_getElem? (i := 47) rfl) rfl), by decide +kernel⟩
theorem ml_X10_308 : pm_lV RX10 308 M_X10_hadIn 6 := ⟨in_X10_hadIn, (lwm_tables_1_6 (List.mem_of_getElem? (i := 176) rfl) rfl), (lwm_tables_1_6 (List.mem_of_getElem? (i := 178) rfl) rfl), (lwm_0 (List.mem_of_getElem? (i := 48) rfl) rfl), by decide +kernel⟩
theorem ml_X10_312 : pm_lV RX10 312 M_X10_clearsLooked 0 := ⟨in_X10_clearsLooked, (lwm_tables_1_6 (List.mem_of_getElem? (i := 200) rfl) rfl), (lwm_tables_1_6 (List.mem_of_getElem? (i := 202) rfl) rfl), (lwm_0 (List.mem_of_getElem? (i := 51) rfl) rfl), by decide +kernel⟩
theorem ml_X10_315 : pm_lV RX10 315 M_X10_adds 1 := ⟨in_X10_adds, (lwm_tables_1_6 (List.mem_of_getElem? (i := 204) rfl) rfl), (lwm_tables_1_6 (List.mem_of_getElem? (i := 206) rfl) rfl), (lwm_0 (List.mem_of_getElem? (i := 52) rfl) rfl), by decide +kernel⟩
theorem ml_X10_318 : pm_lV RX10 318 M_X10_restsOn 1 := ⟨in_X10_restsOn, (lwm_tables_1_6 (List.mem_of_getElem? (i := 208) rfl) rfl), (lwm_tables_1_6 (List.mem_of_getElem? (i := 210) rfl) rfl), (lwm_0 (List.mem_of_getElem? (i := 53) rfl) rfl), by decide +kernel⟩
theorem ml_X10_321 : pm_lV RX10 321 M_X10_looksAt 1 := ⟨in_X10_looksAt, (lwm_tables_1_6 (List.mem_of_getElem? (i := 216) rfl) rfl), (lwm_tables_1_6 (List.mem_of_getElem? (i := 218) rfl) rfl), (lwm_0 (List.mem_of_getElem? (i := 55) rfl) rfl), by decide +kernel⟩
theorem ml_X10_324 : pm_lV RX10 324 M_X10_restPokes 0 := ⟨in_X10_restPokes, (lwm_tables_1_6 (List.mem_of_getElem? (i := 196) rfl) rfl), (lwm_tables_1_6 (List.mem_of_getElem? (i := 198) rfl) rfl), (lwm_0 (List.mem_of_getElem? (i := 50) rfl) rfl), by decide +kernel⟩
theorem ml_X10_327 : pm_lV RX10 327 M_X10_looks 0 := ⟨in_X10_looks, (lwm_tables_1_6 (List.mem_of_getElem? (i := 212) rfl) rfl), (lwm_tables_1_6 (List.mem_of_getElem? (i := 214) rfl) rfl), (lwm_0 (List.mem_of_getElem? (i := 54) rfl) rfl), by decide +kernel⟩
theorem ml_X10_330 : pm_lV RX10 330 M_X10_laysRests 2 := ⟨in_X10_laysRests, (lwm_tables_1_6 (List.mem_of_getElem? (i := 192) rfl) rfl), (lwm_tables_1_6 (List.mem_of_getElem? (i := 194) rfl) rfl), (lwm_0 (List.mem_of_getElem? (i := 49) rfl) rfl), by decide +kernel⟩
theorem ml_X10_333 : pm_lV RX10 333 M_X10_restsOnBit 2 := ⟨in_X10_restsOnBit, (lwm_tables_1_6 (List.mem_of_getElem? (i := 220) rfl) rfl), (lwm_tables_1_6 (List.mem_of_getElem? (i := 222) rfl) rfl), (lwm_0 (List.mem_of_getElem? (i := 56) rfl) rfl), by decide +kernel⟩
theorem ml_X10_336 : pm_lV RX10 336 M_X10_wouldBe 3 := ⟨in_X10_wouldBe, (lwm_tables_1_7 (List.mem_of_getElem? (i := 16) rfl) rfl), (lwm_tables_1_7 (List.mem_of_getElem? (i := 18) rfl) rfl), (lwm_0 (List.mem_of_getElem? (i := 58) rfl) rfl), by decide +kernel⟩
theorem ml_X10_339 : pm_lV RX10 339 M_X10_wouldOf 3 := ⟨in_X10_wouldOf, (lwm_tables_1_7 (List.mem_of_getElem? (i := 12) rfl) rfl), (lwm_tables_1_7 (List.mem_of_getElem? (i := 14) rfl) rfl), (lwm_0 (List.mem_of_getElem? (i := 57) rfl) rfl), by decide +kernel⟩
theorem ml_X10_349 : pm_lV RX10 349 M_X10_areLike 2 := ⟨in_X10_areLike, (lwm_tables_1_7 (List.mem_of_getElem? (i := 40) rfl) rfl), (lwm_tables_1_7 (List.mem_of_getElem? (i := 42) rfl) rfl), (lwm_0 (List.mem_of_getElem? (i := 61) rfl) rfl), by decide +kernel⟩
theorem ml_X10_352 : pm_lV RX10 352 M_X10_isThere 1 := ⟨in_X10_isThere, (lwm_tables_1_7 (List.mem_of_getElem? (i := 32) rfl) rfl), (lwm_tables_1_7 (List.mem_of_getElem? (i := 34) rfl) rfl), (lwm_0 (List.mem_of_getElem? (i := 59) rfl) rfl), by decide +kernel⟩
theorem ml_X10_355 : pm_lV RX10 355 M_X10_laysPairs 2 := ⟨in_X10_laysPairs, (lwm_tables_1_7 (List.mem_of_getElem? (i := 36) rfl) rfl), (lwm_tables_1_7 (List.mem_of_getElem? (i := 38) rfl) rfl), (lwm_0 (List.mem_of_getElem? (i := 60) rfl) rfl), by decide +kernel⟩
theorem ml_X10_364 : pm_lV RX10 364 M_X10_finds 1 := ⟨in_X10_finds, (lwm_tables_1_7 (List.mem_of_getElem? (i := 48) rfl) rfl), (lwm_tables_1_7 (List.mem_of_getElem? (i := 50) rfl) rfl), (lwm_0 (List.mem_of_getElem? (i := 62) rfl) rfl), by decide +kernel⟩
theorem ml_X10_373 : pm_lV RX10 373 M_X10_swaps 0 := ⟨in_X10_swaps, (lwm_tables_1_7 (List.mem_of_getElem? (i := 56) rfl) rfl), (lwm_tables_1_7 (List.mem_of_getElem? (i := 58) rfl) rfl), (lwm_0 (List.mem_of_getElem? (i := 63) rfl) rfl), by decide +kernel⟩
theorem ml_X10_376 : pm_lV RX10 376 M_X10_areStatesLike 0 := ⟨in_X10_areStatesLike, (lwm_tables_1_7 (List.mem_of_getElem? (i := 60) rfl) rfl), (lwm_tables_1_7 (List.mem_of_getElem? (i := 62) rfl) rfl), (lwm_0 (List.mem_of_getElem? (i := 64) rfl) rfl), by decide +kernel⟩
theorem ml_X10_380 : pm_lV RX10 380 M_X10_ofRun 2 := ⟨in_X10_ofRun, (lwm_tables_1_7 (List.mem_of_getElem? (i := 68) rfl) rfl), (lwm_tables_1_7 (List.mem_of_getElem? (i := 70) rfl) rfl), (lwm_0 (List.mem_of_getElem? (i := 65) rfl) rfl), by decide +kernel⟩
theorem ml_X10_383 : pm_lV RX10 383 M_X10_watchedOf 2 := ⟨in_X10_watchedOf, (lwm_tables_1_7 (List.mem_of_getElem? (i := 72) rfl) rfl), (lwm_tables_1_7 (List.mem_of_getElem? (i := 74) rfl) rfl), (lwm_0 (List.mem_of_getElem? (i := 66) rfl) rfl), by decide +kernel⟩
theorem kc_X9_168 : Cond.constant RX9 168 (-1000001) ∈ lw_g := (lwm_tables_1_4 (List.mem_of_getElem? (i := 25) rfl) rfl)
theorem kc_X3_44 : Cond.constant RX3 44 (-1000001) ∈ lw_g := (lwm_tables_1_4 (List.mem_of_getElem? (i := 160) rfl) rfl)
theorem kc_X4_25 : Cond.constant RX4 25 (1664525) ∈ lw_g := (lwm_tables_1_3 (List.mem_of_getElem? (i := 69) rfl) rfl)
theorem kc_X4_26 : Cond.constant RX4 26 (1013904223) ∈ lw_g := (lwm_tables_1_3 (List.mem_of_getElem? (i := 70) rfl) rfl)
theorem kc_X7_121 : Cond.constant RX7 121 (-1000001) ∈ lw_g := (lwm_tables_1_3 (List.mem_of_getElem? (i := 112) rfl) rfl)
theorem kc_X10_238 : Cond.constant RX10 238 (1664525) ∈ lw_g := (lwm_tables_1_6 (List.mem_of_getElem? (i := 49) rfl) rfl)
theorem kc_X10_239 : Cond.constant RX10 239 (1013904223) ∈ lw_g := (lwm_tables_1_6 (List.mem_of_getElem? (i := 50) rfl) rfl)
theorem kc_X10_304 : Cond.constant RX10 304 (-1000001) ∈ lw_g := (lwm_tables_1_6 (List.mem_of_getElem? (i := 159) rfl) rfl)
end
section
theorem dX10_heldAt_0 : decode cX10_heldAt 0 = .ok (.sipush 3001, 3) := by decide +kernel
theorem dX10_heldAt_3 : decode cX10_heldAt 3 = .ok (.iload_n 0, 1) := by decide +kernel
theorem dX10_heldAt_4 : decode cX10_heldAt 4 = .ok (.imul, 1) := by decide +kernel
theorem dX10_heldAt_5 : decode cX10_heldAt 5 = .ok (.iload_n 1, 1) := by decide +kernel
theorem dX10_heldAt_6 : decode cX10_heldAt 6 = .ok (.iadd, 1) := by decide +kernel
theorem dX10_heldAt_7 : decode cX10_heldAt 7 = .ok (.ireturn, 1) := by decide +kernel
theorem dX10_isIn_0 : decode cX10_isIn 0 = .ok (.iload_n 0, 1) := by decide +kernel
theorem dX10_isIn_1 : decode cX10_isIn 1 = .ok (.iload_n 1, 1) := by decide +kernel
theorem dX10_isIn_2 : decode cX10_isIn 2 = .ok (.if_icmp .lt 12, 3) := by decide +kernel
theorem dX10_isIn_5 : decode cX10_isIn 5 = .ok (.iload_n 0, 1) := by decide +kernel
theorem dX10_isIn_6 : decode cX10_isIn 6 = .ok (.iload_n 2, 1) := by decide +kernel
theorem dX10_isIn_7 : decode cX10_isIn 7 = .ok (.if_icmp .gt 7, 3) := by decide +kernel
theorem dX10_isIn_10 : decode cX10_isIn 10 = .ok (.iconst 1, 1) := by decide +kernel
theorem dX10_isIn_11 : decode cX10_isIn 11 = .ok (.goto 4, 3) := by decide +kernel
theorem dX10_isIn_14 : decode cX10_isIn 14 = .ok (.iconst 0, 1) := by decide +kernel
theorem dX10_isIn_15 : decode cX10_isIn 15 = .ok (.ireturn, 1) := by decide +kernel
theorem dX10_isPlace_0 : decode cX10_isPlace 0 = .ok (.iload_n 0, 1) := by decide +kernel
theorem dX10_isPlace_1 : decode cX10_isPlace 1 = .ok (.iconst 0, 1) := by decide +kernel
theorem dX10_isPlace_2 : decode cX10_isPlace 2 = .ok (.bipush 39, 2) := by decide +kernel
theorem dX10_isPlace_4 : decode cX10_isPlace 4 = .ok (.invokestatic 138, 3) := by decide +kernel
theorem dX10_isPlace_7 : decode cX10_isPlace 7 = .ok (.ireturn, 1) := by decide +kernel
theorem dX10_isRegister_0 : decode cX10_isRegister 0 = .ok (.iload_n 0, 1) := by decide +kernel
theorem dX10_isRegister_1 : decode cX10_isRegister 1 = .ok (.iconst 0, 1) := by decide +kernel
theorem dX10_isRegister_2 : decode cX10_isRegister 2 = .ok (.bipush 7, 2) := by decide +kernel
theorem dX10_isRegister_4 : decode cX10_isRegister 4 = .ok (.invokestatic 138, 3) := by decide +kernel
theorem dX10_isRegister_7 : decode cX10_isRegister 7 = .ok (.ireturn, 1) := by decide +kernel
theorem dX10_isSpacing_0 : decode cX10_isSpacing 0 = .ok (.iload_n 0, 1) := by decide +kernel
theorem dX10_isSpacing_1 : decode cX10_isSpacing 1 = .ok (.iconst 1, 1) := by decide +kernel
theorem dX10_isSpacing_2 : decode cX10_isSpacing 2 = .ok (.bipush 64, 2) := by decide +kernel
theorem dX10_isSpacing_4 : decode cX10_isSpacing 4 = .ok (.invokestatic 138, 3) := by decide +kernel
theorem dX10_isSpacing_7 : decode cX10_isSpacing 7 = .ok (.ifCond .eq 17, 3) := by decide +kernel
theorem dX10_isSpacing_10 : decode cX10_isSpacing 10 = .ok (.iload_n 1, 1) := by decide +kernel
theorem dX10_isSpacing_11 : decode cX10_isSpacing 11 = .ok (.iconst 1, 1) := by decide +kernel
theorem dX10_isSpacing_12 : decode cX10_isSpacing 12 = .ok (.bipush 8, 2) := by decide +kernel
theorem dX10_isSpacing_14 : decode cX10_isSpacing 14 = .ok (.invokestatic 138, 3) := by decide +kernel
theorem dX10_isSpacing_17 : decode cX10_isSpacing 17 = .ok (.ifCond .eq 7, 3) := by decide +kernel
theorem dX10_isSpacing_20 : decode cX10_isSpacing 20 = .ok (.iconst 1, 1) := by decide +kernel
theorem dX10_isSpacing_21 : decode cX10_isSpacing 21 = .ok (.goto 4, 3) := by decide +kernel
theorem dX10_isSpacing_24 : decode cX10_isSpacing 24 = .ok (.iconst 0, 1) := by decide +kernel
theorem dX10_isSpacing_25 : decode cX10_isSpacing 25 = .ok (.ireturn, 1) := by decide +kernel
theorem dX10_isValue_0 : decode cX10_isValue 0 = .ok (.iload_n 0, 1) := by decide +kernel
theorem dX10_isValue_1 : decode cX10_isValue 1 = .ok (.ifCond .ne 15, 3) := by decide +kernel
theorem dX10_isValue_4 : decode cX10_isValue 4 = .ok (.iload_n 1, 1) := by decide +kernel
theorem dX10_isValue_5 : decode cX10_isValue 5 = .ok (.ifCond .ne 7, 3) := by decide +kernel
theorem dX10_isValue_8 : decode cX10_isValue 8 = .ok (.iconst 1, 1) := by decide +kernel
theorem dX10_isValue_9 : decode cX10_isValue 9 = .ok (.goto 31, 3) := by decide +kernel
theorem dX10_isValue_12 : decode cX10_isValue 12 = .ok (.iconst 0, 1) := by decide +kernel
theorem dX10_isValue_13 : decode cX10_isValue 13 = .ok (.goto 27, 3) := by decide +kernel
theorem dX10_isValue_16 : decode cX10_isValue 16 = .ok (.iload_n 0, 1) := by decide +kernel
theorem dX10_isValue_17 : decode cX10_isValue 17 = .ok (.iconst 1, 1) := by decide +kernel
theorem dX10_isValue_18 : decode cX10_isValue 18 = .ok (.if_icmp .ne 12, 3) := by decide +kernel
theorem dX10_isValue_21 : decode cX10_isValue 21 = .ok (.iload_n 1, 1) := by decide +kernel
theorem dX10_isValue_22 : decode cX10_isValue 22 = .ok (.iconst 0, 1) := by decide +kernel
theorem dX10_isValue_23 : decode cX10_isValue 23 = .ok (.iconst 1, 1) := by decide +kernel
theorem dX10_isValue_24 : decode cX10_isValue 24 = .ok (.invokestatic 138, 3) := by decide +kernel
theorem dX10_isValue_27 : decode cX10_isValue 27 = .ok (.goto 13, 3) := by decide +kernel
theorem dX10_isValue_30 : decode cX10_isValue 30 = .ok (.iload_n 0, 1) := by decide +kernel
theorem dX10_isValue_31 : decode cX10_isValue 31 = .ok (.iconst 2, 1) := by decide +kernel
theorem dX10_isValue_32 : decode cX10_isValue 32 = .ok (.if_icmp .ne 7, 3) := by decide +kernel
theorem dX10_isValue_35 : decode cX10_isValue 35 = .ok (.iconst 1, 1) := by decide +kernel
theorem dX10_isValue_36 : decode cX10_isValue 36 = .ok (.goto 4, 3) := by decide +kernel
theorem dX10_isValue_39 : decode cX10_isValue 39 = .ok (.iconst 0, 1) := by decide +kernel
theorem dX10_isValue_40 : decode cX10_isValue 40 = .ok (.ireturn, 1) := by decide +kernel
theorem dX10_one_0 : decode cX10_one 0 = .ok (.iload_n 0, 1) := by decide +kernel
theorem dX10_one_1 : decode cX10_one 1 = .ok (.ifCond .eq 7, 3) := by decide +kernel
theorem dX10_one_4 : decode cX10_one 4 = .ok (.iconst 1, 1) := by decide +kernel
theorem dX10_one_5 : decode cX10_one 5 = .ok (.goto 4, 3) := by decide +kernel
theorem dX10_one_8 : decode cX10_one 8 = .ok (.iconst 0, 1) := by decide +kernel
theorem dX10_one_9 : decode cX10_one 9 = .ok (.ireturn, 1) := by decide +kernel
def md_isIn (v lo hi : Int32) : Int32 := if lo ≤ v ∧ v ≤ hi then 1 else 0
theorem md_isIn_0 {v lo hi : Int32} : md_isIn v lo hi = 0 ↔ ¬ (lo ≤ v ∧ v ≤ hi) := by
  unfold md_isIn; split <;> simp_all
theorem md_isIn_b {v lo hi : Int32} : md_isIn v lo hi = 0 ∨ md_isIn v lo hi = 1 := by
  unfold md_isIn; split <;> simp
set_option maxHeartbeats 4000000 in
set_option maxRecDepth 100000 in
theorem k_X10_isIn {gs : List String} {ro : pm_RO} (n : Nat) (w : Nat → va_E) (v lo hi : Int32) : pm_Met gs ro M_X10_isIn 0 0 0 [.int v, .int lo, .int hi] n w (fun rr n1 w1 => n1 = n ∧ w1 = w ∧ rr = some (.int (md_isIn v lo hi))) := by
  refine pm_ofX in_X10_isIn (Nat.le_of_ble_eq_true rfl) rfl (L := [some (.int v), some (.int lo), some (.int hi)]) rfl ?_
  refine pm_iload_n dX10_isIn_0 rfl ?_
  refine pm_iload_n dX10_isIn_1 rfl ?_
  refine pm_icmp_lt (tgt := 14) dX10_isIn_2 (by decide) (fun c_2 => ?_) (fun c_2 => ?_)
  · refine pm_iconst (v := 0) dX10_isIn_14 (by decide) ?_
    refine pm_zret dX10_isIn_15 rfl (Or.inl rfl) (Nat.zero_le _) (Nat.zero_le _) ?_
    refine ⟨rfl, rfl, ?_⟩
    unfold md_isIn
    simp only [Int32.lt_iff_toInt_lt, Int32.le_iff_toInt_le] at *
    split
    · first | rfl | (exfalso; omega)
    · first | rfl | (exfalso; omega)
  · refine pm_iload_n dX10_isIn_5 rfl ?_
    refine pm_iload_n dX10_isIn_6 rfl ?_
    refine pm_icmp_gt (tgt := 14) dX10_isIn_7 (by decide) (fun c_7 => ?_) (fun c_7 => ?_)
    · refine pm_iconst (v := 0) dX10_isIn_14 (by decide) ?_
      refine pm_zret dX10_isIn_15 rfl (Or.inl rfl) (Nat.zero_le _) (Nat.zero_le _) ?_
      refine ⟨rfl, rfl, ?_⟩
      unfold md_isIn
      simp only [Int32.lt_iff_toInt_lt, Int32.le_iff_toInt_le] at *
      split
      · first | rfl | (exfalso; omega)
      · first | rfl | (exfalso; omega)
    · refine pm_iconst (v := 1) dX10_isIn_10 (by decide) ?_
      refine pm_goto (tgt := 15) dX10_isIn_11 (by decide) ?_
      refine pm_zret dX10_isIn_15 rfl (Or.inr rfl) (Nat.zero_le _) (Nat.zero_le _) ?_
      refine ⟨rfl, rfl, ?_⟩
      unfold md_isIn
      simp only [Int32.lt_iff_toInt_lt, Int32.le_iff_toInt_le] at *
      split
      · first | rfl | (exfalso; omega)
      · first | rfl | (exfalso; omega)
def md_one (v : Int32) : Int32 := if v = 0 then 0 else 1
set_option maxHeartbeats 4000000 in
set_option maxRecDepth 100000 in
theorem k_X10_one {gs : List String} {ro : pm_RO} (n : Nat) (w : Nat → va_E) (v : Int32) : pm_Met gs ro M_X10_one 0 0 0 [.int v] n w (fun rr n1 w1 => n1 = n ∧ w1 = w ∧ rr = some (.int (md_one v))) := by
  refine pm_ofX in_X10_one (Nat.le_of_ble_eq_true rfl) rfl (L := [some (.int v)]) rfl ?_
  refine pm_iload_n dX10_one_0 rfl ?_
  refine pm_if_eq (tgt := 8) dX10_one_1 (by decide) (fun c_1 => ?_) (fun c_1 => ?_)
  · refine pm_iconst (v := 0) dX10_one_8 (by decide) ?_
    refine pm_iret dX10_one_9 rfl (Nat.zero_le _) (Nat.zero_le _) ?_
    refine ⟨rfl, rfl, ?_⟩
    unfold md_one
    simp_all
  · refine pm_iconst (v := 1) dX10_one_4 (by decide) ?_
    refine pm_goto (tgt := 9) dX10_one_5 (by decide) ?_
    refine pm_iret dX10_one_9 rfl (Nat.zero_le _) (Nat.zero_le _) ?_
    refine ⟨rfl, rfl, ?_⟩
    unfold md_one
    simp_all
def md_isRegister (v : Int32) : Int32 := md_isIn v 0 7
theorem md_isRegister_b {v : Int32} : md_isRegister v = 0 ∨ md_isRegister v = 1 := md_isIn_b
set_option maxHeartbeats 4000000 in
set_option maxRecDepth 100000 in
theorem k_X10_isRegister {gs : List String} {ro : pm_RO} (n : Nat) (w : Nat → va_E) (v : Int32) : pm_Met gs ro M_X10_isRegister 1 0 0 [.int v] n w (fun rr n1 w1 => n1 = n ∧ w1 = w ∧ rr = some (.int (md_isRegister v))) := by
  refine pm_ofX in_X10_isRegister (Nat.le_of_ble_eq_true rfl) rfl (L := [some (.int v)]) rfl ?_
  refine pm_iload_n dX10_isRegister_0 rfl ?_
  refine pm_iconst (v := 0) dX10_isRegister_1 (by decide) ?_
  refine pm_bipush (v := 7) dX10_isRegister_2 (by decide) ?_
  refine pm_callS (M := M_X10_isRegister) (Mc := M_X10_isIn) (roc := ro) (dc := 0) (mcc := 0) (msc := 0) (As := [.int v, .int 0, .int 7]) (st := []) dX10_isRegister_4 ml_X10_138 (fun _ _ h => h) (by decide) (Nat.le_refl _) (Nat.le_refl _) (Nat.le_of_ble_eq_true rfl) rfl (k_X10_isIn _ _ _ _ _) (fun r n1 w1 hq _ => ?_)
  obtain ⟨rfl, rfl, rfl⟩ := hq
  dsimp only [Option.toList, List.cons_append, List.nil_append]
  refine pm_zret dX10_isRegister_7 rfl (md_isIn_b) (Nat.zero_le _) (Nat.zero_le _) ?_
  refine ⟨rfl, rfl, ?_⟩
  rfl
def md_isPlace (v : Int32) : Int32 := md_isIn v 0 39
set_option maxHeartbeats 4000000 in
set_option maxRecDepth 100000 in
theorem k_X10_isPlace {gs : List String} {ro : pm_RO} (n : Nat) (w : Nat → va_E) (v : Int32) : pm_Met gs ro M_X10_isPlace 1 0 0 [.int v] n w (fun rr n1 w1 => n1 = n ∧ w1 = w ∧ rr = some (.int (md_isPlace v))) := by
  refine pm_ofX in_X10_isPlace (Nat.le_of_ble_eq_true rfl) rfl (L := [some (.int v)]) rfl ?_
  refine pm_iload_n dX10_isPlace_0 rfl ?_
  refine pm_iconst (v := 0) dX10_isPlace_1 (by decide) ?_
  refine pm_bipush (v := 39) dX10_isPlace_2 (by decide) ?_
  refine pm_callS (M := M_X10_isPlace) (Mc := M_X10_isIn) (roc := ro) (dc := 0) (mcc := 0) (msc := 0) (As := [.int v, .int 0, .int 39]) (st := []) dX10_isPlace_4 ml_X10_138 (fun _ _ h => h) (by decide) (Nat.le_refl _) (Nat.le_refl _) (Nat.le_of_ble_eq_true rfl) rfl (k_X10_isIn _ _ _ _ _) (fun r n1 w1 hq _ => ?_)
  obtain ⟨rfl, rfl, rfl⟩ := hq
  dsimp only [Option.toList, List.cons_append, List.nil_append]
  refine pm_zret dX10_isPlace_7 rfl (md_isIn_b) (Nat.zero_le _) (Nat.zero_le _) ?_
  refine ⟨rfl, rfl, ?_⟩
  rfl
def md_heldAt (r k : Int32) : Int32 := 3001 * r + k
set_option maxHeartbeats 4000000 in
set_option maxRecDepth 100000 in
theorem k_X10_heldAt {gs : List String} {ro : pm_RO} (n : Nat) (w : Nat → va_E) (r k : Int32) : pm_Met gs ro M_X10_heldAt 0 0 0 [.int r, .int k] n w (fun rr n1 w1 => n1 = n ∧ w1 = w ∧ rr = some (.int (md_heldAt r k))) := by
  refine pm_ofX in_X10_heldAt (Nat.le_of_ble_eq_true rfl) rfl (L := [some (.int r), some (.int k)]) rfl ?_
  refine pm_sipush (v := 3001) dX10_heldAt_0 (by decide) ?_
  refine pm_iload_n dX10_heldAt_3 rfl ?_
  refine pm_imul dX10_heldAt_4 ?_
  refine pm_iload_n dX10_heldAt_5 rfl ?_
  refine pm_iadd dX10_heldAt_6 ?_
  refine pm_iret dX10_heldAt_7 rfl (Nat.zero_le _) (Nat.zero_le _) ?_
  refine ⟨rfl, rfl, ?_⟩
  rfl
def md_isSpacing (a b : Int32) : Int32 := if md_isIn a 1 64 = 0 then 0 else md_isIn b 1 8
theorem md_isSpacing_b {a b : Int32} : md_isSpacing a b = 0 ∨ md_isSpacing a b = 1 := by
  unfold md_isSpacing; split
  · exact Or.inl rfl
  · exact md_isIn_b
set_option maxHeartbeats 4000000 in
set_option maxRecDepth 100000 in
theorem k_X10_isSpacing {gs : List String} {ro : pm_RO} (n : Nat) (w : Nat → va_E) (a b : Int32) : pm_Met gs ro M_X10_isSpacing 1 0 0 [.int a, .int b] n w (fun rr n1 w1 => n1 = n ∧ w1 = w ∧ rr = some (.int (md_isSpacing a b))) := by
  refine pm_ofX in_X10_isSpacing (Nat.le_of_ble_eq_true rfl) rfl (L := [some (.int a), some (.int b)]) rfl ?_
  refine pm_iload_n dX10_isSpacing_0 rfl ?_
  refine pm_iconst (v := 1) dX10_isSpacing_1 (by decide) ?_
  refine pm_bipush (v := 64) dX10_isSpacing_2 (by decide) ?_
  refine pm_callS (M := M_X10_isSpacing) (Mc := M_X10_isIn) (roc := ro) (dc := 0) (mcc := 0) (msc := 0) (As := [.int a, .int 1, .int 64]) (st := []) dX10_isSpacing_4 ml_X10_138 (fun _ _ h => h) (by decide) (Nat.le_refl _) (Nat.le_refl _) (Nat.le_of_ble_eq_true rfl) rfl (k_X10_isIn _ _ _ _ _) (fun r n1 w1 hq _ => ?_)
  obtain ⟨rfl, rfl, rfl⟩ := hq
  dsimp only [Option.toList, List.cons_append, List.nil_append]
  refine pm_if_eq (tgt := 24) dX10_isSpacing_7 (by decide) (fun c_7 => ?_) (fun c_7 => ?_)
  · refine pm_iconst (v := 0) dX10_isSpacing_24 (by decide) ?_
    refine pm_zret dX10_isSpacing_25 rfl (Or.inl rfl) (Nat.zero_le _) (Nat.zero_le _) ?_
    refine ⟨rfl, rfl, ?_⟩
    unfold md_isSpacing
    rcases md_isIn_b (v := b) (lo := 1) (hi := 8) with q | q <;> simp_all
  · refine pm_iload_n dX10_isSpacing_10 rfl ?_
    refine pm_iconst (v := 1) dX10_isSpacing_11 (by decide) ?_
    refine pm_bipush (v := 8) dX10_isSpacing_12 (by decide) ?_
    refine pm_callS (M := M_X10_isSpacing) (Mc := M_X10_isIn) (roc := ro) (dc := 0) (mcc := 0) (msc := 0) (As := [.int b, .int 1, .int 8]) (st := []) dX10_isSpacing_14 ml_X10_138 (fun _ _ h => h) (by decide) (Nat.le_refl _) (Nat.le_refl _) (Nat.le_of_ble_eq_true rfl) rfl (k_X10_isIn _ _ _ _ _) (fun r n1 w1 hq _ => ?_)
    obtain ⟨rfl, rfl, rfl⟩ := hq
    dsimp only [Option.toList, List.cons_append, List.nil_append]
    refine pm_if_eq (tgt := 24) dX10_isSpacing_17 (by decide) (fun c_17 => ?_) (fun c_17 => ?_)
    · refine pm_iconst (v := 0) dX10_isSpacing_24 (by decide) ?_
      refine pm_zret dX10_isSpacing_25 rfl (Or.inl rfl) (Nat.zero_le _) (Nat.zero_le _) ?_
      refine ⟨rfl, rfl, ?_⟩
      unfold md_isSpacing
      rcases md_isIn_b (v := b) (lo := 1) (hi := 8) with q | q <;> simp_all
    · refine pm_iconst (v := 1) dX10_isSpacing_20 (by decide) ?_
      refine pm_goto (tgt := 25) dX10_isSpacing_21 (by decide) ?_
      refine pm_zret dX10_isSpacing_25 rfl (Or.inr rfl) (Nat.zero_le _) (Nat.zero_le _) ?_
      refine ⟨rfl, rfl, ?_⟩
      unfold md_isSpacing
      rcases md_isIn_b (v := b) (lo := 1) (hi := 8) with q | q <;> simp_all
def md_isValue (s k : Int32) : Int32 := if s = 0 then (if k = 0 then 1 else 0) else if s = 1 then md_isIn k 0 1 else if s = 2 then 1 else 0
set_option maxHeartbeats 4000000 in
set_option maxRecDepth 100000 in
theorem k_X10_isValue {gs : List String} {ro : pm_RO} (n : Nat) (w : Nat → va_E) (s k : Int32) : pm_Met gs ro M_X10_isValue 1 0 0 [.int s, .int k] n w (fun rr n1 w1 => n1 = n ∧ w1 = w ∧ rr = some (.int (md_isValue s k))) := by
  refine pm_ofX in_X10_isValue (Nat.le_of_ble_eq_true rfl) rfl (L := [some (.int s), some (.int k)]) rfl ?_
  refine pm_iload_n dX10_isValue_0 rfl ?_
  refine pm_if_ne (tgt := 16) dX10_isValue_1 (by decide) (fun c_1 => ?_) (fun c_1 => ?_)
  · refine pm_iload_n dX10_isValue_16 rfl ?_
    refine pm_iconst (v := 1) dX10_isValue_17 (by decide) ?_
    refine pm_icmp_ne (tgt := 30) dX10_isValue_18 (by decide) (fun c_18 => ?_) (fun c_18 => ?_)
    · refine pm_iload_n dX10_isValue_30 rfl ?_
      refine pm_iconst (v := 2) dX10_isValue_31 (by decide) ?_
      refine pm_icmp_ne (tgt := 39) dX10_isValue_32 (by decide) (fun c_32 => ?_) (fun c_32 => ?_)
      · refine pm_iconst (v := 0) dX10_isValue_39 (by decide) ?_
        refine pm_zret dX10_isValue_40 rfl (Or.inl rfl) (Nat.zero_le _) (Nat.zero_le _) ?_
        refine ⟨rfl, rfl, ?_⟩
        unfold md_isValue
        rcases md_isIn_b (v := k) (lo := 0) (hi := 1) with q | q <;> simp_all
      · refine pm_iconst (v := 1) dX10_isValue_35 (by decide) ?_
        refine pm_goto (tgt := 40) dX10_isValue_36 (by decide) ?_
        refine pm_zret dX10_isValue_40 rfl (Or.inr rfl) (Nat.zero_le _) (Nat.zero_le _) ?_
        refine ⟨rfl, rfl, ?_⟩
        unfold md_isValue
        rcases md_isIn_b (v := k) (lo := 0) (hi := 1) with q | q <;> simp_all
    · refine pm_iload_n dX10_isValue_21 rfl ?_
      refine pm_iconst (v := 0) dX10_isValue_22 (by decide) ?_
      refine pm_iconst (v := 1) dX10_isValue_23 (by decide) ?_
      refine pm_callS (M := M_X10_isValue) (Mc := M_X10_isIn) (roc := ro) (dc := 0) (mcc := 0) (msc := 0) (As := [.int k, .int 0, .int 1]) (st := []) dX10_isValue_24 ml_X10_138 (fun _ _ h => h) (by decide) (Nat.le_refl _) (Nat.le_refl _) (Nat.le_of_ble_eq_true rfl) rfl (k_X10_isIn _ _ _ _ _) (fun r n1 w1 hq _ => ?_)
      obtain ⟨rfl, rfl, rfl⟩ := hq
      dsimp only [Option.toList, List.cons_append, List.nil_append]
      refine pm_goto (tgt := 40) dX10_isValue_27 (by decide) ?_
      refine pm_zret dX10_isValue_40 rfl (by decide) (Nat.zero_le _) (Nat.zero_le _) ?_
      refine ⟨rfl, rfl, ?_⟩
      unfold md_isValue
      rcases md_isIn_b (v := k) (lo := 0) (hi := 1) with q | q <;> simp_all
  · refine pm_iload_n dX10_isValue_4 rfl ?_
    refine pm_if_ne (tgt := 12) dX10_isValue_5 (by decide) (fun c_5 => ?_) (fun c_5 => ?_)
    · refine pm_iconst (v := 0) dX10_isValue_12 (by decide) ?_
      refine pm_goto (tgt := 40) dX10_isValue_13 (by decide) ?_
      refine pm_zret dX10_isValue_40 rfl (Or.inl rfl) (Nat.zero_le _) (Nat.zero_le _) ?_
      refine ⟨rfl, rfl, ?_⟩
      unfold md_isValue
      rcases md_isIn_b (v := k) (lo := 0) (hi := 1) with q | q <;> simp_all
    · refine pm_iconst (v := 1) dX10_isValue_8 (by decide) ?_
      refine pm_goto (tgt := 40) dX10_isValue_9 (by decide) ?_
      refine pm_zret dX10_isValue_40 rfl (Or.inr rfl) (Nat.zero_le _) (Nat.zero_le _) ?_
      refine ⟨rfl, rfl, ?_⟩
      unfold md_isValue
      rcases md_isIn_b (v := k) (lo := 0) (hi := 1) with q | q <;> simp_all
end
