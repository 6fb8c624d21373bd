section
-- ===== PART A: goes FIRST, ahead of the names: the tables' words, and 'selects' of the private methods out of them =====
/-- a private method of a class that the tables say can be made, by its rows of tables_1 -/
def lw_okq (q : MethodName × Nat) : Prop := (q.1.cls ≠ "java/lang/invoke/MethodHandle" ∧ q.1.cls ≠ "java/lang/invoke/VarHandle") ∧ Cond.instantiable q.1.cls q.2 ∈ tables_1 ∧ Cond.privateMethod q.1 ∈ tables_1 ∧ Cond.instanceMethod q.1 ∈ tables_1
theorem lw_p0 : lw_okq (⟨"RunsBack$Log", "add", "(IIIII)V"⟩, 6) := ⟨⟨by decide +kernel, by decide +kernel⟩, List.mem_of_getElem? (i := 184) (by decide +kernel), List.mem_of_getElem? (i := 426) (by decide +kernel), List.mem_of_getElem? (i := 427) (by decide +kernel)⟩
theorem lw_p1 : lw_okq (⟨"RunsBack$Puts", "has", "(I)Z"⟩, 12) := ⟨⟨by decide +kernel, by decide +kernel⟩, List.mem_of_getElem? (i := 211) (by decide +kernel), List.mem_of_getElem? (i := 451) (by decide +kernel), List.mem_of_getElem? (i := 452) (by decide +kernel)⟩
theorem lw_p2 : lw_okq (⟨"RunsBack$Run", "topAt", "(I)I"⟩, 15) := ⟨⟨by decide +kernel, by decide +kernel⟩, List.mem_of_getElem? (i := 176) (by decide +kernel), List.mem_of_getElem? (i := 573) (by decide +kernel), List.mem_of_getElem? (i := 574) (by decide +kernel)⟩
theorem lw_p3 : lw_okq (⟨"RunsBack$Holding", "dropWhatGoesBy", "(I)V"⟩, 5) := ⟨⟨by decide +kernel, by decide +kernel⟩, List.mem_of_getElem? (i := 278) (by decide +kernel), List.mem_of_getElem? (i := 608) (by decide +kernel), List.mem_of_getElem? (i := 609) (by decide +kernel)⟩
theorem lw_p4 : lw_okq (⟨"RunsBack$Holding", "has", "(I)Z"⟩, 5) := ⟨⟨by decide +kernel, by decide +kernel⟩, List.mem_of_getElem? (i := 278) (by decide +kernel), List.mem_of_getElem? (i := 616) (by decide +kernel), List.mem_of_getElem? (i := 617) (by decide +kernel)⟩
theorem lw_p5 : lw_okq (⟨"RunsBack", "isWatched", "(I)Z"⟩, 13) := ⟨⟨by decide +kernel, by decide +kernel⟩, List.mem_of_getElem? (i := 15) (by decide +kernel), List.mem_of_getElem? (i := 626) (by decide +kernel), List.mem_of_getElem? (i := 627) (by decide +kernel)⟩
theorem lw_p6 : lw_okq (⟨"RunsBack", "replay", "(LRunsBack$Run;I)V"⟩, 13) := ⟨⟨by decide +kernel, by decide +kernel⟩, List.mem_of_getElem? (i := 15) (by decide +kernel), List.mem_of_getElem? (i := 638) (by decide +kernel), List.mem_of_getElem? (i := 639) (by decide +kernel)⟩
theorem lw_p7 : lw_okq (⟨"RunsBack", "count", "(LRunsBack$Run;I)V"⟩, 13) := ⟨⟨by decide +kernel, by decide +kernel⟩, List.mem_of_getElem? (i := 15) (by decide +kernel), List.mem_of_getElem? (i := 650) (by decide +kernel), List.mem_of_getElem? (i := 651) (by decide +kernel)⟩
theorem lw_p8 : lw_okq (⟨"RunsBack$Log", "isBehind", "(II)Z"⟩, 6) := ⟨⟨by decide +kernel, by decide +kernel⟩, List.mem_of_getElem? (i := 184) (by decide +kernel), List.mem_of_getElem? (i := 662) (by decide +kernel), List.mem_of_getElem? (i := 663) (by decide +kernel)⟩
theorem lw_p9 : lw_okq (⟨"RunsBack$Calls", "has", "(I)Z"⟩, 4) := ⟨⟨by decide +kernel, by decide +kernel⟩, List.mem_of_getElem? (i := 256) (by decide +kernel), List.mem_of_getElem? (i := 686) (by decide +kernel), List.mem_of_getElem? (i := 687) (by decide +kernel)⟩
theorem lw_p10 : lw_okq (⟨"RunsBack", "isKept", "(I)Z"⟩, 13) := ⟨⟨by decide +kernel, by decide +kernel⟩, List.mem_of_getElem? (i := 15) (by decide +kernel), List.mem_of_getElem? (i := 733) (by decide +kernel), List.mem_of_getElem? (i := 734) (by decide +kernel)⟩
theorem lw_p11 : lw_okq (⟨"RunsBack", "numbered", "(I)LRunsBack$Run;"⟩, 13) := ⟨⟨by decide +kernel, by decide +kernel⟩, List.mem_of_getElem? (i := 15) (by decide +kernel), List.mem_of_getElem? (i := 741) (by decide +kernel), List.mem_of_getElem? (i := 742) (by decide +kernel)⟩
theorem lw_p12 : lw_okq (⟨"RunsBack$Puts", "aheadOf", "(I)I"⟩, 12) := ⟨⟨by decide +kernel, by decide +kernel⟩, List.mem_of_getElem? (i := 211) (by decide +kernel), List.mem_of_getElem? (i := 752) (by decide +kernel), List.mem_of_getElem? (i := 753) (by decide +kernel)⟩
theorem lw_p13 : lw_okq (⟨"RunsBack", "lastChange", "(LRunsBack$Run;II)I"⟩, 13) := ⟨⟨by decide +kernel, by decide +kernel⟩, List.mem_of_getElem? (i := 15) (by decide +kernel), List.mem_of_getElem? (i := 782) (by decide +kernel), List.mem_of_getElem? (i := 783) (by decide +kernel)⟩
theorem lw_p14 : lw_okq (⟨"RunsBack$Puts", "mark", "([ZI)V"⟩, 12) := ⟨⟨by decide +kernel, by decide +kernel⟩, List.mem_of_getElem? (i := 211) (by decide +kernel), List.mem_of_getElem? (i := 831) (by decide +kernel), List.mem_of_getElem? (i := 832) (by decide +kernel)⟩
theorem lw_p15 : lw_okq (⟨"RunsBack$Beside", "countPairs", "(LRunsBack$Calls;ILRunsBack$Calls;I)V"⟩, 6) := ⟨⟨by decide +kernel, by decide +kernel⟩, List.mem_of_getElem? (i := 68) (by decide +kernel), List.mem_of_getElem? (i := 918) (by decide +kernel), List.mem_of_getElem? (i := 919) (by decide +kernel)⟩
def lw_privs_1 : List (MethodName × Nat) := [(⟨"RunsBack$Log", "add", "(IIIII)V"⟩, 6), (⟨"RunsBack$Puts", "has", "(I)Z"⟩, 12), (⟨"RunsBack$Run", "topAt", "(I)I"⟩, 15), (⟨"RunsBack$Holding", "dropWhatGoesBy", "(I)V"⟩, 5), (⟨"RunsBack$Holding", "has", "(I)Z"⟩, 5), (⟨"RunsBack", "isWatched", "(I)Z"⟩, 13), (⟨"RunsBack", "replay", "(LRunsBack$Run;I)V"⟩, 13), (⟨"RunsBack", "count", "(LRunsBack$Run;I)V"⟩, 13), (⟨"RunsBack$Log", "isBehind", "(II)Z"⟩, 6), (⟨"RunsBack$Calls", "has", "(I)Z"⟩, 4), (⟨"RunsBack", "isKept", "(I)Z"⟩, 13), (⟨"RunsBack", "numbered", "(I)LRunsBack$Run;"⟩, 13), (⟨"RunsBack$Puts", "aheadOf", "(I)I"⟩, 12), (⟨"RunsBack", "lastChange", "(LRunsBack$Run;II)I"⟩, 13), (⟨"RunsBack$Puts", "mark", "([ZI)V"⟩, 12), (⟨"RunsBack$Beside", "countPairs", "(LRunsBack$Calls;ILRunsBack$Calls;I)V"⟩, 6)]
theorem lw_r1 : ∀ q ∈ lw_privs_1, lw_okq q := List.forall_mem_cons.mpr ⟨lw_p0, List.forall_mem_cons.mpr ⟨lw_p1, List.forall_mem_cons.mpr ⟨lw_p2, List.forall_mem_cons.mpr ⟨lw_p3, List.forall_mem_cons.mpr ⟨lw_p4, List.forall_mem_cons.mpr ⟨lw_p5, List.forall_mem_cons.mpr ⟨lw_p6, List.forall_mem_cons.mpr ⟨lw_p7, List.forall_mem_cons.mpr ⟨lw_p8, List.forall_mem_cons.mpr ⟨lw_p9, List.forall_mem_cons.mpr ⟨lw_p10, List.forall_mem_cons.mpr ⟨lw_p11, List.forall_mem_cons.mpr ⟨lw_p12, List.forall_mem_cons.mpr ⟨lw_p13, List.forall_mem_cons.mpr ⟨lw_p14, List.forall_mem_cons.mpr ⟨lw_p15, fun _ h => absurd h List.not_mem_nil⟩⟩⟩⟩⟩⟩⟩⟩⟩⟩⟩⟩⟩⟩⟩⟩
theorem lw_p16 : lw_okq (⟨"RunsBack$Beside", "choosePairs", "(LRunsBack$Calls;ILRunsBack$Calls;I)V"⟩, 6) := ⟨⟨by decide +kernel, by decide +kernel⟩, List.mem_of_getElem? (i := 68) (by decide +kernel), List.mem_of_getElem? (i := 928) (by decide +kernel), List.mem_of_getElem? (i := 929) (by decide +kernel)⟩
theorem lw_p17 : lw_okq (⟨"RunsBack$Beside", "areUnlike", "(LRunsBack$Puts;IILRunsBack$Puts;LRunsBack$Puts;)Z"⟩, 6) := ⟨⟨by decide +kernel, by decide +kernel⟩, List.mem_of_getElem? (i := 68) (by decide +kernel), List.mem_of_getElem? (i := 975) (by decide +kernel), List.mem_of_getElem? (i := 976) (by decide +kernel)⟩
theorem lw_p18 : lw_okq (⟨"RunsBack", "lookAtRun", "(LRunsBack$Run;I)I"⟩, 13) := ⟨⟨by decide +kernel, by decide +kernel⟩, List.mem_of_getElem? (i := 15) (by decide +kernel), List.mem_of_getElem? (i := 987) (by decide +kernel), List.mem_of_getElem? (i := 988) (by decide +kernel)⟩
theorem lw_p19 : lw_okq (⟨"RunsBackModel", "clears", "([I)V"⟩, 55) := ⟨⟨by decide +kernel, by decide +kernel⟩, List.mem_of_getElem? (i := 991) (by decide +kernel), List.mem_of_getElem? (i := 1193) (by decide +kernel), List.mem_of_getElem? (i := 1194) (by decide +kernel)⟩
theorem lw_p20 : lw_okq (⟨"RunsBackModel", "notes", "(IIII)V"⟩, 55) := ⟨⟨by decide +kernel, by decide +kernel⟩, List.mem_of_getElem? (i := 991) (by decide +kernel), List.mem_of_getElem? (i := 1215) (by decide +kernel), List.mem_of_getElem? (i := 1216) (by decide +kernel)⟩
theorem lw_p21 : lw_okq (⟨"RunsBackModel", "watchedChanges", "()I"⟩, 55) := ⟨⟨by decide +kernel, by decide +kernel⟩, List.mem_of_getElem? (i := 991) (by decide +kernel), List.mem_of_getElem? (i := 1226) (by decide +kernel), List.mem_of_getElem? (i := 1227) (by decide +kernel)⟩
theorem lw_p22 : lw_okq (⟨"RunsBackModel", "status", "()I"⟩, 55) := ⟨⟨by decide +kernel, by decide +kernel⟩, List.mem_of_getElem? (i := 991) (by decide +kernel), List.mem_of_getElem? (i := 1230) (by decide +kernel), List.mem_of_getElem? (i := 1231) (by decide +kernel)⟩
theorem lw_p23 : lw_okq (⟨"RunsBackModel", "kindAt", "(II)I"⟩, 55) := ⟨⟨by decide +kernel, by decide +kernel⟩, List.mem_of_getElem? (i := 991) (by decide +kernel), List.mem_of_getElem? (i := 1234) (by decide +kernel), List.mem_of_getElem? (i := 1235) (by decide +kernel)⟩
theorem lw_p24 : lw_okq (⟨"RunsBackModel", "goesOn", "()V"⟩, 55) := ⟨⟨by decide +kernel, by decide +kernel⟩, List.mem_of_getElem? (i := 991) (by decide +kernel), List.mem_of_getElem? (i := 1238) (by decide +kernel), List.mem_of_getElem? (i := 1239) (by decide +kernel)⟩
theorem lw_p25 : lw_okq (⟨"RunsBackModel", "takesInput", "()V"⟩, 55) := ⟨⟨by decide +kernel, by decide +kernel⟩, List.mem_of_getElem? (i := 991) (by decide +kernel), List.mem_of_getElem? (i := 1242) (by decide +kernel), List.mem_of_getElem? (i := 1243) (by decide +kernel)⟩
theorem lw_p26 : lw_okq (⟨"RunsBackModel", "draws", "(I)V"⟩, 55) := ⟨⟨by decide +kernel, by decide +kernel⟩, List.mem_of_getElem? (i := 991) (by decide +kernel), List.mem_of_getElem? (i := 1246) (by decide +kernel), List.mem_of_getElem? (i := 1247) (by decide +kernel)⟩
theorem lw_p27 : lw_okq (⟨"RunsBackModel", "steps", "([III)V"⟩, 55) := ⟨⟨by decide +kernel, by decide +kernel⟩, List.mem_of_getElem? (i := 991) (by decide +kernel), List.mem_of_getElem? (i := 1252) (by decide +kernel), List.mem_of_getElem? (i := 1253) (by decide +kernel)⟩
theorem lw_p28 : lw_okq (⟨"RunsBackModel", "traps", "([II)V"⟩, 55) := ⟨⟨by decide +kernel, by decide +kernel⟩, List.mem_of_getElem? (i := 991) (by decide +kernel), List.mem_of_getElem? (i := 1257) (by decide +kernel), List.mem_of_getElem? (i := 1258) (by decide +kernel)⟩
theorem lw_p29 : lw_okq (⟨"RunsBackModel", "does", "([IIIIIII)V"⟩, 55) := ⟨⟨by decide +kernel, by decide +kernel⟩, List.mem_of_getElem? (i := 991) (by decide +kernel), List.mem_of_getElem? (i := 1261) (by decide +kernel), List.mem_of_getElem? (i := 1262) (by decide +kernel)⟩
theorem lw_p30 : lw_okq (⟨"RunsBackModel", "gives", "([IIII)V"⟩, 55) := ⟨⟨by decide +kernel, by decide +kernel⟩, List.mem_of_getElem? (i := 991) (by decide +kernel), List.mem_of_getElem? (i := 1265) (by decide +kernel), List.mem_of_getElem? (i := 1266) (by decide +kernel)⟩
theorem lw_p31 : lw_okq (⟨"RunsBackModel", "cells", "([IIII)V"⟩, 55) := ⟨⟨by decide +kernel, by decide +kernel⟩, List.mem_of_getElem? (i := 991) (by decide +kernel), List.mem_of_getElem? (i := 1272) (by decide +kernel), List.mem_of_getElem? (i := 1273) (by decide +kernel)⟩
def lw_privs_2 : List (MethodName × Nat) := [(⟨"RunsBack$Beside", "choosePairs", "(LRunsBack$Calls;ILRunsBack$Calls;I)V"⟩, 6), (⟨"RunsBack$Beside", "areUnlike", "(LRunsBack$Puts;IILRunsBack$Puts;LRunsBack$Puts;)Z"⟩, 6), (⟨"RunsBack", "lookAtRun", "(LRunsBack$Run;I)I"⟩, 13), (⟨"RunsBackModel", "clears", "([I)V"⟩, 55), (⟨"RunsBackModel", "notes", "(IIII)V"⟩, 55), (⟨"RunsBackModel", "watchedChanges", "()I"⟩, 55), (⟨"RunsBackModel", "status", "()I"⟩, 55), (⟨"RunsBackModel", "kindAt", "(II)I"⟩, 55), (⟨"RunsBackModel", "goesOn", "()V"⟩, 55), (⟨"RunsBackModel", "takesInput", "()V"⟩, 55), (⟨"RunsBackModel", "draws", "(I)V"⟩, 55), (⟨"RunsBackModel", "steps", "([III)V"⟩, 55), (⟨"RunsBackModel", "traps", "([II)V"⟩, 55), (⟨"RunsBackModel", "does", "([IIIIIII)V"⟩, 55), (⟨"RunsBackModel", "gives", "([IIII)V"⟩, 55), (⟨"RunsBackModel", "cells", "([IIII)V"⟩, 55)]
theorem lw_r2 : ∀ q ∈ lw_privs_2, lw_okq q := List.forall_mem_cons.mpr ⟨lw_p16, List.forall_mem_cons.mpr ⟨lw_p17, List.forall_mem_cons.mpr ⟨lw_p18, List.forall_mem_cons.mpr ⟨lw_p19, List.forall_mem_cons.mpr ⟨lw_p20, List.forall_mem_cons.mpr ⟨lw_p21, List.forall_mem_cons.mpr ⟨lw_p22, List.forall_mem_cons.mpr ⟨lw_p23, List.forall_mem_cons.mpr ⟨lw_p24, List.forall_mem_cons.mpr ⟨lw_p25, List.forall_mem_cons.mpr ⟨lw_p26, List.forall_mem_cons.mpr ⟨lw_p27, List.forall_mem_cons.mpr ⟨lw_p28, List.forall_mem_cons.mpr ⟨lw_p29, List.forall_mem_cons.mpr ⟨lw_p30, List.forall_mem_cons.mpr ⟨lw_p31, fun _ h => absurd h List.not_mem_nil⟩⟩⟩⟩⟩⟩⟩⟩⟩⟩⟩⟩⟩⟩⟩⟩
theorem lw_p32 : lw_okq (⟨"RunsBackModel", "goes", "([IIII)V"⟩, 55) := ⟨⟨by decide +kernel, by decide +kernel⟩, List.mem_of_getElem? (i := 991) (by decide +kernel), List.mem_of_getElem? (i := 1276) (by decide +kernel), List.mem_of_getElem? (i := 1277) (by decide +kernel)⟩
theorem lw_p33 : lw_okq (⟨"RunsBackModel", "reckons", "([IIIII)V"⟩, 55) := ⟨⟨by decide +kernel, by decide +kernel⟩, List.mem_of_getElem? (i := 991) (by decide +kernel), List.mem_of_getElem? (i := 1280) (by decide +kernel), List.mem_of_getElem? (i := 1281) (by decide +kernel)⟩
theorem lw_p34 : lw_okq (⟨"RunsBackModel", "comes", "()V"⟩, 55) := ⟨⟨by decide +kernel, by decide +kernel⟩, List.mem_of_getElem? (i := 991) (by decide +kernel), List.mem_of_getElem? (i := 1284) (by decide +kernel), List.mem_of_getElem? (i := 1285) (by decide +kernel)⟩
theorem lw_p35 : lw_okq (⟨"RunsBackModel", "goesWith", "(II)I"⟩, 55) := ⟨⟨by decide +kernel, by decide +kernel⟩, List.mem_of_getElem? (i := 991) (by decide +kernel), List.mem_of_getElem? (i := 1288) (by decide +kernel), List.mem_of_getElem? (i := 1289) (by decide +kernel)⟩
theorem lw_p36 : lw_okq (⟨"RunsBackModel", "halvings", "(I)I"⟩, 55) := ⟨⟨by decide +kernel, by decide +kernel⟩, List.mem_of_getElem? (i := 991) (by decide +kernel), List.mem_of_getElem? (i := 1292) (by decide +kernel), List.mem_of_getElem? (i := 1293) (by decide +kernel)⟩
theorem lw_p37 : lw_okq (⟨"RunsBackModel", "heldMany", "(I)I"⟩, 55) := ⟨⟨by decide +kernel, by decide +kernel⟩, List.mem_of_getElem? (i := 991) (by decide +kernel), List.mem_of_getElem? (i := 1296) (by decide +kernel), List.mem_of_getElem? (i := 1297) (by decide +kernel)⟩
theorem lw_p38 : lw_okq (⟨"RunsBackModel", "replays", "(II)V"⟩, 55) := ⟨⟨by decide +kernel, by decide +kernel⟩, List.mem_of_getElem? (i := 991) (by decide +kernel), List.mem_of_getElem? (i := 1309) (by decide +kernel), List.mem_of_getElem? (i := 1310) (by decide +kernel)⟩
theorem lw_p39 : lw_okq (⟨"RunsBackModel", "heldBy", "(II)I"⟩, 55) := ⟨⟨by decide +kernel, by decide +kernel⟩, List.mem_of_getElem? (i := 991) (by decide +kernel), List.mem_of_getElem? (i := 1313) (by decide +kernel), List.mem_of_getElem? (i := 1314) (by decide +kernel)⟩
theorem lw_p40 : lw_okq (⟨"RunsBackModel", "counts", "(II)V"⟩, 55) := ⟨⟨by decide +kernel, by decide +kernel⟩, List.mem_of_getElem? (i := 991) (by decide +kernel), List.mem_of_getElem? (i := 1317) (by decide +kernel), List.mem_of_getElem? (i := 1318) (by decide +kernel)⟩
theorem lw_p41 : lw_okq (⟨"RunsBackModel", "lays", "(II)V"⟩, 55) := ⟨⟨by decide +kernel, by decide +kernel⟩, List.mem_of_getElem? (i := 991) (by decide +kernel), List.mem_of_getElem? (i := 1321) (by decide +kernel), List.mem_of_getElem? (i := 1322) (by decide +kernel)⟩
theorem lw_p42 : lw_okq (⟨"RunsBackModel", "simBegins", "(I)V"⟩, 55) := ⟨⟨by decide +kernel, by decide +kernel⟩, List.mem_of_getElem? (i := 991) (by decide +kernel), List.mem_of_getElem? (i := 1325) (by decide +kernel), List.mem_of_getElem? (i := 1326) (by decide +kernel)⟩
theorem lw_p43 : lw_okq (⟨"RunsBackModel", "simPokes", "()V"⟩, 55) := ⟨⟨by decide +kernel, by decide +kernel⟩, List.mem_of_getElem? (i := 991) (by decide +kernel), List.mem_of_getElem? (i := 1329) (by decide +kernel), List.mem_of_getElem? (i := 1330) (by decide +kernel)⟩
theorem lw_p44 : lw_okq (⟨"RunsBackModel", "simStep", "()V"⟩, 55) := ⟨⟨by decide +kernel, by decide +kernel⟩, List.mem_of_getElem? (i := 991) (by decide +kernel), List.mem_of_getElem? (i := 1333) (by decide +kernel), List.mem_of_getElem? (i := 1334) (by decide +kernel)⟩
theorem lw_p45 : lw_okq (⟨"RunsBackModel", "isTime", "(I)Z"⟩, 55) := ⟨⟨by decide +kernel, by decide +kernel⟩, List.mem_of_getElem? (i := 991) (by decide +kernel), List.mem_of_getElem? (i := 1352) (by decide +kernel), List.mem_of_getElem? (i := 1353) (by decide +kernel)⟩
theorem lw_p46 : lw_okq (⟨"RunsBackModel", "runAsked", "()I"⟩, 55) := ⟨⟨by decide +kernel, by decide +kernel⟩, List.mem_of_getElem? (i := 991) (by decide +kernel), List.mem_of_getElem? (i := 1356) (by decide +kernel), List.mem_of_getElem? (i := 1357) (by decide +kernel)⟩
theorem lw_p47 : lw_okq (⟨"RunsBackModel", "lastOf", "(II)I"⟩, 55) := ⟨⟨by decide +kernel, by decide +kernel⟩, List.mem_of_getElem? (i := 991) (by decide +kernel), List.mem_of_getElem? (i := 1369) (by decide +kernel), List.mem_of_getElem? (i := 1370) (by decide +kernel)⟩
def lw_privs_3 : List (MethodName × Nat) := [(⟨"RunsBackModel", "goes", "([IIII)V"⟩, 55), (⟨"RunsBackModel", "reckons", "([IIIII)V"⟩, 55), (⟨"RunsBackModel", "comes", "()V"⟩, 55), (⟨"RunsBackModel", "goesWith", "(II)I"⟩, 55), (⟨"RunsBackModel", "halvings", "(I)I"⟩, 55), (⟨"RunsBackModel", "heldMany", "(I)I"⟩, 55), (⟨"RunsBackModel", "replays", "(II)V"⟩, 55), (⟨"RunsBackModel", "heldBy", "(II)I"⟩, 55), (⟨"RunsBackModel", "counts", "(II)V"⟩, 55), (⟨"RunsBackModel", "lays", "(II)V"⟩, 55), (⟨"RunsBackModel", "simBegins", "(I)V"⟩, 55), (⟨"RunsBackModel", "simPokes", "()V"⟩, 55), (⟨"RunsBackModel", "simStep", "()V"⟩, 55), (⟨"RunsBackModel", "isTime", "(I)Z"⟩, 55), (⟨"RunsBackModel", "runAsked", "()I"⟩, 55), (⟨"RunsBackModel", "lastOf", "(II)I"⟩, 55)]
theorem lw_r3 : ∀ q ∈ lw_privs_3, lw_okq q := List.forall_mem_cons.mpr ⟨lw_p32, List.forall_mem_cons.mpr ⟨lw_p33, List.forall_mem_cons.mpr ⟨lw_p34, List.forall_mem_cons.mpr ⟨lw_p35, List.forall_mem_cons.mpr ⟨lw_p36, List.forall_mem_cons.mpr ⟨lw_p37, List.forall_mem_cons.mpr ⟨lw_p38, List.forall_mem_cons.mpr ⟨lw_p39, List.forall_mem_cons.mpr ⟨lw_p40, List.forall_mem_cons.mpr ⟨lw_p41, List.forall_mem_cons.mpr ⟨lw_p42, List.forall_mem_cons.mpr ⟨lw_p43, List.forall_mem_cons.mpr ⟨lw_p44, List.forall_mem_cons.mpr ⟨lw_p45, List.forall_mem_cons.mpr ⟨lw_p46, List.forall_mem_cons.mpr ⟨lw_p47, fun _ h => absurd h List.not_mem_nil⟩⟩⟩⟩⟩⟩⟩⟩⟩⟩⟩⟩⟩⟩⟩⟩
theorem lw_p48 : lw_okq (⟨"RunsBackModel", "hadIn", "(IIIIII)I"⟩, 55) := ⟨⟨by decide +kernel, by decide +kernel⟩, List.mem_of_getElem? (i := 991) (by decide +kernel), List.mem_of_getElem? (i := 1377) (by decide +kernel), List.mem_of_getElem? (i := 1378) (by decide +kernel)⟩
theorem lw_p49 : lw_okq (⟨"RunsBackModel", "laysRests", "(II)V"⟩, 55) := ⟨⟨by decide +kernel, by decide +kernel⟩, List.mem_of_getElem? (i := 991) (by decide +kernel), List.mem_of_getElem? (i := 1393) (by decide +kernel), List.mem_of_getElem? (i := 1394) (by decide +kernel)⟩
theorem lw_p50 : lw_okq (⟨"RunsBackModel", "restPokes", "()V"⟩, 55) := ⟨⟨by decide +kernel, by decide +kernel⟩, List.mem_of_getElem? (i := 991) (by decide +kernel), List.mem_of_getElem? (i := 1397) (by decide +kernel), List.mem_of_getElem? (i := 1398) (by decide +kernel)⟩
theorem lw_p51 : lw_okq (⟨"RunsBackModel", "clearsLooked", "()V"⟩, 55) := ⟨⟨by decide +kernel, by decide +kernel⟩, List.mem_of_getElem? (i := 991) (by decide +kernel), List.mem_of_getElem? (i := 1401) (by decide +kernel), List.mem_of_getElem? (i := 1402) (by decide +kernel)⟩
theorem lw_p52 : lw_okq (⟨"RunsBackModel", "adds", "(I)V"⟩, 55) := ⟨⟨by decide +kernel, by decide +kernel⟩, List.mem_of_getElem? (i := 991) (by decide +kernel), List.mem_of_getElem? (i := 1405) (by decide +kernel), List.mem_of_getElem? (i := 1406) (by decide +kernel)⟩
theorem lw_p53 : lw_okq (⟨"RunsBackModel", "restsOn", "(I)V"⟩, 55) := ⟨⟨by decide +kernel, by decide +kernel⟩, List.mem_of_getElem? (i := 991) (by decide +kernel), List.mem_of_getElem? (i := 1409) (by decide +kernel), List.mem_of_getElem? (i := 1410) (by decide +kernel)⟩
theorem lw_p54 : lw_okq (⟨"RunsBackModel", "looks", "()V"⟩, 55) := ⟨⟨by decide +kernel, by decide +kernel⟩, List.mem_of_getElem? (i := 991) (by decide +kernel), List.mem_of_getElem? (i := 1413) (by decide +kernel), List.mem_of_getElem? (i := 1414) (by decide +kernel)⟩
theorem lw_p55 : lw_okq (⟨"RunsBackModel", "looksAt", "(I)V"⟩, 55) := ⟨⟨by decide +kernel, by decide +kernel⟩, List.mem_of_getElem? (i := 991) (by decide +kernel), List.mem_of_getElem? (i := 1417) (by decide +kernel), List.mem_of_getElem? (i := 1418) (by decide +kernel)⟩
theorem lw_p56 : lw_okq (⟨"RunsBackModel", "restsOnBit", "(II)Z"⟩, 55) := ⟨⟨by decide +kernel, by decide +kernel⟩, List.mem_of_getElem? (i := 991) (by decide +kernel), List.mem_of_getElem? (i := 1421) (by decide +kernel), List.mem_of_getElem? (i := 1422) (by decide +kernel)⟩
theorem lw_p57 : lw_okq (⟨"RunsBackModel", "wouldOf", "(III)I"⟩, 55) := ⟨⟨by decide +kernel, by decide +kernel⟩, List.mem_of_getElem? (i := 991) (by decide +kernel), List.mem_of_getElem? (i := 1453) (by decide +kernel), List.mem_of_getElem? (i := 1454) (by decide +kernel)⟩
theorem lw_p58 : lw_okq (⟨"RunsBackModel", "wouldBe", "(III)Z"⟩, 55) := ⟨⟨by decide +kernel, by decide +kernel⟩, List.mem_of_getElem? (i := 991) (by decide +kernel), List.mem_of_getElem? (i := 1457) (by decide +kernel), List.mem_of_getElem? (i := 1458) (by decide +kernel)⟩
theorem lw_p59 : lw_okq (⟨"RunsBackModel", "isThere", "(I)Z"⟩, 55) := ⟨⟨by decide +kernel, by decide +kernel⟩, List.mem_of_getElem? (i := 991) (by decide +kernel), List.mem_of_getElem? (i := 1473) (by decide +kernel), List.mem_of_getElem? (i := 1474) (by decide +kernel)⟩
theorem lw_p60 : lw_okq (⟨"RunsBackModel", "laysPairs", "(II)V"⟩, 55) := ⟨⟨by decide +kernel, by decide +kernel⟩, List.mem_of_getElem? (i := 991) (by decide +kernel), List.mem_of_getElem? (i := 1477) (by decide +kernel), List.mem_of_getElem? (i := 1478) (by decide +kernel)⟩
theorem lw_p61 : lw_okq (⟨"RunsBackModel", "areLike", "(II)Z"⟩, 55) := ⟨⟨by decide +kernel, by decide +kernel⟩, List.mem_of_getElem? (i := 991) (by decide +kernel), List.mem_of_getElem? (i := 1481) (by decide +kernel), List.mem_of_getElem? (i := 1482) (by decide +kernel)⟩
theorem lw_p62 : lw_okq (⟨"RunsBackModel", "finds", "(I)V"⟩, 55) := ⟨⟨by decide +kernel, by decide +kernel⟩, List.mem_of_getElem? (i := 991) (by decide +kernel), List.mem_of_getElem? (i := 1489) (by decide +kernel), List.mem_of_getElem? (i := 1490) (by decide +kernel)⟩
theorem lw_p63 : lw_okq (⟨"RunsBackModel", "swaps", "()V"⟩, 55) := ⟨⟨by decide +kernel, by decide +kernel⟩, List.mem_of_getElem? (i := 991) (by decide +kernel), List.mem_of_getElem? (i := 1497) (by decide +kernel), List.mem_of_getElem? (i := 1498) (by decide +kernel)⟩
def lw_privs_4 : List (MethodName × Nat) := [(⟨"RunsBackModel", "hadIn", "(IIIIII)I"⟩, 55), (⟨"RunsBackModel", "laysRests", "(II)V"⟩, 55), (⟨"RunsBackModel", "restPokes", "()V"⟩, 55), (⟨"RunsBackModel", "clearsLooked", "()V"⟩, 55), (⟨"RunsBackModel", "adds", "(I)V"⟩, 55), (⟨"RunsBackModel", "restsOn", "(I)V"⟩, 55), (⟨"RunsBackModel", "looks", "()V"⟩, 55), (⟨"RunsBackModel", "looksAt", "(I)V"⟩, 55), (⟨"RunsBackModel", "restsOnBit", "(II)Z"⟩, 55), (⟨"RunsBackModel", "wouldOf", "(III)I"⟩, 55), (⟨"RunsBackModel", "wouldBe", "(III)Z"⟩, 55), (⟨"RunsBackModel", "isThere", "(I)Z"⟩, 55), (⟨"RunsBackModel", "laysPairs", "(II)V"⟩, 55), (⟨"RunsBackModel", "areLike", "(II)Z"⟩, 55), (⟨"RunsBackModel", "finds", "(I)V"⟩, 55), (⟨"RunsBackModel", "swaps", "()V"⟩, 55)]
theorem lw_r4 : ∀ q ∈ lw_privs_4, lw_okq q := List.forall_mem_cons.mpr ⟨lw_p48, List.forall_mem_cons.mpr ⟨lw_p49, List.forall_mem_cons.mpr ⟨lw_p50, List.forall_mem_cons.mpr ⟨lw_p51, List.forall_mem_cons.mpr ⟨lw_p52, List.forall_mem_cons.mpr ⟨lw_p53, List.forall_mem_cons.mpr ⟨lw_p54, List.forall_mem_cons.mpr ⟨lw_p55, List.forall_mem_cons.mpr ⟨lw_p56, List.forall_mem_cons.mpr ⟨lw_p57, List.forall_mem_cons.mpr ⟨lw_p58, List.forall_mem_cons.mpr ⟨lw_p59, List.forall_mem_cons.mpr ⟨lw_p60, List.forall_mem_cons.mpr ⟨lw_p61, List.forall_mem_cons.mpr ⟨lw_p62, List.forall_mem_cons.mpr ⟨lw_p63, fun _ h => absurd h List.not_mem_nil⟩⟩⟩⟩⟩⟩⟩⟩⟩⟩⟩⟩⟩⟩⟩⟩
theorem lw_p64 : lw_okq (⟨"RunsBackModel", "areStatesLike", "()Z"⟩, 55) := ⟨⟨by decide +kernel, by decide +kernel⟩, List.mem_of_getElem? (i := 991) (by decide +kernel), List.mem_of_getElem? (i := 1501) (by decide +kernel), List.mem_of_getElem? (i := 1502) (by decide +kernel)⟩
theorem lw_p65 : lw_okq (⟨"RunsBackModel", "ofRun", "(II)I"⟩, 55) := ⟨⟨by decide +kernel, by decide +kernel⟩, List.mem_of_getElem? (i := 991) (by decide +kernel), List.mem_of_getElem? (i := 1509) (by decide +kernel), List.mem_of_getElem? (i := 1510) (by decide +kernel)⟩
theorem lw_p66 : lw_okq (⟨"RunsBackModel", "watchedOf", "(II)I"⟩, 55) := ⟨⟨by decide +kernel, by decide +kernel⟩, List.mem_of_getElem? (i := 991) (by decide +kernel), List.mem_of_getElem? (i := 1513) (by decide +kernel), List.mem_of_getElem? (i := 1514) (by decide +kernel)⟩
def lw_privs_5 : List (MethodName × Nat) := [(⟨"RunsBackModel", "areStatesLike", "()Z"⟩, 55), (⟨"RunsBackModel", "ofRun", "(II)I"⟩, 55), (⟨"RunsBackModel", "watchedOf", "(II)I"⟩, 55)]
theorem lw_r5 : ∀ q ∈ lw_privs_5, lw_okq q := List.forall_mem_cons.mpr ⟨lw_p64, List.forall_mem_cons.mpr ⟨lw_p65, List.forall_mem_cons.mpr ⟨lw_p66, fun _ h => absurd h List.not_mem_nil⟩⟩⟩
def lw_privs : List (MethodName × Nat) := lw_privs_1 ++ (lw_privs_2 ++ (lw_privs_3 ++ (lw_privs_4 ++ (lw_privs_5))))
def lw_tbl : List Cond := k2_sels lw_privs ++ tables_1
theorem lw_privs_ok : ∀ q ∈ lw_privs, lw_okq q := by
  show ∀ q ∈ lw_privs_1 ++ (lw_privs_2 ++ (lw_privs_3 ++ (lw_privs_4 ++ (lw_privs_5)))), lw_okq q
  exact List.forall_mem_append.mpr ⟨lw_r1, List.forall_mem_append.mpr ⟨lw_r2, List.forall_mem_append.mpr ⟨lw_r3, List.forall_mem_append.mpr ⟨lw_r4, lw_r5⟩⟩⟩⟩
end
section
def RX0 : String := "RunsBack$Beside"
def TX0 : u_T := fun k => match k with
  | 0 => ("RunsBack$Beside", "most", "[[I", true)
  | 1 => ("RunsBack$Beside", "callOne", "[I", true)
  | 2 => ("RunsBack$Beside", "callOther", "[I", true)
  | 3 => ("RunsBack$Beside", "pairs", "I", false)
  | 4 => ("RunsBack$Beside", "putOne", "[I", true)
  | _ => ("RunsBack$Beside", "putOther", "[I", true)
def tyX0 : Nat → FieldType := fun k => match k with
  | 0 => .array (.array .int)
  | 1 => .array .int
  | 2 => .array .int
  | 3 => .int
  | 4 => .array .int
  | _ => .array .int
abbrev wsX00 : List Cond := u_ws RX0 TX0 6
theorem nmX0 : ∀ a, a < 6 → ∀ b, b < 6 → a ≠ b → (TX0 a).2.1 ≠ (TX0 b).2.1 := by decide +kernel
theorem tyX0_ok : ∀ k, k < 6 → parseFieldDescriptor (TX0 k).2.2.1 = some (tyX0 k) := by decide +kernel
abbrev cX0_init : ByteArray := prog_2_method_1_code
def yX0_init : MethodName := ⟨RX0, "<init>", "()V"⟩
abbrev cX0_has : ByteArray := prog_2_method_2_code
def yX0_has : MethodName := ⟨RX0, "has", "(I)Z"⟩
abbrev cX0_callOfOne : ByteArray := prog_2_method_3_code
def yX0_callOfOne : MethodName := ⟨RX0, "callOfOne", "(I)I"⟩
abbrev cX0_callOfOther : ByteArray := prog_2_method_4_code
def yX0_callOfOther : MethodName := ⟨RX0, "callOfOther", "(I)I"⟩
abbrev cX0_lay : ByteArray := prog_2_method_5_code
def yX0_lay : MethodName := ⟨RX0, "lay", "(LRunsBack$Calls;LRunsBack$Calls;)V"⟩
abbrev cX0_countPairs : ByteArray := prog_2_method_6_code
def yX0_countPairs : MethodName := ⟨RX0, "countPairs", "(LRunsBack$Calls;ILRunsBack$Calls;I)V"⟩
abbrev cX0_choosePairs : ByteArray := prog_2_method_7_code
def yX0_choosePairs : MethodName := ⟨RX0, "choosePairs", "(LRunsBack$Calls;ILRunsBack$Calls;I)V"⟩
abbrev cX0_firstUnlike : ByteArray := prog_2_method_8_code
def yX0_firstUnlike : MethodName := ⟨RX0, "firstUnlike", "(LRunsBack$Run;LRunsBack$Run;)I"⟩
abbrev cX0_goThrough : ByteArray := prog_2_method_9_code
def yX0_goThrough : MethodName := ⟨RX0, "goThrough", "(LRunsBack$Puts;II[I)I"⟩
abbrev cX0_areUnlike : ByteArray := prog_2_method_10_code
def yX0_areUnlike : MethodName := ⟨RX0, "areUnlike", "(LRunsBack$Puts;IILRunsBack$Puts;LRunsBack$Puts;)Z"⟩
def RX1 : String := "RunsBack$Calls"
def TX1 : u_T := fun k => match k with
  | 0 => ("RunsBack$Calls", "time", "[I", true)
  | 1 => ("RunsBack$Calls", "target", "[I", true)
  | 2 => ("RunsBack$Calls", "stacked", "[I", true)
  | _ => ("RunsBack$Calls", "count", "I", false)
def tyX1 : Nat → FieldType := fun k => match k with
  | 0 => .array .int
  | 1 => .array .int
  | 2 => .array .int
  | _ => .int
abbrev wsX10 : List Cond := u_ws RX1 TX1 4
theorem nmX1 : ∀ a, a < 4 → ∀ b, b < 4 → a ≠ b → (TX1 a).2.1 ≠ (TX1 b).2.1 := by decide +kernel
theorem tyX1_ok : ∀ k, k < 4 → parseFieldDescriptor (TX1 k).2.2.1 = some (tyX1 k) := by decide +kernel
abbrev cX1_init : ByteArray := prog_3_method_1_code
def yX1_init : MethodName := ⟨RX1, "<init>", "()V"⟩
abbrev cX1_init_ : ByteArray := prog_3_method_2_code
def yX1_init_ : MethodName := ⟨RX1, "<init>", "(LRunsBack$Calls;)V"⟩
abbrev cX1_has : ByteArray := prog_3_method_3_code
def yX1_has : MethodName := ⟨RX1, "has", "(I)Z"⟩
abbrev cX1_add : ByteArray := prog_3_method_4_code
def yX1_add : MethodName := ⟨RX1, "add", "(III)V"⟩
abbrev cX1_read : ByteArray := prog_3_method_5_code
def yX1_read : MethodName := ⟨RX1, "read", "(II)I"⟩
abbrev cX1_dropFrom : ByteArray := prog_3_method_6_code
def yX1_dropFrom : MethodName := ⟨RX1, "dropFrom", "(I)V"⟩
abbrev cX1_isLike : ByteArray := prog_3_method_7_code
def yX1_isLike : MethodName := ⟨RX1, "isLike", "(ILRunsBack$Calls;I)Z"⟩
def RX2 : String := "RunsBack$Holding"
def TX2 : u_T := fun k => match k with
  | 0 => ("RunsBack$Holding", "times", "[I", true)
  | 1 => ("RunsBack$Holding", "count", "I", false)
  | 2 => ("RunsBack$Holding", "most", "I", false)
  | 3 => ("RunsBack$Holding", "unit", "I", false)
  | _ => ("RunsBack$Holding", "depth", "I", false)
def tyX2 : Nat → FieldType := fun k => match k with
  | 0 => .array .int
  | 1 => .int
  | 2 => .int
  | 3 => .int
  | _ => .int
abbrev wsX20 : List Cond := u_ws RX2 TX2 5
theorem nmX2 : ∀ a, a < 5 → ∀ b, b < 5 → a ≠ b → (TX2 a).2.1 ≠ (TX2 b).2.1 := by decide +kernel
theorem tyX2_ok : ∀ k, k < 5 → parseFieldDescriptor (TX2 k).2.2.1 = some (tyX2 k) := by decide +kernel
abbrev cX2_init : ByteArray := prog_4_method_1_code
def yX2_init : MethodName := ⟨RX2, "<init>", "()V"⟩
abbrev cX2_init_ : ByteArray := prog_4_method_2_code
def yX2_init_ : MethodName := ⟨RX2, "<init>", "(LRunsBack$Holding;)V"⟩
abbrev cX2_start : ByteArray := prog_4_method_3_code
def yX2_start : MethodName := ⟨RX2, "start", "(II)V"⟩
abbrev cX2_goesWith : ByteArray := prog_4_method_4_code
def yX2_goesWith : MethodName := ⟨RX2, "goesWith", "(II)I"⟩
abbrev cX2_isHeldStill : ByteArray := prog_4_method_5_code
def yX2_isHeldStill : MethodName := ⟨RX2, "isHeldStill", "(III)Z"⟩
abbrev cX2_has : ByteArray := prog_4_method_6_code
def yX2_has : MethodName := ⟨RX2, "has", "(I)Z"⟩
abbrev cX2_timeOf : ByteArray := prog_4_method_7_code
def yX2_timeOf : MethodName := ⟨RX2, "timeOf", "(I)I"⟩
abbrev cX2_goesAt : ByteArray := prog_4_method_8_code
def yX2_goesAt : MethodName := ⟨RX2, "goesAt", "(I)I"⟩
abbrev cX2_timeComes : ByteArray := prog_4_method_9_code
def yX2_timeComes : MethodName := ⟨RX2, "timeComes", "(I)V"⟩
abbrev cX2_dropWhatGoesBy : ByteArray := prog_4_method_10_code
def yX2_dropWhatGoesBy : MethodName := ⟨RX2, "dropWhatGoesBy", "(I)V"⟩
abbrev cX2_dropAbove : ByteArray := prog_4_method_11_code
def yX2_dropAbove : MethodName := ⟨RX2, "dropAbove", "(I)V"⟩
abbrev cX2_latestBy : ByteArray := prog_4_method_12_code
def yX2_latestBy : MethodName := ⟨RX2, "latestBy", "(I)I"⟩
abbrev cX2_stepsToFind : ByteArray := prog_4_method_13_code
def yX2_stepsToFind : MethodName := ⟨RX2, "stepsToFind", "(II)I"⟩
def RX3 : String := "RunsBack$Log"
def TX3 : u_T := fun k => match k with
  | 0 => ("RunsBack$Log", "time", "[I", true)
  | 1 => ("RunsBack$Log", "origin", "[I", true)
  | 2 => ("RunsBack$Log", "number", "[I", true)
  | 3 => ("RunsBack$Log", "place", "[I", true)
  | 4 => ("RunsBack$Log", "sort", "[I", true)
  | _ => ("RunsBack$Log", "count", "I", false)
def tyX3 : Nat → FieldType := fun k => match k with
  | 0 => .array .int
  | 1 => .array .int
  | 2 => .array .int
  | 3 => .array .int
  | 4 => .array .int
  | _ => .int
abbrev wsX30 : List Cond := u_ws RX3 TX3 6
theorem nmX3 : ∀ a, a < 6 → ∀ b, b < 6 → a ≠ b → (TX3 a).2.1 ≠ (TX3 b).2.1 := by decide +kernel
theorem tyX3_ok : ∀ k, k < 6 → parseFieldDescriptor (TX3 k).2.2.1 = some (tyX3 k) := by decide +kernel
abbrev cX3_init : ByteArray := prog_5_method_1_code
def yX3_init : MethodName := ⟨RX3, "<init>", "()V"⟩
abbrev cX3_init_ : ByteArray := prog_5_method_2_code
def yX3_init_ : MethodName := ⟨RX3, "<init>", "(LRunsBack$Log;)V"⟩
abbrev cX3_has : ByteArray := prog_5_method_3_code
def yX3_has : MethodName := ⟨RX3, "has", "(I)Z"⟩
abbrev cX3_isFull : ByteArray := prog_5_method_4_code
def yX3_isFull : MethodName := ⟨RX3, "isFull", "()Z"⟩
abbrev cX3_addWhole : ByteArray := prog_5_method_5_code
def yX3_addWhole : MethodName := ⟨RX3, "addWhole", "(III)V"⟩
abbrev cX3_addPoke : ByteArray := prog_5_method_6_code
def yX3_addPoke : MethodName := ⟨RX3, "addPoke", "(IIII)V"⟩
abbrev cX3_add : ByteArray := prog_5_method_7_code
def yX3_add : MethodName := ⟨RX3, "add", "(IIIII)V"⟩
abbrev cX3_read : ByteArray := prog_5_method_8_code
def yX3_read : MethodName := ⟨RX3, "read", "(II)I"⟩
abbrev cX3_dropBehind : ByteArray := prog_5_method_9_code
def yX3_dropBehind : MethodName := ⟨RX3, "dropBehind", "(ILRunsBack$Outside;)V"⟩
abbrev cX3_isBehind : ByteArray := prog_5_method_10_code
def yX3_isBehind : MethodName := ⟨RX3, "isBehind", "(II)Z"⟩
def RX4 : String := "RunsBack$Outside"
def TX4 : u_T := fun k => match k with
  | 0 => ("RunsBack$Outside", "ring", "[I", true)
  | 1 => ("RunsBack$Outside", "first", "I", false)
  | 2 => ("RunsBack$Outside", "waiting", "I", false)
  | _ => ("RunsBack$Outside", "x", "I", false)
def tyX4 : Nat → FieldType := fun k => match k with
  | 0 => .array .int
  | 1 => .int
  | 2 => .int
  | _ => .int
abbrev wsX40 : List Cond := u_ws RX4 TX4 4
theorem nmX4 : ∀ a, a < 4 → ∀ b, b < 4 → a ≠ b → (TX4 a).2.1 ≠ (TX4 b).2.1 := by decide +kernel
theorem tyX4_ok : ∀ k, k < 4 → parseFieldDescriptor (TX4 k).2.2.1 = some (tyX4 k) := by decide +kernel
abbrev cX4_init : ByteArray := prog_6_method_1_code
def yX4_init : MethodName := ⟨RX4, "<init>", "()V"⟩
abbrev cX4_clearInputs : ByteArray := prog_6_method_2_code
def yX4_clearInputs : MethodName := ⟨RX4, "clearInputs", "()V"⟩
abbrev cX4_addLast : ByteArray := prog_6_method_3_code
def yX4_addLast : MethodName := ⟨RX4, "addLast", "(I)V"⟩
abbrev cX4_addFirst : ByteArray := prog_6_method_4_code
def yX4_addFirst : MethodName := ⟨RX4, "addFirst", "(I)V"⟩
abbrev cX4_takeFirst : ByteArray := prog_6_method_5_code
def yX4_takeFirst : MethodName := ⟨RX4, "takeFirst", "()I"⟩
abbrev cX4_draw : ByteArray := prog_6_method_6_code
def yX4_draw : MethodName := ⟨RX4, "draw", "(I)I"⟩
def RX5 : String := "RunsBack$Program"
def TX5 : u_T := fun k => match k with
  | 0 => ("RunsBack$Program", "kind", "[I", true)
  | 1 => ("RunsBack$Program", "a", "[I", true)
  | 2 => ("RunsBack$Program", "b", "[I", true)
  | _ => ("RunsBack$Program", "c", "[I", true)
def tyX5 : Nat → FieldType := fun k => match k with
  | 0 => .array .int
  | 1 => .array .int
  | 2 => .array .int
  | _ => .array .int
abbrev wsX50 : List Cond := u_ws RX5 TX5 4
theorem nmX5 : ∀ a, a < 4 → ∀ b, b < 4 → a ≠ b → (TX5 a).2.1 ≠ (TX5 b).2.1 := by decide +kernel
theorem tyX5_ok : ∀ k, k < 4 → parseFieldDescriptor (TX5 k).2.2.1 = some (tyX5 k) := by decide +kernel
abbrev cX5_init : ByteArray := prog_7_method_1_code
def yX5_init : MethodName := ⟨RX5, "<init>", "()V"⟩
abbrev cX5_write : ByteArray := prog_7_method_2_code
def yX5_write : MethodName := ⟨RX5, "write", "(IIIII)V"⟩
abbrev cX5_takeFrom : ByteArray := prog_7_method_3_code
def yX5_takeFrom : MethodName := ⟨RX5, "takeFrom", "(LRunsBack$Program;)V"⟩
abbrev cX5_size : ByteArray := prog_7_method_4_code
def yX5_size : MethodName := ⟨RX5, "size", "()I"⟩
abbrev cX5_kindAt : ByteArray := prog_7_method_5_code
def yX5_kindAt : MethodName := ⟨RX5, "kindAt", "(I)I"⟩
abbrev cX5_firstAt : ByteArray := prog_7_method_6_code
def yX5_firstAt : MethodName := ⟨RX5, "firstAt", "(I)I"⟩
abbrev cX5_secondAt : ByteArray := prog_7_method_7_code
def yX5_secondAt : MethodName := ⟨RX5, "secondAt", "(I)I"⟩
abbrev cX5_thirdAt : ByteArray := prog_7_method_8_code
def yX5_thirdAt : MethodName := ⟨RX5, "thirdAt", "(I)I"⟩
def RX6 : String := "RunsBack$Puts"
def TX6 : u_T := fun k => match k with
  | 0 => ("RunsBack$Puts", "time", "[I", true)
  | 1 => ("RunsBack$Puts", "place", "[I", true)
  | 2 => ("RunsBack$Puts", "sort", "[I", true)
  | 3 => ("RunsBack$Puts", "number", "[I", true)
  | 4 => ("RunsBack$Puts", "changes", "[I", true)
  | 5 => ("RunsBack$Puts", "ahead", "[I", true)
  | 6 => ("RunsBack$Puts", "began", "[I", true)
  | 7 => ("RunsBack$Puts", "entry", "[I", true)
  | 8 => ("RunsBack$Puts", "lookedOne", "[I", true)
  | 9 => ("RunsBack$Puts", "lookedTwo", "[I", true)
  | 10 => ("RunsBack$Puts", "latest", "[I", true)
  | _ => ("RunsBack$Puts", "count", "I", false)
def tyX6 : Nat → FieldType := fun k => match k with
  | 0 => .array .int
  | 1 => .array .int
  | 2 => .array .int
  | 3 => .array .int
  | 4 => .array .int
  | 5 => .array .int
  | 6 => .array .int
  | 7 => .array .int
  | 8 => .array .int
  | 9 => .array .int
  | 10 => .array .int
  | _ => .int
abbrev wsX60 : List Cond := u_ws RX6 TX6 12
theorem nmX6 : ∀ a, a < 12 → ∀ b, b < 12 → a ≠ b → (TX6 a).2.1 ≠ (TX6 b).2.1 := by decide +kernel
theorem tyX6_ok : ∀ k, k < 12 → parseFieldDescriptor (TX6 k).2.2.1 = some (tyX6 k) := by decide +kernel
abbrev cX6_init : ByteArray := prog_8_method_1_code
def yX6_init : MethodName := ⟨RX6, "<init>", "()V"⟩
abbrev cX6_init_ : ByteArray := prog_8_method_2_code
def yX6_init_ : MethodName := ⟨RX6, "<init>", "(LRunsBack$Puts;)V"⟩
abbrev cX6_clear : ByteArray := prog_8_method_3_code
def yX6_clear : MethodName := ⟨RX6, "clear", "()V"⟩
abbrev cX6_has : ByteArray := prog_8_method_4_code
def yX6_has : MethodName := ⟨RX6, "has", "(I)Z"⟩
abbrev cX6_timeOf : ByteArray := prog_8_method_5_code
def yX6_timeOf : MethodName := ⟨RX6, "timeOf", "(I)I"⟩
abbrev cX6_placeOf : ByteArray := prog_8_method_6_code
def yX6_placeOf : MethodName := ⟨RX6, "placeOf", "(I)I"⟩
abbrev cX6_sortOf : ByteArray := prog_8_method_7_code
def yX6_sortOf : MethodName := ⟨RX6, "sortOf", "(I)I"⟩
abbrev cX6_numberOf : ByteArray := prog_8_method_8_code
def yX6_numberOf : MethodName := ⟨RX6, "numberOf", "(I)I"⟩
abbrev cX6_changesOf : ByteArray := prog_8_method_9_code
def yX6_changesOf : MethodName := ⟨RX6, "changesOf", "(I)I"⟩
abbrev cX6_aheadOf : ByteArray := prog_8_method_10_code
def yX6_aheadOf : MethodName := ⟨RX6, "aheadOf", "(I)I"⟩
abbrev cX6_latestOf : ByteArray := prog_8_method_11_code
def yX6_latestOf : MethodName := ⟨RX6, "latestOf", "(I)I"⟩
abbrev cX6_hasValue : ByteArray := prog_8_method_12_code
def yX6_hasValue : MethodName := ⟨RX6, "hasValue", "(III)Z"⟩
abbrev cX6_add : ByteArray := prog_8_method_13_code
def yX6_add : MethodName := ⟨RX6, "add", "(IIII)Z"⟩
abbrev cX6_restLatestOn : ByteArray := prog_8_method_14_code
def yX6_restLatestOn : MethodName := ⟨RX6, "restLatestOn", "(IIII)V"⟩
abbrev cX6_dropBehind : ByteArray := prog_8_method_15_code
def yX6_dropBehind : MethodName := ⟨RX6, "dropBehind", "(I)V"⟩
abbrev cX6_putBy : ByteArray := prog_8_method_16_code
def yX6_putBy : MethodName := ⟨RX6, "putBy", "(II)I"⟩
abbrev cX6_changedSince : ByteArray := prog_8_method_17_code
def yX6_changedSince : MethodName := ⟨RX6, "changedSince", "(I)I"⟩
abbrev cX6_hadBy : ByteArray := prog_8_method_18_code
def yX6_hadBy : MethodName := ⟨RX6, "hadBy", "(IIII)I"⟩
abbrev cX6_changeTimes : ByteArray := prog_8_method_19_code
def yX6_changeTimes : MethodName := ⟨RX6, "changeTimes", "(II)I"⟩
abbrev cX6_markAllBelow : ByteArray := prog_8_method_20_code
def yX6_markAllBelow : MethodName := ⟨RX6, "markAllBelow", "(I[Z)V"⟩
abbrev cX6_mark : ByteArray := prog_8_method_21_code
def yX6_mark : MethodName := ⟨RX6, "mark", "([ZI)V"⟩
abbrev cX6_markedStep : ByteArray := prog_8_method_22_code
def yX6_markedStep : MethodName := ⟨RX6, "markedStep", "(I[Z)I"⟩
abbrev cX6_markAllAbove : ByteArray := prog_8_method_23_code
def yX6_markAllAbove : MethodName := ⟨RX6, "markAllAbove", "(I[Z)V"⟩
def RX7 : String := "RunsBack$Run"
def TX7 : u_T := fun k => match k with
  | 0 => ("RunsBack$Run", "program", "LRunsBack$Program;", true)
  | 1 => ("RunsBack$Run", "log", "LRunsBack$Log;", true)
  | 2 => ("RunsBack$Run", "puts", "LRunsBack$Puts;", true)
  | 3 => ("RunsBack$Run", "calls", "LRunsBack$Calls;", true)
  | 4 => ("RunsBack$Run", "holding", "LRunsBack$Holding;", true)
  | 5 => ("RunsBack$Run", "counter", "[I", true)
  | 6 => ("RunsBack$Run", "outs", "[I", true)
  | 7 => ("RunsBack$Run", "check", "[I", true)
  | 8 => ("RunsBack$Run", "top", "[I", true)
  | 9 => ("RunsBack$Run", "time", "I", false)
  | 10 => ("RunsBack$Run", "end", "I", false)
  | 11 => ("RunsBack$Run", "changedPlace", "I", false)
  | 12 => ("RunsBack$Run", "replayed", "I", false)
  | 13 => ("RunsBack$Run", "backs", "I", false)
  | _ => ("RunsBack$Run", "statusKept", "I", false)
def tyX7 : Nat → FieldType := fun k => match k with
  | 0 => .object "RunsBack$Program"
  | 1 => .object "RunsBack$Log"
  | 2 => .object "RunsBack$Puts"
  | 3 => .object "RunsBack$Calls"
  | 4 => .object "RunsBack$Holding"
  | 5 => .array .int
  | 6 => .array .int
  | 7 => .array .int
  | 8 => .array .int
  | 9 => .int
  | 10 => .int
  | 11 => .int
  | 12 => .int
  | 13 => .int
  | _ => .int
abbrev wsX70 : List Cond := u_ws RX7 TX7 15
theorem nmX7 : ∀ a, a < 15 → ∀ b, b < 15 → a ≠ b → (TX7 a).2.1 ≠ (TX7 b).2.1 := by decide +kernel
theorem tyX7_ok : ∀ k, k < 15 → parseFieldDescriptor (TX7 k).2.2.1 = some (tyX7 k) := by decide +kernel
abbrev cX7_init : ByteArray := prog_9_method_1_code
def yX7_init : MethodName := ⟨RX7, "<init>", "()V"⟩
abbrev cX7_init_ : ByteArray := prog_9_method_2_code
def yX7_init_ : MethodName := ⟨RX7, "<init>", "(LRunsBack$Run;I)V"⟩
abbrev cX7_start : ByteArray := prog_9_method_3_code
def yX7_start : MethodName := ⟨RX7, "start", "(LRunsBack$Program;II)V"⟩
abbrev cX7_hasTime : ByteArray := prog_9_method_4_code
def yX7_hasTime : MethodName := ⟨RX7, "hasTime", "(I)Z"⟩
abbrev cX7_counterAt : ByteArray := prog_9_method_5_code
def yX7_counterAt : MethodName := ⟨RX7, "counterAt", "(I)I"⟩
abbrev cX7_outsAt : ByteArray := prog_9_method_6_code
def yX7_outsAt : MethodName := ⟨RX7, "outsAt", "(I)I"⟩
abbrev cX7_checkAt : ByteArray := prog_9_method_7_code
def yX7_checkAt : MethodName := ⟨RX7, "checkAt", "(I)I"⟩
abbrev cX7_topAt : ByteArray := prog_9_method_8_code
def yX7_topAt : MethodName := ⟨RX7, "topAt", "(I)I"⟩
abbrev cX7_stackSizeAt : ByteArray := prog_9_method_9_code
def yX7_stackSizeAt : MethodName := ⟨RX7, "stackSizeAt", "(I)I"⟩
abbrev cX7_stackedAt : ByteArray := prog_9_method_10_code
def yX7_stackedAt : MethodName := ⟨RX7, "stackedAt", "(II)I"⟩
abbrev cX7_hasStackLike : ByteArray := prog_9_method_11_code
def yX7_hasStackLike : MethodName := ⟨RX7, "hasStackLike", "(ILRunsBack$Run;)Z"⟩
abbrev cX7_statusWith : ByteArray := prog_9_method_12_code
def yX7_statusWith : MethodName := ⟨RX7, "statusWith", "(LRunsBack$Outside;)I"⟩
abbrev cX7_canStep : ByteArray := prog_9_method_13_code
def yX7_canStep : MethodName := ⟨RX7, "canStep", "(LRunsBack$Outside;)Z"⟩
abbrev cX7_step : ByteArray := prog_9_method_14_code
def yX7_step : MethodName := ⟨RX7, "step", "(LRunsBack$Outside;)V"⟩
abbrev cX7_putByPoke : ByteArray := prog_9_method_15_code
def yX7_putByPoke : MethodName := ⟨RX7, "putByPoke", "(III)Z"⟩
abbrev cX7_putByStep : ByteArray := prog_9_method_16_code
def yX7_putByStep : MethodName := ⟨RX7, "putByStep", "(IIIII)V"⟩
abbrev cX7_putFromOutside : ByteArray := prog_9_method_17_code
def yX7_putFromOutside : MethodName := ⟨RX7, "putFromOutside", "(III)V"⟩
abbrev cX7_goOnAt : ByteArray := prog_9_method_18_code
def yX7_goOnAt : MethodName := ⟨RX7, "goOnAt", "(I)V"⟩
abbrev cX7_addOut : ByteArray := prog_9_method_19_code
def yX7_addOut : MethodName := ⟨RX7, "addOut", "(II)V"⟩
abbrev cX7_stackUp : ByteArray := prog_9_method_20_code
def yX7_stackUp : MethodName := ⟨RX7, "stackUp", "()V"⟩
abbrev cX7_stackDown : ByteArray := prog_9_method_21_code
def yX7_stackDown : MethodName := ⟨RX7, "stackDown", "()V"⟩
abbrev cX7_goBack : ByteArray := prog_9_method_22_code
def yX7_goBack : MethodName := ⟨RX7, "goBack", "(ILRunsBack$Outside;)V"⟩
def RX8 : String := "RunsBack$Stepping"
def TX8 : u_T := fun k => match k with
  | _ => ("", "", "", false)
def tyX8 : Nat → FieldType := fun k => match k with
  | _ => .int
abbrev wsX80 : List Cond := u_ws RX8 TX8 0
theorem nmX8 : ∀ a, a < 0 → ∀ b, b < 0 → a ≠ b → (TX8 a).2.1 ≠ (TX8 b).2.1 := by decide +kernel
theorem tyX8_ok : ∀ k, k < 0 → parseFieldDescriptor (TX8 k).2.2.1 = some (tyX8 k) := by decide +kernel
abbrev cX8_perform : ByteArray := prog_10_method_2_code
def yX8_perform : MethodName := ⟨RX8, "perform", "(LRunsBack$Run;ILRunsBack$Outside;)I"⟩
abbrev cX8_putOut : ByteArray := prog_10_method_3_code
def yX8_putOut : MethodName := ⟨RX8, "putOut", "(LRunsBack$Run;I)V"⟩
abbrev cX8_copy : ByteArray := prog_10_method_4_code
def yX8_copy : MethodName := ⟨RX8, "copy", "(LRunsBack$Run;II)V"⟩
abbrev cX8_compare : ByteArray := prog_10_method_5_code
def yX8_compare : MethodName := ⟨RX8, "compare", "(LRunsBack$Run;III)V"⟩
abbrev cX8_combine : ByteArray := prog_10_method_6_code
def yX8_combine : MethodName := ⟨RX8, "combine", "(LRunsBack$Run;IIII)I"⟩
abbrev cX8_fromCell : ByteArray := prog_10_method_7_code
def yX8_fromCell : MethodName := ⟨RX8, "fromCell", "(LRunsBack$Run;II)I"⟩
abbrev cX8_toCell : ByteArray := prog_10_method_8_code
def yX8_toCell : MethodName := ⟨RX8, "toCell", "(LRunsBack$Run;II)I"⟩
abbrev cX8_goOnIf : ByteArray := prog_10_method_9_code
def yX8_goOnIf : MethodName := ⟨RX8, "goOnIf", "(LRunsBack$Run;II)I"⟩
abbrev cX8_goDown : ByteArray := prog_10_method_10_code
def yX8_goDown : MethodName := ⟨RX8, "goDown", "(LRunsBack$Run;I)I"⟩
abbrev cX8_goUp : ByteArray := prog_10_method_11_code
def yX8_goUp : MethodName := ⟨RX8, "goUp", "(LRunsBack$Run;)V"⟩
abbrev cX8_reckon : ByteArray := prog_10_method_12_code
def yX8_reckon : MethodName := ⟨RX8, "reckon", "(LRunsBack$Run;IIII)I"⟩
abbrev cX8_reckoned : ByteArray := prog_10_method_13_code
def yX8_reckoned : MethodName := ⟨RX8, "reckoned", "(III)I"⟩
def RX9 : String := "RunsBack"
def TX9 : u_T := fun k => match k with
  | 0 => ("RunsBack", "program", "LRunsBack$Program;", true)
  | 1 => ("RunsBack", "outside", "LRunsBack$Outside;", true)
  | 2 => ("RunsBack", "beside", "LRunsBack$Beside;", true)
  | 3 => ("RunsBack", "marks", "[Z", true)
  | 4 => ("RunsBack", "kept", "[LRunsBack$Run;", true)
  | 5 => ("RunsBack", "keptCount", "I", false)
  | 6 => ("RunsBack", "now", "LRunsBack$Run;", false)
  | 7 => ("RunsBack", "askedNumber", "I", false)
  | 8 => ("RunsBack", "unitToCome", "I", false)
  | 9 => ("RunsBack", "depthToCome", "I", false)
  | 10 => ("RunsBack", "watchedRegisters", "I", false)
  | 11 => ("RunsBack", "watchedCells", "I", false)
  | _ => ("RunsBack", "latestReplayed", "I", false)
def tyX9 : Nat → FieldType := fun k => match k with
  | 0 => .object "RunsBack$Program"
  | 1 => .object "RunsBack$Outside"
  | 2 => .object "RunsBack$Beside"
  | 3 => .array .boolean
  | 4 => .array (.object "RunsBack$Run")
  | 5 => .int
  | 6 => .object "RunsBack$Run"
  | 7 => .int
  | 8 => .int
  | 9 => .int
  | 10 => .int
  | 11 => .int
  | _ => .int
abbrev wsX90 : List Cond := u_ws RX9 TX9 13
theorem nmX9 : ∀ a, a < 13 → ∀ b, b < 13 → a ≠ b → (TX9 a).2.1 ≠ (TX9 b).2.1 := by decide +kernel
theorem tyX9_ok : ∀ k, k < 13 → parseFieldDescriptor (TX9 k).2.2.1 = some (tyX9 k) := by decide +kernel
abbrev cX9_init : ByteArray := prog_1_method_1_code
def yX9_init : MethodName := ⟨RX9, "<init>", "()V"⟩
abbrev cX9_code : ByteArray := prog_1_method_2_code
def yX9_code : MethodName := ⟨RX9, "code", "(IIIII)Z"⟩
abbrev cX9_spacing : ByteArray := prog_1_method_3_code
def yX9_spacing : MethodName := ⟨RX9, "spacing", "(II)Z"⟩
abbrev cX9_begin : ByteArray := prog_1_method_4_code
def yX9_begin : MethodName := ⟨RX9, "begin", "()I"⟩
abbrev cX9_give : ByteArray := prog_1_method_5_code
def yX9_give : MethodName := ⟨RX9, "give", "(I)I"⟩
abbrev cX9_seed : ByteArray := prog_1_method_6_code
def yX9_seed : MethodName := ⟨RX9, "seed", "(I)I"⟩
abbrev cX9_poke : ByteArray := prog_1_method_7_code
def yX9_poke : MethodName := ⟨RX9, "poke", "(III)I"⟩
abbrev cX9_run : ByteArray := prog_1_method_8_code
def yX9_run : MethodName := ⟨RX9, "run", "(I)I"⟩
abbrev cX9_watch : ByteArray := prog_1_method_9_code
def yX9_watch : MethodName := ⟨RX9, "watch", "(IZ)Z"⟩
abbrev cX9_back : ByteArray := prog_1_method_10_code
def yX9_back : MethodName := ⟨RX9, "back", "(I)I"⟩
abbrev cX9_keep : ByteArray := prog_1_method_11_code
def yX9_keep : MethodName := ⟨RX9, "keep", "()I"⟩
abbrev cX9_use : ByteArray := prog_1_method_12_code
def yX9_use : MethodName := ⟨RX9, "use", "(I)Z"⟩
abbrev cX9_at : ByteArray := prog_1_method_13_code
def yX9_at : MethodName := ⟨RX9, "at", "(III)I"⟩
abbrev cX9_state : ByteArray := prog_1_method_14_code
def yX9_state : MethodName := ⟨RX9, "state", "(II)I"⟩
abbrev cX9_last : ByteArray := prog_1_method_15_code
def yX9_last : MethodName := ⟨RX9, "last", "(II)I"⟩
abbrev cX9_when : ByteArray := prog_1_method_16_code
def yX9_when : MethodName := ⟨RX9, "when", "(IIII)I"⟩
abbrev cX9_changed : ByteArray := prog_1_method_17_code
def yX9_changed : MethodName := ⟨RX9, "changed", "(II)I"⟩
abbrev cX9_watched : ByteArray := prog_1_method_18_code
def yX9_watched : MethodName := ⟨RX9, "watched", "(I)I"⟩
abbrev cX9_rests : ByteArray := prog_1_method_19_code
def yX9_rests : MethodName := ⟨RX9, "rests", "(III)I"⟩
abbrev cX9_hangs : ByteArray := prog_1_method_20_code
def yX9_hangs : MethodName := ⟨RX9, "hangs", "(III)I"⟩
abbrev cX9_history : ByteArray := prog_1_method_21_code
def yX9_history : MethodName := ⟨RX9, "history", "(III)I"⟩
abbrev cX9_done : ByteArray := prog_1_method_22_code
def yX9_done : MethodName := ⟨RX9, "done", "(II)I"⟩
abbrev cX9_call : ByteArray := prog_1_method_23_code
def yX9_call : MethodName := ⟨RX9, "call", "(II)I"⟩
abbrev cX9_log : ByteArray := prog_1_method_24_code
def yX9_log : MethodName := ⟨RX9, "log", "(II)I"⟩
abbrev cX9_held : ByteArray := prog_1_method_25_code
def yX9_held : MethodName := ⟨RX9, "held", "(II)I"⟩
abbrev cX9_would : ByteArray := prog_1_method_26_code
def yX9_would : MethodName := ⟨RX9, "would", "(III)I"⟩
abbrev cX9_gap : ByteArray := prog_1_method_27_code
def yX9_gap : MethodName := ⟨RX9, "gap", "(III)I"⟩
abbrev cX9_sparing : ByteArray := prog_1_method_28_code
def yX9_sparing : MethodName := ⟨RX9, "sparing", "(III)I"⟩
abbrev cX9_align : ByteArray := prog_1_method_29_code
def yX9_align : MethodName := ⟨RX9, "align", "(II)I"⟩
abbrev cX9_pair : ByteArray := prog_1_method_30_code
def yX9_pair : MethodName := ⟨RX9, "pair", "(IIII)I"⟩
abbrev cX9_parts : ByteArray := prog_1_method_31_code
def yX9_parts : MethodName := ⟨RX9, "parts", "(II)I"⟩
abbrev cX9_look : ByteArray := prog_1_method_32_code
def yX9_look : MethodName := ⟨RX9, "look", "(I)I"⟩
abbrev cX9_lookAtRun : ByteArray := prog_1_method_33_code
def yX9_lookAtRun : MethodName := ⟨RX9, "lookAtRun", "(LRunsBack$Run;I)I"⟩
abbrev cX9_isKept : ByteArray := prog_1_method_34_code
def yX9_isKept : MethodName := ⟨RX9, "isKept", "(I)Z"⟩
abbrev cX9_numbered : ByteArray := prog_1_method_35_code
def yX9_numbered : MethodName := ⟨RX9, "numbered", "(I)LRunsBack$Run;"⟩
abbrev cX9_isWatched : ByteArray := prog_1_method_36_code
def yX9_isWatched : MethodName := ⟨RX9, "isWatched", "(I)Z"⟩
abbrev cX9_replay : ByteArray := prog_1_method_37_code
def yX9_replay : MethodName := ⟨RX9, "replay", "(LRunsBack$Run;I)V"⟩
abbrev cX9_count : ByteArray := prog_1_method_38_code
def yX9_count : MethodName := ⟨RX9, "count", "(LRunsBack$Run;I)V"⟩
abbrev cX9_lastChange : ByteArray := prog_1_method_39_code
def yX9_lastChange : MethodName := ⟨RX9, "lastChange", "(LRunsBack$Run;II)I"⟩
abbrev cX9_unlike : ByteArray := prog_1_method_40_code
def yX9_unlike : MethodName := ⟨RX9, "unlike", "(LRunsBack$Puts;ILRunsBack$Puts;II)I"⟩
abbrev cX9_wouldBeHeld : ByteArray := prog_1_method_41_code
def yX9_wouldBeHeld : MethodName := ⟨RX9, "wouldBeHeld", "(III)I"⟩
abbrev cX9_isPlace : ByteArray := prog_1_method_42_code
def yX9_isPlace : MethodName := ⟨RX9, "isPlace", "(I)Z"⟩
abbrev cX9_isInstructionPlace : ByteArray := prog_1_method_43_code
def yX9_isInstructionPlace : MethodName := ⟨RX9, "isInstructionPlace", "(I)Z"⟩
abbrev cX9_isUnit : ByteArray := prog_1_method_44_code
def yX9_isUnit : MethodName := ⟨RX9, "isUnit", "(I)Z"⟩
abbrev cX9_isDepth : ByteArray := prog_1_method_45_code
def yX9_isDepth : MethodName := ⟨RX9, "isDepth", "(I)Z"⟩
abbrev cX9_isAnyTime : ByteArray := prog_1_method_46_code
def yX9_isAnyTime : MethodName := ⟨RX9, "isAnyTime", "(I)Z"⟩
abbrev cX9_isStateWhat : ByteArray := prog_1_method_47_code
def yX9_isStateWhat : MethodName := ⟨RX9, "isStateWhat", "(I)Z"⟩
abbrev cX9_isPlacesWhat : ByteArray := prog_1_method_48_code
def yX9_isPlacesWhat : MethodName := ⟨RX9, "isPlacesWhat", "(I)Z"⟩
abbrev cX9_firstPlaceOf : ByteArray := prog_1_method_49_code
def yX9_firstPlaceOf : MethodName := ⟨RX9, "firstPlaceOf", "(I)I"⟩
abbrev cX9_placesOf : ByteArray := prog_1_method_50_code
def yX9_placesOf : MethodName := ⟨RX9, "placesOf", "(I)I"⟩
abbrev cX9_isMarked : ByteArray := prog_1_method_51_code
def yX9_isMarked : MethodName := ⟨RX9, "isMarked", "([ZI)Z"⟩
abbrev cX9_isValue : ByteArray := prog_1_method_52_code
def yX9_isValue : MethodName := ⟨RX9, "isValue", "(II)Z"⟩
abbrev cX9_isInstruction : ByteArray := prog_1_method_53_code
def yX9_isInstruction : MethodName := ⟨RX9, "isInstruction", "(IIII)Z"⟩
abbrev cX9_fits : ByteArray := prog_1_method_54_code
def yX9_fits : MethodName := ⟨RX9, "fits", "(II)Z"⟩
def RX10 : String := "RunsBackModel"
def TX10 : u_T := fun k => match k with
  | 0 => ("RunsBackModel", "kinds", "[I", true)
  | 1 => ("RunsBackModel", "as", "[I", true)
  | 2 => ("RunsBackModel", "bs", "[I", true)
  | 3 => ("RunsBackModel", "cs", "[I", true)
  | 4 => ("RunsBackModel", "unit", "I", false)
  | 5 => ("RunsBackModel", "depth", "I", false)
  | 6 => ("RunsBackModel", "isRun", "[Z", true)
  | 7 => ("RunsBackModel", "runKind", "[I", true)
  | 8 => ("RunsBackModel", "runA", "[I", true)
  | 9 => ("RunsBackModel", "runB", "[I", true)
  | 10 => ("RunsBackModel", "runC", "[I", true)
  | 11 => ("RunsBackModel", "logTime", "[I", true)
  | 12 => ("RunsBackModel", "logSort", "[I", true)
  | 13 => ("RunsBackModel", "logNumber", "[I", true)
  | 14 => ("RunsBackModel", "logPlace", "[I", true)
  | 15 => ("RunsBackModel", "logValue", "[I", true)
  | 16 => ("RunsBackModel", "logs", "[I", true)
  | 17 => ("RunsBackModel", "callTime", "[I", true)
  | 18 => ("RunsBackModel", "callTo", "[I", true)
  | 19 => ("RunsBackModel", "callDeep", "[I", true)
  | 20 => ("RunsBackModel", "calls", "[I", true)
  | 21 => ("RunsBackModel", "isHeld", "[Z", true)
  | 22 => ("RunsBackModel", "times", "[I", true)
  | 23 => ("RunsBackModel", "statuses", "[I", true)
  | 24 => ("RunsBackModel", "units", "[I", true)
  | 25 => ("RunsBackModel", "depths", "[I", true)
  | 26 => ("RunsBackModel", "replayed", "[I", true)
  | 27 => ("RunsBackModel", "mostHeld", "[I", true)
  | 28 => ("RunsBackModel", "backs", "[I", true)
  | 29 => ("RunsBackModel", "kept", "I", false)
  | 30 => ("RunsBackModel", "asked", "I", false)
  | 31 => ("RunsBackModel", "live", "[I", true)
  | 32 => ("RunsBackModel", "inputs", "[I", true)
  | 33 => ("RunsBackModel", "waiting", "I", false)
  | 34 => ("RunsBackModel", "x", "I", false)
  | 35 => ("RunsBackModel", "latest", "I", false)
  | 36 => ("RunsBackModel", "isWatched", "[Z", true)
  | 37 => ("RunsBackModel", "trap", "I", false)
  | 38 => ("RunsBackModel", "took", "I", false)
  | 39 => ("RunsBackModel", "put", "I", false)
  | 40 => ("RunsBackModel", "sim", "[I", true)
  | 41 => ("RunsBackModel", "simRun", "I", false)
  | 42 => ("RunsBackModel", "simLog", "I", false)
  | 43 => ("RunsBackModel", "changesWere", "[I", true)
  | 44 => ("RunsBackModel", "rest", "[I", true)
  | 45 => ("RunsBackModel", "looked", "[I", true)
  | 46 => ("RunsBackModel", "pairs", "[I", true)
  | 47 => ("RunsBackModel", "oneRun", "I", false)
  | 48 => ("RunsBackModel", "otherRun", "I", false)
  | 49 => ("RunsBackModel", "pairOne", "I", false)
  | 50 => ("RunsBackModel", "pairOther", "I", false)
  | 51 => ("RunsBackModel", "aside", "[I", true)
  | 52 => ("RunsBackModel", "before", "[I", true)
  | 53 => ("RunsBackModel", "beforeRun", "I", false)
  | _ => ("RunsBackModel", "beforeLog", "I", false)
def tyX10 : Nat → FieldType := fun k => match k with
  | 0 => .array .int
  | 1 => .array .int
  | 2 => .array .int
  | 3 => .array .int
  | 4 => .int
  | 5 => .int
  | 6 => .array .boolean
  | 7 => .array .int
  | 8 => .array .int
  | 9 => .array .int
  | 10 => .array .int
  | 11 => .array .int
  | 12 => .array .int
  | 13 => .array .int
  | 14 => .array .int
  | 15 => .array .int
  | 16 => .array .int
  | 17 => .array .int
  | 18 => .array .int
  | 19 => .array .int
  | 20 => .array .int
  | 21 => .array .boolean
  | 22 => .array .int
  | 23 => .array .int
  | 24 => .array .int
  | 25 => .array .int
  | 26 => .array .int
  | 27 => .array .int
  | 28 => .array .int
  | 29 => .int
  | 30 => .int
  | 31 => .array .int
  | 32 => .array .int
  | 33 => .int
  | 34 => .int
  | 35 => .int
  | 36 => .array .boolean
  | 37 => .int
  | 38 => .int
  | 39 => .int
  | 40 => .array .int
  | 41 => .int
  | 42 => .int
  | 43 => .array .int
  | 44 => .array .int
  | 45 => .array .int
  | 46 => .array .int
  | 47 => .int
  | 48 => .int
  | 49 => .int
  | 50 => .int
  | 51 => .array .int
  | 52 => .array .int
  | 53 => .int
  | _ => .int
abbrev wsX100 : List Cond := u_ws RX10 TX10 55
theorem nmX10 : ∀ a, a < 55 → ∀ b, b < 55 → a ≠ b → (TX10 a).2.1 ≠ (TX10 b).2.1 := by decide +kernel
theorem tyX10_ok : ∀ k, k < 55 → parseFieldDescriptor (TX10 k).2.2.1 = some (tyX10 k) := by decide +kernel
abbrev cX10_isIn : ByteArray := prog_12_method_1_code
def yX10_isIn : MethodName := ⟨RX10, "isIn", "(III)Z"⟩
abbrev cX10_one : ByteArray := prog_12_method_2_code
def yX10_one : MethodName := ⟨RX10, "one", "(Z)I"⟩
abbrev cX10_init : ByteArray := prog_12_method_3_code
def yX10_init : MethodName := ⟨RX10, "<init>", "()V"⟩
abbrev cX10_isRegister : ByteArray := prog_12_method_4_code
def yX10_isRegister : MethodName := ⟨RX10, "isRegister", "(I)Z"⟩
abbrev cX10_isFine : ByteArray := prog_12_method_5_code
def yX10_isFine : MethodName := ⟨RX10, "isFine", "(IIII)Z"⟩
abbrev cX10_code : ByteArray := prog_12_method_6_code
def yX10_code : MethodName := ⟨RX10, "code", "(IIIII)Z"⟩
abbrev cX10_isSpacing : ByteArray := prog_12_method_7_code
def yX10_isSpacing : MethodName := ⟨RX10, "isSpacing", "(II)Z"⟩
abbrev cX10_spacing : ByteArray := prog_12_method_8_code
def yX10_spacing : MethodName := ⟨RX10, "spacing", "(II)Z"⟩
abbrev cX10_heldAt : ByteArray := prog_12_method_9_code
def yX10_heldAt : MethodName := ⟨RX10, "heldAt", "(II)I"⟩
abbrev cX10_clears : ByteArray := prog_12_method_10_code
def yX10_clears : MethodName := ⟨RX10, "clears", "([I)V"⟩
abbrev cX10_begin : ByteArray := prog_12_method_11_code
def yX10_begin : MethodName := ⟨RX10, "begin", "()I"⟩
abbrev cX10_give : ByteArray := prog_12_method_12_code
def yX10_give : MethodName := ⟨RX10, "give", "(I)I"⟩
abbrev cX10_seed : ByteArray := prog_12_method_13_code
def yX10_seed : MethodName := ⟨RX10, "seed", "(I)I"⟩
abbrev cX10_isValue : ByteArray := prog_12_method_14_code
def yX10_isValue : MethodName := ⟨RX10, "isValue", "(II)Z"⟩
abbrev cX10_isPlace : ByteArray := prog_12_method_15_code
def yX10_isPlace : MethodName := ⟨RX10, "isPlace", "(I)Z"⟩
abbrev cX10_puts : ByteArray := prog_12_method_16_code
def yX10_puts : MethodName := ⟨RX10, "puts", "([IIII)V"⟩
abbrev cX10_notes : ByteArray := prog_12_method_17_code
def yX10_notes : MethodName := ⟨RX10, "notes", "(IIII)V"⟩
abbrev cX10_poke : ByteArray := prog_12_method_18_code
def yX10_poke : MethodName := ⟨RX10, "poke", "(III)I"⟩
abbrev cX10_kindAt : ByteArray := prog_12_method_19_code
def yX10_kindAt : MethodName := ⟨RX10, "kindAt", "(II)I"⟩
abbrev cX10_isOf : ByteArray := prog_12_method_20_code
def yX10_isOf : MethodName := ⟨RX10, "isOf", "([III)Z"⟩
abbrev cX10_traps : ByteArray := prog_12_method_21_code
def yX10_traps : MethodName := ⟨RX10, "traps", "([II)V"⟩
abbrev cX10_gives : ByteArray := prog_12_method_22_code
def yX10_gives : MethodName := ⟨RX10, "gives", "([IIII)V"⟩
abbrev cX10_steps : ByteArray := prog_12_method_23_code
def yX10_steps : MethodName := ⟨RX10, "steps", "([III)V"⟩
abbrev cX10_does : ByteArray := prog_12_method_24_code
def yX10_does : MethodName := ⟨RX10, "does", "([IIIIIII)V"⟩
abbrev cX10_reckons : ByteArray := prog_12_method_25_code
def yX10_reckons : MethodName := ⟨RX10, "reckons", "([IIIII)V"⟩
abbrev cX10_cells : ByteArray := prog_12_method_26_code
def yX10_cells : MethodName := ⟨RX10, "cells", "([IIII)V"⟩
abbrev cX10_goes : ByteArray := prog_12_method_27_code
def yX10_goes : MethodName := ⟨RX10, "goes", "([IIII)V"⟩
abbrev cX10_status : ByteArray := prog_12_method_28_code
def yX10_status : MethodName := ⟨RX10, "status", "()I"⟩
abbrev cX10_halvings : ByteArray := prog_12_method_29_code
def yX10_halvings : MethodName := ⟨RX10, "halvings", "(I)I"⟩
abbrev cX10_goesWith : ByteArray := prog_12_method_30_code
def yX10_goesWith : MethodName := ⟨RX10, "goesWith", "(II)I"⟩
abbrev cX10_heldMany : ByteArray := prog_12_method_31_code
def yX10_heldMany : MethodName := ⟨RX10, "heldMany", "(I)I"⟩
abbrev cX10_comes : ByteArray := prog_12_method_32_code
def yX10_comes : MethodName := ⟨RX10, "comes", "()V"⟩
abbrev cX10_takesInput : ByteArray := prog_12_method_33_code
def yX10_takesInput : MethodName := ⟨RX10, "takesInput", "()V"⟩
abbrev cX10_draws : ByteArray := prog_12_method_34_code
def yX10_draws : MethodName := ⟨RX10, "draws", "(I)V"⟩
abbrev cX10_goesOn : ByteArray := prog_12_method_35_code
def yX10_goesOn : MethodName := ⟨RX10, "goesOn", "()V"⟩
abbrev cX10_watchedChanges : ByteArray := prog_12_method_36_code
def yX10_watchedChanges : MethodName := ⟨RX10, "watchedChanges", "()I"⟩
abbrev cX10_run : ByteArray := prog_12_method_37_code
def yX10_run : MethodName := ⟨RX10, "run", "(I)I"⟩
abbrev cX10_watch : ByteArray := prog_12_method_38_code
def yX10_watch : MethodName := ⟨RX10, "watch", "(IZ)Z"⟩
abbrev cX10_simPokes : ByteArray := prog_12_method_39_code
def yX10_simPokes : MethodName := ⟨RX10, "simPokes", "()V"⟩
abbrev cX10_simBegins : ByteArray := prog_12_method_40_code
def yX10_simBegins : MethodName := ⟨RX10, "simBegins", "(I)V"⟩
abbrev cX10_simStep : ByteArray := prog_12_method_41_code
def yX10_simStep : MethodName := ⟨RX10, "simStep", "()V"⟩
abbrev cX10_lays : ByteArray := prog_12_method_42_code
def yX10_lays : MethodName := ⟨RX10, "lays", "(II)V"⟩
abbrev cX10_heldBy : ByteArray := prog_12_method_43_code
def yX10_heldBy : MethodName := ⟨RX10, "heldBy", "(II)I"⟩
abbrev cX10_counts : ByteArray := prog_12_method_44_code
def yX10_counts : MethodName := ⟨RX10, "counts", "(II)V"⟩
abbrev cX10_replays : ByteArray := prog_12_method_45_code
def yX10_replays : MethodName := ⟨RX10, "replays", "(II)V"⟩
abbrev cX10_runAsked : ByteArray := prog_12_method_46_code
def yX10_runAsked : MethodName := ⟨RX10, "runAsked", "()I"⟩
abbrev cX10_isTime : ByteArray := prog_12_method_47_code
def yX10_isTime : MethodName := ⟨RX10, "isTime", "(I)Z"⟩
abbrev cX10_back : ByteArray := prog_12_method_48_code
def yX10_back : MethodName := ⟨RX10, "back", "(I)I"⟩
abbrev cX10_copies : ByteArray := prog_12_method_49_code
def yX10_copies : MethodName := ⟨RX10, "copies", "([IIII)V"⟩
abbrev cX10_keep : ByteArray := prog_12_method_50_code
def yX10_keep : MethodName := ⟨RX10, "keep", "()I"⟩
abbrev cX10_use : ByteArray := prog_12_method_51_code
def yX10_use : MethodName := ⟨RX10, "use", "(I)Z"⟩
abbrev cX10_at : ByteArray := prog_12_method_52_code
def yX10_at : MethodName := ⟨RX10, "at", "(III)I"⟩
abbrev cX10_state : ByteArray := prog_12_method_53_code
def yX10_state : MethodName := ⟨RX10, "state", "(II)I"⟩
abbrev cX10_lastOf : ByteArray := prog_12_method_54_code
def yX10_lastOf : MethodName := ⟨RX10, "lastOf", "(II)I"⟩
abbrev cX10_last : ByteArray := prog_12_method_55_code
def yX10_last : MethodName := ⟨RX10, "last", "(II)I"⟩
abbrev cX10_hadIn : ByteArray := prog_12_method_56_code
def yX10_hadIn : MethodName := ⟨RX10, "hadIn", "(IIIIII)I"⟩
abbrev cX10_when : ByteArray := prog_12_method_57_code
def yX10_when : MethodName := ⟨RX10, "when", "(IIII)I"⟩
abbrev cX10_changed : ByteArray := prog_12_method_58_code
def yX10_changed : MethodName := ⟨RX10, "changed", "(II)I"⟩
abbrev cX10_watched : ByteArray := prog_12_method_59_code
def yX10_watched : MethodName := ⟨RX10, "watched", "(I)I"⟩
abbrev cX10_clearsLooked : ByteArray := prog_12_method_60_code
def yX10_clearsLooked : MethodName := ⟨RX10, "clearsLooked", "()V"⟩
abbrev cX10_looksAt : ByteArray := prog_12_method_61_code
def yX10_looksAt : MethodName := ⟨RX10, "looksAt", "(I)V"⟩
abbrev cX10_adds : ByteArray := prog_12_method_62_code
def yX10_adds : MethodName := ⟨RX10, "adds", "(I)V"⟩
abbrev cX10_restsOn : ByteArray := prog_12_method_63_code
def yX10_restsOn : MethodName := ⟨RX10, "restsOn", "(I)V"⟩
abbrev cX10_restPokes : ByteArray := prog_12_method_64_code
def yX10_restPokes : MethodName := ⟨RX10, "restPokes", "()V"⟩
abbrev cX10_looks : ByteArray := prog_12_method_65_code
def yX10_looks : MethodName := ⟨RX10, "looks", "()V"⟩
abbrev cX10_laysRests : ByteArray := prog_12_method_66_code
def yX10_laysRests : MethodName := ⟨RX10, "laysRests", "(II)V"⟩
abbrev cX10_restsOnBit : ByteArray := prog_12_method_67_code
def yX10_restsOnBit : MethodName := ⟨RX10, "restsOnBit", "(II)Z"⟩
abbrev cX10_rests : ByteArray := prog_12_method_68_code
def yX10_rests : MethodName := ⟨RX10, "rests", "(III)I"⟩
abbrev cX10_hangs : ByteArray := prog_12_method_69_code
def yX10_hangs : MethodName := ⟨RX10, "hangs", "(III)I"⟩
abbrev cX10_history : ByteArray := prog_12_method_70_code
def yX10_history : MethodName := ⟨RX10, "history", "(III)I"⟩
abbrev cX10_done : ByteArray := prog_12_method_71_code
def yX10_done : MethodName := ⟨RX10, "done", "(II)I"⟩
abbrev cX10_call : ByteArray := prog_12_method_72_code
def yX10_call : MethodName := ⟨RX10, "call", "(II)I"⟩
abbrev cX10_log : ByteArray := prog_12_method_73_code
def yX10_log : MethodName := ⟨RX10, "log", "(II)I"⟩
abbrev cX10_held : ByteArray := prog_12_method_74_code
def yX10_held : MethodName := ⟨RX10, "held", "(II)I"⟩
abbrev cX10_wouldBe : ByteArray := prog_12_method_75_code
def yX10_wouldBe : MethodName := ⟨RX10, "wouldBe", "(III)Z"⟩
abbrev cX10_wouldOf : ByteArray := prog_12_method_76_code
def yX10_wouldOf : MethodName := ⟨RX10, "wouldOf", "(III)I"⟩
abbrev cX10_would : ByteArray := prog_12_method_77_code
def yX10_would : MethodName := ⟨RX10, "would", "(III)I"⟩
abbrev cX10_gap : ByteArray := prog_12_method_78_code
def yX10_gap : MethodName := ⟨RX10, "gap", "(III)I"⟩
abbrev cX10_sparing : ByteArray := prog_12_method_79_code
def yX10_sparing : MethodName := ⟨RX10, "sparing", "(III)I"⟩
abbrev cX10_isThere : ByteArray := prog_12_method_80_code
def yX10_isThere : MethodName := ⟨RX10, "isThere", "(I)Z"⟩
abbrev cX10_areLike : ByteArray := prog_12_method_81_code
def yX10_areLike : MethodName := ⟨RX10, "areLike", "(II)Z"⟩
abbrev cX10_laysPairs : ByteArray := prog_12_method_82_code
def yX10_laysPairs : MethodName := ⟨RX10, "laysPairs", "(II)V"⟩
abbrev cX10_align : ByteArray := prog_12_method_83_code
def yX10_align : MethodName := ⟨RX10, "align", "(II)I"⟩
abbrev cX10_finds : ByteArray := prog_12_method_84_code
def yX10_finds : MethodName := ⟨RX10, "finds", "(I)V"⟩
abbrev cX10_pair : ByteArray := prog_12_method_85_code
def yX10_pair : MethodName := ⟨RX10, "pair", "(IIII)I"⟩
abbrev cX10_swaps : ByteArray := prog_12_method_86_code
def yX10_swaps : MethodName := ⟨RX10, "swaps", "()V"⟩
abbrev cX10_areStatesLike : ByteArray := prog_12_method_87_code
def yX10_areStatesLike : MethodName := ⟨RX10, "areStatesLike", "()Z"⟩
abbrev cX10_parts : ByteArray := prog_12_method_88_code
def yX10_parts : MethodName := ⟨RX10, "parts", "(II)I"⟩
abbrev cX10_watchedOf : ByteArray := prog_12_method_89_code
def yX10_watchedOf : MethodName := ⟨RX10, "watchedOf", "(II)I"⟩
abbrev cX10_ofRun : ByteArray := prog_12_method_90_code
def yX10_ofRun : MethodName := ⟨RX10, "ofRun", "(II)I"⟩
abbrev cX10_look : ByteArray := prog_12_method_91_code
def yX10_look : MethodName := ⟨RX10, "look", "(I)I"⟩
def RJx8e188 : String := "java/lang/Cloneable"
def TJx8e188 : u_T := fun k => match k with
  | _ => ("", "", "", false)
def tyJx8e188 : Nat → FieldType := fun k => match k with
  | _ => .int
abbrev wsJx8e1880 : List Cond := u_ws RJx8e188 TJx8e188 0
theorem nmJx8e188 : ∀ a, a < 0 → ∀ b, b < 0 → a ≠ b → (TJx8e188 a).2.1 ≠ (TJx8e188 b).2.1 := by decide +kernel
theorem tyJx8e188_ok : ∀ k, k < 0 → parseFieldDescriptor (TJx8e188 k).2.2.1 = some (tyJx8e188 k) := by decide +kernel
def RJ9 : String := "java/lang/Math"
def TJ9 : u_T := fun k => match k with
  | _ => ("", "", "", false)
def tyJ9 : Nat → FieldType := fun k => match k with
  | _ => .int
abbrev wsJ90 : List Cond := u_ws RJ9 TJ9 0
theorem nmJ9 : ∀ a, a < 0 → ∀ b, b < 0 → a ≠ b → (TJ9 a).2.1 ≠ (TJ9 b).2.1 := by decide +kernel
theorem tyJ9_ok : ∀ k, k < 0 → parseFieldDescriptor (TJ9 k).2.2.1 = some (tyJ9 k) := by decide +kernel
abbrev cJ9_max_7cf53 : ByteArray := prog_14_method_65_code
def yJ9_max_7cf53 : MethodName := ⟨RJ9, "max", "(II)I"⟩
abbrev cJ9_min_7cf53 : ByteArray := prog_14_method_69_code
def yJ9_min_7cf53 : MethodName := ⟨RJ9, "min", "(II)I"⟩
def RJ7 : String := "java/util/Arrays"
def TJ7 : u_T := fun k => match k with
  | _ => ("", "", "", false)
def tyJ7 : Nat → FieldType := fun k => match k with
  | _ => .int
abbrev wsJ70 : List Cond := u_ws RJ7 TJ7 0
theorem nmJ7 : ∀ a, a < 0 → ∀ b, b < 0 → a ≠ b → (TJ7 a).2.1 ≠ (TJ7 b).2.1 := by decide +kernel
theorem tyJ7_ok : ∀ k, k < 0 → parseFieldDescriptor (TJ7 k).2.2.1 = some (tyJ7 k) := by decide +kernel
abbrev cJ7_fill_53178 : ByteArray := prog_15_method_103_code
def yJ7_fill_53178 : MethodName := ⟨RJ7, "fill", "([II)V"⟩
abbrev cJ7_fill_49daa : ByteArray := prog_15_method_111_code
def yJ7_fill_49daa : MethodName := ⟨RJ7, "fill", "([ZZ)V"⟩
def RL : String := "RunsBackLaw"
abbrev cL_law : ByteArray := code
def yL_law : MethodName := ⟨RL, "law", "([I)Z"⟩
abbrev vwCl : List vw_C := [(RX0, TX0, 6), (RX1, TX1, 4), (RX2, TX2, 5), (RX3, TX3, 6), (RX4, TX4, 4), (RX5, TX5, 4), (RX6, TX6, 12), (RX7, TX7, 15), (RX9, TX9, 13), (RX10, TX10, 55)]
end
section
/-! A LAYER OVER THE KIT'S ROWS: the machine seen purely. A world is a function from places (numbers) to cells, whose references are places again; where the places lie in the heap (ad), the regions, the words, the room are hidden in pm_X. -/
def pm_v (ad : Nat → Nat) (v : Value) : Value := match v with
  | .ref k => .ref (ad k)
  | v => v
theorem pm_v_cat (ad : Nat → Nat) (v : Value) : (pm_v ad v).category = v.category := by cases v <;> rfl
abbrev pm_A : Type := (Nat → Int32) ⊕ (Nat → Int64) ⊕ (Nat → UInt32) ⊕ (Nat → UInt64) ⊕ (Nat → Option Nat)
def pm_x (ad : Nat → Nat) (x : pm_A) : pm_A := match x with
  | .inr (.inr (.inr (.inr g))) => .inr (.inr (.inr (.inr (fun i => (g i).map ad))))
  | x => x
def pm_e (cA : Nat → ClassId) (ad : Nat → Nat) (e : va_E) : va_E := match e with
  | .inl (t, N, x) => .inl (cA t, N, pm_x ad x)
  | .inr (ci, fs) => .inr (ci, fs.map (pm_v ad))
def pm_W (cA : Nat → ClassId) (ad : Nat → Nat) (n : Nat) (w : Nat → va_E) : va_W := (List.range n).map (fun k => (ad k, pm_e cA ad (w k)))
theorem pm_W_len {cA : Nat → ClassId} {ad : Nat → Nat} {n : Nat} {w : Nat → va_E} : (pm_W cA ad n w).length = n := by simp [pm_W]
theorem pm_W_get {cA : Nat → ClassId} {ad : Nat → Nat} {n k : Nat} {w : Nat → va_E} (h : k < n) : (pm_W cA ad n w)[k]? = some (ad k, pm_e cA ad (w k)) := by
  simp [pm_W, h]
theorem pm_W_inv {cA : Nat → ClassId} {ad : Nat → Nat} {n k : Nat} {w : Nat → va_E} {q : Nat × va_E} (h : (pm_W cA ad n w)[k]? = some q) : k < n ∧ q = (ad k, pm_e cA ad (w k)) := by
  have hk : k < n := by
    have := (List.getElem?_eq_some_iff.mp h).1
    rwa [pm_W_len] at this
  rw [pm_W_get hk] at h
  exact ⟨hk, (Option.some.inj h).symm⟩
theorem pm_up_s {α : Type} {f : Nat → α} {k : Nat} {v : α} : va_up f k v k = v := by simp [va_up]
theorem pm_up_n {α : Type} {f : Nat → α} {k j : Nat} {v : α} (h : j ≠ k) : va_up f k v j = f j := by simp [va_up, h]
theorem pm_W_set {cA : Nat → ClassId} {ad : Nat → Nat} {n k : Nat} {w : Nat → va_E} (e : va_E) : (pm_W cA ad n w).set k (ad k, pm_e cA ad e) = pm_W cA ad n (va_up w k e) := by
  apply List.ext_getElem?
  intro j
  rw [List.getElem?_set, pm_W_len]
  by_cases hj : k = j
  · subst hj
    by_cases hk : k < n
    · rw [if_pos rfl, if_pos hk, pm_W_get hk, pm_up_s]
    · rw [if_pos rfl, if_neg hk, eq_comm, List.getElem?_eq_none_iff, pm_W_len]
      omega
  · rw [if_neg hj]
    by_cases hk : j < n
    · rw [pm_W_get hk, pm_W_get hk, pm_up_n (fun q => hj q.symm)]
    · rw [List.getElem?_eq_none_iff.mpr (by rw [pm_W_len]; omega), List.getElem?_eq_none_iff.mpr (by rw [pm_W_len]; omega)]
/-- a value, a cell, a world whose references are places of the world (or of the read-only arrays) -/
def pm_ok (n : Nat) (v : Value) : Prop := ∀ k, v = .ref k → k < n ∨ 1000000 ≤ k
def pm_ek (n : Nat) (e : va_E) : Prop := (∀ t N g, e = .inl (t, N, .inr (.inr (.inr (.inr g)))) → ∀ i k, g i = some k → k < n) ∧ ∀ ci fs, e = .inr (ci, fs) → ∀ v ∈ fs, pm_ok n v
def pm_wk (n : Nat) (w : Nat → va_E) : Prop := ∀ k, k < n → pm_ek n (w k)
theorem pm_oki {n : Nat} {x : Int32} : pm_ok n (.int x) := fun k h => by cases h
theorem pm_okn {n : Nat} : pm_ok n .null := fun k h => by cases h
theorem pm_okr {n k : Nat} (h : k < n) : pm_ok n (.ref k) := fun j e => by cases e; exact Or.inl h
theorem pm_okm {n n' : Nat} {v : Value} (h : n ≤ n') (hv : pm_ok n v) : pm_ok n' v := fun k e => (hv k e).imp (fun q => Nat.lt_of_lt_of_le q h) id
theorem pm_ekm {n n' : Nat} {e : va_E} (h : n ≤ n') (hv : pm_ek n e) : pm_ek n' e := ⟨fun t N g q i k z => Nat.lt_of_lt_of_le (hv.1 t N g q i k z) h, fun ci fs q v z => pm_okm h (hv.2 ci fs q v z)⟩
theorem pm_eki {n t N : Nat} {f : Nat → Int32} : pm_ek n (.inl (t, N, .inl f)) := ⟨fun t N g q => (by simp at q), fun ci fs q => (by cases q)⟩
theorem pm_eko {n ci : Nat} {fs : List Value} (h : ∀ v ∈ fs, pm_ok n v) : pm_ek n (.inr (ci, fs)) := ⟨fun t N g q => (by cases q), fun ci' fs' q => (by cases q; exact h)⟩
theorem pm_ekq {n t N : Nat} {g : Nat → Option Nat} (h : ∀ i k, g i = some k → k < n) : pm_ek n (.inl (t, N, .inr (.inr (.inr (.inr g))))) := ⟨fun t N g' q => (by simp at q; obtain ⟨-, -, rfl⟩ := q; exact h), fun ci fs q => (by cases q)⟩
theorem pm_wku {n k : Nat} {w : Nat → va_E} {e : va_E} (h : pm_wk n w) (he : pm_ek n e) : pm_wk n (va_up w k e) := fun j hj => by
  by_cases q : j = k
  · subst q; rw [pm_up_s]; exact he
  · rw [pm_up_n q]; exact h j hj
/-- two layings that agree on the world's places agree on all that it holds -/
def pm_ag (n : Nat) (ad ad' : Nat → Nat) : Prop := ∀ k, k < n ∨ 1000000 ≤ k → ad' k = ad k
theorem pm_v_ag {n : Nat} {ad ad' : Nat → Nat} (h : pm_ag n ad ad') {v : Value} (hv : pm_ok n v) : pm_v ad' v = pm_v ad v := by
  cases v with
  | ref k => exact congrArg Value.ref (h k (hv k rfl))
  | _ => rfl
theorem pm_vs_ag {n : Nat} {ad ad' : Nat → Nat} (h : pm_ag n ad ad') {vs : List Value} (hv : ∀ v ∈ vs, pm_ok n v) : vs.map (pm_v ad') = vs.map (pm_v ad) := List.map_congr_left fun v q => pm_v_ag h (hv v q)
theorem pm_e_ag {n : Nat} {cA : Nat → ClassId} {ad ad' : Nat → Nat} (h : pm_ag n ad ad') {e : va_E} (he : pm_ek n e) : pm_e cA ad' e = pm_e cA ad e := by
  rcases e with ⟨t, N, f | f | f | f | g⟩ | ⟨ci, fs⟩
  · rfl
  · rfl
  · rfl
  · rfl
  · have hg : (fun i => (g i).map ad') = fun i => (g i).map ad := funext fun i => by
      cases hi : g i with
      | none => rfl
      | some k => exact congrArg some (h k (Or.inl (he.1 t N g rfl i k hi)))
    show Sum.inl (cA t, N, Sum.inr (Sum.inr (Sum.inr (Sum.inr (fun i => (g i).map ad'))))) = Sum.inl (cA t, N, Sum.inr (Sum.inr (Sum.inr (Sum.inr (fun i => (g i).map ad)))))
    rw [hg]
  · show Sum.inr (ci, fs.map (pm_v ad')) = Sum.inr (ci, fs.map (pm_v ad))
    rw [pm_vs_ag h (he.2 ci fs rfl)]
theorem pm_W_ag {n : Nat} {cA : Nat → ClassId} {ad ad' : Nat → Nat} (h : pm_ag n ad ad') {w : Nat → va_E} (hw : pm_wk n w) : pm_W cA ad' n w = pm_W cA ad n w := by
  apply List.ext_getElem?
  intro j
  by_cases hj : j < n
  · rw [pm_W_get hj, pm_W_get hj, h j (Or.inl hj), pm_e_ag h (hw j hj)]
  · rw [List.getElem?_eq_none_iff.mpr (by rw [pm_W_len]; omega), List.getElem?_eq_none_iff.mpr (by rw [pm_W_len]; omega)]
theorem pm_W_push {n q : Nat} {cA : Nat → ClassId} {ad : Nat → Nat} {w : Nat → va_E} {e : va_E} (hn : n < 1000000) (hw : pm_wk n w) (he : pm_ek n e) : pm_W cA ad n w ++ [(q, pm_e cA ad e)] = pm_W cA (va_up ad n q) (n + 1) (va_up w n e) := by
  have hag : pm_ag n ad (va_up ad n q) := fun k hk => pm_up_n (by omega)
  apply List.ext_getElem?
  intro j
  by_cases hj : j < n
  · rw [List.getElem?_append_left (by rw [pm_W_len]; exact hj), pm_W_get hj, pm_W_get (Nat.lt_succ_of_lt hj), pm_up_n (Nat.ne_of_lt hj), pm_up_n (Nat.ne_of_lt hj), pm_e_ag hag (hw j hj)]
  · by_cases hj2 : j = n
    · subst hj2
      rw [List.getElem?_append_right (by rw [pm_W_len]; exact Nat.le_refl _), pm_W_len, Nat.sub_self, pm_W_get (Nat.lt_succ_self _), pm_up_s, pm_up_s, pm_e_ag hag he]
      rfl
    · rw [List.getElem?_eq_none_iff.mpr (by rw [List.length_append, pm_W_len]; simp; omega), List.getElem?_eq_none_iff.mpr (by rw [pm_W_len]; omega)]
end
section
/-- a method: its name, its bytes, its locals, what it returns -/
abbrev pm_M : Type := MethodName × ByteArray × Nat × Option FieldType
/-- the tables' words that stay true while the machine warms up; the others (nest mates, arrays of references) are kept as facts: pm_N -/
def lw_g : List Cond := lw_tbl.filter goodWord
abbrev pm_ws (M : pm_M) : List Cond := .code M.1 M.2.1 M.2.2.1 M.2.2.2 :: lw_g
def pm_N (U : State) : Prop := (∀ own idx y host, Cond.methodLinkNest own idx y host ∈ lw_tbl → va_Nw (.methodLinkNest own idx y host) U) ∧ ∀ C, Cond.arrayOver (.object C) ∈ lw_tbl → va_AO C U
def pm_rm (d mc ms : Nat) : Room := { frames := d, cells := mc, slots := ms, locals := 40 * d }
def pm_tys (cA : Nat → ClassId) : List (ClassId × FieldType) := [(cA 0, .int), (cA 1, .boolean), (cA 2, .object RX7), (cA 3, .array .int)]
/-- arrays that nobody writes, by their places (1000000 and on): statics, and the script of the law -/
abbrev pm_RO : Type := Nat → Option (Nat × (Nat → Int32))
def pm_R (ro : pm_RO) (ad : Nat → Nat) (A : Nat → Prop) (U : State) : Prop := ∀ k N f, ro k = some (N, f) → 1000000 ≤ k ∧ va_T .int (ad k) N (fun i => .int (f i)) A U U.heap
/-- the static fields of RunsBack that hold such arrays -/
def pm_Z (gs : List String) (ad : Nat → Nat) (A : Nat → Prop) (U : State) : Prop := ∀ (j : Nat) (nm : String), gs[j]? = some nm → va_Z "RunsBack" nm "[I" (.ref (ad (1000000 + j))) A U U.heap
def pm_Q (D : va_G) (cA : Nat → ClassId) (ad0 : Nat → Nat) (n0 : Nat) (A : Nat → Prop) (Q : Option Value → Nat → (Nat → va_E) → Prop) : Array Value → State → Outcome → State → Prop := fun _ st o t =>
  (∃ (r : Option Value) (n' : Nat) (w' : Nat → va_E) (ad' : Nat → Nat), o = .returned (r.map (pm_v ad')) ∧ Q r n' w' ∧ n0 ≤ n' ∧ n' < 1000000 ∧ pm_ag n0 ad0 ad' ∧ pm_wk n' w' ∧ (∀ v, r = some v → pm_ok n' v) ∧ va_P D vwCl (pm_W cA ad' n' w') t.heap ∧ va_K D vwCl (pm_tys cA) t ∧ va_D A (pm_W cA ad' n' w')) ∧ va_F A st t
/-- what stays through a method's walk -/
def pm_F (gs : List String) (ro : pm_RO) (M : pm_M) (p : Program) (s : State) (m : MethodId) (args : Array Value) (meth : Method) (c : Code) (D : va_G) (cA : Nat → ClassId) (ad0 : Nat → Nat) (A : Nat → Prop) : Prop :=
  p.tables.exec = Jvm.exec ∧ c.code = M.2.1 ∧ c.maxLocals = M.2.2.1 ∧ meth.sig.returnType = M.2.2.2 ∧ meth.locks = false ∧ meth.name = M.1.name ∧ s.vm.findClass M.1.cls = some m.cls ∧ (∀ w ∈ pm_ws M, w.before args s = true) ∧ va_K D vwCl (pm_tys cA) s ∧ (∀ q, s.heap.size ≤ q → A q) ∧ pm_R ro ad0 A s ∧ pm_Z gs ad0 A s ∧ pm_N s
/-- the heap holds the world -/
def pm_G (s : State) (D : va_G) (cA : Nat → ClassId) (ad0 : Nat → Nat) (n0 : Nat) (A : Nat → Prop) (H : Heap) (locs : List Loc) (ad : Nat → Nat) (n : Nat) (w : Nat → va_E) : Prop :=
  va_P D vwCl (pm_W cA ad n w) H ∧ va_D A (pm_W cA ad n w) ∧ va_S A s.heap H locs ∧ n0 ≤ n ∧ n < 1000000 ∧ pm_ag n0 ad0 ad ∧ pm_wk n w
/-- the locals -/
def pm_L (nL : Nat) (ls : Array Slot) (ad : Nat → Nat) (n : Nat) (L : List (Option Value)) : Prop := ls.size = nL ∧ lv_wf ls ∧ ∀ (i : Nat) (v : Value), L[i]? = some (some v) → ls[i]? = some (Slot.val (pm_v ad v)) ∧ pm_ok n v
def pm_S (n : Nat) (st : List Value) : Prop := ∀ v ∈ st, pm_ok n v
/-- THE JUDGEMENT: method M, at pc, with these locals, this stack, this world: it returns, and Q holds of its answer and the world then. d: how many frames may lie above; mc, ms: cells and slots that it makes at most in all, c0, s0: made already -/
def pm_X (gs : List String) (ro : pm_RO) (M : pm_M) (d mc ms c0 s0 pc : Nat) (L : List (Option Value)) (st : List Value) (n : Nat) (w : Nat → va_E) (Q : Option Value → Nat → (Nat → va_E) → Prop) : Prop :=
  ∀ (p : Program) (l : Launch) (e : Env) (s : State) (m : MethodId) (args : Array Value) (below : List Frame) (meth : Method) (c : Code) (H : Heap) (locs : List Loc) (ls : Array Slot) (D : va_G) (cA : Nat → ClassId) (ad ad0 : Nat → Nat) (n0 : Nat) (A : Nat → Prop),
    pm_F gs ro M p s m args meth c D cA ad0 A → pm_G s D cA ad0 n0 A H locs ad n w → pm_L M.2.2.1 ls ad n L → pm_S n st →
    W p l e (pm_rm d mc ms) s m args below meth c H locs c0 s0 (MQ below (pm_Q D cA ad0 n0 A Q) args s mc ms A) (F0 m pc ls (st.map (pm_v ad)))
theorem pm_S0 {n : Nat} : pm_S n [] := fun v h => by cases h
theorem pm_Sc {n : Nat} {v : Value} {st : List Value} (h : pm_ok n v) (hs : pm_S n st) : pm_S n (v :: st) := fun u hu => by
  rcases List.mem_cons.mp hu with q | q
  · rw [q]; exact h
  · exact hs u q
theorem pm_Si {n : Nat} {x : Int32} {st : List Value} (hs : pm_S n st) : pm_S n (.int x :: st) := pm_Sc pm_oki hs
theorem pm_St {n : Nat} {v : Value} {st : List Value} (hs : pm_S n (v :: st)) : pm_S n st := fun u hu => hs u (List.mem_cons_of_mem _ hu)
theorem pm_Sh {n : Nat} {v : Value} {st : List Value} (hs : pm_S n (v :: st)) : pm_ok n v := hs v List.mem_cons_self
end
section
section PMR
variable {gs : List String} {ro : pm_RO} {M : pm_M} {d mc ms c0 s0 pc : Nat} {L : List (Option Value)} {st : List Value} {n : Nat} {w : Nat → va_E} {Q : Option Value → Nat → (Nat → va_E) → Prop}
theorem pm_iconst {k : Int} {v : Int32} (h : decode M.2.1 pc = .ok (.iconst k, 1)) (hv : Int32.ofInt k = v) (kk : pm_X gs ro M d mc ms c0 s0 (pc + 1) L (.int v :: st) n w Q) : pm_X gs ro M d mc ms c0 s0 pc L (st) n w Q := by
  intro p l e s m args below meth c H locs ls D cA ad ad0 n0 A F G LL SS
  exact lv_iconst F.1 F.2.1 h hv (kk p l e s m args below meth c H locs ls D cA ad ad0 n0 A F G LL (pm_Si SS))
theorem pm_bipush {k : Int} {v : Int32} (h : decode M.2.1 pc = .ok (.bipush k, 2)) (hv : (Int8.ofInt k).toInt32 = v) (kk : pm_X gs ro M d mc ms c0 s0 (pc + 2) L (.int v :: st) n w Q) : pm_X gs ro M d mc ms c0 s0 pc L (st) n w Q := by
  intro p l e s m args below meth c H locs ls D cA ad ad0 n0 A F G LL SS
  exact lv_bipush F.1 F.2.1 h hv (kk p l e s m args below meth c H locs ls D cA ad ad0 n0 A F G LL (pm_Si SS))
theorem pm_sipush {k : Int} {v : Int32} (h : decode M.2.1 pc = .ok (.sipush k, 3)) (hv : (Int16.ofInt k).toInt32 = v) (kk : pm_X gs ro M d mc ms c0 s0 (pc + 3) L (.int v :: st) n w Q) : pm_X gs ro M d mc ms c0 s0 pc L (st) n w Q := by
  intro p l e s m args below meth c H locs ls D cA ad ad0 n0 A F G LL SS
  exact lv_sipush F.1 F.2.1 h hv (kk p l e s m args below meth c H locs ls D cA ad ad0 n0 A F G LL (pm_Si SS))
theorem pm_null  (h : decode M.2.1 pc = .ok (.aconst_null, 1)) (kk : pm_X gs ro M d mc ms c0 s0 (pc + 1) L (.null :: st) n w Q) : pm_X gs ro M d mc ms c0 s0 pc L (st) n w Q := by
  intro p l e s m args below meth c H locs ls D cA ad ad0 n0 A F G LL SS
  exact lv_null F.1 F.2.1 h (kk p l e s m args below meth c H locs ls D cA ad ad0 n0 A F G LL (pm_Sc pm_okn SS))
theorem pm_ldc {k : Nat} {v : Int32} (h : decode M.2.1 pc = .ok (.ldc k, 2)) (hm : Cond.constant M.1.cls k v ∈ lw_g) (kk : pm_X gs ro M d mc ms c0 s0 (pc + 2) L (.int v :: st) n w Q) : pm_X gs ro M d mc ms c0 s0 pc L (st) n w Q := by
  intro p l e s m args below meth c H locs ls D cA ad ad0 n0 A F G LL SS
  exact lv_ldc F.1 F.2.1 F.2.2.2.2.2.2.1 (F.2.2.2.2.2.2.2.1 _ (List.mem_cons_of_mem _ hm)) h (kk p l e s m args below meth c H locs ls D cA ad ad0 n0 A F G LL (pm_Si SS))
theorem pm_iadd {x y : Int32} (h : decode M.2.1 pc = .ok (.iadd, 1)) (kk : pm_X gs ro M d mc ms c0 s0 (pc + 1) L (.int (x + y) :: st) n w Q) : pm_X gs ro M d mc ms c0 s0 pc L (.int y :: .int x :: st) n w Q := by
  intro p l e s m args below meth c H locs ls D cA ad ad0 n0 A F G LL SS
  exact lv_iadd F.1 F.2.1 h (kk p l e s m args below meth c H locs ls D cA ad ad0 n0 A F G LL (pm_Si (pm_St (pm_St SS))))
theorem pm_isub {x y : Int32} (h : decode M.2.1 pc = .ok (.isub, 1)) (kk : pm_X gs ro M d mc ms c0 s0 (pc + 1) L (.int (x - y) :: st) n w Q) : pm_X gs ro M d mc ms c0 s0 pc L (.int y :: .int x :: st) n w Q := by
  intro p l e s m args below meth c H locs ls D cA ad ad0 n0 A F G LL SS
  exact lv_isub F.1 F.2.1 h (kk p l e s m args below meth c H locs ls D cA ad ad0 n0 A F G LL (pm_Si (pm_St (pm_St SS))))
theorem pm_imul {x y : Int32} (h : decode M.2.1 pc = .ok (.imul, 1)) (kk : pm_X gs ro M d mc ms c0 s0 (pc + 1) L (.int (x * y) :: st) n w Q) : pm_X gs ro M d mc ms c0 s0 pc L (.int y :: .int x :: st) n w Q := by
  intro p l e s m args below meth c H locs ls D cA ad ad0 n0 A F G LL SS
  exact lv_imul F.1 F.2.1 h (kk p l e s m args below meth c H locs ls D cA ad ad0 n0 A F G LL (pm_Si (pm_St (pm_St SS))))
theorem pm_iand {x y : Int32} (h : decode M.2.1 pc = .ok (.iand, 1)) (kk : pm_X gs ro M d mc ms c0 s0 (pc + 1) L (.int (x &&& y) :: st) n w Q) : pm_X gs ro M d mc ms c0 s0 pc L (.int y :: .int x :: st) n w Q := by
  intro p l e s m args below meth c H locs ls D cA ad ad0 n0 A F G LL SS
  exact lv_iand F.1 F.2.1 h (kk p l e s m args below meth c H locs ls D cA ad ad0 n0 A F G LL (pm_Si (pm_St (pm_St SS))))
theorem pm_ior {x y : Int32} (h : decode M.2.1 pc = .ok (.ior, 1)) (kk : pm_X gs ro M d mc ms c0 s0 (pc + 1) L (.int (x ||| y) :: st) n w Q) : pm_X gs ro M d mc ms c0 s0 pc L (.int y :: .int x :: st) n w Q := by
  intro p l e s m args below meth c H locs ls D cA ad ad0 n0 A F G LL SS
  exact lv_ior F.1 F.2.1 h (kk p l e s m args below meth c H locs ls D cA ad ad0 n0 A F G LL (pm_Si (pm_St (pm_St SS))))
theorem pm_ixor {x y : Int32} (h : decode M.2.1 pc = .ok (.ixor, 1)) (kk : pm_X gs ro M d mc ms c0 s0 (pc + 1) L (.int (x ^^^ y) :: st) n w Q) : pm_X gs ro M d mc ms c0 s0 pc L (.int y :: .int x :: st) n w Q := by
  intro p l e s m args below meth c H locs ls D cA ad ad0 n0 A F G LL SS
  exact lv_ixor F.1 F.2.1 h (kk p l e s m args below meth c H locs ls D cA ad ad0 n0 A F G LL (pm_Si (pm_St (pm_St SS))))
theorem pm_ishl {x y : Int32} (h : decode M.2.1 pc = .ok (.ishl, 1)) (kk : pm_X gs ro M d mc ms c0 s0 (pc + 1) L (.int (x <<< (y &&& 31)) :: st) n w Q) : pm_X gs ro M d mc ms c0 s0 pc L (.int y :: .int x :: st) n w Q := by
  intro p l e s m args below meth c H locs ls D cA ad ad0 n0 A F G LL SS
  exact lv_ishl F.1 F.2.1 h (kk p l e s m args below meth c H locs ls D cA ad ad0 n0 A F G LL (pm_Si (pm_St (pm_St SS))))
theorem pm_ishr {x y : Int32} (h : decode M.2.1 pc = .ok (.ishr, 1)) (kk : pm_X gs ro M d mc ms c0 s0 (pc + 1) L (.int (x >>> (y &&& 31)) :: st) n w Q) : pm_X gs ro M d mc ms c0 s0 pc L (.int y :: .int x :: st) n w Q := by
  intro p l e s m args below meth c H locs ls D cA ad ad0 n0 A F G LL SS
  exact lv_ishr F.1 F.2.1 h (kk p l e s m args below meth c H locs ls D cA ad ad0 n0 A F G LL (pm_Si (pm_St (pm_St SS))))
theorem pm_iushr {x y : Int32} (h : decode M.2.1 pc = .ok (.iushr, 1)) (kk : pm_X gs ro M d mc ms c0 s0 (pc + 1) L (.int ((x.toUInt32 >>> (y.toUInt32 &&& Int32.toUInt32 31)).toInt32) :: st) n w Q) : pm_X gs ro M d mc ms c0 s0 pc L (.int y :: .int x :: st) n w Q := by
  intro p l e s m args below meth c H locs ls D cA ad ad0 n0 A F G LL SS
  exact lv_iushr F.1 F.2.1 h rfl (kk p l e s m args below meth c H locs ls D cA ad ad0 n0 A F G LL (pm_Si (pm_St (pm_St SS))))
theorem pm_ineg {x : Int32} (h : decode M.2.1 pc = .ok (.ineg, 1)) (kk : pm_X gs ro M d mc ms c0 s0 (pc + 1) L (.int (-x) :: st) n w Q) : pm_X gs ro M d mc ms c0 s0 pc L (.int x :: st) n w Q := by
  intro p l e s m args below meth c H locs ls D cA ad ad0 n0 A F G LL SS
  exact lv_ineg F.1 F.2.1 h (kk p l e s m args below meth c H locs ls D cA ad ad0 n0 A F G LL (pm_Si (pm_St SS)))
theorem pm_idiv {x y : Int32} (h : decode M.2.1 pc = .ok (.idiv, 1)) (hy : ¬ y = 0) (kk : pm_X gs ro M d mc ms c0 s0 (pc + 1) L (.int (x / y) :: st) n w Q) : pm_X gs ro M d mc ms c0 s0 pc L (.int y :: .int x :: st) n w Q := by
  intro p l e s m args below meth c H locs ls D cA ad ad0 n0 A F G LL SS
  exact lv_idiv F.1 F.2.1 h hy (kk p l e s m args below meth c H locs ls D cA ad ad0 n0 A F G LL (pm_Si (pm_St (pm_St SS))))
theorem pm_irem {x y : Int32} (h : decode M.2.1 pc = .ok (.irem, 1)) (hy : ¬ y = 0) (kk : pm_X gs ro M d mc ms c0 s0 (pc + 1) L (.int (x - x / y * y) :: st) n w Q) : pm_X gs ro M d mc ms c0 s0 pc L (.int y :: .int x :: st) n w Q := by
  intro p l e s m args below meth c H locs ls D cA ad ad0 n0 A F G LL SS
  exact lv_irem F.1 F.2.1 h hy (kk p l e s m args below meth c H locs ls D cA ad ad0 n0 A F G LL (pm_Si (pm_St (pm_St SS))))
theorem pm_dup {v : Value} (h : decode M.2.1 pc = .ok (.dup, 1)) (hc : v.category = 1) (kk : pm_X gs ro M d mc ms c0 s0 (pc + 1) L (v :: v :: st) n w Q) : pm_X gs ro M d mc ms c0 s0 pc L (v :: st) n w Q := by
  intro p l e s m args below meth c H locs ls D cA ad ad0 n0 A F G LL SS
  exact lv_dup F.1 F.2.1 h (by rw [pm_v_cat]; exact hc) (kk p l e s m args below meth c H locs ls D cA ad ad0 n0 A F G LL (pm_Sc (pm_Sh SS) SS))
theorem pm_pop {v : Value} (h : decode M.2.1 pc = .ok (.pop, 1)) (hc : v.category = 1) (kk : pm_X gs ro M d mc ms c0 s0 (pc + 1) L (st) n w Q) : pm_X gs ro M d mc ms c0 s0 pc L (v :: st) n w Q := by
  intro p l e s m args below meth c H locs ls D cA ad ad0 n0 A F G LL SS
  exact lv_pop F.1 F.2.1 h (by rw [pm_v_cat]; exact hc) (kk p l e s m args below meth c H locs ls D cA ad ad0 n0 A F G LL (pm_St SS))
theorem pm_dup2 {v u : Value} (h : decode M.2.1 pc = .ok (.dup2, 1)) (hc : v.category = 1) (hu : u.category = 1) (kk : pm_X gs ro M d mc ms c0 s0 (pc + 1) L (v :: u :: v :: u :: st) n w Q) : pm_X gs ro M d mc ms c0 s0 pc L (v :: u :: st) n w Q := by
  intro p l e s m args below meth c H locs ls D cA ad ad0 n0 A F G LL SS
  exact lv_dup2_11 F.1 F.2.1 h (by rw [pm_v_cat]; exact hc) (by rw [pm_v_cat]; exact hu) (kk p l e s m args below meth c H locs ls D cA ad ad0 n0 A F G LL (pm_Sc (pm_Sh SS) (pm_Sc (pm_Sh (pm_St SS)) SS)))
theorem pm_dup_x1 {v u : Value} (h : decode M.2.1 pc = .ok (.dup_x1, 1)) (hc : v.category = 1) (hu : u.category = 1) (kk : pm_X gs ro M d mc ms c0 s0 (pc + 1) L (v :: u :: v :: st) n w Q) : pm_X gs ro M d mc ms c0 s0 pc L (v :: u :: st) n w Q := by
  intro p l e s m args below meth c H locs ls D cA ad ad0 n0 A F G LL SS
  exact lv_dup_x1 F.1 F.2.1 h (by rw [pm_v_cat]; exact hc) (by rw [pm_v_cat]; exact hu) (kk p l e s m args below meth c H locs ls D cA ad ad0 n0 A F G LL (pm_Sc (pm_Sh SS) (pm_Sc (pm_Sh (pm_St SS)) (pm_Sc (pm_Sh SS) (pm_St (pm_St SS))))))
theorem pm_iload {i : Nat} {x : Int32} (h : decode M.2.1 pc = .ok (.iload i, 2)) (hl : L[i]? = some (some (.int x))) (kk : pm_X gs ro M d mc ms c0 s0 (pc + 2) L (.int x :: st) n w Q) : pm_X gs ro M d mc ms c0 s0 pc L (st) n w Q := by
  intro p l e s m args below meth c H locs ls D cA ad ad0 n0 A F G LL SS
  exact lv_iload F.1 F.2.1 h (LL.2.2 i _ hl).1 (kk p l e s m args below meth c H locs ls D cA ad ad0 n0 A F G LL (pm_Si SS))
theorem pm_iload_n {k : Fin 4} {x : Int32} (h : decode M.2.1 pc = .ok (.iload_n k, 1)) (hl : L[(k : Nat)]? = some (some (.int x))) (kk : pm_X gs ro M d mc ms c0 s0 (pc + 1) L (.int x :: st) n w Q) : pm_X gs ro M d mc ms c0 s0 pc L (st) n w Q := by
  intro p l e s m args below meth c H locs ls D cA ad ad0 n0 A F G LL SS
  exact lv_iload_n F.1 F.2.1 h rfl (LL.2.2 k _ hl).1 (kk p l e s m args below meth c H locs ls D cA ad ad0 n0 A F G LL (pm_Si SS))
theorem pm_aload {i : Nat} {x : Nat} (h : decode M.2.1 pc = .ok (.aload i, 2)) (hl : L[i]? = some (some (.ref x))) (kk : pm_X gs ro M d mc ms c0 s0 (pc + 2) L (.ref x :: st) n w Q) : pm_X gs ro M d mc ms c0 s0 pc L (st) n w Q := by
  intro p l e s m args below meth c H locs ls D cA ad ad0 n0 A F G LL SS
  exact lv_aload F.1 F.2.1 h (LL.2.2 i _ hl).1 (kk p l e s m args below meth c H locs ls D cA ad ad0 n0 A F G LL (pm_Sc (LL.2.2 i _ hl).2 SS))
theorem pm_aload_n {k : Fin 4} {x : Nat} (h : decode M.2.1 pc = .ok (.aload_n k, 1)) (hl : L[(k : Nat)]? = some (some (.ref x))) (kk : pm_X gs ro M d mc ms c0 s0 (pc + 1) L (.ref x :: st) n w Q) : pm_X gs ro M d mc ms c0 s0 pc L (st) n w Q := by
  intro p l e s m args below meth c H locs ls D cA ad ad0 n0 A F G LL SS
  exact lv_aload_n F.1 F.2.1 h rfl (LL.2.2 k _ hl).1 (kk p l e s m args below meth c H locs ls D cA ad ad0 n0 A F G LL (pm_Sc (LL.2.2 k _ hl).2 SS))
theorem pm_aloadN {i : Nat} (h : decode M.2.1 pc = .ok (.aload i, 2)) (hl : L[i]? = some (some .null)) (kk : pm_X gs ro M d mc ms c0 s0 (pc + 2) L (.null :: st) n w Q) : pm_X gs ro M d mc ms c0 s0 pc L (st) n w Q := by
  intro p l e s m args below meth c H locs ls D cA ad ad0 n0 A F G LL SS
  exact lv_aloadN F.1 F.2.1 h (LL.2.2 i _ hl).1 (kk p l e s m args below meth c H locs ls D cA ad ad0 n0 A F G LL (pm_Sc pm_okn SS))
theorem pm_aload_nN {k : Fin 4} (h : decode M.2.1 pc = .ok (.aload_n k, 1)) (hl : L[(k : Nat)]? = some (some .null)) (kk : pm_X gs ro M d mc ms c0 s0 (pc + 1) L (.null :: st) n w Q) : pm_X gs ro M d mc ms c0 s0 pc L (st) n w Q := by
  intro p l e s m args below meth c H locs ls D cA ad ad0 n0 A F G LL SS
  exact lv_aload_nN F.1 F.2.1 h rfl (LL.2.2 k _ hl).1 (kk p l e s m args below meth c H locs ls D cA ad ad0 n0 A F G LL (pm_Sc pm_okn SS))
theorem pm_if_eq {x : Int32} {off : Int} {tgt : Nat} (h : decode M.2.1 pc = .ok (.ifCond .eq off, 3)) (ht : (pc : Int) + off = (tgt : Int)) (kt : x = 0 → pm_X gs ro M d mc ms c0 s0 tgt L st n w Q) (kf : ¬ x = 0 → pm_X gs ro M d mc ms c0 s0 (pc + 3) L st n w Q) : pm_X gs ro M d mc ms c0 s0 pc L (.int x :: st) n w Q := by
  intro p l e s m args below meth c H locs ls D cA ad ad0 n0 A F G LL SS
  exact lv_if_eq F.1 F.2.1 h ht (fun q => kt q p l e s m args below meth c H locs ls D cA ad ad0 n0 A F G LL (pm_St SS)) (fun q => kf q p l e s m args below meth c H locs ls D cA ad ad0 n0 A F G LL (pm_St SS))
theorem pm_icmp_eq {x y : Int32} {off : Int} {tgt : Nat} (h : decode M.2.1 pc = .ok (.if_icmp .eq off, 3)) (ht : (pc : Int) + off = (tgt : Int)) (kt : x = y → pm_X gs ro M d mc ms c0 s0 tgt L st n w Q) (kf : ¬ x = y → pm_X gs ro M d mc ms c0 s0 (pc + 3) L st n w Q) : pm_X gs ro M d mc ms c0 s0 pc L (.int y :: .int x :: st) n w Q := by
  intro p l e s m args below meth c H locs ls D cA ad ad0 n0 A F G LL SS
  exact lv_icmp_eq F.1 F.2.1 h ht (fun q => kt q p l e s m args below meth c H locs ls D cA ad ad0 n0 A F G LL (pm_St (pm_St SS))) (fun q => kf q p l e s m args below meth c H locs ls D cA ad ad0 n0 A F G LL (pm_St (pm_St SS)))
theorem pm_if_ne {x : Int32} {off : Int} {tgt : Nat} (h : decode M.2.1 pc = .ok (.ifCond .ne off, 3)) (ht : (pc : Int) + off = (tgt : Int)) (kt : ¬ x = 0 → pm_X gs ro M d mc ms c0 s0 tgt L st n w Q) (kf : x = 0 → pm_X gs ro M d mc ms c0 s0 (pc + 3) L st n w Q) : pm_X gs ro M d mc ms c0 s0 pc L (.int x :: st) n w Q := by
  intro p l e s m args below meth c H locs ls D cA ad ad0 n0 A F G LL SS
  exact lv_if_ne F.1 F.2.1 h ht (fun q => kt q p l e s m args below meth c H locs ls D cA ad ad0 n0 A F G LL (pm_St SS)) (fun q => kf q p l e s m args below meth c H locs ls D cA ad ad0 n0 A F G LL (pm_St SS))
theorem pm_icmp_ne {x y : Int32} {off : Int} {tgt : Nat} (h : decode M.2.1 pc = .ok (.if_icmp .ne off, 3)) (ht : (pc : Int) + off = (tgt : Int)) (kt : ¬ x = y → pm_X gs ro M d mc ms c0 s0 tgt L st n w Q) (kf : x = y → pm_X gs ro M d mc ms c0 s0 (pc + 3) L st n w Q) : pm_X gs ro M d mc ms c0 s0 pc L (.int y :: .int x :: st) n w Q := by
  intro p l e s m args below meth c H locs ls D cA ad ad0 n0 A F G LL SS
  exact lv_icmp_ne F.1 F.2.1 h ht (fun q => kt q p l e s m args below meth c H locs ls D cA ad ad0 n0 A F G LL (pm_St (pm_St SS))) (fun q => kf q p l e s m args below meth c H locs ls D cA ad ad0 n0 A F G LL (pm_St (pm_St SS)))
theorem pm_if_lt {x : Int32} {off : Int} {tgt : Nat} (h : decode M.2.1 pc = .ok (.ifCond .lt off, 3)) (ht : (pc : Int) + off = (tgt : Int)) (kt : x < 0 → pm_X gs ro M d mc ms c0 s0 tgt L st n w Q) (kf : ¬ x < 0 → pm_X gs ro M d mc ms c0 s0 (pc + 3) L st n w Q) : pm_X gs ro M d mc ms c0 s0 pc L (.int x :: st) n w Q := by
  intro p l e s m args below meth c H locs ls D cA ad ad0 n0 A F G LL SS
  exact lv_if_lt F.1 F.2.1 h ht (fun q => kt q p l e s m args below meth c H locs ls D cA ad ad0 n0 A F G LL (pm_St SS)) (fun q => kf q p l e s m args below meth c H locs ls D cA ad ad0 n0 A F G LL (pm_St SS))
theorem pm_icmp_lt {x y : Int32} {off : Int} {tgt : Nat} (h : decode M.2.1 pc = .ok (.if_icmp .lt off, 3)) (ht : (pc : Int) + off = (tgt : Int)) (kt : x < y → pm_X gs ro M d mc ms c0 s0 tgt L st n w Q) (kf : ¬ x < y → pm_X gs ro M d mc ms c0 s0 (pc + 3) L st n w Q) : pm_X gs ro M d mc ms c0 s0 pc L (.int y :: .int x :: st) n w Q := by
  intro p l e s m args below meth c H locs ls D cA ad ad0 n0 A F G LL SS
  exact lv_icmp_lt F.1 F.2.1 h ht (fun q => kt q p l e s m args below meth c H locs ls D cA ad ad0 n0 A F G LL (pm_St (pm_St SS))) (fun q => kf q p l e s m args below meth c H locs ls D cA ad ad0 n0 A F G LL (pm_St (pm_St SS)))
theorem pm_if_ge {x : Int32} {off : Int} {tgt : Nat} (h : decode M.2.1 pc = .ok (.ifCond .ge off, 3)) (ht : (pc : Int) + off = (tgt : Int)) (kt : 0 ≤ x → pm_X gs ro M d mc ms c0 s0 tgt L st n w Q) (kf : ¬ 0 ≤ x → pm_X gs ro M d mc ms c0 s0 (pc + 3) L st n w Q) : pm_X gs ro M d mc ms c0 s0 pc L (.int x :: st) n w Q := by
  intro p l e s m args below meth c H locs ls D cA ad ad0 n0 A F G LL SS
  exact lv_if_ge F.1 F.2.1 h ht (fun q => kt q p l e s m args below meth c H locs ls D cA ad ad0 n0 A F G LL (pm_St SS)) (fun q => kf q p l e s m args below meth c H locs ls D cA ad ad0 n0 A F G LL (pm_St SS))
theorem pm_icmp_ge {x y : Int32} {off : Int} {tgt : Nat} (h : decode M.2.1 pc = .ok (.if_icmp .ge off, 3)) (ht : (pc : Int) + off = (tgt : Int)) (kt : y ≤ x → pm_X gs ro M d mc ms c0 s0 tgt L st n w Q) (kf : ¬ y ≤ x → pm_X gs ro M d mc ms c0 s0 (pc + 3) L st n w Q) : pm_X gs ro M d mc ms c0 s0 pc L (.int y :: .int x :: st) n w Q := by
  intro p l e s m args below meth c H locs ls D cA ad ad0 n0 A F G LL SS
  exact lv_icmp_ge F.1 F.2.1 h ht (fun q => kt q p l e s m args below meth c H locs ls D cA ad ad0 n0 A F G LL (pm_St (pm_St SS))) (fun q => kf q p l e s m args below meth c H locs ls D cA ad ad0 n0 A F G LL (pm_St (pm_St SS)))
theorem pm_if_gt {x : Int32} {off : Int} {tgt : Nat} (h : decode M.2.1 pc = .ok (.ifCond .gt off, 3)) (ht : (pc : Int) + off = (tgt : Int)) (kt : 0 < x → pm_X gs ro M d mc ms c0 s0 tgt L st n w Q) (kf : ¬ 0 < x → pm_X gs ro M d mc ms c0 s0 (pc + 3) L st n w Q) : pm_X gs ro M d mc ms c0 s0 pc L (.int x :: st) n w Q := by
  intro p l e s m args below meth c H locs ls D cA ad ad0 n0 A F G LL SS
  exact lv_if_gt F.1 F.2.1 h ht (fun q => kt q p l e s m args below meth c H locs ls D cA ad ad0 n0 A F G LL (pm_St SS)) (fun q => kf q p l e s m args below meth c H locs ls D cA ad ad0 n0 A F G LL (pm_St SS))
theorem pm_icmp_gt {x y : Int32} {off : Int} {tgt : Nat} (h : decode M.2.1 pc = .ok (.if_icmp .gt off, 3)) (ht : (pc : Int) + off = (tgt : Int)) (kt : y < x → pm_X gs ro M d mc ms c0 s0 tgt L st n w Q) (kf : ¬ y < x → pm_X gs ro M d mc ms c0 s0 (pc + 3) L st n w Q) : pm_X gs ro M d mc ms c0 s0 pc L (.int y :: .int x :: st) n w Q := by
  intro p l e s m args below meth c H locs ls D cA ad ad0 n0 A F G LL SS
  exact lv_icmp_gt F.1 F.2.1 h ht (fun q => kt q p l e s m args below meth c H locs ls D cA ad ad0 n0 A F G LL (pm_St (pm_St SS))) (fun q => kf q p l e s m args below meth c H locs ls D cA ad ad0 n0 A F G LL (pm_St (pm_St SS)))
theorem pm_if_le {x : Int32} {off : Int} {tgt : Nat} (h : decode M.2.1 pc = .ok (.ifCond .le off, 3)) (ht : (pc : Int) + off = (tgt : Int)) (kt : x ≤ 0 → pm_X gs ro M d mc ms c0 s0 tgt L st n w Q) (kf : ¬ x ≤ 0 → pm_X gs ro M d mc ms c0 s0 (pc + 3) L st n w Q) : pm_X gs ro M d mc ms c0 s0 pc L (.int x :: st) n w Q := by
  intro p l e s m args below meth c H locs ls D cA ad ad0 n0 A F G LL SS
  exact lv_if_le F.1 F.2.1 h ht (fun q => kt q p l e s m args below meth c H locs ls D cA ad ad0 n0 A F G LL (pm_St SS)) (fun q => kf q p l e s m args below meth c H locs ls D cA ad ad0 n0 A F G LL (pm_St SS))
theorem pm_icmp_le {x y : Int32} {off : Int} {tgt : Nat} (h : decode M.2.1 pc = .ok (.if_icmp .le off, 3)) (ht : (pc : Int) + off = (tgt : Int)) (kt : x ≤ y → pm_X gs ro M d mc ms c0 s0 tgt L st n w Q) (kf : ¬ x ≤ y → pm_X gs ro M d mc ms c0 s0 (pc + 3) L st n w Q) : pm_X gs ro M d mc ms c0 s0 pc L (.int y :: .int x :: st) n w Q := by
  intro p l e s m args below meth c H locs ls D cA ad ad0 n0 A F G LL SS
  exact lv_icmp_le F.1 F.2.1 h ht (fun q => kt q p l e s m args below meth c H locs ls D cA ad ad0 n0 A F G LL (pm_St (pm_St SS))) (fun q => kf q p l e s m args below meth c H locs ls D cA ad ad0 n0 A F G LL (pm_St (pm_St SS)))
theorem pm_goto {off : Int} {tgt : Nat} (h : decode M.2.1 pc = .ok (.goto off, 3)) (ht : (pc : Int) + off = (tgt : Int)) (kk : pm_X gs ro M d mc ms c0 s0 tgt L st n w Q) : pm_X gs ro M d mc ms c0 s0 pc L st n w Q := by
  intro p l e s m args below meth c H locs ls D cA ad ad0 n0 A F G LL SS
  exact lv_goto F.1 F.2.1 h ht (kk p l e s m args below meth c H locs ls D cA ad ad0 n0 A F G LL SS)
theorem pm_ifnull {x : Nat} {off : Int} (h : decode M.2.1 pc = .ok (.ifnull off, 3)) (kk : pm_X gs ro M d mc ms c0 s0 (pc + 3) L st n w Q) : pm_X gs ro M d mc ms c0 s0 pc L (.ref x :: st) n w Q := by
  intro p l e s m args below meth c H locs ls D cA ad ad0 n0 A F G LL SS
  exact lv_ifnull F.1 F.2.1 h (kk p l e s m args below meth c H locs ls D cA ad ad0 n0 A F G LL (pm_St SS))
theorem pm_ifnullN {x : Nat} {off : Int} {tgt : Nat} (h : decode M.2.1 pc = .ok (.ifnull off, 3)) (ht : (pc : Int) + off = (tgt : Int)) (kk : pm_X gs ro M d mc ms c0 s0 tgt L st n w Q) : pm_X gs ro M d mc ms c0 s0 pc L (.null :: st) n w Q := by
  intro p l e s m args below meth c H locs ls D cA ad ad0 n0 A F G LL SS
  exact lv_ifnullN F.1 F.2.1 h ht (kk p l e s m args below meth c H locs ls D cA ad ad0 n0 A F G LL (pm_St SS))
theorem pm_ifnonnull {x : Nat} {off : Int} {tgt : Nat} (h : decode M.2.1 pc = .ok (.ifnonnull off, 3)) (ht : (pc : Int) + off = (tgt : Int)) (kk : pm_X gs ro M d mc ms c0 s0 tgt L st n w Q) : pm_X gs ro M d mc ms c0 s0 pc L (.ref x :: st) n w Q := by
  intro p l e s m args below meth c H locs ls D cA ad ad0 n0 A F G LL SS
  exact lv_ifnonnull F.1 F.2.1 h ht (kk p l e s m args below meth c H locs ls D cA ad ad0 n0 A F G LL (pm_St SS))
theorem pm_ifnonnullN {x : Nat} {off : Int} (h : decode M.2.1 pc = .ok (.ifnonnull off, 3)) (kk : pm_X gs ro M d mc ms c0 s0 (pc + 3) L st n w Q) : pm_X gs ro M d mc ms c0 s0 pc L (.null :: st) n w Q := by
  intro p l e s m args below meth c H locs ls D cA ad ad0 n0 A F G LL SS
  exact lv_ifnonnullN F.1 F.2.1 h (kk p l e s m args below meth c H locs ls D cA ad ad0 n0 A F G LL (pm_St SS))
theorem pm_lookup {dflt : Int} {ps : Array (Int × Int)} {len : Nat} {x : Int32} {off : Int} {tgt : Nat} (h : decode M.2.1 pc = .ok (.lookupswitch dflt ps, len)) (hp : (ps.toList.zip (ps.toList.drop 1)).all (fun (a, next) => a.1 < next.1) = true) (ho : Op.lookupswitch.offset ps.toList dflt x.toInt = off) (ht : (pc : Int) + off = (tgt : Int)) (kk : pm_X gs ro M d mc ms c0 s0 tgt L st n w Q) : pm_X gs ro M d mc ms c0 s0 pc L (.int x :: st) n w Q := by
  intro p l e s m args below meth c H locs ls D cA ad ad0 n0 A F G LL SS
  exact lv_lookup F.1 F.2.1 h hp ho ht (kk p l e s m args below meth c H locs ls D cA ad ad0 n0 A F G LL (pm_St SS))
theorem pm_tableOut {dflt lo hi : Int} {offs : Array Int} {len : Nat} {x : Int32} {tgt : Nat} (h : decode M.2.1 pc = .ok (.tableswitch dflt lo hi offs, len)) (hx : x.toInt < lo ∨ hi < x.toInt) (ht : (pc : Int) + dflt = (tgt : Int)) (kk : pm_X gs ro M d mc ms c0 s0 tgt L st n w Q) : pm_X gs ro M d mc ms c0 s0 pc L (.int x :: st) n w Q := by
  intro p l e s m args below meth c H locs ls D cA ad ad0 n0 A F G LL SS
  exact lv_tableOut F.1 F.2.1 h hx ht (kk p l e s m args below meth c H locs ls D cA ad ad0 n0 A F G LL (pm_St SS))
theorem pm_tableIn {dflt lo hi : Int} {offs : Array Int} {len : Nat} {x : Int32} {off : Int} {tgt : Nat} (h : decode M.2.1 pc = .ok (.tableswitch dflt lo hi offs, len)) (h1 : ¬ x.toInt < lo) (h2 : ¬ hi < x.toInt) (ho : offs[(x.toInt - lo).toNat]? = some off) (ht : (pc : Int) + off = (tgt : Int)) (kk : pm_X gs ro M d mc ms c0 s0 tgt L st n w Q) : pm_X gs ro M d mc ms c0 s0 pc L (.int x :: st) n w Q := by
  intro p l e s m args below meth c H locs ls D cA ad ad0 n0 A F G LL SS
  exact lv_tableIn F.1 F.2.1 h h1 h2 ho ht (kk p l e s m args below meth c H locs ls D cA ad ad0 n0 A F G LL (pm_St SS))
theorem pm_L_store {nL i n : Nat} {ls : Array Slot} {ad : Nat → Nat} {L : List (Option Value)} {v : Value} (h : pm_L nL ls ad n L) (hi : i < nL) (hc : v.category = 1) (hv : pm_ok n v) (h2 : ∀ (j : Nat) (u : Value), L[j]? = some (some u) → u.category = 1) : ∃ ls', storeLocals ls i (pm_v ad v) = some ls' ∧ pm_L nL ls' ad n (L.set i (some v)) := by
  have hh : lv_has ls nL ((List.range L.length).filterMap (fun j => match L[j]? with | some (some u) => some (j, pm_v ad u) | _ => none)) := by
    refine ⟨h.1, h.2.1, fun q hq => ?_⟩
    obtain ⟨j, -, hj⟩ := List.mem_filterMap.mp hq
    cases hL : L[j]? with
    | none => rw [hL] at hj; cases hj
    | some o =>
      cases o with
      | none => rw [hL] at hj; cases hj
      | some u => rw [hL] at hj; cases hj; exact (h.2.2 j u hL).1
  obtain ⟨ls', e', h'⟩ := lv_store1 (v := pm_v ad v) hh hi (by rw [pm_v_cat]; exact hc)
  refine ⟨ls', e', h'.1, h'.2.1, fun j u hj => ?_⟩
  by_cases q : i = j
  · subst q
    have hlt : i < L.length := by
      have := (List.getElem?_eq_some_iff.mp hj).1
      rwa [List.length_set] at this
    rw [List.getElem?_set_self hlt] at hj
    cases hj
    exact ⟨h'.2.2 _ List.mem_cons_self, hv⟩
  · rw [List.getElem?_set_ne q] at hj
    refine ⟨h'.2.2 (j, pm_v ad u) (List.mem_cons_of_mem _ (List.mem_filter.mpr ⟨List.mem_filterMap.mpr ⟨j, List.mem_range.mpr (List.getElem?_eq_some_iff.mp hj).1, by rw [hj]⟩, ?_⟩)), (h.2.2 j u hj).2⟩
    have hcu : (pm_v ad u).category = 1 := by rw [pm_v_cat]; exact h2 j u hj
    simp [hcu, Ne.symm q]
/-- no long stands among the locals -/
def pm_L1 (L : List (Option Value)) : Bool := L.all (fun o => match o with | some u => u.category == 1 | none => true)
theorem pm_L1_spec {L : List (Option Value)} (h : pm_L1 L = true) : ∀ (j : Nat) (u : Value), L[j]? = some (some u) → u.category = 1 := fun j u hj => by
  have := List.all_eq_true.mp h _ (List.mem_of_getElem? hj)
  simpa using this
theorem pm_istore {i : Nat} {x : Int32} {L' : List (Option Value)} (h : decode M.2.1 pc = .ok (.istore i, 2)) (hi : i < M.2.2.1) (h1 : pm_L1 L = true) (hL : L.set i (some (.int x)) = L') (kk : pm_X gs ro M d mc ms c0 s0 (pc + 2) L' st n w Q) : pm_X gs ro M d mc ms c0 s0 pc L (.int x :: st) n w Q := by
  intro p l e s m args below meth c H locs ls D cA ad ad0 n0 A F G LL SS
  subst hL
  obtain ⟨ls', e', h'⟩ := pm_L_store (v := .int x) LL hi rfl (pm_Sh SS) (pm_L1_spec h1)
  intro T hT X
  obtain ⟨t, a, b⟩ := kk p l e s m args below meth c H locs ls' D cA ad ad0 n0 A F G h' (pm_St SS) T hT X
  refine ⟨t, ?_, b⟩
  have e' : storeLocals ls i (.int x) = some ls' := e'
  show Steps p.tables e below (T.setTop (F0 m pc ls (.int x :: st.map (pm_v ad)))) t
  jvm_step X.here [X.here.top, ↓top_set X.here.top, F.1, F.2.1, h, e']
  exact a
theorem pm_istore_n {k : Fin 4} {x : Int32} {L' : List (Option Value)} (h : decode M.2.1 pc = .ok (.istore_n k, 1)) (hi : (k : Nat) < M.2.2.1) (h1 : pm_L1 L = true) (hL : L.set (k : Nat) (some (.int x)) = L') (kk : pm_X gs ro M d mc ms c0 s0 (pc + 1) L' st n w Q) : pm_X gs ro M d mc ms c0 s0 pc L (.int x :: st) n w Q := by
  intro p l e s m args below meth c H locs ls D cA ad ad0 n0 A F G LL SS
  subst hL
  obtain ⟨ls', e', h'⟩ := pm_L_store (v := .int x) LL hi rfl (pm_Sh SS) (pm_L1_spec h1)
  intro T hT X
  obtain ⟨t, a, b⟩ := kk p l e s m args below meth c H locs ls' D cA ad ad0 n0 A F G h' (pm_St SS) T hT X
  refine ⟨t, ?_, b⟩
  have e' : storeLocals ls (k : Nat) (.int x) = some ls' := e'
  show Steps p.tables e below (T.setTop (F0 m pc ls (.int x :: st.map (pm_v ad)))) t
  jvm_step X.here [X.here.top, ↓top_set X.here.top, F.1, F.2.1, h, e']
  exact a
theorem pm_astore {i : Nat} {x : Nat} {L' : List (Option Value)} (h : decode M.2.1 pc = .ok (.astore i, 2)) (hi : i < M.2.2.1) (h1 : pm_L1 L = true) (hL : L.set i (some (.ref x)) = L') (kk : pm_X gs ro M d mc ms c0 s0 (pc + 2) L' st n w Q) : pm_X gs ro M d mc ms c0 s0 pc L (.ref x :: st) n w Q := by
  intro p l e s m args below meth c H locs ls D cA ad ad0 n0 A F G LL SS
  subst hL
  obtain ⟨ls', e', h'⟩ := pm_L_store (v := .ref x) LL hi rfl (pm_Sh SS) (pm_L1_spec h1)
  intro T hT X
  obtain ⟨t, a, b⟩ := kk p l e s m args below meth c H locs ls' D cA ad ad0 n0 A F G h' (pm_St SS) T hT X
  refine ⟨t, ?_, b⟩
  have e' : storeLocals ls i (.ref (ad x)) = some ls' := e'
  show Steps p.tables e below (T.setTop (F0 m pc ls (.ref (ad x) :: st.map (pm_v ad)))) t
  jvm_step X.here [X.here.top, ↓top_set X.here.top, F.1, F.2.1, h, e', Value.isRef]
  exact a
theorem pm_astore_n {k : Fin 4} {x : Nat} {L' : List (Option Value)} (h : decode M.2.1 pc = .ok (.astore_n k, 1)) (hi : (k : Nat) < M.2.2.1) (h1 : pm_L1 L = true) (hL : L.set (k : Nat) (some (.ref x)) = L') (kk : pm_X gs ro M d mc ms c0 s0 (pc + 1) L' st n w Q) : pm_X gs ro M d mc ms c0 s0 pc L (.ref x :: st) n w Q := by
  intro p l e s m args below meth c H locs ls D cA ad ad0 n0 A F G LL SS
  subst hL
  obtain ⟨ls', e', h'⟩ := pm_L_store (v := .ref x) LL hi rfl (pm_Sh SS) (pm_L1_spec h1)
  intro T hT X
  obtain ⟨t, a, b⟩ := kk p l e s m args below meth c H locs ls' D cA ad ad0 n0 A F G h' (pm_St SS) T hT X
  refine ⟨t, ?_, b⟩
  have e' : storeLocals ls (k : Nat) (.ref (ad x)) = some ls' := e'
  show Steps p.tables e below (T.setTop (F0 m pc ls (.ref (ad x) :: st.map (pm_v ad)))) t
  jvm_step X.here [X.here.top, ↓top_set X.here.top, F.1, F.2.1, h, e', Value.isRef]
  exact a
theorem pm_astoreN {i : Nat} {L' : List (Option Value)} (h : decode M.2.1 pc = .ok (.astore i, 2)) (hi : i < M.2.2.1) (h1 : pm_L1 L = true) (hL : L.set i (some .null) = L') (kk : pm_X gs ro M d mc ms c0 s0 (pc + 2) L' st n w Q) : pm_X gs ro M d mc ms c0 s0 pc L (.null :: st) n w Q := by
  intro p l e s m args below meth c H locs ls D cA ad ad0 n0 A F G LL SS
  subst hL
  obtain ⟨ls', e', h'⟩ := pm_L_store (v := .null) LL hi rfl pm_okn (pm_L1_spec h1)
  intro T hT X
  obtain ⟨t, a, b⟩ := kk p l e s m args below meth c H locs ls' D cA ad ad0 n0 A F G h' (pm_St SS) T hT X
  refine ⟨t, ?_, b⟩
  have e' : storeLocals ls i .null = some ls' := e'
  show Steps p.tables e below (T.setTop (F0 m pc ls (.null :: st.map (pm_v ad)))) t
  jvm_step X.here [X.here.top, ↓top_set X.here.top, F.1, F.2.1, h, e', Value.isRef]
  exact a
theorem pm_astore_nN {k : Fin 4} {L' : List (Option Value)} (h : decode M.2.1 pc = .ok (.astore_n k, 1)) (hi : (k : Nat) < M.2.2.1) (h1 : pm_L1 L = true) (hL : L.set (k : Nat) (some .null) = L') (kk : pm_X gs ro M d mc ms c0 s0 (pc + 1) L' st n w Q) : pm_X gs ro M d mc ms c0 s0 pc L (.null :: st) n w Q := by
  intro p l e s m args below meth c H locs ls D cA ad ad0 n0 A F G LL SS
  subst hL
  obtain ⟨ls', e', h'⟩ := pm_L_store (v := .null) LL hi rfl pm_okn (pm_L1_spec h1)
  intro T hT X
  obtain ⟨t, a, b⟩ := kk p l e s m args below meth c H locs ls' D cA ad ad0 n0 A F G h' (pm_St SS) T hT X
  refine ⟨t, ?_, b⟩
  have e' : storeLocals ls (k : Nat) .null = some ls' := e'
  show Steps p.tables e below (T.setTop (F0 m pc ls (.null :: st.map (pm_v ad)))) t
  jvm_step X.here [X.here.top, ↓top_set X.here.top, F.1, F.2.1, h, e', Value.isRef]
  exact a
theorem pm_iinc {i : Nat} {k : Int} {x v : Int32} {L' : List (Option Value)} (h : decode M.2.1 pc = .ok (.iinc i k, 3)) (hx : L[i]? = some (some (.int x))) (hv : x + Int32.ofInt k = v) (hi : i < M.2.2.1) (h1 : pm_L1 L = true) (hL : L.set i (some (.int v)) = L') (kk : pm_X gs ro M d mc ms c0 s0 (pc + 3) L' st n w Q) : pm_X gs ro M d mc ms c0 s0 pc L st n w Q := by
  intro p l e s m args below meth c H locs ls D cA ad ad0 n0 A F G LL SS
  subst hL
  subst hv
  obtain ⟨ls', e', h'⟩ := pm_L_store (v := .int (x + Int32.ofInt k)) LL hi rfl pm_oki (pm_L1_spec h1)
  have hg : ls[i]? = some (.val (.int x)) := (LL.2.2 i _ hx).1
  intro T hT X
  obtain ⟨t, a, b⟩ := kk p l e s m args below meth c H locs ls' D cA ad ad0 n0 A F G h' SS T hT X
  refine ⟨t, ?_, b⟩
  have e' : storeLocals ls i (.int (x + Int32.ofInt k)) = some ls' := e'
  jvm_step X.here [X.here.top, ↓top_set X.here.top, F.1, F.2.1, h, hg, e']
  exact a
end PMR
end
section
/-- a class: its number among vwCl, its words in the tables -/
def pm_cl (ci : Nat) (C : String) (T : u_T) (N : Nat) (ty : Nat → FieldType) : Prop := vwCl[ci]? = some (C, T, N) ∧ (∀ w ∈ u_ws C T N, w ∈ lw_g) ∧ (∀ k, k < N → parseFieldDescriptor (T k).2.2.1 = some (ty k)) ∧ ∀ a, a < N → ∀ b, b < N → a ≠ b → (T a).2.1 ≠ (T b).2.1
/-- entry idx of the pool of own: slot k (of type t, final or not) of class ci -/
def pm_fl (own : String) (idx ci k : Nat) (t : FieldType) (fin : Bool) : Prop := ∃ C T N ty, pm_cl ci C T N ty ∧ k < N ∧ Cond.fieldLink own idx (T k).1 (T k).2.1 (T k).2.2.1 ∈ lw_g ∧ ty k = t ∧ (T k).2.2.2 = fin ∧ (T k).1 = C
theorem pm_hts {M : pm_M} {args : Array Value} {s : State} (h : ∀ w ∈ pm_ws M, w.before args s = true) {x : Cond} (hx : x ∈ lw_g) : x.before args s = true := h x (List.mem_cons_of_mem _ hx)
section PMH
variable {gs : List String} {ro : pm_RO} {M : pm_M} {d mc ms c0 s0 pc : Nat} {L : List (Option Value)} {st : List Value} {n : Nat} {w : Nat → va_E} {Q : Option Value → Nat → (Nat → va_E) → Prop}
theorem pm_get {idx ci k a : Nat} {t : FieldType} {fin : Bool} {fs : List Value} {v : Value} (h : decode M.2.1 pc = .ok (.getfield idx, 3)) (hf : pm_fl M.1.cls idx ci k t fin) (ha : a < n) (hw : w a = .inr (ci, fs)) (hv : fs[k]? = some v) (kk : pm_X gs ro M d mc ms c0 s0 (pc + 3) L (v :: st) n w Q) : pm_X gs ro M d mc ms c0 s0 pc L (.ref a :: st) n w Q := by
  intro p l e s m args below meth c H locs ls D cA ad ad0 n0 A F G LL SS
  obtain ⟨C, T, N, ty, ⟨hc, hin, -, -⟩, hk, hlk, -, -, -⟩ := hf
  have hts := F.2.2.2.2.2.2.2.1
  have hok : pm_ok n v := (G.2.2.2.2.2.2 a ha).2 ci fs hw v (List.mem_of_getElem? hv)
  refine va_get (D := D) (ci := ci) (fs := fs.map (pm_v ad)) (C := C) (T := T) (N := N) F.1 F.2.1 (Ts := pm_ws M) hts (fun x hx => List.mem_cons_of_mem _ (hin x hx)) F.2.2.2.2.2.2.1 F.2.2.2.2.2.2.2.2.1 G.1 a ?_ hc k hk (pm_hts hts hlk) (fun _ q => q) (v := pm_v ad v) ?_ h (kk p l e s m args below meth c H locs ls D cA ad ad0 n0 A F G LL (pm_Sc hok (pm_St SS)))
  · rw [pm_W_get ha, hw]; rfl
  · rw [List.getElem?_map, hv]; rfl
theorem pm_put {idx ci k a : Nat} {t : FieldType} {fs : List Value} {v : Value} (h : decode M.2.1 pc = .ok (.putfield idx, 3)) (hf : pm_fl M.1.cls idx ci k t false) (ha : a < n) (hw : w a = .inr (ci, fs)) (hl : k < fs.length) (hn : ∀ ad : Nat → Nat, narrow t (pm_v ad v) = pm_v ad v) (hfit : ∀ ad : Nat → Nat, fits t (pm_v ad v) = true) (kk : pm_X gs ro M d mc ms c0 s0 (pc + 3) L st n (va_up w a (.inr (ci, fs.set k v))) Q) : pm_X gs ro M d mc ms c0 s0 pc L (v :: .ref a :: st) n w Q := by
  intro p l e s m args below meth c H locs ls D cA ad ad0 n0 A F G LL SS
  obtain ⟨C, T, N, ty, ⟨hc, hin, hty, hnm⟩, hk, hlk, ht, hfin, hC⟩ := hf
  have hts := F.2.2.2.2.2.2.2.1
  have hwk := G.2.2.2.2.2.2
  have hek : pm_ek n (.inr (ci, fs.set k v)) := pm_eko fun u hu => by
    rcases List.mem_or_eq_of_mem_set hu with q | q
    · exact (hwk a ha).2 ci fs hw u q
    · rw [q]; exact pm_Sh SS
  refine va_put (D := D) (ci := ci) (fs := fs.map (pm_v ad)) (C := C) (T := T) (N := N) F.1 F.2.1 (Ts := pm_ws M) hts (fun x hx => List.mem_cons_of_mem _ (hin x hx)) ty hty hnm F.2.2.2.2.2.2.1 F.2.2.2.2.2.2.2.2.1 G.1 G.2.1 G.2.2.1 a ?_ hc k hk (pm_hts hts hlk) (fun _ q => q) hfin (ty := t) (v := pm_v ad v) (by rw [hty k hk, ht]) (hn ad) (hfit ad) (by rw [List.length_map]; exact hl) h (fun H1 locs1 hP hD hS => ?_)
  · rw [pm_W_get ha, hw]; rfl
  · have e1 : (pm_W cA ad n w).set a (ad a, .inr (ci, (fs.map (pm_v ad)).set k (pm_v ad v))) = pm_W cA ad n (va_up w a (.inr (ci, fs.set k v))) := by
      rw [← pm_W_set]
      show _ = (pm_W cA ad n w).set a (ad a, .inr (ci, (fs.set k v).map (pm_v ad)))
      rw [List.map_set]
    rw [e1] at hP hD
    exact kk p l e s m args below meth c H1 locs1 ls D cA ad ad0 n0 A F ⟨hP, hD, hS, G.2.2.2.1, G.2.2.2.2.1, G.2.2.2.2.2.1, pm_wku hwk hek⟩ LL (pm_St (pm_St SS))
theorem pm_putF {idx ci k a : Nat} {t : FieldType} {fs : List Value} {v : Value} (h : decode M.2.1 pc = .ok (.putfield idx, 3)) (hf : pm_fl M.1.cls idx ci k t true) (ha : a < n) (hw : w a = .inr (ci, fs)) (hl : k < fs.length) (hi : M.1.name = "<init>") (hown : ∀ r, vwCl[ci]? = some r → r.1 = M.1.cls) (hn : ∀ ad : Nat → Nat, narrow t (pm_v ad v) = pm_v ad v) (hfit : ∀ ad : Nat → Nat, fits t (pm_v ad v) = true) (kk : pm_X gs ro M d mc ms c0 s0 (pc + 3) L st n (va_up w a (.inr (ci, fs.set k v))) Q) : pm_X gs ro M d mc ms c0 s0 pc L (v :: .ref a :: st) n w Q := by
  intro p l e s m args below meth c H locs ls D cA ad ad0 n0 A F G LL SS
  obtain ⟨C, T, N, ty, ⟨hc, hin, hty, hnm⟩, hk, hlk, ht, hfin, hC⟩ := hf
  have hts := F.2.2.2.2.2.2.2.1
  have hwk := G.2.2.2.2.2.2
  have hek : pm_ek n (.inr (ci, fs.set k v)) := pm_eko fun u hu => by
    rcases List.mem_or_eq_of_mem_set hu with q | q
    · exact (hwk a ha).2 ci fs hw u q
    · rw [q]; exact pm_Sh SS
  refine va_putF (D := D) (ci := ci) (fs := fs.map (pm_v ad)) (C := C) (T := T) (N := N) F.1 F.2.1 (Ts := pm_ws M) hts (fun x hx => List.mem_cons_of_mem _ (hin x hx)) ty hty hnm F.2.2.2.2.2.2.1 F.2.2.2.2.2.2.2.2.1 G.1 G.2.1 G.2.2.1 a ?_ hc k hk (pm_hts hts hlk) (fun _ q => q) hfin (F.2.2.2.2.2.1.trans hi) (hC.trans (hown _ hc)) (ty := t) (v := pm_v ad v) (by rw [hty k hk, ht]) (hn ad) (hfit ad) (by rw [List.length_map]; exact hl) h (fun H1 locs1 hP hD hS => ?_)
  · rw [pm_W_get ha, hw]; rfl
  · have e1 : (pm_W cA ad n w).set a (ad a, .inr (ci, (fs.map (pm_v ad)).set k (pm_v ad v))) = pm_W cA ad n (va_up w a (.inr (ci, fs.set k v))) := by
      rw [← pm_W_set]
      show _ = (pm_W cA ad n w).set a (ad a, .inr (ci, (fs.set k v).map (pm_v ad)))
      rw [List.map_set]
    rw [e1] at hP hD
    exact kk p l e s m args below meth c H1 locs1 ls D cA ad ad0 n0 A F ⟨hP, hD, hS, G.2.2.2.1, G.2.2.2.2.1, G.2.2.2.2.2.1, pm_wku hwk hek⟩ LL (pm_St (pm_St SS))
theorem pm_iald {a N : Nat} {f : Nat → Int32} {i : Int32} (h : decode M.2.1 pc = .ok (.iaload, 1)) (ha : a < n) (hw : w a = .inl (0, N, .inl f)) (hi : vp_in i N) (kk : pm_X gs ro M d mc ms c0 s0 (pc + 1) L (.int (f i.toNatClampNeg) :: st) n w Q) : pm_X gs ro M d mc ms c0 s0 pc L (.int i :: .ref a :: st) n w Q := by
  intro p l e s m args below meth c H locs ls D cA ad ad0 n0 A F G LL SS
  refine va_iald (D := D) F.1 F.2.1 F.2.2.2.2.2.2.2.2.1 G.1 a 0 (cA := cA 0) (n := N) (f := f) ?_ rfl hi h (kk p l e s m args below meth c H locs ls D cA ad ad0 n0 A F G LL (pm_Si (pm_St (pm_St SS))))
  rw [pm_W_get ha, hw]; rfl
theorem pm_zald {a N : Nat} {f : Nat → Int32} {i : Int32} (h : decode M.2.1 pc = .ok (.baload, 1)) (ha : a < n) (hw : w a = .inl (1, N, .inl f)) (hi : vp_in i N) (kk : pm_X gs ro M d mc ms c0 s0 (pc + 1) L (.int (f i.toNatClampNeg) :: st) n w Q) : pm_X gs ro M d mc ms c0 s0 pc L (.int i :: .ref a :: st) n w Q := by
  intro p l e s m args below meth c H locs ls D cA ad ad0 n0 A F G LL SS
  refine va_zald (D := D) F.1 F.2.1 F.2.2.2.2.2.2.2.2.1 G.1 a 1 (cA := cA 1) (n := N) (f := f) ?_ rfl hi h (kk p l e s m args below meth c H locs ls D cA ad ad0 n0 A F G LL (pm_Si (pm_St (pm_St SS))))
  rw [pm_W_get ha, hw]; rfl
theorem pm_iast {a N : Nat} {f : Nat → Int32} {i x : Int32} (h : decode M.2.1 pc = .ok (.iastore, 1)) (ha : a < n) (hw : w a = .inl (0, N, .inl f)) (hi : vp_in i N) (kk : pm_X gs ro M d mc ms c0 s0 (pc + 1) L st n (va_up w a (.inl (0, N, .inl (upd f i.toNatClampNeg x)))) Q) : pm_X gs ro M d mc ms c0 s0 pc L (.int x :: .int i :: .ref a :: st) n w Q := by
  intro p l e s m args below meth c H locs ls D cA ad ad0 n0 A F G LL SS
  refine va_iast (D := D) F.1 F.2.1 F.2.2.2.2.2.2.2.2.1 G.1 G.2.1 G.2.2.1 a 0 (cA := cA 0) (n := N) (f := f) ?_ rfl hi h (fun H1 locs1 hP hD hS => ?_)
  · rw [pm_W_get ha, hw]; rfl
  · have e1 := pm_W_set (cA := cA) (ad := ad) (n := n) (k := a) (w := w) (.inl (0, N, .inl (upd f i.toNatClampNeg x)))
    have hP : va_P D vwCl (pm_W cA ad n (va_up w a (.inl (0, N, .inl (upd f i.toNatClampNeg x))))) H1 := e1 ▸ hP
    have hD : va_D A (pm_W cA ad n (va_up w a (.inl (0, N, .inl (upd f i.toNatClampNeg x))))) := e1 ▸ hD
    exact kk p l e s m args below meth c H1 locs1 ls D cA ad ad0 n0 A F ⟨hP, hD, hS, G.2.2.2.1, G.2.2.2.2.1, G.2.2.2.2.2.1, pm_wku G.2.2.2.2.2.2 pm_eki⟩ LL (pm_St (pm_St (pm_St SS)))
theorem pm_zast {a N : Nat} {f : Nat → Int32} {i x : Int32} (h : decode M.2.1 pc = .ok (.bastore, 1)) (ha : a < n) (hw : w a = .inl (1, N, .inl f)) (hi : vp_in i N) (kk : pm_X gs ro M d mc ms c0 s0 (pc + 1) L st n (va_up w a (.inl (1, N, .inl (upd f i.toNatClampNeg (vp_nar .boolean x))))) Q) : pm_X gs ro M d mc ms c0 s0 pc L (.int x :: .int i :: .ref a :: st) n w Q := by
  intro p l e s m args below meth c H locs ls D cA ad ad0 n0 A F G LL SS
  refine va_zast (D := D) F.1 F.2.1 F.2.2.2.2.2.2.2.2.1 G.1 G.2.1 G.2.2.1 a 1 (cA := cA 1) (n := N) (f := f) ?_ rfl hi h (fun H1 locs1 hP hD hS => ?_)
  · rw [pm_W_get ha, hw]; rfl
  · have e1 := pm_W_set (cA := cA) (ad := ad) (n := n) (k := a) (w := w) (.inl (1, N, .inl (upd f i.toNatClampNeg (vp_nar .boolean x))))
    have hP : va_P D vwCl (pm_W cA ad n (va_up w a (.inl (1, N, .inl (upd f i.toNatClampNeg (vp_nar .boolean x)))))) H1 := e1 ▸ hP
    have hD : va_D A (pm_W cA ad n (va_up w a (.inl (1, N, .inl (upd f i.toNatClampNeg (vp_nar .boolean x)))))) := e1 ▸ hD
    exact kk p l e s m args below meth c H1 locs1 ls D cA ad ad0 n0 A F ⟨hP, hD, hS, G.2.2.2.1, G.2.2.2.2.1, G.2.2.2.2.2.1, pm_wku G.2.2.2.2.2.2 pm_eki⟩ LL (pm_St (pm_St (pm_St SS)))
theorem pm_alen {a t N : Nat} {x : pm_A} {v : Int32} (h : decode M.2.1 pc = .ok (.arraylength, 1)) (ha : a < n) (hw : w a = .inl (t, N, x)) (ht : t < 4) (hv : Int32.ofNat N = v) (kk : pm_X gs ro M d mc ms c0 s0 (pc + 1) L (.int v :: st) n w Q) : pm_X gs ro M d mc ms c0 s0 pc L (.ref a :: st) n w Q := by
  intro p l e s m args below meth c H locs ls D cA ad ad0 n0 A F G LL SS
  obtain ⟨ty, hty⟩ : ∃ ty, (pm_tys cA)[t]? = some (cA t, ty) := by
    match t, ht with
    | 0, _ => exact ⟨_, rfl⟩
    | 1, _ => exact ⟨_, rfl⟩
    | 2, _ => exact ⟨_, rfl⟩
    | 3, _ => exact ⟨_, rfl⟩
  refine va_alen (D := D) F.1 F.2.1 F.2.2.2.2.2.2.2.2.1 G.1 a t (cA := cA t) (x := (N, pm_x ad x)) ?_ hty hv h (kk p l e s m args below meth c H locs ls D cA ad ad0 n0 A F G LL (pm_Si (pm_St SS)))
  rw [pm_W_get ha, hw]; rfl
/-- a read-only array -/
theorem pm_tld {a N : Nat} {f : Nat → Int32} {i : Int32} (h : decode M.2.1 pc = .ok (.iaload, 1)) (hr : ro a = some (N, f)) (hi : vp_in i N) (kk : pm_X gs ro M d mc ms c0 s0 (pc + 1) L (.int (f i.toNatClampNeg) :: st) n w Q) : pm_X gs ro M d mc ms c0 s0 pc L (.int i :: .ref a :: st) n w Q := by
  intro p l e s m args below meth c H locs ls D cA ad ad0 n0 A F G LL SS
  obtain ⟨h1, h2⟩ := F.2.2.2.2.2.2.2.2.2.2.1 a N f hr
  rw [← G.2.2.2.2.2.1 a (Or.inr h1)] at h2
  exact va_ti F.1 F.2.1 h2 G.2.2.1 hi rfl h (kk p l e s m args below meth c H locs ls D cA ad ad0 n0 A F G LL (pm_Si (pm_St (pm_St SS))))
theorem pm_tlen {a N : Nat} {f : Nat → Int32} {v : Int32} (h : decode M.2.1 pc = .ok (.arraylength, 1)) (hr : ro a = some (N, f)) (hv : Int32.ofNat N = v) (kk : pm_X gs ro M d mc ms c0 s0 (pc + 1) L (.int v :: st) n w Q) : pm_X gs ro M d mc ms c0 s0 pc L (.ref a :: st) n w Q := by
  intro p l e s m args below meth c H locs ls D cA ad ad0 n0 A F G LL SS
  obtain ⟨h1, h2⟩ := F.2.2.2.2.2.2.2.2.2.2.1 a N f hr
  rw [← G.2.2.2.2.2.1 a (Or.inr h1)] at h2
  exact va_tlen F.1 F.2.1 h2 G.2.2.1 hv h (kk p l e s m args below meth c H locs ls D cA ad ad0 n0 A F G LL (pm_Si (pm_St SS)))
theorem pm_gets {idx j : Nat} {nm : String} (h : decode M.2.1 pc = .ok (.getstatic idx, 3)) (hj : gs[j]? = some nm) (hl : Cond.fieldLink M.1.cls idx "RunsBack" nm "[I" ∈ lw_g) (kk : pm_X gs ro M d mc ms c0 s0 (pc + 3) L (.ref (1000000 + j) :: st) n w Q) : pm_X gs ro M d mc ms c0 s0 pc L st n w Q := by
  intro p l e s m args below meth c H locs ls D cA ad ad0 n0 A F G LL SS
  have hz := F.2.2.2.2.2.2.2.2.2.2.2.1 j nm hj
  rw [← G.2.2.2.2.2.1 (1000000 + j) (Or.inr (Nat.le_add_right _ _))] at hz
  exact va_gets F.1 F.2.1 hz G.2.2.1 F.2.2.2.2.2.2.1 (pm_hts F.2.2.2.2.2.2.2.1 hl) (fun _ q => q) h (kk p l e s m args below meth c H locs ls D cA ad ad0 n0 A F G LL (pm_Sc (fun k q => by cases q; exact Or.inr (Nat.le_add_right _ _)) SS))
/-! returns -/
theorem pm_ret0 {r : Option Value} {s : State} {D : va_G} {cA : Nat → ClassId} {ad ad0 : Nat → Nat} {n0 : Nat} {A : Nat → Prop} {H : Heap} {locs : List Loc} {args : Array Value} (hK : va_K D vwCl (pm_tys cA) s) (G : pm_G s D cA ad0 n0 A H locs ad n w) (hr : ∀ v, r = some v → pm_ok n v) (hq : Q r n w) : ∀ t : State, t.heap = H → s.WarmedH t.vm → pm_Q D cA ad0 n0 A Q args s (.returned (r.map (pm_v ad))) t := fun t ht hW =>
  ⟨⟨r, n, w, ad, rfl, hq, G.2.2.2.1, G.2.2.2.2.1, G.2.2.2.2.2.1, G.2.2.2.2.2.2, hr, by rw [ht]; exact G.1, va_K.moved hW.alike hK, G.2.1⟩, G.2.2.1.F ht⟩
theorem pm_iret {v : Int32} (h : decode M.2.1 pc = .ok (.ireturn, 1)) (hr : M.2.2.2 = some .int) (hc : c0 ≤ mc) (hs : s0 ≤ ms) (hq : Q (some (.int v)) n w) : pm_X gs ro M d mc ms c0 s0 pc L [.int v] n w Q := by
  intro p l e s m args below meth c H locs ls D cA ad ad0 n0 A F G LL SS
  refine W.widen hc hs ?_
  exact W.iret (v := v) F.1 F.2.1 (F.2.2.2.1.trans hr) (pm_ret0 (r := some (.int v)) F.2.2.2.2.2.2.2.2.1 G (fun u q => by cases q; exact pm_oki) hq) G.2.2.1.2.2 h F.2.2.2.2.1
theorem pm_zret {v : Int32} (h : decode M.2.1 pc = .ok (.ireturn, 1)) (hr : M.2.2.2 = some .boolean) (hv : v = 0 ∨ v = 1) (hc : c0 ≤ mc) (hs : s0 ≤ ms) (hq : Q (some (.int v)) n w) : pm_X gs ro M d mc ms c0 s0 pc L [.int v] n w Q := by
  intro p l e s m args below meth c H locs ls D cA ad ad0 n0 A F G LL SS
  refine W.widen hc hs ?_
  exact W.zret (v := v) (ty := .boolean) F.1 F.2.1 (F.2.2.2.1.trans hr) (by rcases hv with rfl | rfl <;> decide +kernel) (pm_ret0 (r := some (.int v)) F.2.2.2.2.2.2.2.2.1 G (fun u q => by cases q; exact pm_oki) hq) G.2.2.1.2.2 h F.2.2.2.2.1
theorem pm_vret (h : decode M.2.1 pc = .ok (.return_, 1)) (hr : M.2.2.2 = none) (hc : c0 ≤ mc) (hs : s0 ≤ ms) (hq : Q none n w) : pm_X gs ro M d mc ms c0 s0 pc L [] n w Q := by
  intro p l e s m args below meth c H locs ls D cA ad ad0 n0 A F G LL SS
  refine W.widen hc hs ?_
  exact W.vret F.1 F.2.1 (F.2.2.2.1.trans hr) (pm_ret0 (r := none) F.2.2.2.2.2.2.2.2.1 G (fun u q => by cases q) hq) G.2.2.1.2.2 h F.2.2.2.2.1
theorem pm_aret {v : Value} {rt : FieldType} (h : decode M.2.1 pc = .ok (.areturn, 1)) (hr : M.2.2.2 = some rt) (hrt : (∃ n, rt = .object n) ∨ ∃ t, rt = .array t) (hv : v = .null ∨ ∃ a, v = .ref a) (hc : c0 ≤ mc) (hs : s0 ≤ ms) (hq : Q (some v) n w) : pm_X gs ro M d mc ms c0 s0 pc L [v] n w Q := by
  intro p l e s m args below meth c H locs ls D cA ad ad0 n0 A F G LL SS
  refine W.widen hc hs ?_
  exact W.aret (v := pm_v ad v) F.1 F.2.1 (F.2.2.2.1.trans hr) hrt (by rcases hv with rfl | ⟨a, rfl⟩; exact Or.inl rfl; exact Or.inr ⟨_, rfl⟩) (pm_ret0 (r := some v) F.2.2.2.2.2.2.2.2.1 G (fun u q => by cases q; exact pm_Sh SS) hq) G.2.2.1.2.2 h F.2.2.2.2.1
end PMH
end
section
theorem pm_good {M : pm_M} {x : Cond} (hx : x ∈ lw_g) : x ∈ pm_ws M ∧ ((x.onTables && x.keeps) = true ∨ ∃ ty, x = .arrayClass ty) := ⟨List.mem_cons_of_mem _ hx, good_of_word (List.mem_filter.mp hx).2⟩
theorem pm_N_warm {s U : State} (hW : s.WarmedH U.vm) (h : pm_N s) : pm_N U := ⟨fun own idx y host hm => (h.1 own idx y host hm).warmM hW, fun C hC => (h.2 C hC).moved hW.alike⟩
theorem pm_N_same {u U : State} (hvm : u.vm = U.vm) (h : pm_N u) : pm_N U := ⟨fun own idx y host hm => (h.1 own idx y host hm).same rfl hvm, fun C hC => (h.2 C hC).moved (by rw [hvm]; exact Vm.Alike.refl _)⟩
/-- a method's word stands in the tables -/
def pm_in (M : pm_M) : Prop := Cond.code M.1 M.2.1 M.2.2.1 M.2.2.2 ∈ lw_g ∧ plainName M.1.cls = true ∧ M.2.2.1 ≤ 21 ∧ M.1.cls ≠ "java/lang/invoke/MethodHandle" ∧ M.1.cls ≠ "java/lang/invoke/VarHandle" ∧ Cond.initialized M.1.cls ∈ lw_g
theorem pm_goodIn {M M' : pm_M} (h : pm_in M') : GoodIn (pm_ws M) (pm_ws M') := fun x hx => by
  rcases List.mem_cons.mp hx with q | q
  · rw [q]; exact pm_good h.1
  · exact pm_good q
/-- A METHOD'S CONTRACT: called with these arguments in this world it returns, and Q holds of its answer and of the world then -/
def pm_Met (gs : List String) (ro : pm_RO) (M : pm_M) (d mc ms : Nat) (av : List Value) (n : Nat) (w : Nat → va_E) (Q : Option Value → Nat → (Nat → va_E) → Prop) : Prop :=
  ∀ (l : Launch) (D : va_G) (cA : Nat → ClassId) (ad : Nat → Nat) (sz : Nat), n < 1000000 → pm_wk n w → pm_S n av →
    Met l M.1 (pm_ws M) (pm_rm d mc ms) (va_Pc (av.map (pm_v ad)) (fun U => U.heap.size = sz ∧ va_P D vwCl (pm_W cA ad n w) U.heap ∧ va_K D vwCl (pm_tys cA) U ∧ va_D (fun _ => True) (pm_W cA ad n w) ∧ pm_R ro ad (va_A (pm_W cA ad n w) sz) U ∧ pm_Z gs ad (va_A (pm_W cA ad n w) sz) U ∧ pm_N U)) (pm_Q D cA ad n (va_A (pm_W cA ad n w) sz) Q) mc ms (va_A (pm_W cA ad n w) sz)
theorem pm_args {ad : Nat → Nat} : ∀ (av : List Value) (i j : Nat) (v : Value), (∀ u ∈ av, u.category = 1) → av[j]? = some v → (i + j, pm_v ad v) ∈ lv_args i (av.map (pm_v ad))
  | [], i, j, v, _, h => by simp at h
  | u :: av, i, 0, v, hc, h => by
    simp at h
    subst h
    exact List.mem_cons_self
  | u :: av, i, j + 1, v, hc, h => by
    show _ ∈ (i, pm_v ad u) :: lv_args (if (pm_v ad u).category = 2 then i + 2 else i + 1) (av.map (pm_v ad))
    rw [if_neg (by rw [pm_v_cat, hc u List.mem_cons_self]; decide)]
    have := pm_args (ad := ad) av (i + 1) j v (fun q hq => hc q (List.mem_cons_of_mem _ hq)) (by simpa using h)
    rw [show i + (j + 1) = i + 1 + j by omega]
    exact List.mem_cons_of_mem _ this
theorem pm_slen {ad : Nat → Nat} : ∀ (av : List Value), (∀ u ∈ av, u.category = 1) → (lg_sl (av.map (pm_v ad))).length = av.length
  | [], _ => rfl
  | u :: av, hc => by
    have ih := pm_slen (ad := ad) av (fun q hq => hc q (List.mem_cons_of_mem _ hq))
    show ((if (pm_v ad u).category = 2 then [Slot.val (pm_v ad u), Slot.second] else [Slot.val (pm_v ad u)]) ++ lg_sl (av.map (pm_v ad))).length = av.length + 1
    rw [if_neg (by rw [pm_v_cat, hc u List.mem_cons_self]; decide), List.length_append, ih]
    simp
    omega
/-- the locals at a method's entry -/
abbrev pm_L0 (M : pm_M) (av : List Value) : List (Option Value) := av.map some ++ List.replicate (M.2.2.1 - av.length) none
theorem pm_ofX {gs : List String} {ro : pm_RO} {M : pm_M} {d mc ms : Nat} {av : List Value} {n : Nat} {w : Nat → va_E} {Q : Option Value → Nat → (Nat → va_E) → Prop} (hM : pm_in M) (hlen : av.length ≤ M.2.2.1) (hcat : av.all (fun v => v.category == 1) = true) {L : List (Option Value)} (hL : pm_L0 M av = L) (hx : pm_X gs ro M d mc ms 0 0 0 L [] n w Q) : pm_Met gs ro M d mc ms av n w Q := by
  subst hL
  have hcat : ∀ u ∈ av, u.category = 1 := fun u hu => by have := List.all_eq_true.mp hcat u hu; simpa using this
  intro l D cA ad sz hn hwk hav
  refine Met.ofW (cc := M.2.1) (maxL := M.2.2.1) (ret := M.2.2.2) hM.2.1 rfl ?_
  intro p e s m args below meth c s₁ B hml hv
  obtain ⟨rfl, hsz, hP, hK, hD0, hR, hZ, hN⟩ := hv
  subst hsz
  have hts := atoms_spec (ws := pm_ws M) B.pre
  have hown : s.vm.findClass M.1.cls = some m.cls := findClass_of_methodNamed B.named
  have hnm := (name_of_methodNamed B.named B.method).1
  have hD := hD0.self (sz := s.heap.size)
  rw [lg_entry_eq]
  have hl := lv_entry (av.map (pm_v ad)) (n := M.2.2.1) (by rw [pm_slen av hcat]; exact hlen)
  refine hx p l e s m _ below meth c s.heap [] _ D cA ad ad n (va_A (pm_W cA ad n w) s.heap.size) ⟨B.exec, B.bytes, hml, B.returns, B.notSynchronized, hnm, hown, hts, hK, fun q h => Or.inr h, hR, hZ, hN⟩ ⟨hP, hD, va_S.rf, Nat.le_refl _, hn, fun _ _ => rfl, hwk⟩ ⟨hl.1, hl.2.1, fun i v hi => ?_⟩ pm_S0
  have hi2 : av[i]? = some v := by
    by_cases q : i < av.length
    · rw [List.getElem?_append_left (by rw [List.length_map]; exact q), List.getElem?_map] at hi
      cases hq : av[i]? with
      | none => rw [hq] at hi; cases hi
      | some u => rw [hq] at hi; cases hi; rfl
    · rw [List.getElem?_append_right (by rw [List.length_map]; omega)] at hi
      have := List.mem_of_getElem? hi
      rw [List.mem_replicate] at this
      cases this.2
  refine ⟨?_, hav v (List.mem_of_getElem? hi2)⟩
  have := pm_args (ad := ad) av 0 i v hcat hi2
  rw [Nat.zero_add] at this
  exact hl.2.2 _ this
theorem pm_R_go {ro roc : pm_RO} {ad ad0 : Nat → Nat} {A B : Nat → Prop} {s U : State} {H : Heap} {n0 : Nat} (hro : ∀ k v, roc k = some v → ro k = some v) (h : pm_R ro ad0 A s) (hU : U.heap = H) (hvm : s.vm.Alike U.vm) (hS : ∀ q : Nat, q < s.heap.size → ¬ A q → H[q]? = s.heap[q]?) (hB : ∀ q, B q → A q) (hag : pm_ag n0 ad0 ad) : pm_R roc ad B U := fun k N f hk => by
  obtain ⟨h1, h2⟩ := h k N f (hro k _ hk)
  refine ⟨h1, ?_⟩
  rw [hag k (Or.inr h1), hU]
  exact ((h2.moved hvm).kept hS).narrow hB
theorem pm_Z_go {gs : List String} {ad ad0 : Nat → Nat} {A B : Nat → Prop} {s U : State} {H : Heap} {n0 : Nat} (h : pm_Z gs ad0 A s) (hU : U.heap = H) (hvm : s.vm.Alike U.vm) (hS : ∀ q : Nat, q < s.heap.size → ¬ A q → H[q]? = s.heap[q]?) (hB : ∀ q, B q → A q) (hag : pm_ag n0 ad0 ad) : pm_Z gs ad B U := fun j nm hj => by
  rw [hag (1000000 + j) (Or.inr (Nat.le_add_right _ _)), hU]
  exact (((h j nm hj).moved hvm).kept hS).narrow hB
theorem pm_ag_tr {n0 n : Nat} {a b c : Nat → Nat} (hn : n0 ≤ n) (h : pm_ag n0 a b) (h2 : pm_ag n b c) : pm_ag n0 a c := fun k hk => (h2 k (hk.imp (fun q => Nat.lt_of_lt_of_le q hn) id)).trans (h k hk)
theorem pm_L_ag {nL n n' : Nat} {ls : Array Slot} {ad ad' : Nat → Nat} {L : List (Option Value)} (h : pm_L nL ls ad n L) (hn : n ≤ n') (hag : pm_ag n ad ad') : pm_L nL ls ad' n' L := ⟨h.1, h.2.1, fun i v hi => by
  obtain ⟨h1, h2⟩ := h.2.2 i v hi
  exact ⟨by rw [pm_v_ag hag h2]; exact h1, pm_okm hn h2⟩⟩
theorem pm_A_in {A : Nat → Prop} {cA : Nat → ClassId} {ad : Nat → Nat} {n : Nat} {w : Nat → va_E} {H0 H : Heap} {locs : List Loc} (hD : va_D A (pm_W cA ad n w)) (hS : va_S A H0 H locs) (hA : ∀ q, H0.size ≤ q → A q) : ∀ q, va_A (pm_W cA ad n w) H.size q → A q := fun q h => by
  rcases h with ⟨k, e, hk⟩ | h
  · exact hD.2 k _ hk
  · exact hA q (Nat.le_trans hS.1 h)
section PMC
variable {gs : List String} {ro roc : pm_RO} {M Mc : pm_M} {d dc mc ms c0 s0 mcc msc pc : Nat} {L : List (Option Value)} {st As : List Value} {n : Nat} {w : Nat → va_E} {Q Qc : Option Value → Nat → (Nat → va_E) → Prop}
/-- behind a call -/
theorem pm_behind {p : Program} {l : Launch} {e : Env} {s : State} {m : MethodId} {args : Array Value} {below : List Frame} {meth : Method} {c : Code} {H : Heap} {locs : List Loc} {ls : Array Slot} {D : va_G} {cA : Nat → ClassId} {ad ad0 : Nat → Nat} {n0 : Nat} {A : Nat → Prop} {st0 : List Value} {a : Array Value}
    (F : pm_F gs ro M p s m args meth c D cA ad0 A) (G : pm_G s D cA ad0 n0 A H locs ad n w) (LL : pm_L M.2.2.1 ls ad n L) (SS : pm_S n st)
    (hr : va_Run p l e (pm_rm d mc ms) s m args below meth c H locs c0 s0 mcc msc (F0 m pc ls st0) (st.map (pm_v ad)) (pm_Q D cA ad n (va_A (pm_W cA ad n w) H.size) Qc a) (va_A (pm_W cA ad n w) H.size))
    (kk : ∀ r n' w', Qc r n' w' → n ≤ n' → pm_X gs ro M d mc ms (c0 + mcc) (s0 + msc) (pc + 3) L (r.toList ++ st) n' w' Q) :
    W p l e (pm_rm d mc ms) s m args below meth c H locs c0 s0 (MQ below (pm_Q D cA ad0 n0 A Q) args s mc ms A) (F0 m pc ls st0) := by
  have hAin := pm_A_in G.2.1 G.2.2.1 F.2.2.2.2.2.2.2.2.2.1
  intro T hT X
  obtain ⟨v, st₀, t, T', Lc, h0, X', hLc, e1, e2, ⟨⟨r, n', w', ad', hv, hq, hn, hn6, hag, hwk, hok, hP, hK, hD⟩, hz, hk⟩, stp⟩ := hr T hT X
  cases hv
  rw [h0] at hz hk
  have hS' : va_S A s.heap T'.heap (locs ++ Lc) := by
    refine ⟨Nat.le_trans G.2.2.1.1 (by rw [e1]; exact hz), fun q h1 h2 => ?_, fun q hq => ?_⟩
    · rw [e1, hk q (Nat.lt_of_lt_of_le h1 G.2.2.1.1) (fun z => h2 (hAin q z))]
      exact G.2.2.1.2.1 q h1 h2
    · rcases List.mem_append.mp hq with h | h
      · exact G.2.2.1.2.2 q h
      · exact hAin _ (hLc q h)
  have hD' : va_D A (pm_W cA ad' n' w') := ⟨hD.1, fun k q h => hAin _ (hD.2 k q h)⟩
  have hstk : (Option.map (pm_v ad') r).toList ++ st.map (pm_v ad) = (r.toList ++ st).map (pm_v ad') := by
    rw [List.map_append, pm_vs_ag hag SS]
    cases r <;> rfl
  have SS' : pm_S n' (r.toList ++ st) := fun u hu => by
    rcases List.mem_append.mp hu with h | h
    · cases r with
      | none => cases h
      | some v => rw [List.mem_singleton.mp h]; exact hok v rfl
    · exact pm_okm hn (SS u h)
  have K := kk r n' w' hq hn p l e s m args below meth c T'.heap (locs ++ Lc) ls D cA ad' ad0 n0 A F ⟨by rw [e1]; exact hP, hD', hS', Nat.le_trans G.2.2.2.1 hn, hn6, pm_ag_tr G.2.2.2.1 G.2.2.2.2.2.1 hag, hwk⟩ (pm_L_ag LL hn hag) SS'
  rw [← hstk] at K
  obtain ⟨t2, a1, b1⟩ := K T' rfl X'
  exact ⟨t2, stp t2 a1, b1⟩
theorem pm_pre {s U : State} {args : Array Value} {m : MethodId} {p : Program} {meth : Method} {c : Code} {H : Heap} {locs : List Loc} {D : va_G} {cA : Nat → ClassId} {ad ad0 : Nat → Nat} {n0 : Nat} {A : Nat → Prop} (hro : ∀ k v, roc k = some v → ro k = some v)
    (F : pm_F gs ro M p s m args meth c D cA ad0 A) (G : pm_G s D cA ad0 n0 A H locs ad n w) (hU : U.heap = H) (hWm : s.WarmedH U.vm) : U.heap.size = H.size ∧ va_P D vwCl (pm_W cA ad n w) U.heap ∧ va_K D vwCl (pm_tys cA) U ∧ va_D (fun _ => True) (pm_W cA ad n w) ∧ pm_R roc ad (va_A (pm_W cA ad n w) H.size) U ∧ pm_Z gs ad (va_A (pm_W cA ad n w) H.size) U ∧ pm_N U := by
  have hW := hWm.alike
  have hAin := pm_A_in G.2.1 G.2.2.1 F.2.2.2.2.2.2.2.2.2.1
  exact ⟨by rw [hU], by rw [hU]; exact G.1, va_K.moved hW F.2.2.2.2.2.2.2.2.1, ⟨G.2.1.1, fun _ _ _ => trivial⟩, pm_R_go hro F.2.2.2.2.2.2.2.2.2.2.1 hU hW G.2.2.1.2.1 hAin G.2.2.2.2.2.1, pm_Z_go F.2.2.2.2.2.2.2.2.2.2.2.1 hU hW G.2.2.1.2.1 hAin G.2.2.2.2.2.1, pm_N_warm hWm F.2.2.2.2.2.2.2.2.2.2.2.2⟩
theorem pm_blind {roc : pm_RO} {av : List Value} {D : va_G} {cA : Nat → ClassId} {ad : Nat → Nat} {n sz : Nat} {w : Nat → va_E} : FrameBlind (va_Pc (av.map (pm_v ad)) (fun U => U.heap.size = sz ∧ va_P D vwCl (pm_W cA ad n w) U.heap ∧ va_K D vwCl (pm_tys cA) U ∧ va_D (fun _ => True) (pm_W cA ad n w) ∧ pm_R roc ad (va_A (pm_W cA ad n w) sz) U ∧ pm_Z gs ad (va_A (pm_W cA ad n w) sz) U ∧ pm_N U)) := fun a U g mk q => by
  obtain ⟨q0, q1, qP, qK, qD, qR, qZ, qN⟩ := q
  exact ⟨q0, q1, qP, va_K.moved (u := U) (U := U.calling g mk a) (Vm.Alike.refl U.vm) qK, qD, fun k N f hk => ⟨(qR k N f hk).1, (qR k N f hk).2.moved (u := U) (U := U.calling g mk a) (Vm.Alike.refl U.vm)⟩, fun j nm hj => (qZ j nm hj).moved (u := U) (U := U.calling g mk a) (Vm.Alike.refl U.vm), pm_N_same (u := U) (U := U.calling g mk a) rfl qN⟩
/-- the words of a call -/
def pm_lV (own : String) (idx : Nat) (Mc : pm_M) (k : Nat) : Prop := pm_in Mc ∧ Cond.methodLink own idx Mc.1 ∈ lw_g ∧ Cond.instanceMethod Mc.1 ∈ lw_g ∧ Cond.selects Mc.1.cls Mc.1 Mc.1 ∈ lw_g ∧ (parseMethodDescriptor Mc.1.desc).map (fun d => d.parameters.length) = some k
def pm_lS (own : String) (idx : Nat) (Mc : pm_M) (k : Nat) : Prop := pm_in Mc ∧ Cond.methodLink own idx Mc.1 ∈ lw_g ∧ Cond.static Mc.1 ∈ lw_g ∧ (parseMethodDescriptor Mc.1.desc).map (fun d => d.parameters.length) = some k
def pm_lI (own : String) (idx : Nat) (Mc : pm_M) (k : Nat) : Prop := pm_in Mc ∧ Cond.methodLink own idx Mc.1 ∈ lw_g ∧ Cond.instanceMethod Mc.1 ∈ lw_g ∧ Mc.1.name = "<init>" ∧ Mc.2.2.2 = none ∧ (parseMethodDescriptor Mc.1.desc).map (fun d => d.parameters.length) = some k
def pm_nV (own : String) (idx : Nat) (Mc : pm_M) (host : String) (k : Nat) : Prop := pm_in Mc ∧ Cond.methodLinkNest own idx Mc.1 host ∈ lw_tbl ∧ Cond.instanceMethod Mc.1 ∈ lw_g ∧ Cond.selects Mc.1.cls Mc.1 Mc.1 ∈ lw_g ∧ (parseMethodDescriptor Mc.1.desc).map (fun d => d.parameters.length) = some k
def pm_nS (own : String) (idx : Nat) (Mc : pm_M) (host : String) (k : Nat) : Prop := pm_in Mc ∧ Cond.methodLinkNest own idx Mc.1 host ∈ lw_tbl ∧ Cond.static Mc.1 ∈ lw_g ∧ (parseMethodDescriptor Mc.1.desc).map (fun d => d.parameters.length) = some k
def pm_nI (own : String) (idx : Nat) (Mc : pm_M) (host : String) (k : Nat) : Prop := pm_in Mc ∧ Cond.methodLinkNest own idx Mc.1 host ∈ lw_tbl ∧ Cond.instanceMethod Mc.1 ∈ lw_g ∧ Mc.1.name = "<init>" ∧ Mc.2.2.2 = none ∧ (parseMethodDescriptor Mc.1.desc).map (fun d => d.parameters.length) = some k
theorem pm_room (h : dc + 1 ≤ d) (hM : pm_in Mc) : (pm_rm dc mcc msc).frames + 1 ≤ (pm_rm d mc ms).frames ∧ 8 + (Mc.2.2.1 + 11) + (pm_rm dc mcc msc).locals ≤ (pm_rm d mc ms).locals := by
  refine ⟨h, ?_⟩
  have := hM.2.2.1
  show 8 + (Mc.2.2.1 + 11) + 40 * dc ≤ 40 * d
  omega
theorem pm_lvroom {m : MethodId} {ls : Array Slot} {ad : Nat → Nat} {st0 : List Value} (h : (st.map fun v => v.category).sum ≤ 8) : 2 * (F0 m pc ls st0).monitorRoom + ((st.map (pm_v ad)).map fun v => v.category).sum ≤ 8 := by
  have e1 : (st.map (pm_v ad)).map (fun v => v.category) = st.map fun v => v.category := by
    rw [List.map_map]
    exact List.map_congr_left fun v _ => pm_v_cat ad v
  exact lv_room (by rw [e1]; exact h)
theorem pm_callV {idx b ci : Nat} {fs : List Value} (h : decode M.2.1 pc = .ok (.invokevirtual idx, 3)) (hl : pm_lV M.1.cls idx Mc As.length) (hcl : ∃ T N, vwCl[ci]? = some (Mc.1.cls, T, N)) (hb : b < n) (hw : w b = .inr (ci, fs)) (hro : ∀ k v, roc k = some v → ro k = some v) (hd : dc + 1 ≤ d) (hc : c0 + mcc ≤ mc) (hs : s0 + msc ≤ ms) (hst : (st.map fun v => v.category).sum ≤ 8) {st0 : List Value} (hst0 : As.reverse ++ .ref b :: st = st0)
    (hM : pm_Met gs roc Mc dc mcc msc (.ref b :: As) n w Qc) (kk : ∀ r n' w', Qc r n' w' → n ≤ n' → pm_X gs ro M d mc ms (c0 + mcc) (s0 + msc) (pc + 3) L (r.toList ++ st) n' w' Q) : pm_X gs ro M d mc ms c0 s0 pc L st0 n w Q := by
  subst hst0
  intro p l e s m args below meth c H locs ls D cA ad ad0 n0 A F G LL SS
  obtain ⟨hin, hml, him, hse, hpar⟩ := hl
  obtain ⟨T, N, hcl⟩ := hcl
  have hts := F.2.2.2.2.2.2.2.1
  have SSt : pm_S n st := fun u hu => SS u (List.mem_append_right _ (List.mem_cons_of_mem _ hu))
  have SSa : pm_S n (.ref b :: As) := fun u hu => by
    rcases List.mem_cons.mp hu with q | q
    · rw [q]; exact pm_okr hb
    · exact SS u (List.mem_append_left _ (List.mem_reverse.mpr q))
  have hgi : GoodIn (pm_ws M) (wsV M.1.cls idx Mc.1.cls Mc.1 (pm_ws Mc)) := fun x hx => by
    unfold wsV at hx
    rcases List.mem_append.mp hx with q | q
    · simp only [List.mem_cons, List.not_mem_nil, or_false] at q
      rcases q with rfl | rfl | rfl | rfl
      · exact pm_good hml
      · exact pm_good him
      · exact pm_good hse
      · exact pm_good hin.2.2.2.2.2
    · exact pm_goodIn hin x q
  refine pm_behind F G LL SSt (va_runV (As := As.map (pm_v ad)) (b := ad b) (n := As.length) ⟨F.1, F.2.1, F.2.2.1, F.2.2.2.2.2.2.1, hts⟩ (hM l D cA ad H.size G.2.2.2.2.1 G.2.2.2.2.2.2 SSa) (cwV As.length hts hgi rfl rfl rfl ⟨rfl, hin.2.2.2.1, hin.2.2.2.2.1, hpar⟩ (pm_room hd hin)) ⟨pm_blind, va_recv (cl := vwCl) (q0 := b) F.2.2.2.2.2.2.2.2.1 G.1 hcl (fs := fs.map (pm_v ad)) (by rw [pm_W_get hb, hw]; rfl), fun U hU hWm => ⟨rfl, pm_pre hro F G hU hWm⟩⟩ rfl (by rw [List.length_map]) (LL.1) (by show _ = _; rw [List.map_append, List.map_reverse]; rfl) (pm_lvroom hst) h ⟨hc, hs⟩) kk
theorem pm_callVN {idx b ci : Nat} {host : String} {fs : List Value} (h : decode M.2.1 pc = .ok (.invokevirtual idx, 3)) (hl : pm_nV M.1.cls idx Mc host As.length) (hcl : ∃ T N, vwCl[ci]? = some (Mc.1.cls, T, N)) (hb : b < n) (hw : w b = .inr (ci, fs)) (hro : ∀ k v, roc k = some v → ro k = some v) (hd : dc + 1 ≤ d) (hc : c0 + mcc ≤ mc) (hs : s0 + msc ≤ ms) (hst : (st.map fun v => v.category).sum ≤ 8) {st0 : List Value} (hst0 : As.reverse ++ .ref b :: st = st0)
    (hM : pm_Met gs roc Mc dc mcc msc (.ref b :: As) n w Qc) (kk : ∀ r n' w', Qc r n' w' → n ≤ n' → pm_X gs ro M d mc ms (c0 + mcc) (s0 + msc) (pc + 3) L (r.toList ++ st) n' w' Q) : pm_X gs ro M d mc ms c0 s0 pc L st0 n w Q := by
  subst hst0
  intro p l e s m args below meth c H locs ls D cA ad ad0 n0 A F G LL SS
  obtain ⟨hin, hml, him, hse, hpar⟩ := hl
  obtain ⟨T, N, hcl⟩ := hcl
  have hts := F.2.2.2.2.2.2.2.1
  have SSt : pm_S n st := fun u hu => SS u (List.mem_append_right _ (List.mem_cons_of_mem _ hu))
  have SSa : pm_S n (.ref b :: As) := fun u hu => by
    rcases List.mem_cons.mp hu with q | q
    · rw [q]; exact pm_okr hb
    · exact SS u (List.mem_append_left _ (List.mem_reverse.mpr q))
  refine pm_behind F G LL SSt (va_runVN (As := As.map (pm_v ad)) (b := ad b) (n := As.length) ⟨F.1, F.2.1, F.2.2.1, F.2.2.2.2.2.2.1, hts⟩ (hM l D cA ad H.size G.2.2.2.2.1 G.2.2.2.2.2.2 SSa) ⟨va_cnB As.length hts (pm_goodIn hin) rfl rfl rfl (F.2.2.2.2.2.2.2.2.2.2.2.2.1 _ _ _ _ hml) (pm_hts hts hin.2.2.2.2.2) ⟨hin.2.2.2.1, hin.2.2.2.2.1, hpar⟩ (pm_room hd hin), pm_hts hts him, pm_hts hts hse⟩ ⟨pm_blind, va_recv (cl := vwCl) (q0 := b) F.2.2.2.2.2.2.2.2.1 G.1 hcl (fs := fs.map (pm_v ad)) (by rw [pm_W_get hb, hw]; rfl), fun U hU hWm => ⟨rfl, pm_pre hro F G hU hWm⟩⟩ rfl (by rw [List.length_map]) (LL.1) (by show _ = _; rw [List.map_append, List.map_reverse]; rfl) (pm_lvroom hst) h ⟨hc, hs⟩) kk
theorem pm_callS {idx : Nat} (h : decode M.2.1 pc = .ok (.invokestatic idx, 3)) (hl : pm_lS M.1.cls idx Mc As.length) (hro : ∀ k v, roc k = some v → ro k = some v) (hd : dc + 1 ≤ d) (hc : c0 + mcc ≤ mc) (hs : s0 + msc ≤ ms) (hst : (st.map fun v => v.category).sum ≤ 8) {st0 : List Value} (hst0 : As.reverse ++ st = st0)
    (hM : pm_Met gs roc Mc dc mcc msc As n w Qc) (kk : ∀ r n' w', Qc r n' w' → n ≤ n' → pm_X gs ro M d mc ms (c0 + mcc) (s0 + msc) (pc + 3) L (r.toList ++ st) n' w' Q) : pm_X gs ro M d mc ms c0 s0 pc L st0 n w Q := by
  subst hst0
  intro p l e s m args below meth c H locs ls D cA ad ad0 n0 A F G LL SS
  obtain ⟨hin, hml, him, hpar⟩ := hl
  have hts := F.2.2.2.2.2.2.2.1
  have SSt : pm_S n st := fun u hu => SS u (List.mem_append_right _ hu)
  have SSa : pm_S n As := fun u hu => SS u (List.mem_append_left _ (List.mem_reverse.mpr hu))
  have hgi : GoodIn (pm_ws M) (va_wsS M.1.cls idx Mc.1 (pm_ws Mc)) := fun x hx => by
    unfold va_wsS at hx
    rcases List.mem_append.mp hx with q | q
    · simp only [List.mem_cons, List.not_mem_nil, or_false] at q
      rcases q with rfl | rfl | rfl
      · exact pm_good hml
      · exact pm_good him
      · exact pm_good hin.2.2.2.2.2
    · exact pm_goodIn hin x q
  refine pm_behind F G LL SSt (va_runS (As := As.map (pm_v ad)) (n := As.length) ⟨F.1, F.2.1, F.2.2.1, F.2.2.2.2.2.2.1, hts⟩ (hM l D cA ad H.size G.2.2.2.2.1 G.2.2.2.2.2.2 SSa) (va_cwS As.length hts hgi rfl rfl rfl ⟨hin.2.2.2.1, hin.2.2.2.2.1, hpar⟩ (pm_room hd hin)) ⟨pm_blind, fun U hU hWm => ⟨rfl, pm_pre hro F G hU hWm⟩⟩ rfl (by rw [List.length_map]) (LL.1) (by show _ = _; rw [List.map_append, List.map_reverse]) (pm_lvroom hst) h ⟨hc, hs⟩) kk
theorem pm_callSN {idx : Nat} {host : String} (h : decode M.2.1 pc = .ok (.invokestatic idx, 3)) (hl : pm_nS M.1.cls idx Mc host As.length) (hro : ∀ k v, roc k = some v → ro k = some v) (hd : dc + 1 ≤ d) (hc : c0 + mcc ≤ mc) (hs : s0 + msc ≤ ms) (hst : (st.map fun v => v.category).sum ≤ 8) {st0 : List Value} (hst0 : As.reverse ++ st = st0)
    (hM : pm_Met gs roc Mc dc mcc msc As n w Qc) (kk : ∀ r n' w', Qc r n' w' → n ≤ n' → pm_X gs ro M d mc ms (c0 + mcc) (s0 + msc) (pc + 3) L (r.toList ++ st) n' w' Q) : pm_X gs ro M d mc ms c0 s0 pc L st0 n w Q := by
  subst hst0
  intro p l e s m args below meth c H locs ls D cA ad ad0 n0 A F G LL SS
  obtain ⟨hin, hml, him, hpar⟩ := hl
  have hts := F.2.2.2.2.2.2.2.1
  have SSt : pm_S n st := fun u hu => SS u (List.mem_append_right _ hu)
  have SSa : pm_S n As := fun u hu => SS u (List.mem_append_left _ (List.mem_reverse.mpr hu))
  refine pm_behind F G LL SSt (va_runSN (As := As.map (pm_v ad)) (n := As.length) ⟨F.1, F.2.1, F.2.2.1, F.2.2.2.2.2.2.1, hts⟩ (hM l D cA ad H.size G.2.2.2.2.1 G.2.2.2.2.2.2 SSa) ⟨va_cnB As.length hts (pm_goodIn hin) rfl rfl rfl (F.2.2.2.2.2.2.2.2.2.2.2.2.1 _ _ _ _ hml) (pm_hts hts hin.2.2.2.2.2) ⟨hin.2.2.2.1, hin.2.2.2.2.1, hpar⟩ (pm_room hd hin), pm_hts hts him, trivial⟩ ⟨pm_blind, fun U hU hWm => ⟨rfl, pm_pre hro F G hU hWm⟩⟩ rfl (by rw [List.length_map]) (LL.1) (by show _ = _; rw [List.map_append, List.map_reverse]) (pm_lvroom hst) h ⟨hc, hs⟩) kk
end PMC
end
section
section PMN
variable {gs : List String} {ro roc : pm_RO} {M Mc : pm_M} {d dc mc ms c0 s0 mcc msc pc : Nat} {L : List (Option Value)} {st As : List Value} {n : Nat} {w : Nat → va_E} {Q Qc : Option Value → Nat → (Nat → va_E) → Prop}
theorem pm_callI {idx b : Nat} (h : decode M.2.1 pc = .ok (.invokespecial idx, 3)) (hl : pm_lI M.1.cls idx Mc As.length) (hb : b < n) (hro : ∀ k v, roc k = some v → ro k = some v) (hd : dc + 1 ≤ d) (hc : c0 + mcc ≤ mc) (hs : s0 + msc ≤ ms) (hst : (st.map fun v => v.category).sum ≤ 8) {st0 : List Value} (hst0 : As.reverse ++ .ref b :: st = st0)
    (hM : pm_Met gs roc Mc dc mcc msc (.ref b :: As) n w Qc) (kk : ∀ r n' w', Qc r n' w' → n ≤ n' → pm_X gs ro M d mc ms (c0 + mcc) (s0 + msc) (pc + 3) L (r.toList ++ st) n' w' Q) : pm_X gs ro M d mc ms c0 s0 pc L st0 n w Q := by
  subst hst0
  intro p l e s m args below meth c H locs ls D cA ad ad0 n0 A F G LL SS
  obtain ⟨y, cc, nL, ret⟩ := Mc
  obtain ⟨hin, hml, him, hnm, hret, hpar⟩ := hl
  cases hret
  have hts := F.2.2.2.2.2.2.2.1
  have SSt : pm_S n st := fun u hu => SS u (List.mem_append_right _ (List.mem_cons_of_mem _ hu))
  have SSa : pm_S n (.ref b :: As) := fun u hu => by
    rcases List.mem_cons.mp hu with q | q
    · rw [q]; exact pm_okr hb
    · exact SS u (List.mem_append_left _ (List.mem_reverse.mpr q))
  refine pm_behind F G LL SSt (va_runI (As := As.map (pm_v ad)) (b := ad b) (n := As.length) ⟨F.1, F.2.1, F.2.2.1, F.2.2.2.2.2.2.1, hts⟩ (hM l D cA ad H.size G.2.2.2.2.1 G.2.2.2.2.2.2 SSa) (cwI As.length hts (pm_goodIn hin) rfl rfl rfl (pm_hts hts hin.2.2.2.2.2) (pm_hts hts hml) (pm_hts hts him) hnm ⟨hin.2.2.2.1, hin.2.2.2.2.1, hpar⟩ (pm_room hd hin)) ⟨pm_blind, fun U hU hWm => ⟨rfl, pm_pre hro F G hU hWm⟩⟩ rfl (by rw [List.length_map]) (LL.1) (by show _ = _; rw [List.map_append, List.map_reverse]; rfl) (pm_lvroom hst) h ⟨hc, hs⟩) kk
theorem pm_callIN {idx b : Nat} {host : String} (h : decode M.2.1 pc = .ok (.invokespecial idx, 3)) (hl : pm_nI M.1.cls idx Mc host As.length) (hb : b < n) (hro : ∀ k v, roc k = some v → ro k = some v) (hd : dc + 1 ≤ d) (hc : c0 + mcc ≤ mc) (hs : s0 + msc ≤ ms) (hst : (st.map fun v => v.category).sum ≤ 8) {st0 : List Value} (hst0 : As.reverse ++ .ref b :: st = st0)
    (hM : pm_Met gs roc Mc dc mcc msc (.ref b :: As) n w Qc) (kk : ∀ r n' w', Qc r n' w' → n ≤ n' → pm_X gs ro M d mc ms (c0 + mcc) (s0 + msc) (pc + 3) L (r.toList ++ st) n' w' Q) : pm_X gs ro M d mc ms c0 s0 pc L st0 n w Q := by
  subst hst0
  intro p l e s m args below meth c H locs ls D cA ad ad0 n0 A F G LL SS
  obtain ⟨y, cc, nL, ret⟩ := Mc
  obtain ⟨hin, hml, him, hnm, hret, hpar⟩ := hl
  cases hret
  have hts := F.2.2.2.2.2.2.2.1
  have SSt : pm_S n st := fun u hu => SS u (List.mem_append_right _ (List.mem_cons_of_mem _ hu))
  have SSa : pm_S n (.ref b :: As) := fun u hu => by
    rcases List.mem_cons.mp hu with q | q
    · rw [q]; exact pm_okr hb
    · exact SS u (List.mem_append_left _ (List.mem_reverse.mpr q))
  refine pm_behind F G LL SSt (va_runIN (As := As.map (pm_v ad)) (b := ad b) (n := As.length) ⟨F.1, F.2.1, F.2.2.1, F.2.2.2.2.2.2.1, hts⟩ (hM l D cA ad H.size G.2.2.2.2.1 G.2.2.2.2.2.2 SSa) ⟨va_cnB As.length hts (pm_goodIn hin) rfl rfl rfl (F.2.2.2.2.2.2.2.2.2.2.2.2.1 _ _ _ _ hml) (pm_hts hts hin.2.2.2.2.2) ⟨hin.2.2.2.1, hin.2.2.2.2.1, hpar⟩ (pm_room hd hin), hnm, pm_hts hts him⟩ ⟨pm_blind, fun U hU hWm => ⟨rfl, pm_pre hro F G hU hWm⟩⟩ rfl (by rw [List.length_map]) (LL.1) (by show _ = _; rw [List.map_append, List.map_reverse]; rfl) (pm_lvroom hst) h ⟨hc, hs⟩) kk
/-- Object's own constructor -/
theorem pm_obj {idx b : Nat} (h : decode M.2.1 pc = .ok (.invokespecial idx, 3)) (h1 : Cond.methodLink M.1.cls idx Lib.objectInit ∈ lw_g) (h2 : Cond.instanceMethod Lib.objectInit ∈ lw_g) (h3 : Cond.code Lib.objectInit ⟨#[0xb1]⟩ 1 none ∈ lw_g) (hd : 1 ≤ d) (hst : (st.map fun v => v.category).sum ≤ 8) (kk : pm_X gs ro M d mc ms c0 s0 (pc + 3) L st n w Q) : pm_X gs ro M d mc ms c0 s0 pc L (.ref b :: st) n w Q := by
  intro p l e s m args below meth c H locs ls D cA ad ad0 n0 A F G LL SS
  have hts := F.2.2.2.2.2.2.2.1
  have hr := pm_lvroom (m := m) (pc := pc) (ls := ls) (ad := ad) (st0 := (.ref b :: st).map (pm_v ad)) hst
  refine W.objInit F.1 F.2.1 F.2.2.2.2.2.2.1 (pm_hts hts h1) (pm_hts hts h2) (pm_hts hts h3) rfl (by rw [F.2.2.1]; exact LL.1) (a := ad b) (rest := st.map (pm_v ad)) rfl h hd ?_ (kk p l e s m args below meth c H locs ls D cA ad ad0 n0 A F G LL (pm_St SS))
  show _ ≤ 40 * d
  omega
/-- what a made cell gives -/
theorem pm_made {p : Program} {l : Launch} {e : Env} {s : State} {m : MethodId} {args : Array Value} {below : List Frame} {meth : Method} {c : Code} {H1 : Heap} {locs : List Loc} {ls : Array Slot} {D : va_G} {cA : Nat → ClassId} {ad ad0 : Nat → Nat} {n0 : Nat} {A : Nat → Prop} {q c1 s1 pc' : Nat} {e0 : va_E} {rest : List Value}
    (F : pm_F gs ro M p s m args meth c D cA ad0 A) (hn0 : n0 ≤ n) (hn : n + 1 < 1000000) (hag : pm_ag n0 ad0 ad) (hwk : pm_wk n w) (LL : pm_L M.2.2.1 ls ad n L) (SS : pm_S n st) (he : pm_ek n e0)
    (hP : va_P D vwCl (pm_W cA ad n w ++ [(q, pm_e cA ad e0)]) H1) (hD : va_D A (pm_W cA ad n w ++ [(q, pm_e cA ad e0)])) (hS : va_S A s.heap H1 locs) (hrest : rest = .ref q :: st.map (pm_v ad))
    (kk : pm_X gs ro M d mc ms c1 s1 pc' L (.ref n :: st) (n + 1) (va_up w n e0) Q) : W p l e (pm_rm d mc ms) s m args below meth c H1 locs c1 s1 (MQ below (pm_Q D cA ad0 n0 A Q) args s mc ms A) (F0 m pc' ls rest) := by
  have hag1 : pm_ag n ad (va_up ad n q) := fun k hk => pm_up_n (by omega)
  rw [pm_W_push (by omega) hwk he] at hP hD
  have K := kk p l e s m args below meth c H1 locs ls D cA (va_up ad n q) ad0 n0 A F ⟨hP, hD, hS, Nat.le_succ_of_le hn0, hn, pm_ag_tr hn0 hag hag1, fun k hk => ?_⟩ (pm_L_ag LL (Nat.le_succ _) hag1) (pm_Sc (pm_okr (Nat.lt_succ_self _)) (fun u hu => pm_okm (Nat.le_succ _) (SS u hu)))
  · have e1 : (Value.ref n :: st).map (pm_v (va_up ad n q)) = rest := by
      rw [hrest]
      show Value.ref (va_up ad n q n) :: st.map (pm_v (va_up ad n q)) = _
      rw [pm_up_s, pm_vs_ag hag1 SS]
    rw [e1] at K
    exact K
  · by_cases hk2 : k = n
    · subst hk2; rw [pm_up_s]; exact pm_ekm (Nat.le_succ _) he
    · rw [pm_up_n hk2]; exact pm_ekm (Nat.le_succ _) (hwk k (by omega))
theorem pm_new {idx ci : Nat} {C : String} {T : u_T} {N : Nat} {ty : Nat → FieldType} {fs : List Value} (h : decode M.2.1 pc = .ok (.new idx, 3)) (hcl : pm_cl ci C T N ty) (h1 : Cond.classLink M.1.cls idx C ∈ lw_g) (h2 : Cond.instantiable C N ∈ lw_g) (h3 : Cond.initialized C ∈ lw_g) (hfs : ∀ j, j < N → defaultValue (ty j) = vp_V fs j) (hfs2 : fs.all (fun v => match v with | .ref _ => false | _ => true) = true) (hc : c0 + 1 ≤ mc) (hs : s0 + N ≤ ms) (hn : n + 1 < 1000000)
    (kk : pm_X gs ro M d mc ms (c0 + 1) (s0 + N) (pc + 3) L (.ref n :: st) (n + 1) (va_up w n (.inr (ci, fs))) Q) : pm_X gs ro M d mc ms c0 s0 pc L st n w Q := by
  intro p l e s m args below meth c H locs ls D cA ad ad0 n0 A F G LL SS
  obtain ⟨hc1, hin, hty, hnm⟩ := hcl
  have hts := F.2.2.2.2.2.2.2.1
  have hno : ∀ v ∈ fs, ∀ k, v ≠ .ref k := fun v hv k q => by
    have := List.all_eq_true.mp hfs2 v hv
    rw [q] at this
    cases this
  have hmap : fs.map (pm_v ad) = fs := by
    rw [List.map_congr_left (g := id) (fun v hv => ?_), List.map_id]
    cases v with
    | ref k => exact absurd rfl (hno _ hv k)
    | _ => rfl
  refine va_new (D := D) F.1 F.2.1 (Ts := pm_ws M) hts (fun x hx => List.mem_cons_of_mem _ (hin x hx)) ty hty F.2.2.2.2.2.2.1 (pm_hts hts h1) (pm_hts hts h2) (pm_hts hts h3) F.2.2.2.2.2.2.2.2.1 G.1 G.2.1 G.2.2.1 F.2.2.2.2.2.2.2.2.2.1 hc1 (fs := fs) hfs hc hs h (fun q H1 hP hD hS => ?_)
  refine pm_made (e0 := .inr (ci, fs)) F G.2.2.2.1 hn G.2.2.2.2.2.1 G.2.2.2.2.2.2 LL SS (pm_eko fun v hv k q => absurd q (hno v hv k)) ?_ ?_ hS rfl kk
  · show va_P D vwCl (pm_W cA ad n w ++ [(q, .inr (ci, fs.map (pm_v ad)))]) H1
    rw [hmap]; exact hP
  · show va_D A (pm_W cA ad n w ++ [(q, .inr (ci, fs.map (pm_v ad)))])
    rw [hmap]; exact hD
theorem pm_newi {k : Int32} {N : Nat} (h : decode M.2.1 pc = .ok (.newarray .int, 2)) (h1 : Cond.arrayClass .int ∈ lw_g) (hk : ¬ k < 0) (hN : k.toNatClampNeg = N) (hb : N * 4 ≤ 536870912) (hc : c0 + 1 ≤ mc) (hs : s0 + N ≤ ms) (hn : n + 1 < 1000000)
    (kk : pm_X gs ro M d mc ms (c0 + 1) (s0 + N) (pc + 2) L (.ref n :: st) (n + 1) (va_up w n (.inl (0, N, .inl (fun _ => 0)))) Q) : pm_X gs ro M d mc ms c0 s0 pc L (.int k :: st) n w Q := by
  intro p l e s m args below meth c H locs ls D cA ad ad0 n0 A F G LL SS
  have hts := F.2.2.2.2.2.2.2.1
  refine va_newa (D := D) F.1 F.2.1 (atype := .int) (pm_hts hts h1) (ty := .int) rfl F.2.2.2.2.2.2.2.2.1 G.1 G.2.1 G.2.2.1 F.2.2.2.2.2.2.2.2.2.1 (a0 := (N, .inl (fun _ => 0))) (fun _ => rfl) hk hN hb hc hs h (fun q cB H1 hK hP hD hS => ?_)
  have e0 : cB = cA 0 := by
    have a1 := (hK.2 4 (cB, .int) rfl).2
    have a2 := (hK.2 0 (cA 0, .int) rfl).2
    exact Option.some.inj (a1.symm.trans a2)
  subst e0
  exact pm_made (e0 := .inl (0, N, .inl (fun _ => 0))) F G.2.2.2.1 hn G.2.2.2.2.2.1 G.2.2.2.2.2.2 LL (pm_St SS) pm_eki hP hD hS rfl kk
theorem pm_newz {k : Int32} {N : Nat} (h : decode M.2.1 pc = .ok (.newarray .boolean, 2)) (h1 : Cond.arrayClass .boolean ∈ lw_g) (hk : ¬ k < 0) (hN : k.toNatClampNeg = N) (hb : N * 1 ≤ 536870912) (hc : c0 + 1 ≤ mc) (hs : s0 + N ≤ ms) (hn : n + 1 < 1000000)
    (kk : pm_X gs ro M d mc ms (c0 + 1) (s0 + N) (pc + 2) L (.ref n :: st) (n + 1) (va_up w n (.inl (1, N, .inl (fun _ => 0)))) Q) : pm_X gs ro M d mc ms c0 s0 pc L (.int k :: st) n w Q := by
  intro p l e s m args below meth c H locs ls D cA ad ad0 n0 A F G LL SS
  have hts := F.2.2.2.2.2.2.2.1
  refine va_newa (D := D) F.1 F.2.1 (atype := .boolean) (pm_hts hts h1) (ty := .boolean) rfl F.2.2.2.2.2.2.2.2.1 G.1 G.2.1 G.2.2.1 F.2.2.2.2.2.2.2.2.2.1 (a0 := (N, .inl (fun _ => 0))) (fun _ => rfl) hk hN hb hc hs h (fun q cB H1 hK hP hD hS => ?_)
  have e0 : cB = cA 1 := by
    have a1 := (hK.2 4 (cB, .boolean) rfl).2
    have a2 := (hK.2 1 (cA 1, .boolean) rfl).2
    exact Option.some.inj (a1.symm.trans a2)
  subst e0
  exact pm_made (e0 := .inl (1, N, .inl (fun _ => 0))) F G.2.2.2.1 hn G.2.2.2.2.2.1 G.2.2.2.2.2.2 LL (pm_St SS) pm_eki hP hD hS rfl kk
/-- new Run[N] -/
theorem pm_newq {idx : Nat} {k : Int32} {N : Nat} (h : decode M.2.1 pc = .ok (.anewarray idx, 3)) (h1 : Cond.classLink M.1.cls idx RX7 ∈ lw_g) (h2 : Cond.arrayOver (.object RX7) ∈ lw_tbl) (hk : ¬ k < 0) (hN : k.toNatClampNeg = N) (hb : N * 4 ≤ 536870912) (hc : c0 + 1 ≤ mc) (hs : s0 + N ≤ ms) (hn : n + 1 < 1000000)
    (kk : pm_X gs ro M d mc ms (c0 + 1) (s0 + N) (pc + 3) L (.ref n :: st) (n + 1) (va_up w n (.inl (2, N, .inr (.inr (.inr (.inr (fun _ => none))))))) Q) : pm_X gs ro M d mc ms c0 s0 pc L (.int k :: st) n w Q := by
  intro p l e s m args below meth c H locs ls D cA ad ad0 n0 A F G LL SS
  have hts := F.2.2.2.2.2.2.2.1
  refine va_newq (D := D) F.1 F.2.1 F.2.2.2.2.2.2.1 (pm_hts hts h1) (F.2.2.2.2.2.2.2.2.2.2.2.2.2 _ h2) F.2.2.2.2.2.2.2.2.1 G.1 G.2.1 G.2.2.1 F.2.2.2.2.2.2.2.2.2.1 hk hN hb hc hs h (fun q cB H1 hK hP hD hS => ?_)
  have e0 : cB = cA 2 := by
    obtain ⟨_, _, -, -, -, a1⟩ := (hK.2 4 (cB, .object RX7) rfl).2
    obtain ⟨_, _, -, -, -, a2⟩ := (hK.2 2 (cA 2, .object RX7) rfl).2
    exact Option.some.inj (a1.symm.trans a2)
  subst e0
  exact pm_made (e0 := .inl (2, N, .inr (.inr (.inr (.inr (fun _ => none)))))) F G.2.2.2.1 hn G.2.2.2.2.2.1 G.2.2.2.2.2.2 LL (pm_St SS) (pm_ekq (fun i k q => by cases q)) hP hD hS rfl kk
/-- reading an array of Runs -/
theorem pm_aldq {a N : Nat} {g : Nat → Option Nat} {i : Int32} {v : Value} (h : decode M.2.1 pc = .ok (.aaload, 1)) (ha : a < n) (hw : w a = .inl (2, N, .inr (.inr (.inr (.inr g))))) (hi : vp_in i N) (hv : va_rf (g i.toNatClampNeg) = v) (kk : pm_X gs ro M d mc ms c0 s0 (pc + 1) L (v :: st) n w Q) : pm_X gs ro M d mc ms c0 s0 pc L (.int i :: .ref a :: st) n w Q := by
  subst hv
  intro p l e s m args below meth c H locs ls D cA ad ad0 n0 A F G LL SS
  have hok : pm_ok n (va_rf (g i.toNatClampNeg)) := by
    cases hg : g i.toNatClampNeg with
    | none => exact pm_okn
    | some k => exact pm_okr ((G.2.2.2.2.2.2 a ha).1 2 N g hw _ k hg)
  have K := kk p l e s m args below meth c H locs ls D cA ad ad0 n0 A F G LL (pm_Sc hok (pm_St (pm_St SS)))
  refine va_aldq (D := D) F.1 F.2.1 F.2.2.2.2.2.2.2.2.1 G.1 a 2 (cA := cA 2) (C := RX7) (n := N) (f := fun i => (g i).map ad) ?_ rfl hi h ?_
  · rw [pm_W_get ha, hw]; rfl
  · have e1 : pm_v ad (va_rf (g i.toNatClampNeg)) = va_rf ((g i.toNatClampNeg).map ad) := by cases g i.toNatClampNeg <;> rfl
    rw [← e1]
    exact K
theorem pm_mmax {idx : Nat} {x y : Int32} (h : decode M.2.1 pc = .ok (.invokestatic idx, 3)) (h1 : Cond.methodLink M.1.cls idx Lib.Math.max.name ∈ lw_g) (h2 : Cond.static Lib.Math.max.name ∈ lw_g) (h3 : Cond.initialized "java/lang/Math" ∈ lw_g) (h4 : Cond.code Lib.Math.max.name Lib.Math.max.code 2 (some .int) ∈ lw_g) (hd : 1 ≤ d) (hc : c0 ≤ mc) (hs : s0 ≤ ms) (hst : (st.map fun v => v.category).sum ≤ 8) (kk : pm_X gs ro M d mc ms c0 s0 (pc + 3) L (.int (if x < y then y else x) :: st) n w Q) : pm_X gs ro M d mc ms c0 s0 pc L (.int y :: .int x :: st) n w Q := by
  intro p l e s m args below meth c H locs ls D cA ad ad0 n0 A F G LL SS
  have hts := F.2.2.2.2.2.2.2.1
  have hr := pm_lvroom (m := m) (pc := pc) (ls := ls) (ad := ad) (st0 := st.map (pm_v ad)) hst
  refine va_mmax F.1 F.2.1 (F.2.2.1.trans LL.1.symm) F.2.2.2.2.2.2.1 (pm_hts hts h1) (pm_hts hts h2) (pm_hts hts h3) (pm_hts hts h4) hd ?_ hc hs h (kk p l e s m args below meth c H locs ls D cA ad ad0 n0 A F G LL (pm_Si (pm_St (pm_St SS))))
  show _ ≤ 40 * d
  omega
theorem pm_mmin {idx : Nat} {x y : Int32} (h : decode M.2.1 pc = .ok (.invokestatic idx, 3)) (h1 : Cond.methodLink M.1.cls idx Lib.Math.min.name ∈ lw_g) (h2 : Cond.static Lib.Math.min.name ∈ lw_g) (h3 : Cond.initialized "java/lang/Math" ∈ lw_g) (h4 : Cond.code Lib.Math.min.name Lib.Math.min.code 2 (some .int) ∈ lw_g) (hd : 1 ≤ d) (hc : c0 ≤ mc) (hs : s0 ≤ ms) (hst : (st.map fun v => v.category).sum ≤ 8) (kk : pm_X gs ro M d mc ms c0 s0 (pc + 3) L (.int (if y < x then y else x) :: st) n w Q) : pm_X gs ro M d mc ms c0 s0 pc L (.int y :: .int x :: st) n w Q := by
  intro p l e s m args below meth c H locs ls D cA ad ad0 n0 A F G LL SS
  have hts := F.2.2.2.2.2.2.2.1
  have hr := pm_lvroom (m := m) (pc := pc) (ls := ls) (ad := ad) (st0 := st.map (pm_v ad)) hst
  refine va_mmin F.1 F.2.1 (F.2.2.1.trans LL.1.symm) F.2.2.2.2.2.2.1 (pm_hts hts h1) (pm_hts hts h2) (pm_hts hts h3) (pm_hts hts h4) hd ?_ hc hs h (kk p l e s m args below meth c H locs ls D cA ad ad0 n0 A F G LL (pm_Si (pm_St (pm_St SS))))
  show _ ≤ 40 * d
  omega
end PMN
end
section
/-! REGIONS: a run of places of a known shape, and what they hold as numbers: the int at slot s of the object at offset j is u.1 (100 * j + s), the ints of the array at offset j are u.2.1 j, a reference that may change is u.2.2.1 (100 * j + s), the references of an array u.2.2.2 j -/
abbrev rg_U : Type := (Nat → Int32) × (Nat → Nat → Int32) × (Nat → Option Nat) × (Nat → Nat → Option Nat)
/-- object (number of its class, fields: 0 an int, 1 a reference that may change, k + 2 the place at offset k), array of ints (tag, length), array of references (length) -/
abbrev rg_S : Type := (Nat × List Nat) ⊕ (Nat × Nat) ⊕ Nat
def rg_f (b : Nat) (u : rg_U) (j s c : Nat) : Value := match c with
  | 0 => .int (u.1 (100 * j + s))
  | 1 => va_rf (u.2.2.1 (100 * j + s))
  | k + 2 => .ref (b + k)
def rg_fs (b : Nat) (u : rg_U) (j : Nat) (t : List Nat) : List Value := (List.range t.length).map (fun s => rg_f b u j s (t.getD s 0))
def rg_e (b : Nat) (u : rg_U) (j : Nat) (x : rg_S) : va_E := match x with
  | .inl (ci, t) => .inr (ci, rg_fs b u j t)
  | .inr (.inl (tag, N)) => .inl (tag, N, .inl (u.2.1 j))
  | .inr (.inr N) => .inl (2, N, .inr (.inr (.inr (.inr (u.2.2.2 j)))))
def rg_wf (sh : List rg_S) : Bool := sh.all (fun x => match x with | .inl (_, t) => decide (t.length ≤ 100) | _ => true)
def rg (sh : List rg_S) (b : Nat) (u : rg_U) (n : Nat) (w : Nat → va_E) : Prop := rg_wf sh = true ∧ b + sh.length ≤ n ∧ ∀ (j : Nat) (x : rg_S), sh[j]? = some x → w (b + j) = rg_e b u j x
def rg_F (u : rg_U) (k : Nat) (v : Int32) : rg_U := (upd u.1 k v, u.2)
def rg_R (u : rg_U) (j i : Nat) (x : Int32) : rg_U := (u.1, va_up u.2.1 j (upd (u.2.1 j) i x), u.2.2)
def rg_G (u : rg_U) (k : Nat) (r : Option Nat) : rg_U := (u.1, u.2.1, va_up u.2.2.1 k r, u.2.2.2)
/-- nothing but the region has changed -/
def rg_k (b m : Nat) (w w' : Nat → va_E) : Prop := ∀ k, k < b ∨ b + m ≤ k → w' k = w k
theorem rg_k0 {b m : Nat} {w : Nat → va_E} : rg_k b m w w := fun _ _ => rfl
theorem rg_kt {b m : Nat} {w w' w'' : Nat → va_E} (h : rg_k b m w w') (h2 : rg_k b m w' w'') : rg_k b m w w'' := fun k hk => (h2 k hk).trans (h k hk)
theorem rg_ku {b m j : Nat} {w : Nat → va_E} {e : va_E} (hj : j < m) : rg_k b m w (va_up w (b + j) e) := fun k hk => pm_up_n (by omega)
theorem rg_lt {sh : List rg_S} {b : Nat} {u : rg_U} {n : Nat} {w : Nat → va_E} {j : Nat} {x : rg_S} (h : rg sh b u n w) (hx : sh[j]? = some x) : b + j < n := by
  have := (List.getElem?_eq_some_iff.mp hx).1
  have := h.2.1
  omega
theorem rg_fs_get {b : Nat} {u : rg_U} {j s c : Nat} {t : List Nat} (h : t[s]? = some c) : (rg_fs b u j t)[s]? = some (rg_f b u j s c) := by
  have hs := (List.getElem?_eq_some_iff.mp h).1
  have hc := (List.getElem?_eq_some_iff.mp h).2
  simp [rg_fs, hs, hc]
theorem rg_fs_len {b : Nat} {u : rg_U} {j : Nat} {t : List Nat} : (rg_fs b u j t).length = t.length := by simp [rg_fs]
theorem rg_t {sh : List rg_S} (h : rg_wf sh = true) {j ci : Nat} {t : List Nat} (hx : sh[j]? = some (.inl (ci, t))) : t.length ≤ 100 := by
  have := List.all_eq_true.mp h _ (List.mem_of_getElem? hx)
  simpa using this
theorem rg_fs_put {b : Nat} {u : rg_U} {j s : Nat} {t : List Nat} {v : Int32} (h : t[s]? = some 0) (hl : t.length ≤ 100) : (rg_fs b u j t).set s (.int v) = rg_fs b (rg_F u (100 * j + s) v) j t := by
  have hs := (List.getElem?_eq_some_iff.mp h).1
  apply List.ext_getElem?
  intro i
  rw [List.getElem?_set, rg_fs_len]
  by_cases hi : s = i
  · subst hi
    rw [if_pos rfl, if_pos hs, rg_fs_get h]
    show _ = some (Value.int (upd u.1 (100 * j + s) v (100 * j + s)))
    rw [pk_us]
  · rw [if_neg hi]
    by_cases hi2 : i < t.length
    · rw [rg_fs_get (List.getElem?_eq_getElem hi2), rg_fs_get (List.getElem?_eq_getElem hi2)]
      cases t[i] with
      | zero =>
        show some (Value.int (u.1 _)) = some (Value.int (upd u.1 (100 * j + s) v _))
        rw [pk_un (by omega)]
      | succ k => cases k <;> rfl
    · rw [List.getElem?_eq_none_iff.mpr (by rw [rg_fs_len]; omega), List.getElem?_eq_none_iff.mpr (by rw [rg_fs_len]; omega)]
theorem rg_e_F {b : Nat} {u : rg_U} {j j' s : Nat} {v : Int32} {x : rg_S} (hs : s < 100) (hx : ∀ ci t, x = .inl (ci, t) → t.length ≤ 100) (hj : j' ≠ j) : rg_e b (rg_F u (100 * j + s) v) j' x = rg_e b u j' x := by
  rcases x with ⟨ci, t⟩ | ⟨tag, N⟩ | N
  · have hl := hx ci t rfl
    show Sum.inr (ci, rg_fs b (rg_F u (100 * j + s) v) j' t) = Sum.inr (ci, rg_fs b u j' t)
    congr 2
    apply List.map_congr_left
    intro i hi
    have hi := List.mem_range.mp hi
    cases t.getD i 0 with
    | zero =>
      show Value.int (upd u.1 (100 * j + s) v _) = Value.int (u.1 _)
      rw [pk_un (by omega)]
    | succ k => cases k <;> rfl
  · rfl
  · rfl
theorem rg_putF {sh : List rg_S} {b : Nat} {u : rg_U} {n : Nat} {w : Nat → va_E} {j ci s : Nat} {t : List Nat} {v : Int32} (h : rg sh b u n w) (hx : sh[j]? = some (.inl (ci, t))) (ht : t[s]? = some 0) : rg sh b (rg_F u (100 * j + s) v) n (va_up w (b + j) (.inr (ci, (rg_fs b u j t).set s (.int v)))) := by
  have hl := rg_t h.1 hx
  have hs := (List.getElem?_eq_some_iff.mp ht).1
  refine ⟨h.1, h.2.1, fun j' x hx' => ?_⟩
  by_cases hj : j' = j
  · subst hj
    rw [pm_up_s]
    rw [hx] at hx'
    cases hx'
    rw [rg_fs_put ht hl]
    rfl
  · rw [pm_up_n (by omega), h.2.2 j' x hx', rg_e_F (by omega) (fun ci t q => by subst q; exact rg_t h.1 hx') hj]
theorem rg_putR {sh : List rg_S} {b : Nat} {u : rg_U} {n : Nat} {w : Nat → va_E} {j tag N i : Nat} {v : Int32} (h : rg sh b u n w) (hx : sh[j]? = some (.inr (.inl (tag, N)))) : rg sh b (rg_R u j i v) n (va_up w (b + j) (.inl (tag, N, .inl (upd (u.2.1 j) i v)))) := by
  refine ⟨h.1, h.2.1, fun j' x hx' => ?_⟩
  by_cases hj : j' = j
  · subst hj
    rw [pm_up_s]
    rw [hx] at hx'
    cases hx'
    show _ = Sum.inl (tag, N, Sum.inl (va_up u.2.1 j' (upd (u.2.1 j') i v) j'))
    rw [pm_up_s]
  · rw [pm_up_n (by omega), h.2.2 j' x hx']
    rcases x with ⟨ci, t⟩ | ⟨tag, N⟩ | N
    · rfl
    · show _ = Sum.inl (tag, N, Sum.inl (va_up u.2.1 j (upd (u.2.1 j) i v) j'))
      rw [pm_up_n hj]
      rfl
    · rfl
theorem rg_keep {sh : List rg_S} {b : Nat} {u : rg_U} {n n' : Nat} {w w' : Nat → va_E} (h : rg sh b u n w) (hn : n ≤ n') (hk : ∀ j, j < sh.length → w' (b + j) = w (b + j)) : rg sh b u n' w' := ⟨h.1, Nat.le_trans h.2.1 hn, fun j x hx => by rw [hk j (List.getElem?_eq_some_iff.mp hx).1]; exact h.2.2 j x hx⟩
section RGR
variable {gs : List String} {ro : pm_RO} {M : pm_M} {d mc ms c0 s0 pc : Nat} {L : List (Option Value)} {st : List Value} {n : Nat} {w : Nat → va_E} {Q : Option Value → Nat → (Nat → va_E) → Prop} {sh : List rg_S} {b : Nat} {u : rg_U}
/-- getfield, an int -/
theorem rg_gi {idx ci k j : Nat} {ty : FieldType} {fin : Bool} {t : List Nat} (hR : rg sh b u n w) (h : decode M.2.1 pc = .ok (.getfield idx, 3)) (hf : pm_fl M.1.cls idx ci k ty fin) (hx : sh[j]? = some (.inl (ci, t))) (ht : t[k]? = some 0) (kk : pm_X gs ro M d mc ms c0 s0 (pc + 3) L (.int (u.1 (100 * j + k)) :: st) n w Q) : pm_X gs ro M d mc ms c0 s0 pc L (.ref (b + j) :: st) n w Q :=
  pm_get h hf (rg_lt hR hx) (hR.2.2 j _ hx) (rg_fs_get ht) kk
/-- getfield, a place of the region -/
theorem rg_gr {idx ci k j o : Nat} {ty : FieldType} {fin : Bool} {t : List Nat} (hR : rg sh b u n w) (h : decode M.2.1 pc = .ok (.getfield idx, 3)) (hf : pm_fl M.1.cls idx ci k ty fin) (hx : sh[j]? = some (.inl (ci, t))) (ht : t[k]? = some (o + 2)) (kk : pm_X gs ro M d mc ms c0 s0 (pc + 3) L (.ref (b + o) :: st) n w Q) : pm_X gs ro M d mc ms c0 s0 pc L (.ref (b + j) :: st) n w Q :=
  pm_get h hf (rg_lt hR hx) (hR.2.2 j _ hx) (rg_fs_get ht) kk
/-- putfield, an int -/
theorem rg_pi {idx ci k j : Nat} {t : List Nat} {v : Int32} (hR : rg sh b u n w) (h : decode M.2.1 pc = .ok (.putfield idx, 3)) (hf : pm_fl M.1.cls idx ci k .int false) (hx : sh[j]? = some (.inl (ci, t))) (ht : t[k]? = some 0) (kk : ∀ w', rg sh b (rg_F u (100 * j + k) v) n w' → rg_k b sh.length w w' → pm_X gs ro M d mc ms c0 s0 (pc + 3) L st n w' Q) : pm_X gs ro M d mc ms c0 s0 pc L (.int v :: .ref (b + j) :: st) n w Q :=
  pm_put h hf (rg_lt hR hx) (hR.2.2 j _ hx) (by rw [rg_fs_len]; exact (List.getElem?_eq_some_iff.mp ht).1) (fun _ => rfl) (fun _ => rfl) (kk _ (rg_putF hR hx ht) (rg_ku (List.getElem?_eq_some_iff.mp hx).1))
/-- iaload, iastore, baload, bastore, arraylength -/
theorem rg_al {j N : Nat} {i : Int32} (hR : rg sh b u n w) (h : decode M.2.1 pc = .ok (.iaload, 1)) (hx : sh[j]? = some (.inr (.inl (0, N)))) (hi : vp_in i N) (kk : pm_X gs ro M d mc ms c0 s0 (pc + 1) L (.int (u.2.1 j i.toNatClampNeg) :: st) n w Q) : pm_X gs ro M d mc ms c0 s0 pc L (.int i :: .ref (b + j) :: st) n w Q :=
  pm_iald h (rg_lt hR hx) (hR.2.2 j _ hx) hi kk
theorem rg_zl {j N : Nat} {i : Int32} (hR : rg sh b u n w) (h : decode M.2.1 pc = .ok (.baload, 1)) (hx : sh[j]? = some (.inr (.inl (1, N)))) (hi : vp_in i N) (kk : pm_X gs ro M d mc ms c0 s0 (pc + 1) L (.int (u.2.1 j i.toNatClampNeg) :: st) n w Q) : pm_X gs ro M d mc ms c0 s0 pc L (.int i :: .ref (b + j) :: st) n w Q :=
  pm_zald h (rg_lt hR hx) (hR.2.2 j _ hx) hi kk
theorem rg_as {j N : Nat} {i v : Int32} (hR : rg sh b u n w) (h : decode M.2.1 pc = .ok (.iastore, 1)) (hx : sh[j]? = some (.inr (.inl (0, N)))) (hi : vp_in i N) (kk : ∀ w', rg sh b (rg_R u j i.toNatClampNeg v) n w' → rg_k b sh.length w w' → pm_X gs ro M d mc ms c0 s0 (pc + 1) L st n w' Q) : pm_X gs ro M d mc ms c0 s0 pc L (.int v :: .int i :: .ref (b + j) :: st) n w Q :=
  pm_iast h (rg_lt hR hx) (hR.2.2 j _ hx) hi (kk _ (rg_putR hR hx) (rg_ku (List.getElem?_eq_some_iff.mp hx).1))
theorem rg_zs {j N : Nat} {i v : Int32} (hR : rg sh b u n w) (h : decode M.2.1 pc = .ok (.bastore, 1)) (hx : sh[j]? = some (.inr (.inl (1, N)))) (hi : vp_in i N) (kk : ∀ w', rg sh b (rg_R u j i.toNatClampNeg (vp_nar .boolean v)) n w' → rg_k b sh.length w w' → pm_X gs ro M d mc ms c0 s0 (pc + 1) L st n w' Q) : pm_X gs ro M d mc ms c0 s0 pc L (.int v :: .int i :: .ref (b + j) :: st) n w Q :=
  pm_zast h (rg_lt hR hx) (hR.2.2 j _ hx) hi (kk _ (rg_putR hR hx) (rg_ku (List.getElem?_eq_some_iff.mp hx).1))
end RGR
end
