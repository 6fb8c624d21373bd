theorem lwt_0 {x : Cond} (h : x ∈ k2_sels lw_privs) : x ∈ lw_tbl := List.mem_append_left _ h
theorem lwm_0 {x : Cond} (h : x ∈ k2_sels lw_privs) (hg : goodWord x = true) : x ∈ lw_g := List.mem_filter.mpr ⟨lwt_0 h, hg⟩
theorem lwt_tables_1_1 {x : Cond} (h : x ∈ tables_1_1) : x ∈ lw_tbl := List.mem_append_right _ (show x ∈ tables_1 from List.mem_append_left _ h)
theorem lwm_tables_1_1 {x : Cond} (h : x ∈ tables_1_1) (hg : goodWord x = true) : x ∈ lw_g := List.mem_filter.mpr ⟨lwt_tables_1_1 h, hg⟩
theorem lwt_tables_1_2 {x : Cond} (h : x ∈ tables_1_2) : x ∈ lw_tbl := List.mem_append_right _ (show x ∈ tables_1 from List.mem_append_right _ (List.mem_append_left _ h))
theorem lwm_tables_1_2 {x : Cond} (h : x ∈ tables_1_2) (hg : goodWord x = true) : x ∈ lw_g := List.mem_filter.mpr ⟨lwt_tables_1_2 h, hg⟩
theorem lwt_tables_1_3 {x : Cond} (h : x ∈ tables_1_3) : x ∈ lw_tbl := List.mem_append_right _ (show x ∈ tables_1 from List.mem_append_right _ (List.mem_append_right _ (List.mem_append_left _ h)))
theorem lwm_tables_1_3 {x : Cond} (h : x ∈ tables_1_3) (hg : goodWord x = true) : x ∈ lw_g := List.mem_filter.mpr ⟨lwt_tables_1_3 h, hg⟩
theorem lwt_tables_1_4 {x : Cond} (h : x ∈ tables_1_4) : x ∈ lw_tbl := List.mem_append_right _ (show x ∈ tables_1 from List.mem_append_right _ (List.mem_append_right _ (List.mem_append_right _ (List.mem_append_left _ h))))
theorem lwm_tables_1_4 {x : Cond} (h : x ∈ tables_1_4) (hg : goodWord x = true) : x ∈ lw_g := List.mem_filter.mpr ⟨lwt_tables_1_4 h, hg⟩
theorem lwt_tables_1_5 {x : Cond} (h : x ∈ tables_1_5) : x ∈ lw_tbl := List.mem_append_right _ (show x ∈ tables_1 from List.mem_append_right _ (List.mem_append_right _ (List.mem_append_right _ (List.mem_append_right _ (List.mem_append_left _ h)))))
theorem lwm_tables_1_5 {x : Cond} (h : x ∈ tables_1_5) (hg : goodWord x = true) : x ∈ lw_g := List.mem_filter.mpr ⟨lwt_tables_1_5 h, hg⟩
theorem lwt_tables_1_6 {x : Cond} (h : x ∈ tables_1_6) : x ∈ lw_tbl := List.mem_append_right _ (show x ∈ tables_1 from List.mem_append_right _ (List.mem_append_right _ (List.mem_append_right _ (List.mem_append_right _ (List.mem_append_right _ (List.mem_append_left _ h))))))
theorem lwm_tables_1_6 {x : Cond} (h : x ∈ tables_1_6) (hg : goodWord x = true) : x ∈ lw_g := List.mem_filter.mpr ⟨lwt_tables_1_6 h, hg⟩
theorem lwt_tables_1_7 {x : Cond} (h : x ∈ tables_1_7) : x ∈ lw_tbl := List.mem_append_right _ (show x ∈ tables_1 from List.mem_append_right _ (List.mem_append_right _ (List.mem_append_right _ (List.mem_append_right _ (List.mem_append_right _ (List.mem_append_right _ (h)))))))
theorem lwm_tables_1_7 {x : Cond} (h : x ∈ tables_1_7) (hg : goodWord x = true) : x ∈ lw_g := List.mem_filter.mpr ⟨lwt_tables_1_7 h, hg⟩
theorem cl_X0 : pm_cl 0 RX0 TX0 6 tyX0 := ⟨rfl, fun x hx => by
  have hx : x ∈ ([.laysFinal RX0 "RunsBack$Beside" "most" "[[I", .laysFinal RX0 "RunsBack$Beside" "callOne" "[I", .laysFinal RX0 "RunsBack$Beside" "callOther" "[I", .lays RX0 "RunsBack$Beside" "pairs" "I", .laysFinal RX0 "RunsBack$Beside" "putOne" "[I", .laysFinal RX0 "RunsBack$Beside" "putOther" "[I"] : List Cond) := hx
  simp only [List.mem_cons, List.not_mem_nil, or_false] at hx
  rcases hx with rfl | rfl | rfl | rfl | rfl | rfl
  · exact (lwm_tables_1_1 (List.mem_of_getElem? (i := 83) rfl) rfl)
  · exact (lwm_tables_1_1 (List.mem_of_getElem? (i := 85) rfl) rfl)
  · exact (lwm_tables_1_1 (List.mem_of_getElem? (i := 87) rfl) rfl)
  · exact (lwm_tables_1_1 (List.mem_of_getElem? (i := 89) rfl) rfl)
  · exact (lwm_tables_1_1 (List.mem_of_getElem? (i := 91) rfl) rfl)
  · exact (lwm_tables_1_1 (List.mem_of_getElem? (i := 93) rfl) rfl), tyX0_ok, nmX0⟩
theorem cl_X1 : pm_cl 1 RX1 TX1 4 tyX1 := ⟨rfl, fun x hx => by
  have hx : x ∈ ([.laysFinal RX1 "RunsBack$Calls" "time" "[I", .laysFinal RX1 "RunsBack$Calls" "target" "[I", .laysFinal RX1 "RunsBack$Calls" "stacked" "[I", .lays RX1 "RunsBack$Calls" "count" "I"] : List Cond) := hx
  simp only [List.mem_cons, List.not_mem_nil, or_false] at hx
  rcases hx with rfl | rfl | rfl | rfl
  · exact (lwm_tables_1_1 (List.mem_of_getElem? (i := 190) rfl) rfl)
  · exact (lwm_tables_1_1 (List.mem_of_getElem? (i := 192) rfl) rfl)
  · exact (lwm_tables_1_1 (List.mem_of_getElem? (i := 194) rfl) rfl)
  · exact (lwm_tables_1_1 (List.mem_of_getElem? (i := 196) rfl) rfl), tyX1_ok, nmX1⟩
theorem cl_X2 : pm_cl 2 RX2 TX2 5 tyX2 := ⟨rfl, fun x hx => by
  have hx : x ∈ ([.laysFinal RX2 "RunsBack$Holding" "times" "[I", .lays RX2 "RunsBack$Holding" "count" "I", .lays RX2 "RunsBack$Holding" "most" "I", .lays RX2 "RunsBack$Holding" "unit" "I", .lays RX2 "RunsBack$Holding" "depth" "I"] : List Cond) := hx
  simp only [List.mem_cons, List.not_mem_nil, or_false] at hx
  rcases hx with rfl | rfl | rfl | rfl | rfl
  · exact (lwm_tables_1_1 (List.mem_of_getElem? (i := 214) rfl) rfl)
  · exact (lwm_tables_1_1 (List.mem_of_getElem? (i := 216) rfl) rfl)
  · exact (lwm_tables_1_1 (List.mem_of_getElem? (i := 218) rfl) rfl)
  · exact (lwm_tables_1_1 (List.mem_of_getElem? (i := 220) rfl) rfl)
  · exact (lwm_tables_1_1 (List.mem_of_getElem? (i := 222) rfl) rfl), tyX2_ok, nmX2⟩
theorem cl_X3 : pm_cl 3 RX3 TX3 6 tyX3 := ⟨rfl, fun x hx => by
  have hx : x ∈ ([.laysFinal RX3 "RunsBack$Log" "time" "[I", .laysFinal RX3 "RunsBack$Log" "origin" "[I", .laysFinal RX3 "RunsBack$Log" "number" "[I", .laysFinal RX3 "RunsBack$Log" "place" "[I", .laysFinal RX3 "RunsBack$Log" "sort" "[I", .lays RX3 "RunsBack$Log" "count" "I"] : List Cond) := hx
  simp only [List.mem_cons, List.not_mem_nil, or_false] at hx
  rcases hx with rfl | rfl | rfl | rfl | rfl | rfl
  · exact (lwm_tables_1_1 (List.mem_of_getElem? (i := 118) rfl) rfl)
  · exact (lwm_tables_1_1 (List.mem_of_getElem? (i := 120) rfl) rfl)
  · exact (lwm_tables_1_1 (List.mem_of_getElem? (i := 122) rfl) rfl)
  · exact (lwm_tables_1_1 (List.mem_of_getElem? (i := 124) rfl) rfl)
  · exact (lwm_tables_1_1 (List.mem_of_getElem? (i := 126) rfl) rfl)
  · exact (lwm_tables_1_1 (List.mem_of_getElem? (i := 128) rfl) rfl), tyX3_ok, nmX3⟩
theorem cl_X4 : pm_cl 4 RX4 TX4 4 tyX4 := ⟨rfl, fun x hx => by
  have hx : x ∈ ([.laysFinal RX4 "RunsBack$Outside" "ring" "[I", .lays RX4 "RunsBack$Outside" "first" "I", .lays RX4 "RunsBack$Outside" "waiting" "I", .lays RX4 "RunsBack$Outside" "x" "I"] : List Cond) := hx
  simp only [List.mem_cons, List.not_mem_nil, or_false] at hx
  rcases hx with rfl | rfl | rfl | rfl
  · exact (lwm_tables_1_1 (List.mem_of_getElem? (i := 59) rfl) rfl)
  · exact (lwm_tables_1_1 (List.mem_of_getElem? (i := 61) rfl) rfl)
  · exact (lwm_tables_1_1 (List.mem_of_getElem? (i := 63) rfl) rfl)
  · exact (lwm_tables_1_1 (List.mem_of_getElem? (i := 65) rfl) rfl), tyX4_ok, nmX4⟩
theorem cl_X5 : pm_cl 5 RX5 TX5 4 tyX5 := ⟨rfl, fun x hx => by
  have hx : x ∈ ([.laysFinal RX5 "RunsBack$Program" "kind" "[I", .laysFinal RX5 "RunsBack$Program" "a" "[I", .laysFinal RX5 "RunsBack$Program" "b" "[I", .laysFinal RX5 "RunsBack$Program" "c" "[I"] : List Cond) := hx
  simp only [List.mem_cons, List.not_mem_nil, or_false] at hx
  rcases hx with rfl | rfl | rfl | rfl
  · exact (lwm_tables_1_1 (List.mem_of_getElem? (i := 36) rfl) rfl)
  · exact (lwm_tables_1_1 (List.mem_of_getElem? (i := 38) rfl) rfl)
  · exact (lwm_tables_1_1 (List.mem_of_getElem? (i := 40) rfl) rfl)
  · exact (lwm_tables_1_1 (List.mem_of_getElem? (i := 42) rfl) rfl), tyX5_ok, nmX5⟩
theorem cl_X6 : pm_cl 6 RX6 TX6 12 tyX6 := ⟨rfl, fun x hx => by
  have hx : x ∈ ([.laysFinal RX6 "RunsBack$Puts" "time" "[I", .laysFinal RX6 "RunsBack$Puts" "place" "[I", .laysFinal RX6 "RunsBack$Puts" "sort" "[I", .laysFinal RX6 "RunsBack$Puts" "number" "[I", .laysFinal RX6 "RunsBack$Puts" "changes" "[I", .laysFinal RX6 "RunsBack$Puts" "ahead" "[I", .laysFinal RX6 "RunsBack$Puts" "began" "[I", .laysFinal RX6 "RunsBack$Puts" "entry" "[I", .laysFinal RX6 "RunsBack$Puts" "lookedOne" "[I", .laysFinal RX6 "RunsBack$Puts" "lookedTwo" "[I", .laysFinal RX6 "RunsBack$Puts" "latest" "[I", .lays RX6 "RunsBack$Puts" "count" "I"] : List Cond) := hx
  simp only [List.mem_cons, List.not_mem_nil, or_false] at hx
  rcases hx with rfl | rfl | rfl | rfl | rfl | rfl | rfl | rfl | rfl | rfl | rfl | rfl
  · exact (lwm_tables_1_1 (List.mem_of_getElem? (i := 152) rfl) rfl)
  · exact (lwm_tables_1_1 (List.mem_of_getElem? (i := 154) rfl) rfl)
  · exact (lwm_tables_1_1 (List.mem_of_getElem? (i := 156) rfl) rfl)
  · exact (lwm_tables_1_1 (List.mem_of_getElem? (i := 158) rfl) rfl)
  · exact (lwm_tables_1_1 (List.mem_of_getElem? (i := 160) rfl) rfl)
  · exact (lwm_tables_1_1 (List.mem_of_getElem? (i := 162) rfl) rfl)
  · exact (lwm_tables_1_1 (List.mem_of_getElem? (i := 164) rfl) rfl)
  · exact (lwm_tables_1_1 (List.mem_of_getElem? (i := 166) rfl) rfl)
  · exact (lwm_tables_1_1 (List.mem_of_getElem? (i := 168) rfl) rfl)
  · exact (lwm_tables_1_1 (List.mem_of_getElem? (i := 170) rfl) rfl)
  · exact (lwm_tables_1_1 (List.mem_of_getElem? (i := 172) rfl) rfl)
  · exact (lwm_tables_1_1 (List.mem_of_getElem? (i := 174) rfl) rfl), tyX6_ok, nmX6⟩
theorem cl_X7 : pm_cl 7 RX7 TX7 15 tyX7 := ⟨rfl, fun x hx => by
  have hx : x ∈ ([.laysFinal RX7 "RunsBack$Run" "program" "LRunsBack$Program;", .laysFinal RX7 "RunsBack$Run" "log" "LRunsBack$Log;", .laysFinal RX7 "RunsBack$Run" "puts" "LRunsBack$Puts;", .laysFinal RX7 "RunsBack$Run" "calls" "LRunsBack$Calls;", .laysFinal RX7 "RunsBack$Run" "holding" "LRunsBack$Holding;", .laysFinal RX7 "RunsBack$Run" "counter" "[I", .laysFinal RX7 "RunsBack$Run" "outs" "[I", .laysFinal RX7 "RunsBack$Run" "check" "[I", .laysFinal RX7 "RunsBack$Run" "top" "[I", .lays RX7 "RunsBack$Run" "time" "I", .lays RX7 "RunsBack$Run" "end" "I", .lays RX7 "RunsBack$Run" "changedPlace" "I", .lays RX7 "RunsBack$Run" "replayed" "I", .lays RX7 "RunsBack$Run" "backs" "I", .lays RX7 "RunsBack$Run" "statusKept" "I"] : List Cond) := hx
  simp only [List.mem_cons, List.not_mem_nil, or_false] at hx
  rcases hx with rfl | rfl | rfl | rfl | rfl | rfl | rfl | rfl | rfl | rfl | rfl | rfl | rfl | rfl | rfl
  · exact (lwm_tables_1_2 (List.mem_of_getElem? (i := 17) rfl) rfl)
  · exact (lwm_tables_1_2 (List.mem_of_getElem? (i := 19) rfl) rfl)
  · exact (lwm_tables_1_2 (List.mem_of_getElem? (i := 21) rfl) rfl)
  · exact (lwm_tables_1_2 (List.mem_of_getElem? (i := 23) rfl) rfl)
  · exact (lwm_tables_1_2 (List.mem_of_getElem? (i := 25) rfl) rfl)
  · exact (lwm_tables_1_2 (List.mem_of_getElem? (i := 27) rfl) rfl)
  · exact (lwm_tables_1_2 (List.mem_of_getElem? (i := 29) rfl) rfl)
  · exact (lwm_tables_1_2 (List.mem_of_getElem? (i := 31) rfl) rfl)
  · exact (lwm_tables_1_2 (List.mem_of_getElem? (i := 33) rfl) rfl)
  · exact (lwm_tables_1_2 (List.mem_of_getElem? (i := 35) rfl) rfl)
  · exact (lwm_tables_1_2 (List.mem_of_getElem? (i := 37) rfl) rfl)
  · exact (lwm_tables_1_2 (List.mem_of_getElem? (i := 39) rfl) rfl)
  · exact (lwm_tables_1_2 (List.mem_of_getElem? (i := 41) rfl) rfl)
  · exact (lwm_tables_1_2 (List.mem_of_getElem? (i := 43) rfl) rfl)
  · exact (lwm_tables_1_2 (List.mem_of_getElem? (i := 45) rfl) rfl), tyX7_ok, nmX7⟩
theorem cl_X9 : pm_cl 8 RX9 TX9 14 tyX9 := ⟨rfl, fun x hx => by
  have hx : x ∈ ([.laysFinal RX9 "RunsBack" "program" "LRunsBack$Program;", .laysFinal RX9 "RunsBack" "outside" "LRunsBack$Outside;", .laysFinal RX9 "RunsBack" "beside" "LRunsBack$Beside;", .laysFinal RX9 "RunsBack" "marks" "[Z", .laysFinal RX9 "RunsBack" "roomOfNow" "LRunsBack$Run;", .laysFinal RX9 "RunsBack" "roomsOfKept" "[LRunsBack$Run;", .lays RX9 "RunsBack" "keptCount" "I", .lays RX9 "RunsBack" "now" "LRunsBack$Run;", .lays RX9 "RunsBack" "askedNumber" "I", .lays RX9 "RunsBack" "unitToCome" "I", .lays RX9 "RunsBack" "depthToCome" "I", .lays RX9 "RunsBack" "watchedRegisters" "I", .lays RX9 "RunsBack" "watchedCells" "I", .lays RX9 "RunsBack" "latestReplayed" "I"] : List Cond) := hx
  simp only [List.mem_cons, List.not_mem_nil, or_false] at hx
  rcases hx with rfl | rfl | rfl | rfl | rfl | rfl | rfl | rfl | rfl | rfl | rfl | rfl | rfl | rfl
  · exact (lwm_tables_1_2 (List.mem_of_getElem? (i := 63) rfl) rfl)
  · exact (lwm_tables_1_2 (List.mem_of_getElem? (i := 65) rfl) rfl)
  · exact (lwm_tables_1_2 (List.mem_of_getElem? (i := 67) rfl) rfl)
  · exact (lwm_tables_1_2 (List.mem_of_getElem? (i := 69) rfl) rfl)
  · exact (lwm_tables_1_2 (List.mem_of_getElem? (i := 71) rfl) rfl)
  · exact (lwm_tables_1_2 (List.mem_of_getElem? (i := 73) rfl) rfl)
  · exact (lwm_tables_1_2 (List.mem_of_getElem? (i := 75) rfl) rfl)
  · exact (lwm_tables_1_2 (List.mem_of_getElem? (i := 77) rfl) rfl)
  · exact (lwm_tables_1_2 (List.mem_of_getElem? (i := 79) rfl) rfl)
  · exact (lwm_tables_1_2 (List.mem_of_getElem? (i := 81) rfl) rfl)
  · exact (lwm_tables_1_2 (List.mem_of_getElem? (i := 83) rfl) rfl)
  · exact (lwm_tables_1_2 (List.mem_of_getElem? (i := 85) rfl) rfl)
  · exact (lwm_tables_1_2 (List.mem_of_getElem? (i := 87) rfl) rfl)
  · exact (lwm_tables_1_2 (List.mem_of_getElem? (i := 89) rfl) rfl), tyX9_ok, nmX9⟩
theorem cl_X10 : pm_cl 9 RX10 TX10 55 tyX10 := ⟨rfl, fun x hx => by
  have hx : x ∈ ([.laysFinal RX10 "RunsBackModel" "kinds" "[I", .laysFinal RX10 "RunsBackModel" "as" "[I", .laysFinal RX10 "RunsBackModel" "bs" "[I", .laysFinal RX10 "RunsBackModel" "cs" "[I", .lays RX10 "RunsBackModel" "unit" "I", .lays RX10 "RunsBackModel" "depth" "I", .laysFinal RX10 "RunsBackModel" "isRun" "[Z", .laysFinal RX10 "RunsBackModel" "runKind" "[I", .laysFinal RX10 "RunsBackModel" "runA" "[I", .laysFinal RX10 "RunsBackModel" "runB" "[I", .laysFinal RX10 "RunsBackModel" "runC" "[I", .laysFinal RX10 "RunsBackModel" "logTime" "[I", .laysFinal RX10 "RunsBackModel" "logSort" "[I", .laysFinal RX10 "RunsBackModel" "logNumber" "[I", .laysFinal RX10 "RunsBackModel" "logPlace" "[I", .laysFinal RX10 "RunsBackModel" "logValue" "[I", .laysFinal RX10 "RunsBackModel" "logs" "[I", .laysFinal RX10 "RunsBackModel" "callTime" "[I", .laysFinal RX10 "RunsBackModel" "callTo" "[I", .laysFinal RX10 "RunsBackModel" "callDeep" "[I", .laysFinal RX10 "RunsBackModel" "calls" "[I", .laysFinal RX10 "RunsBackModel" "isHeld" "[Z", .laysFinal RX10 "RunsBackModel" "times" "[I", .laysFinal RX10 "RunsBackModel" "statuses" "[I", .laysFinal RX10 "RunsBackModel" "units" "[I", .laysFinal RX10 "RunsBackModel" "depths" "[I", .laysFinal RX10 "RunsBackModel" "replayed" "[I", .laysFinal RX10 "RunsBackModel" "mostHeld" "[I", .laysFinal RX10 "RunsBackModel" "backs" "[I", .lays RX10 "RunsBackModel" "kept" "I", .lays RX10 "RunsBackModel" "asked" "I", .laysFinal RX10 "RunsBackModel" "live" "[I", .laysFinal RX10 "RunsBackModel" "inputs" "[I", .lays RX10 "RunsBackModel" "waiting" "I", .lays RX10 "RunsBackModel" "x" "I", .lays RX10 "RunsBackModel" "latest" "I", .laysFinal RX10 "RunsBackModel" "isWatched" "[Z", .lays RX10 "RunsBackModel" "trap" "I", .lays RX10 "RunsBackModel" "took" "I", .lays RX10 "RunsBackModel" "put" "I", .laysFinal RX10 "RunsBackModel" "sim" "[I", .lays RX10 "RunsBackModel" "simRun" "I", .lays RX10 "RunsBackModel" "simLog" "I", .laysFinal RX10 "RunsBackModel" "changesWere" "[I", .laysFinal RX10 "RunsBackModel" "rest" "[I", .laysFinal RX10 "RunsBackModel" "looked" "[I", .laysFinal RX10 "RunsBackModel" "pairs" "[I", .lays RX10 "RunsBackModel" "oneRun" "I", .lays RX10 "RunsBackModel" "otherRun" "I", .lays RX10 "RunsBackModel" "pairOne" "I", .lays RX10 "RunsBackModel" "pairOther" "I", .laysFinal RX10 "RunsBackModel" "aside" "[I", .laysFinal RX10 "RunsBackModel" "before" "[I", .lays RX10 "RunsBackModel" "beforeRun" "I", .lays RX10 "RunsBackModel" "beforeLog" "I"] : List Cond) := hx
  simp only [List.mem_cons, List.not_mem_nil, or_false] at hx
  rcases hx with rfl | rfl | rfl | rfl | rfl | rfl | rfl | rfl | rfl | rfl | rfl | rfl | rfl | rfl | rfl | rfl | rfl | rfl | rfl | rfl | rfl | rfl | rfl | rfl | rfl | rfl | rfl | rfl | rfl | rfl | rfl | rfl | rfl | rfl | rfl | rfl | rfl | rfl | rfl | rfl | rfl | rfl | rfl | rfl | rfl | rfl | rfl | rfl | rfl | rfl | rfl | rfl | rfl | rfl | rfl
  · exact (lwm_tables_1_5 (List.mem_of_getElem? (i := 100) rfl) rfl)
  · exact (lwm_tables_1_5 (List.mem_of_getElem? (i := 102) rfl) rfl)
  · exact (lwm_tables_1_5 (List.mem_of_getElem? (i := 104) rfl) rfl)
  · exact (lwm_tables_1_5 (List.mem_of_getElem? (i := 106) rfl) rfl)
  · exact (lwm_tables_1_5 (List.mem_of_getElem? (i := 108) rfl) rfl)
  · exact (lwm_tables_1_5 (List.mem_of_getElem? (i := 110) rfl) rfl)
  · exact (lwm_tables_1_5 (List.mem_of_getElem? (i := 112) rfl) rfl)
  · exact (lwm_tables_1_5 (List.mem_of_getElem? (i := 114) rfl) rfl)
  · exact (lwm_tables_1_5 (List.mem_of_getElem? (i := 116) rfl) rfl)
  · exact (lwm_tables_1_5 (List.mem_of_getElem? (i := 118) rfl) rfl)
  · exact (lwm_tables_1_5 (List.mem_of_getElem? (i := 120) rfl) rfl)
  · exact (lwm_tables_1_5 (List.mem_of_getElem? (i := 122) rfl) rfl)
  · exact (lwm_tables_1_5 (List.mem_of_getElem? (i := 124) rfl) rfl)
  · exact (lwm_tables_1_5 (List.mem_of_getElem? (i := 126) rfl) rfl)
  · exact (lwm_tables_1_5 (List.mem_of_getElem? (i := 128) rfl) rfl)
  · exact (lwm_tables_1_5 (List.mem_of_getElem? (i := 130) rfl) rfl)
  · exact (lwm_tables_1_5 (List.mem_of_getElem? (i := 132) rfl) rfl)
  · exact (lwm_tables_1_5 (List.mem_of_getElem? (i := 134) rfl) rfl)
  · exact (lwm_tables_1_5 (List.mem_of_getElem? (i := 136) rfl) rfl)
  · exact (lwm_tables_1_5 (List.mem_of_getElem? (i := 138) rfl) rfl)
  · exact (lwm_tables_1_5 (List.mem_of_getElem? (i := 140) rfl) rfl)
  · exact (lwm_tables_1_5 (List.mem_of_getElem? (i := 142) rfl) rfl)
  · exact (lwm_tables_1_5 (List.mem_of_getElem? (i := 144) rfl) rfl)
  · exact (lwm_tables_1_5 (List.mem_of_getElem? (i := 146) rfl) rfl)
  · exact (lwm_tables_1_5 (List.mem_of_getElem? (i := 148) rfl) rfl)
  · exact (lwm_tables_1_5 (List.mem_of_getElem? (i := 150) rfl) rfl)
  · exact (lwm_tables_1_5 (List.mem_of_getElem? (i := 152) rfl) rfl)
  · exact (lwm_tables_1_5 (List.mem_of_getElem? (i := 154) rfl) rfl)
  · exact (lwm_tables_1_5 (List.mem_of_getElem? (i := 156) rfl) rfl)
  · exact (lwm_tables_1_5 (List.mem_of_getElem? (i := 158) rfl) rfl)
  · exact (lwm_tables_1_5 (List.mem_of_getElem? (i := 160) rfl) rfl)
  · exact (lwm_tables_1_5 (List.mem_of_getElem? (i := 162) rfl) rfl)
  · exact (lwm_tables_1_5 (List.mem_of_getElem? (i := 164) rfl) rfl)
  · exact (lwm_tables_1_5 (List.mem_of_getElem? (i := 166) rfl) rfl)
  · exact (lwm_tables_1_5 (List.mem_of_getElem? (i := 168) rfl) rfl)
  · exact (lwm_tables_1_5 (List.mem_of_getElem? (i := 170) rfl) rfl)
  · exact (lwm_tables_1_5 (List.mem_of_getElem? (i := 172) rfl) rfl)
  · exact (lwm_tables_1_5 (List.mem_of_getElem? (i := 174) rfl) rfl)
  · exact (lwm_tables_1_5 (List.mem_of_getElem? (i := 176) rfl) rfl)
  · exact (lwm_tables_1_5 (List.mem_of_getElem? (i := 178) rfl) rfl)
  · exact (lwm_tables_1_5 (List.mem_of_getElem? (i := 180) rfl) rfl)
  · exact (lwm_tables_1_5 (List.mem_of_getElem? (i := 182) rfl) rfl)
  · exact (lwm_tables_1_5 (List.mem_of_getElem? (i := 184) rfl) rfl)
  · exact (lwm_tables_1_5 (List.mem_of_getElem? (i := 186) rfl) rfl)
  · exact (lwm_tables_1_5 (List.mem_of_getElem? (i := 188) rfl) rfl)
  · exact (lwm_tables_1_5 (List.mem_of_getElem? (i := 190) rfl) rfl)
  · exact (lwm_tables_1_5 (List.mem_of_getElem? (i := 192) rfl) rfl)
  · exact (lwm_tables_1_5 (List.mem_of_getElem? (i := 194) rfl) rfl)
  · exact (lwm_tables_1_5 (List.mem_of_getElem? (i := 196) rfl) rfl)
  · exact (lwm_tables_1_5 (List.mem_of_getElem? (i := 198) rfl) rfl)
  · exact (lwm_tables_1_5 (List.mem_of_getElem? (i := 200) rfl) rfl)
  · exact (lwm_tables_1_5 (List.mem_of_getElem? (i := 202) rfl) rfl)
  · exact (lwm_tables_1_5 (List.mem_of_getElem? (i := 204) rfl) rfl)
  · exact (lwm_tables_1_5 (List.mem_of_getElem? (i := 206) rfl) rfl)
  · exact (lwm_tables_1_5 (List.mem_of_getElem? (i := 208) rfl) rfl), tyX10_ok, nmX10⟩
theorem fl_X9_12 : pm_fl RX9 12 8 0 (.object "RunsBack$Program") true := ⟨RX9, TX9, 14, tyX9, cl_X9, by decide, (lwm_tables_1_2 (List.mem_of_getElem? (i := 49) rfl) rfl), rfl, rfl, rfl⟩
theorem fl_X9_19 : pm_fl RX9 19 8 1 (.object "RunsBack$Outside") true := ⟨RX9, TX9, 14, tyX9, cl_X9, by decide, (lwm_tables_1_2 (List.mem_of_getElem? (i := 50) rfl) rfl), rfl, rfl, rfl⟩
theorem fl_X9_26 : pm_fl RX9 26 8 2 (.object "RunsBack$Beside") true := ⟨RX9, TX9, 14, tyX9, cl_X9, by decide, (lwm_tables_1_2 (List.mem_of_getElem? (i := 51) rfl) rfl), rfl, rfl, rfl⟩
theorem fl_X9_30 : pm_fl RX9 30 8 3 (.array .boolean) true := ⟨RX9, TX9, 14, tyX9, cl_X9, by decide, (lwm_tables_1_2 (List.mem_of_getElem? (i := 52) rfl) rfl), rfl, rfl, rfl⟩
theorem fl_X9_37 : pm_fl RX9 37 8 4 (.object "RunsBack$Run") true := ⟨RX9, TX9, 14, tyX9, cl_X9, by decide, (lwm_tables_1_2 (List.mem_of_getElem? (i := 53) rfl) rfl), rfl, rfl, rfl⟩
theorem fl_X9_41 : pm_fl RX9 41 8 5 (.array (.object "RunsBack$Run")) true := ⟨RX9, TX9, 14, tyX9, cl_X9, by decide, (lwm_tables_1_2 (List.mem_of_getElem? (i := 54) rfl) rfl), rfl, rfl, rfl⟩
theorem fl_X9_45 : pm_fl RX9 45 8 6 (.int) false := ⟨RX9, TX9, 14, tyX9, cl_X9, by decide, (lwm_tables_1_2 (List.mem_of_getElem? (i := 55) rfl) rfl), rfl, rfl, rfl⟩
theorem fl_X9_49 : pm_fl RX9 49 8 7 (.object "RunsBack$Run") false := ⟨RX9, TX9, 14, tyX9, cl_X9, by decide, (lwm_tables_1_2 (List.mem_of_getElem? (i := 56) rfl) rfl), rfl, rfl, rfl⟩
theorem fl_X9_52 : pm_fl RX9 52 8 8 (.int) false := ⟨RX9, TX9, 14, tyX9, cl_X9, by decide, (lwm_tables_1_2 (List.mem_of_getElem? (i := 57) rfl) rfl), rfl, rfl, rfl⟩
theorem fl_X9_55 : pm_fl RX9 55 8 9 (.int) false := ⟨RX9, TX9, 14, tyX9, cl_X9, by decide, (lwm_tables_1_2 (List.mem_of_getElem? (i := 58) rfl) rfl), rfl, rfl, rfl⟩
theorem fl_X9_58 : pm_fl RX9 58 8 10 (.int) false := ⟨RX9, TX9, 14, tyX9, cl_X9, by decide, (lwm_tables_1_2 (List.mem_of_getElem? (i := 59) rfl) rfl), rfl, rfl, rfl⟩
theorem fl_X9_61 : pm_fl RX9 61 8 11 (.int) false := ⟨RX9, TX9, 14, tyX9, cl_X9, by decide, (lwm_tables_1_2 (List.mem_of_getElem? (i := 60) rfl) rfl), rfl, rfl, rfl⟩
theorem fl_X9_64 : pm_fl RX9 64 8 12 (.int) false := ⟨RX9, TX9, 14, tyX9, cl_X9, by decide, (lwm_tables_1_2 (List.mem_of_getElem? (i := 61) rfl) rfl), rfl, rfl, rfl⟩
theorem fl_X9_67 : pm_fl RX9 67 8 13 (.int) false := ⟨RX9, TX9, 14, tyX9, cl_X9, by decide, (lwm_tables_1_2 (List.mem_of_getElem? (i := 62) rfl) rfl), rfl, rfl, rfl⟩
theorem fl_X9_99 : pm_fl RX9 99 4 2 (.int) false := ⟨RX4, TX4, 4, tyX4, cl_X4, by decide, (lwm_tables_1_1 (List.mem_of_getElem? (i := 55) rfl) rfl), rfl, rfl, rfl⟩
theorem fl_X9_106 : pm_fl RX9 106 4 3 (.int) false := ⟨RX4, TX4, 4, tyX4, cl_X4, by decide, (lwm_tables_1_1 (List.mem_of_getElem? (i := 58) rfl) rfl), rfl, rfl, rfl⟩
theorem fl_X9_109 : pm_fl RX9 109 7 1 (.object "RunsBack$Log") true := ⟨RX7, TX7, 15, tyX7, cl_X7, by decide, (lwm_tables_1_1 (List.mem_of_getElem? (i := 229) rfl) rfl), rfl, rfl, rfl⟩
theorem fl_X9_138 : pm_fl RX9 138 7 11 (.int) false := ⟨RX7, TX7, 15, tyX7, cl_X7, by decide, (lwm_tables_1_2 (List.mem_of_getElem? (i := 10) rfl) rfl), rfl, rfl, rfl⟩
theorem fl_X9_144 : pm_fl RX9 144 7 9 (.int) false := ⟨RX7, TX7, 15, tyX7, cl_X7, by decide, (lwm_tables_1_2 (List.mem_of_getElem? (i := 6) rfl) rfl), rfl, rfl, rfl⟩
theorem fl_X9_176 : pm_fl RX9 176 7 2 (.object "RunsBack$Puts") true := ⟨RX7, TX7, 15, tyX7, cl_X7, by decide, (lwm_tables_1_1 (List.mem_of_getElem? (i := 233) rfl) rfl), rfl, rfl, rfl⟩
theorem fl_X9_211 : pm_fl RX9 211 7 0 (.object "RunsBack$Program") true := ⟨RX7, TX7, 15, tyX7, cl_X7, by decide, (lwm_tables_1_1 (List.mem_of_getElem? (i := 227) rfl) rfl), rfl, rfl, rfl⟩
theorem fl_X9_226 : pm_fl RX9 226 7 4 (.object "RunsBack$Holding") true := ⟨RX7, TX7, 15, tyX7, cl_X7, by decide, (lwm_tables_1_1 (List.mem_of_getElem? (i := 238) rfl) rfl), rfl, rfl, rfl⟩
theorem fl_X9_273 : pm_fl RX9 273 7 3 (.object "RunsBack$Calls") true := ⟨RX7, TX7, 15, tyX7, cl_X7, by decide, (lwm_tables_1_1 (List.mem_of_getElem? (i := 236) rfl) rfl), rfl, rfl, rfl⟩
theorem fl_X9_277 : pm_fl RX9 277 1 3 (.int) false := ⟨RX1, TX1, 4, tyX1, cl_X1, by decide, (lwm_tables_1_1 (List.mem_of_getElem? (i := 189) rfl) rfl), rfl, rfl, rfl⟩
theorem fl_X9_284 : pm_fl RX9 284 3 5 (.int) false := ⟨RX3, TX3, 6, tyX3, cl_X3, by decide, (lwm_tables_1_1 (List.mem_of_getElem? (i := 117) rfl) rfl), rfl, rfl, rfl⟩
theorem fl_X9_286 : pm_fl RX9 286 2 1 (.int) false := ⟨RX2, TX2, 5, tyX2, cl_X2, by decide, (lwm_tables_1_1 (List.mem_of_getElem? (i := 207) rfl) rfl), rfl, rfl, rfl⟩
theorem fl_X9_307 : pm_fl RX9 307 0 3 (.int) false := ⟨RX0, TX0, 6, tyX0, cl_X0, by decide, (lwm_tables_1_1 (List.mem_of_getElem? (i := 80) rfl) rfl), rfl, rfl, rfl⟩
theorem fl_X9_329 : pm_fl RX9 329 7 14 (.int) false := ⟨RX7, TX7, 15, tyX7, cl_X7, by decide, (lwm_tables_1_2 (List.mem_of_getElem? (i := 16) rfl) rfl), rfl, rfl, rfl⟩
theorem fl_X9_332 : pm_fl RX9 332 7 12 (.int) false := ⟨RX7, TX7, 15, tyX7, cl_X7, by decide, (lwm_tables_1_2 (List.mem_of_getElem? (i := 12) rfl) rfl), rfl, rfl, rfl⟩
theorem fl_X9_335 : pm_fl RX9 335 2 2 (.int) false := ⟨RX2, TX2, 5, tyX2, cl_X2, by decide, (lwm_tables_1_1 (List.mem_of_getElem? (i := 209) rfl) rfl), rfl, rfl, rfl⟩
theorem fl_X9_338 : pm_fl RX9 338 2 3 (.int) false := ⟨RX2, TX2, 5, tyX2, cl_X2, by decide, (lwm_tables_1_1 (List.mem_of_getElem? (i := 211) rfl) rfl), rfl, rfl, rfl⟩
theorem fl_X9_341 : pm_fl RX9 341 2 4 (.int) false := ⟨RX2, TX2, 5, tyX2, cl_X2, by decide, (lwm_tables_1_1 (List.mem_of_getElem? (i := 213) rfl) rfl), rfl, rfl, rfl⟩
theorem fl_X9_344 : pm_fl RX9 344 7 13 (.int) false := ⟨RX7, TX7, 15, tyX7, cl_X7, by decide, (lwm_tables_1_2 (List.mem_of_getElem? (i := 14) rfl) rfl), rfl, rfl, rfl⟩
theorem sl_X9_365 : Cond.fieldLink RX9 365 "RunsBack" "ASKS_OF_A" "[I" ∈ lw_g := (lwm_tables_1_2 (List.mem_of_getElem? (i := 102) rfl) rfl)
theorem sl_X9_369 : Cond.fieldLink RX9 369 "RunsBack" "ASKS_OF_B" "[I" ∈ lw_g := (lwm_tables_1_2 (List.mem_of_getElem? (i := 104) rfl) rfl)
theorem sl_X9_372 : Cond.fieldLink RX9 372 "RunsBack" "ASKS_OF_C" "[I" ∈ lw_g := (lwm_tables_1_2 (List.mem_of_getElem? (i := 106) rfl) rfl)
theorem fl_X0_11 : pm_fl RX0 11 0 0 (.array (.array .int)) true := ⟨RX0, TX0, 6, tyX0, cl_X0, by decide, (lwm_tables_1_1 (List.mem_of_getElem? (i := 76) rfl) rfl), rfl, rfl, rfl⟩
theorem fl_X0_16 : pm_fl RX0 16 0 1 (.array .int) true := ⟨RX0, TX0, 6, tyX0, cl_X0, by decide, (lwm_tables_1_1 (List.mem_of_getElem? (i := 77) rfl) rfl), rfl, rfl, rfl⟩
theorem fl_X0_20 : pm_fl RX0 20 0 2 (.array .int) true := ⟨RX0, TX0, 6, tyX0, cl_X0, by decide, (lwm_tables_1_1 (List.mem_of_getElem? (i := 78) rfl) rfl), rfl, rfl, rfl⟩
theorem fl_X0_23 : pm_fl RX0 23 0 3 (.int) false := ⟨RX0, TX0, 6, tyX0, cl_X0, by decide, (lwm_tables_1_1 (List.mem_of_getElem? (i := 79) rfl) rfl), rfl, rfl, rfl⟩
theorem fl_X0_27 : pm_fl RX0 27 0 4 (.array .int) true := ⟨RX0, TX0, 6, tyX0, cl_X0, by decide, (lwm_tables_1_1 (List.mem_of_getElem? (i := 81) rfl) rfl), rfl, rfl, rfl⟩
theorem fl_X0_30 : pm_fl RX0 30 0 5 (.array .int) true := ⟨RX0, TX0, 6, tyX0, cl_X0, by decide, (lwm_tables_1_1 (List.mem_of_getElem? (i := 82) rfl) rfl), rfl, rfl, rfl⟩
theorem fl_X0_37 : pm_fl RX0 37 1 3 (.int) false := ⟨RX1, TX1, 4, tyX1, cl_X1, by decide, (lwm_tables_1_1 (List.mem_of_getElem? (i := 188) rfl) rfl), rfl, rfl, rfl⟩
theorem fl_X0_68 : pm_fl RX0 68 7 9 (.int) false := ⟨RX7, TX7, 15, tyX7, cl_X7, by decide, (lwm_tables_1_2 (List.mem_of_getElem? (i := 4) rfl) rfl), rfl, rfl, rfl⟩
theorem fl_X0_73 : pm_fl RX0 73 7 2 (.object "RunsBack$Puts") true := ⟨RX7, TX7, 15, tyX7, cl_X7, by decide, (lwm_tables_1_1 (List.mem_of_getElem? (i := 232) rfl) rfl), rfl, rfl, rfl⟩
theorem fl_X0_93 : pm_fl RX0 93 6 11 (.int) false := ⟨RX6, TX6, 12, tyX6, cl_X6, by decide, (lwm_tables_1_1 (List.mem_of_getElem? (i := 151) rfl) rfl), rfl, rfl, rfl⟩
theorem fl_X1_9 : pm_fl RX1 9 1 0 (.array .int) true := ⟨RX1, TX1, 4, tyX1, cl_X1, by decide, (lwm_tables_1_1 (List.mem_of_getElem? (i := 183) rfl) rfl), rfl, rfl, rfl⟩
theorem fl_X1_15 : pm_fl RX1 15 1 1 (.array .int) true := ⟨RX1, TX1, 4, tyX1, cl_X1, by decide, (lwm_tables_1_1 (List.mem_of_getElem? (i := 184) rfl) rfl), rfl, rfl, rfl⟩
theorem fl_X1_18 : pm_fl RX1 18 1 2 (.array .int) true := ⟨RX1, TX1, 4, tyX1, cl_X1, by decide, (lwm_tables_1_1 (List.mem_of_getElem? (i := 185) rfl) rfl), rfl, rfl, rfl⟩
theorem fl_X1_21 : pm_fl RX1 21 1 3 (.int) false := ⟨RX1, TX1, 4, tyX1, cl_X1, by decide, (lwm_tables_1_1 (List.mem_of_getElem? (i := 186) rfl) rfl), rfl, rfl, rfl⟩
theorem fl_X2_9 : pm_fl RX2 9 2 0 (.array .int) true := ⟨RX2, TX2, 5, tyX2, cl_X2, by decide, (lwm_tables_1_1 (List.mem_of_getElem? (i := 205) rfl) rfl), rfl, rfl, rfl⟩
theorem fl_X2_15 : pm_fl RX2 15 2 1 (.int) false := ⟨RX2, TX2, 5, tyX2, cl_X2, by decide, (lwm_tables_1_1 (List.mem_of_getElem? (i := 206) rfl) rfl), rfl, rfl, rfl⟩
theorem fl_X2_19 : pm_fl RX2 19 2 2 (.int) false := ⟨RX2, TX2, 5, tyX2, cl_X2, by decide, (lwm_tables_1_1 (List.mem_of_getElem? (i := 208) rfl) rfl), rfl, rfl, rfl⟩
theorem fl_X2_22 : pm_fl RX2 22 2 3 (.int) false := ⟨RX2, TX2, 5, tyX2, cl_X2, by decide, (lwm_tables_1_1 (List.mem_of_getElem? (i := 210) rfl) rfl), rfl, rfl, rfl⟩
theorem fl_X2_25 : pm_fl RX2 25 2 4 (.int) false := ⟨RX2, TX2, 5, tyX2, cl_X2, by decide, (lwm_tables_1_1 (List.mem_of_getElem? (i := 212) rfl) rfl), rfl, rfl, rfl⟩
theorem fl_X3_9 : pm_fl RX3 9 3 0 (.array .int) true := ⟨RX3, TX3, 6, tyX3, cl_X3, by decide, (lwm_tables_1_1 (List.mem_of_getElem? (i := 110) rfl) rfl), rfl, rfl, rfl⟩
theorem fl_X3_15 : pm_fl RX3 15 3 1 (.array .int) true := ⟨RX3, TX3, 6, tyX3, cl_X3, by decide, (lwm_tables_1_1 (List.mem_of_getElem? (i := 111) rfl) rfl), rfl, rfl, rfl⟩
theorem fl_X3_18 : pm_fl RX3 18 3 2 (.array .int) true := ⟨RX3, TX3, 6, tyX3, cl_X3, by decide, (lwm_tables_1_1 (List.mem_of_getElem? (i := 112) rfl) rfl), rfl, rfl, rfl⟩
theorem fl_X3_21 : pm_fl RX3 21 3 3 (.array .int) true := ⟨RX3, TX3, 6, tyX3, cl_X3, by decide, (lwm_tables_1_1 (List.mem_of_getElem? (i := 113) rfl) rfl), rfl, rfl, rfl⟩
theorem fl_X3_24 : pm_fl RX3 24 3 4 (.array .int) true := ⟨RX3, TX3, 6, tyX3, cl_X3, by decide, (lwm_tables_1_1 (List.mem_of_getElem? (i := 114) rfl) rfl), rfl, rfl, rfl⟩
theorem fl_X3_27 : pm_fl RX3 27 3 5 (.int) false := ⟨RX3, TX3, 6, tyX3, cl_X3, by decide, (lwm_tables_1_1 (List.mem_of_getElem? (i := 115) rfl) rfl), rfl, rfl, rfl⟩
theorem fl_X4_9 : pm_fl RX4 9 4 0 (.array .int) true := ⟨RX4, TX4, 4, tyX4, cl_X4, by decide, (lwm_tables_1_1 (List.mem_of_getElem? (i := 52) rfl) rfl), rfl, rfl, rfl⟩
theorem fl_X4_15 : pm_fl RX4 15 4 1 (.int) false := ⟨RX4, TX4, 4, tyX4, cl_X4, by decide, (lwm_tables_1_1 (List.mem_of_getElem? (i := 53) rfl) rfl), rfl, rfl, rfl⟩
theorem fl_X4_19 : pm_fl RX4 19 4 2 (.int) false := ⟨RX4, TX4, 4, tyX4, cl_X4, by decide, (lwm_tables_1_1 (List.mem_of_getElem? (i := 54) rfl) rfl), rfl, rfl, rfl⟩
theorem fl_X4_22 : pm_fl RX4 22 4 3 (.int) false := ⟨RX4, TX4, 4, tyX4, cl_X4, by decide, (lwm_tables_1_1 (List.mem_of_getElem? (i := 57) rfl) rfl), rfl, rfl, rfl⟩
theorem fl_X5_9 : pm_fl RX5 9 5 0 (.array .int) true := ⟨RX5, TX5, 4, tyX5, cl_X5, by decide, (lwm_tables_1_1 (List.mem_of_getElem? (i := 32) rfl) rfl), rfl, rfl, rfl⟩
theorem fl_X5_15 : pm_fl RX5 15 5 1 (.array .int) true := ⟨RX5, TX5, 4, tyX5, cl_X5, by decide, (lwm_tables_1_1 (List.mem_of_getElem? (i := 33) rfl) rfl), rfl, rfl, rfl⟩
theorem fl_X5_18 : pm_fl RX5 18 5 2 (.array .int) true := ⟨RX5, TX5, 4, tyX5, cl_X5, by decide, (lwm_tables_1_1 (List.mem_of_getElem? (i := 34) rfl) rfl), rfl, rfl, rfl⟩
theorem fl_X5_21 : pm_fl RX5 21 5 3 (.array .int) true := ⟨RX5, TX5, 4, tyX5, cl_X5, by decide, (lwm_tables_1_1 (List.mem_of_getElem? (i := 35) rfl) rfl), rfl, rfl, rfl⟩
theorem fl_X6_9 : pm_fl RX6 9 6 0 (.array .int) true := ⟨RX6, TX6, 12, tyX6, cl_X6, by decide, (lwm_tables_1_1 (List.mem_of_getElem? (i := 139) rfl) rfl), rfl, rfl, rfl⟩
theorem fl_X6_15 : pm_fl RX6 15 6 1 (.array .int) true := ⟨RX6, TX6, 12, tyX6, cl_X6, by decide, (lwm_tables_1_1 (List.mem_of_getElem? (i := 140) rfl) rfl), rfl, rfl, rfl⟩
theorem fl_X6_18 : pm_fl RX6 18 6 2 (.array .int) true := ⟨RX6, TX6, 12, tyX6, cl_X6, by decide, (lwm_tables_1_1 (List.mem_of_getElem? (i := 141) rfl) rfl), rfl, rfl, rfl⟩
theorem fl_X6_21 : pm_fl RX6 21 6 3 (.array .int) true := ⟨RX6, TX6, 12, tyX6, cl_X6, by decide, (lwm_tables_1_1 (List.mem_of_getElem? (i := 142) rfl) rfl), rfl, rfl, rfl⟩
theorem fl_X6_24 : pm_fl RX6 24 6 4 (.array .int) true := ⟨RX6, TX6, 12, tyX6, cl_X6, by decide, (lwm_tables_1_1 (List.mem_of_getElem? (i := 143) rfl) rfl), rfl, rfl, rfl⟩
theorem fl_X6_27 : pm_fl RX6 27 6 5 (.array .int) true := ⟨RX6, TX6, 12, tyX6, cl_X6, by decide, (lwm_tables_1_1 (List.mem_of_getElem? (i := 144) rfl) rfl), rfl, rfl, rfl⟩
theorem fl_X6_30 : pm_fl RX6 30 6 6 (.array .int) true := ⟨RX6, TX6, 12, tyX6, cl_X6, by decide, (lwm_tables_1_1 (List.mem_of_getElem? (i := 145) rfl) rfl), rfl, rfl, rfl⟩
theorem fl_X6_33 : pm_fl RX6 33 6 7 (.array .int) true := ⟨RX6, TX6, 12, tyX6, cl_X6, by decide, (lwm_tables_1_1 (List.mem_of_getElem? (i := 146) rfl) rfl), rfl, rfl, rfl⟩
theorem fl_X6_36 : pm_fl RX6 36 6 8 (.array .int) true := ⟨RX6, TX6, 12, tyX6, cl_X6, by decide, (lwm_tables_1_1 (List.mem_of_getElem? (i := 147) rfl) rfl), rfl, rfl, rfl⟩
theorem fl_X6_39 : pm_fl RX6 39 6 9 (.array .int) true := ⟨RX6, TX6, 12, tyX6, cl_X6, by decide, (lwm_tables_1_1 (List.mem_of_getElem? (i := 148) rfl) rfl), rfl, rfl, rfl⟩
theorem fl_X6_42 : pm_fl RX6 42 6 10 (.array .int) true := ⟨RX6, TX6, 12, tyX6, cl_X6, by decide, (lwm_tables_1_1 (List.mem_of_getElem? (i := 149) rfl) rfl), rfl, rfl, rfl⟩
theorem fl_X6_45 : pm_fl RX6 45 6 11 (.int) false := ⟨RX6, TX6, 12, tyX6, cl_X6, by decide, (lwm_tables_1_1 (List.mem_of_getElem? (i := 150) rfl) rfl), rfl, rfl, rfl⟩
theorem fl_X7_12 : pm_fl RX7 12 7 0 (.object "RunsBack$Program") true := ⟨RX7, TX7, 15, tyX7, cl_X7, by decide, (lwm_tables_1_1 (List.mem_of_getElem? (i := 225) rfl) rfl), rfl, rfl, rfl⟩
theorem fl_X7_21 : pm_fl RX7 21 7 1 (.object "RunsBack$Log") true := ⟨RX7, TX7, 15, tyX7, cl_X7, by decide, (lwm_tables_1_1 (List.mem_of_getElem? (i := 228) rfl) rfl), rfl, rfl, rfl⟩
theorem fl_X7_28 : pm_fl RX7 28 7 2 (.object "RunsBack$Puts") true := ⟨RX7, TX7, 15, tyX7, cl_X7, by decide, (lwm_tables_1_1 (List.mem_of_getElem? (i := 230) rfl) rfl), rfl, rfl, rfl⟩
theorem fl_X7_35 : pm_fl RX7 35 7 3 (.object "RunsBack$Calls") true := ⟨RX7, TX7, 15, tyX7, cl_X7, by decide, (lwm_tables_1_1 (List.mem_of_getElem? (i := 234) rfl) rfl), rfl, rfl, rfl⟩
theorem fl_X7_42 : pm_fl RX7 42 7 4 (.object "RunsBack$Holding") true := ⟨RX7, TX7, 15, tyX7, cl_X7, by decide, (lwm_tables_1_1 (List.mem_of_getElem? (i := 237) rfl) rfl), rfl, rfl, rfl⟩
theorem fl_X7_46 : pm_fl RX7 46 7 5 (.array .int) true := ⟨RX7, TX7, 15, tyX7, cl_X7, by decide, (lwm_tables_1_1 (List.mem_of_getElem? (i := 239) rfl) rfl), rfl, rfl, rfl⟩
theorem fl_X7_50 : pm_fl RX7 50 7 6 (.array .int) true := ⟨RX7, TX7, 15, tyX7, cl_X7, by decide, (lwm_tables_1_2 (List.mem_of_getElem? (i := 0) rfl) rfl), rfl, rfl, rfl⟩
theorem fl_X7_53 : pm_fl RX7 53 7 7 (.array .int) true := ⟨RX7, TX7, 15, tyX7, cl_X7, by decide, (lwm_tables_1_2 (List.mem_of_getElem? (i := 1) rfl) rfl), rfl, rfl, rfl⟩
theorem fl_X7_56 : pm_fl RX7 56 7 8 (.array .int) true := ⟨RX7, TX7, 15, tyX7, cl_X7, by decide, (lwm_tables_1_2 (List.mem_of_getElem? (i := 2) rfl) rfl), rfl, rfl, rfl⟩
theorem fl_X7_59 : pm_fl RX7 59 7 9 (.int) false := ⟨RX7, TX7, 15, tyX7, cl_X7, by decide, (lwm_tables_1_2 (List.mem_of_getElem? (i := 3) rfl) rfl), rfl, rfl, rfl⟩
theorem fl_X7_63 : pm_fl RX7 63 7 10 (.int) false := ⟨RX7, TX7, 15, tyX7, cl_X7, by decide, (lwm_tables_1_2 (List.mem_of_getElem? (i := 7) rfl) rfl), rfl, rfl, rfl⟩
theorem fl_X7_66 : pm_fl RX7 66 7 11 (.int) false := ⟨RX7, TX7, 15, tyX7, cl_X7, by decide, (lwm_tables_1_2 (List.mem_of_getElem? (i := 9) rfl) rfl), rfl, rfl, rfl⟩
theorem fl_X7_69 : pm_fl RX7 69 7 12 (.int) false := ⟨RX7, TX7, 15, tyX7, cl_X7, by decide, (lwm_tables_1_2 (List.mem_of_getElem? (i := 11) rfl) rfl), rfl, rfl, rfl⟩
theorem fl_X7_72 : pm_fl RX7 72 7 13 (.int) false := ⟨RX7, TX7, 15, tyX7, cl_X7, by decide, (lwm_tables_1_2 (List.mem_of_getElem? (i := 13) rfl) rfl), rfl, rfl, rfl⟩
theorem fl_X7_75 : pm_fl RX7 75 7 14 (.int) false := ⟨RX7, TX7, 15, tyX7, cl_X7, by decide, (lwm_tables_1_2 (List.mem_of_getElem? (i := 15) rfl) rfl), rfl, rfl, rfl⟩
theorem fl_X7_98 : pm_fl RX7 98 3 5 (.int) false := ⟨RX3, TX3, 6, tyX3, cl_X3, by decide, (lwm_tables_1_1 (List.mem_of_getElem? (i := 116) rfl) rfl), rfl, rfl, rfl⟩
theorem fl_X7_104 : pm_fl RX7 104 1 3 (.int) false := ⟨RX1, TX1, 4, tyX1, cl_X1, by decide, (lwm_tables_1_1 (List.mem_of_getElem? (i := 187) rfl) rfl), rfl, rfl, rfl⟩
theorem fl_X7_127 : pm_fl RX7 127 4 2 (.int) false := ⟨RX4, TX4, 4, tyX4, cl_X4, by decide, (lwm_tables_1_1 (List.mem_of_getElem? (i := 56) rfl) rfl), rfl, rfl, rfl⟩
theorem fl_X8_9 : pm_fl RX8 9 7 0 (.object "RunsBack$Program") true := ⟨RX7, TX7, 15, tyX7, cl_X7, by decide, (lwm_tables_1_1 (List.mem_of_getElem? (i := 226) rfl) rfl), rfl, rfl, rfl⟩
theorem fl_X8_30 : pm_fl RX8 30 7 10 (.int) false := ⟨RX7, TX7, 15, tyX7, cl_X7, by decide, (lwm_tables_1_2 (List.mem_of_getElem? (i := 8) rfl) rfl), rfl, rfl, rfl⟩
theorem fl_X8_38 : pm_fl RX8 38 7 2 (.object "RunsBack$Puts") true := ⟨RX7, TX7, 15, tyX7, cl_X7, by decide, (lwm_tables_1_1 (List.mem_of_getElem? (i := 231) rfl) rfl), rfl, rfl, rfl⟩
theorem fl_X8_117 : pm_fl RX8 117 7 9 (.int) false := ⟨RX7, TX7, 15, tyX7, cl_X7, by decide, (lwm_tables_1_2 (List.mem_of_getElem? (i := 5) rfl) rfl), rfl, rfl, rfl⟩
theorem fl_X8_123 : pm_fl RX8 123 7 3 (.object "RunsBack$Calls") true := ⟨RX7, TX7, 15, tyX7, cl_X7, by decide, (lwm_tables_1_1 (List.mem_of_getElem? (i := 235) rfl) rfl), rfl, rfl, rfl⟩
theorem fl_X10_7 : pm_fl RX10 7 9 0 (.array .int) true := ⟨RX10, TX10, 55, tyX10, cl_X10, by decide, (lwm_tables_1_5 (List.mem_of_getElem? (i := 45) rfl) rfl), rfl, rfl, rfl⟩
theorem fl_X10_13 : pm_fl RX10 13 9 1 (.array .int) true := ⟨RX10, TX10, 55, tyX10, cl_X10, by decide, (lwm_tables_1_5 (List.mem_of_getElem? (i := 46) rfl) rfl), rfl, rfl, rfl⟩
theorem fl_X10_16 : pm_fl RX10 16 9 2 (.array .int) true := ⟨RX10, TX10, 55, tyX10, cl_X10, by decide, (lwm_tables_1_5 (List.mem_of_getElem? (i := 47) rfl) rfl), rfl, rfl, rfl⟩
theorem fl_X10_19 : pm_fl RX10 19 9 3 (.array .int) true := ⟨RX10, TX10, 55, tyX10, cl_X10, by decide, (lwm_tables_1_5 (List.mem_of_getElem? (i := 48) rfl) rfl), rfl, rfl, rfl⟩
theorem fl_X10_22 : pm_fl RX10 22 9 4 (.int) false := ⟨RX10, TX10, 55, tyX10, cl_X10, by decide, (lwm_tables_1_5 (List.mem_of_getElem? (i := 49) rfl) rfl), rfl, rfl, rfl⟩
theorem fl_X10_26 : pm_fl RX10 26 9 5 (.int) false := ⟨RX10, TX10, 55, tyX10, cl_X10, by decide, (lwm_tables_1_5 (List.mem_of_getElem? (i := 50) rfl) rfl), rfl, rfl, rfl⟩
theorem fl_X10_29 : pm_fl RX10 29 9 6 (.array .boolean) true := ⟨RX10, TX10, 55, tyX10, cl_X10, by decide, (lwm_tables_1_5 (List.mem_of_getElem? (i := 51) rfl) rfl), rfl, rfl, rfl⟩
theorem fl_X10_33 : pm_fl RX10 33 9 7 (.array .int) true := ⟨RX10, TX10, 55, tyX10, cl_X10, by decide, (lwm_tables_1_5 (List.mem_of_getElem? (i := 52) rfl) rfl), rfl, rfl, rfl⟩
theorem fl_X10_36 : pm_fl RX10 36 9 8 (.array .int) true := ⟨RX10, TX10, 55, tyX10, cl_X10, by decide, (lwm_tables_1_5 (List.mem_of_getElem? (i := 53) rfl) rfl), rfl, rfl, rfl⟩
theorem fl_X10_39 : pm_fl RX10 39 9 9 (.array .int) true := ⟨RX10, TX10, 55, tyX10, cl_X10, by decide, (lwm_tables_1_5 (List.mem_of_getElem? (i := 54) rfl) rfl), rfl, rfl, rfl⟩
theorem fl_X10_42 : pm_fl RX10 42 9 10 (.array .int) true := ⟨RX10, TX10, 55, tyX10, cl_X10, by decide, (lwm_tables_1_5 (List.mem_of_getElem? (i := 55) rfl) rfl), rfl, rfl, rfl⟩
theorem fl_X10_45 : pm_fl RX10 45 9 11 (.array .int) true := ⟨RX10, TX10, 55, tyX10, cl_X10, by decide, (lwm_tables_1_5 (List.mem_of_getElem? (i := 56) rfl) rfl), rfl, rfl, rfl⟩
theorem fl_X10_48 : pm_fl RX10 48 9 12 (.array .int) true := ⟨RX10, TX10, 55, tyX10, cl_X10, by decide, (lwm_tables_1_5 (List.mem_of_getElem? (i := 57) rfl) rfl), rfl, rfl, rfl⟩
theorem fl_X10_51 : pm_fl RX10 51 9 13 (.array .int) true := ⟨RX10, TX10, 55, tyX10, cl_X10, by decide, (lwm_tables_1_5 (List.mem_of_getElem? (i := 58) rfl) rfl), rfl, rfl, rfl⟩
theorem fl_X10_54 : pm_fl RX10 54 9 14 (.array .int) true := ⟨RX10, TX10, 55, tyX10, cl_X10, by decide, (lwm_tables_1_5 (List.mem_of_getElem? (i := 59) rfl) rfl), rfl, rfl, rfl⟩
theorem fl_X10_57 : pm_fl RX10 57 9 15 (.array .int) true := ⟨RX10, TX10, 55, tyX10, cl_X10, by decide, (lwm_tables_1_5 (List.mem_of_getElem? (i := 60) rfl) rfl), rfl, rfl, rfl⟩
theorem fl_X10_60 : pm_fl RX10 60 9 16 (.array .int) true := ⟨RX10, TX10, 55, tyX10, cl_X10, by decide, (lwm_tables_1_5 (List.mem_of_getElem? (i := 61) rfl) rfl), rfl, rfl, rfl⟩
theorem fl_X10_63 : pm_fl RX10 63 9 17 (.array .int) true := ⟨RX10, TX10, 55, tyX10, cl_X10, by decide, (lwm_tables_1_5 (List.mem_of_getElem? (i := 62) rfl) rfl), rfl, rfl, rfl⟩
theorem fl_X10_66 : pm_fl RX10 66 9 18 (.array .int) true := ⟨RX10, TX10, 55, tyX10, cl_X10, by decide, (lwm_tables_1_5 (List.mem_of_getElem? (i := 63) rfl) rfl), rfl, rfl, rfl⟩
theorem fl_X10_69 : pm_fl RX10 69 9 19 (.array .int) true := ⟨RX10, TX10, 55, tyX10, cl_X10, by decide, (lwm_tables_1_5 (List.mem_of_getElem? (i := 64) rfl) rfl), rfl, rfl, rfl⟩
theorem fl_X10_72 : pm_fl RX10 72 9 20 (.array .int) true := ⟨RX10, TX10, 55, tyX10, cl_X10, by decide, (lwm_tables_1_5 (List.mem_of_getElem? (i := 65) rfl) rfl), rfl, rfl, rfl⟩
theorem fl_X10_75 : pm_fl RX10 75 9 21 (.array .boolean) true := ⟨RX10, TX10, 55, tyX10, cl_X10, by decide, (lwm_tables_1_5 (List.mem_of_getElem? (i := 66) rfl) rfl), rfl, rfl, rfl⟩
theorem fl_X10_78 : pm_fl RX10 78 9 22 (.array .int) true := ⟨RX10, TX10, 55, tyX10, cl_X10, by decide, (lwm_tables_1_5 (List.mem_of_getElem? (i := 67) rfl) rfl), rfl, rfl, rfl⟩
theorem fl_X10_81 : pm_fl RX10 81 9 23 (.array .int) true := ⟨RX10, TX10, 55, tyX10, cl_X10, by decide, (lwm_tables_1_5 (List.mem_of_getElem? (i := 68) rfl) rfl), rfl, rfl, rfl⟩
theorem fl_X10_84 : pm_fl RX10 84 9 24 (.array .int) true := ⟨RX10, TX10, 55, tyX10, cl_X10, by decide, (lwm_tables_1_5 (List.mem_of_getElem? (i := 69) rfl) rfl), rfl, rfl, rfl⟩
theorem fl_X10_87 : pm_fl RX10 87 9 25 (.array .int) true := ⟨RX10, TX10, 55, tyX10, cl_X10, by decide, (lwm_tables_1_5 (List.mem_of_getElem? (i := 70) rfl) rfl), rfl, rfl, rfl⟩
theorem fl_X10_90 : pm_fl RX10 90 9 26 (.array .int) true := ⟨RX10, TX10, 55, tyX10, cl_X10, by decide, (lwm_tables_1_5 (List.mem_of_getElem? (i := 71) rfl) rfl), rfl, rfl, rfl⟩
theorem fl_X10_93 : pm_fl RX10 93 9 27 (.array .int) true := ⟨RX10, TX10, 55, tyX10, cl_X10, by decide, (lwm_tables_1_5 (List.mem_of_getElem? (i := 72) rfl) rfl), rfl, rfl, rfl⟩
theorem fl_X10_96 : pm_fl RX10 96 9 28 (.array .int) true := ⟨RX10, TX10, 55, tyX10, cl_X10, by decide, (lwm_tables_1_5 (List.mem_of_getElem? (i := 73) rfl) rfl), rfl, rfl, rfl⟩
theorem fl_X10_99 : pm_fl RX10 99 9 30 (.int) false := ⟨RX10, TX10, 55, tyX10, cl_X10, by decide, (lwm_tables_1_5 (List.mem_of_getElem? (i := 75) rfl) rfl), rfl, rfl, rfl⟩
theorem fl_X10_102 : pm_fl RX10 102 9 31 (.array .int) true := ⟨RX10, TX10, 55, tyX10, cl_X10, by decide, (lwm_tables_1_5 (List.mem_of_getElem? (i := 76) rfl) rfl), rfl, rfl, rfl⟩
theorem fl_X10_105 : pm_fl RX10 105 9 32 (.array .int) true := ⟨RX10, TX10, 55, tyX10, cl_X10, by decide, (lwm_tables_1_5 (List.mem_of_getElem? (i := 77) rfl) rfl), rfl, rfl, rfl⟩
theorem fl_X10_108 : pm_fl RX10 108 9 34 (.int) false := ⟨RX10, TX10, 55, tyX10, cl_X10, by decide, (lwm_tables_1_5 (List.mem_of_getElem? (i := 79) rfl) rfl), rfl, rfl, rfl⟩
theorem fl_X10_111 : pm_fl RX10 111 9 36 (.array .boolean) true := ⟨RX10, TX10, 55, tyX10, cl_X10, by decide, (lwm_tables_1_5 (List.mem_of_getElem? (i := 81) rfl) rfl), rfl, rfl, rfl⟩
theorem fl_X10_114 : pm_fl RX10 114 9 40 (.array .int) true := ⟨RX10, TX10, 55, tyX10, cl_X10, by decide, (lwm_tables_1_5 (List.mem_of_getElem? (i := 85) rfl) rfl), rfl, rfl, rfl⟩
theorem fl_X10_117 : pm_fl RX10 117 9 41 (.int) false := ⟨RX10, TX10, 55, tyX10, cl_X10, by decide, (lwm_tables_1_5 (List.mem_of_getElem? (i := 86) rfl) rfl), rfl, rfl, rfl⟩
theorem fl_X10_120 : pm_fl RX10 120 9 43 (.array .int) true := ⟨RX10, TX10, 55, tyX10, cl_X10, by decide, (lwm_tables_1_5 (List.mem_of_getElem? (i := 88) rfl) rfl), rfl, rfl, rfl⟩
theorem fl_X10_123 : pm_fl RX10 123 9 44 (.array .int) true := ⟨RX10, TX10, 55, tyX10, cl_X10, by decide, (lwm_tables_1_5 (List.mem_of_getElem? (i := 89) rfl) rfl), rfl, rfl, rfl⟩
theorem fl_X10_126 : pm_fl RX10 126 9 45 (.array .int) true := ⟨RX10, TX10, 55, tyX10, cl_X10, by decide, (lwm_tables_1_5 (List.mem_of_getElem? (i := 90) rfl) rfl), rfl, rfl, rfl⟩
theorem fl_X10_129 : pm_fl RX10 129 9 46 (.array .int) true := ⟨RX10, TX10, 55, tyX10, cl_X10, by decide, (lwm_tables_1_5 (List.mem_of_getElem? (i := 91) rfl) rfl), rfl, rfl, rfl⟩
theorem fl_X10_132 : pm_fl RX10 132 9 51 (.array .int) true := ⟨RX10, TX10, 55, tyX10, cl_X10, by decide, (lwm_tables_1_5 (List.mem_of_getElem? (i := 96) rfl) rfl), rfl, rfl, rfl⟩
theorem fl_X10_135 : pm_fl RX10 135 9 52 (.array .int) true := ⟨RX10, TX10, 55, tyX10, cl_X10, by decide, (lwm_tables_1_5 (List.mem_of_getElem? (i := 97) rfl) rfl), rfl, rfl, rfl⟩
theorem fl_X10_166 : pm_fl RX10 166 9 33 (.int) false := ⟨RX10, TX10, 55, tyX10, cl_X10, by decide, (lwm_tables_1_5 (List.mem_of_getElem? (i := 78) rfl) rfl), rfl, rfl, rfl⟩
theorem fl_X10_183 : pm_fl RX10 183 9 37 (.int) false := ⟨RX10, TX10, 55, tyX10, cl_X10, by decide, (lwm_tables_1_5 (List.mem_of_getElem? (i := 82) rfl) rfl), rfl, rfl, rfl⟩
theorem fl_X10_186 : pm_fl RX10 186 9 39 (.int) false := ⟨RX10, TX10, 55, tyX10, cl_X10, by decide, (lwm_tables_1_5 (List.mem_of_getElem? (i := 84) rfl) rfl), rfl, rfl, rfl⟩
theorem fl_X10_192 : pm_fl RX10 192 9 38 (.int) false := ⟨RX10, TX10, 55, tyX10, cl_X10, by decide, (lwm_tables_1_5 (List.mem_of_getElem? (i := 83) rfl) rfl), rfl, rfl, rfl⟩
theorem fl_X10_264 : pm_fl RX10 264 9 42 (.int) false := ⟨RX10, TX10, 55, tyX10, cl_X10, by decide, (lwm_tables_1_5 (List.mem_of_getElem? (i := 87) rfl) rfl), rfl, rfl, rfl⟩
theorem fl_X10_276 : pm_fl RX10 276 9 35 (.int) false := ⟨RX10, TX10, 55, tyX10, cl_X10, by decide, (lwm_tables_1_5 (List.mem_of_getElem? (i := 80) rfl) rfl), rfl, rfl, rfl⟩
theorem fl_X10_295 : pm_fl RX10 295 9 29 (.int) false := ⟨RX10, TX10, 55, tyX10, cl_X10, by decide, (lwm_tables_1_5 (List.mem_of_getElem? (i := 74) rfl) rfl), rfl, rfl, rfl⟩
theorem fl_X10_343 : pm_fl RX10 343 9 47 (.int) false := ⟨RX10, TX10, 55, tyX10, cl_X10, by decide, (lwm_tables_1_5 (List.mem_of_getElem? (i := 92) rfl) rfl), rfl, rfl, rfl⟩
theorem fl_X10_346 : pm_fl RX10 346 9 48 (.int) false := ⟨RX10, TX10, 55, tyX10, cl_X10, by decide, (lwm_tables_1_5 (List.mem_of_getElem? (i := 93) rfl) rfl), rfl, rfl, rfl⟩
theorem fl_X10_358 : pm_fl RX10 358 9 49 (.int) false := ⟨RX10, TX10, 55, tyX10, cl_X10, by decide, (lwm_tables_1_5 (List.mem_of_getElem? (i := 94) rfl) rfl), rfl, rfl, rfl⟩
theorem fl_X10_361 : pm_fl RX10 361 9 50 (.int) false := ⟨RX10, TX10, 55, tyX10, cl_X10, by decide, (lwm_tables_1_5 (List.mem_of_getElem? (i := 95) rfl) rfl), rfl, rfl, rfl⟩
theorem fl_X10_367 : pm_fl RX10 367 9 53 (.int) false := ⟨RX10, TX10, 55, tyX10, cl_X10, by decide, (lwm_tables_1_5 (List.mem_of_getElem? (i := 98) rfl) rfl), rfl, rfl, rfl⟩
theorem fl_X10_370 : pm_fl RX10 370 9 54 (.int) false := ⟨RX10, TX10, 55, tyX10, cl_X10, by decide, (lwm_tables_1_5 (List.mem_of_getElem? (i := 99) rfl) rfl), rfl, rfl, rfl⟩
abbrev M_X0_init : pm_M := (yX0_init, cX0_init, 1, none)
theorem in_X0_init : pm_in M_X0_init := ⟨(lwm_tables_1_1 (List.mem_of_getElem? (i := 72) rfl) rfl), by decide +kernel, by decide, by decide +kernel, by decide +kernel, (lwm_tables_1_1 (List.mem_of_getElem? (i := 5) rfl) rfl)⟩
abbrev M_X0_has : pm_M := (yX0_has, cX0_has, 2, (some .boolean))
theorem in_X0_has : pm_in M_X0_has := ⟨(lwm_tables_1_4 (List.mem_of_getElem? (i := 228) rfl) rfl), by decide +kernel, by decide, by decide +kernel, by decide +kernel, (lwm_tables_1_1 (List.mem_of_getElem? (i := 5) rfl) rfl)⟩
abbrev M_X0_callOfOne : pm_M := (yX0_callOfOne, cX0_callOfOne, 2, (some .int))
theorem in_X0_callOfOne : pm_in M_X0_callOfOne := ⟨(lwm_tables_1_4 (List.mem_of_getElem? (i := 232) rfl) rfl), by decide +kernel, by decide, by decide +kernel, by decide +kernel, (lwm_tables_1_1 (List.mem_of_getElem? (i := 5) rfl) rfl)⟩
abbrev M_X0_callOfOther : pm_M := (yX0_callOfOther, cX0_callOfOther, 2, (some .int))
theorem in_X0_callOfOther : pm_in M_X0_callOfOther := ⟨(lwm_tables_1_4 (List.mem_of_getElem? (i := 237) rfl) rfl), by decide +kernel, by decide, by decide +kernel, by decide +kernel, (lwm_tables_1_1 (List.mem_of_getElem? (i := 5) rfl) rfl)⟩
abbrev M_X0_lay : pm_M := (yX0_lay, cX0_lay, 5, none)
theorem in_X0_lay : pm_in M_X0_lay := ⟨(lwm_tables_1_4 (List.mem_of_getElem? (i := 205) rfl) rfl), by decide +kernel, by decide, by decide +kernel, by decide +kernel, (lwm_tables_1_1 (List.mem_of_getElem? (i := 5) rfl) rfl)⟩
abbrev M_X0_countPairs : pm_M := (yX0_countPairs, cX0_countPairs, 9, none)
theorem in_X0_countPairs : pm_in M_X0_countPairs := ⟨(lwm_tables_1_4 (List.mem_of_getElem? (i := 210) rfl) rfl), by decide +kernel, by decide, by decide +kernel, by decide +kernel, (lwm_tables_1_1 (List.mem_of_getElem? (i := 5) rfl) rfl)⟩
abbrev M_X0_choosePairs : pm_M := (yX0_choosePairs, cX0_choosePairs, 8, none)
theorem in_X0_choosePairs : pm_in M_X0_choosePairs := ⟨(lwm_tables_1_4 (List.mem_of_getElem? (i := 220) rfl) rfl), by decide +kernel, by decide, by decide +kernel, by decide +kernel, (lwm_tables_1_1 (List.mem_of_getElem? (i := 5) rfl) rfl)⟩
abbrev M_X0_firstUnlike : pm_M := (yX0_firstUnlike, cX0_firstUnlike, 9, (some .int))
theorem in_X0_firstUnlike : pm_in M_X0_firstUnlike := ⟨(lwm_tables_1_5 (List.mem_of_getElem? (i := 9) rfl) rfl), by decide +kernel, by decide, by decide +kernel, by decide +kernel, (lwm_tables_1_1 (List.mem_of_getElem? (i := 5) rfl) rfl)⟩
abbrev M_X0_goThrough : pm_M := (yX0_goThrough, cX0_goThrough, 6, (some .int))
theorem in_X0_goThrough : pm_in M_X0_goThrough := ⟨(lwm_tables_1_5 (List.mem_of_getElem? (i := 12) rfl) rfl), by decide +kernel, by decide, by decide +kernel, by decide +kernel, (lwm_tables_1_1 (List.mem_of_getElem? (i := 5) rfl) rfl)⟩
abbrev M_X0_areUnlike : pm_M := (yX0_areUnlike, cX0_areUnlike, 9, (some .boolean))
theorem in_X0_areUnlike : pm_in M_X0_areUnlike := ⟨(lwm_tables_1_5 (List.mem_of_getElem? (i := 26) rfl) rfl), by decide +kernel, by decide, by decide +kernel, by decide +kernel, (lwm_tables_1_1 (List.mem_of_getElem? (i := 5) rfl) rfl)⟩
abbrev M_X1_init : pm_M := (yX1_init, cX1_init, 1, none)
theorem in_X1_init : pm_in M_X1_init := ⟨(lwm_tables_1_1 (List.mem_of_getElem? (i := 181) rfl) rfl), by decide +kernel, by decide, by decide +kernel, by decide +kernel, (lwm_tables_1_1 (List.mem_of_getElem? (i := 9) rfl) rfl)⟩
abbrev M_X1_takeFrom : pm_M := (yX1_takeFrom, cX1_takeFrom, 2, none)
theorem in_X1_takeFrom : pm_in M_X1_takeFrom := ⟨(lwm_tables_1_4 (List.mem_of_getElem? (i := 9) rfl) rfl), by decide +kernel, by decide, by decide +kernel, by decide +kernel, (lwm_tables_1_1 (List.mem_of_getElem? (i := 9) rfl) rfl)⟩
abbrev M_X1_has : pm_M := (yX1_has, cX1_has, 2, (some .boolean))
theorem in_X1_has : pm_in M_X1_has := ⟨(lwm_tables_1_3 (List.mem_of_getElem? (i := 212) rfl) rfl), by decide +kernel, by decide, by decide +kernel, by decide +kernel, (lwm_tables_1_1 (List.mem_of_getElem? (i := 9) rfl) rfl)⟩
abbrev M_X1_add : pm_M := (yX1_add, cX1_add, 4, none)
theorem in_X1_add : pm_in M_X1_add := ⟨(lwm_tables_1_3 (List.mem_of_getElem? (i := 103) rfl) rfl), by decide +kernel, by decide, by decide +kernel, by decide +kernel, (lwm_tables_1_1 (List.mem_of_getElem? (i := 9) rfl) rfl)⟩
abbrev M_X1_read : pm_M := (yX1_read, cX1_read, 3, (some .int))
theorem in_X1_read : pm_in M_X1_read := ⟨(lwm_tables_1_4 (List.mem_of_getElem? (i := 161) rfl) rfl), by decide +kernel, by decide, by decide +kernel, by decide +kernel, (lwm_tables_1_1 (List.mem_of_getElem? (i := 9) rfl) rfl)⟩
abbrev M_X1_dropFrom : pm_M := (yX1_dropFrom, cX1_dropFrom, 3, none)
theorem in_X1_dropFrom : pm_in M_X1_dropFrom := ⟨(lwm_tables_1_3 (List.mem_of_getElem? (i := 208) rfl) rfl), by decide +kernel, by decide, by decide +kernel, by decide +kernel, (lwm_tables_1_1 (List.mem_of_getElem? (i := 9) rfl) rfl)⟩
abbrev M_X1_isLike : pm_M := (yX1_isLike, cX1_isLike, 4, (some .boolean))
theorem in_X1_isLike : pm_in M_X1_isLike := ⟨(lwm_tables_1_4 (List.mem_of_getElem? (i := 216) rfl) rfl), by decide +kernel, by decide, by decide +kernel, by decide +kernel, (lwm_tables_1_1 (List.mem_of_getElem? (i := 9) rfl) rfl)⟩
abbrev M_X2_init : pm_M := (yX2_init, cX2_init, 1, none)
theorem in_X2_init : pm_in M_X2_init := ⟨(lwm_tables_1_1 (List.mem_of_getElem? (i := 203) rfl) rfl), by decide +kernel, by decide, by decide +kernel, by decide +kernel, (lwm_tables_1_1 (List.mem_of_getElem? (i := 10) rfl) rfl)⟩
abbrev M_X2_takeFrom : pm_M := (yX2_takeFrom, cX2_takeFrom, 2, none)
theorem in_X2_takeFrom : pm_in M_X2_takeFrom := ⟨(lwm_tables_1_4 (List.mem_of_getElem? (i := 14) rfl) rfl), by decide +kernel, by decide, by decide +kernel, by decide +kernel, (lwm_tables_1_1 (List.mem_of_getElem? (i := 10) rfl) rfl)⟩
abbrev M_X2_start : pm_M := (yX2_start, cX2_start, 3, none)
theorem in_X2_start : pm_in M_X2_start := ⟨(lwm_tables_1_2 (List.mem_of_getElem? (i := 146) rfl) rfl), by decide +kernel, by decide, by decide +kernel, by decide +kernel, (lwm_tables_1_1 (List.mem_of_getElem? (i := 10) rfl) rfl)⟩
abbrev M_X2_goesWith : pm_M := (yX2_goesWith, cX2_goesWith, 2, (some .int))
theorem in_X2_goesWith : pm_in M_X2_goesWith := ⟨(lwm_tables_1_3 (List.mem_of_getElem? (i := 145) rfl) rfl), by decide +kernel, by decide, by decide +kernel, by decide +kernel, (lwm_tables_1_1 (List.mem_of_getElem? (i := 10) rfl) rfl)⟩
abbrev M_X2_isHeldStill : pm_M := (yX2_isHeldStill, cX2_isHeldStill, 3, (some .boolean))
theorem in_X2_isHeldStill : pm_in M_X2_isHeldStill := ⟨(lwm_tables_1_4 (List.mem_of_getElem? (i := 189) rfl) rfl), by decide +kernel, by decide, by decide +kernel, by decide +kernel, (lwm_tables_1_1 (List.mem_of_getElem? (i := 10) rfl) rfl)⟩
abbrev M_X2_has : pm_M := (yX2_has, cX2_has, 2, (some .boolean))
theorem in_X2_has : pm_in M_X2_has := ⟨(lwm_tables_1_3 (List.mem_of_getElem? (i := 142) rfl) rfl), by decide +kernel, by decide, by decide +kernel, by decide +kernel, (lwm_tables_1_1 (List.mem_of_getElem? (i := 10) rfl) rfl)⟩
abbrev M_X2_timeOf : pm_M := (yX2_timeOf, cX2_timeOf, 2, (some .int))
theorem in_X2_timeOf : pm_in M_X2_timeOf := ⟨(lwm_tables_1_3 (List.mem_of_getElem? (i := 172) rfl) rfl), by decide +kernel, by decide, by decide +kernel, by decide +kernel, (lwm_tables_1_1 (List.mem_of_getElem? (i := 10) rfl) rfl)⟩
abbrev M_X2_goesAt : pm_M := (yX2_goesAt, cX2_goesAt, 2, (some .int))
theorem in_X2_goesAt : pm_in M_X2_goesAt := ⟨(lwm_tables_1_3 (List.mem_of_getElem? (i := 138) rfl) rfl), by decide +kernel, by decide, by decide +kernel, by decide +kernel, (lwm_tables_1_1 (List.mem_of_getElem? (i := 10) rfl) rfl)⟩
abbrev M_X2_timeComes : pm_M := (yX2_timeComes, cX2_timeComes, 2, none)
theorem in_X2_timeComes : pm_in M_X2_timeComes := ⟨(lwm_tables_1_3 (List.mem_of_getElem? (i := 130) rfl) rfl), by decide +kernel, by decide, by decide +kernel, by decide +kernel, (lwm_tables_1_1 (List.mem_of_getElem? (i := 10) rfl) rfl)⟩
abbrev M_X2_dropWhatGoesBy : pm_M := (yX2_dropWhatGoesBy, cX2_dropWhatGoesBy, 5, none)
theorem in_X2_dropWhatGoesBy : pm_in M_X2_dropWhatGoesBy := ⟨(lwm_tables_1_3 (List.mem_of_getElem? (i := 134) rfl) rfl), by decide +kernel, by decide, by decide +kernel, by decide +kernel, (lwm_tables_1_1 (List.mem_of_getElem? (i := 10) rfl) rfl)⟩
abbrev M_X2_dropAbove : pm_M := (yX2_dropAbove, cX2_dropAbove, 3, none)
theorem in_X2_dropAbove : pm_in M_X2_dropAbove := ⟨(lwm_tables_1_3 (List.mem_of_getElem? (i := 216) rfl) rfl), by decide +kernel, by decide, by decide +kernel, by decide +kernel, (lwm_tables_1_1 (List.mem_of_getElem? (i := 10) rfl) rfl)⟩
abbrev M_X2_latestBy : pm_M := (yX2_latestBy, cX2_latestBy, 4, (some .int))
theorem in_X2_latestBy : pm_in M_X2_latestBy := ⟨(lwm_tables_1_3 (List.mem_of_getElem? (i := 168) rfl) rfl), by decide +kernel, by decide, by decide +kernel, by decide +kernel, (lwm_tables_1_1 (List.mem_of_getElem? (i := 10) rfl) rfl)⟩
abbrev M_X2_stepsToFind : pm_M := (yX2_stepsToFind, cX2_stepsToFind, 6, (some .int))
theorem in_X2_stepsToFind : pm_in M_X2_stepsToFind := ⟨(lwm_tables_1_4 (List.mem_of_getElem? (i := 89) rfl) rfl), by decide +kernel, by decide, by decide +kernel, by decide +kernel, (lwm_tables_1_1 (List.mem_of_getElem? (i := 10) rfl) rfl)⟩
abbrev M_X3_init : pm_M := (yX3_init, cX3_init, 1, none)
theorem in_X3_init : pm_in M_X3_init := ⟨(lwm_tables_1_1 (List.mem_of_getElem? (i := 108) rfl) rfl), by decide +kernel, by decide, by decide +kernel, by decide +kernel, (lwm_tables_1_1 (List.mem_of_getElem? (i := 7) rfl) rfl)⟩
abbrev M_X3_takeFrom : pm_M := (yX3_takeFrom, cX3_takeFrom, 2, none)
theorem in_X3_takeFrom : pm_in M_X3_takeFrom := ⟨(lwm_tables_1_3 (List.mem_of_getElem? (i := 233) rfl) rfl), by decide +kernel, by decide, by decide +kernel, by decide +kernel, (lwm_tables_1_1 (List.mem_of_getElem? (i := 7) rfl) rfl)⟩
abbrev M_X3_has : pm_M := (yX3_has, cX3_has, 2, (some .boolean))
theorem in_X3_has : pm_in M_X3_has := ⟨(lwm_tables_1_3 (List.mem_of_getElem? (i := 192) rfl) rfl), by decide +kernel, by decide, by decide +kernel, by decide +kernel, (lwm_tables_1_1 (List.mem_of_getElem? (i := 7) rfl) rfl)⟩
abbrev M_X3_isFull : pm_M := (yX3_isFull, cX3_isFull, 1, (some .boolean))
theorem in_X3_isFull : pm_in M_X3_isFull := ⟨(lwm_tables_1_2 (List.mem_of_getElem? (i := 174) rfl) rfl), by decide +kernel, by decide, by decide +kernel, by decide +kernel, (lwm_tables_1_1 (List.mem_of_getElem? (i := 7) rfl) rfl)⟩
abbrev M_X3_addWhole : pm_M := (yX3_addWhole, cX3_addWhole, 4, none)
theorem in_X3_addWhole : pm_in M_X3_addWhole := ⟨(lwm_tables_1_3 (List.mem_of_getElem? (i := 67) rfl) rfl), by decide +kernel, by decide, by decide +kernel, by decide +kernel, (lwm_tables_1_1 (List.mem_of_getElem? (i := 7) rfl) rfl)⟩
abbrev M_X3_addPoke : pm_M := (yX3_addPoke, cX3_addPoke, 5, none)
theorem in_X3_addPoke : pm_in M_X3_addPoke := ⟨(lwm_tables_1_2 (List.mem_of_getElem? (i := 188) rfl) rfl), by decide +kernel, by decide, by decide +kernel, by decide +kernel, (lwm_tables_1_1 (List.mem_of_getElem? (i := 7) rfl) rfl)⟩
abbrev M_X3_add : pm_M := (yX3_add, cX3_add, 6, none)
theorem in_X3_add : pm_in M_X3_add := ⟨(lwm_tables_1_2 (List.mem_of_getElem? (i := 192) rfl) rfl), by decide +kernel, by decide, by decide +kernel, by decide +kernel, (lwm_tables_1_1 (List.mem_of_getElem? (i := 7) rfl) rfl)⟩
abbrev M_X3_read : pm_M := (yX3_read, cX3_read, 3, (some .int))
theorem in_X3_read : pm_in M_X3_read := ⟨(lwm_tables_1_4 (List.mem_of_getElem? (i := 169) rfl) rfl), by decide +kernel, by decide, by decide +kernel, by decide +kernel, (lwm_tables_1_1 (List.mem_of_getElem? (i := 7) rfl) rfl)⟩
abbrev M_X3_dropBehind : pm_M := (yX3_dropBehind, cX3_dropBehind, 4, none)
theorem in_X3_dropBehind : pm_in M_X3_dropBehind := ⟨(lwm_tables_1_3 (List.mem_of_getElem? (i := 184) rfl) rfl), by decide +kernel, by decide, by decide +kernel, by decide +kernel, (lwm_tables_1_1 (List.mem_of_getElem? (i := 7) rfl) rfl)⟩
abbrev M_X3_isBehind : pm_M := (yX3_isBehind, cX3_isBehind, 3, (some .boolean))
theorem in_X3_isBehind : pm_in M_X3_isBehind := ⟨(lwm_tables_1_3 (List.mem_of_getElem? (i := 188) rfl) rfl), by decide +kernel, by decide, by decide +kernel, by decide +kernel, (lwm_tables_1_1 (List.mem_of_getElem? (i := 7) rfl) rfl)⟩
abbrev M_X4_init : pm_M := (yX4_init, cX4_init, 1, none)
theorem in_X4_init : pm_in M_X4_init := ⟨(lwm_tables_1_1 (List.mem_of_getElem? (i := 50) rfl) rfl), by decide +kernel, by decide, by decide +kernel, by decide +kernel, (lwm_tables_1_1 (List.mem_of_getElem? (i := 4) rfl) rfl)⟩
abbrev M_X4_clearInputs : pm_M := (yX4_clearInputs, cX4_clearInputs, 1, none)
theorem in_X4_clearInputs : pm_in M_X4_clearInputs := ⟨(lwm_tables_1_2 (List.mem_of_getElem? (i := 150) rfl) rfl), by decide +kernel, by decide, by decide +kernel, by decide +kernel, (lwm_tables_1_1 (List.mem_of_getElem? (i := 4) rfl) rfl)⟩
abbrev M_X4_addLast : pm_M := (yX4_addLast, cX4_addLast, 2, none)
theorem in_X4_addLast : pm_in M_X4_addLast := ⟨(lwm_tables_1_2 (List.mem_of_getElem? (i := 162) rfl) rfl), by decide +kernel, by decide, by decide +kernel, by decide +kernel, (lwm_tables_1_1 (List.mem_of_getElem? (i := 4) rfl) rfl)⟩
abbrev M_X4_addFirst : pm_M := (yX4_addFirst, cX4_addFirst, 2, none)
theorem in_X4_addFirst : pm_in M_X4_addFirst := ⟨(lwm_tables_1_3 (List.mem_of_getElem? (i := 196) rfl) rfl), by decide +kernel, by decide, by decide +kernel, by decide +kernel, (lwm_tables_1_1 (List.mem_of_getElem? (i := 4) rfl) rfl)⟩
abbrev M_X4_takeFirst : pm_M := (yX4_takeFirst, cX4_takeFirst, 2, (some .int))
theorem in_X4_takeFirst : pm_in M_X4_takeFirst := ⟨(lwm_tables_1_3 (List.mem_of_getElem? (i := 59) rfl) rfl), by decide +kernel, by decide, by decide +kernel, by decide +kernel, (lwm_tables_1_1 (List.mem_of_getElem? (i := 4) rfl) rfl)⟩
abbrev M_X4_draw : pm_M := (yX4_draw, cX4_draw, 2, (some .int))
theorem in_X4_draw : pm_in M_X4_draw := ⟨(lwm_tables_1_3 (List.mem_of_getElem? (i := 72) rfl) rfl), by decide +kernel, by decide, by decide +kernel, by decide +kernel, (lwm_tables_1_1 (List.mem_of_getElem? (i := 4) rfl) rfl)⟩
abbrev M_X5_init : pm_M := (yX5_init, cX5_init, 1, none)
theorem in_X5_init : pm_in M_X5_init := ⟨(lwm_tables_1_1 (List.mem_of_getElem? (i := 27) rfl) rfl), by decide +kernel, by decide, by decide +kernel, by decide +kernel, (lwm_tables_1_1 (List.mem_of_getElem? (i := 2) rfl) rfl)⟩
abbrev M_X5_write : pm_M := (yX5_write, cX5_write, 6, none)
theorem in_X5_write : pm_in M_X5_write := ⟨(lwm_tables_1_2 (List.mem_of_getElem? (i := 114) rfl) rfl), by decide +kernel, by decide, by decide +kernel, by decide +kernel, (lwm_tables_1_1 (List.mem_of_getElem? (i := 2) rfl) rfl)⟩
abbrev M_X5_takeFrom : pm_M := (yX5_takeFrom, cX5_takeFrom, 3, none)
theorem in_X5_takeFrom : pm_in M_X5_takeFrom := ⟨(lwm_tables_1_2 (List.mem_of_getElem? (i := 137) rfl) rfl), by decide +kernel, by decide, by decide +kernel, by decide +kernel, (lwm_tables_1_1 (List.mem_of_getElem? (i := 2) rfl) rfl)⟩
abbrev M_X5_size : pm_M := (yX5_size, cX5_size, 3, (some .int))
theorem in_X5_size : pm_in M_X5_size := ⟨(lwm_tables_1_2 (List.mem_of_getElem? (i := 154) rfl) rfl), by decide +kernel, by decide, by decide +kernel, by decide +kernel, (lwm_tables_1_1 (List.mem_of_getElem? (i := 2) rfl) rfl)⟩
abbrev M_X5_kindAt : pm_M := (yX5_kindAt, cX5_kindAt, 2, (some .int))
theorem in_X5_kindAt : pm_in M_X5_kindAt := ⟨(lwm_tables_1_3 (List.mem_of_getElem? (i := 5) rfl) rfl), by decide +kernel, by decide, by decide +kernel, by decide +kernel, (lwm_tables_1_1 (List.mem_of_getElem? (i := 2) rfl) rfl)⟩
abbrev M_X5_firstAt : pm_M := (yX5_firstAt, cX5_firstAt, 2, (some .int))
theorem in_X5_firstAt : pm_in M_X5_firstAt := ⟨(lwm_tables_1_3 (List.mem_of_getElem? (i := 21) rfl) rfl), by decide +kernel, by decide, by decide +kernel, by decide +kernel, (lwm_tables_1_1 (List.mem_of_getElem? (i := 2) rfl) rfl)⟩
abbrev M_X5_secondAt : pm_M := (yX5_secondAt, cX5_secondAt, 2, (some .int))
theorem in_X5_secondAt : pm_in M_X5_secondAt := ⟨(lwm_tables_1_3 (List.mem_of_getElem? (i := 25) rfl) rfl), by decide +kernel, by decide, by decide +kernel, by decide +kernel, (lwm_tables_1_1 (List.mem_of_getElem? (i := 2) rfl) rfl)⟩
abbrev M_X5_thirdAt : pm_M := (yX5_thirdAt, cX5_thirdAt, 2, (some .int))
theorem in_X5_thirdAt : pm_in M_X5_thirdAt := ⟨(lwm_tables_1_3 (List.mem_of_getElem? (i := 29) rfl) rfl), by decide +kernel, by decide, by decide +kernel, by decide +kernel, (lwm_tables_1_1 (List.mem_of_getElem? (i := 2) rfl) rfl)⟩
abbrev M_X6_init : pm_M := (yX6_init, cX6_init, 1, none)
theorem in_X6_init : pm_in M_X6_init := ⟨(lwm_tables_1_1 (List.mem_of_getElem? (i := 136) rfl) rfl), by decide +kernel, by decide, by decide +kernel, by decide +kernel, (lwm_tables_1_1 (List.mem_of_getElem? (i := 8) rfl) rfl)⟩
abbrev M_X6_takeFrom : pm_M := (yX6_takeFrom, cX6_takeFrom, 2, none)
theorem in_X6_takeFrom : pm_in M_X6_takeFrom := ⟨(lwm_tables_1_4 (List.mem_of_getElem? (i := 4) rfl) rfl), by decide +kernel, by decide, by decide +kernel, by decide +kernel, (lwm_tables_1_1 (List.mem_of_getElem? (i := 8) rfl) rfl)⟩
abbrev M_X6_clear : pm_M := (yX6_clear, cX6_clear, 1, none)
theorem in_X6_clear : pm_in M_X6_clear := ⟨(lwm_tables_1_2 (List.mem_of_getElem? (i := 142) rfl) rfl), by decide +kernel, by decide, by decide +kernel, by decide +kernel, (lwm_tables_1_1 (List.mem_of_getElem? (i := 8) rfl) rfl)⟩
abbrev M_X6_has : pm_M := (yX6_has, cX6_has, 2, (some .boolean))
theorem in_X6_has : pm_in M_X6_has := ⟨(lwm_tables_1_2 (List.mem_of_getElem? (i := 217) rfl) rfl), by decide +kernel, by decide, by decide +kernel, by decide +kernel, (lwm_tables_1_1 (List.mem_of_getElem? (i := 8) rfl) rfl)⟩
abbrev M_X6_timeOf : pm_M := (yX6_timeOf, cX6_timeOf, 2, (some .int))
theorem in_X6_timeOf : pm_in M_X6_timeOf := ⟨(lwm_tables_1_3 (List.mem_of_getElem? (i := 204) rfl) rfl), by decide +kernel, by decide, by decide +kernel, by decide +kernel, (lwm_tables_1_1 (List.mem_of_getElem? (i := 8) rfl) rfl)⟩
abbrev M_X6_placeOf : pm_M := (yX6_placeOf, cX6_placeOf, 2, (some .int))
theorem in_X6_placeOf : pm_in M_X6_placeOf := ⟨(lwm_tables_1_5 (List.mem_of_getElem? (i := 17) rfl) rfl), by decide +kernel, by decide, by decide +kernel, by decide +kernel, (lwm_tables_1_1 (List.mem_of_getElem? (i := 8) rfl) rfl)⟩
abbrev M_X6_sortOf : pm_M := (yX6_sortOf, cX6_sortOf, 2, (some .int))
theorem in_X6_sortOf : pm_in M_X6_sortOf := ⟨(lwm_tables_1_2 (List.mem_of_getElem? (i := 205) rfl) rfl), by decide +kernel, by decide, by decide +kernel, by decide +kernel, (lwm_tables_1_1 (List.mem_of_getElem? (i := 8) rfl) rfl)⟩
abbrev M_X6_numberOf : pm_M := (yX6_numberOf, cX6_numberOf, 2, (some .int))
theorem in_X6_numberOf : pm_in M_X6_numberOf := ⟨(lwm_tables_1_2 (List.mem_of_getElem? (i := 209) rfl) rfl), by decide +kernel, by decide, by decide +kernel, by decide +kernel, (lwm_tables_1_1 (List.mem_of_getElem? (i := 8) rfl) rfl)⟩
abbrev M_X6_changesOf : pm_M := (yX6_changesOf, cX6_changesOf, 2, (some .int))
theorem in_X6_changesOf : pm_in M_X6_changesOf := ⟨(lwm_tables_1_2 (List.mem_of_getElem? (i := 213) rfl) rfl), by decide +kernel, by decide, by decide +kernel, by decide +kernel, (lwm_tables_1_1 (List.mem_of_getElem? (i := 8) rfl) rfl)⟩
abbrev M_X6_aheadOf : pm_M := (yX6_aheadOf, cX6_aheadOf, 2, (some .int))
theorem in_X6_aheadOf : pm_in M_X6_aheadOf := ⟨(lwm_tables_1_4 (List.mem_of_getElem? (i := 43) rfl) rfl), by decide +kernel, by decide, by decide +kernel, by decide +kernel, (lwm_tables_1_1 (List.mem_of_getElem? (i := 8) rfl) rfl)⟩
abbrev M_X6_latestOf : pm_M := (yX6_latestOf, cX6_latestOf, 2, (some .int))
theorem in_X6_latestOf : pm_in M_X6_latestOf := ⟨(lwm_tables_1_3 (List.mem_of_getElem? (i := 37) rfl) rfl), by decide +kernel, by decide, by decide +kernel, by decide +kernel, (lwm_tables_1_1 (List.mem_of_getElem? (i := 8) rfl) rfl)⟩
abbrev M_X6_hasValue : pm_M := (yX6_hasValue, cX6_hasValue, 4, (some .boolean))
theorem in_X6_hasValue : pm_in M_X6_hasValue := ⟨(lwm_tables_1_2 (List.mem_of_getElem? (i := 201) rfl) rfl), by decide +kernel, by decide, by decide +kernel, by decide +kernel, (lwm_tables_1_1 (List.mem_of_getElem? (i := 8) rfl) rfl)⟩
abbrev M_X6_add : pm_M := (yX6_add, cX6_add, 7, (some .boolean))
theorem in_X6_add : pm_in M_X6_add := ⟨(lwm_tables_1_2 (List.mem_of_getElem? (i := 196) rfl) rfl), by decide +kernel, by decide, by decide +kernel, by decide +kernel, (lwm_tables_1_1 (List.mem_of_getElem? (i := 8) rfl) rfl)⟩
abbrev M_X6_restLatestOn : pm_M := (yX6_restLatestOn, cX6_restLatestOn, 6, none)
theorem in_X6_restLatestOn : pm_in M_X6_restLatestOn := ⟨(lwm_tables_1_2 (List.mem_of_getElem? (i := 221) rfl) rfl), by decide +kernel, by decide, by decide +kernel, by decide +kernel, (lwm_tables_1_1 (List.mem_of_getElem? (i := 8) rfl) rfl)⟩
abbrev M_X6_dropBehind : pm_M := (yX6_dropBehind, cX6_dropBehind, 3, none)
theorem in_X6_dropBehind : pm_in M_X6_dropBehind := ⟨(lwm_tables_1_3 (List.mem_of_getElem? (i := 200) rfl) rfl), by decide +kernel, by decide, by decide +kernel, by decide +kernel, (lwm_tables_1_1 (List.mem_of_getElem? (i := 8) rfl) rfl)⟩
abbrev M_X6_putBy : pm_M := (yX6_putBy, cX6_putBy, 5, (some .int))
theorem in_X6_putBy : pm_in M_X6_putBy := ⟨(lwm_tables_1_4 (List.mem_of_getElem? (i := 38) rfl) rfl), by decide +kernel, by decide, by decide +kernel, by decide +kernel, (lwm_tables_1_1 (List.mem_of_getElem? (i := 8) rfl) rfl)⟩
abbrev M_X6_changedSince : pm_M := (yX6_changedSince, cX6_changedSince, 4, (some .int))
theorem in_X6_changedSince : pm_in M_X6_changedSince := ⟨(lwm_tables_1_4 (List.mem_of_getElem? (i := 77) rfl) rfl), by decide +kernel, by decide, by decide +kernel, by decide +kernel, (lwm_tables_1_1 (List.mem_of_getElem? (i := 8) rfl) rfl)⟩
abbrev M_X6_hadBy : pm_M := (yX6_hadBy, cX6_hadBy, 8, (some .int))
theorem in_X6_hadBy : pm_in M_X6_hadBy := ⟨(lwm_tables_1_4 (List.mem_of_getElem? (i := 85) rfl) rfl), by decide +kernel, by decide, by decide +kernel, by decide +kernel, (lwm_tables_1_1 (List.mem_of_getElem? (i := 8) rfl) rfl)⟩
abbrev M_X6_changeTimes : pm_M := (yX6_changeTimes, cX6_changeTimes, 6, (some .int))
theorem in_X6_changeTimes : pm_in M_X6_changeTimes := ⟨(lwm_tables_1_4 (List.mem_of_getElem? (i := 149) rfl) rfl), by decide +kernel, by decide, by decide +kernel, by decide +kernel, (lwm_tables_1_1 (List.mem_of_getElem? (i := 8) rfl) rfl)⟩
abbrev M_X6_markAllBelow : pm_M := (yX6_markAllBelow, cX6_markAllBelow, 4, none)
theorem in_X6_markAllBelow : pm_in M_X6_markAllBelow := ⟨(lwm_tables_1_4 (List.mem_of_getElem? (i := 115) rfl) rfl), by decide +kernel, by decide, by decide +kernel, by decide +kernel, (lwm_tables_1_1 (List.mem_of_getElem? (i := 8) rfl) rfl)⟩
abbrev M_X6_unmarkAll : pm_M := (yX6_unmarkAll, cX6_unmarkAll, 3, none)
theorem in_X6_unmarkAll : pm_in M_X6_unmarkAll := ⟨(lwm_tables_1_4 (List.mem_of_getElem? (i := 119) rfl) rfl), by decide +kernel, by decide, by decide +kernel, by decide +kernel, (lwm_tables_1_1 (List.mem_of_getElem? (i := 8) rfl) rfl)⟩
abbrev M_X6_mark : pm_M := (yX6_mark, cX6_mark, 3, none)
theorem in_X6_mark : pm_in M_X6_mark := ⟨(lwm_tables_1_4 (List.mem_of_getElem? (i := 123) rfl) rfl), by decide +kernel, by decide, by decide +kernel, by decide +kernel, (lwm_tables_1_1 (List.mem_of_getElem? (i := 8) rfl) rfl)⟩
abbrev M_X6_markedStep : pm_M := (yX6_markedStep, cX6_markedStep, 5, (some .int))
theorem in_X6_markedStep : pm_in M_X6_markedStep := ⟨(lwm_tables_1_4 (List.mem_of_getElem? (i := 131) rfl) rfl), by decide +kernel, by decide, by decide +kernel, by decide +kernel, (lwm_tables_1_1 (List.mem_of_getElem? (i := 8) rfl) rfl)⟩
abbrev M_X6_markAllAbove : pm_M := (yX6_markAllAbove, cX6_markAllAbove, 4, none)
theorem in_X6_markAllAbove : pm_in M_X6_markAllAbove := ⟨(lwm_tables_1_4 (List.mem_of_getElem? (i := 140) rfl) rfl), by decide +kernel, by decide, by decide +kernel, by decide +kernel, (lwm_tables_1_1 (List.mem_of_getElem? (i := 8) rfl) rfl)⟩
abbrev M_X7_init : pm_M := (yX7_init, cX7_init, 1, none)
theorem in_X7_init : pm_in M_X7_init := ⟨(lwm_tables_1_1 (List.mem_of_getElem? (i := 100) rfl) rfl), by decide +kernel, by decide, by decide +kernel, by decide +kernel, (lwm_tables_1_1 (List.mem_of_getElem? (i := 6) rfl) rfl)⟩
abbrev M_X7_takeFrom : pm_M := (yX7_takeFrom, cX7_takeFrom, 3, none)
theorem in_X7_takeFrom : pm_in M_X7_takeFrom := ⟨(lwm_tables_1_3 (List.mem_of_getElem? (i := 229) rfl) rfl), by decide +kernel, by decide, by decide +kernel, by decide +kernel, (lwm_tables_1_1 (List.mem_of_getElem? (i := 6) rfl) rfl)⟩
abbrev M_X7_start : pm_M := (yX7_start, cX7_start, 4, none)
theorem in_X7_start : pm_in M_X7_start := ⟨(lwm_tables_1_2 (List.mem_of_getElem? (i := 133) rfl) rfl), by decide +kernel, by decide, by decide +kernel, by decide +kernel, (lwm_tables_1_1 (List.mem_of_getElem? (i := 6) rfl) rfl)⟩
abbrev M_X7_hasTime : pm_M := (yX7_hasTime, cX7_hasTime, 2, (some .boolean))
theorem in_X7_hasTime : pm_in M_X7_hasTime := ⟨(lwm_tables_1_3 (List.mem_of_getElem? (i := 1) rfl) rfl), by decide +kernel, by decide, by decide +kernel, by decide +kernel, (lwm_tables_1_1 (List.mem_of_getElem? (i := 6) rfl) rfl)⟩
abbrev M_X7_counterAt : pm_M := (yX7_counterAt, cX7_counterAt, 2, (some .int))
theorem in_X7_counterAt : pm_in M_X7_counterAt := ⟨(lwm_tables_1_2 (List.mem_of_getElem? (i := 237) rfl) rfl), by decide +kernel, by decide, by decide +kernel, by decide +kernel, (lwm_tables_1_1 (List.mem_of_getElem? (i := 6) rfl) rfl)⟩
abbrev M_X7_outsAt : pm_M := (yX7_outsAt, cX7_outsAt, 2, (some .int))
theorem in_X7_outsAt : pm_in M_X7_outsAt := ⟨(lwm_tables_1_4 (List.mem_of_getElem? (i := 59) rfl) rfl), by decide +kernel, by decide, by decide +kernel, by decide +kernel, (lwm_tables_1_1 (List.mem_of_getElem? (i := 6) rfl) rfl)⟩
abbrev M_X7_checkAt : pm_M := (yX7_checkAt, cX7_checkAt, 2, (some .int))
theorem in_X7_checkAt : pm_in M_X7_checkAt := ⟨(lwm_tables_1_4 (List.mem_of_getElem? (i := 63) rfl) rfl), by decide +kernel, by decide, by decide +kernel, by decide +kernel, (lwm_tables_1_1 (List.mem_of_getElem? (i := 6) rfl) rfl)⟩
abbrev M_X7_topAt : pm_M := (yX7_topAt, cX7_topAt, 2, (some .int))
theorem in_X7_topAt : pm_in M_X7_topAt := ⟨(lwm_tables_1_3 (List.mem_of_getElem? (i := 99) rfl) rfl), by decide +kernel, by decide, by decide +kernel, by decide +kernel, (lwm_tables_1_1 (List.mem_of_getElem? (i := 6) rfl) rfl)⟩
abbrev M_X7_stackSizeAt : pm_M := (yX7_stackSizeAt, cX7_stackSizeAt, 4, (some .int))
theorem in_X7_stackSizeAt : pm_in M_X7_stackSizeAt := ⟨(lwm_tables_1_3 (List.mem_of_getElem? (i := 95) rfl) rfl), by decide +kernel, by decide, by decide +kernel, by decide +kernel, (lwm_tables_1_1 (List.mem_of_getElem? (i := 6) rfl) rfl)⟩
abbrev M_X7_stackedAt : pm_M := (yX7_stackedAt, cX7_stackedAt, 6, (some .int))
theorem in_X7_stackedAt : pm_in M_X7_stackedAt := ⟨(lwm_tables_1_3 (List.mem_of_getElem? (i := 114) rfl) rfl), by decide +kernel, by decide, by decide +kernel, by decide +kernel, (lwm_tables_1_1 (List.mem_of_getElem? (i := 6) rfl) rfl)⟩
abbrev M_X7_hasStackLike : pm_M := (yX7_hasStackLike, cX7_hasStackLike, 6, (some .boolean))
theorem in_X7_hasStackLike : pm_in M_X7_hasStackLike := ⟨(lwm_tables_1_5 (List.mem_of_getElem? (i := 22) rfl) rfl), by decide +kernel, by decide, by decide +kernel, by decide +kernel, (lwm_tables_1_1 (List.mem_of_getElem? (i := 6) rfl) rfl)⟩
abbrev M_X7_statusWith : pm_M := (yX7_statusWith, cX7_statusWith, 3, (some .int))
theorem in_X7_statusWith : pm_in M_X7_statusWith := ⟨(lwm_tables_1_2 (List.mem_of_getElem? (i := 233) rfl) rfl), by decide +kernel, by decide, by decide +kernel, by decide +kernel, (lwm_tables_1_1 (List.mem_of_getElem? (i := 6) rfl) rfl)⟩
abbrev M_X7_canStep : pm_M := (yX7_canStep, cX7_canStep, 2, (some .boolean))
theorem in_X7_canStep : pm_in M_X7_canStep := ⟨(lwm_tables_1_2 (List.mem_of_getElem? (i := 229) rfl) rfl), by decide +kernel, by decide, by decide +kernel, by decide +kernel, (lwm_tables_1_1 (List.mem_of_getElem? (i := 6) rfl) rfl)⟩
abbrev M_X7_step : pm_M := (yX7_step, cX7_step, 4, none)
theorem in_X7_step : pm_in M_X7_step := ⟨(lwm_tables_1_3 (List.mem_of_getElem? (i := 10) rfl) rfl), by decide +kernel, by decide, by decide +kernel, by decide +kernel, (lwm_tables_1_1 (List.mem_of_getElem? (i := 6) rfl) rfl)⟩
abbrev M_X7_putByPoke : pm_M := (yX7_putByPoke, cX7_putByPoke, 5, (some .boolean))
theorem in_X7_putByPoke : pm_in M_X7_putByPoke := ⟨(lwm_tables_1_2 (List.mem_of_getElem? (i := 184) rfl) rfl), by decide +kernel, by decide, by decide +kernel, by decide +kernel, (lwm_tables_1_1 (List.mem_of_getElem? (i := 6) rfl) rfl)⟩
abbrev M_X7_putByStep : pm_M := (yX7_putByStep, cX7_putByStep, 7, none)
theorem in_X7_putByStep : pm_in M_X7_putByStep := ⟨(lwm_tables_1_3 (List.mem_of_getElem? (i := 33) rfl) rfl), by decide +kernel, by decide, by decide +kernel, by decide +kernel, (lwm_tables_1_1 (List.mem_of_getElem? (i := 6) rfl) rfl)⟩
abbrev M_X7_putFromOutside : pm_M := (yX7_putFromOutside, cX7_putFromOutside, 4, none)
theorem in_X7_putFromOutside : pm_in M_X7_putFromOutside := ⟨(lwm_tables_1_3 (List.mem_of_getElem? (i := 63) rfl) rfl), by decide +kernel, by decide, by decide +kernel, by decide +kernel, (lwm_tables_1_1 (List.mem_of_getElem? (i := 6) rfl) rfl)⟩
abbrev M_X7_goOnAt : pm_M := (yX7_goOnAt, cX7_goOnAt, 2, none)
theorem in_X7_goOnAt : pm_in M_X7_goOnAt := ⟨(lwm_tables_1_3 (List.mem_of_getElem? (i := 85) rfl) rfl), by decide +kernel, by decide, by decide +kernel, by decide +kernel, (lwm_tables_1_1 (List.mem_of_getElem? (i := 6) rfl) rfl)⟩
abbrev M_X7_addOut : pm_M := (yX7_addOut, cX7_addOut, 3, none)
theorem in_X7_addOut : pm_in M_X7_addOut := ⟨(lwm_tables_1_3 (List.mem_of_getElem? (i := 81) rfl) rfl), by decide +kernel, by decide, by decide +kernel, by decide +kernel, (lwm_tables_1_1 (List.mem_of_getElem? (i := 6) rfl) rfl)⟩
abbrev M_X7_stackUp : pm_M := (yX7_stackUp, cX7_stackUp, 1, none)
theorem in_X7_stackUp : pm_in M_X7_stackUp := ⟨(lwm_tables_1_3 (List.mem_of_getElem? (i := 107) rfl) rfl), by decide +kernel, by decide, by decide +kernel, by decide +kernel, (lwm_tables_1_1 (List.mem_of_getElem? (i := 6) rfl) rfl)⟩
abbrev M_X7_stackDown : pm_M := (yX7_stackDown, cX7_stackDown, 1, none)
theorem in_X7_stackDown : pm_in M_X7_stackDown := ⟨(lwm_tables_1_3 (List.mem_of_getElem? (i := 120) rfl) rfl), by decide +kernel, by decide, by decide +kernel, by decide +kernel, (lwm_tables_1_1 (List.mem_of_getElem? (i := 6) rfl) rfl)⟩
abbrev M_X7_goBack : pm_M := (yX7_goBack, cX7_goBack, 3, none)
theorem in_X7_goBack : pm_in M_X7_goBack := ⟨(lwm_tables_1_3 (List.mem_of_getElem? (i := 180) rfl) rfl), by decide +kernel, by decide, by decide +kernel, by decide +kernel, (lwm_tables_1_1 (List.mem_of_getElem? (i := 6) rfl) rfl)⟩
abbrev M_X8_perform : pm_M := (yX8_perform, cX8_perform, 7, (some .int))
theorem in_X8_perform : pm_in M_X8_perform := ⟨(lwm_tables_1_3 (List.mem_of_getElem? (i := 16) rfl) rfl), by decide +kernel, by decide, by decide +kernel, by decide +kernel, (lwm_tables_1_1 (List.mem_of_getElem? (i := 13) rfl) rfl)⟩
abbrev M_X8_putOut : pm_M := (yX8_putOut, cX8_putOut, 2, none)
theorem in_X8_putOut : pm_in M_X8_putOut := ⟨(lwm_tables_1_3 (List.mem_of_getElem? (i := 77) rfl) rfl), by decide +kernel, by decide, by decide +kernel, by decide +kernel, (lwm_tables_1_1 (List.mem_of_getElem? (i := 13) rfl) rfl)⟩
abbrev M_X8_copy : pm_M := (yX8_copy, cX8_copy, 3, none)
theorem in_X8_copy : pm_in M_X8_copy := ⟨(lwm_tables_1_3 (List.mem_of_getElem? (i := 40) rfl) rfl), by decide +kernel, by decide, by decide +kernel, by decide +kernel, (lwm_tables_1_1 (List.mem_of_getElem? (i := 13) rfl) rfl)⟩
abbrev M_X8_compare : pm_M := (yX8_compare, cX8_compare, 5, none)
theorem in_X8_compare : pm_in M_X8_compare := ⟨(lwm_tables_1_3 (List.mem_of_getElem? (i := 45) rfl) rfl), by decide +kernel, by decide, by decide +kernel, by decide +kernel, (lwm_tables_1_1 (List.mem_of_getElem? (i := 13) rfl) rfl)⟩
abbrev M_X8_combine : pm_M := (yX8_combine, cX8_combine, 7, (some .int))
theorem in_X8_combine : pm_in M_X8_combine := ⟨(lwm_tables_1_3 (List.mem_of_getElem? (i := 49) rfl) rfl), by decide +kernel, by decide, by decide +kernel, by decide +kernel, (lwm_tables_1_1 (List.mem_of_getElem? (i := 13) rfl) rfl)⟩
abbrev M_X8_fromCell : pm_M := (yX8_fromCell, cX8_fromCell, 5, (some .int))
theorem in_X8_fromCell : pm_in M_X8_fromCell := ⟨(lwm_tables_1_3 (List.mem_of_getElem? (i := 52) rfl) rfl), by decide +kernel, by decide, by decide +kernel, by decide +kernel, (lwm_tables_1_1 (List.mem_of_getElem? (i := 13) rfl) rfl)⟩
abbrev M_X8_toCell : pm_M := (yX8_toCell, cX8_toCell, 4, (some .int))
theorem in_X8_toCell : pm_in M_X8_toCell := ⟨(lwm_tables_1_3 (List.mem_of_getElem? (i := 55) rfl) rfl), by decide +kernel, by decide, by decide +kernel, by decide +kernel, (lwm_tables_1_1 (List.mem_of_getElem? (i := 13) rfl) rfl)⟩
abbrev M_X8_goOnIf : pm_M := (yX8_goOnIf, cX8_goOnIf, 3, (some .int))
theorem in_X8_goOnIf : pm_in M_X8_goOnIf := ⟨(lwm_tables_1_3 (List.mem_of_getElem? (i := 88) rfl) rfl), by decide +kernel, by decide, by decide +kernel, by decide +kernel, (lwm_tables_1_1 (List.mem_of_getElem? (i := 13) rfl) rfl)⟩
abbrev M_X8_goDown : pm_M := (yX8_goDown, cX8_goDown, 3, (some .int))
theorem in_X8_goDown : pm_in M_X8_goDown := ⟨(lwm_tables_1_3 (List.mem_of_getElem? (i := 91) rfl) rfl), by decide +kernel, by decide, by decide +kernel, by decide +kernel, (lwm_tables_1_1 (List.mem_of_getElem? (i := 13) rfl) rfl)⟩
abbrev M_X8_goUp : pm_M := (yX8_goUp, cX8_goUp, 2, none)
theorem in_X8_goUp : pm_in M_X8_goUp := ⟨(lwm_tables_1_3 (List.mem_of_getElem? (i := 110) rfl) rfl), by decide +kernel, by decide, by decide +kernel, by decide +kernel, (lwm_tables_1_1 (List.mem_of_getElem? (i := 13) rfl) rfl)⟩
abbrev M_X8_reckon : pm_M := (yX8_reckon, cX8_reckon, 7, (some .int))
theorem in_X8_reckon : pm_in M_X8_reckon := ⟨(lwm_tables_1_3 (List.mem_of_getElem? (i := 123) rfl) rfl), by decide +kernel, by decide, by decide +kernel, by decide +kernel, (lwm_tables_1_1 (List.mem_of_getElem? (i := 13) rfl) rfl)⟩
abbrev M_X8_reckoned : pm_M := (yX8_reckoned, cX8_reckoned, 3, (some .int))
theorem in_X8_reckoned : pm_in M_X8_reckoned := ⟨(lwm_tables_1_3 (List.mem_of_getElem? (i := 126) rfl) rfl), by decide +kernel, by decide, by decide +kernel, by decide +kernel, (lwm_tables_1_1 (List.mem_of_getElem? (i := 13) rfl) rfl)⟩
abbrev M_X9_init : pm_M := (yX9_init, cX9_init, 2, none)
theorem in_X9_init : pm_in M_X9_init := ⟨(lwm_tables_1_1 (List.mem_of_getElem? (i := 19) rfl) rfl), by decide +kernel, by decide, by decide +kernel, by decide +kernel, (lwm_tables_1_1 (List.mem_of_getElem? (i := 1) rfl) rfl)⟩
abbrev M_X9_code : pm_M := (yX9_code, cX9_code, 6, (some .boolean))
theorem in_X9_code : pm_in M_X9_code := ⟨(lwm_tables_1_2 (List.mem_of_getElem? (i := 95) rfl) rfl), by decide +kernel, by decide, by decide +kernel, by decide +kernel, (lwm_tables_1_1 (List.mem_of_getElem? (i := 1) rfl) rfl)⟩
abbrev M_X9_spacing : pm_M := (yX9_spacing, cX9_spacing, 3, (some .boolean))
theorem in_X9_spacing : pm_in M_X9_spacing := ⟨(lwm_tables_1_2 (List.mem_of_getElem? (i := 119) rfl) rfl), by decide +kernel, by decide, by decide +kernel, by decide +kernel, (lwm_tables_1_1 (List.mem_of_getElem? (i := 1) rfl) rfl)⟩
abbrev M_X9_begin : pm_M := (yX9_begin, cX9_begin, 1, (some .int))
theorem in_X9_begin : pm_in M_X9_begin := ⟨(lwm_tables_1_2 (List.mem_of_getElem? (i := 129) rfl) rfl), by decide +kernel, by decide, by decide +kernel, by decide +kernel, (lwm_tables_1_1 (List.mem_of_getElem? (i := 1) rfl) rfl)⟩
abbrev M_X9_give : pm_M := (yX9_give, cX9_give, 2, (some .int))
theorem in_X9_give : pm_in M_X9_give := ⟨(lwm_tables_1_2 (List.mem_of_getElem? (i := 158) rfl) rfl), by decide +kernel, by decide, by decide +kernel, by decide +kernel, (lwm_tables_1_1 (List.mem_of_getElem? (i := 1) rfl) rfl)⟩
abbrev M_X9_seed : pm_M := (yX9_seed, cX9_seed, 3, (some .int))
theorem in_X9_seed : pm_in M_X9_seed := ⟨(lwm_tables_1_2 (List.mem_of_getElem? (i := 166) rfl) rfl), by decide +kernel, by decide, by decide +kernel, by decide +kernel, (lwm_tables_1_1 (List.mem_of_getElem? (i := 1) rfl) rfl)⟩
abbrev M_X9_poke : pm_M := (yX9_poke, cX9_poke, 4, (some .int))
theorem in_X9_poke : pm_in M_X9_poke := ⟨(lwm_tables_1_2 (List.mem_of_getElem? (i := 170) rfl) rfl), by decide +kernel, by decide, by decide +kernel, by decide +kernel, (lwm_tables_1_1 (List.mem_of_getElem? (i := 1) rfl) rfl)⟩
abbrev M_X9_run : pm_M := (yX9_run, cX9_run, 4, (some .int))
theorem in_X9_run : pm_in M_X9_run := ⟨(lwm_tables_1_2 (List.mem_of_getElem? (i := 225) rfl) rfl), by decide +kernel, by decide, by decide +kernel, by decide +kernel, (lwm_tables_1_1 (List.mem_of_getElem? (i := 1) rfl) rfl)⟩
abbrev M_X9_watch : pm_M := (yX9_watch, cX9_watch, 3, (some .boolean))
theorem in_X9_watch : pm_in M_X9_watch := ⟨(lwm_tables_1_3 (List.mem_of_getElem? (i := 156) rfl) rfl), by decide +kernel, by decide, by decide +kernel, by decide +kernel, (lwm_tables_1_1 (List.mem_of_getElem? (i := 1) rfl) rfl)⟩
abbrev M_X9_back : pm_M := (yX9_back, cX9_back, 2, (some .int))
theorem in_X9_back : pm_in M_X9_back := ⟨(lwm_tables_1_3 (List.mem_of_getElem? (i := 160) rfl) rfl), by decide +kernel, by decide, by decide +kernel, by decide +kernel, (lwm_tables_1_1 (List.mem_of_getElem? (i := 1) rfl) rfl)⟩
abbrev M_X9_keep : pm_M := (yX9_keep, cX9_keep, 2, (some .int))
theorem in_X9_keep : pm_in M_X9_keep := ⟨(lwm_tables_1_3 (List.mem_of_getElem? (i := 220) rfl) rfl), by decide +kernel, by decide, by decide +kernel, by decide +kernel, (lwm_tables_1_1 (List.mem_of_getElem? (i := 1) rfl) rfl)⟩
abbrev M_X9_use : pm_M := (yX9_use, cX9_use, 2, (some .boolean))
theorem in_X9_use : pm_in M_X9_use := ⟨(lwm_tables_1_4 (List.mem_of_getElem? (i := 20) rfl) rfl), by decide +kernel, by decide, by decide +kernel, by decide +kernel, (lwm_tables_1_1 (List.mem_of_getElem? (i := 1) rfl) rfl)⟩
abbrev M_X9_at : pm_M := (yX9_at, cX9_at, 6, (some .int))
theorem in_X9_at : pm_in M_X9_at := ⟨(lwm_tables_1_4 (List.mem_of_getElem? (i := 28) rfl) rfl), by decide +kernel, by decide, by decide +kernel, by decide +kernel, (lwm_tables_1_1 (List.mem_of_getElem? (i := 1) rfl) rfl)⟩
abbrev M_X9_state : pm_M := (yX9_state, cX9_state, 4, (some .int))
theorem in_X9_state : pm_in M_X9_state := ⟨(lwm_tables_1_4 (List.mem_of_getElem? (i := 50) rfl) rfl), by decide +kernel, by decide, by decide +kernel, by decide +kernel, (lwm_tables_1_1 (List.mem_of_getElem? (i := 1) rfl) rfl)⟩
abbrev M_X9_last : pm_M := (yX9_last, cX9_last, 4, (some .int))
theorem in_X9_last : pm_in M_X9_last := ⟨(lwm_tables_1_4 (List.mem_of_getElem? (i := 69) rfl) rfl), by decide +kernel, by decide, by decide +kernel, by decide +kernel, (lwm_tables_1_1 (List.mem_of_getElem? (i := 1) rfl) rfl)⟩
abbrev M_X9_when : pm_M := (yX9_when, cX9_when, 7, (some .int))
theorem in_X9_when : pm_in M_X9_when := ⟨(lwm_tables_1_4 (List.mem_of_getElem? (i := 81) rfl) rfl), by decide +kernel, by decide, by decide +kernel, by decide +kernel, (lwm_tables_1_1 (List.mem_of_getElem? (i := 1) rfl) rfl)⟩
abbrev M_X9_changed : pm_M := (yX9_changed, cX9_changed, 9, (some .int))
theorem in_X9_changed : pm_in M_X9_changed := ⟨(lwm_tables_1_4 (List.mem_of_getElem? (i := 93) rfl) rfl), by decide +kernel, by decide, by decide +kernel, by decide +kernel, (lwm_tables_1_1 (List.mem_of_getElem? (i := 1) rfl) rfl)⟩
abbrev M_X9_watched : pm_M := (yX9_watched, cX9_watched, 5, (some .int))
theorem in_X9_watched : pm_in M_X9_watched := ⟨(lwm_tables_1_4 (List.mem_of_getElem? (i := 106) rfl) rfl), by decide +kernel, by decide, by decide +kernel, by decide +kernel, (lwm_tables_1_1 (List.mem_of_getElem? (i := 1) rfl) rfl)⟩
abbrev M_X9_rests : pm_M := (yX9_rests, cX9_rests, 5, (some .int))
theorem in_X9_rests : pm_in M_X9_rests := ⟨(lwm_tables_1_4 (List.mem_of_getElem? (i := 111) rfl) rfl), by decide +kernel, by decide, by decide +kernel, by decide +kernel, (lwm_tables_1_1 (List.mem_of_getElem? (i := 1) rfl) rfl)⟩
abbrev M_X9_hangs : pm_M := (yX9_hangs, cX9_hangs, 7, (some .int))
theorem in_X9_hangs : pm_in M_X9_hangs := ⟨(lwm_tables_1_4 (List.mem_of_getElem? (i := 135) rfl) rfl), by decide +kernel, by decide, by decide +kernel, by decide +kernel, (lwm_tables_1_1 (List.mem_of_getElem? (i := 1) rfl) rfl)⟩
abbrev M_X9_history : pm_M := (yX9_history, cX9_history, 7, (some .int))
theorem in_X9_history : pm_in M_X9_history := ⟨(lwm_tables_1_4 (List.mem_of_getElem? (i := 145) rfl) rfl), by decide +kernel, by decide, by decide +kernel, by decide +kernel, (lwm_tables_1_1 (List.mem_of_getElem? (i := 1) rfl) rfl)⟩
abbrev M_X9_done : pm_M := (yX9_done, cX9_done, 6, (some .int))
theorem in_X9_done : pm_in M_X9_done := ⟨(lwm_tables_1_4 (List.mem_of_getElem? (i := 153) rfl) rfl), by decide +kernel, by decide, by decide +kernel, by decide +kernel, (lwm_tables_1_1 (List.mem_of_getElem? (i := 1) rfl) rfl)⟩
abbrev M_X9_call : pm_M := (yX9_call, cX9_call, 4, (some .int))
theorem in_X9_call : pm_in M_X9_call := ⟨(lwm_tables_1_4 (List.mem_of_getElem? (i := 157) rfl) rfl), by decide +kernel, by decide, by decide +kernel, by decide +kernel, (lwm_tables_1_1 (List.mem_of_getElem? (i := 1) rfl) rfl)⟩
abbrev M_X9_log : pm_M := (yX9_log, cX9_log, 4, (some .int))
theorem in_X9_log : pm_in M_X9_log := ⟨(lwm_tables_1_4 (List.mem_of_getElem? (i := 165) rfl) rfl), by decide +kernel, by decide, by decide +kernel, by decide +kernel, (lwm_tables_1_1 (List.mem_of_getElem? (i := 1) rfl) rfl)⟩
abbrev M_X9_held : pm_M := (yX9_held, cX9_held, 4, (some .int))
theorem in_X9_held : pm_in M_X9_held := ⟨(lwm_tables_1_4 (List.mem_of_getElem? (i := 174) rfl) rfl), by decide +kernel, by decide, by decide +kernel, by decide +kernel, (lwm_tables_1_1 (List.mem_of_getElem? (i := 1) rfl) rfl)⟩
abbrev M_X9_would : pm_M := (yX9_would, cX9_would, 4, (some .int))
theorem in_X9_would : pm_in M_X9_would := ⟨(lwm_tables_1_4 (List.mem_of_getElem? (i := 180) rfl) rfl), by decide +kernel, by decide, by decide +kernel, by decide +kernel, (lwm_tables_1_1 (List.mem_of_getElem? (i := 1) rfl) rfl)⟩
abbrev M_X9_gap : pm_M := (yX9_gap, cX9_gap, 8, (some .int))
theorem in_X9_gap : pm_in M_X9_gap := ⟨(lwm_tables_1_4 (List.mem_of_getElem? (i := 193) rfl) rfl), by decide +kernel, by decide, by decide +kernel, by decide +kernel, (lwm_tables_1_1 (List.mem_of_getElem? (i := 1) rfl) rfl)⟩
abbrev M_X9_sparing : pm_M := (yX9_sparing, cX9_sparing, 5, (some .int))
theorem in_X9_sparing : pm_in M_X9_sparing := ⟨(lwm_tables_1_4 (List.mem_of_getElem? (i := 197) rfl) rfl), by decide +kernel, by decide, by decide +kernel, by decide +kernel, (lwm_tables_1_1 (List.mem_of_getElem? (i := 1) rfl) rfl)⟩
abbrev M_X9_align : pm_M := (yX9_align, cX9_align, 5, (some .int))
theorem in_X9_align : pm_in M_X9_align := ⟨(lwm_tables_1_4 (List.mem_of_getElem? (i := 201) rfl) rfl), by decide +kernel, by decide, by decide +kernel, by decide +kernel, (lwm_tables_1_1 (List.mem_of_getElem? (i := 1) rfl) rfl)⟩
abbrev M_X9_pair : pm_M := (yX9_pair, cX9_pair, 9, (some .int))
theorem in_X9_pair : pm_in M_X9_pair := ⟨(lwm_tables_1_4 (List.mem_of_getElem? (i := 224) rfl) rfl), by decide +kernel, by decide, by decide +kernel, by decide +kernel, (lwm_tables_1_1 (List.mem_of_getElem? (i := 1) rfl) rfl)⟩
abbrev M_X9_parts : pm_M := (yX9_parts, cX9_parts, 5, (some .int))
theorem in_X9_parts : pm_in M_X9_parts := ⟨(lwm_tables_1_5 (List.mem_of_getElem? (i := 5) rfl) rfl), by decide +kernel, by decide, by decide +kernel, by decide +kernel, (lwm_tables_1_1 (List.mem_of_getElem? (i := 1) rfl) rfl)⟩
abbrev M_X9_look : pm_M := (yX9_look, cX9_look, 2, (some .int))
theorem in_X9_look : pm_in M_X9_look := ⟨(lwm_tables_1_5 (List.mem_of_getElem? (i := 34) rfl) rfl), by decide +kernel, by decide, by decide +kernel, by decide +kernel, (lwm_tables_1_1 (List.mem_of_getElem? (i := 1) rfl) rfl)⟩
abbrev M_X9_lookAtRun : pm_M := (yX9_lookAtRun, cX9_lookAtRun, 3, (some .int))
theorem in_X9_lookAtRun : pm_in M_X9_lookAtRun := ⟨(lwm_tables_1_5 (List.mem_of_getElem? (i := 38) rfl) rfl), by decide +kernel, by decide, by decide +kernel, by decide +kernel, (lwm_tables_1_1 (List.mem_of_getElem? (i := 1) rfl) rfl)⟩
abbrev M_X9_isKept : pm_M := (yX9_isKept, cX9_isKept, 2, (some .boolean))
theorem in_X9_isKept : pm_in M_X9_isKept := ⟨(lwm_tables_1_4 (List.mem_of_getElem? (i := 24) rfl) rfl), by decide +kernel, by decide, by decide +kernel, by decide +kernel, (lwm_tables_1_1 (List.mem_of_getElem? (i := 1) rfl) rfl)⟩
abbrev M_X9_roomOfKept : pm_M := (yX9_roomOfKept, cX9_roomOfKept, 2, (some (.object "RunsBack$Run")))
theorem in_X9_roomOfKept : pm_in M_X9_roomOfKept := ⟨(lwm_tables_1_3 (List.mem_of_getElem? (i := 224) rfl) rfl), by decide +kernel, by decide, by decide +kernel, by decide +kernel, (lwm_tables_1_1 (List.mem_of_getElem? (i := 1) rfl) rfl)⟩
abbrev M_X9_numbered : pm_M := (yX9_numbered, cX9_numbered, 2, (some (.object "RunsBack$Run")))
theorem in_X9_numbered : pm_in M_X9_numbered := ⟨(lwm_tables_1_4 (List.mem_of_getElem? (i := 32) rfl) rfl), by decide +kernel, by decide, by decide +kernel, by decide +kernel, (lwm_tables_1_1 (List.mem_of_getElem? (i := 1) rfl) rfl)⟩
abbrev M_X9_isWatched : pm_M := (yX9_isWatched, cX9_isWatched, 2, (some .boolean))
theorem in_X9_isWatched : pm_in M_X9_isWatched := ⟨(lwm_tables_1_3 (List.mem_of_getElem? (i := 152) rfl) rfl), by decide +kernel, by decide, by decide +kernel, by decide +kernel, (lwm_tables_1_1 (List.mem_of_getElem? (i := 1) rfl) rfl)⟩
abbrev M_X9_replay : pm_M := (yX9_replay, cX9_replay, 3, none)
theorem in_X9_replay : pm_in M_X9_replay := ⟨(lwm_tables_1_3 (List.mem_of_getElem? (i := 164) rfl) rfl), by decide +kernel, by decide, by decide +kernel, by decide +kernel, (lwm_tables_1_1 (List.mem_of_getElem? (i := 1) rfl) rfl)⟩
abbrev M_X9_count : pm_M := (yX9_count, cX9_count, 3, none)
theorem in_X9_count : pm_in M_X9_count := ⟨(lwm_tables_1_3 (List.mem_of_getElem? (i := 176) rfl) rfl), by decide +kernel, by decide, by decide +kernel, by decide +kernel, (lwm_tables_1_1 (List.mem_of_getElem? (i := 1) rfl) rfl)⟩
abbrev M_X9_lastChange : pm_M := (yX9_lastChange, cX9_lastChange, 9, (some .int))
theorem in_X9_lastChange : pm_in M_X9_lastChange := ⟨(lwm_tables_1_4 (List.mem_of_getElem? (i := 73) rfl) rfl), by decide +kernel, by decide, by decide +kernel, by decide +kernel, (lwm_tables_1_1 (List.mem_of_getElem? (i := 1) rfl) rfl)⟩
abbrev M_X9_unlike : pm_M := (yX9_unlike, cX9_unlike, 9, (some .int))
theorem in_X9_unlike : pm_in M_X9_unlike := ⟨(lwm_tables_1_5 (List.mem_of_getElem? (i := 0) rfl) rfl), by decide +kernel, by decide, by decide +kernel, by decide +kernel, (lwm_tables_1_1 (List.mem_of_getElem? (i := 1) rfl) rfl)⟩
abbrev M_X9_wouldBeHeld : pm_M := (yX9_wouldBeHeld, cX9_wouldBeHeld, 6, (some .int))
theorem in_X9_wouldBeHeld : pm_in M_X9_wouldBeHeld := ⟨(lwm_tables_1_4 (List.mem_of_getElem? (i := 186) rfl) rfl), by decide +kernel, by decide, by decide +kernel, by decide +kernel, (lwm_tables_1_1 (List.mem_of_getElem? (i := 1) rfl) rfl)⟩
abbrev M_X9_isPlace : pm_M := (yX9_isPlace, cX9_isPlace, 1, (some .boolean))
theorem in_X9_isPlace : pm_in M_X9_isPlace := ⟨(lwm_tables_1_2 (List.mem_of_getElem? (i := 177) rfl) rfl), by decide +kernel, by decide, by decide +kernel, by decide +kernel, (lwm_tables_1_1 (List.mem_of_getElem? (i := 1) rfl) rfl)⟩
abbrev M_X9_isInstructionPlace : pm_M := (yX9_isInstructionPlace, cX9_isInstructionPlace, 1, (some .boolean))
theorem in_X9_isInstructionPlace : pm_in M_X9_isInstructionPlace := ⟨(lwm_tables_1_2 (List.mem_of_getElem? (i := 98) rfl) rfl), by decide +kernel, by decide, by decide +kernel, by decide +kernel, (lwm_tables_1_1 (List.mem_of_getElem? (i := 1) rfl) rfl)⟩
abbrev M_X9_isUnit : pm_M := (yX9_isUnit, cX9_isUnit, 1, (some .boolean))
theorem in_X9_isUnit : pm_in M_X9_isUnit := ⟨(lwm_tables_1_2 (List.mem_of_getElem? (i := 122) rfl) rfl), by decide +kernel, by decide, by decide +kernel, by decide +kernel, (lwm_tables_1_1 (List.mem_of_getElem? (i := 1) rfl) rfl)⟩
abbrev M_X9_isDepth : pm_M := (yX9_isDepth, cX9_isDepth, 1, (some .boolean))
theorem in_X9_isDepth : pm_in M_X9_isDepth := ⟨(lwm_tables_1_2 (List.mem_of_getElem? (i := 125) rfl) rfl), by decide +kernel, by decide, by decide +kernel, by decide +kernel, (lwm_tables_1_1 (List.mem_of_getElem? (i := 1) rfl) rfl)⟩
abbrev M_X9_isAnyTime : pm_M := (yX9_isAnyTime, cX9_isAnyTime, 1, (some .boolean))
theorem in_X9_isAnyTime : pm_in M_X9_isAnyTime := ⟨(lwm_tables_1_4 (List.mem_of_getElem? (i := 183) rfl) rfl), by decide +kernel, by decide, by decide +kernel, by decide +kernel, (lwm_tables_1_1 (List.mem_of_getElem? (i := 1) rfl) rfl)⟩
abbrev M_X9_isStateWhat : pm_M := (yX9_isStateWhat, cX9_isStateWhat, 1, (some .boolean))
theorem in_X9_isStateWhat : pm_in M_X9_isStateWhat := ⟨(lwm_tables_1_4 (List.mem_of_getElem? (i := 53) rfl) rfl), by decide +kernel, by decide, by decide +kernel, by decide +kernel, (lwm_tables_1_1 (List.mem_of_getElem? (i := 1) rfl) rfl)⟩
abbrev M_X9_isPlacesWhat : pm_M := (yX9_isPlacesWhat, cX9_isPlacesWhat, 1, (some .boolean))
theorem in_X9_isPlacesWhat : pm_in M_X9_isPlacesWhat := ⟨(lwm_tables_1_4 (List.mem_of_getElem? (i := 96) rfl) rfl), by decide +kernel, by decide, by decide +kernel, by decide +kernel, (lwm_tables_1_1 (List.mem_of_getElem? (i := 1) rfl) rfl)⟩
abbrev M_X9_firstPlaceOf : pm_M := (yX9_firstPlaceOf, cX9_firstPlaceOf, 1, (some .int))
theorem in_X9_firstPlaceOf : pm_in M_X9_firstPlaceOf := ⟨(lwm_tables_1_4 (List.mem_of_getElem? (i := 102) rfl) rfl), by decide +kernel, by decide, by decide +kernel, by decide +kernel, (lwm_tables_1_1 (List.mem_of_getElem? (i := 1) rfl) rfl)⟩
abbrev M_X9_placesOf : pm_M := (yX9_placesOf, cX9_placesOf, 1, (some .int))
theorem in_X9_placesOf : pm_in M_X9_placesOf := ⟨(lwm_tables_1_4 (List.mem_of_getElem? (i := 99) rfl) rfl), by decide +kernel, by decide, by decide +kernel, by decide +kernel, (lwm_tables_1_1 (List.mem_of_getElem? (i := 1) rfl) rfl)⟩
abbrev M_X9_copyRow : pm_M := (yX9_copyRow, cX9_copyRow, 4, none)
theorem in_X9_copyRow : pm_in M_X9_copyRow := ⟨(lwm_tables_1_3 (List.mem_of_getElem? (i := 236) rfl) rfl), by decide +kernel, by decide, by decide +kernel, by decide +kernel, (lwm_tables_1_1 (List.mem_of_getElem? (i := 1) rfl) rfl)⟩
abbrev M_X9_isMarked : pm_M := (yX9_isMarked, cX9_isMarked, 2, (some .boolean))
theorem in_X9_isMarked : pm_in M_X9_isMarked := ⟨(lwm_tables_1_4 (List.mem_of_getElem? (i := 127) rfl) rfl), by decide +kernel, by decide, by decide +kernel, by decide +kernel, (lwm_tables_1_1 (List.mem_of_getElem? (i := 1) rfl) rfl)⟩
abbrev M_X9_isValue : pm_M := (yX9_isValue, cX9_isValue, 2, (some .boolean))
theorem in_X9_isValue : pm_in M_X9_isValue := ⟨(lwm_tables_1_2 (List.mem_of_getElem? (i := 180) rfl) rfl), by decide +kernel, by decide, by decide +kernel, by decide +kernel, (lwm_tables_1_1 (List.mem_of_getElem? (i := 1) rfl) rfl)⟩
abbrev M_X9_isInstruction : pm_M := (yX9_isInstruction, cX9_isInstruction, 4, (some .boolean))
theorem in_X9_isInstruction : pm_in M_X9_isInstruction := ⟨(lwm_tables_1_2 (List.mem_of_getElem? (i := 101) rfl) rfl), by decide +kernel, by decide, by decide +kernel, by decide +kernel, (lwm_tables_1_1 (List.mem_of_getElem? (i := 1) rfl) rfl)⟩
abbrev M_X9_fits : pm_M := (yX9_fits, cX9_fits, 2, (some .boolean))
theorem in_X9_fits : pm_in M_X9_fits := ⟨(lwm_tables_1_2 (List.mem_of_getElem? (i := 110) rfl) rfl), by decide +kernel, by decide, by decide +kernel, by decide +kernel, (lwm_tables_1_1 (List.mem_of_getElem? (i := 1) rfl) rfl)⟩
abbrev M_X10_isIn : pm_M := (yX10_isIn, cX10_isIn, 3, (some .boolean))
theorem in_X10_isIn : pm_in M_X10_isIn := ⟨(lwm_tables_1_5 (List.mem_of_getElem? (i := 217) rfl) rfl), by decide +kernel, by decide, by decide +kernel, by decide +kernel, (lwm_tables_1_1 (List.mem_of_getElem? (i := 11) rfl) rfl)⟩
abbrev M_X10_one : pm_M := (yX10_one, cX10_one, 1, (some .int))
theorem in_X10_one : pm_in M_X10_one := ⟨(lwm_tables_1_5 (List.mem_of_getElem? (i := 237) rfl) rfl), by decide +kernel, by decide, by decide +kernel, by decide +kernel, (lwm_tables_1_1 (List.mem_of_getElem? (i := 11) rfl) rfl)⟩
abbrev M_X10_init : pm_M := (yX10_init, cX10_init, 2, none)
theorem in_X10_init : pm_in M_X10_init := ⟨(lwm_tables_1_5 (List.mem_of_getElem? (i := 43) rfl) rfl), by decide +kernel, by decide, by decide +kernel, by decide +kernel, (lwm_tables_1_1 (List.mem_of_getElem? (i := 11) rfl) rfl)⟩
abbrev M_X10_isRegister : pm_M := (yX10_isRegister, cX10_isRegister, 1, (some .boolean))
theorem in_X10_isRegister : pm_in M_X10_isRegister := ⟨(lwm_tables_1_5 (List.mem_of_getElem? (i := 223) rfl) rfl), by decide +kernel, by decide, by decide +kernel, by decide +kernel, (lwm_tables_1_1 (List.mem_of_getElem? (i := 11) rfl) rfl)⟩
abbrev M_X10_isFine : pm_M := (yX10_isFine, cX10_isFine, 4, (some .boolean))
theorem in_X10_isFine : pm_in M_X10_isFine := ⟨(lwm_tables_1_5 (List.mem_of_getElem? (i := 220) rfl) rfl), by decide +kernel, by decide, by decide +kernel, by decide +kernel, (lwm_tables_1_1 (List.mem_of_getElem? (i := 11) rfl) rfl)⟩
abbrev M_X10_code : pm_M := (yX10_code, cX10_code, 6, (some .boolean))
theorem in_X10_code : pm_in M_X10_code := ⟨(lwm_tables_1_5 (List.mem_of_getElem? (i := 214) rfl) rfl), by decide +kernel, by decide, by decide +kernel, by decide +kernel, (lwm_tables_1_1 (List.mem_of_getElem? (i := 11) rfl) rfl)⟩
abbrev M_X10_isSpacing : pm_M := (yX10_isSpacing, cX10_isSpacing, 2, (some .boolean))
theorem in_X10_isSpacing : pm_in M_X10_isSpacing := ⟨(lwm_tables_1_5 (List.mem_of_getElem? (i := 230) rfl) rfl), by decide +kernel, by decide, by decide +kernel, by decide +kernel, (lwm_tables_1_1 (List.mem_of_getElem? (i := 11) rfl) rfl)⟩
abbrev M_X10_spacing : pm_M := (yX10_spacing, cX10_spacing, 3, (some .boolean))
theorem in_X10_spacing : pm_in M_X10_spacing := ⟨(lwm_tables_1_5 (List.mem_of_getElem? (i := 227) rfl) rfl), by decide +kernel, by decide, by decide +kernel, by decide +kernel, (lwm_tables_1_1 (List.mem_of_getElem? (i := 11) rfl) rfl)⟩
abbrev M_X10_heldAt : pm_M := (yX10_heldAt, cX10_heldAt, 2, (some .int))
theorem in_X10_heldAt : pm_in M_X10_heldAt := ⟨(lwm_tables_1_6 (List.mem_of_getElem? (i := 0) rfl) rfl), by decide +kernel, by decide, by decide +kernel, by decide +kernel, (lwm_tables_1_1 (List.mem_of_getElem? (i := 11) rfl) rfl)⟩
abbrev M_X10_clears : pm_M := (yX10_clears, cX10_clears, 3, none)
theorem in_X10_clears : pm_in M_X10_clears := ⟨(lwm_tables_1_6 (List.mem_of_getElem? (i := 4) rfl) rfl), by decide +kernel, by decide, by decide +kernel, by decide +kernel, (lwm_tables_1_1 (List.mem_of_getElem? (i := 11) rfl) rfl)⟩
abbrev M_X10_begin : pm_M := (yX10_begin, cX10_begin, 3, (some .int))
theorem in_X10_begin : pm_in M_X10_begin := ⟨(lwm_tables_1_5 (List.mem_of_getElem? (i := 234) rfl) rfl), by decide +kernel, by decide, by decide +kernel, by decide +kernel, (lwm_tables_1_1 (List.mem_of_getElem? (i := 11) rfl) rfl)⟩
abbrev M_X10_give : pm_M := (yX10_give, cX10_give, 2, (some .int))
theorem in_X10_give : pm_in M_X10_give := ⟨(lwm_tables_1_6 (List.mem_of_getElem? (i := 8) rfl) rfl), by decide +kernel, by decide, by decide +kernel, by decide +kernel, (lwm_tables_1_1 (List.mem_of_getElem? (i := 11) rfl) rfl)⟩
abbrev M_X10_seed : pm_M := (yX10_seed, cX10_seed, 3, (some .int))
theorem in_X10_seed : pm_in M_X10_seed := ⟨(lwm_tables_1_6 (List.mem_of_getElem? (i := 12) rfl) rfl), by decide +kernel, by decide, by decide +kernel, by decide +kernel, (lwm_tables_1_1 (List.mem_of_getElem? (i := 11) rfl) rfl)⟩
abbrev M_X10_isValue : pm_M := (yX10_isValue, cX10_isValue, 2, (some .boolean))
theorem in_X10_isValue : pm_in M_X10_isValue := ⟨(lwm_tables_1_6 (List.mem_of_getElem? (i := 22) rfl) rfl), by decide +kernel, by decide, by decide +kernel, by decide +kernel, (lwm_tables_1_1 (List.mem_of_getElem? (i := 11) rfl) rfl)⟩
abbrev M_X10_isPlace : pm_M := (yX10_isPlace, cX10_isPlace, 1, (some .boolean))
theorem in_X10_isPlace : pm_in M_X10_isPlace := ⟨(lwm_tables_1_6 (List.mem_of_getElem? (i := 19) rfl) rfl), by decide +kernel, by decide, by decide +kernel, by decide +kernel, (lwm_tables_1_1 (List.mem_of_getElem? (i := 11) rfl) rfl)⟩
abbrev M_X10_puts : pm_M := (yX10_puts, cX10_puts, 4, none)
theorem in_X10_puts : pm_in M_X10_puts := ⟨(lwm_tables_1_6 (List.mem_of_getElem? (i := 29) rfl) rfl), by decide +kernel, by decide, by decide +kernel, by decide +kernel, (lwm_tables_1_1 (List.mem_of_getElem? (i := 11) rfl) rfl)⟩
abbrev M_X10_notes : pm_M := (yX10_notes, cX10_notes, 6, none)
theorem in_X10_notes : pm_in M_X10_notes := ⟨(lwm_tables_1_6 (List.mem_of_getElem? (i := 26) rfl) rfl), by decide +kernel, by decide, by decide +kernel, by decide +kernel, (lwm_tables_1_1 (List.mem_of_getElem? (i := 11) rfl) rfl)⟩
abbrev M_X10_poke : pm_M := (yX10_poke, cX10_poke, 5, (some .int))
theorem in_X10_poke : pm_in M_X10_poke := ⟨(lwm_tables_1_6 (List.mem_of_getElem? (i := 16) rfl) rfl), by decide +kernel, by decide, by decide +kernel, by decide +kernel, (lwm_tables_1_1 (List.mem_of_getElem? (i := 11) rfl) rfl)⟩
abbrev M_X10_kindAt : pm_M := (yX10_kindAt, cX10_kindAt, 3, (some .int))
theorem in_X10_kindAt : pm_in M_X10_kindAt := ⟨(lwm_tables_1_6 (List.mem_of_getElem? (i := 45) rfl) rfl), by decide +kernel, by decide, by decide +kernel, by decide +kernel, (lwm_tables_1_1 (List.mem_of_getElem? (i := 11) rfl) rfl)⟩
abbrev M_X10_isOf : pm_M := (yX10_isOf, cX10_isOf, 3, (some .boolean))
theorem in_X10_isOf : pm_in M_X10_isOf := ⟨(lwm_tables_1_6 (List.mem_of_getElem? (i := 79) rfl) rfl), by decide +kernel, by decide, by decide +kernel, by decide +kernel, (lwm_tables_1_1 (List.mem_of_getElem? (i := 11) rfl) rfl)⟩
abbrev M_X10_traps : pm_M := (yX10_traps, cX10_traps, 3, none)
theorem in_X10_traps : pm_in M_X10_traps := ⟨(lwm_tables_1_6 (List.mem_of_getElem? (i := 68) rfl) rfl), by decide +kernel, by decide, by decide +kernel, by decide +kernel, (lwm_tables_1_1 (List.mem_of_getElem? (i := 11) rfl) rfl)⟩
abbrev M_X10_gives : pm_M := (yX10_gives, cX10_gives, 5, none)
theorem in_X10_gives : pm_in M_X10_gives := ⟨(lwm_tables_1_6 (List.mem_of_getElem? (i := 76) rfl) rfl), by decide +kernel, by decide, by decide +kernel, by decide +kernel, (lwm_tables_1_1 (List.mem_of_getElem? (i := 11) rfl) rfl)⟩
abbrev M_X10_steps : pm_M := (yX10_steps, cX10_steps, 6, none)
theorem in_X10_steps : pm_in M_X10_steps := ⟨(lwm_tables_1_6 (List.mem_of_getElem? (i := 63) rfl) rfl), by decide +kernel, by decide, by decide +kernel, by decide +kernel, (lwm_tables_1_1 (List.mem_of_getElem? (i := 11) rfl) rfl)⟩
abbrev M_X10_does : pm_M := (yX10_does, cX10_does, 8, none)
theorem in_X10_does : pm_in M_X10_does := ⟨(lwm_tables_1_6 (List.mem_of_getElem? (i := 72) rfl) rfl), by decide +kernel, by decide, by decide +kernel, by decide +kernel, (lwm_tables_1_1 (List.mem_of_getElem? (i := 11) rfl) rfl)⟩
abbrev M_X10_reckons : pm_M := (yX10_reckons, cX10_reckons, 8, none)
theorem in_X10_reckons : pm_in M_X10_reckons := ⟨(lwm_tables_1_6 (List.mem_of_getElem? (i := 91) rfl) rfl), by decide +kernel, by decide, by decide +kernel, by decide +kernel, (lwm_tables_1_1 (List.mem_of_getElem? (i := 11) rfl) rfl)⟩
abbrev M_X10_cells : pm_M := (yX10_cells, cX10_cells, 7, none)
theorem in_X10_cells : pm_in M_X10_cells := ⟨(lwm_tables_1_6 (List.mem_of_getElem? (i := 83) rfl) rfl), by decide +kernel, by decide, by decide +kernel, by decide +kernel, (lwm_tables_1_1 (List.mem_of_getElem? (i := 11) rfl) rfl)⟩
abbrev M_X10_goes : pm_M := (yX10_goes, cX10_goes, 5, none)
theorem in_X10_goes : pm_in M_X10_goes := ⟨(lwm_tables_1_6 (List.mem_of_getElem? (i := 87) rfl) rfl), by decide +kernel, by decide, by decide +kernel, by decide +kernel, (lwm_tables_1_1 (List.mem_of_getElem? (i := 11) rfl) rfl)⟩
abbrev M_X10_status : pm_M := (yX10_status, cX10_status, 2, (some .int))
theorem in_X10_status : pm_in M_X10_status := ⟨(lwm_tables_1_6 (List.mem_of_getElem? (i := 41) rfl) rfl), by decide +kernel, by decide, by decide +kernel, by decide +kernel, (lwm_tables_1_1 (List.mem_of_getElem? (i := 11) rfl) rfl)⟩
abbrev M_X10_halvings : pm_M := (yX10_halvings, cX10_halvings, 3, (some .int))
theorem in_X10_halvings : pm_in M_X10_halvings := ⟨(lwm_tables_1_6 (List.mem_of_getElem? (i := 103) rfl) rfl), by decide +kernel, by decide, by decide +kernel, by decide +kernel, (lwm_tables_1_1 (List.mem_of_getElem? (i := 11) rfl) rfl)⟩
abbrev M_X10_goesWith : pm_M := (yX10_goesWith, cX10_goesWith, 3, (some .int))
theorem in_X10_goesWith : pm_in M_X10_goesWith := ⟨(lwm_tables_1_6 (List.mem_of_getElem? (i := 99) rfl) rfl), by decide +kernel, by decide, by decide +kernel, by decide +kernel, (lwm_tables_1_1 (List.mem_of_getElem? (i := 11) rfl) rfl)⟩
abbrev M_X10_heldMany : pm_M := (yX10_heldMany, cX10_heldMany, 4, (some .int))
theorem in_X10_heldMany : pm_in M_X10_heldMany := ⟨(lwm_tables_1_6 (List.mem_of_getElem? (i := 107) rfl) rfl), by decide +kernel, by decide, by decide +kernel, by decide +kernel, (lwm_tables_1_1 (List.mem_of_getElem? (i := 11) rfl) rfl)⟩
abbrev M_X10_comes : pm_M := (yX10_comes, cX10_comes, 4, none)
theorem in_X10_comes : pm_in M_X10_comes := ⟨(lwm_tables_1_6 (List.mem_of_getElem? (i := 95) rfl) rfl), by decide +kernel, by decide, by decide +kernel, by decide +kernel, (lwm_tables_1_1 (List.mem_of_getElem? (i := 11) rfl) rfl)⟩
abbrev M_X10_takesInput : pm_M := (yX10_takesInput, cX10_takesInput, 2, none)
theorem in_X10_takesInput : pm_in M_X10_takesInput := ⟨(lwm_tables_1_6 (List.mem_of_getElem? (i := 53) rfl) rfl), by decide +kernel, by decide, by decide +kernel, by decide +kernel, (lwm_tables_1_1 (List.mem_of_getElem? (i := 11) rfl) rfl)⟩
abbrev M_X10_draws : pm_M := (yX10_draws, cX10_draws, 2, none)
theorem in_X10_draws : pm_in M_X10_draws := ⟨(lwm_tables_1_6 (List.mem_of_getElem? (i := 57) rfl) rfl), by decide +kernel, by decide, by decide +kernel, by decide +kernel, (lwm_tables_1_1 (List.mem_of_getElem? (i := 11) rfl) rfl)⟩
abbrev M_X10_goesOn : pm_M := (yX10_goesOn, cX10_goesOn, 5, none)
theorem in_X10_goesOn : pm_in M_X10_goesOn := ⟨(lwm_tables_1_6 (List.mem_of_getElem? (i := 49) rfl) rfl), by decide +kernel, by decide, by decide +kernel, by decide +kernel, (lwm_tables_1_1 (List.mem_of_getElem? (i := 11) rfl) rfl)⟩
abbrev M_X10_watchedChanges : pm_M := (yX10_watchedChanges, cX10_watchedChanges, 3, (some .int))
theorem in_X10_watchedChanges : pm_in M_X10_watchedChanges := ⟨(lwm_tables_1_6 (List.mem_of_getElem? (i := 37) rfl) rfl), by decide +kernel, by decide, by decide +kernel, by decide +kernel, (lwm_tables_1_1 (List.mem_of_getElem? (i := 11) rfl) rfl)⟩
abbrev M_X10_run : pm_M := (yX10_run, cX10_run, 4, (some .int))
theorem in_X10_run : pm_in M_X10_run := ⟨(lwm_tables_1_6 (List.mem_of_getElem? (i := 33) rfl) rfl), by decide +kernel, by decide, by decide +kernel, by decide +kernel, (lwm_tables_1_1 (List.mem_of_getElem? (i := 11) rfl) rfl)⟩
abbrev M_X10_watch : pm_M := (yX10_watch, cX10_watch, 3, (some .boolean))
theorem in_X10_watch : pm_in M_X10_watch := ⟨(lwm_tables_1_6 (List.mem_of_getElem? (i := 112) rfl) rfl), by decide +kernel, by decide, by decide +kernel, by decide +kernel, (lwm_tables_1_1 (List.mem_of_getElem? (i := 11) rfl) rfl)⟩
abbrev M_X10_simPokes : pm_M := (yX10_simPokes, cX10_simPokes, 2, none)
theorem in_X10_simPokes : pm_in M_X10_simPokes := ⟨(lwm_tables_1_6 (List.mem_of_getElem? (i := 140) rfl) rfl), by decide +kernel, by decide, by decide +kernel, by decide +kernel, (lwm_tables_1_1 (List.mem_of_getElem? (i := 11) rfl) rfl)⟩
abbrev M_X10_simBegins : pm_M := (yX10_simBegins, cX10_simBegins, 2, none)
theorem in_X10_simBegins : pm_in M_X10_simBegins := ⟨(lwm_tables_1_6 (List.mem_of_getElem? (i := 136) rfl) rfl), by decide +kernel, by decide, by decide +kernel, by decide +kernel, (lwm_tables_1_1 (List.mem_of_getElem? (i := 11) rfl) rfl)⟩
abbrev M_X10_simStep : pm_M := (yX10_simStep, cX10_simStep, 1, none)
theorem in_X10_simStep : pm_in M_X10_simStep := ⟨(lwm_tables_1_6 (List.mem_of_getElem? (i := 144) rfl) rfl), by decide +kernel, by decide, by decide +kernel, by decide +kernel, (lwm_tables_1_1 (List.mem_of_getElem? (i := 11) rfl) rfl)⟩
abbrev M_X10_lays : pm_M := (yX10_lays, cX10_lays, 3, none)
theorem in_X10_lays : pm_in M_X10_lays := ⟨(lwm_tables_1_6 (List.mem_of_getElem? (i := 132) rfl) rfl), by decide +kernel, by decide, by decide +kernel, by decide +kernel, (lwm_tables_1_1 (List.mem_of_getElem? (i := 11) rfl) rfl)⟩
abbrev M_X10_heldBy : pm_M := (yX10_heldBy, cX10_heldBy, 4, (some .int))
theorem in_X10_heldBy : pm_in M_X10_heldBy := ⟨(lwm_tables_1_6 (List.mem_of_getElem? (i := 124) rfl) rfl), by decide +kernel, by decide, by decide +kernel, by decide +kernel, (lwm_tables_1_1 (List.mem_of_getElem? (i := 11) rfl) rfl)⟩
abbrev M_X10_counts : pm_M := (yX10_counts, cX10_counts, 3, none)
theorem in_X10_counts : pm_in M_X10_counts := ⟨(lwm_tables_1_6 (List.mem_of_getElem? (i := 128) rfl) rfl), by decide +kernel, by decide, by decide +kernel, by decide +kernel, (lwm_tables_1_1 (List.mem_of_getElem? (i := 11) rfl) rfl)⟩
abbrev M_X10_replays : pm_M := (yX10_replays, cX10_replays, 3, none)
theorem in_X10_replays : pm_in M_X10_replays := ⟨(lwm_tables_1_6 (List.mem_of_getElem? (i := 120) rfl) rfl), by decide +kernel, by decide, by decide +kernel, by decide +kernel, (lwm_tables_1_1 (List.mem_of_getElem? (i := 11) rfl) rfl)⟩
abbrev M_X10_runAsked : pm_M := (yX10_runAsked, cX10_runAsked, 1, (some .int))
theorem in_X10_runAsked : pm_in M_X10_runAsked := ⟨(lwm_tables_1_6 (List.mem_of_getElem? (i := 167) rfl) rfl), by decide +kernel, by decide, by decide +kernel, by decide +kernel, (lwm_tables_1_1 (List.mem_of_getElem? (i := 11) rfl) rfl)⟩
abbrev M_X10_isTime : pm_M := (yX10_isTime, cX10_isTime, 3, (some .boolean))
theorem in_X10_isTime : pm_in M_X10_isTime := ⟨(lwm_tables_1_6 (List.mem_of_getElem? (i := 163) rfl) rfl), by decide +kernel, by decide, by decide +kernel, by decide +kernel, (lwm_tables_1_1 (List.mem_of_getElem? (i := 11) rfl) rfl)⟩
abbrev M_X10_back : pm_M := (yX10_back, cX10_back, 7, (some .int))
theorem in_X10_back : pm_in M_X10_back := ⟨(lwm_tables_1_6 (List.mem_of_getElem? (i := 116) rfl) rfl), by decide +kernel, by decide, by decide +kernel, by decide +kernel, (lwm_tables_1_1 (List.mem_of_getElem? (i := 11) rfl) rfl)⟩
abbrev M_X10_copies : pm_M := (yX10_copies, cX10_copies, 5, none)
theorem in_X10_copies : pm_in M_X10_copies := ⟨(lwm_tables_1_6 (List.mem_of_getElem? (i := 151) rfl) rfl), by decide +kernel, by decide, by decide +kernel, by decide +kernel, (lwm_tables_1_1 (List.mem_of_getElem? (i := 11) rfl) rfl)⟩
abbrev M_X10_keep : pm_M := (yX10_keep, cX10_keep, 3, (some .int))
theorem in_X10_keep : pm_in M_X10_keep := ⟨(lwm_tables_1_6 (List.mem_of_getElem? (i := 148) rfl) rfl), by decide +kernel, by decide, by decide +kernel, by decide +kernel, (lwm_tables_1_1 (List.mem_of_getElem? (i := 11) rfl) rfl)⟩
abbrev M_X10_use : pm_M := (yX10_use, cX10_use, 2, (some .boolean))
theorem in_X10_use : pm_in M_X10_use := ⟨(lwm_tables_1_6 (List.mem_of_getElem? (i := 155) rfl) rfl), by decide +kernel, by decide, by decide +kernel, by decide +kernel, (lwm_tables_1_1 (List.mem_of_getElem? (i := 11) rfl) rfl)⟩
abbrev M_X10_at : pm_M := (yX10_at, cX10_at, 4, (some .int))
theorem in_X10_at : pm_in M_X10_at := ⟨(lwm_tables_1_6 (List.mem_of_getElem? (i := 159) rfl) rfl), by decide +kernel, by decide, by decide +kernel, by decide +kernel, (lwm_tables_1_1 (List.mem_of_getElem? (i := 11) rfl) rfl)⟩
abbrev M_X10_state : pm_M := (yX10_state, cX10_state, 3, (some .int))
theorem in_X10_state : pm_in M_X10_state := ⟨(lwm_tables_1_6 (List.mem_of_getElem? (i := 172) rfl) rfl), by decide +kernel, by decide, by decide +kernel, by decide +kernel, (lwm_tables_1_1 (List.mem_of_getElem? (i := 11) rfl) rfl)⟩
abbrev M_X10_lastOf : pm_M := (yX10_lastOf, cX10_lastOf, 8, (some .int))
theorem in_X10_lastOf : pm_in M_X10_lastOf := ⟨(lwm_tables_1_6 (List.mem_of_getElem? (i := 180) rfl) rfl), by decide +kernel, by decide, by decide +kernel, by decide +kernel, (lwm_tables_1_1 (List.mem_of_getElem? (i := 11) rfl) rfl)⟩
abbrev M_X10_last : pm_M := (yX10_last, cX10_last, 3, (some .int))
theorem in_X10_last : pm_in M_X10_last := ⟨(lwm_tables_1_6 (List.mem_of_getElem? (i := 176) rfl) rfl), by decide +kernel, by decide, by decide +kernel, by decide +kernel, (lwm_tables_1_1 (List.mem_of_getElem? (i := 11) rfl) rfl)⟩
abbrev M_X10_hadIn : pm_M := (yX10_hadIn, cX10_hadIn, 9, (some .int))
theorem in_X10_hadIn : pm_in M_X10_hadIn := ⟨(lwm_tables_1_6 (List.mem_of_getElem? (i := 188) rfl) rfl), by decide +kernel, by decide, by decide +kernel, by decide +kernel, (lwm_tables_1_1 (List.mem_of_getElem? (i := 11) rfl) rfl)⟩
abbrev M_X10_when : pm_M := (yX10_when, cX10_when, 9, (some .int))
theorem in_X10_when : pm_in M_X10_when := ⟨(lwm_tables_1_6 (List.mem_of_getElem? (i := 184) rfl) rfl), by decide +kernel, by decide, by decide +kernel, by decide +kernel, (lwm_tables_1_1 (List.mem_of_getElem? (i := 11) rfl) rfl)⟩
abbrev M_X10_changed : pm_M := (yX10_changed, cX10_changed, 8, (some .int))
theorem in_X10_changed : pm_in M_X10_changed := ⟨(lwm_tables_1_6 (List.mem_of_getElem? (i := 192) rfl) rfl), by decide +kernel, by decide, by decide +kernel, by decide +kernel, (lwm_tables_1_1 (List.mem_of_getElem? (i := 11) rfl) rfl)⟩
abbrev M_X10_watched : pm_M := (yX10_watched, cX10_watched, 4, (some .int))
theorem in_X10_watched : pm_in M_X10_watched := ⟨(lwm_tables_1_6 (List.mem_of_getElem? (i := 196) rfl) rfl), by decide +kernel, by decide, by decide +kernel, by decide +kernel, (lwm_tables_1_1 (List.mem_of_getElem? (i := 11) rfl) rfl)⟩
abbrev M_X10_clearsLooked : pm_M := (yX10_clearsLooked, cX10_clearsLooked, 2, none)
theorem in_X10_clearsLooked : pm_in M_X10_clearsLooked := ⟨(lwm_tables_1_6 (List.mem_of_getElem? (i := 212) rfl) rfl), by decide +kernel, by decide, by decide +kernel, by decide +kernel, (lwm_tables_1_1 (List.mem_of_getElem? (i := 11) rfl) rfl)⟩
abbrev M_X10_looksAt : pm_M := (yX10_looksAt, cX10_looksAt, 3, none)
theorem in_X10_looksAt : pm_in M_X10_looksAt := ⟨(lwm_tables_1_6 (List.mem_of_getElem? (i := 228) rfl) rfl), by decide +kernel, by decide, by decide +kernel, by decide +kernel, (lwm_tables_1_1 (List.mem_of_getElem? (i := 11) rfl) rfl)⟩
abbrev M_X10_adds : pm_M := (yX10_adds, cX10_adds, 2, none)
theorem in_X10_adds : pm_in M_X10_adds := ⟨(lwm_tables_1_6 (List.mem_of_getElem? (i := 216) rfl) rfl), by decide +kernel, by decide, by decide +kernel, by decide +kernel, (lwm_tables_1_1 (List.mem_of_getElem? (i := 11) rfl) rfl)⟩
abbrev M_X10_restsOn : pm_M := (yX10_restsOn, cX10_restsOn, 3, none)
theorem in_X10_restsOn : pm_in M_X10_restsOn := ⟨(lwm_tables_1_6 (List.mem_of_getElem? (i := 220) rfl) rfl), by decide +kernel, by decide, by decide +kernel, by decide +kernel, (lwm_tables_1_1 (List.mem_of_getElem? (i := 11) rfl) rfl)⟩
abbrev M_X10_restPokes : pm_M := (yX10_restPokes, cX10_restPokes, 2, none)
theorem in_X10_restPokes : pm_in M_X10_restPokes := ⟨(lwm_tables_1_6 (List.mem_of_getElem? (i := 208) rfl) rfl), by decide +kernel, by decide, by decide +kernel, by decide +kernel, (lwm_tables_1_1 (List.mem_of_getElem? (i := 11) rfl) rfl)⟩
abbrev M_X10_looks : pm_M := (yX10_looks, cX10_looks, 5, none)
theorem in_X10_looks : pm_in M_X10_looks := ⟨(lwm_tables_1_6 (List.mem_of_getElem? (i := 224) rfl) rfl), by decide +kernel, by decide, by decide +kernel, by decide +kernel, (lwm_tables_1_1 (List.mem_of_getElem? (i := 11) rfl) rfl)⟩
abbrev M_X10_laysRests : pm_M := (yX10_laysRests, cX10_laysRests, 4, none)
theorem in_X10_laysRests : pm_in M_X10_laysRests := ⟨(lwm_tables_1_6 (List.mem_of_getElem? (i := 204) rfl) rfl), by decide +kernel, by decide, by decide +kernel, by decide +kernel, (lwm_tables_1_1 (List.mem_of_getElem? (i := 11) rfl) rfl)⟩
abbrev M_X10_restsOnBit : pm_M := (yX10_restsOnBit, cX10_restsOnBit, 3, (some .boolean))
theorem in_X10_restsOnBit : pm_in M_X10_restsOnBit := ⟨(lwm_tables_1_6 (List.mem_of_getElem? (i := 232) rfl) rfl), by decide +kernel, by decide, by decide +kernel, by decide +kernel, (lwm_tables_1_1 (List.mem_of_getElem? (i := 11) rfl) rfl)⟩
abbrev M_X10_rests : pm_M := (yX10_rests, cX10_rests, 6, (some .int))
theorem in_X10_rests : pm_in M_X10_rests := ⟨(lwm_tables_1_6 (List.mem_of_getElem? (i := 200) rfl) rfl), by decide +kernel, by decide, by decide +kernel, by decide +kernel, (lwm_tables_1_1 (List.mem_of_getElem? (i := 11) rfl) rfl)⟩
abbrev M_X10_hangs : pm_M := (yX10_hangs, cX10_hangs, 9, (some .int))
theorem in_X10_hangs : pm_in M_X10_hangs := ⟨(lwm_tables_1_6 (List.mem_of_getElem? (i := 236) rfl) rfl), by decide +kernel, by decide, by decide +kernel, by decide +kernel, (lwm_tables_1_1 (List.mem_of_getElem? (i := 11) rfl) rfl)⟩
abbrev M_X10_history : pm_M := (yX10_history, cX10_history, 8, (some .int))
theorem in_X10_history : pm_in M_X10_history := ⟨(lwm_tables_1_7 (List.mem_of_getElem? (i := 0) rfl) rfl), by decide +kernel, by decide, by decide +kernel, by decide +kernel, (lwm_tables_1_1 (List.mem_of_getElem? (i := 11) rfl) rfl)⟩
abbrev M_X10_done : pm_M := (yX10_done, cX10_done, 6, (some .int))
theorem in_X10_done : pm_in M_X10_done := ⟨(lwm_tables_1_7 (List.mem_of_getElem? (i := 4) rfl) rfl), by decide +kernel, by decide, by decide +kernel, by decide +kernel, (lwm_tables_1_1 (List.mem_of_getElem? (i := 11) rfl) rfl)⟩
abbrev M_X10_call : pm_M := (yX10_call, cX10_call, 5, (some .int))
theorem in_X10_call : pm_in M_X10_call := ⟨(lwm_tables_1_7 (List.mem_of_getElem? (i := 8) rfl) rfl), by decide +kernel, by decide, by decide +kernel, by decide +kernel, (lwm_tables_1_1 (List.mem_of_getElem? (i := 11) rfl) rfl)⟩
abbrev M_X10_log : pm_M := (yX10_log, cX10_log, 5, (some .int))
theorem in_X10_log : pm_in M_X10_log := ⟨(lwm_tables_1_7 (List.mem_of_getElem? (i := 12) rfl) rfl), by decide +kernel, by decide, by decide +kernel, by decide +kernel, (lwm_tables_1_1 (List.mem_of_getElem? (i := 11) rfl) rfl)⟩
abbrev M_X10_held : pm_M := (yX10_held, cX10_held, 6, (some .int))
theorem in_X10_held : pm_in M_X10_held := ⟨(lwm_tables_1_7 (List.mem_of_getElem? (i := 16) rfl) rfl), by decide +kernel, by decide, by decide +kernel, by decide +kernel, (lwm_tables_1_1 (List.mem_of_getElem? (i := 11) rfl) rfl)⟩
abbrev M_X10_wouldBe : pm_M := (yX10_wouldBe, cX10_wouldBe, 4, (some .boolean))
theorem in_X10_wouldBe : pm_in M_X10_wouldBe := ⟨(lwm_tables_1_7 (List.mem_of_getElem? (i := 28) rfl) rfl), by decide +kernel, by decide, by decide +kernel, by decide +kernel, (lwm_tables_1_1 (List.mem_of_getElem? (i := 11) rfl) rfl)⟩
abbrev M_X10_wouldOf : pm_M := (yX10_wouldOf, cX10_wouldOf, 6, (some .int))
theorem in_X10_wouldOf : pm_in M_X10_wouldOf := ⟨(lwm_tables_1_7 (List.mem_of_getElem? (i := 24) rfl) rfl), by decide +kernel, by decide, by decide +kernel, by decide +kernel, (lwm_tables_1_1 (List.mem_of_getElem? (i := 11) rfl) rfl)⟩
abbrev M_X10_would : pm_M := (yX10_would, cX10_would, 4, (some .int))
theorem in_X10_would : pm_in M_X10_would := ⟨(lwm_tables_1_7 (List.mem_of_getElem? (i := 20) rfl) rfl), by decide +kernel, by decide, by decide +kernel, by decide +kernel, (lwm_tables_1_1 (List.mem_of_getElem? (i := 11) rfl) rfl)⟩
abbrev M_X10_gap : pm_M := (yX10_gap, cX10_gap, 7, (some .int))
theorem in_X10_gap : pm_in M_X10_gap := ⟨(lwm_tables_1_7 (List.mem_of_getElem? (i := 32) rfl) rfl), by decide +kernel, by decide, by decide +kernel, by decide +kernel, (lwm_tables_1_1 (List.mem_of_getElem? (i := 11) rfl) rfl)⟩
abbrev M_X10_sparing : pm_M := (yX10_sparing, cX10_sparing, 5, (some .int))
theorem in_X10_sparing : pm_in M_X10_sparing := ⟨(lwm_tables_1_7 (List.mem_of_getElem? (i := 36) rfl) rfl), by decide +kernel, by decide, by decide +kernel, by decide +kernel, (lwm_tables_1_1 (List.mem_of_getElem? (i := 11) rfl) rfl)⟩
abbrev M_X10_isThere : pm_M := (yX10_isThere, cX10_isThere, 2, (some .boolean))
theorem in_X10_isThere : pm_in M_X10_isThere := ⟨(lwm_tables_1_7 (List.mem_of_getElem? (i := 44) rfl) rfl), by decide +kernel, by decide, by decide +kernel, by decide +kernel, (lwm_tables_1_1 (List.mem_of_getElem? (i := 11) rfl) rfl)⟩
abbrev M_X10_areLike : pm_M := (yX10_areLike, cX10_areLike, 5, (some .boolean))
theorem in_X10_areLike : pm_in M_X10_areLike := ⟨(lwm_tables_1_7 (List.mem_of_getElem? (i := 52) rfl) rfl), by decide +kernel, by decide, by decide +kernel, by decide +kernel, (lwm_tables_1_1 (List.mem_of_getElem? (i := 11) rfl) rfl)⟩
abbrev M_X10_laysPairs : pm_M := (yX10_laysPairs, cX10_laysPairs, 8, none)
theorem in_X10_laysPairs : pm_in M_X10_laysPairs := ⟨(lwm_tables_1_7 (List.mem_of_getElem? (i := 48) rfl) rfl), by decide +kernel, by decide, by decide +kernel, by decide +kernel, (lwm_tables_1_1 (List.mem_of_getElem? (i := 11) rfl) rfl)⟩
abbrev M_X10_align : pm_M := (yX10_align, cX10_align, 3, (some .int))
theorem in_X10_align : pm_in M_X10_align := ⟨(lwm_tables_1_7 (List.mem_of_getElem? (i := 40) rfl) rfl), by decide +kernel, by decide, by decide +kernel, by decide +kernel, (lwm_tables_1_1 (List.mem_of_getElem? (i := 11) rfl) rfl)⟩
abbrev M_X10_finds : pm_M := (yX10_finds, cX10_finds, 8, none)
theorem in_X10_finds : pm_in M_X10_finds := ⟨(lwm_tables_1_7 (List.mem_of_getElem? (i := 60) rfl) rfl), by decide +kernel, by decide, by decide +kernel, by decide +kernel, (lwm_tables_1_1 (List.mem_of_getElem? (i := 11) rfl) rfl)⟩
abbrev M_X10_pair : pm_M := (yX10_pair, cX10_pair, 9, (some .int))
theorem in_X10_pair : pm_in M_X10_pair := ⟨(lwm_tables_1_7 (List.mem_of_getElem? (i := 56) rfl) rfl), by decide +kernel, by decide, by decide +kernel, by decide +kernel, (lwm_tables_1_1 (List.mem_of_getElem? (i := 11) rfl) rfl)⟩
abbrev M_X10_swaps : pm_M := (yX10_swaps, cX10_swaps, 3, none)
theorem in_X10_swaps : pm_in M_X10_swaps := ⟨(lwm_tables_1_7 (List.mem_of_getElem? (i := 68) rfl) rfl), by decide +kernel, by decide, by decide +kernel, by decide +kernel, (lwm_tables_1_1 (List.mem_of_getElem? (i := 11) rfl) rfl)⟩
abbrev M_X10_areStatesLike : pm_M := (yX10_areStatesLike, cX10_areStatesLike, 2, (some .boolean))
theorem in_X10_areStatesLike : pm_in M_X10_areStatesLike := ⟨(lwm_tables_1_7 (List.mem_of_getElem? (i := 72) rfl) rfl), by decide +kernel, by decide, by decide +kernel, by decide +kernel, (lwm_tables_1_1 (List.mem_of_getElem? (i := 11) rfl) rfl)⟩
abbrev M_X10_parts : pm_M := (yX10_parts, cX10_parts, 8, (some .int))
theorem in_X10_parts : pm_in M_X10_parts := ⟨(lwm_tables_1_7 (List.mem_of_getElem? (i := 64) rfl) rfl), by decide +kernel, by decide, by decide +kernel, by decide +kernel, (lwm_tables_1_1 (List.mem_of_getElem? (i := 11) rfl) rfl)⟩
abbrev M_X10_watchedOf : pm_M := (yX10_watchedOf, cX10_watchedOf, 5, (some .int))
theorem in_X10_watchedOf : pm_in M_X10_watchedOf := ⟨(lwm_tables_1_7 (List.mem_of_getElem? (i := 84) rfl) rfl), by decide +kernel, by decide, by decide +kernel, by decide +kernel, (lwm_tables_1_1 (List.mem_of_getElem? (i := 11) rfl) rfl)⟩
abbrev M_X10_ofRun : pm_M := (yX10_ofRun, cX10_ofRun, 3, (some .int))
theorem in_X10_ofRun : pm_in M_X10_ofRun := ⟨(lwm_tables_1_7 (List.mem_of_getElem? (i := 80) rfl) rfl), by decide +kernel, by decide, by decide +kernel, by decide +kernel, (lwm_tables_1_1 (List.mem_of_getElem? (i := 11) rfl) rfl)⟩
abbrev M_X10_look : pm_M := (yX10_look, cX10_look, 2, (some .int))
theorem in_X10_look : pm_in M_X10_look := ⟨(lwm_tables_1_7 (List.mem_of_getElem? (i := 76) rfl) rfl), by decide +kernel, by decide, by decide +kernel, by decide +kernel, (lwm_tables_1_1 (List.mem_of_getElem? (i := 11) rfl) rfl)⟩
abbrev M_J7_fill_53178 : pm_M := (yJ7_fill_53178, cJ7_fill_53178, 4, none)
theorem in_J7_fill_53178 : pm_in M_J7_fill_53178 := ⟨(lwm_tables_1_1 (List.mem_of_getElem? (i := 31) rfl) rfl), by decide +kernel, by decide, by decide +kernel, by decide +kernel, (lwm_tables_1_1 (List.mem_of_getElem? (i := 3) rfl) rfl)⟩
theorem ml_X9_11 : pm_lI RX9 11 M_X5_init 0 := ⟨in_X5_init, (lwm_tables_1_1 (List.mem_of_getElem? (i := 25) rfl) rfl), (lwm_tables_1_1 (List.mem_of_getElem? (i := 26) rfl) rfl), rfl, rfl, by decide +kernel⟩
theorem ml_X9_18 : pm_nI RX9 18 M_X4_init RX9 0 := ⟨in_X4_init, (lwt_tables_1_1 (List.mem_of_getElem? (i := 48) rfl)), (lwm_tables_1_1 (List.mem_of_getElem? (i := 49) rfl) rfl), rfl, rfl, by decide +kernel⟩
theorem ml_X9_25 : pm_nI RX9 25 M_X0_init RX9 0 := ⟨in_X0_init, (lwt_tables_1_1 (List.mem_of_getElem? (i := 70) rfl)), (lwm_tables_1_1 (List.mem_of_getElem? (i := 71) rfl) rfl), rfl, rfl, by decide +kernel⟩
theorem ml_X9_36 : pm_nI RX9 36 M_X7_init RX9 0 := ⟨in_X7_init, (lwt_tables_1_1 (List.mem_of_getElem? (i := 98) rfl)), (lwm_tables_1_1 (List.mem_of_getElem? (i := 99) rfl) rfl), rfl, rfl, by decide +kernel⟩
theorem ml_X9_70 : pm_lS RX9 70 M_X9_isInstructionPlace 1 := ⟨in_X9_isInstructionPlace, (lwm_tables_1_2 (List.mem_of_getElem? (i := 96) rfl) rfl), (lwm_tables_1_2 (List.mem_of_getElem? (i := 97) rfl) rfl), by decide +kernel⟩
theorem ml_X9_74 : pm_lS RX9 74 M_X9_isInstruction 4 := ⟨in_X9_isInstruction, (lwm_tables_1_2 (List.mem_of_getElem? (i := 99) rfl) rfl), (lwm_tables_1_2 (List.mem_of_getElem? (i := 100) rfl) rfl), by decide +kernel⟩
theorem ml_X9_78 : pm_lV RX9 78 M_X5_write 5 := ⟨in_X5_write, (lwm_tables_1_2 (List.mem_of_getElem? (i := 111) rfl) rfl), (lwm_tables_1_2 (List.mem_of_getElem? (i := 112) rfl) rfl), (lwm_tables_1_2 (List.mem_of_getElem? (i := 113) rfl) rfl), by decide +kernel⟩
theorem ml_X9_82 : pm_lS RX9 82 M_X9_isUnit 1 := ⟨in_X9_isUnit, (lwm_tables_1_2 (List.mem_of_getElem? (i := 120) rfl) rfl), (lwm_tables_1_2 (List.mem_of_getElem? (i := 121) rfl) rfl), by decide +kernel⟩
theorem ml_X9_85 : pm_lS RX9 85 M_X9_isDepth 1 := ⟨in_X9_isDepth, (lwm_tables_1_2 (List.mem_of_getElem? (i := 123) rfl) rfl), (lwm_tables_1_2 (List.mem_of_getElem? (i := 124) rfl) rfl), by decide +kernel⟩
theorem ml_X9_88 : pm_lV RX9 88 M_X7_start 3 := ⟨in_X7_start, (lwm_tables_1_2 (List.mem_of_getElem? (i := 130) rfl) rfl), (lwm_tables_1_2 (List.mem_of_getElem? (i := 131) rfl) rfl), (lwm_tables_1_2 (List.mem_of_getElem? (i := 132) rfl) rfl), by decide +kernel⟩
theorem ml_X9_92 : pm_lV RX9 92 M_X4_clearInputs 0 := ⟨in_X4_clearInputs, (lwm_tables_1_2 (List.mem_of_getElem? (i := 147) rfl) rfl), (lwm_tables_1_2 (List.mem_of_getElem? (i := 148) rfl) rfl), (lwm_tables_1_2 (List.mem_of_getElem? (i := 149) rfl) rfl), by decide +kernel⟩
theorem ml_X9_95 : pm_lV RX9 95 M_X5_size 0 := ⟨in_X5_size, (lwm_tables_1_2 (List.mem_of_getElem? (i := 151) rfl) rfl), (lwm_tables_1_2 (List.mem_of_getElem? (i := 152) rfl) rfl), (lwm_tables_1_2 (List.mem_of_getElem? (i := 153) rfl) rfl), by decide +kernel⟩
theorem ml_X9_102 : pm_lV RX9 102 M_X4_addLast 1 := ⟨in_X4_addLast, (lwm_tables_1_2 (List.mem_of_getElem? (i := 159) rfl) rfl), (lwm_tables_1_2 (List.mem_of_getElem? (i := 160) rfl) rfl), (lwm_tables_1_2 (List.mem_of_getElem? (i := 161) rfl) rfl), by decide +kernel⟩
theorem ml_X9_113 : pm_lV RX9 113 M_X3_isFull 0 := ⟨in_X3_isFull, (lwm_tables_1_2 (List.mem_of_getElem? (i := 171) rfl) rfl), (lwm_tables_1_2 (List.mem_of_getElem? (i := 172) rfl) rfl), (lwm_tables_1_2 (List.mem_of_getElem? (i := 173) rfl) rfl), by decide +kernel⟩
theorem ml_X9_119 : pm_lS RX9 119 M_X9_isPlace 1 := ⟨in_X9_isPlace, (lwm_tables_1_2 (List.mem_of_getElem? (i := 175) rfl) rfl), (lwm_tables_1_2 (List.mem_of_getElem? (i := 176) rfl) rfl), by decide +kernel⟩
theorem ml_X9_122 : pm_lS RX9 122 M_X9_isValue 2 := ⟨in_X9_isValue, (lwm_tables_1_2 (List.mem_of_getElem? (i := 178) rfl) rfl), (lwm_tables_1_2 (List.mem_of_getElem? (i := 179) rfl) rfl), by decide +kernel⟩
theorem ml_X9_126 : pm_lV RX9 126 M_X7_putByPoke 3 := ⟨in_X7_putByPoke, (lwm_tables_1_2 (List.mem_of_getElem? (i := 181) rfl) rfl), (lwm_tables_1_2 (List.mem_of_getElem? (i := 182) rfl) rfl), (lwm_tables_1_2 (List.mem_of_getElem? (i := 183) rfl) rfl), by decide +kernel⟩
theorem ml_X9_130 : pm_lV RX9 130 M_X7_canStep 1 := ⟨in_X7_canStep, (lwm_tables_1_2 (List.mem_of_getElem? (i := 226) rfl) rfl), (lwm_tables_1_2 (List.mem_of_getElem? (i := 227) rfl) rfl), (lwm_tables_1_2 (List.mem_of_getElem? (i := 228) rfl) rfl), by decide +kernel⟩
theorem ml_X9_134 : pm_lV RX9 134 M_X7_step 1 := ⟨in_X7_step, (lwm_tables_1_3 (List.mem_of_getElem? (i := 7) rfl) rfl), (lwm_tables_1_3 (List.mem_of_getElem? (i := 8) rfl) rfl), (lwm_tables_1_3 (List.mem_of_getElem? (i := 9) rfl) rfl), by decide +kernel⟩
theorem ml_X9_141 : pm_lV RX9 141 M_X9_isWatched 1 := ⟨in_X9_isWatched, (lwm_tables_1_3 (List.mem_of_getElem? (i := 149) rfl) rfl), (lwm_tables_1_3 (List.mem_of_getElem? (i := 151) rfl) rfl), (lwm_0 (List.mem_of_getElem? (i := 5) rfl) rfl), by decide +kernel⟩
theorem ml_X9_147 : pm_lV RX9 147 M_X9_replay 2 := ⟨in_X9_replay, (lwm_tables_1_3 (List.mem_of_getElem? (i := 161) rfl) rfl), (lwm_tables_1_3 (List.mem_of_getElem? (i := 163) rfl) rfl), (lwm_0 (List.mem_of_getElem? (i := 6) rfl) rfl), by decide +kernel⟩
theorem ml_X9_151 : pm_lV RX9 151 M_X7_goBack 2 := ⟨in_X7_goBack, (lwm_tables_1_3 (List.mem_of_getElem? (i := 177) rfl) rfl), (lwm_tables_1_3 (List.mem_of_getElem? (i := 178) rfl) rfl), (lwm_tables_1_3 (List.mem_of_getElem? (i := 179) rfl) rfl), by decide +kernel⟩
theorem ml_X9_155 : pm_lV RX9 155 M_X9_roomOfKept 1 := ⟨in_X9_roomOfKept, (lwm_tables_1_3 (List.mem_of_getElem? (i := 221) rfl) rfl), (lwm_tables_1_3 (List.mem_of_getElem? (i := 223) rfl) rfl), (lwm_0 (List.mem_of_getElem? (i := 10) rfl) rfl), by decide +kernel⟩
theorem ml_X9_159 : pm_lV RX9 159 M_X7_statusWith 1 := ⟨in_X7_statusWith, (lwm_tables_1_3 (List.mem_of_getElem? (i := 225) rfl) rfl), (lwm_tables_1_2 (List.mem_of_getElem? (i := 231) rfl) rfl), (lwm_tables_1_2 (List.mem_of_getElem? (i := 232) rfl) rfl), by decide +kernel⟩
theorem ml_X9_163 : pm_lV RX9 163 M_X7_takeFrom 2 := ⟨in_X7_takeFrom, (lwm_tables_1_3 (List.mem_of_getElem? (i := 226) rfl) rfl), (lwm_tables_1_3 (List.mem_of_getElem? (i := 227) rfl) rfl), (lwm_tables_1_3 (List.mem_of_getElem? (i := 228) rfl) rfl), by decide +kernel⟩
theorem ml_X9_166 : pm_lV RX9 166 M_X9_isKept 1 := ⟨in_X9_isKept, (lwm_tables_1_4 (List.mem_of_getElem? (i := 21) rfl) rfl), (lwm_tables_1_4 (List.mem_of_getElem? (i := 23) rfl) rfl), (lwm_0 (List.mem_of_getElem? (i := 11) rfl) rfl), by decide +kernel⟩
theorem ml_X9_169 : pm_lV RX9 169 M_X9_numbered 1 := ⟨in_X9_numbered, (lwm_tables_1_4 (List.mem_of_getElem? (i := 29) rfl) rfl), (lwm_tables_1_4 (List.mem_of_getElem? (i := 31) rfl) rfl), (lwm_0 (List.mem_of_getElem? (i := 12) rfl) rfl), by decide +kernel⟩
theorem ml_X9_172 : pm_lV RX9 172 M_X7_hasTime 1 := ⟨in_X7_hasTime, (lwm_tables_1_4 (List.mem_of_getElem? (i := 33) rfl) rfl), (lwm_tables_1_2 (List.mem_of_getElem? (i := 239) rfl) rfl), (lwm_tables_1_3 (List.mem_of_getElem? (i := 0) rfl) rfl), by decide +kernel⟩
theorem ml_X9_180 : pm_lV RX9 180 M_X6_putBy 2 := ⟨in_X6_putBy, (lwm_tables_1_4 (List.mem_of_getElem? (i := 35) rfl) rfl), (lwm_tables_1_4 (List.mem_of_getElem? (i := 36) rfl) rfl), (lwm_tables_1_4 (List.mem_of_getElem? (i := 37) rfl) rfl), by decide +kernel⟩
theorem ml_X9_186 : pm_lV RX9 186 M_X6_sortOf 1 := ⟨in_X6_sortOf, (lwm_tables_1_4 (List.mem_of_getElem? (i := 44) rfl) rfl), (lwm_tables_1_2 (List.mem_of_getElem? (i := 203) rfl) rfl), (lwm_tables_1_2 (List.mem_of_getElem? (i := 204) rfl) rfl), by decide +kernel⟩
theorem ml_X9_190 : pm_lV RX9 190 M_X6_numberOf 1 := ⟨in_X6_numberOf, (lwm_tables_1_4 (List.mem_of_getElem? (i := 45) rfl) rfl), (lwm_tables_1_2 (List.mem_of_getElem? (i := 207) rfl) rfl), (lwm_tables_1_2 (List.mem_of_getElem? (i := 208) rfl) rfl), by decide +kernel⟩
theorem ml_X9_193 : pm_lV RX9 193 M_X6_changesOf 1 := ⟨in_X6_changesOf, (lwm_tables_1_4 (List.mem_of_getElem? (i := 46) rfl) rfl), (lwm_tables_1_2 (List.mem_of_getElem? (i := 211) rfl) rfl), (lwm_tables_1_2 (List.mem_of_getElem? (i := 212) rfl) rfl), by decide +kernel⟩
theorem ml_X9_196 : pm_lS RX9 196 M_X9_isStateWhat 1 := ⟨in_X9_isStateWhat, (lwm_tables_1_4 (List.mem_of_getElem? (i := 51) rfl) rfl), (lwm_tables_1_4 (List.mem_of_getElem? (i := 52) rfl) rfl), by decide +kernel⟩
theorem ml_X9_199 : pm_lV RX9 199 M_X7_counterAt 1 := ⟨in_X7_counterAt, (lwm_tables_1_4 (List.mem_of_getElem? (i := 54) rfl) rfl), (lwm_tables_1_2 (List.mem_of_getElem? (i := 235) rfl) rfl), (lwm_tables_1_2 (List.mem_of_getElem? (i := 236) rfl) rfl), by decide +kernel⟩
theorem ml_X9_202 : pm_lV RX9 202 M_X7_stackSizeAt 1 := ⟨in_X7_stackSizeAt, (lwm_tables_1_4 (List.mem_of_getElem? (i := 55) rfl) rfl), (lwm_tables_1_3 (List.mem_of_getElem? (i := 93) rfl) rfl), (lwm_tables_1_3 (List.mem_of_getElem? (i := 94) rfl) rfl), by decide +kernel⟩
theorem ml_X9_205 : pm_lV RX9 205 M_X7_outsAt 1 := ⟨in_X7_outsAt, (lwm_tables_1_4 (List.mem_of_getElem? (i := 56) rfl) rfl), (lwm_tables_1_4 (List.mem_of_getElem? (i := 57) rfl) rfl), (lwm_tables_1_4 (List.mem_of_getElem? (i := 58) rfl) rfl), by decide +kernel⟩
theorem ml_X9_208 : pm_lV RX9 208 M_X7_checkAt 1 := ⟨in_X7_checkAt, (lwm_tables_1_4 (List.mem_of_getElem? (i := 60) rfl) rfl), (lwm_tables_1_4 (List.mem_of_getElem? (i := 61) rfl) rfl), (lwm_tables_1_4 (List.mem_of_getElem? (i := 62) rfl) rfl), by decide +kernel⟩
theorem ml_X9_212 : pm_lV RX9 212 M_X5_kindAt 1 := ⟨in_X5_kindAt, (lwm_tables_1_4 (List.mem_of_getElem? (i := 64) rfl) rfl), (lwm_tables_1_3 (List.mem_of_getElem? (i := 3) rfl) rfl), (lwm_tables_1_3 (List.mem_of_getElem? (i := 4) rfl) rfl), by decide +kernel⟩
theorem ml_X9_215 : pm_lV RX9 215 M_X7_stackedAt 2 := ⟨in_X7_stackedAt, (lwm_tables_1_4 (List.mem_of_getElem? (i := 65) rfl) rfl), (lwm_tables_1_3 (List.mem_of_getElem? (i := 112) rfl) rfl), (lwm_tables_1_3 (List.mem_of_getElem? (i := 113) rfl) rfl), by decide +kernel⟩
theorem ml_X9_218 : pm_lV RX9 218 M_X9_lastChange 3 := ⟨in_X9_lastChange, (lwm_tables_1_4 (List.mem_of_getElem? (i := 70) rfl) rfl), (lwm_tables_1_4 (List.mem_of_getElem? (i := 72) rfl) rfl), (lwm_0 (List.mem_of_getElem? (i := 14) rfl) rfl), by decide +kernel⟩
theorem ml_X9_222 : pm_lV RX9 222 M_X6_hadBy 4 := ⟨in_X6_hadBy, (lwm_tables_1_4 (List.mem_of_getElem? (i := 82) rfl) rfl), (lwm_tables_1_4 (List.mem_of_getElem? (i := 83) rfl) rfl), (lwm_tables_1_4 (List.mem_of_getElem? (i := 84) rfl) rfl), by decide +kernel⟩
theorem ml_X9_230 : pm_lV RX9 230 M_X2_stepsToFind 2 := ⟨in_X2_stepsToFind, (lwm_tables_1_4 (List.mem_of_getElem? (i := 86) rfl) rfl), (lwm_tables_1_4 (List.mem_of_getElem? (i := 87) rfl) rfl), (lwm_tables_1_4 (List.mem_of_getElem? (i := 88) rfl) rfl), by decide +kernel⟩
theorem ml_X9_235 : pm_lV RX9 235 M_X9_count 2 := ⟨in_X9_count, (lwm_tables_1_3 (List.mem_of_getElem? (i := 173) rfl) rfl), (lwm_tables_1_3 (List.mem_of_getElem? (i := 175) rfl) rfl), (lwm_0 (List.mem_of_getElem? (i := 7) rfl) rfl), by decide +kernel⟩
theorem ml_X9_238 : pm_lS RX9 238 M_X9_isPlacesWhat 1 := ⟨in_X9_isPlacesWhat, (lwm_tables_1_4 (List.mem_of_getElem? (i := 94) rfl) rfl), (lwm_tables_1_4 (List.mem_of_getElem? (i := 95) rfl) rfl), by decide +kernel⟩
theorem ml_X9_241 : pm_lS RX9 241 M_X9_placesOf 1 := ⟨in_X9_placesOf, (lwm_tables_1_4 (List.mem_of_getElem? (i := 97) rfl) rfl), (lwm_tables_1_4 (List.mem_of_getElem? (i := 98) rfl) rfl), by decide +kernel⟩
theorem ml_X9_244 : pm_lS RX9 244 M_X9_firstPlaceOf 1 := ⟨in_X9_firstPlaceOf, (lwm_tables_1_4 (List.mem_of_getElem? (i := 100) rfl) rfl), (lwm_tables_1_4 (List.mem_of_getElem? (i := 101) rfl) rfl), by decide +kernel⟩
theorem ml_X9_252 : pm_lV RX9 252 M_X6_markAllBelow 2 := ⟨in_X6_markAllBelow, (lwm_tables_1_4 (List.mem_of_getElem? (i := 112) rfl) rfl), (lwm_tables_1_4 (List.mem_of_getElem? (i := 113) rfl) rfl), (lwm_tables_1_4 (List.mem_of_getElem? (i := 114) rfl) rfl), by decide +kernel⟩
theorem ml_X9_256 : pm_lV RX9 256 M_X6_markedStep 2 := ⟨in_X6_markedStep, (lwm_tables_1_4 (List.mem_of_getElem? (i := 128) rfl) rfl), (lwm_tables_1_4 (List.mem_of_getElem? (i := 129) rfl) rfl), (lwm_tables_1_4 (List.mem_of_getElem? (i := 130) rfl) rfl), by decide +kernel⟩
theorem ml_X9_260 : pm_lV RX9 260 M_X3_has 1 := ⟨in_X3_has, (lwm_tables_1_4 (List.mem_of_getElem? (i := 136) rfl) rfl), (lwm_tables_1_3 (List.mem_of_getElem? (i := 190) rfl) rfl), (lwm_tables_1_3 (List.mem_of_getElem? (i := 191) rfl) rfl), by decide +kernel⟩
theorem ml_X9_263 : pm_lV RX9 263 M_X6_markAllAbove 2 := ⟨in_X6_markAllAbove, (lwm_tables_1_4 (List.mem_of_getElem? (i := 137) rfl) rfl), (lwm_tables_1_4 (List.mem_of_getElem? (i := 138) rfl) rfl), (lwm_tables_1_4 (List.mem_of_getElem? (i := 139) rfl) rfl), by decide +kernel⟩
theorem ml_X9_266 : pm_lS RX9 266 M_X9_isMarked 2 := ⟨in_X9_isMarked, (lwm_tables_1_4 (List.mem_of_getElem? (i := 141) rfl) rfl), (lwm_tables_1_4 (List.mem_of_getElem? (i := 126) rfl) rfl), by decide +kernel⟩
theorem ml_X9_270 : pm_lV RX9 270 M_X6_changeTimes 2 := ⟨in_X6_changeTimes, (lwm_tables_1_4 (List.mem_of_getElem? (i := 146) rfl) rfl), (lwm_tables_1_4 (List.mem_of_getElem? (i := 147) rfl) rfl), (lwm_tables_1_4 (List.mem_of_getElem? (i := 148) rfl) rfl), by decide +kernel⟩
theorem ml_X9_281 : pm_lV RX9 281 M_X1_read 2 := ⟨in_X1_read, (lwm_tables_1_4 (List.mem_of_getElem? (i := 158) rfl) rfl), (lwm_tables_1_4 (List.mem_of_getElem? (i := 159) rfl) rfl), (lwm_tables_1_4 (List.mem_of_getElem? (i := 160) rfl) rfl), by decide +kernel⟩
theorem ml_X9_285 : pm_lV RX9 285 M_X3_read 2 := ⟨in_X3_read, (lwm_tables_1_4 (List.mem_of_getElem? (i := 166) rfl) rfl), (lwm_tables_1_4 (List.mem_of_getElem? (i := 167) rfl) rfl), (lwm_tables_1_4 (List.mem_of_getElem? (i := 168) rfl) rfl), by decide +kernel⟩
theorem ml_X9_287 : pm_lV RX9 287 M_X2_timeOf 1 := ⟨in_X2_timeOf, (lwm_tables_1_4 (List.mem_of_getElem? (i := 175) rfl) rfl), (lwm_tables_1_3 (List.mem_of_getElem? (i := 170) rfl) rfl), (lwm_tables_1_3 (List.mem_of_getElem? (i := 171) rfl) rfl), by decide +kernel⟩
theorem ml_X9_290 : pm_lV RX9 290 M_X2_goesAt 1 := ⟨in_X2_goesAt, (lwm_tables_1_4 (List.mem_of_getElem? (i := 176) rfl) rfl), (lwm_tables_1_3 (List.mem_of_getElem? (i := 136) rfl) rfl), (lwm_tables_1_3 (List.mem_of_getElem? (i := 137) rfl) rfl), by decide +kernel⟩
theorem ml_X9_293 : pm_lS RX9 293 M_X9_isAnyTime 1 := ⟨in_X9_isAnyTime, (lwm_tables_1_4 (List.mem_of_getElem? (i := 181) rfl) rfl), (lwm_tables_1_4 (List.mem_of_getElem? (i := 182) rfl) rfl), by decide +kernel⟩
theorem ml_X9_296 : pm_lS RX9 296 M_X9_wouldBeHeld 3 := ⟨in_X9_wouldBeHeld, (lwm_tables_1_4 (List.mem_of_getElem? (i := 184) rfl) rfl), (lwm_tables_1_4 (List.mem_of_getElem? (i := 185) rfl) rfl), by decide +kernel⟩
theorem ml_X9_300 : pm_lS RX9 300 M_X2_isHeldStill 3 := ⟨in_X2_isHeldStill, (lwm_tables_1_4 (List.mem_of_getElem? (i := 187) rfl) rfl), (lwm_tables_1_4 (List.mem_of_getElem? (i := 188) rfl) rfl), by decide +kernel⟩
theorem ml_X9_303 : pm_lV RX9 303 M_X0_lay 2 := ⟨in_X0_lay, (lwm_tables_1_4 (List.mem_of_getElem? (i := 202) rfl) rfl), (lwm_tables_1_4 (List.mem_of_getElem? (i := 203) rfl) rfl), (lwm_tables_1_4 (List.mem_of_getElem? (i := 204) rfl) rfl), by decide +kernel⟩
theorem ml_X9_310 : pm_lV RX9 310 M_X0_has 1 := ⟨in_X0_has, (lwm_tables_1_4 (List.mem_of_getElem? (i := 225) rfl) rfl), (lwm_tables_1_4 (List.mem_of_getElem? (i := 226) rfl) rfl), (lwm_tables_1_4 (List.mem_of_getElem? (i := 227) rfl) rfl), by decide +kernel⟩
theorem ml_X9_311 : pm_lV RX9 311 M_X0_callOfOne 1 := ⟨in_X0_callOfOne, (lwm_tables_1_4 (List.mem_of_getElem? (i := 229) rfl) rfl), (lwm_tables_1_4 (List.mem_of_getElem? (i := 230) rfl) rfl), (lwm_tables_1_4 (List.mem_of_getElem? (i := 231) rfl) rfl), by decide +kernel⟩
theorem ml_X9_314 : pm_lV RX9 314 M_X0_callOfOther 1 := ⟨in_X0_callOfOther, (lwm_tables_1_4 (List.mem_of_getElem? (i := 234) rfl) rfl), (lwm_tables_1_4 (List.mem_of_getElem? (i := 235) rfl) rfl), (lwm_tables_1_4 (List.mem_of_getElem? (i := 236) rfl) rfl), by decide +kernel⟩
theorem ml_X9_317 : pm_lS RX9 317 M_X9_unlike 5 := ⟨in_X9_unlike, (lwm_tables_1_4 (List.mem_of_getElem? (i := 238) rfl) rfl), (lwm_tables_1_4 (List.mem_of_getElem? (i := 239) rfl) rfl), by decide +kernel⟩
theorem ml_X9_321 : pm_lV RX9 321 M_X0_firstUnlike 2 := ⟨in_X0_firstUnlike, (lwm_tables_1_5 (List.mem_of_getElem? (i := 6) rfl) rfl), (lwm_tables_1_5 (List.mem_of_getElem? (i := 7) rfl) rfl), (lwm_tables_1_5 (List.mem_of_getElem? (i := 8) rfl) rfl), by decide +kernel⟩
theorem ml_X9_325 : pm_lV RX9 325 M_X9_lookAtRun 2 := ⟨in_X9_lookAtRun, (lwm_tables_1_5 (List.mem_of_getElem? (i := 35) rfl) rfl), (lwm_tables_1_5 (List.mem_of_getElem? (i := 37) rfl) rfl), (lwm_0 (List.mem_of_getElem? (i := 20) rfl) rfl), by decide +kernel⟩
theorem ml_X9_347 : pm_lV RX9 347 M_X2_latestBy 1 := ⟨in_X2_latestBy, (lwm_tables_1_3 (List.mem_of_getElem? (i := 165) rfl) rfl), (lwm_tables_1_3 (List.mem_of_getElem? (i := 166) rfl) rfl), (lwm_tables_1_3 (List.mem_of_getElem? (i := 167) rfl) rfl), by decide +kernel⟩
theorem ml_X9_350 : pm_lV RX9 350 M_X6_changedSince 1 := ⟨in_X6_changedSince, (lwm_tables_1_4 (List.mem_of_getElem? (i := 74) rfl) rfl), (lwm_tables_1_4 (List.mem_of_getElem? (i := 75) rfl) rfl), (lwm_tables_1_4 (List.mem_of_getElem? (i := 76) rfl) rfl), by decide +kernel⟩
theorem ml_X9_353 : pm_lV RX9 353 M_X6_hasValue 3 := ⟨in_X6_hasValue, (lwm_tables_1_5 (List.mem_of_getElem? (i := 1) rfl) rfl), (lwm_tables_1_2 (List.mem_of_getElem? (i := 199) rfl) rfl), (lwm_tables_1_2 (List.mem_of_getElem? (i := 200) rfl) rfl), by decide +kernel⟩
theorem ml_X9_375 : pm_lS RX9 375 M_X9_fits 2 := ⟨in_X9_fits, (lwm_tables_1_2 (List.mem_of_getElem? (i := 108) rfl) rfl), (lwm_tables_1_2 (List.mem_of_getElem? (i := 109) rfl) rfl), by decide +kernel⟩
theorem ml_X0_33 : pm_lV RX0 33 M_X0_has 1 := ⟨in_X0_has, (lwm_tables_1_4 (List.mem_of_getElem? (i := 233) rfl) rfl), (lwm_tables_1_4 (List.mem_of_getElem? (i := 226) rfl) rfl), (lwm_tables_1_4 (List.mem_of_getElem? (i := 227) rfl) rfl), by decide +kernel⟩
theorem ml_X0_48 : pm_lV RX0 48 M_X0_countPairs 4 := ⟨in_X0_countPairs, (lwm_tables_1_4 (List.mem_of_getElem? (i := 207) rfl) rfl), (lwm_tables_1_4 (List.mem_of_getElem? (i := 209) rfl) rfl), (lwm_0 (List.mem_of_getElem? (i := 17) rfl) rfl), by decide +kernel⟩
theorem ml_X0_52 : pm_lV RX0 52 M_X0_choosePairs 4 := ⟨in_X0_choosePairs, (lwm_tables_1_4 (List.mem_of_getElem? (i := 217) rfl) rfl), (lwm_tables_1_4 (List.mem_of_getElem? (i := 219) rfl) rfl), (lwm_0 (List.mem_of_getElem? (i := 18) rfl) rfl), by decide +kernel⟩
theorem ml_X0_55 : pm_lS RX0 55 M_J7_fill_53178 2 := ⟨in_J7_fill_53178, (lwm_tables_1_4 (List.mem_of_getElem? (i := 211) rfl) rfl), (lwm_tables_1_1 (List.mem_of_getElem? (i := 30) rfl) rfl), by decide +kernel⟩
theorem ml_X0_64 : pm_lV RX0 64 M_X1_isLike 3 := ⟨in_X1_isLike, (lwm_tables_1_4 (List.mem_of_getElem? (i := 213) rfl) rfl), (lwm_tables_1_4 (List.mem_of_getElem? (i := 214) rfl) rfl), (lwm_tables_1_4 (List.mem_of_getElem? (i := 215) rfl) rfl), by decide +kernel⟩
theorem ml_X0_77 : pm_lS RX0 77 M_X0_goThrough 4 := ⟨in_X0_goThrough, (lwm_tables_1_5 (List.mem_of_getElem? (i := 10) rfl) rfl), (lwm_tables_1_5 (List.mem_of_getElem? (i := 11) rfl) rfl), by decide +kernel⟩
theorem ml_X0_81 : pm_lV RX0 81 M_X7_counterAt 1 := ⟨in_X7_counterAt, (lwm_tables_1_5 (List.mem_of_getElem? (i := 18) rfl) rfl), (lwm_tables_1_2 (List.mem_of_getElem? (i := 235) rfl) rfl), (lwm_tables_1_2 (List.mem_of_getElem? (i := 236) rfl) rfl), by decide +kernel⟩
theorem ml_X0_85 : pm_lV RX0 85 M_X7_hasStackLike 2 := ⟨in_X7_hasStackLike, (lwm_tables_1_5 (List.mem_of_getElem? (i := 19) rfl) rfl), (lwm_tables_1_5 (List.mem_of_getElem? (i := 20) rfl) rfl), (lwm_tables_1_5 (List.mem_of_getElem? (i := 21) rfl) rfl), by decide +kernel⟩
theorem ml_X0_89 : pm_lV RX0 89 M_X0_areUnlike 5 := ⟨in_X0_areUnlike, (lwm_tables_1_5 (List.mem_of_getElem? (i := 23) rfl) rfl), (lwm_tables_1_5 (List.mem_of_getElem? (i := 25) rfl) rfl), (lwm_0 (List.mem_of_getElem? (i := 19) rfl) rfl), by decide +kernel⟩
theorem ml_X0_96 : pm_lV RX0 96 M_X6_timeOf 1 := ⟨in_X6_timeOf, (lwm_tables_1_5 (List.mem_of_getElem? (i := 13) rfl) rfl), (lwm_tables_1_3 (List.mem_of_getElem? (i := 202) rfl) rfl), (lwm_tables_1_3 (List.mem_of_getElem? (i := 203) rfl) rfl), by decide +kernel⟩
theorem ml_X0_99 : pm_lV RX0 99 M_X6_placeOf 1 := ⟨in_X6_placeOf, (lwm_tables_1_5 (List.mem_of_getElem? (i := 14) rfl) rfl), (lwm_tables_1_5 (List.mem_of_getElem? (i := 15) rfl) rfl), (lwm_tables_1_5 (List.mem_of_getElem? (i := 16) rfl) rfl), by decide +kernel⟩
theorem ml_X0_102 : pm_nS RX0 102 M_X9_isPlace RX9 1 := ⟨in_X9_isPlace, (lwt_tables_1_5 (List.mem_of_getElem? (i := 27) rfl)), (lwm_tables_1_2 (List.mem_of_getElem? (i := 176) rfl) rfl), by decide +kernel⟩
theorem ml_X0_105 : pm_lV RX0 105 M_X6_sortOf 1 := ⟨in_X6_sortOf, (lwm_tables_1_5 (List.mem_of_getElem? (i := 28) rfl) rfl), (lwm_tables_1_2 (List.mem_of_getElem? (i := 203) rfl) rfl), (lwm_tables_1_2 (List.mem_of_getElem? (i := 204) rfl) rfl), by decide +kernel⟩
theorem ml_X0_108 : pm_lV RX0 108 M_X6_numberOf 1 := ⟨in_X6_numberOf, (lwm_tables_1_5 (List.mem_of_getElem? (i := 29) rfl) rfl), (lwm_tables_1_2 (List.mem_of_getElem? (i := 207) rfl) rfl), (lwm_tables_1_2 (List.mem_of_getElem? (i := 208) rfl) rfl), by decide +kernel⟩
theorem ml_X0_111 : pm_lV RX0 111 M_X6_hasValue 3 := ⟨in_X6_hasValue, (lwm_tables_1_5 (List.mem_of_getElem? (i := 30) rfl) rfl), (lwm_tables_1_2 (List.mem_of_getElem? (i := 199) rfl) rfl), (lwm_tables_1_2 (List.mem_of_getElem? (i := 200) rfl) rfl), by decide +kernel⟩
theorem ml_X1_25 : pm_nS RX1 25 M_X9_copyRow RX9 3 := ⟨in_X9_copyRow, (lwt_tables_1_4 (List.mem_of_getElem? (i := 10) rfl)), (lwm_tables_1_3 (List.mem_of_getElem? (i := 235) rfl) rfl), by decide +kernel⟩
theorem ml_X1_29 : pm_lV RX1 29 M_X1_has 1 := ⟨in_X1_has, (lwm_tables_1_3 (List.mem_of_getElem? (i := 209) rfl) rfl), (lwm_tables_1_3 (List.mem_of_getElem? (i := 211) rfl) rfl), (lwm_0 (List.mem_of_getElem? (i := 9) rfl) rfl), by decide +kernel⟩
theorem ml_X2_28 : pm_nS RX2 28 M_X9_copyRow RX9 3 := ⟨in_X9_copyRow, (lwt_tables_1_4 (List.mem_of_getElem? (i := 15) rfl)), (lwm_tables_1_3 (List.mem_of_getElem? (i := 235) rfl) rfl), by decide +kernel⟩
theorem ml_X2_32 : pm_lS RX2 32 M_X2_goesWith 2 := ⟨in_X2_goesWith, (lwm_tables_1_3 (List.mem_of_getElem? (i := 143) rfl) rfl), (lwm_tables_1_3 (List.mem_of_getElem? (i := 144) rfl) rfl), by decide +kernel⟩
theorem ml_X2_36 : pm_lV RX2 36 M_X2_has 1 := ⟨in_X2_has, (lwm_tables_1_3 (List.mem_of_getElem? (i := 139) rfl) rfl), (lwm_tables_1_3 (List.mem_of_getElem? (i := 141) rfl) rfl), (lwm_0 (List.mem_of_getElem? (i := 4) rfl) rfl), by decide +kernel⟩
theorem ml_X2_40 : pm_lV RX2 40 M_X2_dropWhatGoesBy 1 := ⟨in_X2_dropWhatGoesBy, (lwm_tables_1_3 (List.mem_of_getElem? (i := 131) rfl) rfl), (lwm_tables_1_3 (List.mem_of_getElem? (i := 133) rfl) rfl), (lwm_0 (List.mem_of_getElem? (i := 3) rfl) rfl), by decide +kernel⟩
theorem ml_X2_49 : pm_lV RX2 49 M_X2_goesAt 1 := ⟨in_X2_goesAt, (lwm_tables_1_3 (List.mem_of_getElem? (i := 135) rfl) rfl), (lwm_tables_1_3 (List.mem_of_getElem? (i := 136) rfl) rfl), (lwm_tables_1_3 (List.mem_of_getElem? (i := 137) rfl) rfl), by decide +kernel⟩
theorem ml_X2_53 : pm_lV RX2 53 M_X2_timeOf 1 := ⟨in_X2_timeOf, (lwm_tables_1_3 (List.mem_of_getElem? (i := 169) rfl) rfl), (lwm_tables_1_3 (List.mem_of_getElem? (i := 170) rfl) rfl), (lwm_tables_1_3 (List.mem_of_getElem? (i := 171) rfl) rfl), by decide +kernel⟩
theorem ml_X3_31 : pm_nS RX3 31 M_X9_copyRow RX9 3 := ⟨in_X9_copyRow, (lwt_tables_1_3 (List.mem_of_getElem? (i := 234) rfl)), (lwm_tables_1_3 (List.mem_of_getElem? (i := 235) rfl) rfl), by decide +kernel⟩
theorem ml_X3_35 : pm_lV RX3 35 M_X3_add 5 := ⟨in_X3_add, (lwm_tables_1_2 (List.mem_of_getElem? (i := 189) rfl) rfl), (lwm_tables_1_2 (List.mem_of_getElem? (i := 191) rfl) rfl), (lwm_0 (List.mem_of_getElem? (i := 0) rfl) rfl), by decide +kernel⟩
theorem ml_X3_39 : pm_lV RX3 39 M_X3_has 1 := ⟨in_X3_has, (lwm_tables_1_3 (List.mem_of_getElem? (i := 189) rfl) rfl), (lwm_tables_1_3 (List.mem_of_getElem? (i := 190) rfl) rfl), (lwm_tables_1_3 (List.mem_of_getElem? (i := 191) rfl) rfl), by decide +kernel⟩
theorem ml_X3_44 : pm_lV RX3 44 M_X3_isBehind 2 := ⟨in_X3_isBehind, (lwm_tables_1_3 (List.mem_of_getElem? (i := 185) rfl) rfl), (lwm_tables_1_3 (List.mem_of_getElem? (i := 187) rfl) rfl), (lwm_0 (List.mem_of_getElem? (i := 8) rfl) rfl), by decide +kernel⟩
theorem ml_X3_48 : pm_lV RX3 48 M_X4_addFirst 1 := ⟨in_X4_addFirst, (lwm_tables_1_3 (List.mem_of_getElem? (i := 193) rfl) rfl), (lwm_tables_1_3 (List.mem_of_getElem? (i := 194) rfl) rfl), (lwm_tables_1_3 (List.mem_of_getElem? (i := 195) rfl) rfl), by decide +kernel⟩
theorem ml_X5_24 : pm_lS RX5 24 M_J7_fill_53178 2 := ⟨in_J7_fill_53178, (lwm_tables_1_1 (List.mem_of_getElem? (i := 29) rfl) rfl), (lwm_tables_1_1 (List.mem_of_getElem? (i := 30) rfl) rfl), by decide +kernel⟩
theorem ml_X5_30 : pm_nS RX5 30 M_X9_isInstructionPlace RX9 1 := ⟨in_X9_isInstructionPlace, (lwt_tables_1_2 (List.mem_of_getElem? (i := 115) rfl)), (lwm_tables_1_2 (List.mem_of_getElem? (i := 97) rfl) rfl), by decide +kernel⟩
theorem ml_X5_34 : pm_lV RX5 34 M_X5_write 5 := ⟨in_X5_write, (lwm_tables_1_2 (List.mem_of_getElem? (i := 138) rfl) rfl), (lwm_tables_1_2 (List.mem_of_getElem? (i := 112) rfl) rfl), (lwm_tables_1_2 (List.mem_of_getElem? (i := 113) rfl) rfl), by decide +kernel⟩
theorem ml_X6_49 : pm_lS RX6 49 M_J7_fill_53178 2 := ⟨in_J7_fill_53178, (lwm_tables_1_1 (List.mem_of_getElem? (i := 138) rfl) rfl), (lwm_tables_1_1 (List.mem_of_getElem? (i := 30) rfl) rfl), by decide +kernel⟩
theorem ml_X6_55 : pm_nS RX6 55 M_X9_copyRow RX9 3 := ⟨in_X9_copyRow, (lwt_tables_1_4 (List.mem_of_getElem? (i := 5) rfl)), (lwm_tables_1_3 (List.mem_of_getElem? (i := 235) rfl) rfl), by decide +kernel⟩
theorem ml_X6_59 : pm_lV RX6 59 M_X6_has 1 := ⟨in_X6_has, (lwm_tables_1_2 (List.mem_of_getElem? (i := 214) rfl) rfl), (lwm_tables_1_2 (List.mem_of_getElem? (i := 216) rfl) rfl), (lwm_0 (List.mem_of_getElem? (i := 1) rfl) rfl), by decide +kernel⟩
theorem ml_X6_63 : pm_nS RX6 63 M_X9_isPlace RX9 1 := ⟨in_X9_isPlace, (lwt_tables_1_2 (List.mem_of_getElem? (i := 197) rfl)), (lwm_tables_1_2 (List.mem_of_getElem? (i := 176) rfl) rfl), by decide +kernel⟩
theorem ml_X6_66 : pm_lV RX6 66 M_X6_sortOf 1 := ⟨in_X6_sortOf, (lwm_tables_1_2 (List.mem_of_getElem? (i := 202) rfl) rfl), (lwm_tables_1_2 (List.mem_of_getElem? (i := 203) rfl) rfl), (lwm_tables_1_2 (List.mem_of_getElem? (i := 204) rfl) rfl), by decide +kernel⟩
theorem ml_X6_70 : pm_lV RX6 70 M_X6_numberOf 1 := ⟨in_X6_numberOf, (lwm_tables_1_2 (List.mem_of_getElem? (i := 206) rfl) rfl), (lwm_tables_1_2 (List.mem_of_getElem? (i := 207) rfl) rfl), (lwm_tables_1_2 (List.mem_of_getElem? (i := 208) rfl) rfl), by decide +kernel⟩
theorem ml_X6_73 : pm_lV RX6 73 M_X6_hasValue 3 := ⟨in_X6_hasValue, (lwm_tables_1_2 (List.mem_of_getElem? (i := 198) rfl) rfl), (lwm_tables_1_2 (List.mem_of_getElem? (i := 199) rfl) rfl), (lwm_tables_1_2 (List.mem_of_getElem? (i := 200) rfl) rfl), by decide +kernel⟩
theorem ml_X6_77 : pm_lV RX6 77 M_X6_changesOf 1 := ⟨in_X6_changesOf, (lwm_tables_1_2 (List.mem_of_getElem? (i := 210) rfl) rfl), (lwm_tables_1_2 (List.mem_of_getElem? (i := 211) rfl) rfl), (lwm_tables_1_2 (List.mem_of_getElem? (i := 212) rfl) rfl), by decide +kernel⟩
theorem ml_X6_80 : pm_lV RX6 80 M_X6_timeOf 1 := ⟨in_X6_timeOf, (lwm_tables_1_3 (List.mem_of_getElem? (i := 201) rfl) rfl), (lwm_tables_1_3 (List.mem_of_getElem? (i := 202) rfl) rfl), (lwm_tables_1_3 (List.mem_of_getElem? (i := 203) rfl) rfl), by decide +kernel⟩
theorem ml_X6_83 : pm_lV RX6 83 M_X6_latestOf 1 := ⟨in_X6_latestOf, (lwm_tables_1_4 (List.mem_of_getElem? (i := 39) rfl) rfl), (lwm_tables_1_3 (List.mem_of_getElem? (i := 35) rfl) rfl), (lwm_tables_1_3 (List.mem_of_getElem? (i := 36) rfl) rfl), by decide +kernel⟩
theorem ml_X6_86 : pm_lV RX6 86 M_X6_aheadOf 1 := ⟨in_X6_aheadOf, (lwm_tables_1_4 (List.mem_of_getElem? (i := 40) rfl) rfl), (lwm_tables_1_4 (List.mem_of_getElem? (i := 42) rfl) rfl), (lwm_0 (List.mem_of_getElem? (i := 13) rfl) rfl), by decide +kernel⟩
theorem ml_X6_89 : pm_lV RX6 89 M_X6_unmarkAll 1 := ⟨in_X6_unmarkAll, (lwm_tables_1_4 (List.mem_of_getElem? (i := 116) rfl) rfl), (lwm_tables_1_4 (List.mem_of_getElem? (i := 118) rfl) rfl), (lwm_0 (List.mem_of_getElem? (i := 15) rfl) rfl), by decide +kernel⟩
theorem ml_X6_93 : pm_lV RX6 93 M_X6_mark 2 := ⟨in_X6_mark, (lwm_tables_1_4 (List.mem_of_getElem? (i := 120) rfl) rfl), (lwm_tables_1_4 (List.mem_of_getElem? (i := 122) rfl) rfl), (lwm_0 (List.mem_of_getElem? (i := 16) rfl) rfl), by decide +kernel⟩
theorem ml_X6_103 : pm_nS RX6 103 M_X9_isMarked RX9 2 := ⟨in_X9_isMarked, (lwt_tables_1_4 (List.mem_of_getElem? (i := 125) rfl)), (lwm_tables_1_4 (List.mem_of_getElem? (i := 126) rfl) rfl), by decide +kernel⟩
theorem ml_X7_11 : pm_lI RX7 11 M_X5_init 0 := ⟨in_X5_init, (lwm_tables_1_1 (List.mem_of_getElem? (i := 103) rfl) rfl), (lwm_tables_1_1 (List.mem_of_getElem? (i := 26) rfl) rfl), rfl, rfl, by decide +kernel⟩
theorem ml_X7_20 : pm_nI RX7 20 M_X3_init RX9 0 := ⟨in_X3_init, (lwt_tables_1_1 (List.mem_of_getElem? (i := 106) rfl)), (lwm_tables_1_1 (List.mem_of_getElem? (i := 107) rfl) rfl), rfl, rfl, by decide +kernel⟩
theorem ml_X7_27 : pm_lI RX7 27 M_X6_init 0 := ⟨in_X6_init, (lwm_tables_1_1 (List.mem_of_getElem? (i := 134) rfl) rfl), (lwm_tables_1_1 (List.mem_of_getElem? (i := 135) rfl) rfl), rfl, rfl, by decide +kernel⟩
theorem ml_X7_34 : pm_nI RX7 34 M_X1_init RX9 0 := ⟨in_X1_init, (lwt_tables_1_1 (List.mem_of_getElem? (i := 179) rfl)), (lwm_tables_1_1 (List.mem_of_getElem? (i := 180) rfl) rfl), rfl, rfl, by decide +kernel⟩
theorem ml_X7_41 : pm_nI RX7 41 M_X2_init RX9 0 := ⟨in_X2_init, (lwt_tables_1_1 (List.mem_of_getElem? (i := 201) rfl)), (lwm_tables_1_1 (List.mem_of_getElem? (i := 202) rfl) rfl), rfl, rfl, by decide +kernel⟩
theorem ml_X7_78 : pm_lV RX7 78 M_X5_takeFrom 1 := ⟨in_X5_takeFrom, (lwm_tables_1_2 (List.mem_of_getElem? (i := 134) rfl) rfl), (lwm_tables_1_2 (List.mem_of_getElem? (i := 135) rfl) rfl), (lwm_tables_1_2 (List.mem_of_getElem? (i := 136) rfl) rfl), by decide +kernel⟩
theorem ml_X7_82 : pm_lV RX7 82 M_X3_takeFrom 1 := ⟨in_X3_takeFrom, (lwm_tables_1_3 (List.mem_of_getElem? (i := 230) rfl) rfl), (lwm_tables_1_3 (List.mem_of_getElem? (i := 231) rfl) rfl), (lwm_tables_1_3 (List.mem_of_getElem? (i := 232) rfl) rfl), by decide +kernel⟩
theorem ml_X7_85 : pm_lV RX7 85 M_X6_takeFrom 1 := ⟨in_X6_takeFrom, (lwm_tables_1_4 (List.mem_of_getElem? (i := 1) rfl) rfl), (lwm_tables_1_4 (List.mem_of_getElem? (i := 2) rfl) rfl), (lwm_tables_1_4 (List.mem_of_getElem? (i := 3) rfl) rfl), by decide +kernel⟩
theorem ml_X7_88 : pm_lV RX7 88 M_X1_takeFrom 1 := ⟨in_X1_takeFrom, (lwm_tables_1_4 (List.mem_of_getElem? (i := 6) rfl) rfl), (lwm_tables_1_4 (List.mem_of_getElem? (i := 7) rfl) rfl), (lwm_tables_1_4 (List.mem_of_getElem? (i := 8) rfl) rfl), by decide +kernel⟩
theorem ml_X7_91 : pm_lV RX7 91 M_X2_takeFrom 1 := ⟨in_X2_takeFrom, (lwm_tables_1_4 (List.mem_of_getElem? (i := 11) rfl) rfl), (lwm_tables_1_4 (List.mem_of_getElem? (i := 12) rfl) rfl), (lwm_tables_1_4 (List.mem_of_getElem? (i := 13) rfl) rfl), by decide +kernel⟩
theorem ml_X7_94 : pm_nS RX7 94 M_X9_copyRow RX9 3 := ⟨in_X9_copyRow, (lwt_tables_1_4 (List.mem_of_getElem? (i := 16) rfl)), (lwm_tables_1_3 (List.mem_of_getElem? (i := 235) rfl) rfl), by decide +kernel⟩
theorem ml_X7_101 : pm_lV RX7 101 M_X6_clear 0 := ⟨in_X6_clear, (lwm_tables_1_2 (List.mem_of_getElem? (i := 139) rfl) rfl), (lwm_tables_1_2 (List.mem_of_getElem? (i := 140) rfl) rfl), (lwm_tables_1_2 (List.mem_of_getElem? (i := 141) rfl) rfl), by decide +kernel⟩
theorem ml_X7_105 : pm_lV RX7 105 M_X2_start 2 := ⟨in_X2_start, (lwm_tables_1_2 (List.mem_of_getElem? (i := 143) rfl) rfl), (lwm_tables_1_2 (List.mem_of_getElem? (i := 144) rfl) rfl), (lwm_tables_1_2 (List.mem_of_getElem? (i := 145) rfl) rfl), by decide +kernel⟩
theorem ml_X7_109 : pm_lV RX7 109 M_X7_hasTime 1 := ⟨in_X7_hasTime, (lwm_tables_1_2 (List.mem_of_getElem? (i := 238) rfl) rfl), (lwm_tables_1_2 (List.mem_of_getElem? (i := 239) rfl) rfl), (lwm_tables_1_3 (List.mem_of_getElem? (i := 0) rfl) rfl), by decide +kernel⟩
theorem ml_X7_113 : pm_lV RX7 113 M_X7_topAt 1 := ⟨in_X7_topAt, (lwm_tables_1_3 (List.mem_of_getElem? (i := 96) rfl) rfl), (lwm_tables_1_3 (List.mem_of_getElem? (i := 98) rfl) rfl), (lwm_0 (List.mem_of_getElem? (i := 2) rfl) rfl), by decide +kernel⟩
theorem ml_X7_117 : pm_lV RX7 117 M_X7_stackSizeAt 1 := ⟨in_X7_stackSizeAt, (lwm_tables_1_3 (List.mem_of_getElem? (i := 115) rfl) rfl), (lwm_tables_1_3 (List.mem_of_getElem? (i := 93) rfl) rfl), (lwm_tables_1_3 (List.mem_of_getElem? (i := 94) rfl) rfl), by decide +kernel⟩
theorem ml_X7_121 : pm_lV RX7 121 M_X7_counterAt 1 := ⟨in_X7_counterAt, (lwm_tables_1_2 (List.mem_of_getElem? (i := 234) rfl) rfl), (lwm_tables_1_2 (List.mem_of_getElem? (i := 235) rfl) rfl), (lwm_tables_1_2 (List.mem_of_getElem? (i := 236) rfl) rfl), by decide +kernel⟩
theorem ml_X7_124 : pm_lV RX7 124 M_X5_kindAt 1 := ⟨in_X5_kindAt, (lwm_tables_1_3 (List.mem_of_getElem? (i := 2) rfl) rfl), (lwm_tables_1_3 (List.mem_of_getElem? (i := 3) rfl) rfl), (lwm_tables_1_3 (List.mem_of_getElem? (i := 4) rfl) rfl), by decide +kernel⟩
theorem ml_X7_132 : pm_lV RX7 132 M_X3_isFull 0 := ⟨in_X3_isFull, (lwm_tables_1_3 (List.mem_of_getElem? (i := 6) rfl) rfl), (lwm_tables_1_2 (List.mem_of_getElem? (i := 172) rfl) rfl), (lwm_tables_1_2 (List.mem_of_getElem? (i := 173) rfl) rfl), by decide +kernel⟩
theorem ml_X7_136 : pm_lV RX7 136 M_X7_statusWith 1 := ⟨in_X7_statusWith, (lwm_tables_1_2 (List.mem_of_getElem? (i := 230) rfl) rfl), (lwm_tables_1_2 (List.mem_of_getElem? (i := 231) rfl) rfl), (lwm_tables_1_2 (List.mem_of_getElem? (i := 232) rfl) rfl), by decide +kernel⟩
theorem ml_X7_146 : pm_lS RX7 146 M_X8_perform 3 := ⟨in_X8_perform, (lwm_tables_1_3 (List.mem_of_getElem? (i := 14) rfl) rfl), (lwm_tables_1_3 (List.mem_of_getElem? (i := 15) rfl) rfl), by decide +kernel⟩
theorem ml_X7_152 : pm_lV RX7 152 M_X2_timeComes 1 := ⟨in_X2_timeComes, (lwm_tables_1_3 (List.mem_of_getElem? (i := 127) rfl) rfl), (lwm_tables_1_3 (List.mem_of_getElem? (i := 128) rfl) rfl), (lwm_tables_1_3 (List.mem_of_getElem? (i := 129) rfl) rfl), by decide +kernel⟩
theorem ml_X7_156 : pm_lV RX7 156 M_X3_addPoke 4 := ⟨in_X3_addPoke, (lwm_tables_1_2 (List.mem_of_getElem? (i := 185) rfl) rfl), (lwm_tables_1_2 (List.mem_of_getElem? (i := 186) rfl) rfl), (lwm_tables_1_2 (List.mem_of_getElem? (i := 187) rfl) rfl), by decide +kernel⟩
theorem ml_X7_160 : pm_lV RX7 160 M_X6_add 4 := ⟨in_X6_add, (lwm_tables_1_2 (List.mem_of_getElem? (i := 193) rfl) rfl), (lwm_tables_1_2 (List.mem_of_getElem? (i := 194) rfl) rfl), (lwm_tables_1_2 (List.mem_of_getElem? (i := 195) rfl) rfl), by decide +kernel⟩
theorem ml_X7_164 : pm_lV RX7 164 M_X6_restLatestOn 4 := ⟨in_X6_restLatestOn, (lwm_tables_1_2 (List.mem_of_getElem? (i := 218) rfl) rfl), (lwm_tables_1_2 (List.mem_of_getElem? (i := 219) rfl) rfl), (lwm_tables_1_2 (List.mem_of_getElem? (i := 220) rfl) rfl), by decide +kernel⟩
theorem ml_X7_167 : pm_lV RX7 167 M_X3_addWhole 3 := ⟨in_X3_addWhole, (lwm_tables_1_3 (List.mem_of_getElem? (i := 64) rfl) rfl), (lwm_tables_1_3 (List.mem_of_getElem? (i := 65) rfl) rfl), (lwm_tables_1_3 (List.mem_of_getElem? (i := 66) rfl) rfl), by decide +kernel⟩
theorem ml_X7_171 : pm_lV RX7 171 M_X7_putByStep 5 := ⟨in_X7_putByStep, (lwm_tables_1_3 (List.mem_of_getElem? (i := 68) rfl) rfl), (lwm_tables_1_3 (List.mem_of_getElem? (i := 31) rfl) rfl), (lwm_tables_1_3 (List.mem_of_getElem? (i := 32) rfl) rfl), by decide +kernel⟩
theorem ml_X7_175 : pm_lV RX7 175 M_X3_dropBehind 2 := ⟨in_X3_dropBehind, (lwm_tables_1_3 (List.mem_of_getElem? (i := 181) rfl) rfl), (lwm_tables_1_3 (List.mem_of_getElem? (i := 182) rfl) rfl), (lwm_tables_1_3 (List.mem_of_getElem? (i := 183) rfl) rfl), by decide +kernel⟩
theorem ml_X7_179 : pm_lV RX7 179 M_X6_dropBehind 1 := ⟨in_X6_dropBehind, (lwm_tables_1_3 (List.mem_of_getElem? (i := 197) rfl) rfl), (lwm_tables_1_3 (List.mem_of_getElem? (i := 198) rfl) rfl), (lwm_tables_1_3 (List.mem_of_getElem? (i := 199) rfl) rfl), by decide +kernel⟩
theorem ml_X7_181 : pm_lV RX7 181 M_X1_dropFrom 1 := ⟨in_X1_dropFrom, (lwm_tables_1_3 (List.mem_of_getElem? (i := 205) rfl) rfl), (lwm_tables_1_3 (List.mem_of_getElem? (i := 206) rfl) rfl), (lwm_tables_1_3 (List.mem_of_getElem? (i := 207) rfl) rfl), by decide +kernel⟩
theorem ml_X7_184 : pm_lV RX7 184 M_X2_dropAbove 1 := ⟨in_X2_dropAbove, (lwm_tables_1_3 (List.mem_of_getElem? (i := 213) rfl) rfl), (lwm_tables_1_3 (List.mem_of_getElem? (i := 214) rfl) rfl), (lwm_tables_1_3 (List.mem_of_getElem? (i := 215) rfl) rfl), by decide +kernel⟩
theorem ml_X8_15 : pm_lV RX8 15 M_X5_kindAt 1 := ⟨in_X5_kindAt, (lwm_tables_1_3 (List.mem_of_getElem? (i := 17) rfl) rfl), (lwm_tables_1_3 (List.mem_of_getElem? (i := 3) rfl) rfl), (lwm_tables_1_3 (List.mem_of_getElem? (i := 4) rfl) rfl), by decide +kernel⟩
theorem ml_X8_21 : pm_lV RX8 21 M_X5_firstAt 1 := ⟨in_X5_firstAt, (lwm_tables_1_3 (List.mem_of_getElem? (i := 18) rfl) rfl), (lwm_tables_1_3 (List.mem_of_getElem? (i := 19) rfl) rfl), (lwm_tables_1_3 (List.mem_of_getElem? (i := 20) rfl) rfl), by decide +kernel⟩
theorem ml_X8_24 : pm_lV RX8 24 M_X5_secondAt 1 := ⟨in_X5_secondAt, (lwm_tables_1_3 (List.mem_of_getElem? (i := 22) rfl) rfl), (lwm_tables_1_3 (List.mem_of_getElem? (i := 23) rfl) rfl), (lwm_tables_1_3 (List.mem_of_getElem? (i := 24) rfl) rfl), by decide +kernel⟩
theorem ml_X8_27 : pm_lV RX8 27 M_X5_thirdAt 1 := ⟨in_X5_thirdAt, (lwm_tables_1_3 (List.mem_of_getElem? (i := 26) rfl) rfl), (lwm_tables_1_3 (List.mem_of_getElem? (i := 27) rfl) rfl), (lwm_tables_1_3 (List.mem_of_getElem? (i := 28) rfl) rfl), by decide +kernel⟩
theorem ml_X8_34 : pm_lV RX8 34 M_X7_putByStep 5 := ⟨in_X7_putByStep, (lwm_tables_1_3 (List.mem_of_getElem? (i := 30) rfl) rfl), (lwm_tables_1_3 (List.mem_of_getElem? (i := 31) rfl) rfl), (lwm_tables_1_3 (List.mem_of_getElem? (i := 32) rfl) rfl), by decide +kernel⟩
theorem ml_X8_42 : pm_lV RX8 42 M_X6_latestOf 1 := ⟨in_X6_latestOf, (lwm_tables_1_3 (List.mem_of_getElem? (i := 34) rfl) rfl), (lwm_tables_1_3 (List.mem_of_getElem? (i := 35) rfl) rfl), (lwm_tables_1_3 (List.mem_of_getElem? (i := 36) rfl) rfl), by decide +kernel⟩
theorem ml_X8_47 : pm_lS RX8 47 M_X8_copy 3 := ⟨in_X8_copy, (lwm_tables_1_3 (List.mem_of_getElem? (i := 38) rfl) rfl), (lwm_tables_1_3 (List.mem_of_getElem? (i := 39) rfl) rfl), by decide +kernel⟩
theorem ml_X8_53 : pm_lS RX8 53 M_X8_compare 4 := ⟨in_X8_compare, (lwm_tables_1_3 (List.mem_of_getElem? (i := 43) rfl) rfl), (lwm_tables_1_3 (List.mem_of_getElem? (i := 44) rfl) rfl), by decide +kernel⟩
theorem ml_X8_57 : pm_lS RX8 57 M_X8_combine 5 := ⟨in_X8_combine, (lwm_tables_1_3 (List.mem_of_getElem? (i := 47) rfl) rfl), (lwm_tables_1_3 (List.mem_of_getElem? (i := 48) rfl) rfl), by decide +kernel⟩
theorem ml_X8_61 : pm_lS RX8 61 M_X8_fromCell 3 := ⟨in_X8_fromCell, (lwm_tables_1_3 (List.mem_of_getElem? (i := 50) rfl) rfl), (lwm_tables_1_3 (List.mem_of_getElem? (i := 51) rfl) rfl), by decide +kernel⟩
theorem ml_X8_65 : pm_lS RX8 65 M_X8_toCell 3 := ⟨in_X8_toCell, (lwm_tables_1_3 (List.mem_of_getElem? (i := 53) rfl) rfl), (lwm_tables_1_3 (List.mem_of_getElem? (i := 54) rfl) rfl), by decide +kernel⟩
theorem ml_X8_68 : pm_lV RX8 68 M_X4_takeFirst 0 := ⟨in_X4_takeFirst, (lwm_tables_1_3 (List.mem_of_getElem? (i := 56) rfl) rfl), (lwm_tables_1_3 (List.mem_of_getElem? (i := 57) rfl) rfl), (lwm_tables_1_3 (List.mem_of_getElem? (i := 58) rfl) rfl), by decide +kernel⟩
theorem ml_X8_74 : pm_lV RX8 74 M_X7_putFromOutside 3 := ⟨in_X7_putFromOutside, (lwm_tables_1_3 (List.mem_of_getElem? (i := 60) rfl) rfl), (lwm_tables_1_3 (List.mem_of_getElem? (i := 61) rfl) rfl), (lwm_tables_1_3 (List.mem_of_getElem? (i := 62) rfl) rfl), by decide +kernel⟩
theorem ml_X8_78 : pm_lV RX8 78 M_X4_draw 1 := ⟨in_X4_draw, (lwm_tables_1_3 (List.mem_of_getElem? (i := 69) rfl) rfl), (lwm_tables_1_3 (List.mem_of_getElem? (i := 70) rfl) rfl), (lwm_tables_1_3 (List.mem_of_getElem? (i := 71) rfl) rfl), by decide +kernel⟩
theorem ml_X8_81 : pm_lS RX8 81 M_X8_putOut 2 := ⟨in_X8_putOut, (lwm_tables_1_3 (List.mem_of_getElem? (i := 75) rfl) rfl), (lwm_tables_1_3 (List.mem_of_getElem? (i := 76) rfl) rfl), by decide +kernel⟩
theorem ml_X8_85 : pm_lV RX8 85 M_X7_goOnAt 1 := ⟨in_X7_goOnAt, (lwm_tables_1_3 (List.mem_of_getElem? (i := 82) rfl) rfl), (lwm_tables_1_3 (List.mem_of_getElem? (i := 83) rfl) rfl), (lwm_tables_1_3 (List.mem_of_getElem? (i := 84) rfl) rfl), by decide +kernel⟩
theorem ml_X8_89 : pm_lS RX8 89 M_X8_goOnIf 3 := ⟨in_X8_goOnIf, (lwm_tables_1_3 (List.mem_of_getElem? (i := 86) rfl) rfl), (lwm_tables_1_3 (List.mem_of_getElem? (i := 87) rfl) rfl), by decide +kernel⟩
theorem ml_X8_92 : pm_lS RX8 92 M_X8_goDown 2 := ⟨in_X8_goDown, (lwm_tables_1_3 (List.mem_of_getElem? (i := 89) rfl) rfl), (lwm_tables_1_3 (List.mem_of_getElem? (i := 90) rfl) rfl), by decide +kernel⟩
theorem ml_X8_96 : pm_lS RX8 96 M_X8_goUp 1 := ⟨in_X8_goUp, (lwm_tables_1_3 (List.mem_of_getElem? (i := 108) rfl) rfl), (lwm_tables_1_3 (List.mem_of_getElem? (i := 109) rfl) rfl), by decide +kernel⟩
theorem ml_X8_100 : pm_lS RX8 100 M_X8_reckon 5 := ⟨in_X8_reckon, (lwm_tables_1_3 (List.mem_of_getElem? (i := 121) rfl) rfl), (lwm_tables_1_3 (List.mem_of_getElem? (i := 122) rfl) rfl), by decide +kernel⟩
theorem ml_X8_103 : pm_lV RX8 103 M_X6_sortOf 1 := ⟨in_X6_sortOf, (lwm_tables_1_3 (List.mem_of_getElem? (i := 41) rfl) rfl), (lwm_tables_1_2 (List.mem_of_getElem? (i := 203) rfl) rfl), (lwm_tables_1_2 (List.mem_of_getElem? (i := 204) rfl) rfl), by decide +kernel⟩
theorem ml_X8_106 : pm_lV RX8 106 M_X6_numberOf 1 := ⟨in_X6_numberOf, (lwm_tables_1_3 (List.mem_of_getElem? (i := 42) rfl) rfl), (lwm_tables_1_2 (List.mem_of_getElem? (i := 207) rfl) rfl), (lwm_tables_1_2 (List.mem_of_getElem? (i := 208) rfl) rfl), by decide +kernel⟩
theorem ml_X8_109 : pm_lV RX8 109 M_X7_addOut 2 := ⟨in_X7_addOut, (lwm_tables_1_3 (List.mem_of_getElem? (i := 78) rfl) rfl), (lwm_tables_1_3 (List.mem_of_getElem? (i := 79) rfl) rfl), (lwm_tables_1_3 (List.mem_of_getElem? (i := 80) rfl) rfl), by decide +kernel⟩
theorem ml_X8_113 : pm_lV RX8 113 M_X6_hasValue 3 := ⟨in_X6_hasValue, (lwm_tables_1_3 (List.mem_of_getElem? (i := 46) rfl) rfl), (lwm_tables_1_2 (List.mem_of_getElem? (i := 199) rfl) rfl), (lwm_tables_1_2 (List.mem_of_getElem? (i := 200) rfl) rfl), by decide +kernel⟩
theorem ml_X8_120 : pm_lV RX8 120 M_X7_stackSizeAt 1 := ⟨in_X7_stackSizeAt, (lwm_tables_1_3 (List.mem_of_getElem? (i := 92) rfl) rfl), (lwm_tables_1_3 (List.mem_of_getElem? (i := 93) rfl) rfl), (lwm_tables_1_3 (List.mem_of_getElem? (i := 94) rfl) rfl), by decide +kernel⟩
theorem ml_X8_127 : pm_lV RX8 127 M_X1_add 3 := ⟨in_X1_add, (lwm_tables_1_3 (List.mem_of_getElem? (i := 100) rfl) rfl), (lwm_tables_1_3 (List.mem_of_getElem? (i := 101) rfl) rfl), (lwm_tables_1_3 (List.mem_of_getElem? (i := 102) rfl) rfl), by decide +kernel⟩
theorem ml_X8_132 : pm_lV RX8 132 M_X7_stackUp 0 := ⟨in_X7_stackUp, (lwm_tables_1_3 (List.mem_of_getElem? (i := 104) rfl) rfl), (lwm_tables_1_3 (List.mem_of_getElem? (i := 105) rfl) rfl), (lwm_tables_1_3 (List.mem_of_getElem? (i := 106) rfl) rfl), by decide +kernel⟩
theorem ml_X8_135 : pm_lV RX8 135 M_X7_stackedAt 2 := ⟨in_X7_stackedAt, (lwm_tables_1_3 (List.mem_of_getElem? (i := 111) rfl) rfl), (lwm_tables_1_3 (List.mem_of_getElem? (i := 112) rfl) rfl), (lwm_tables_1_3 (List.mem_of_getElem? (i := 113) rfl) rfl), by decide +kernel⟩
theorem ml_X8_139 : pm_lV RX8 139 M_X7_stackDown 0 := ⟨in_X7_stackDown, (lwm_tables_1_3 (List.mem_of_getElem? (i := 117) rfl) rfl), (lwm_tables_1_3 (List.mem_of_getElem? (i := 118) rfl) rfl), (lwm_tables_1_3 (List.mem_of_getElem? (i := 119) rfl) rfl), by decide +kernel⟩
theorem ml_X8_142 : pm_lS RX8 142 M_X8_reckoned 3 := ⟨in_X8_reckoned, (lwm_tables_1_3 (List.mem_of_getElem? (i := 124) rfl) rfl), (lwm_tables_1_3 (List.mem_of_getElem? (i := 125) rfl) rfl), by decide +kernel⟩
theorem ml_L_9 : pm_lI RL 9 M_X9_init 0 := ⟨in_X9_init, (lwm_tables_1_1 (List.mem_of_getElem? (i := 17) rfl) rfl), (lwm_tables_1_1 (List.mem_of_getElem? (i := 18) rfl) rfl), rfl, rfl, by decide +kernel⟩
theorem ml_L_12 : pm_lI RL 12 M_X10_init 0 := ⟨in_X10_init, (lwm_tables_1_5 (List.mem_of_getElem? (i := 41) rfl) rfl), (lwm_tables_1_5 (List.mem_of_getElem? (i := 42) rfl) rfl), rfl, rfl, by decide +kernel⟩
theorem ml_L_13 : pm_lV RL 13 M_X9_code 5 := ⟨in_X9_code, (lwm_tables_1_2 (List.mem_of_getElem? (i := 92) rfl) rfl), (lwm_tables_1_2 (List.mem_of_getElem? (i := 93) rfl) rfl), (lwm_tables_1_2 (List.mem_of_getElem? (i := 94) rfl) rfl), by decide +kernel⟩
theorem ml_L_17 : pm_lV RL 17 M_X10_code 5 := ⟨in_X10_code, (lwm_tables_1_5 (List.mem_of_getElem? (i := 211) rfl) rfl), (lwm_tables_1_5 (List.mem_of_getElem? (i := 212) rfl) rfl), (lwm_tables_1_5 (List.mem_of_getElem? (i := 213) rfl) rfl), by decide +kernel⟩
theorem ml_L_18 : pm_lV RL 18 M_X9_spacing 2 := ⟨in_X9_spacing, (lwm_tables_1_2 (List.mem_of_getElem? (i := 116) rfl) rfl), (lwm_tables_1_2 (List.mem_of_getElem? (i := 117) rfl) rfl), (lwm_tables_1_2 (List.mem_of_getElem? (i := 118) rfl) rfl), by decide +kernel⟩
theorem ml_L_22 : pm_lV RL 22 M_X10_spacing 2 := ⟨in_X10_spacing, (lwm_tables_1_5 (List.mem_of_getElem? (i := 224) rfl) rfl), (lwm_tables_1_5 (List.mem_of_getElem? (i := 225) rfl) rfl), (lwm_tables_1_5 (List.mem_of_getElem? (i := 226) rfl) rfl), by decide +kernel⟩
theorem ml_L_23 : pm_lV RL 23 M_X9_begin 0 := ⟨in_X9_begin, (lwm_tables_1_2 (List.mem_of_getElem? (i := 126) rfl) rfl), (lwm_tables_1_2 (List.mem_of_getElem? (i := 127) rfl) rfl), (lwm_tables_1_2 (List.mem_of_getElem? (i := 128) rfl) rfl), by decide +kernel⟩
theorem ml_L_27 : pm_lV RL 27 M_X10_begin 0 := ⟨in_X10_begin, (lwm_tables_1_5 (List.mem_of_getElem? (i := 231) rfl) rfl), (lwm_tables_1_5 (List.mem_of_getElem? (i := 232) rfl) rfl), (lwm_tables_1_5 (List.mem_of_getElem? (i := 233) rfl) rfl), by decide +kernel⟩
theorem ml_L_28 : pm_lV RL 28 M_X9_give 1 := ⟨in_X9_give, (lwm_tables_1_2 (List.mem_of_getElem? (i := 155) rfl) rfl), (lwm_tables_1_2 (List.mem_of_getElem? (i := 156) rfl) rfl), (lwm_tables_1_2 (List.mem_of_getElem? (i := 157) rfl) rfl), by decide +kernel⟩
theorem ml_L_32 : pm_lV RL 32 M_X10_give 1 := ⟨in_X10_give, (lwm_tables_1_6 (List.mem_of_getElem? (i := 5) rfl) rfl), (lwm_tables_1_6 (List.mem_of_getElem? (i := 6) rfl) rfl), (lwm_tables_1_6 (List.mem_of_getElem? (i := 7) rfl) rfl), by decide +kernel⟩
theorem ml_L_33 : pm_lV RL 33 M_X9_seed 1 := ⟨in_X9_seed, (lwm_tables_1_2 (List.mem_of_getElem? (i := 163) rfl) rfl), (lwm_tables_1_2 (List.mem_of_getElem? (i := 164) rfl) rfl), (lwm_tables_1_2 (List.mem_of_getElem? (i := 165) rfl) rfl), by decide +kernel⟩
theorem ml_L_36 : pm_lV RL 36 M_X10_seed 1 := ⟨in_X10_seed, (lwm_tables_1_6 (List.mem_of_getElem? (i := 9) rfl) rfl), (lwm_tables_1_6 (List.mem_of_getElem? (i := 10) rfl) rfl), (lwm_tables_1_6 (List.mem_of_getElem? (i := 11) rfl) rfl), by decide +kernel⟩
theorem ml_L_37 : pm_lV RL 37 M_X9_poke 3 := ⟨in_X9_poke, (lwm_tables_1_2 (List.mem_of_getElem? (i := 167) rfl) rfl), (lwm_tables_1_2 (List.mem_of_getElem? (i := 168) rfl) rfl), (lwm_tables_1_2 (List.mem_of_getElem? (i := 169) rfl) rfl), by decide +kernel⟩
theorem ml_L_41 : pm_lV RL 41 M_X10_poke 3 := ⟨in_X10_poke, (lwm_tables_1_6 (List.mem_of_getElem? (i := 13) rfl) rfl), (lwm_tables_1_6 (List.mem_of_getElem? (i := 14) rfl) rfl), (lwm_tables_1_6 (List.mem_of_getElem? (i := 15) rfl) rfl), by decide +kernel⟩
theorem ml_L_42 : pm_lV RL 42 M_X9_run 1 := ⟨in_X9_run, (lwm_tables_1_2 (List.mem_of_getElem? (i := 222) rfl) rfl), (lwm_tables_1_2 (List.mem_of_getElem? (i := 223) rfl) rfl), (lwm_tables_1_2 (List.mem_of_getElem? (i := 224) rfl) rfl), by decide +kernel⟩
theorem ml_L_45 : pm_lV RL 45 M_X10_run 1 := ⟨in_X10_run, (lwm_tables_1_6 (List.mem_of_getElem? (i := 30) rfl) rfl), (lwm_tables_1_6 (List.mem_of_getElem? (i := 31) rfl) rfl), (lwm_tables_1_6 (List.mem_of_getElem? (i := 32) rfl) rfl), by decide +kernel⟩
theorem ml_L_46 : pm_lV RL 46 M_X9_watch 2 := ⟨in_X9_watch, (lwm_tables_1_3 (List.mem_of_getElem? (i := 153) rfl) rfl), (lwm_tables_1_3 (List.mem_of_getElem? (i := 154) rfl) rfl), (lwm_tables_1_3 (List.mem_of_getElem? (i := 155) rfl) rfl), by decide +kernel⟩
theorem ml_L_50 : pm_lV RL 50 M_X10_watch 2 := ⟨in_X10_watch, (lwm_tables_1_6 (List.mem_of_getElem? (i := 109) rfl) rfl), (lwm_tables_1_6 (List.mem_of_getElem? (i := 110) rfl) rfl), (lwm_tables_1_6 (List.mem_of_getElem? (i := 111) rfl) rfl), by decide +kernel⟩
theorem ml_L_51 : pm_lV RL 51 M_X9_back 1 := ⟨in_X9_back, (lwm_tables_1_3 (List.mem_of_getElem? (i := 157) rfl) rfl), (lwm_tables_1_3 (List.mem_of_getElem? (i := 158) rfl) rfl), (lwm_tables_1_3 (List.mem_of_getElem? (i := 159) rfl) rfl), by decide +kernel⟩
theorem ml_L_54 : pm_lV RL 54 M_X10_back 1 := ⟨in_X10_back, (lwm_tables_1_6 (List.mem_of_getElem? (i := 113) rfl) rfl), (lwm_tables_1_6 (List.mem_of_getElem? (i := 114) rfl) rfl), (lwm_tables_1_6 (List.mem_of_getElem? (i := 115) rfl) rfl), by decide +kernel⟩
theorem ml_L_55 : pm_lV RL 55 M_X9_keep 0 := ⟨in_X9_keep, (lwm_tables_1_3 (List.mem_of_getElem? (i := 217) rfl) rfl), (lwm_tables_1_3 (List.mem_of_getElem? (i := 218) rfl) rfl), (lwm_tables_1_3 (List.mem_of_getElem? (i := 219) rfl) rfl), by decide +kernel⟩
theorem ml_L_58 : pm_lV RL 58 M_X10_keep 0 := ⟨in_X10_keep, (lwm_tables_1_6 (List.mem_of_getElem? (i := 145) rfl) rfl), (lwm_tables_1_6 (List.mem_of_getElem? (i := 146) rfl) rfl), (lwm_tables_1_6 (List.mem_of_getElem? (i := 147) rfl) rfl), by decide +kernel⟩
theorem ml_L_59 : pm_lV RL 59 M_X9_use 1 := ⟨in_X9_use, (lwm_tables_1_4 (List.mem_of_getElem? (i := 17) rfl) rfl), (lwm_tables_1_4 (List.mem_of_getElem? (i := 18) rfl) rfl), (lwm_tables_1_4 (List.mem_of_getElem? (i := 19) rfl) rfl), by decide +kernel⟩
theorem ml_L_63 : pm_lV RL 63 M_X10_use 1 := ⟨in_X10_use, (lwm_tables_1_6 (List.mem_of_getElem? (i := 152) rfl) rfl), (lwm_tables_1_6 (List.mem_of_getElem? (i := 153) rfl) rfl), (lwm_tables_1_6 (List.mem_of_getElem? (i := 154) rfl) rfl), by decide +kernel⟩
theorem ml_L_64 : pm_lV RL 64 M_X9_at 3 := ⟨in_X9_at, (lwm_tables_1_4 (List.mem_of_getElem? (i := 25) rfl) rfl), (lwm_tables_1_4 (List.mem_of_getElem? (i := 26) rfl) rfl), (lwm_tables_1_4 (List.mem_of_getElem? (i := 27) rfl) rfl), by decide +kernel⟩
theorem ml_L_67 : pm_lV RL 67 M_X10_at 3 := ⟨in_X10_at, (lwm_tables_1_6 (List.mem_of_getElem? (i := 156) rfl) rfl), (lwm_tables_1_6 (List.mem_of_getElem? (i := 157) rfl) rfl), (lwm_tables_1_6 (List.mem_of_getElem? (i := 158) rfl) rfl), by decide +kernel⟩
theorem ml_L_68 : pm_lV RL 68 M_X9_state 2 := ⟨in_X9_state, (lwm_tables_1_4 (List.mem_of_getElem? (i := 47) rfl) rfl), (lwm_tables_1_4 (List.mem_of_getElem? (i := 48) rfl) rfl), (lwm_tables_1_4 (List.mem_of_getElem? (i := 49) rfl) rfl), by decide +kernel⟩
theorem ml_L_72 : pm_lV RL 72 M_X10_state 2 := ⟨in_X10_state, (lwm_tables_1_6 (List.mem_of_getElem? (i := 169) rfl) rfl), (lwm_tables_1_6 (List.mem_of_getElem? (i := 170) rfl) rfl), (lwm_tables_1_6 (List.mem_of_getElem? (i := 171) rfl) rfl), by decide +kernel⟩
theorem ml_L_73 : pm_lV RL 73 M_X9_last 2 := ⟨in_X9_last, (lwm_tables_1_4 (List.mem_of_getElem? (i := 66) rfl) rfl), (lwm_tables_1_4 (List.mem_of_getElem? (i := 67) rfl) rfl), (lwm_tables_1_4 (List.mem_of_getElem? (i := 68) rfl) rfl), by decide +kernel⟩
theorem ml_L_76 : pm_lV RL 76 M_X10_last 2 := ⟨in_X10_last, (lwm_tables_1_6 (List.mem_of_getElem? (i := 173) rfl) rfl), (lwm_tables_1_6 (List.mem_of_getElem? (i := 174) rfl) rfl), (lwm_tables_1_6 (List.mem_of_getElem? (i := 175) rfl) rfl), by decide +kernel⟩
theorem ml_L_77 : pm_lV RL 77 M_X9_when 4 := ⟨in_X9_when, (lwm_tables_1_4 (List.mem_of_getElem? (i := 78) rfl) rfl), (lwm_tables_1_4 (List.mem_of_getElem? (i := 79) rfl) rfl), (lwm_tables_1_4 (List.mem_of_getElem? (i := 80) rfl) rfl), by decide +kernel⟩
theorem ml_L_81 : pm_lV RL 81 M_X10_when 4 := ⟨in_X10_when, (lwm_tables_1_6 (List.mem_of_getElem? (i := 181) rfl) rfl), (lwm_tables_1_6 (List.mem_of_getElem? (i := 182) rfl) rfl), (lwm_tables_1_6 (List.mem_of_getElem? (i := 183) rfl) rfl), by decide +kernel⟩
theorem ml_L_82 : pm_lV RL 82 M_X9_changed 2 := ⟨in_X9_changed, (lwm_tables_1_4 (List.mem_of_getElem? (i := 90) rfl) rfl), (lwm_tables_1_4 (List.mem_of_getElem? (i := 91) rfl) rfl), (lwm_tables_1_4 (List.mem_of_getElem? (i := 92) rfl) rfl), by decide +kernel⟩
theorem ml_L_85 : pm_lV RL 85 M_X10_changed 2 := ⟨in_X10_changed, (lwm_tables_1_6 (List.mem_of_getElem? (i := 189) rfl) rfl), (lwm_tables_1_6 (List.mem_of_getElem? (i := 190) rfl) rfl), (lwm_tables_1_6 (List.mem_of_getElem? (i := 191) rfl) rfl), by decide +kernel⟩
theorem ml_L_86 : pm_lV RL 86 M_X9_watched 1 := ⟨in_X9_watched, (lwm_tables_1_4 (List.mem_of_getElem? (i := 103) rfl) rfl), (lwm_tables_1_4 (List.mem_of_getElem? (i := 104) rfl) rfl), (lwm_tables_1_4 (List.mem_of_getElem? (i := 105) rfl) rfl), by decide +kernel⟩
theorem ml_L_89 : pm_lV RL 89 M_X10_watched 1 := ⟨in_X10_watched, (lwm_tables_1_6 (List.mem_of_getElem? (i := 193) rfl) rfl), (lwm_tables_1_6 (List.mem_of_getElem? (i := 194) rfl) rfl), (lwm_tables_1_6 (List.mem_of_getElem? (i := 195) rfl) rfl), by decide +kernel⟩
theorem ml_L_90 : pm_lV RL 90 M_X9_rests 3 := ⟨in_X9_rests, (lwm_tables_1_4 (List.mem_of_getElem? (i := 108) rfl) rfl), (lwm_tables_1_4 (List.mem_of_getElem? (i := 109) rfl) rfl), (lwm_tables_1_4 (List.mem_of_getElem? (i := 110) rfl) rfl), by decide +kernel⟩
theorem ml_L_93 : pm_lV RL 93 M_X10_rests 3 := ⟨in_X10_rests, (lwm_tables_1_6 (List.mem_of_getElem? (i := 197) rfl) rfl), (lwm_tables_1_6 (List.mem_of_getElem? (i := 198) rfl) rfl), (lwm_tables_1_6 (List.mem_of_getElem? (i := 199) rfl) rfl), by decide +kernel⟩
theorem ml_L_94 : pm_lV RL 94 M_X9_hangs 3 := ⟨in_X9_hangs, (lwm_tables_1_4 (List.mem_of_getElem? (i := 132) rfl) rfl), (lwm_tables_1_4 (List.mem_of_getElem? (i := 133) rfl) rfl), (lwm_tables_1_4 (List.mem_of_getElem? (i := 134) rfl) rfl), by decide +kernel⟩
theorem ml_L_97 : pm_lV RL 97 M_X10_hangs 3 := ⟨in_X10_hangs, (lwm_tables_1_6 (List.mem_of_getElem? (i := 233) rfl) rfl), (lwm_tables_1_6 (List.mem_of_getElem? (i := 234) rfl) rfl), (lwm_tables_1_6 (List.mem_of_getElem? (i := 235) rfl) rfl), by decide +kernel⟩
theorem ml_L_98 : pm_lV RL 98 M_X9_history 3 := ⟨in_X9_history, (lwm_tables_1_4 (List.mem_of_getElem? (i := 142) rfl) rfl), (lwm_tables_1_4 (List.mem_of_getElem? (i := 143) rfl) rfl), (lwm_tables_1_4 (List.mem_of_getElem? (i := 144) rfl) rfl), by decide +kernel⟩
theorem ml_L_101 : pm_lV RL 101 M_X10_history 3 := ⟨in_X10_history, (lwm_tables_1_6 (List.mem_of_getElem? (i := 237) rfl) rfl), (lwm_tables_1_6 (List.mem_of_getElem? (i := 238) rfl) rfl), (lwm_tables_1_6 (List.mem_of_getElem? (i := 239) rfl) rfl), by decide +kernel⟩
theorem ml_L_102 : pm_lV RL 102 M_X9_done 2 := ⟨in_X9_done, (lwm_tables_1_4 (List.mem_of_getElem? (i := 150) rfl) rfl), (lwm_tables_1_4 (List.mem_of_getElem? (i := 151) rfl) rfl), (lwm_tables_1_4 (List.mem_of_getElem? (i := 152) rfl) rfl), by decide +kernel⟩
theorem ml_L_105 : pm_lV RL 105 M_X10_done 2 := ⟨in_X10_done, (lwm_tables_1_7 (List.mem_of_getElem? (i := 1) rfl) rfl), (lwm_tables_1_7 (List.mem_of_getElem? (i := 2) rfl) rfl), (lwm_tables_1_7 (List.mem_of_getElem? (i := 3) rfl) rfl), by decide +kernel⟩
theorem ml_L_106 : pm_lV RL 106 M_X9_call 2 := ⟨in_X9_call, (lwm_tables_1_4 (List.mem_of_getElem? (i := 154) rfl) rfl), (lwm_tables_1_4 (List.mem_of_getElem? (i := 155) rfl) rfl), (lwm_tables_1_4 (List.mem_of_getElem? (i := 156) rfl) rfl), by decide +kernel⟩
theorem ml_L_109 : pm_lV RL 109 M_X10_call 2 := ⟨in_X10_call, (lwm_tables_1_7 (List.mem_of_getElem? (i := 5) rfl) rfl), (lwm_tables_1_7 (List.mem_of_getElem? (i := 6) rfl) rfl), (lwm_tables_1_7 (List.mem_of_getElem? (i := 7) rfl) rfl), by decide +kernel⟩
theorem ml_L_110 : pm_lV RL 110 M_X9_log 2 := ⟨in_X9_log, (lwm_tables_1_4 (List.mem_of_getElem? (i := 162) rfl) rfl), (lwm_tables_1_4 (List.mem_of_getElem? (i := 163) rfl) rfl), (lwm_tables_1_4 (List.mem_of_getElem? (i := 164) rfl) rfl), by decide +kernel⟩
theorem ml_L_113 : pm_lV RL 113 M_X10_log 2 := ⟨in_X10_log, (lwm_tables_1_7 (List.mem_of_getElem? (i := 9) rfl) rfl), (lwm_tables_1_7 (List.mem_of_getElem? (i := 10) rfl) rfl), (lwm_tables_1_7 (List.mem_of_getElem? (i := 11) rfl) rfl), by decide +kernel⟩
theorem ml_L_114 : pm_lV RL 114 M_X9_held 2 := ⟨in_X9_held, (lwm_tables_1_4 (List.mem_of_getElem? (i := 171) rfl) rfl), (lwm_tables_1_4 (List.mem_of_getElem? (i := 172) rfl) rfl), (lwm_tables_1_4 (List.mem_of_getElem? (i := 173) rfl) rfl), by decide +kernel⟩
theorem ml_L_117 : pm_lV RL 117 M_X10_held 2 := ⟨in_X10_held, (lwm_tables_1_7 (List.mem_of_getElem? (i := 13) rfl) rfl), (lwm_tables_1_7 (List.mem_of_getElem? (i := 14) rfl) rfl), (lwm_tables_1_7 (List.mem_of_getElem? (i := 15) rfl) rfl), by decide +kernel⟩
theorem ml_L_118 : pm_lV RL 118 M_X9_would 3 := ⟨in_X9_would, (lwm_tables_1_4 (List.mem_of_getElem? (i := 177) rfl) rfl), (lwm_tables_1_4 (List.mem_of_getElem? (i := 178) rfl) rfl), (lwm_tables_1_4 (List.mem_of_getElem? (i := 179) rfl) rfl), by decide +kernel⟩
theorem ml_L_121 : pm_lV RL 121 M_X10_would 3 := ⟨in_X10_would, (lwm_tables_1_7 (List.mem_of_getElem? (i := 17) rfl) rfl), (lwm_tables_1_7 (List.mem_of_getElem? (i := 18) rfl) rfl), (lwm_tables_1_7 (List.mem_of_getElem? (i := 19) rfl) rfl), by decide +kernel⟩
theorem ml_L_122 : pm_lV RL 122 M_X9_gap 3 := ⟨in_X9_gap, (lwm_tables_1_4 (List.mem_of_getElem? (i := 190) rfl) rfl), (lwm_tables_1_4 (List.mem_of_getElem? (i := 191) rfl) rfl), (lwm_tables_1_4 (List.mem_of_getElem? (i := 192) rfl) rfl), by decide +kernel⟩
theorem ml_L_125 : pm_lV RL 125 M_X10_gap 3 := ⟨in_X10_gap, (lwm_tables_1_7 (List.mem_of_getElem? (i := 29) rfl) rfl), (lwm_tables_1_7 (List.mem_of_getElem? (i := 30) rfl) rfl), (lwm_tables_1_7 (List.mem_of_getElem? (i := 31) rfl) rfl), by decide +kernel⟩
theorem ml_L_126 : pm_lV RL 126 M_X9_sparing 3 := ⟨in_X9_sparing, (lwm_tables_1_4 (List.mem_of_getElem? (i := 194) rfl) rfl), (lwm_tables_1_4 (List.mem_of_getElem? (i := 195) rfl) rfl), (lwm_tables_1_4 (List.mem_of_getElem? (i := 196) rfl) rfl), by decide +kernel⟩
theorem ml_L_129 : pm_lV RL 129 M_X10_sparing 3 := ⟨in_X10_sparing, (lwm_tables_1_7 (List.mem_of_getElem? (i := 33) rfl) rfl), (lwm_tables_1_7 (List.mem_of_getElem? (i := 34) rfl) rfl), (lwm_tables_1_7 (List.mem_of_getElem? (i := 35) rfl) rfl), by decide +kernel⟩
theorem ml_L_130 : pm_lV RL 130 M_X9_align 2 := ⟨in_X9_align, (lwm_tables_1_4 (List.mem_of_getElem? (i := 198) rfl) rfl), (lwm_tables_1_4 (List.mem_of_getElem? (i := 199) rfl) rfl), (lwm_tables_1_4 (List.mem_of_getElem? (i := 200) rfl) rfl), by decide +kernel⟩
theorem ml_L_133 : pm_lV RL 133 M_X10_align 2 := ⟨in_X10_align, (lwm_tables_1_7 (List.mem_of_getElem? (i := 37) rfl) rfl), (lwm_tables_1_7 (List.mem_of_getElem? (i := 38) rfl) rfl), (lwm_tables_1_7 (List.mem_of_getElem? (i := 39) rfl) rfl), by decide +kernel⟩
theorem ml_L_134 : pm_lV RL 134 M_X9_pair 4 := ⟨in_X9_pair, (lwm_tables_1_4 (List.mem_of_getElem? (i := 221) rfl) rfl), (lwm_tables_1_4 (List.mem_of_getElem? (i := 222) rfl) rfl), (lwm_tables_1_4 (List.mem_of_getElem? (i := 223) rfl) rfl), by decide +kernel⟩
theorem ml_L_137 : pm_lV RL 137 M_X10_pair 4 := ⟨in_X10_pair, (lwm_tables_1_7 (List.mem_of_getElem? (i := 53) rfl) rfl), (lwm_tables_1_7 (List.mem_of_getElem? (i := 54) rfl) rfl), (lwm_tables_1_7 (List.mem_of_getElem? (i := 55) rfl) rfl), by decide +kernel⟩
theorem ml_L_138 : pm_lV RL 138 M_X9_parts 2 := ⟨in_X9_parts, (lwm_tables_1_5 (List.mem_of_getElem? (i := 2) rfl) rfl), (lwm_tables_1_5 (List.mem_of_getElem? (i := 3) rfl) rfl), (lwm_tables_1_5 (List.mem_of_getElem? (i := 4) rfl) rfl), by decide +kernel⟩
theorem ml_L_141 : pm_lV RL 141 M_X10_parts 2 := ⟨in_X10_parts, (lwm_tables_1_7 (List.mem_of_getElem? (i := 61) rfl) rfl), (lwm_tables_1_7 (List.mem_of_getElem? (i := 62) rfl) rfl), (lwm_tables_1_7 (List.mem_of_getElem? (i := 63) rfl) rfl), by decide +kernel⟩
theorem ml_L_142 : pm_lV RL 142 M_X9_look 1 := ⟨in_X9_look, (lwm_tables_1_5 (List.mem_of_getElem? (i := 31) rfl) rfl), (lwm_tables_1_5 (List.mem_of_getElem? (i := 32) rfl) rfl), (lwm_tables_1_5 (List.mem_of_getElem? (i := 33) rfl) rfl), by decide +kernel⟩
theorem ml_L_145 : pm_lV RL 145 M_X10_look 1 := ⟨in_X10_look, (lwm_tables_1_7 (List.mem_of_getElem? (i := 73) rfl) rfl), (lwm_tables_1_7 (List.mem_of_getElem? (i := 74) rfl) rfl), (lwm_tables_1_7 (List.mem_of_getElem? (i := 75) rfl) rfl), by decide +kernel⟩
theorem ml_X10_138 : pm_lS RX10 138 M_X10_isIn 3 := ⟨in_X10_isIn, (lwm_tables_1_5 (List.mem_of_getElem? (i := 215) rfl) rfl), (lwm_tables_1_5 (List.mem_of_getElem? (i := 216) rfl) rfl), by decide +kernel⟩
theorem ml_X10_142 : pm_lS RX10 142 M_X10_isRegister 1 := ⟨in_X10_isRegister, (lwm_tables_1_5 (List.mem_of_getElem? (i := 221) rfl) rfl), (lwm_tables_1_5 (List.mem_of_getElem? (i := 222) rfl) rfl), by decide +kernel⟩
theorem ml_X10_146 : pm_lS RX10 146 M_X10_isFine 4 := ⟨in_X10_isFine, (lwm_tables_1_5 (List.mem_of_getElem? (i := 218) rfl) rfl), (lwm_tables_1_5 (List.mem_of_getElem? (i := 219) rfl) rfl), by decide +kernel⟩
theorem ml_X10_150 : pm_lS RX10 150 M_X10_isSpacing 2 := ⟨in_X10_isSpacing, (lwm_tables_1_5 (List.mem_of_getElem? (i := 228) rfl) rfl), (lwm_tables_1_5 (List.mem_of_getElem? (i := 229) rfl) rfl), by decide +kernel⟩
theorem ml_X10_154 : pm_lS RX10 154 M_X10_one 1 := ⟨in_X10_one, (lwm_tables_1_5 (List.mem_of_getElem? (i := 235) rfl) rfl), (lwm_tables_1_5 (List.mem_of_getElem? (i := 236) rfl) rfl), by decide +kernel⟩
theorem ml_X10_158 : pm_lS RX10 158 M_X10_heldAt 2 := ⟨in_X10_heldAt, (lwm_tables_1_5 (List.mem_of_getElem? (i := 238) rfl) rfl), (lwm_tables_1_5 (List.mem_of_getElem? (i := 239) rfl) rfl), by decide +kernel⟩
theorem ml_X10_162 : pm_lV RX10 162 M_X10_clears 1 := ⟨in_X10_clears, (lwm_tables_1_6 (List.mem_of_getElem? (i := 1) rfl) rfl), (lwm_tables_1_6 (List.mem_of_getElem? (i := 3) rfl) rfl), (lwm_0 (List.mem_of_getElem? (i := 21) rfl) rfl), by decide +kernel⟩
theorem ml_X10_169 : pm_lS RX10 169 M_X10_isPlace 1 := ⟨in_X10_isPlace, (lwm_tables_1_6 (List.mem_of_getElem? (i := 17) rfl) rfl), (lwm_tables_1_6 (List.mem_of_getElem? (i := 18) rfl) rfl), by decide +kernel⟩
theorem ml_X10_172 : pm_lS RX10 172 M_X10_isValue 2 := ⟨in_X10_isValue, (lwm_tables_1_6 (List.mem_of_getElem? (i := 20) rfl) rfl), (lwm_tables_1_6 (List.mem_of_getElem? (i := 21) rfl) rfl), by decide +kernel⟩
theorem ml_X10_175 : pm_lV RX10 175 M_X10_notes 4 := ⟨in_X10_notes, (lwm_tables_1_6 (List.mem_of_getElem? (i := 23) rfl) rfl), (lwm_tables_1_6 (List.mem_of_getElem? (i := 25) rfl) rfl), (lwm_0 (List.mem_of_getElem? (i := 22) rfl) rfl), by decide +kernel⟩
theorem ml_X10_179 : pm_lS RX10 179 M_X10_puts 4 := ⟨in_X10_puts, (lwm_tables_1_6 (List.mem_of_getElem? (i := 27) rfl) rfl), (lwm_tables_1_6 (List.mem_of_getElem? (i := 28) rfl) rfl), by decide +kernel⟩
theorem ml_X10_189 : pm_lV RX10 189 M_X10_kindAt 2 := ⟨in_X10_kindAt, (lwm_tables_1_6 (List.mem_of_getElem? (i := 42) rfl) rfl), (lwm_tables_1_6 (List.mem_of_getElem? (i := 44) rfl) rfl), (lwm_0 (List.mem_of_getElem? (i := 25) rfl) rfl), by decide +kernel⟩
theorem ml_X10_200 : pm_lV RX10 200 M_X10_traps 2 := ⟨in_X10_traps, (lwm_tables_1_6 (List.mem_of_getElem? (i := 65) rfl) rfl), (lwm_tables_1_6 (List.mem_of_getElem? (i := 67) rfl) rfl), (lwm_0 (List.mem_of_getElem? (i := 30) rfl) rfl), by decide +kernel⟩
theorem ml_X10_204 : pm_lV RX10 204 M_X10_does 7 := ⟨in_X10_does, (lwm_tables_1_6 (List.mem_of_getElem? (i := 69) rfl) rfl), (lwm_tables_1_6 (List.mem_of_getElem? (i := 71) rfl) rfl), (lwm_0 (List.mem_of_getElem? (i := 31) rfl) rfl), by decide +kernel⟩
theorem ml_X10_208 : pm_lV RX10 208 M_X10_gives 4 := ⟨in_X10_gives, (lwm_tables_1_6 (List.mem_of_getElem? (i := 73) rfl) rfl), (lwm_tables_1_6 (List.mem_of_getElem? (i := 75) rfl) rfl), (lwm_0 (List.mem_of_getElem? (i := 32) rfl) rfl), by decide +kernel⟩
theorem ml_X10_211 : pm_lS RX10 211 M_X10_isOf 3 := ⟨in_X10_isOf, (lwm_tables_1_6 (List.mem_of_getElem? (i := 77) rfl) rfl), (lwm_tables_1_6 (List.mem_of_getElem? (i := 78) rfl) rfl), by decide +kernel⟩
theorem ml_X10_215 : pm_lV RX10 215 M_X10_cells 4 := ⟨in_X10_cells, (lwm_tables_1_6 (List.mem_of_getElem? (i := 80) rfl) rfl), (lwm_tables_1_6 (List.mem_of_getElem? (i := 82) rfl) rfl), (lwm_0 (List.mem_of_getElem? (i := 33) rfl) rfl), by decide +kernel⟩
theorem ml_X10_218 : pm_lV RX10 218 M_X10_goes 4 := ⟨in_X10_goes, (lwm_tables_1_6 (List.mem_of_getElem? (i := 84) rfl) rfl), (lwm_tables_1_6 (List.mem_of_getElem? (i := 86) rfl) rfl), (lwm_0 (List.mem_of_getElem? (i := 34) rfl) rfl), by decide +kernel⟩
theorem ml_X10_221 : pm_lV RX10 221 M_X10_reckons 5 := ⟨in_X10_reckons, (lwm_tables_1_6 (List.mem_of_getElem? (i := 88) rfl) rfl), (lwm_tables_1_6 (List.mem_of_getElem? (i := 90) rfl) rfl), (lwm_0 (List.mem_of_getElem? (i := 35) rfl) rfl), by decide +kernel⟩
theorem ml_X10_225 : pm_lV RX10 225 M_X10_halvings 1 := ⟨in_X10_halvings, (lwm_tables_1_6 (List.mem_of_getElem? (i := 100) rfl) rfl), (lwm_tables_1_6 (List.mem_of_getElem? (i := 102) rfl) rfl), (lwm_0 (List.mem_of_getElem? (i := 38) rfl) rfl), by decide +kernel⟩
theorem ml_X10_229 : pm_lV RX10 229 M_X10_goesWith 2 := ⟨in_X10_goesWith, (lwm_tables_1_6 (List.mem_of_getElem? (i := 96) rfl) rfl), (lwm_tables_1_6 (List.mem_of_getElem? (i := 98) rfl) rfl), (lwm_0 (List.mem_of_getElem? (i := 37) rfl) rfl), by decide +kernel⟩
theorem ml_X10_232 : pm_lV RX10 232 M_X10_heldMany 1 := ⟨in_X10_heldMany, (lwm_tables_1_6 (List.mem_of_getElem? (i := 104) rfl) rfl), (lwm_tables_1_6 (List.mem_of_getElem? (i := 106) rfl) rfl), (lwm_0 (List.mem_of_getElem? (i := 39) rfl) rfl), by decide +kernel⟩
theorem ml_X10_240 : pm_lV RX10 240 M_X10_takesInput 0 := ⟨in_X10_takesInput, (lwm_tables_1_6 (List.mem_of_getElem? (i := 50) rfl) rfl), (lwm_tables_1_6 (List.mem_of_getElem? (i := 52) rfl) rfl), (lwm_0 (List.mem_of_getElem? (i := 27) rfl) rfl), by decide +kernel⟩
theorem ml_X10_243 : pm_lV RX10 243 M_X10_draws 1 := ⟨in_X10_draws, (lwm_tables_1_6 (List.mem_of_getElem? (i := 54) rfl) rfl), (lwm_tables_1_6 (List.mem_of_getElem? (i := 56) rfl) rfl), (lwm_0 (List.mem_of_getElem? (i := 28) rfl) rfl), by decide +kernel⟩
theorem ml_X10_247 : pm_lV RX10 247 M_X10_steps 3 := ⟨in_X10_steps, (lwm_tables_1_6 (List.mem_of_getElem? (i := 60) rfl) rfl), (lwm_tables_1_6 (List.mem_of_getElem? (i := 62) rfl) rfl), (lwm_0 (List.mem_of_getElem? (i := 29) rfl) rfl), by decide +kernel⟩
theorem ml_X10_251 : pm_lV RX10 251 M_X10_comes 0 := ⟨in_X10_comes, (lwm_tables_1_6 (List.mem_of_getElem? (i := 92) rfl) rfl), (lwm_tables_1_6 (List.mem_of_getElem? (i := 94) rfl) rfl), (lwm_0 (List.mem_of_getElem? (i := 36) rfl) rfl), by decide +kernel⟩
theorem ml_X10_254 : pm_lV RX10 254 M_X10_watchedChanges 0 := ⟨in_X10_watchedChanges, (lwm_tables_1_6 (List.mem_of_getElem? (i := 34) rfl) rfl), (lwm_tables_1_6 (List.mem_of_getElem? (i := 36) rfl) rfl), (lwm_0 (List.mem_of_getElem? (i := 23) rfl) rfl), by decide +kernel⟩
theorem ml_X10_258 : pm_lV RX10 258 M_X10_status 0 := ⟨in_X10_status, (lwm_tables_1_6 (List.mem_of_getElem? (i := 38) rfl) rfl), (lwm_tables_1_6 (List.mem_of_getElem? (i := 40) rfl) rfl), (lwm_0 (List.mem_of_getElem? (i := 24) rfl) rfl), by decide +kernel⟩
theorem ml_X10_261 : pm_lV RX10 261 M_X10_goesOn 0 := ⟨in_X10_goesOn, (lwm_tables_1_6 (List.mem_of_getElem? (i := 46) rfl) rfl), (lwm_tables_1_6 (List.mem_of_getElem? (i := 48) rfl) rfl), (lwm_0 (List.mem_of_getElem? (i := 26) rfl) rfl), by decide +kernel⟩
theorem ml_X10_267 : pm_lV RX10 267 M_X10_simPokes 0 := ⟨in_X10_simPokes, (lwm_tables_1_6 (List.mem_of_getElem? (i := 137) rfl) rfl), (lwm_tables_1_6 (List.mem_of_getElem? (i := 139) rfl) rfl), (lwm_0 (List.mem_of_getElem? (i := 45) rfl) rfl), by decide +kernel⟩
theorem ml_X10_270 : pm_lV RX10 270 M_X10_simBegins 1 := ⟨in_X10_simBegins, (lwm_tables_1_6 (List.mem_of_getElem? (i := 133) rfl) rfl), (lwm_tables_1_6 (List.mem_of_getElem? (i := 135) rfl) rfl), (lwm_0 (List.mem_of_getElem? (i := 44) rfl) rfl), by decide +kernel⟩
theorem ml_X10_273 : pm_lV RX10 273 M_X10_simStep 0 := ⟨in_X10_simStep, (lwm_tables_1_6 (List.mem_of_getElem? (i := 141) rfl) rfl), (lwm_tables_1_6 (List.mem_of_getElem? (i := 143) rfl) rfl), (lwm_0 (List.mem_of_getElem? (i := 46) rfl) rfl), by decide +kernel⟩
theorem ml_X10_279 : pm_lV RX10 279 M_X10_heldBy 2 := ⟨in_X10_heldBy, (lwm_tables_1_6 (List.mem_of_getElem? (i := 121) rfl) rfl), (lwm_tables_1_6 (List.mem_of_getElem? (i := 123) rfl) rfl), (lwm_0 (List.mem_of_getElem? (i := 41) rfl) rfl), by decide +kernel⟩
theorem ml_X10_282 : pm_lV RX10 282 M_X10_counts 2 := ⟨in_X10_counts, (lwm_tables_1_6 (List.mem_of_getElem? (i := 125) rfl) rfl), (lwm_tables_1_6 (List.mem_of_getElem? (i := 127) rfl) rfl), (lwm_0 (List.mem_of_getElem? (i := 42) rfl) rfl), by decide +kernel⟩
theorem ml_X10_286 : pm_lV RX10 286 M_X10_lays 2 := ⟨in_X10_lays, (lwm_tables_1_6 (List.mem_of_getElem? (i := 129) rfl) rfl), (lwm_tables_1_6 (List.mem_of_getElem? (i := 131) rfl) rfl), (lwm_0 (List.mem_of_getElem? (i := 43) rfl) rfl), by decide +kernel⟩
theorem ml_X10_289 : pm_lV RX10 289 M_X10_runAsked 0 := ⟨in_X10_runAsked, (lwm_tables_1_6 (List.mem_of_getElem? (i := 164) rfl) rfl), (lwm_tables_1_6 (List.mem_of_getElem? (i := 166) rfl) rfl), (lwm_0 (List.mem_of_getElem? (i := 48) rfl) rfl), by decide +kernel⟩
theorem ml_X10_292 : pm_lV RX10 292 M_X10_replays 2 := ⟨in_X10_replays, (lwm_tables_1_6 (List.mem_of_getElem? (i := 117) rfl) rfl), (lwm_tables_1_6 (List.mem_of_getElem? (i := 119) rfl) rfl), (lwm_0 (List.mem_of_getElem? (i := 40) rfl) rfl), by decide +kernel⟩
theorem ml_X10_298 : pm_lS RX10 298 M_X10_copies 4 := ⟨in_X10_copies, (lwm_tables_1_6 (List.mem_of_getElem? (i := 149) rfl) rfl), (lwm_tables_1_6 (List.mem_of_getElem? (i := 150) rfl) rfl), by decide +kernel⟩
theorem ml_X10_301 : pm_lV RX10 301 M_X10_isTime 1 := ⟨in_X10_isTime, (lwm_tables_1_6 (List.mem_of_getElem? (i := 160) rfl) rfl), (lwm_tables_1_6 (List.mem_of_getElem? (i := 162) rfl) rfl), (lwm_0 (List.mem_of_getElem? (i := 47) rfl) rfl), by decide +kernel⟩
theorem ml_X10_305 : pm_lV RX10 305 M_X10_lastOf 2 := ⟨in_X10_lastOf, (lwm_tables_1_6 (List.mem_of_getElem? (i := 177) rfl) rfl), (lwm_tables_1_6 (List.mem_of_getElem? (i := 179) rfl) rfl), (lwm_0 (List.mem_of_getElem? (i := 49) rfl) rfl), by decide +kernel⟩
theorem ml_X10_308 : pm_lV RX10 308 M_X10_hadIn 6 := ⟨in_X10_hadIn, (lwm_tables_1_6 (List.mem_of_getElem? (i := 185) rfl) rfl), (lwm_tables_1_6 (List.mem_of_getElem? (i := 187) rfl) rfl), (lwm_0 (List.mem_of_getElem? (i := 50) rfl) rfl), by decide +kernel⟩
theorem ml_X10_312 : pm_lV RX10 312 M_X10_clearsLooked 0 := ⟨in_X10_clearsLooked, (lwm_tables_1_6 (List.mem_of_getElem? (i := 209) rfl) rfl), (lwm_tables_1_6 (List.mem_of_getElem? (i := 211) rfl) rfl), (lwm_0 (List.mem_of_getElem? (i := 53) rfl) rfl), by decide +kernel⟩
theorem ml_X10_315 : pm_lV RX10 315 M_X10_adds 1 := ⟨in_X10_adds, (lwm_tables_1_6 (List.mem_of_getElem? (i := 213) rfl) rfl), (lwm_tables_1_6 (List.mem_of_getElem? (i := 215) rfl) rfl), (lwm_0 (List.mem_of_getElem? (i := 54) rfl) rfl), by decide +kernel⟩
theorem ml_X10_318 : pm_lV RX10 318 M_X10_restsOn 1 := ⟨in_X10_restsOn, (lwm_tables_1_6 (List.mem_of_getElem? (i := 217) rfl) rfl), (lwm_tables_1_6 (List.mem_of_getElem? (i := 219) rfl) rfl), (lwm_0 (List.mem_of_getElem? (i := 55) rfl) rfl), by decide +kernel⟩
theorem ml_X10_321 : pm_lV RX10 321 M_X10_looksAt 1 := ⟨in_X10_looksAt, (lwm_tables_1_6 (List.mem_of_getElem? (i := 225) rfl) rfl), (lwm_tables_1_6 (List.mem_of_getElem? (i := 227) rfl) rfl), (lwm_0 (List.mem_of_getElem? (i := 57) rfl) rfl), by decide +kernel⟩
theorem ml_X10_324 : pm_lV RX10 324 M_X10_restPokes 0 := ⟨in_X10_restPokes, (lwm_tables_1_6 (List.mem_of_getElem? (i := 205) rfl) rfl), (lwm_tables_1_6 (List.mem_of_getElem? (i := 207) rfl) rfl), (lwm_0 (List.mem_of_getElem? (i := 52) rfl) rfl), by decide +kernel⟩
theorem ml_X10_327 : pm_lV RX10 327 M_X10_looks 0 := ⟨in_X10_looks, (lwm_tables_1_6 (List.mem_of_getElem? (i := 221) rfl) rfl), (lwm_tables_1_6 (List.mem_of_getElem? (i := 223) rfl) rfl), (lwm_0 (List.mem_of_getElem? (i := 56) rfl) rfl), by decide +kernel⟩
theorem ml_X10_330 : pm_lV RX10 330 M_X10_laysRests 2 := ⟨in_X10_laysRests, (lwm_tables_1_6 (List.mem_of_getElem? (i := 201) rfl) rfl), (lwm_tables_1_6 (List.mem_of_getElem? (i := 203) rfl) rfl), (lwm_0 (List.mem_of_getElem? (i := 51) rfl) rfl), by decide +kernel⟩
theorem ml_X10_333 : pm_lV RX10 333 M_X10_restsOnBit 2 := ⟨in_X10_restsOnBit, (lwm_tables_1_6 (List.mem_of_getElem? (i := 229) rfl) rfl), (lwm_tables_1_6 (List.mem_of_getElem? (i := 231) rfl) rfl), (lwm_0 (List.mem_of_getElem? (i := 58) rfl) rfl), by decide +kernel⟩
theorem ml_X10_336 : pm_lV RX10 336 M_X10_wouldBe 3 := ⟨in_X10_wouldBe, (lwm_tables_1_7 (List.mem_of_getElem? (i := 25) rfl) rfl), (lwm_tables_1_7 (List.mem_of_getElem? (i := 27) rfl) rfl), (lwm_0 (List.mem_of_getElem? (i := 60) rfl) rfl), by decide +kernel⟩
theorem ml_X10_339 : pm_lV RX10 339 M_X10_wouldOf 3 := ⟨in_X10_wouldOf, (lwm_tables_1_7 (List.mem_of_getElem? (i := 21) rfl) rfl), (lwm_tables_1_7 (List.mem_of_getElem? (i := 23) rfl) rfl), (lwm_0 (List.mem_of_getElem? (i := 59) rfl) rfl), by decide +kernel⟩
theorem ml_X10_349 : pm_lV RX10 349 M_X10_areLike 2 := ⟨in_X10_areLike, (lwm_tables_1_7 (List.mem_of_getElem? (i := 49) rfl) rfl), (lwm_tables_1_7 (List.mem_of_getElem? (i := 51) rfl) rfl), (lwm_0 (List.mem_of_getElem? (i := 63) rfl) rfl), by decide +kernel⟩
theorem ml_X10_352 : pm_lV RX10 352 M_X10_isThere 1 := ⟨in_X10_isThere, (lwm_tables_1_7 (List.mem_of_getElem? (i := 41) rfl) rfl), (lwm_tables_1_7 (List.mem_of_getElem? (i := 43) rfl) rfl), (lwm_0 (List.mem_of_getElem? (i := 61) rfl) rfl), by decide +kernel⟩
theorem ml_X10_355 : pm_lV RX10 355 M_X10_laysPairs 2 := ⟨in_X10_laysPairs, (lwm_tables_1_7 (List.mem_of_getElem? (i := 45) rfl) rfl), (lwm_tables_1_7 (List.mem_of_getElem? (i := 47) rfl) rfl), (lwm_0 (List.mem_of_getElem? (i := 62) rfl) rfl), by decide +kernel⟩
theorem ml_X10_364 : pm_lV RX10 364 M_X10_finds 1 := ⟨in_X10_finds, (lwm_tables_1_7 (List.mem_of_getElem? (i := 57) rfl) rfl), (lwm_tables_1_7 (List.mem_of_getElem? (i := 59) rfl) rfl), (lwm_0 (List.mem_of_getElem? (i := 64) rfl) rfl), by decide +kernel⟩
theorem ml_X10_373 : pm_lV RX10 373 M_X10_swaps 0 := ⟨in_X10_swaps, (lwm_tables_1_7 (List.mem_of_getElem? (i := 65) rfl) rfl), (lwm_tables_1_7 (List.mem_of_getElem? (i := 67) rfl) rfl), (lwm_0 (List.mem_of_getElem? (i := 65) rfl) rfl), by decide +kernel⟩
theorem ml_X10_376 : pm_lV RX10 376 M_X10_areStatesLike 0 := ⟨in_X10_areStatesLike, (lwm_tables_1_7 (List.mem_of_getElem? (i := 69) rfl) rfl), (lwm_tables_1_7 (List.mem_of_getElem? (i := 71) rfl) rfl), (lwm_0 (List.mem_of_getElem? (i := 66) rfl) rfl), by decide +kernel⟩
theorem ml_X10_380 : pm_lV RX10 380 M_X10_ofRun 2 := ⟨in_X10_ofRun, (lwm_tables_1_7 (List.mem_of_getElem? (i := 77) rfl) rfl), (lwm_tables_1_7 (List.mem_of_getElem? (i := 79) rfl) rfl), (lwm_0 (List.mem_of_getElem? (i := 67) rfl) rfl), by decide +kernel⟩
theorem ml_X10_383 : pm_lV RX10 383 M_X10_watchedOf 2 := ⟨in_X10_watchedOf, (lwm_tables_1_7 (List.mem_of_getElem? (i := 81) rfl) rfl), (lwm_tables_1_7 (List.mem_of_getElem? (i := 83) rfl) rfl), (lwm_0 (List.mem_of_getElem? (i := 68) rfl) rfl), by decide +kernel⟩
theorem sy_X9_359 : Cond.methodLink RX9 359 arraycopyName ∈ lw_g := (lwm_tables_1_3 (List.mem_of_getElem? (i := 238) rfl) rfl)
theorem sy_2 : Cond.native arraycopyName ∈ lw_g := (lwm_tables_1_4 (List.mem_of_getElem? (i := 0) rfl) rfl)
theorem sy_3 : Cond.static arraycopyName ∈ lw_g := (lwm_tables_1_3 (List.mem_of_getElem? (i := 239) rfl) rfl)
theorem sy_4 : Cond.initialized "java/lang/System" ∈ lw_g := (lwm_tables_1_1 (List.mem_of_getElem? (i := 14) rfl) rfl)
theorem mm_X9_247 : Cond.methodLink RX9 247 Lib.Math.max.name ∈ lw_g := (lwm_tables_1_4 (List.mem_of_getElem? (i := 107) rfl) rfl)
theorem mm_X9_356 : Cond.methodLink RX9 356 Lib.Math.min.name ∈ lw_g := (lwm_tables_1_3 (List.mem_of_getElem? (i := 237) rfl) rfl)
theorem mm_X0_42 : Cond.methodLink RX0 42 Lib.Math.min.name ∈ lw_g := (lwm_tables_1_4 (List.mem_of_getElem? (i := 206) rfl) rfl)
theorem mm_X0_61 : Cond.methodLink RX0 61 Lib.Math.max.name ∈ lw_g := (lwm_tables_1_4 (List.mem_of_getElem? (i := 212) rfl) rfl)
theorem mm_X2_44 : Cond.methodLink RX2 44 Lib.Math.max.name ∈ lw_g := (lwm_tables_1_3 (List.mem_of_getElem? (i := 146) rfl) rfl)
theorem mm_X6_97 : Cond.methodLink RX6 97 Lib.Math.min.name ∈ lw_g := (lwm_tables_1_4 (List.mem_of_getElem? (i := 124) rfl) rfl)
theorem mm_X7_140 : Cond.methodLink RX7 140 Lib.Math.min.name ∈ lw_g := (lwm_tables_1_3 (List.mem_of_getElem? (i := 11) rfl) rfl)
theorem mm_X10_195 : Cond.methodLink RX10 195 Lib.Math.min.name ∈ lw_g := (lwm_tables_1_6 (List.mem_of_getElem? (i := 64) rfl) rfl)
theorem mm_X10_235 : Cond.methodLink RX10 235 Lib.Math.max.name ∈ lw_g := (lwm_tables_1_6 (List.mem_of_getElem? (i := 108) rfl) rfl)
theorem mm_max_2 : Cond.static Lib.Math.max.name ∈ lw_g := (lwm_tables_1_3 (List.mem_of_getElem? (i := 147) rfl) rfl)
theorem mm_max_4 : Cond.code Lib.Math.max.name Lib.Math.max.code 2 (some .int) ∈ lw_g := (lwm_tables_1_3 (List.mem_of_getElem? (i := 148) rfl) rfl)
theorem mm_min_2 : Cond.static Lib.Math.min.name ∈ lw_g := (lwm_tables_1_3 (List.mem_of_getElem? (i := 12) rfl) rfl)
theorem mm_min_4 : Cond.code Lib.Math.min.name Lib.Math.min.code 2 (some .int) ∈ lw_g := (lwm_tables_1_3 (List.mem_of_getElem? (i := 13) rfl) rfl)
theorem mm_init : Cond.initialized "java/lang/Math" ∈ lw_g := (lwm_tables_1_1 (List.mem_of_getElem? (i := 12) rfl) rfl)
theorem kc_X9_175 : Cond.constant RX9 175 (-1000001) ∈ lw_g := (lwm_tables_1_4 (List.mem_of_getElem? (i := 34) rfl) rfl)
theorem kc_X3_43 : Cond.constant RX3 43 (-1000001) ∈ lw_g := (lwm_tables_1_4 (List.mem_of_getElem? (i := 170) rfl) rfl)
theorem kc_X4_25 : Cond.constant RX4 25 (1664525) ∈ lw_g := (lwm_tables_1_3 (List.mem_of_getElem? (i := 73) rfl) rfl)
theorem kc_X4_26 : Cond.constant RX4 26 (1013904223) ∈ lw_g := (lwm_tables_1_3 (List.mem_of_getElem? (i := 74) rfl) rfl)
theorem kc_X7_120 : Cond.constant RX7 120 (-1000001) ∈ lw_g := (lwm_tables_1_3 (List.mem_of_getElem? (i := 116) rfl) rfl)
theorem kc_X10_238 : Cond.constant RX10 238 (1664525) ∈ lw_g := (lwm_tables_1_6 (List.mem_of_getElem? (i := 58) rfl) rfl)
theorem kc_X10_239 : Cond.constant RX10 239 (1013904223) ∈ lw_g := (lwm_tables_1_6 (List.mem_of_getElem? (i := 59) rfl) rfl)
theorem kc_X10_304 : Cond.constant RX10 304 (-1000001) ∈ lw_g := (lwm_tables_1_6 (List.mem_of_getElem? (i := 168) rfl) rfl)
theorem nw_X9_9 : Cond.classLink RX9 9 RX5 ∈ lw_g ∧ Cond.instantiable RX5 4 ∈ lw_g ∧ Cond.initialized RX5 ∈ lw_g := ⟨(lwm_tables_1_1 (List.mem_of_getElem? (i := 23) rfl) rfl), (lwm_tables_1_1 (List.mem_of_getElem? (i := 24) rfl) rfl), (lwm_tables_1_1 (List.mem_of_getElem? (i := 2) rfl) rfl)⟩
theorem nw_X9_16 : Cond.classLink RX9 16 RX4 ∈ lw_g ∧ Cond.instantiable RX4 4 ∈ lw_g ∧ Cond.initialized RX4 ∈ lw_g := ⟨(lwm_tables_1_1 (List.mem_of_getElem? (i := 46) rfl) rfl), (lwm_tables_1_1 (List.mem_of_getElem? (i := 47) rfl) rfl), (lwm_tables_1_1 (List.mem_of_getElem? (i := 4) rfl) rfl)⟩
theorem nw_X9_23 : Cond.classLink RX9 23 RX0 ∈ lw_g ∧ Cond.instantiable RX0 6 ∈ lw_g ∧ Cond.initialized RX0 ∈ lw_g := ⟨(lwm_tables_1_1 (List.mem_of_getElem? (i := 68) rfl) rfl), (lwm_tables_1_1 (List.mem_of_getElem? (i := 69) rfl) rfl), (lwm_tables_1_1 (List.mem_of_getElem? (i := 5) rfl) rfl)⟩
theorem nw_X9_34 : Cond.classLink RX9 34 RX7 ∈ lw_g ∧ Cond.instantiable RX7 15 ∈ lw_g ∧ Cond.initialized RX7 ∈ lw_g := ⟨(lwm_tables_1_1 (List.mem_of_getElem? (i := 96) rfl) rfl), (lwm_tables_1_1 (List.mem_of_getElem? (i := 97) rfl) rfl), (lwm_tables_1_1 (List.mem_of_getElem? (i := 6) rfl) rfl)⟩
theorem nw_X0_9 : Cond.classLink RX0 9 "[[I" ∈ lw_g := (lwm_tables_1_1 (List.mem_of_getElem? (i := 74) rfl) rfl)
theorem nw_X7_9 : Cond.classLink RX7 9 RX5 ∈ lw_g ∧ Cond.instantiable RX5 4 ∈ lw_g ∧ Cond.initialized RX5 ∈ lw_g := ⟨(lwm_tables_1_1 (List.mem_of_getElem? (i := 102) rfl) rfl), (lwm_tables_1_1 (List.mem_of_getElem? (i := 24) rfl) rfl), (lwm_tables_1_1 (List.mem_of_getElem? (i := 2) rfl) rfl)⟩
theorem nw_X7_18 : Cond.classLink RX7 18 RX3 ∈ lw_g ∧ Cond.instantiable RX3 6 ∈ lw_g ∧ Cond.initialized RX3 ∈ lw_g := ⟨(lwm_tables_1_1 (List.mem_of_getElem? (i := 104) rfl) rfl), (lwm_tables_1_1 (List.mem_of_getElem? (i := 105) rfl) rfl), (lwm_tables_1_1 (List.mem_of_getElem? (i := 7) rfl) rfl)⟩
theorem nw_X7_25 : Cond.classLink RX7 25 RX6 ∈ lw_g ∧ Cond.instantiable RX6 12 ∈ lw_g ∧ Cond.initialized RX6 ∈ lw_g := ⟨(lwm_tables_1_1 (List.mem_of_getElem? (i := 132) rfl) rfl), (lwm_tables_1_1 (List.mem_of_getElem? (i := 133) rfl) rfl), (lwm_tables_1_1 (List.mem_of_getElem? (i := 8) rfl) rfl)⟩
theorem nw_X7_32 : Cond.classLink RX7 32 RX1 ∈ lw_g ∧ Cond.instantiable RX1 4 ∈ lw_g ∧ Cond.initialized RX1 ∈ lw_g := ⟨(lwm_tables_1_1 (List.mem_of_getElem? (i := 177) rfl) rfl), (lwm_tables_1_1 (List.mem_of_getElem? (i := 178) rfl) rfl), (lwm_tables_1_1 (List.mem_of_getElem? (i := 9) rfl) rfl)⟩
theorem nw_X7_39 : Cond.classLink RX7 39 RX2 ∈ lw_g ∧ Cond.instantiable RX2 5 ∈ lw_g ∧ Cond.initialized RX2 ∈ lw_g := ⟨(lwm_tables_1_1 (List.mem_of_getElem? (i := 199) rfl) rfl), (lwm_tables_1_1 (List.mem_of_getElem? (i := 200) rfl) rfl), (lwm_tables_1_1 (List.mem_of_getElem? (i := 10) rfl) rfl)⟩
theorem nw_L_7 : Cond.classLink RL 7 RX9 ∈ lw_g ∧ Cond.instantiable RX9 14 ∈ lw_g ∧ Cond.initialized RX9 ∈ lw_g := ⟨(lwm_tables_1_1 (List.mem_of_getElem? (i := 15) rfl) rfl), (lwm_tables_1_1 (List.mem_of_getElem? (i := 16) rfl) rfl), (lwm_tables_1_1 (List.mem_of_getElem? (i := 1) rfl) rfl)⟩
theorem nw_L_10 : Cond.classLink RL 10 RX10 ∈ lw_g ∧ Cond.instantiable RX10 55 ∈ lw_g ∧ Cond.initialized RX10 ∈ lw_g := ⟨(lwm_tables_1_5 (List.mem_of_getElem? (i := 39) rfl) rfl), (lwm_tables_1_5 (List.mem_of_getElem? (i := 40) rfl) rfl), (lwm_tables_1_1 (List.mem_of_getElem? (i := 11) rfl) rfl)⟩
theorem oi_X9 : Cond.methodLink RX9 3 Lib.objectInit ∈ lw_g := (lwm_tables_1_1 (List.mem_of_getElem? (i := 20) rfl) rfl)
theorem oi_X0 : Cond.methodLink RX0 3 Lib.objectInit ∈ lw_g := (lwm_tables_1_1 (List.mem_of_getElem? (i := 73) rfl) rfl)
theorem oi_X1 : Cond.methodLink RX1 3 Lib.objectInit ∈ lw_g := (lwm_tables_1_1 (List.mem_of_getElem? (i := 182) rfl) rfl)
theorem oi_X2 : Cond.methodLink RX2 3 Lib.objectInit ∈ lw_g := (lwm_tables_1_1 (List.mem_of_getElem? (i := 204) rfl) rfl)
theorem oi_X3 : Cond.methodLink RX3 3 Lib.objectInit ∈ lw_g := (lwm_tables_1_1 (List.mem_of_getElem? (i := 109) rfl) rfl)
theorem oi_X4 : Cond.methodLink RX4 3 Lib.objectInit ∈ lw_g := (lwm_tables_1_1 (List.mem_of_getElem? (i := 51) rfl) rfl)
theorem oi_X5 : Cond.methodLink RX5 3 Lib.objectInit ∈ lw_g := (lwm_tables_1_1 (List.mem_of_getElem? (i := 28) rfl) rfl)
theorem oi_X6 : Cond.methodLink RX6 3 Lib.objectInit ∈ lw_g := (lwm_tables_1_1 (List.mem_of_getElem? (i := 137) rfl) rfl)
theorem oi_X7 : Cond.methodLink RX7 3 Lib.objectInit ∈ lw_g := (lwm_tables_1_1 (List.mem_of_getElem? (i := 101) rfl) rfl)
theorem oi_X10 : Cond.methodLink RX10 1 Lib.objectInit ∈ lw_g := (lwm_tables_1_5 (List.mem_of_getElem? (i := 44) rfl) rfl)
theorem oi_2 : Cond.instanceMethod Lib.objectInit ∈ lw_g := (lwm_tables_1_1 (List.mem_of_getElem? (i := 21) rfl) rfl)
theorem oi_3 : Cond.code Lib.objectInit ⟨#[0xb1]⟩ 1 none ∈ lw_g := (lwm_tables_1_1 (List.mem_of_getElem? (i := 22) rfl) rfl)
theorem ac_int : Cond.arrayClass .int ∈ lw_g := (lwm_tables_1_1 (List.mem_of_getElem? (i := 45) rfl) rfl)
theorem ac_boolean : Cond.arrayClass .boolean ∈ lw_g := (lwm_tables_1_1 (List.mem_of_getElem? (i := 131) rfl) rfl)
theorem ao_ii : Cond.arrayOver (.array .int) ∈ lw_tbl := (lwt_tables_1_1 (List.mem_of_getElem? (i := 75) rfl))
theorem ao_Run : Cond.arrayOver (.object RX7) ∈ lw_tbl := (lwt_tables_1_2 (List.mem_of_getElem? (i := 48) rfl))
