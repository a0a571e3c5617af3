theorem wl_50 : Cond.laysFinal RX0 "CnfPreprocessor$ClauseList" "sets" "[I" ∈ lw_good := mj_w1 50 (by decide +kernel) rfl
theorem wl_52 : Cond.lays RX0 "CnfPreprocessor$ClauseList" "count" "I" ∈ lw_good := mj_w1 52 (by decide +kernel) rfl
theorem wl_83 : Cond.lays RX6 "CnfPreprocessor$State" "variables" "I" ∈ lw_good := mj_w1 83 (by decide +kernel) rfl
theorem wl_85 : Cond.lays RX6 "CnfPreprocessor$State" "growth" "I" ∈ lw_good := mj_w1 85 (by decide +kernel) rfl
theorem wl_87 : Cond.lays RX6 "CnfPreprocessor$State" "rows" "I" ∈ lw_good := mj_w1 87 (by decide +kernel) rfl
theorem wl_89 : Cond.laysFinal RX6 "CnfPreprocessor$State" "list" "LCnfPreprocessor$ClauseList;" ∈ lw_good := mj_w1 89 (by decide +kernel) rfl
theorem wl_91 : Cond.laysFinal RX6 "CnfPreprocessor$State" "originals" "LCnfPreprocessor$ClauseList;" ∈ lw_good := mj_w1 91 (by decide +kernel) rfl
theorem wl_93 : Cond.laysFinal RX6 "CnfPreprocessor$State" "statuses" "[I" ∈ lw_good := mj_w1 93 (by decide +kernel) rfl
theorem wl_95 : Cond.laysFinal RX6 "CnfPreprocessor$State" "known" "[I" ∈ lw_good := mj_w1 95 (by decide +kernel) rfl
theorem wl_97 : Cond.laysFinal RX6 "CnfPreprocessor$State" "totals" "[I" ∈ lw_good := mj_w1 97 (by decide +kernel) rfl
theorem wl_99 : Cond.laysFinal RX6 "CnfPreprocessor$State" "rowSets" "[I" ∈ lw_good := mj_w1 99 (by decide +kernel) rfl
theorem wl_101 : Cond.laysFinal RX6 "CnfPreprocessor$State" "rowWitnesses" "[I" ∈ lw_good := mj_w1 101 (by decide +kernel) rfl
theorem wl_113 : Cond.laysFinal RX8 "CnfPreprocessor$Text" "bytes" "[I" ∈ lw_good := mj_w1 113 (by decide +kernel) rfl
theorem wl_115 : Cond.lays RX8 "CnfPreprocessor$Text" "length" "I" ∈ lw_good := mj_w1 115 (by decide +kernel) rfl
theorem wl_134 : Cond.laysFinal RX1 "CnfPreprocessor$ClauseReader" "clauses" "LCnfPreprocessor$ClauseList;" ∈ lw_good := mj_w1 134 (by decide +kernel) rfl
theorem wl_136 : Cond.lays RX1 "CnfPreprocessor$ClauseReader" "variables" "I" ∈ lw_good := mj_w1 136 (by decide +kernel) rfl
theorem wl_138 : Cond.lays RX1 "CnfPreprocessor$ClauseReader" "place" "I" ∈ lw_good := mj_w1 138 (by decide +kernel) rfl
theorem wl_140 : Cond.lays RX1 "CnfPreprocessor$ClauseReader" "number" "I" ∈ lw_good := mj_w1 140 (by decide +kernel) rfl
theorem wl_142 : Cond.lays RX1 "CnfPreprocessor$ClauseReader" "sign" "I" ∈ lw_good := mj_w1 142 (by decide +kernel) rfl
theorem wl_144 : Cond.lays RX1 "CnfPreprocessor$ClauseReader" "literals" "I" ∈ lw_good := mj_w1 144 (by decide +kernel) rfl
theorem wl_146 : Cond.lays RX1 "CnfPreprocessor$ClauseReader" "open" "Z" ∈ lw_good := mj_w1 146 (by decide +kernel) rfl
theorem wl_157 : Cond.lays RX2 "CnfPreprocessor$ClauseSource" "x" "J" ∈ lw_good := mj_w1 157 (by decide +kernel) rfl
theorem wl_159 : Cond.lays RX2 "CnfPreprocessor$ClauseSource" "variables" "I" ∈ lw_good := mj_w1 159 (by decide +kernel) rfl
theorem wl_179 : Cond.laysFinal RX5 "CnfPreprocessor$Resolvents" "found" "LCnfPreprocessor$ClauseList;" ∈ lw_good := mj_w1 179 (by decide +kernel) rfl
theorem wl_199 : Cond.laysFinal RX3 "CnfPreprocessor$Extension" "pairs" "LCnfPreprocessor$ClauseList;" ∈ lw_good := mj_w1 199 (by decide +kernel) rfl
theorem wl_201 : Cond.laysFinal RX3 "CnfPreprocessor$Extension" "witnesses" "[I" ∈ lw_good := mj_w1 201 (by decide +kernel) rfl
theorem wl_203 : Cond.lays RX3 "CnfPreprocessor$Extension" "literals" "I" ∈ lw_good := mj_w1 203 (by decide +kernel) rfl
theorem wl_205 : Cond.lays RX3 "CnfPreprocessor$Extension" "covered" "Z" ∈ lw_good := mj_w1 205 (by decide +kernel) rfl
theorem wl_215 : Cond.laysFinal RX4 "CnfPreprocessor$Implications" "reached" "[I" ∈ lw_good := mj_w1 215 (by decide +kernel) rfl
theorem wl_224 : Cond.laysFinal RX7 "CnfPreprocessor$Techniques" "resolvents" "LCnfPreprocessor$Resolvents;" ∈ lw_good := mj_w1 224 (by decide +kernel) rfl
theorem wl_226 : Cond.laysFinal RX7 "CnfPreprocessor$Techniques" "extension" "LCnfPreprocessor$Extension;" ∈ lw_good := mj_w1 226 (by decide +kernel) rfl
theorem wl_228 : Cond.laysFinal RX7 "CnfPreprocessor$Techniques" "implications" "LCnfPreprocessor$Implications;" ∈ lw_good := mj_w1 228 (by decide +kernel) rfl
theorem wl_239 : Cond.laysFinal RX9 "CnfPreprocessor" "state" "LCnfPreprocessor$State;" ∈ lw_good := mj_w1 239 (by decide +kernel) rfl
theorem wl_241 : Cond.laysFinal RX9 "CnfPreprocessor" "trial" "LCnfPreprocessor$State;" ∈ lw_good := mj_w2 1 (by decide +kernel) rfl
theorem wl_243 : Cond.laysFinal RX9 "CnfPreprocessor" "saved" "[LCnfPreprocessor$State;" ∈ lw_good := mj_w2 3 (by decide +kernel) rfl
theorem wl_245 : Cond.lays RX9 "CnfPreprocessor" "savedCount" "I" ∈ lw_good := mj_w2 5 (by decide +kernel) rfl
theorem wl_247 : Cond.laysFinal RX9 "CnfPreprocessor" "text" "LCnfPreprocessor$Text;" ∈ lw_good := mj_w2 7 (by decide +kernel) rfl
theorem wl_249 : Cond.laysFinal RX9 "CnfPreprocessor" "reader" "LCnfPreprocessor$ClauseReader;" ∈ lw_good := mj_w2 9 (by decide +kernel) rfl
theorem wl_251 : Cond.laysFinal RX9 "CnfPreprocessor" "source" "LCnfPreprocessor$ClauseSource;" ∈ lw_good := mj_w2 11 (by decide +kernel) rfl
theorem wl_253 : Cond.laysFinal RX9 "CnfPreprocessor" "techniques" "LCnfPreprocessor$Techniques;" ∈ lw_good := mj_w2 13 (by decide +kernel) rfl
theorem wl_688 : Cond.lays "java/lang/IllegalArgumentException" "java/lang/Throwable" "cause" "Ljava/lang/Throwable;" ∈ lw_good := mj_w3 208 (by decide +kernel) rfl
theorem wl_689 : Cond.lays "java/lang/Throwable" "java/lang/Throwable" "cause" "Ljava/lang/Throwable;" ∈ lw_good := mj_w3 209 (by decide +kernel) rfl
theorem wl_690 : Cond.lays "java/lang/IllegalArgumentException" "java/lang/Throwable" "stackTrace" "[Ljava/lang/StackTraceElement;" ∈ lw_good := mj_w3 210 (by decide +kernel) rfl
theorem wl_691 : Cond.lays "java/lang/Throwable" "java/lang/Throwable" "stackTrace" "[Ljava/lang/StackTraceElement;" ∈ lw_good := mj_w3 211 (by decide +kernel) rfl
theorem wl_692 : Cond.lays "java/lang/IllegalArgumentException" "java/lang/Throwable" "suppressedExceptions" "Ljava/util/List;" ∈ lw_good := mj_w3 212 (by decide +kernel) rfl
theorem wl_693 : Cond.lays "java/lang/Throwable" "java/lang/Throwable" "suppressedExceptions" "Ljava/util/List;" ∈ lw_good := mj_w3 213 (by decide +kernel) rfl
theorem wl_694 : Cond.lays "java/lang/IllegalArgumentException" "java/lang/Throwable" "detailMessage" "Ljava/lang/String;" ∈ lw_good := mj_w3 214 (by decide +kernel) rfl
theorem wl_695 : Cond.lays "java/lang/Throwable" "java/lang/Throwable" "detailMessage" "Ljava/lang/String;" ∈ lw_good := mj_w3 215 (by decide +kernel) rfl
theorem wl_696 : Cond.lays "java/lang/IllegalArgumentException" "java/lang/Throwable" "backtrace" "Ljava/lang/Object;" ∈ lw_good := mj_w3 216 (by decide +kernel) rfl
theorem wl_697 : Cond.lays "java/lang/Throwable" "java/lang/Throwable" "backtrace" "Ljava/lang/Object;" ∈ lw_good := mj_w3 217 (by decide +kernel) rfl
theorem wl_740 : Cond.lays "java/lang/IllegalArgumentException" "java/lang/Throwable" "depth" "I" ∈ lw_good := mj_w4 20 (by decide +kernel) rfl
theorem wl_767 : Cond.lays "java/lang/IllegalStateException" "java/lang/Throwable" "cause" "Ljava/lang/Throwable;" ∈ lw_good := mj_w4 47 (by decide +kernel) rfl
theorem wl_768 : Cond.lays "java/lang/IllegalStateException" "java/lang/Throwable" "stackTrace" "[Ljava/lang/StackTraceElement;" ∈ lw_good := mj_w4 48 (by decide +kernel) rfl
theorem wl_769 : Cond.lays "java/lang/IllegalStateException" "java/lang/Throwable" "suppressedExceptions" "Ljava/util/List;" ∈ lw_good := mj_w4 49 (by decide +kernel) rfl
theorem wl_770 : Cond.lays "java/lang/IllegalStateException" "java/lang/Throwable" "detailMessage" "Ljava/lang/String;" ∈ lw_good := mj_w4 50 (by decide +kernel) rfl
theorem wl_771 : Cond.lays "java/lang/IllegalStateException" "java/lang/Throwable" "backtrace" "Ljava/lang/Object;" ∈ lw_good := mj_w4 51 (by decide +kernel) rfl
theorem wl_777 : Cond.lays "java/lang/IllegalStateException" "java/lang/Throwable" "depth" "I" ∈ lw_good := mj_w4 57 (by decide +kernel) rfl
theorem wl_825 : Cond.lays "java/lang/IndexOutOfBoundsException" "java/lang/Throwable" "cause" "Ljava/lang/Throwable;" ∈ lw_good := mj_w4 105 (by decide +kernel) rfl
theorem wl_826 : Cond.lays "java/lang/IndexOutOfBoundsException" "java/lang/Throwable" "stackTrace" "[Ljava/lang/StackTraceElement;" ∈ lw_good := mj_w4 106 (by decide +kernel) rfl
theorem wl_827 : Cond.lays "java/lang/IndexOutOfBoundsException" "java/lang/Throwable" "suppressedExceptions" "Ljava/util/List;" ∈ lw_good := mj_w4 107 (by decide +kernel) rfl
theorem wl_828 : Cond.lays "java/lang/IndexOutOfBoundsException" "java/lang/Throwable" "detailMessage" "Ljava/lang/String;" ∈ lw_good := mj_w4 108 (by decide +kernel) rfl
theorem wl_829 : Cond.lays "java/lang/IndexOutOfBoundsException" "java/lang/Throwable" "backtrace" "Ljava/lang/Object;" ∈ lw_good := mj_w4 109 (by decide +kernel) rfl
theorem wl_835 : Cond.lays "java/lang/IndexOutOfBoundsException" "java/lang/Throwable" "depth" "I" ∈ lw_good := mj_w4 115 (by decide +kernel) rfl
theorem wl_1283 : Cond.laysFinal RX10 "CnfPreprocessorModel" "s" "[I" ∈ lw_good := mj_w6 83 (by decide +kernel) rfl
theorem wl_1285 : Cond.laysFinal RX10 "CnfPreprocessorModel" "past" "[I" ∈ lw_good := mj_w6 85 (by decide +kernel) rfl
theorem wl_1287 : Cond.laysFinal RX10 "CnfPreprocessorModel" "aside" "[I" ∈ lw_good := mj_w6 87 (by decide +kernel) rfl
theorem wl_1289 : Cond.lays RX10 "CnfPreprocessorModel" "pasts" "I" ∈ lw_good := mj_w6 89 (by decide +kernel) rfl
theorem wl_1291 : Cond.laysFinal RX10 "CnfPreprocessorModel" "text" "[I" ∈ lw_good := mj_w6 91 (by decide +kernel) rfl
theorem wl_1293 : Cond.lays RX10 "CnfPreprocessorModel" "typed" "I" ∈ lw_good := mj_w6 93 (by decide +kernel) rfl
theorem wl_1295 : Cond.lays RX10 "CnfPreprocessorModel" "thrown" "I" ∈ lw_good := mj_w6 95 (by decide +kernel) rfl
theorem wl_1297 : Cond.lays RX10 "CnfPreprocessorModel" "drawn" "J" ∈ lw_good := mj_w6 97 (by decide +kernel) rfl
theorem wl_1299 : Cond.lays RX10 "CnfPreprocessorModel" "at" "I" ∈ lw_good := mj_w6 99 (by decide +kernel) rfl
theorem wl_1301 : Cond.lays RX10 "CnfPreprocessorModel" "fault" "I" ∈ lw_good := mj_w6 101 (by decide +kernel) rfl
theorem wl_1303 : Cond.lays RX10 "CnfPreprocessorModel" "number" "I" ∈ lw_good := mj_w6 103 (by decide +kernel) rfl
theorem wl_1305 : Cond.laysFinal RX10 "CnfPreprocessorModel" "told" "[I" ∈ lw_good := mj_w6 105 (by decide +kernel) rfl
theorem wl_1307 : Cond.lays RX10 "CnfPreprocessorModel" "tolds" "I" ∈ lw_good := mj_w6 107 (by decide +kernel) rfl
theorem wl_1309 : Cond.lays RX10 "CnfPreprocessorModel" "asked" "I" ∈ lw_good := mj_w6 109 (by decide +kernel) rfl
theorem wl_1311 : Cond.lays RX10 "CnfPreprocessorModel" "passed" "I" ∈ lw_good := mj_w6 111 (by decide +kernel) rfl
theorem wl_1313 : Cond.lays RX10 "CnfPreprocessorModel" "found" "I" ∈ lw_good := mj_w6 113 (by decide +kernel) rfl
theorem wl_1315 : Cond.laysFinal RX10 "CnfPreprocessorModel" "gone" "[Z" ∈ lw_good := mj_w6 115 (by decide +kernel) rfl
theorem wl_1317 : Cond.laysFinal RX10 "CnfPreprocessorModel" "made" "[I" ∈ lw_good := mj_w6 117 (by decide +kernel) rfl
theorem wl_1319 : Cond.lays RX10 "CnfPreprocessorModel" "mades" "I" ∈ lw_good := mj_w6 119 (by decide +kernel) rfl
theorem wl_1321 : Cond.laysFinal RX10 "CnfPreprocessorModel" "pairSet" "[I" ∈ lw_good := mj_w6 121 (by decide +kernel) rfl
theorem wl_1323 : Cond.laysFinal RX10 "CnfPreprocessorModel" "pairLiteral" "[I" ∈ lw_good := mj_w6 123 (by decide +kernel) rfl
theorem wl_1325 : Cond.lays RX10 "CnfPreprocessorModel" "pairs" "I" ∈ lw_good := mj_w6 125 (by decide +kernel) rfl
theorem wl_1327 : Cond.lays RX10 "CnfPreprocessorModel" "extended" "I" ∈ lw_good := mj_w6 127 (by decide +kernel) rfl
theorem wl_1329 : Cond.laysFinal RX10 "CnfPreprocessorModel" "reach" "[I" ∈ lw_good := mj_w6 129 (by decide +kernel) rfl
theorem wl_1331 : Cond.laysFinal RX10 "CnfPreprocessorModel" "names" "[I" ∈ lw_good := mj_w6 131 (by decide +kernel) rfl
theorem wl_1333 : Cond.lays RX10 "CnfPreprocessorModel" "isFirstFailed" "Z" ∈ lw_good := mj_w6 133 (by decide +kernel) rfl
theorem wl_1335 : Cond.lays RX10 "CnfPreprocessorModel" "after" "I" ∈ lw_good := mj_w6 135 (by decide +kernel) rfl
theorem wl_1337 : Cond.lays RX10 "CnfPreprocessorModel" "h" "J" ∈ lw_good := mj_w6 137 (by decide +kernel) rfl
theorem kcw_0 : ∀ w ∈ u_ws RX0 TX0 2, w ∈ lw_good := show ∀ w ∈ ([Cond.laysFinal RX0 "CnfPreprocessor$ClauseList" "sets" "[I", Cond.lays RX0 "CnfPreprocessor$ClauseList" "count" "I"] : List Cond), w ∈ lw_good from List.forall_mem_cons.mpr ⟨wl_50, List.forall_mem_cons.mpr ⟨wl_52, fun _ h => nomatch h⟩⟩
theorem kc_0 : mj_KC 0 RX0 TX0 2 := ⟨rfl, rfl, kcw_0, tyX0_ok, nmX0⟩
theorem kcw_1 : ∀ w ∈ u_ws RX1 TX1 7, w ∈ lw_good := show ∀ w ∈ ([Cond.laysFinal RX1 "CnfPreprocessor$ClauseReader" "clauses" "LCnfPreprocessor$ClauseList;", Cond.lays RX1 "CnfPreprocessor$ClauseReader" "variables" "I", Cond.lays RX1 "CnfPreprocessor$ClauseReader" "place" "I", Cond.lays RX1 "CnfPreprocessor$ClauseReader" "number" "I", Cond.lays RX1 "CnfPreprocessor$ClauseReader" "sign" "I", Cond.lays RX1 "CnfPreprocessor$ClauseReader" "literals" "I", Cond.lays RX1 "CnfPreprocessor$ClauseReader" "open" "Z"] : List Cond), w ∈ lw_good from List.forall_mem_cons.mpr ⟨wl_134, List.forall_mem_cons.mpr ⟨wl_136, List.forall_mem_cons.mpr ⟨wl_138, List.forall_mem_cons.mpr ⟨wl_140, List.forall_mem_cons.mpr ⟨wl_142, List.forall_mem_cons.mpr ⟨wl_144, List.forall_mem_cons.mpr ⟨wl_146, fun _ h => nomatch h⟩⟩⟩⟩⟩⟩⟩
theorem kc_1 : mj_KC 1 RX1 TX1 7 := ⟨rfl, rfl, kcw_1, tyX1_ok, nmX1⟩
theorem kcw_2 : ∀ w ∈ u_ws RX2 TX2 2, w ∈ lw_good := show ∀ w ∈ ([Cond.lays RX2 "CnfPreprocessor$ClauseSource" "x" "J", Cond.lays RX2 "CnfPreprocessor$ClauseSource" "variables" "I"] : List Cond), w ∈ lw_good from List.forall_mem_cons.mpr ⟨wl_157, List.forall_mem_cons.mpr ⟨wl_159, fun _ h => nomatch h⟩⟩
theorem kc_2 : mj_KC 2 RX2 TX2 2 := ⟨rfl, rfl, kcw_2, tyX2_ok, nmX2⟩
theorem kcw_3 : ∀ w ∈ u_ws RX3 TX3 4, w ∈ lw_good := show ∀ w ∈ ([Cond.laysFinal RX3 "CnfPreprocessor$Extension" "pairs" "LCnfPreprocessor$ClauseList;", Cond.laysFinal RX3 "CnfPreprocessor$Extension" "witnesses" "[I", Cond.lays RX3 "CnfPreprocessor$Extension" "literals" "I", Cond.lays RX3 "CnfPreprocessor$Extension" "covered" "Z"] : List Cond), w ∈ lw_good from List.forall_mem_cons.mpr ⟨wl_199, List.forall_mem_cons.mpr ⟨wl_201, List.forall_mem_cons.mpr ⟨wl_203, List.forall_mem_cons.mpr ⟨wl_205, fun _ h => nomatch h⟩⟩⟩⟩
theorem kc_3 : mj_KC 3 RX3 TX3 4 := ⟨rfl, rfl, kcw_3, tyX3_ok, nmX3⟩
theorem kcw_4 : ∀ w ∈ u_ws RX4 TX4 1, w ∈ lw_good := show ∀ w ∈ ([Cond.laysFinal RX4 "CnfPreprocessor$Implications" "reached" "[I"] : List Cond), w ∈ lw_good from List.forall_mem_cons.mpr ⟨wl_215, fun _ h => nomatch h⟩
theorem kc_4 : mj_KC 4 RX4 TX4 1 := ⟨rfl, rfl, kcw_4, tyX4_ok, nmX4⟩
theorem kcw_5 : ∀ w ∈ u_ws RX5 TX5 1, w ∈ lw_good := show ∀ w ∈ ([Cond.laysFinal RX5 "CnfPreprocessor$Resolvents" "found" "LCnfPreprocessor$ClauseList;"] : List Cond), w ∈ lw_good from List.forall_mem_cons.mpr ⟨wl_179, fun _ h => nomatch h⟩
theorem kc_5 : mj_KC 5 RX5 TX5 1 := ⟨rfl, rfl, kcw_5, tyX5_ok, nmX5⟩
theorem kcw_6 : ∀ w ∈ u_ws RX6 TX6 10, w ∈ lw_good := show ∀ w ∈ ([Cond.lays RX6 "CnfPreprocessor$State" "variables" "I", Cond.lays RX6 "CnfPreprocessor$State" "growth" "I", Cond.lays RX6 "CnfPreprocessor$State" "rows" "I", Cond.laysFinal RX6 "CnfPreprocessor$State" "list" "LCnfPreprocessor$ClauseList;", Cond.laysFinal RX6 "CnfPreprocessor$State" "originals" "LCnfPreprocessor$ClauseList;", Cond.laysFinal RX6 "CnfPreprocessor$State" "statuses" "[I", Cond.laysFinal RX6 "CnfPreprocessor$State" "known" "[I", Cond.laysFinal RX6 "CnfPreprocessor$State" "totals" "[I", Cond.laysFinal RX6 "CnfPreprocessor$State" "rowSets" "[I", Cond.laysFinal RX6 "CnfPreprocessor$State" "rowWitnesses" "[I"] : List Cond), w ∈ lw_good from List.forall_mem_cons.mpr ⟨wl_83, List.forall_mem_cons.mpr ⟨wl_85, List.forall_mem_cons.mpr ⟨wl_87, List.forall_mem_cons.mpr ⟨wl_89, List.forall_mem_cons.mpr ⟨wl_91, List.forall_mem_cons.mpr ⟨wl_93, List.forall_mem_cons.mpr ⟨wl_95, List.forall_mem_cons.mpr ⟨wl_97, List.forall_mem_cons.mpr ⟨wl_99, List.forall_mem_cons.mpr ⟨wl_101, fun _ h => nomatch h⟩⟩⟩⟩⟩⟩⟩⟩⟩⟩
theorem kc_6 : mj_KC 6 RX6 TX6 10 := ⟨rfl, rfl, kcw_6, tyX6_ok, nmX6⟩
theorem kcw_7 : ∀ w ∈ u_ws RX7 TX7 3, w ∈ lw_good := show ∀ w ∈ ([Cond.laysFinal RX7 "CnfPreprocessor$Techniques" "resolvents" "LCnfPreprocessor$Resolvents;", Cond.laysFinal RX7 "CnfPreprocessor$Techniques" "extension" "LCnfPreprocessor$Extension;", Cond.laysFinal RX7 "CnfPreprocessor$Techniques" "implications" "LCnfPreprocessor$Implications;"] : List Cond), w ∈ lw_good from List.forall_mem_cons.mpr ⟨wl_224, List.forall_mem_cons.mpr ⟨wl_226, List.forall_mem_cons.mpr ⟨wl_228, fun _ h => nomatch h⟩⟩⟩
theorem kc_7 : mj_KC 7 RX7 TX7 3 := ⟨rfl, rfl, kcw_7, tyX7_ok, nmX7⟩
theorem kcw_8 : ∀ w ∈ u_ws RX8 TX8 2, w ∈ lw_good := show ∀ w ∈ ([Cond.laysFinal RX8 "CnfPreprocessor$Text" "bytes" "[I", Cond.lays RX8 "CnfPreprocessor$Text" "length" "I"] : List Cond), w ∈ lw_good from List.forall_mem_cons.mpr ⟨wl_113, List.forall_mem_cons.mpr ⟨wl_115, fun _ h => nomatch h⟩⟩
theorem kc_8 : mj_KC 8 RX8 TX8 2 := ⟨rfl, rfl, kcw_8, tyX8_ok, nmX8⟩
theorem kcw_9 : ∀ w ∈ u_ws RX9 TX9 8, w ∈ lw_good := show ∀ w ∈ ([Cond.laysFinal RX9 "CnfPreprocessor" "state" "LCnfPreprocessor$State;", Cond.laysFinal RX9 "CnfPreprocessor" "trial" "LCnfPreprocessor$State;", Cond.laysFinal RX9 "CnfPreprocessor" "saved" "[LCnfPreprocessor$State;", Cond.lays RX9 "CnfPreprocessor" "savedCount" "I", Cond.laysFinal RX9 "CnfPreprocessor" "text" "LCnfPreprocessor$Text;", Cond.laysFinal RX9 "CnfPreprocessor" "reader" "LCnfPreprocessor$ClauseReader;", Cond.laysFinal RX9 "CnfPreprocessor" "source" "LCnfPreprocessor$ClauseSource;", Cond.laysFinal RX9 "CnfPreprocessor" "techniques" "LCnfPreprocessor$Techniques;"] : List Cond), w ∈ lw_good from List.forall_mem_cons.mpr ⟨wl_239, List.forall_mem_cons.mpr ⟨wl_241, List.forall_mem_cons.mpr ⟨wl_243, List.forall_mem_cons.mpr ⟨wl_245, List.forall_mem_cons.mpr ⟨wl_247, List.forall_mem_cons.mpr ⟨wl_249, List.forall_mem_cons.mpr ⟨wl_251, List.forall_mem_cons.mpr ⟨wl_253, fun _ h => nomatch h⟩⟩⟩⟩⟩⟩⟩⟩
theorem kc_9 : mj_KC 9 RX9 TX9 8 := ⟨rfl, rfl, kcw_9, tyX9_ok, nmX9⟩
theorem kcw_10 : ∀ w ∈ u_ws RX10 TX10 28, w ∈ lw_good := show ∀ w ∈ ([Cond.laysFinal RX10 "CnfPreprocessorModel" "s" "[I", Cond.laysFinal RX10 "CnfPreprocessorModel" "past" "[I", Cond.laysFinal RX10 "CnfPreprocessorModel" "aside" "[I", Cond.lays RX10 "CnfPreprocessorModel" "pasts" "I", Cond.laysFinal RX10 "CnfPreprocessorModel" "text" "[I", Cond.lays RX10 "CnfPreprocessorModel" "typed" "I", Cond.lays RX10 "CnfPreprocessorModel" "thrown" "I", Cond.lays RX10 "CnfPreprocessorModel" "drawn" "J", Cond.lays RX10 "CnfPreprocessorModel" "at" "I", Cond.lays RX10 "CnfPreprocessorModel" "fault" "I", Cond.lays RX10 "CnfPreprocessorModel" "number" "I", Cond.laysFinal RX10 "CnfPreprocessorModel" "told" "[I", Cond.lays RX10 "CnfPreprocessorModel" "tolds" "I", Cond.lays RX10 "CnfPreprocessorModel" "asked" "I", Cond.lays RX10 "CnfPreprocessorModel" "passed" "I", Cond.lays RX10 "CnfPreprocessorModel" "found" "I", Cond.laysFinal RX10 "CnfPreprocessorModel" "gone" "[Z", Cond.laysFinal RX10 "CnfPreprocessorModel" "made" "[I", Cond.lays RX10 "CnfPreprocessorModel" "mades" "I", Cond.laysFinal RX10 "CnfPreprocessorModel" "pairSet" "[I", Cond.laysFinal RX10 "CnfPreprocessorModel" "pairLiteral" "[I", Cond.lays RX10 "CnfPreprocessorModel" "pairs" "I", Cond.lays RX10 "CnfPreprocessorModel" "extended" "I", Cond.laysFinal RX10 "CnfPreprocessorModel" "reach" "[I", Cond.laysFinal RX10 "CnfPreprocessorModel" "names" "[I", Cond.lays RX10 "CnfPreprocessorModel" "isFirstFailed" "Z", Cond.lays RX10 "CnfPreprocessorModel" "after" "I", Cond.lays RX10 "CnfPreprocessorModel" "h" "J"] : List Cond), w ∈ lw_good from List.forall_mem_cons.mpr ⟨wl_1283, List.forall_mem_cons.mpr ⟨wl_1285, List.forall_mem_cons.mpr ⟨wl_1287, List.forall_mem_cons.mpr ⟨wl_1289, List.forall_mem_cons.mpr ⟨wl_1291, List.forall_mem_cons.mpr ⟨wl_1293, List.forall_mem_cons.mpr ⟨wl_1295, List.forall_mem_cons.mpr ⟨wl_1297, List.forall_mem_cons.mpr ⟨wl_1299, List.forall_mem_cons.mpr ⟨wl_1301, List.forall_mem_cons.mpr ⟨wl_1303, List.forall_mem_cons.mpr ⟨wl_1305, List.forall_mem_cons.mpr ⟨wl_1307, List.forall_mem_cons.mpr ⟨wl_1309, List.forall_mem_cons.mpr ⟨wl_1311, List.forall_mem_cons.mpr ⟨wl_1313, List.forall_mem_cons.mpr ⟨wl_1315, List.forall_mem_cons.mpr ⟨wl_1317, List.forall_mem_cons.mpr ⟨wl_1319, List.forall_mem_cons.mpr ⟨wl_1321, List.forall_mem_cons.mpr ⟨wl_1323, List.forall_mem_cons.mpr ⟨wl_1325, List.forall_mem_cons.mpr ⟨wl_1327, List.forall_mem_cons.mpr ⟨wl_1329, List.forall_mem_cons.mpr ⟨wl_1331, List.forall_mem_cons.mpr ⟨wl_1333, List.forall_mem_cons.mpr ⟨wl_1335, List.forall_mem_cons.mpr ⟨wl_1337, fun _ h => nomatch h⟩⟩⟩⟩⟩⟩⟩⟩⟩⟩⟩⟩⟩⟩⟩⟩⟩⟩⟩⟩⟩⟩⟩⟩⟩⟩⟩⟩
theorem kc_10 : mj_KC 10 RX10 TX10 28 := ⟨rfl, rfl, kcw_10, tyX10_ok, nmX10⟩
