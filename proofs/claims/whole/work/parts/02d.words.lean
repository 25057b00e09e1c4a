theorem q_init_X10 : Cond.initialized RX10 ∈ gtbl := gt_1 (List.mem_of_getElem? (i := 1) rfl) rfl
theorem q_init_X8 : Cond.initialized RX8 ∈ gtbl := gt_1 (List.mem_of_getElem? (i := 2) rfl) rfl
theorem q_init_X6 : Cond.initialized RX6 ∈ gtbl := gt_1 (List.mem_of_getElem? (i := 3) rfl) rfl
theorem q_init_X4 : Cond.initialized RX4 ∈ gtbl := gt_1 (List.mem_of_getElem? (i := 4) rfl) rfl
theorem q_init_J7 : Cond.initialized RJ7 ∈ gtbl := gt_1 (List.mem_of_getElem? (i := 5) rfl) rfl
theorem q_init_X3 : Cond.initialized RX3 ∈ gtbl := gt_1 (List.mem_of_getElem? (i := 6) rfl) rfl
theorem q_init_X2 : Cond.initialized RX2 ∈ gtbl := gt_1 (List.mem_of_getElem? (i := 7) rfl) rfl
theorem q_init_X0 : Cond.initialized RX0 ∈ gtbl := gt_1 (List.mem_of_getElem? (i := 8) rfl) rfl
theorem q_init_X5 : Cond.initialized RX5 ∈ gtbl := gt_1 (List.mem_of_getElem? (i := 9) rfl) rfl
theorem q_init_X9 : Cond.initialized RX9 ∈ gtbl := gt_1 (List.mem_of_getElem? (i := 10) rfl) rfl
theorem q_init_X7 : Cond.initialized RX7 ∈ gtbl := gt_1 (List.mem_of_getElem? (i := 11) rfl) rfl
theorem q_init_X1 : Cond.initialized RX1 ∈ gtbl := gt_1 (List.mem_of_getElem? (i := 12) rfl) rfl
theorem q_init_J6 : Cond.initialized RJ6 ∈ gtbl := gt_1 (List.mem_of_getElem? (i := 13) rfl) rfl
theorem q_init_J9 : Cond.initialized RJ9 ∈ gtbl := gt_1 (List.mem_of_getElem? (i := 14) rfl) rfl
theorem q_init_X11 : Cond.initialized RX11 ∈ gtbl := gt_1 (List.mem_of_getElem? (i := 15) rfl) rfl
theorem q_init_J0 : Cond.initialized RJ0 ∈ gtbl := gt_1 (List.mem_of_getElem? (i := 16) rfl) rfl
theorem q_init_J1 : Cond.initialized RJ1 ∈ gtbl := gt_1 (List.mem_of_getElem? (i := 17) rfl) rfl
theorem q_init_J3 : Cond.initialized RJ3 ∈ gtbl := gt_1 (List.mem_of_getElem? (i := 18) rfl) rfl
theorem q_init_J2 : Cond.initialized RJ2 ∈ gtbl := gt_1 (List.mem_of_getElem? (i := 19) rfl) rfl
theorem q_clk_L_7 : Cond.classLink RL 7 RX10 ∈ gtbl := gt_1 (List.mem_of_getElem? (i := 20) rfl) rfl
theorem q_mk_X10 : Cond.instantiable RX10 12 ∈ gtbl := gt_1 (List.mem_of_getElem? (i := 21) rfl) rfl
theorem q_ml_L_9 : Cond.methodLink RL 9 yX10_init ∈ gtbl := gt_1 (List.mem_of_getElem? (i := 22) rfl) rfl
theorem q_inst_X10_init : Cond.instanceMethod yX10_init ∈ gtbl := gt_1 (List.mem_of_getElem? (i := 23) rfl) rfl
theorem q_code_X10_init : Cond.code yX10_init cX10_init 2 none ∈ gtbl := gt_1 (List.mem_of_getElem? (i := 24) rfl) rfl
theorem q_ml_X10_3 : Cond.methodLink RX10 3 ⟨"java/lang/Object", "<init>", "()V"⟩ ∈ gtbl := gt_1 (List.mem_of_getElem? (i := 25) rfl) rfl
theorem q_clk_X10_9 : Cond.classLink RX10 9 RX8 ∈ gtbl := gt_1 (List.mem_of_getElem? (i := 28) rfl) rfl
theorem q_mk_X8 : Cond.instantiable RX8 2 ∈ gtbl := gt_1 (List.mem_of_getElem? (i := 29) rfl) rfl
theorem q_ml_X10_11 : Cond.methodLinkNest RX10 11 yX8_init "MovedFold" ∈ ntbl := nt_1 (List.mem_of_getElem? (i := 30) rfl) rfl
theorem q_inst_X8_init : Cond.instanceMethod yX8_init ∈ gtbl := gt_1 (List.mem_of_getElem? (i := 31) rfl) rfl
theorem q_code_X8_init : Cond.code yX8_init cX8_init 1 none ∈ gtbl := gt_1 (List.mem_of_getElem? (i := 32) rfl) rfl
theorem q_ml_X8_3 : Cond.methodLink RX8 3 ⟨"java/lang/Object", "<init>", "()V"⟩ ∈ gtbl := gt_1 (List.mem_of_getElem? (i := 33) rfl) rfl
theorem q_fl_X8_9 : Cond.fieldLink RX8 9 "MovedFold$Text" "bytes" "[I" ∈ gtbl := gt_1 (List.mem_of_getElem? (i := 34) rfl) rfl
theorem q_fl_X6_58 : Cond.fieldLinkNest RX6 58 "MovedFold$Text" "bytes" "[I" "MovedFold" ∈ ntbl := nt_1 (List.mem_of_getElem? (i := 35) rfl) rfl
theorem q_fl_X8_15 : Cond.fieldLink RX8 15 "MovedFold$Text" "length" "I" ∈ gtbl := gt_1 (List.mem_of_getElem? (i := 36) rfl) rfl
theorem q_fl_X10_99 : Cond.fieldLinkNest RX10 99 "MovedFold$Text" "length" "I" "MovedFold" ∈ ntbl := nt_1 (List.mem_of_getElem? (i := 37) rfl) rfl
theorem q_fl_X6_95 : Cond.fieldLinkNest RX6 95 "MovedFold$Text" "length" "I" "MovedFold" ∈ ntbl := nt_1 (List.mem_of_getElem? (i := 38) rfl) rfl
theorem q_lay_X8_bytes : Cond.laysFinal RX8 "MovedFold$Text" "bytes" "[I" ∈ gtbl := gt_1 (List.mem_of_getElem? (i := 39) rfl) rfl
theorem q_lay_X8_length : Cond.lays RX8 "MovedFold$Text" "length" "I" ∈ gtbl := gt_1 (List.mem_of_getElem? (i := 41) rfl) rfl
theorem q_clk_X10_16 : Cond.classLink RX10 16 RX6 ∈ gtbl := gt_1 (List.mem_of_getElem? (i := 45) rfl) rfl
theorem q_mk_X6 : Cond.instantiable RX6 11 ∈ gtbl := gt_1 (List.mem_of_getElem? (i := 46) rfl) rfl
theorem q_ml_X10_18 : Cond.methodLink RX10 18 yX6_init ∈ gtbl := gt_1 (List.mem_of_getElem? (i := 47) rfl) rfl
theorem q_inst_X6_init : Cond.instanceMethod yX6_init ∈ gtbl := gt_1 (List.mem_of_getElem? (i := 48) rfl) rfl
theorem q_code_X6_init : Cond.code yX6_init cX6_init 2 none ∈ gtbl := gt_1 (List.mem_of_getElem? (i := 49) rfl) rfl
theorem q_ml_X6_3 : Cond.methodLink RX6 3 ⟨"java/lang/Object", "<init>", "()V"⟩ ∈ gtbl := gt_1 (List.mem_of_getElem? (i := 50) rfl) rfl
theorem q_fl_X6_24 : Cond.fieldLink RX6 24 "MovedFold$Reader" "text" "LMovedFold$Text;" ∈ gtbl := gt_1 (List.mem_of_getElem? (i := 51) rfl) rfl
theorem q_fl_X6_9 : Cond.fieldLink RX6 9 "MovedFold$Reader" "verbs" "[I" ∈ gtbl := gt_1 (List.mem_of_getElem? (i := 52) rfl) rfl
theorem q_fl_X10_120 : Cond.fieldLinkNest RX10 120 "MovedFold$Reader" "verbs" "[I" "MovedFold" ∈ ntbl := nt_1 (List.mem_of_getElem? (i := 53) rfl) rfl
theorem q_fl_X6_15 : Cond.fieldLink RX6 15 "MovedFold$Reader" "firsts" "[I" ∈ gtbl := gt_1 (List.mem_of_getElem? (i := 54) rfl) rfl
theorem q_fl_X10_124 : Cond.fieldLinkNest RX10 124 "MovedFold$Reader" "firsts" "[I" "MovedFold" ∈ ntbl := nt_1 (List.mem_of_getElem? (i := 55) rfl) rfl
theorem q_fl_X6_18 : Cond.fieldLink RX6 18 "MovedFold$Reader" "seconds" "[I" ∈ gtbl := gt_1 (List.mem_of_getElem? (i := 56) rfl) rfl
theorem q_fl_X10_127 : Cond.fieldLinkNest RX10 127 "MovedFold$Reader" "seconds" "[I" "MovedFold" ∈ ntbl := nt_1 (List.mem_of_getElem? (i := 57) rfl) rfl
theorem q_fl_X6_21 : Cond.fieldLink RX6 21 "MovedFold$Reader" "thirds" "[I" ∈ gtbl := gt_1 (List.mem_of_getElem? (i := 58) rfl) rfl
theorem q_fl_X10_130 : Cond.fieldLinkNest RX10 130 "MovedFold$Reader" "thirds" "[I" "MovedFold" ∈ ntbl := nt_1 (List.mem_of_getElem? (i := 59) rfl) rfl
theorem q_fl_X6_38 : Cond.fieldLink RX6 38 "MovedFold$Reader" "lines" "I" ∈ gtbl := gt_1 (List.mem_of_getElem? (i := 60) rfl) rfl
theorem q_fl_X10_117 : Cond.fieldLinkNest RX10 117 "MovedFold$Reader" "lines" "I" "MovedFold" ∈ ntbl := nt_1 (List.mem_of_getElem? (i := 61) rfl) rfl
theorem q_fl_X6_28 : Cond.fieldLink RX6 28 "MovedFold$Reader" "columns" "I" ∈ gtbl := gt_1 (List.mem_of_getElem? (i := 62) rfl) rfl
theorem q_fl_X6_32 : Cond.fieldLink RX6 32 "MovedFold$Reader" "rows" "I" ∈ gtbl := gt_1 (List.mem_of_getElem? (i := 63) rfl) rfl
theorem q_fl_X6_45 : Cond.fieldLink RX6 45 "MovedFold$Reader" "start" "I" ∈ gtbl := gt_1 (List.mem_of_getElem? (i := 64) rfl) rfl
theorem q_fl_X6_35 : Cond.fieldLink RX6 35 "MovedFold$Reader" "stop" "I" ∈ gtbl := gt_1 (List.mem_of_getElem? (i := 65) rfl) rfl
theorem q_fl_X6_51 : Cond.fieldLink RX6 51 "MovedFold$Reader" "kind" "I" ∈ gtbl := gt_1 (List.mem_of_getElem? (i := 66) rfl) rfl
theorem q_lay_X6_text : Cond.laysFinal RX6 "MovedFold$Reader" "text" "LMovedFold$Text;" ∈ gtbl := gt_1 (List.mem_of_getElem? (i := 67) rfl) rfl
theorem q_lay_X6_verbs : Cond.laysFinal RX6 "MovedFold$Reader" "verbs" "[I" ∈ gtbl := gt_1 (List.mem_of_getElem? (i := 69) rfl) rfl
theorem q_lay_X6_firsts : Cond.laysFinal RX6 "MovedFold$Reader" "firsts" "[I" ∈ gtbl := gt_1 (List.mem_of_getElem? (i := 71) rfl) rfl
theorem q_lay_X6_seconds : Cond.laysFinal RX6 "MovedFold$Reader" "seconds" "[I" ∈ gtbl := gt_1 (List.mem_of_getElem? (i := 73) rfl) rfl
theorem q_lay_X6_thirds : Cond.laysFinal RX6 "MovedFold$Reader" "thirds" "[I" ∈ gtbl := gt_1 (List.mem_of_getElem? (i := 75) rfl) rfl
theorem q_lay_X6_lines : Cond.lays RX6 "MovedFold$Reader" "lines" "I" ∈ gtbl := gt_1 (List.mem_of_getElem? (i := 77) rfl) rfl
theorem q_lay_X6_columns : Cond.lays RX6 "MovedFold$Reader" "columns" "I" ∈ gtbl := gt_1 (List.mem_of_getElem? (i := 79) rfl) rfl
theorem q_lay_X6_rows : Cond.lays RX6 "MovedFold$Reader" "rows" "I" ∈ gtbl := gt_1 (List.mem_of_getElem? (i := 81) rfl) rfl
theorem q_lay_X6_start : Cond.lays RX6 "MovedFold$Reader" "start" "I" ∈ gtbl := gt_1 (List.mem_of_getElem? (i := 83) rfl) rfl
theorem q_lay_X6_stop : Cond.lays RX6 "MovedFold$Reader" "stop" "I" ∈ gtbl := gt_1 (List.mem_of_getElem? (i := 85) rfl) rfl
theorem q_lay_X6_kind : Cond.lays RX6 "MovedFold$Reader" "kind" "I" ∈ gtbl := gt_1 (List.mem_of_getElem? (i := 87) rfl) rfl
theorem q_clk_X10_25 : Cond.classLink RX10 25 RX4 ∈ gtbl := gt_1 (List.mem_of_getElem? (i := 90) rfl) rfl
theorem q_mk_X4 : Cond.instantiable RX4 9 ∈ gtbl := gt_1 (List.mem_of_getElem? (i := 91) rfl) rfl
theorem q_ml_X10_27 : Cond.methodLink RX10 27 yX4_init ∈ gtbl := gt_1 (List.mem_of_getElem? (i := 92) rfl) rfl
theorem q_inst_X4_init : Cond.instanceMethod yX4_init ∈ gtbl := gt_1 (List.mem_of_getElem? (i := 93) rfl) rfl
theorem q_code_X4_init : Cond.code yX4_init cX4_init 1 none ∈ gtbl := gt_1 (List.mem_of_getElem? (i := 94) rfl) rfl
theorem q_ml_X4_3 : Cond.methodLink RX4 3 ⟨"java/lang/Object", "<init>", "()V"⟩ ∈ gtbl := gt_1 (List.mem_of_getElem? (i := 95) rfl) rfl
theorem q_ml_X4_22 : Cond.methodLink RX4 22 yX4_lay ∈ gtbl := gt_1 (List.mem_of_getElem? (i := 96) rfl) rfl
theorem q_inst_X4_lay : Cond.instanceMethod yX4_lay ∈ gtbl := gt_1 (List.mem_of_getElem? (i := 98) rfl) rfl
theorem q_code_X4_lay : Cond.code yX4_lay cX4_lay 3 none ∈ gtbl := gt_1 (List.mem_of_getElem? (i := 99) rfl) rfl
theorem q_ml_X4_59 : Cond.methodLink RX4 59 yJ7_fill_53178 ∈ gtbl := gt_1 (List.mem_of_getElem? (i := 100) rfl) rfl
theorem q_stat_J7_fill_53178 : Cond.static yJ7_fill_53178 ∈ gtbl := gt_1 (List.mem_of_getElem? (i := 101) rfl) rfl
theorem q_code_J7_fill_53178 : Cond.code yJ7_fill_53178 cJ7_fill_53178 4 none ∈ gtbl := gt_1 (List.mem_of_getElem? (i := 102) rfl) rfl
theorem q_fl_X4_9 : Cond.fieldLink RX4 9 "MovedFold$Ground" "kinds" "[I" ∈ gtbl := gt_1 (List.mem_of_getElem? (i := 103) rfl) rfl
theorem q_fl_X3_49 : Cond.fieldLinkNest RX3 49 "MovedFold$Ground" "kinds" "[I" "MovedFold" ∈ ntbl := nt_1 (List.mem_of_getElem? (i := 104) rfl) rfl
theorem q_fl_X10_144 : Cond.fieldLinkNest RX10 144 "MovedFold$Ground" "kinds" "[I" "MovedFold" ∈ ntbl := nt_1 (List.mem_of_getElem? (i := 105) rfl) rfl
theorem q_fl_X4_15 : Cond.fieldLink RX4 15 "MovedFold$Ground" "wants" "[I" ∈ gtbl := gt_1 (List.mem_of_getElem? (i := 106) rfl) rfl
theorem q_fl_X4_26 : Cond.fieldLink RX4 26 "MovedFold$Ground" "columns" "I" ∈ gtbl := gt_1 (List.mem_of_getElem? (i := 107) rfl) rfl
theorem q_fl_X3_46 : Cond.fieldLinkNest RX3 46 "MovedFold$Ground" "columns" "I" "MovedFold" ∈ ntbl := nt_1 (List.mem_of_getElem? (i := 108) rfl) rfl
theorem q_fl_X0_76 : Cond.fieldLinkNest RX0 76 "MovedFold$Ground" "columns" "I" "MovedFold" ∈ ntbl := nt_1 (List.mem_of_getElem? (i := 109) rfl) rfl
theorem q_fl_X10_107 : Cond.fieldLinkNest RX10 107 "MovedFold$Ground" "columns" "I" "MovedFold" ∈ ntbl := nt_1 (List.mem_of_getElem? (i := 110) rfl) rfl
theorem q_fl_X4_29 : Cond.fieldLink RX4 29 "MovedFold$Ground" "rows" "I" ∈ gtbl := gt_1 (List.mem_of_getElem? (i := 111) rfl) rfl
theorem q_fl_X3_43 : Cond.fieldLinkNest RX3 43 "MovedFold$Ground" "rows" "I" "MovedFold" ∈ ntbl := nt_1 (List.mem_of_getElem? (i := 112) rfl) rfl
theorem q_fl_X0_71 : Cond.fieldLinkNest RX0 71 "MovedFold$Ground" "rows" "I" "MovedFold" ∈ ntbl := nt_1 (List.mem_of_getElem? (i := 113) rfl) rfl
theorem q_fl_X10_110 : Cond.fieldLinkNest RX10 110 "MovedFold$Ground" "rows" "I" "MovedFold" ∈ ntbl := nt_1 (List.mem_of_getElem? (i := 114) rfl) rfl
theorem q_fl_X3_40 : Cond.fieldLinkNest RX3 40 "MovedFold$Ground" "hedges" "I" "MovedFold" ∈ ntbl := nt_1 (List.mem_of_getElem? (i := 115) rfl) rfl
theorem q_fl_X4_42 : Cond.fieldLink RX4 42 "MovedFold$Ground" "hedges" "I" ∈ gtbl := gt_1 (List.mem_of_getElem? (i := 116) rfl) rfl
theorem q_fl_X10_150 : Cond.fieldLinkNest RX10 150 "MovedFold$Ground" "hedges" "I" "MovedFold" ∈ ntbl := nt_1 (List.mem_of_getElem? (i := 117) rfl) rfl
theorem q_fl_X4_18 : Cond.fieldLink RX4 18 "MovedFold$Ground" "hurdles" "I" ∈ gtbl := gt_1 (List.mem_of_getElem? (i := 118) rfl) rfl
theorem q_fl_X2_32 : Cond.fieldLinkNest RX2 32 "MovedFold$Ground" "hurdles" "I" "MovedFold" ∈ ntbl := nt_1 (List.mem_of_getElem? (i := 119) rfl) rfl
theorem q_fl_X10_246 : Cond.fieldLinkNest RX10 246 "MovedFold$Ground" "hurdles" "I" "MovedFold" ∈ ntbl := nt_1 (List.mem_of_getElem? (i := 120) rfl) rfl
theorem q_fl_X4_32 : Cond.fieldLink RX4 32 "MovedFold$Ground" "wantCount" "I" ∈ gtbl := gt_1 (List.mem_of_getElem? (i := 121) rfl) rfl
theorem q_fl_X10_252 : Cond.fieldLinkNest RX10 252 "MovedFold$Ground" "wantCount" "I" "MovedFold" ∈ ntbl := nt_1 (List.mem_of_getElem? (i := 122) rfl) rfl
theorem q_fl_X2_50 : Cond.fieldLinkNest RX2 50 "MovedFold$Ground" "rest" "I" "MovedFold" ∈ ntbl := nt_1 (List.mem_of_getElem? (i := 123) rfl) rfl
theorem q_fl_X4_53 : Cond.fieldLink RX4 53 "MovedFold$Ground" "rest" "I" ∈ gtbl := gt_1 (List.mem_of_getElem? (i := 124) rfl) rfl
theorem q_fl_X10_249 : Cond.fieldLinkNest RX10 249 "MovedFold$Ground" "rest" "I" "MovedFold" ∈ ntbl := nt_1 (List.mem_of_getElem? (i := 125) rfl) rfl
theorem q_fl_X4_35 : Cond.fieldLink RX4 35 "MovedFold$Ground" "frozen" "I" ∈ gtbl := gt_1 (List.mem_of_getElem? (i := 126) rfl) rfl
theorem q_fl_X10_157 : Cond.fieldLinkNest RX10 157 "MovedFold$Ground" "frozen" "I" "MovedFold" ∈ ntbl := nt_1 (List.mem_of_getElem? (i := 127) rfl) rfl
theorem q_lay_X4_kinds : Cond.laysFinal RX4 "MovedFold$Ground" "kinds" "[I" ∈ gtbl := gt_1 (List.mem_of_getElem? (i := 128) rfl) rfl
theorem q_lay_X4_wants : Cond.laysFinal RX4 "MovedFold$Ground" "wants" "[I" ∈ gtbl := gt_1 (List.mem_of_getElem? (i := 130) rfl) rfl
theorem q_lay_X4_columns : Cond.lays RX4 "MovedFold$Ground" "columns" "I" ∈ gtbl := gt_1 (List.mem_of_getElem? (i := 132) rfl) rfl
theorem q_lay_X4_rows : Cond.lays RX4 "MovedFold$Ground" "rows" "I" ∈ gtbl := gt_1 (List.mem_of_getElem? (i := 134) rfl) rfl
theorem q_lay_X4_hedges : Cond.lays RX4 "MovedFold$Ground" "hedges" "I" ∈ gtbl := gt_1 (List.mem_of_getElem? (i := 136) rfl) rfl
theorem q_lay_X4_hurdles : Cond.lays RX4 "MovedFold$Ground" "hurdles" "I" ∈ gtbl := gt_1 (List.mem_of_getElem? (i := 138) rfl) rfl
theorem q_lay_X4_wantCount : Cond.lays RX4 "MovedFold$Ground" "wantCount" "I" ∈ gtbl := gt_1 (List.mem_of_getElem? (i := 140) rfl) rfl
theorem q_lay_X4_rest : Cond.lays RX4 "MovedFold$Ground" "rest" "I" ∈ gtbl := gt_1 (List.mem_of_getElem? (i := 142) rfl) rfl
theorem q_lay_X4_frozen : Cond.lays RX4 "MovedFold$Ground" "frozen" "I" ∈ gtbl := gt_1 (List.mem_of_getElem? (i := 144) rfl) rfl
theorem q_clk_X10_32 : Cond.classLink RX10 32 RX3 ∈ gtbl := gt_1 (List.mem_of_getElem? (i := 147) rfl) rfl
theorem q_mk_X3 : Cond.instantiable RX3 7 ∈ gtbl := gt_1 (List.mem_of_getElem? (i := 148) rfl) rfl
theorem q_ml_X10_34 : Cond.methodLinkNest RX10 34 yX3_init "MovedFold" ∈ ntbl := nt_1 (List.mem_of_getElem? (i := 149) rfl) rfl
theorem q_inst_X3_init : Cond.instanceMethod yX3_init ∈ gtbl := gt_1 (List.mem_of_getElem? (i := 150) rfl) rfl
theorem q_code_X3_init : Cond.code yX3_init cX3_init 1 none ∈ gtbl := gt_1 (List.mem_of_getElem? (i := 151) rfl) rfl
theorem q_ml_X3_3 : Cond.methodLink RX3 3 ⟨"java/lang/Object", "<init>", "()V"⟩ ∈ gtbl := gt_1 (List.mem_of_getElem? (i := 152) rfl) rfl
theorem q_fl_X3_9 : Cond.fieldLink RX3 9 "MovedFold$FoldTable" "needs" "[I" ∈ gtbl := gt_1 (List.mem_of_getElem? (i := 153) rfl) rfl
theorem q_fl_X5_38 : Cond.fieldLinkNest RX5 38 "MovedFold$FoldTable" "needs" "[I" "MovedFold" ∈ ntbl := nt_1 (List.mem_of_getElem? (i := 154) rfl) rfl
theorem q_fl_X10_167 : Cond.fieldLinkNest RX10 167 "MovedFold$FoldTable" "needs" "[I" "MovedFold" ∈ ntbl := nt_1 (List.mem_of_getElem? (i := 155) rfl) rfl
theorem q_fl_X3_15 : Cond.fieldLink RX3 15 "MovedFold$FoldTable" "sideCounts" "[I" ∈ gtbl := gt_1 (List.mem_of_getElem? (i := 156) rfl) rfl
theorem q_fl_X2_29 : Cond.fieldLinkNest RX2 29 "MovedFold$FoldTable" "sideCounts" "[I" "MovedFold" ∈ ntbl := nt_1 (List.mem_of_getElem? (i := 157) rfl) rfl
theorem q_fl_X9_48 : Cond.fieldLinkNest RX9 48 "MovedFold$FoldTable" "sideCounts" "[I" "MovedFold" ∈ ntbl := nt_1 (List.mem_of_getElem? (i := 158) rfl) rfl
theorem q_fl_X1_127 : Cond.fieldLinkNest RX1 127 "MovedFold$FoldTable" "sideCounts" "[I" "MovedFold" ∈ ntbl := nt_1 (List.mem_of_getElem? (i := 159) rfl) rfl
theorem q_fl_X10_164 : Cond.fieldLinkNest RX10 164 "MovedFold$FoldTable" "sideCounts" "[I" "MovedFold" ∈ ntbl := nt_1 (List.mem_of_getElem? (i := 160) rfl) rfl
theorem q_fl_X3_18 : Cond.fieldLink RX3 18 "MovedFold$FoldTable" "yardSums" "[I" ∈ gtbl := gt_1 (List.mem_of_getElem? (i := 161) rfl) rfl
theorem q_fl_X5_30 : Cond.fieldLinkNest RX5 30 "MovedFold$FoldTable" "yardSums" "[I" "MovedFold" ∈ ntbl := nt_1 (List.mem_of_getElem? (i := 162) rfl) rfl
theorem q_fl_X2_37 : Cond.fieldLinkNest RX2 37 "MovedFold$FoldTable" "yardSums" "[I" "MovedFold" ∈ ntbl := nt_1 (List.mem_of_getElem? (i := 163) rfl) rfl
theorem q_fl_X1_130 : Cond.fieldLinkNest RX1 130 "MovedFold$FoldTable" "yardSums" "[I" "MovedFold" ∈ ntbl := nt_1 (List.mem_of_getElem? (i := 164) rfl) rfl
theorem q_fl_X10_172 : Cond.fieldLinkNest RX10 172 "MovedFold$FoldTable" "yardSums" "[I" "MovedFold" ∈ ntbl := nt_1 (List.mem_of_getElem? (i := 165) rfl) rfl
theorem q_fl_X3_21 : Cond.fieldLink RX3 21 "MovedFold$FoldTable" "beside" "[I" ∈ gtbl := gt_1 (List.mem_of_getElem? (i := 166) rfl) rfl
theorem q_fl_X2_47 : Cond.fieldLinkNest RX2 47 "MovedFold$FoldTable" "beside" "[I" "MovedFold" ∈ ntbl := nt_1 (List.mem_of_getElem? (i := 167) rfl) rfl
theorem q_fl_X3_30 : Cond.fieldLink RX3 30 "MovedFold$FoldTable" "all" "I" ∈ gtbl := gt_1 (List.mem_of_getElem? (i := 168) rfl) rfl
theorem q_fl_X7_25 : Cond.fieldLinkNest RX7 25 "MovedFold$FoldTable" "all" "I" "MovedFold" ∈ ntbl := nt_1 (List.mem_of_getElem? (i := 169) rfl) rfl
theorem q_fl_X5_21 : Cond.fieldLinkNest RX5 21 "MovedFold$FoldTable" "all" "I" "MovedFold" ∈ ntbl := nt_1 (List.mem_of_getElem? (i := 170) rfl) rfl
theorem q_fl_X1_118 : Cond.fieldLinkNest RX1 118 "MovedFold$FoldTable" "all" "I" "MovedFold" ∈ ntbl := nt_1 (List.mem_of_getElem? (i := 171) rfl) rfl
theorem q_fl_X3_34 : Cond.fieldLink RX3 34 "MovedFold$FoldTable" "wanted" "I" ∈ gtbl := gt_1 (List.mem_of_getElem? (i := 172) rfl) rfl
theorem q_fl_X1_105 : Cond.fieldLinkNest RX1 105 "MovedFold$FoldTable" "wanted" "I" "MovedFold" ∈ ntbl := nt_1 (List.mem_of_getElem? (i := 173) rfl) rfl
theorem q_fl_X3_37 : Cond.fieldLink RX3 37 "MovedFold$FoldTable" "mostSides" "I" ∈ gtbl := gt_1 (List.mem_of_getElem? (i := 174) rfl) rfl
theorem q_fl_X1_41 : Cond.fieldLinkNest RX1 41 "MovedFold$FoldTable" "mostSides" "I" "MovedFold" ∈ ntbl := nt_1 (List.mem_of_getElem? (i := 175) rfl) rfl
theorem q_lay_X3_needs : Cond.laysFinal RX3 "MovedFold$FoldTable" "needs" "[I" ∈ gtbl := gt_1 (List.mem_of_getElem? (i := 176) rfl) rfl
theorem q_lay_X3_sideCounts : Cond.laysFinal RX3 "MovedFold$FoldTable" "sideCounts" "[I" ∈ gtbl := gt_1 (List.mem_of_getElem? (i := 178) rfl) rfl
theorem q_lay_X3_yardSums : Cond.laysFinal RX3 "MovedFold$FoldTable" "yardSums" "[I" ∈ gtbl := gt_1 (List.mem_of_getElem? (i := 180) rfl) rfl
theorem q_lay_X3_beside : Cond.laysFinal RX3 "MovedFold$FoldTable" "beside" "[I" ∈ gtbl := gt_1 (List.mem_of_getElem? (i := 182) rfl) rfl
theorem q_lay_X3_all : Cond.lays RX3 "MovedFold$FoldTable" "all" "I" ∈ gtbl := gt_1 (List.mem_of_getElem? (i := 184) rfl) rfl
theorem q_lay_X3_wanted : Cond.lays RX3 "MovedFold$FoldTable" "wanted" "I" ∈ gtbl := gt_1 (List.mem_of_getElem? (i := 186) rfl) rfl
theorem q_lay_X3_mostSides : Cond.lays RX3 "MovedFold$FoldTable" "mostSides" "I" ∈ gtbl := gt_1 (List.mem_of_getElem? (i := 188) rfl) rfl
theorem q_clk_X10_42 : Cond.classLink RX10 42 RX2 ∈ gtbl := gt_1 (List.mem_of_getElem? (i := 191) rfl) rfl
theorem q_mk_X2 : Cond.instantiable RX2 2 ∈ gtbl := gt_1 (List.mem_of_getElem? (i := 192) rfl) rfl
theorem q_ml_X10_44 : Cond.methodLinkNest RX10 44 yX2_init "MovedFold" ∈ ntbl := nt_1 (List.mem_of_getElem? (i := 193) rfl) rfl
theorem q_inst_X2_init : Cond.instanceMethod yX2_init ∈ gtbl := gt_1 (List.mem_of_getElem? (i := 194) rfl) rfl
theorem q_code_X2_init : Cond.code yX2_init cX2_init 1 none ∈ gtbl := gt_1 (List.mem_of_getElem? (i := 195) rfl) rfl
theorem q_ml_X2_3 : Cond.methodLink RX2 3 ⟨"java/lang/Object", "<init>", "()V"⟩ ∈ gtbl := gt_1 (List.mem_of_getElem? (i := 196) rfl) rfl
theorem q_fl_X2_9 : Cond.fieldLink RX2 9 "MovedFold$FoldRow" "folds" "[I" ∈ gtbl := gt_1 (List.mem_of_getElem? (i := 197) rfl) rfl
theorem q_fl_X10_184 : Cond.fieldLinkNest RX10 184 "MovedFold$FoldRow" "folds" "[I" "MovedFold" ∈ ntbl := nt_1 (List.mem_of_getElem? (i := 198) rfl) rfl
theorem q_fl_X2_15 : Cond.fieldLink RX2 15 "MovedFold$FoldRow" "nights" "I" ∈ gtbl := gt_1 (List.mem_of_getElem? (i := 199) rfl) rfl
theorem q_fl_X10_137 : Cond.fieldLinkNest RX10 137 "MovedFold$FoldRow" "nights" "I" "MovedFold" ∈ ntbl := nt_1 (List.mem_of_getElem? (i := 200) rfl) rfl
theorem q_lay_X2_folds : Cond.laysFinal RX2 "MovedFold$FoldRow" "folds" "[I" ∈ gtbl := gt_1 (List.mem_of_getElem? (i := 201) rfl) rfl
theorem q_lay_X2_nights : Cond.lays RX2 "MovedFold$FoldRow" "nights" "I" ∈ gtbl := gt_1 (List.mem_of_getElem? (i := 203) rfl) rfl
theorem q_clk_X10_49 : Cond.classLink RX10 49 RX0 ∈ gtbl := gt_1 (List.mem_of_getElem? (i := 206) rfl) rfl
theorem q_mk_X0 : Cond.instantiable RX0 14 ∈ gtbl := gt_1 (List.mem_of_getElem? (i := 207) rfl) rfl
theorem q_ml_X10_51 : Cond.methodLinkNest RX10 51 yX0_init "MovedFold" ∈ ntbl := nt_1 (List.mem_of_getElem? (i := 208) rfl) rfl
theorem q_inst_X0_init : Cond.instanceMethod yX0_init ∈ gtbl := gt_1 (List.mem_of_getElem? (i := 209) rfl) rfl
theorem q_code_X0_init : Cond.code yX0_init cX0_init 1 none ∈ gtbl := gt_1 (List.mem_of_getElem? (i := 210) rfl) rfl
theorem q_ml_X0_3 : Cond.methodLink RX0 3 ⟨"java/lang/Object", "<init>", "()V"⟩ ∈ gtbl := gt_1 (List.mem_of_getElem? (i := 211) rfl) rfl
theorem q_fl_X0_9 : Cond.fieldLink RX0 9 "MovedFold$Carrying" "spotX" "[I" ∈ gtbl := gt_1 (List.mem_of_getElem? (i := 212) rfl) rfl
theorem q_fl_X0_15 : Cond.fieldLink RX0 15 "MovedFold$Carrying" "spotY" "[I" ∈ gtbl := gt_1 (List.mem_of_getElem? (i := 213) rfl) rfl
theorem q_fl_X0_18 : Cond.fieldLink RX0 18 "MovedFold$Carrying" "toX" "[I" ∈ gtbl := gt_1 (List.mem_of_getElem? (i := 214) rfl) rfl
theorem q_fl_X0_21 : Cond.fieldLink RX0 21 "MovedFold$Carrying" "toY" "[I" ∈ gtbl := gt_1 (List.mem_of_getElem? (i := 215) rfl) rfl
theorem q_fl_X0_24 : Cond.fieldLink RX0 24 "MovedFold$Carrying" "fromX" "[I" ∈ gtbl := gt_1 (List.mem_of_getElem? (i := 216) rfl) rfl
theorem q_fl_X0_27 : Cond.fieldLink RX0 27 "MovedFold$Carrying" "fromY" "[I" ∈ gtbl := gt_1 (List.mem_of_getElem? (i := 217) rfl) rfl
theorem q_fl_X0_30 : Cond.fieldLink RX0 30 "MovedFold$Carrying" "edgeWorth" "[I" ∈ gtbl := gt_1 (List.mem_of_getElem? (i := 218) rfl) rfl
theorem q_fl_X0_33 : Cond.fieldLink RX0 33 "MovedFold$Carrying" "placeWorth" "[I" ∈ gtbl := gt_1 (List.mem_of_getElem? (i := 219) rfl) rfl
theorem q_fl_X0_36 : Cond.fieldLink RX0 36 "MovedFold$Carrying" "givenTo" "[I" ∈ gtbl := gt_1 (List.mem_of_getElem? (i := 220) rfl) rfl
theorem q_fl_X0_39 : Cond.fieldLink RX0 39 "MovedFold$Carrying" "cameFrom" "[I" ∈ gtbl := gt_1 (List.mem_of_getElem? (i := 221) rfl) rfl
theorem q_fl_X0_42 : Cond.fieldLink RX0 42 "MovedFold$Carrying" "slack" "[I" ∈ gtbl := gt_1 (List.mem_of_getElem? (i := 222) rfl) rfl
theorem q_fl_X0_45 : Cond.fieldLink RX0 45 "MovedFold$Carrying" "seen" "[I" ∈ gtbl := gt_1 (List.mem_of_getElem? (i := 223) rfl) rfl
theorem q_fl_X0_56 : Cond.fieldLink RX0 56 "MovedFold$Carrying" "edges" "I" ∈ gtbl := gt_1 (List.mem_of_getElem? (i := 224) rfl) rfl
theorem q_fl_X0_64 : Cond.fieldLink RX0 64 "MovedFold$Carrying" "places" "I" ∈ gtbl := gt_1 (List.mem_of_getElem? (i := 225) rfl) rfl
theorem q_lay_X0_spotX : Cond.laysFinal RX0 "MovedFold$Carrying" "spotX" "[I" ∈ gtbl := gt_1 (List.mem_of_getElem? (i := 226) rfl) rfl
theorem q_lay_X0_spotY : Cond.laysFinal RX0 "MovedFold$Carrying" "spotY" "[I" ∈ gtbl := gt_1 (List.mem_of_getElem? (i := 228) rfl) rfl
theorem q_lay_X0_toX : Cond.laysFinal RX0 "MovedFold$Carrying" "toX" "[I" ∈ gtbl := gt_1 (List.mem_of_getElem? (i := 230) rfl) rfl
theorem q_lay_X0_toY : Cond.laysFinal RX0 "MovedFold$Carrying" "toY" "[I" ∈ gtbl := gt_1 (List.mem_of_getElem? (i := 232) rfl) rfl
theorem q_lay_X0_fromX : Cond.laysFinal RX0 "MovedFold$Carrying" "fromX" "[I" ∈ gtbl := gt_1 (List.mem_of_getElem? (i := 234) rfl) rfl
theorem q_lay_X0_fromY : Cond.laysFinal RX0 "MovedFold$Carrying" "fromY" "[I" ∈ gtbl := gt_1 (List.mem_of_getElem? (i := 236) rfl) rfl
theorem q_lay_X0_edgeWorth : Cond.laysFinal RX0 "MovedFold$Carrying" "edgeWorth" "[I" ∈ gtbl := gt_1 (List.mem_of_getElem? (i := 238) rfl) rfl
theorem q_lay_X0_placeWorth : Cond.laysFinal RX0 "MovedFold$Carrying" "placeWorth" "[I" ∈ gtbl := gt_2 (List.mem_of_getElem? (i := 0) rfl) rfl
theorem q_lay_X0_givenTo : Cond.laysFinal RX0 "MovedFold$Carrying" "givenTo" "[I" ∈ gtbl := gt_2 (List.mem_of_getElem? (i := 2) rfl) rfl
theorem q_lay_X0_cameFrom : Cond.laysFinal RX0 "MovedFold$Carrying" "cameFrom" "[I" ∈ gtbl := gt_2 (List.mem_of_getElem? (i := 4) rfl) rfl
theorem q_lay_X0_slack : Cond.laysFinal RX0 "MovedFold$Carrying" "slack" "[I" ∈ gtbl := gt_2 (List.mem_of_getElem? (i := 6) rfl) rfl
theorem q_lay_X0_seen : Cond.laysFinal RX0 "MovedFold$Carrying" "seen" "[I" ∈ gtbl := gt_2 (List.mem_of_getElem? (i := 8) rfl) rfl
theorem q_lay_X0_edges : Cond.lays RX0 "MovedFold$Carrying" "edges" "I" ∈ gtbl := gt_2 (List.mem_of_getElem? (i := 10) rfl) rfl
theorem q_lay_X0_places : Cond.lays RX0 "MovedFold$Carrying" "places" "I" ∈ gtbl := gt_2 (List.mem_of_getElem? (i := 12) rfl) rfl
theorem q_clk_X10_56 : Cond.classLink RX10 56 RX5 ∈ gtbl := gt_2 (List.mem_of_getElem? (i := 15) rfl) rfl
theorem q_mk_X5 : Cond.instantiable RX5 3 ∈ gtbl := gt_2 (List.mem_of_getElem? (i := 16) rfl) rfl
theorem q_ml_X10_58 : Cond.methodLinkNest RX10 58 yX5_init "MovedFold" ∈ ntbl := nt_2 (List.mem_of_getElem? (i := 17) rfl) rfl
theorem q_inst_X5_init : Cond.instanceMethod yX5_init ∈ gtbl := gt_2 (List.mem_of_getElem? (i := 18) rfl) rfl
theorem q_code_X5_init : Cond.code yX5_init cX5_init 1 none ∈ gtbl := gt_2 (List.mem_of_getElem? (i := 19) rfl) rfl
theorem q_ml_X5_3 : Cond.methodLink RX5 3 ⟨"java/lang/Object", "<init>", "()V"⟩ ∈ gtbl := gt_2 (List.mem_of_getElem? (i := 20) rfl) rfl
theorem q_fl_X5_9 : Cond.fieldLink RX5 9 "MovedFold$Pair" "first" "I" ∈ gtbl := gt_2 (List.mem_of_getElem? (i := 21) rfl) rfl
theorem q_fl_X10_203 : Cond.fieldLinkNest RX10 203 "MovedFold$Pair" "first" "I" "MovedFold" ∈ ntbl := nt_2 (List.mem_of_getElem? (i := 22) rfl) rfl
theorem q_fl_X5_15 : Cond.fieldLink RX5 15 "MovedFold$Pair" "second" "I" ∈ gtbl := gt_2 (List.mem_of_getElem? (i := 23) rfl) rfl
theorem q_fl_X10_206 : Cond.fieldLinkNest RX10 206 "MovedFold$Pair" "second" "I" "MovedFold" ∈ ntbl := nt_2 (List.mem_of_getElem? (i := 24) rfl) rfl
theorem q_fl_X5_18 : Cond.fieldLink RX5 18 "MovedFold$Pair" "needed" "I" ∈ gtbl := gt_2 (List.mem_of_getElem? (i := 25) rfl) rfl
theorem q_fl_X10_209 : Cond.fieldLinkNest RX10 209 "MovedFold$Pair" "needed" "I" "MovedFold" ∈ ntbl := nt_2 (List.mem_of_getElem? (i := 26) rfl) rfl
theorem q_lay_X5_first : Cond.lays RX5 "MovedFold$Pair" "first" "I" ∈ gtbl := gt_2 (List.mem_of_getElem? (i := 27) rfl) rfl
theorem q_lay_X5_second : Cond.lays RX5 "MovedFold$Pair" "second" "I" ∈ gtbl := gt_2 (List.mem_of_getElem? (i := 29) rfl) rfl
theorem q_lay_X5_needed : Cond.lays RX5 "MovedFold$Pair" "needed" "I" ∈ gtbl := gt_2 (List.mem_of_getElem? (i := 31) rfl) rfl
theorem q_clk_X10_63 : Cond.classLink RX10 63 RX9 ∈ gtbl := gt_2 (List.mem_of_getElem? (i := 34) rfl) rfl
theorem q_mk_X9 : Cond.instantiable RX9 4 ∈ gtbl := gt_2 (List.mem_of_getElem? (i := 35) rfl) rfl
theorem q_ml_X10_65 : Cond.methodLinkNest RX10 65 yX9_init "MovedFold" ∈ ntbl := nt_2 (List.mem_of_getElem? (i := 36) rfl) rfl
theorem q_inst_X9_init : Cond.instanceMethod yX9_init ∈ gtbl := gt_2 (List.mem_of_getElem? (i := 37) rfl) rfl
theorem q_code_X9_init : Cond.code yX9_init cX9_init 1 none ∈ gtbl := gt_2 (List.mem_of_getElem? (i := 38) rfl) rfl
theorem q_ml_X9_3 : Cond.methodLink RX9 3 ⟨"java/lang/Object", "<init>", "()V"⟩ ∈ gtbl := gt_2 (List.mem_of_getElem? (i := 39) rfl) rfl
theorem q_fl_X9_9 : Cond.fieldLink RX9 9 "MovedFold$Walk" "order" "[I" ∈ gtbl := gt_2 (List.mem_of_getElem? (i := 40) rfl) rfl
theorem q_fl_X9_15 : Cond.fieldLink RX9 15 "MovedFold$Walk" "length" "I" ∈ gtbl := gt_2 (List.mem_of_getElem? (i := 41) rfl) rfl
theorem q_fl_X9_27 : Cond.fieldLink RX9 27 "MovedFold$Walk" "needed" "I" ∈ gtbl := gt_2 (List.mem_of_getElem? (i := 42) rfl) rfl
theorem q_fl_X10_244 : Cond.fieldLinkNest RX10 244 "MovedFold$Walk" "needed" "I" "MovedFold" ∈ ntbl := nt_2 (List.mem_of_getElem? (i := 43) rfl) rfl
theorem q_fl_X9_30 : Cond.fieldLink RX9 30 "MovedFold$Walk" "lifted" "I" ∈ gtbl := gt_2 (List.mem_of_getElem? (i := 44) rfl) rfl
theorem q_fl_X10_245 : Cond.fieldLinkNest RX10 245 "MovedFold$Walk" "lifted" "I" "MovedFold" ∈ ntbl := nt_2 (List.mem_of_getElem? (i := 45) rfl) rfl
theorem q_lay_X9_order : Cond.laysFinal RX9 "MovedFold$Walk" "order" "[I" ∈ gtbl := gt_2 (List.mem_of_getElem? (i := 46) rfl) rfl
theorem q_lay_X9_length : Cond.lays RX9 "MovedFold$Walk" "length" "I" ∈ gtbl := gt_2 (List.mem_of_getElem? (i := 48) rfl) rfl
theorem q_lay_X9_needed : Cond.lays RX9 "MovedFold$Walk" "needed" "I" ∈ gtbl := gt_2 (List.mem_of_getElem? (i := 50) rfl) rfl
theorem q_lay_X9_lifted : Cond.lays RX9 "MovedFold$Walk" "lifted" "I" ∈ gtbl := gt_2 (List.mem_of_getElem? (i := 52) rfl) rfl
theorem q_clk_X10_70 : Cond.classLink RX10 70 RX7 ∈ gtbl := gt_2 (List.mem_of_getElem? (i := 55) rfl) rfl
theorem q_mk_X7 : Cond.instantiable RX7 4 ∈ gtbl := gt_2 (List.mem_of_getElem? (i := 56) rfl) rfl
theorem q_ml_X10_72 : Cond.methodLinkNest RX10 72 yX7_init "MovedFold" ∈ ntbl := nt_2 (List.mem_of_getElem? (i := 57) rfl) rfl
theorem q_inst_X7_init : Cond.instanceMethod yX7_init ∈ gtbl := gt_2 (List.mem_of_getElem? (i := 58) rfl) rfl
theorem q_code_X7_init : Cond.code yX7_init cX7_init 1 none ∈ gtbl := gt_2 (List.mem_of_getElem? (i := 59) rfl) rfl
theorem q_ml_X7_3 : Cond.methodLink RX7 3 ⟨"java/lang/Object", "<init>", "()V"⟩ ∈ gtbl := gt_2 (List.mem_of_getElem? (i := 60) rfl) rfl
theorem q_fl_X7_9 : Cond.fieldLink RX7 9 "MovedFold$Steps" "starts" "[I" ∈ gtbl := gt_2 (List.mem_of_getElem? (i := 61) rfl) rfl
theorem q_fl_X1_96 : Cond.fieldLinkNest RX1 96 "MovedFold$Steps" "starts" "[I" "MovedFold" ∈ ntbl := nt_2 (List.mem_of_getElem? (i := 62) rfl) rfl
theorem q_fl_X7_15 : Cond.fieldLink RX7 15 "MovedFold$Steps" "nexts" "[I" ∈ gtbl := gt_2 (List.mem_of_getElem? (i := 63) rfl) rfl
theorem q_fl_X1_99 : Cond.fieldLinkNest RX1 99 "MovedFold$Steps" "nexts" "[I" "MovedFold" ∈ ntbl := nt_2 (List.mem_of_getElem? (i := 64) rfl) rfl
theorem q_fl_X7_18 : Cond.fieldLink RX7 18 "MovedFold$Steps" "values" "[I" ∈ gtbl := gt_2 (List.mem_of_getElem? (i := 65) rfl) rfl
theorem q_fl_X1_102 : Cond.fieldLinkNest RX1 102 "MovedFold$Steps" "values" "[I" "MovedFold" ∈ ntbl := nt_2 (List.mem_of_getElem? (i := 66) rfl) rfl
theorem q_fl_X7_21 : Cond.fieldLink RX7 21 "MovedFold$Steps" "listed" "LMovedFold$FoldTable;" ∈ gtbl := gt_2 (List.mem_of_getElem? (i := 67) rfl) rfl
theorem q_fl_X1_36 : Cond.fieldLinkNest RX1 36 "MovedFold$Steps" "listed" "LMovedFold$FoldTable;" "MovedFold" ∈ ntbl := nt_2 (List.mem_of_getElem? (i := 68) rfl) rfl
theorem q_lay_X7_starts : Cond.laysFinal RX7 "MovedFold$Steps" "starts" "[I" ∈ gtbl := gt_2 (List.mem_of_getElem? (i := 69) rfl) rfl
theorem q_lay_X7_nexts : Cond.laysFinal RX7 "MovedFold$Steps" "nexts" "[I" ∈ gtbl := gt_2 (List.mem_of_getElem? (i := 71) rfl) rfl
theorem q_lay_X7_values : Cond.laysFinal RX7 "MovedFold$Steps" "values" "[I" ∈ gtbl := gt_2 (List.mem_of_getElem? (i := 73) rfl) rfl
theorem q_lay_X7_listed : Cond.lays RX7 "MovedFold$Steps" "listed" "LMovedFold$FoldTable;" ∈ gtbl := gt_2 (List.mem_of_getElem? (i := 75) rfl) rfl
theorem q_clk_X10_73 : Cond.classLink RX10 73 RX1 ∈ gtbl := gt_2 (List.mem_of_getElem? (i := 78) rfl) rfl
theorem q_mk_X1 : Cond.instantiable RX1 10 ∈ gtbl := gt_2 (List.mem_of_getElem? (i := 79) rfl) rfl
theorem q_ml_X10_75 : Cond.methodLink RX10 75 yX1_init ∈ gtbl := gt_2 (List.mem_of_getElem? (i := 80) rfl) rfl
theorem q_inst_X1_init : Cond.instanceMethod yX1_init ∈ gtbl := gt_2 (List.mem_of_getElem? (i := 81) rfl) rfl
theorem q_code_X1_init : Cond.code yX1_init cX1_init 3 none ∈ gtbl := gt_2 (List.mem_of_getElem? (i := 82) rfl) rfl
theorem q_ml_X1_3 : Cond.methodLink RX1 3 ⟨"java/lang/Object", "<init>", "()V"⟩ ∈ gtbl := gt_2 (List.mem_of_getElem? (i := 83) rfl) rfl
theorem q_fl_X1_18 : Cond.fieldLink RX1 18 "MovedFold$Courses" "table" "LMovedFold$FoldTable;" ∈ gtbl := gt_2 (List.mem_of_getElem? (i := 84) rfl) rfl
theorem q_fl_X1_22 : Cond.fieldLink RX1 22 "MovedFold$Courses" "steps" "LMovedFold$Steps;" ∈ gtbl := gt_2 (List.mem_of_getElem? (i := 85) rfl) rfl
theorem q_fl_X1_9 : Cond.fieldLink RX1 9 "MovedFold$Courses" "fewestKept" "[I" ∈ gtbl := gt_2 (List.mem_of_getElem? (i := 86) rfl) rfl
theorem q_fl_X1_15 : Cond.fieldLink RX1 15 "MovedFold$Courses" "row" "[I" ∈ gtbl := gt_2 (List.mem_of_getElem? (i := 87) rfl) rfl
theorem q_fl_X10_226 : Cond.fieldLinkNest RX10 226 "MovedFold$Courses" "row" "[I" "MovedFold" ∈ ntbl := nt_2 (List.mem_of_getElem? (i := 88) rfl) rfl
theorem q_fl_X1_79 : Cond.fieldLink RX1 79 "MovedFold$Courses" "length" "I" ∈ gtbl := gt_2 (List.mem_of_getElem? (i := 89) rfl) rfl
theorem q_fl_X10_225 : Cond.fieldLinkNest RX10 225 "MovedFold$Courses" "length" "I" "MovedFold" ∈ ntbl := nt_2 (List.mem_of_getElem? (i := 90) rfl) rfl
theorem q_fl_X1_69 : Cond.fieldLink RX1 69 "MovedFold$Courses" "lifted" "I" ∈ gtbl := gt_2 (List.mem_of_getElem? (i := 91) rfl) rfl
theorem q_fl_X10_222 : Cond.fieldLinkNest RX10 222 "MovedFold$Courses" "lifted" "I" "MovedFold" ∈ ntbl := nt_2 (List.mem_of_getElem? (i := 92) rfl) rfl
theorem q_fl_X1_32 : Cond.fieldLink RX1 32 "MovedFold$Courses" "bestYards" "I" ∈ gtbl := gt_2 (List.mem_of_getElem? (i := 93) rfl) rfl
theorem q_fl_X1_63 : Cond.fieldLink RX1 63 "MovedFold$Courses" "bestHurdles" "I" ∈ gtbl := gt_2 (List.mem_of_getElem? (i := 94) rfl) rfl
theorem q_fl_X1_112 : Cond.fieldLink RX1 112 "MovedFold$Courses" "yards" "I" ∈ gtbl := gt_2 (List.mem_of_getElem? (i := 95) rfl) rfl
theorem q_fl_X1_115 : Cond.fieldLink RX1 115 "MovedFold$Courses" "hurdles" "I" ∈ gtbl := gt_2 (List.mem_of_getElem? (i := 96) rfl) rfl
theorem q_lay_X1_table : Cond.laysFinal RX1 "MovedFold$Courses" "table" "LMovedFold$FoldTable;" ∈ gtbl := gt_2 (List.mem_of_getElem? (i := 97) rfl) rfl
theorem q_lay_X1_steps : Cond.laysFinal RX1 "MovedFold$Courses" "steps" "LMovedFold$Steps;" ∈ gtbl := gt_2 (List.mem_of_getElem? (i := 99) rfl) rfl
theorem q_lay_X1_fewestKept : Cond.laysFinal RX1 "MovedFold$Courses" "fewestKept" "[I" ∈ gtbl := gt_2 (List.mem_of_getElem? (i := 101) rfl) rfl
theorem q_lay_X1_row : Cond.laysFinal RX1 "MovedFold$Courses" "row" "[I" ∈ gtbl := gt_2 (List.mem_of_getElem? (i := 103) rfl) rfl
theorem q_lay_X1_length : Cond.lays RX1 "MovedFold$Courses" "length" "I" ∈ gtbl := gt_2 (List.mem_of_getElem? (i := 105) rfl) rfl
theorem q_lay_X1_lifted : Cond.lays RX1 "MovedFold$Courses" "lifted" "I" ∈ gtbl := gt_2 (List.mem_of_getElem? (i := 107) rfl) rfl
theorem q_lay_X1_bestYards : Cond.lays RX1 "MovedFold$Courses" "bestYards" "I" ∈ gtbl := gt_2 (List.mem_of_getElem? (i := 109) rfl) rfl
theorem q_lay_X1_bestHurdles : Cond.lays RX1 "MovedFold$Courses" "bestHurdles" "I" ∈ gtbl := gt_2 (List.mem_of_getElem? (i := 111) rfl) rfl
theorem q_lay_X1_yards : Cond.lays RX1 "MovedFold$Courses" "yards" "I" ∈ gtbl := gt_2 (List.mem_of_getElem? (i := 113) rfl) rfl
theorem q_lay_X1_hurdles : Cond.lays RX1 "MovedFold$Courses" "hurdles" "I" ∈ gtbl := gt_2 (List.mem_of_getElem? (i := 115) rfl) rfl
theorem q_ml_X10_85 : Cond.methodLink RX10 85 yX10_lookAgain ∈ gtbl := gt_2 (List.mem_of_getElem? (i := 118) rfl) rfl
theorem q_inst_X10_lookAgain : Cond.instanceMethod yX10_lookAgain ∈ gtbl := gt_2 (List.mem_of_getElem? (i := 120) rfl) rfl
theorem q_code_X10_lookAgain : Cond.code yX10_lookAgain cX10_lookAgain 1 none ∈ gtbl := gt_2 (List.mem_of_getElem? (i := 121) rfl) rfl
theorem q_ml_X10_88 : Cond.methodLink RX10 88 yX3_build ∈ gtbl := gt_2 (List.mem_of_getElem? (i := 122) rfl) rfl
theorem q_inst_X3_build : Cond.instanceMethod yX3_build ∈ gtbl := gt_2 (List.mem_of_getElem? (i := 123) rfl) rfl
theorem q_sel_X3_build : Cond.selects RX3 yX3_build yX3_build ∈ gtbl := gt_2 (List.mem_of_getElem? (i := 124) rfl) rfl
theorem q_code_X3_build : Cond.code yX3_build cX3_build 9 none ∈ gtbl := gt_2 (List.mem_of_getElem? (i := 125) rfl) rfl
theorem q_ml_X3_24 : Cond.methodLink RX3 24 yX4_squares ∈ gtbl := gt_2 (List.mem_of_getElem? (i := 126) rfl) rfl
theorem q_inst_X4_squares : Cond.instanceMethod yX4_squares ∈ gtbl := gt_2 (List.mem_of_getElem? (i := 127) rfl) rfl
theorem q_sel_X4_squares : Cond.selects RX4 yX4_squares yX4_squares ∈ gtbl := gt_2 (List.mem_of_getElem? (i := 128) rfl) rfl
theorem q_code_X4_squares : Cond.code yX4_squares cX4_squares 1 (some (Jvm.ClassFile.FieldType.int)) ∈ gtbl := gt_2 (List.mem_of_getElem? (i := 129) rfl) rfl
theorem q_ml_X3_52 : Cond.methodLink RX3 52 yX3_putSingle ∈ gtbl := gt_2 (List.mem_of_getElem? (i := 130) rfl) rfl
theorem q_inst_X3_putSingle : Cond.instanceMethod yX3_putSingle ∈ gtbl := gt_2 (List.mem_of_getElem? (i := 132) rfl) rfl
theorem q_code_X3_putSingle : Cond.code yX3_putSingle cX3_putSingle 7 none ∈ gtbl := gt_2 (List.mem_of_getElem? (i := 133) rfl) rfl
theorem q_ml_X3_63 : Cond.methodLink RX3 63 yX4_edgeAt ∈ gtbl := gt_2 (List.mem_of_getElem? (i := 134) rfl) rfl
theorem q_inst_X4_edgeAt : Cond.instanceMethod yX4_edgeAt ∈ gtbl := gt_2 (List.mem_of_getElem? (i := 135) rfl) rfl
theorem q_sel_X4_edgeAt : Cond.selects RX4 yX4_edgeAt yX4_edgeAt ∈ gtbl := gt_2 (List.mem_of_getElem? (i := 136) rfl) rfl
theorem q_code_X4_edgeAt : Cond.code yX4_edgeAt cX4_edgeAt 4 (some (Jvm.ClassFile.FieldType.int)) ∈ gtbl := gt_2 (List.mem_of_getElem? (i := 137) rfl) rfl
theorem q_ml_X3_56 : Cond.methodLink RX3 56 yX3_joinAll ∈ gtbl := gt_2 (List.mem_of_getElem? (i := 138) rfl) rfl
theorem q_inst_X3_joinAll : Cond.instanceMethod yX3_joinAll ∈ gtbl := gt_2 (List.mem_of_getElem? (i := 140) rfl) rfl
theorem q_code_X3_joinAll : Cond.code yX3_joinAll cX3_joinAll 4 none ∈ gtbl := gt_2 (List.mem_of_getElem? (i := 141) rfl) rfl
theorem q_ml_X3_59 : Cond.methodLink RX3 59 yX3_sortOut ∈ gtbl := gt_2 (List.mem_of_getElem? (i := 142) rfl) rfl
theorem q_inst_X3_sortOut : Cond.instanceMethod yX3_sortOut ∈ gtbl := gt_2 (List.mem_of_getElem? (i := 144) rfl) rfl
theorem q_code_X3_sortOut : Cond.code yX3_sortOut cX3_sortOut 4 none ∈ gtbl := gt_2 (List.mem_of_getElem? (i := 145) rfl) rfl
theorem q_ml_X3_67 : Cond.methodLink RX3 67 yX3_inOnePiece ∈ gtbl := gt_2 (List.mem_of_getElem? (i := 146) rfl) rfl
theorem q_inst_X3_inOnePiece : Cond.instanceMethod yX3_inOnePiece ∈ gtbl := gt_2 (List.mem_of_getElem? (i := 148) rfl) rfl
theorem q_code_X3_inOnePiece : Cond.code yX3_inOnePiece cX3_inOnePiece 4 (some (Jvm.ClassFile.FieldType.boolean)) ∈ gtbl := gt_2 (List.mem_of_getElem? (i := 149) rfl) rfl
theorem q_ml_X3_71 : Cond.methodLink RX3 71 yJ6_bitCount_0f7a4 ∈ gtbl := gt_2 (List.mem_of_getElem? (i := 150) rfl) rfl
theorem q_stat_J6_bitCount_0f7a4 : Cond.static yJ6_bitCount_0f7a4 ∈ gtbl := gt_2 (List.mem_of_getElem? (i := 151) rfl) rfl
theorem q_code_J6_bitCount_0f7a4 : Cond.code yJ6_bitCount_0f7a4 cJ6_bitCount_0f7a4 1 (some (Jvm.ClassFile.FieldType.int)) ∈ gtbl := gt_2 (List.mem_of_getElem? (i := 152) rfl) rfl
theorem q_c_J6_265 : Cond.constant RJ6 265 (1431655765) ∈ gtbl := gt_2 (List.mem_of_getElem? (i := 153) rfl) rfl
theorem q_c_J6_266 : Cond.constant RJ6 266 (858993459) ∈ gtbl := gt_2 (List.mem_of_getElem? (i := 154) rfl) rfl
theorem q_c_J6_267 : Cond.constant RJ6 267 (252645135) ∈ gtbl := gt_2 (List.mem_of_getElem? (i := 155) rfl) rfl
theorem q_ml_X3_77 : Cond.methodLink RX3 77 yJ9_max_7cf53 ∈ gtbl := gt_2 (List.mem_of_getElem? (i := 156) rfl) rfl
theorem q_stat_J9_max_7cf53 : Cond.static yJ9_max_7cf53 ∈ gtbl := gt_2 (List.mem_of_getElem? (i := 157) rfl) rfl
theorem q_code_J9_max_7cf53 : Cond.code yJ9_max_7cf53 cJ9_max_7cf53 2 (some (Jvm.ClassFile.FieldType.int)) ∈ gtbl := gt_2 (List.mem_of_getElem? (i := 158) rfl) rfl
theorem q_ml_X10_92 : Cond.methodLink RX10 92 yX1_forget ∈ gtbl := gt_2 (List.mem_of_getElem? (i := 159) rfl) rfl
theorem q_inst_X1_forget : Cond.instanceMethod yX1_forget ∈ gtbl := gt_2 (List.mem_of_getElem? (i := 160) rfl) rfl
theorem q_sel_X1_forget : Cond.selects RX1 yX1_forget yX1_forget ∈ gtbl := gt_2 (List.mem_of_getElem? (i := 161) rfl) rfl
theorem q_code_X1_forget : Cond.code yX1_forget cX1_forget 1 none ∈ gtbl := gt_2 (List.mem_of_getElem? (i := 162) rfl) rfl
theorem q_ml_X1_26 : Cond.methodLink RX1 26 yJ7_fill_53178 ∈ gtbl := gt_2 (List.mem_of_getElem? (i := 163) rfl) rfl
theorem q_fl_X10_12 : Cond.fieldLink RX10 12 "MovedFold" "text" "LMovedFold$Text;" ∈ gtbl := gt_2 (List.mem_of_getElem? (i := 164) rfl) rfl
theorem q_fl_X10_21 : Cond.fieldLink RX10 21 "MovedFold" "reader" "LMovedFold$Reader;" ∈ gtbl := gt_2 (List.mem_of_getElem? (i := 165) rfl) rfl
theorem q_fl_X10_28 : Cond.fieldLink RX10 28 "MovedFold" "ground" "LMovedFold$Ground;" ∈ gtbl := gt_2 (List.mem_of_getElem? (i := 166) rfl) rfl
theorem q_fl_X10_35 : Cond.fieldLink RX10 35 "MovedFold" "folds" "LMovedFold$FoldTable;" ∈ gtbl := gt_2 (List.mem_of_getElem? (i := 167) rfl) rfl
theorem q_fl_X10_39 : Cond.fieldLink RX10 39 "MovedFold" "plainFolds" "LMovedFold$FoldTable;" ∈ gtbl := gt_2 (List.mem_of_getElem? (i := 168) rfl) rfl
theorem q_fl_X10_45 : Cond.fieldLink RX10 45 "MovedFold" "row" "LMovedFold$FoldRow;" ∈ gtbl := gt_2 (List.mem_of_getElem? (i := 169) rfl) rfl
theorem q_fl_X10_52 : Cond.fieldLink RX10 52 "MovedFold" "carrying" "LMovedFold$Carrying;" ∈ gtbl := gt_2 (List.mem_of_getElem? (i := 170) rfl) rfl
theorem q_fl_X10_59 : Cond.fieldLink RX10 59 "MovedFold" "pair" "LMovedFold$Pair;" ∈ gtbl := gt_2 (List.mem_of_getElem? (i := 171) rfl) rfl
theorem q_fl_X10_66 : Cond.fieldLink RX10 66 "MovedFold" "walk" "LMovedFold$Walk;" ∈ gtbl := gt_2 (List.mem_of_getElem? (i := 172) rfl) rfl
theorem q_fl_X10_78 : Cond.fieldLink RX10 78 "MovedFold" "gone" "LMovedFold$Courses;" ∈ gtbl := gt_2 (List.mem_of_getElem? (i := 173) rfl) rfl
theorem q_fl_X10_82 : Cond.fieldLink RX10 82 "MovedFold" "plainGone" "LMovedFold$Courses;" ∈ gtbl := gt_2 (List.mem_of_getElem? (i := 174) rfl) rfl
theorem q_fl_X10_95 : Cond.fieldLink RX10 95 "MovedFold" "plainKnown" "Z" ∈ gtbl := gt_2 (List.mem_of_getElem? (i := 175) rfl) rfl
theorem q_lay_X10_text : Cond.laysFinal RX10 "MovedFold" "text" "LMovedFold$Text;" ∈ gtbl := gt_2 (List.mem_of_getElem? (i := 176) rfl) rfl
theorem q_lay_X10_reader : Cond.laysFinal RX10 "MovedFold" "reader" "LMovedFold$Reader;" ∈ gtbl := gt_2 (List.mem_of_getElem? (i := 178) rfl) rfl
theorem q_lay_X10_ground : Cond.laysFinal RX10 "MovedFold" "ground" "LMovedFold$Ground;" ∈ gtbl := gt_2 (List.mem_of_getElem? (i := 180) rfl) rfl
theorem q_lay_X10_folds : Cond.laysFinal RX10 "MovedFold" "folds" "LMovedFold$FoldTable;" ∈ gtbl := gt_2 (List.mem_of_getElem? (i := 182) rfl) rfl
theorem q_lay_X10_plainFolds : Cond.laysFinal RX10 "MovedFold" "plainFolds" "LMovedFold$FoldTable;" ∈ gtbl := gt_2 (List.mem_of_getElem? (i := 184) rfl) rfl
theorem q_lay_X10_row : Cond.laysFinal RX10 "MovedFold" "row" "LMovedFold$FoldRow;" ∈ gtbl := gt_2 (List.mem_of_getElem? (i := 186) rfl) rfl
theorem q_lay_X10_carrying : Cond.laysFinal RX10 "MovedFold" "carrying" "LMovedFold$Carrying;" ∈ gtbl := gt_2 (List.mem_of_getElem? (i := 188) rfl) rfl
theorem q_lay_X10_pair : Cond.laysFinal RX10 "MovedFold" "pair" "LMovedFold$Pair;" ∈ gtbl := gt_2 (List.mem_of_getElem? (i := 190) rfl) rfl
theorem q_lay_X10_walk : Cond.laysFinal RX10 "MovedFold" "walk" "LMovedFold$Walk;" ∈ gtbl := gt_2 (List.mem_of_getElem? (i := 192) rfl) rfl
theorem q_lay_X10_gone : Cond.laysFinal RX10 "MovedFold" "gone" "LMovedFold$Courses;" ∈ gtbl := gt_2 (List.mem_of_getElem? (i := 194) rfl) rfl
theorem q_lay_X10_plainGone : Cond.laysFinal RX10 "MovedFold" "plainGone" "LMovedFold$Courses;" ∈ gtbl := gt_2 (List.mem_of_getElem? (i := 196) rfl) rfl
theorem q_lay_X10_plainKnown : Cond.lays RX10 "MovedFold" "plainKnown" "Z" ∈ gtbl := gt_2 (List.mem_of_getElem? (i := 198) rfl) rfl
theorem q_ml_L_15 : Cond.methodLink RL 15 yX10_write ∈ gtbl := gt_2 (List.mem_of_getElem? (i := 201) rfl) rfl
theorem q_inst_X10_write : Cond.instanceMethod yX10_write ∈ gtbl := gt_2 (List.mem_of_getElem? (i := 202) rfl) rfl
theorem q_sel_X10_write : Cond.selects RX10 yX10_write yX10_write ∈ gtbl := gt_2 (List.mem_of_getElem? (i := 203) rfl) rfl
theorem q_code_X10_write : Cond.code yX10_write cX10_write 5 (some (Jvm.ClassFile.FieldType.int)) ∈ gtbl := gt_2 (List.mem_of_getElem? (i := 204) rfl) rfl
theorem q_ml_X10_103 : Cond.methodLink RX10 103 yX8_put ∈ gtbl := gt_2 (List.mem_of_getElem? (i := 205) rfl) rfl
theorem q_inst_X8_put : Cond.instanceMethod yX8_put ∈ gtbl := gt_2 (List.mem_of_getElem? (i := 206) rfl) rfl
theorem q_sel_X8_put : Cond.selects RX8 yX8_put yX8_put ∈ gtbl := gt_2 (List.mem_of_getElem? (i := 207) rfl) rfl
theorem q_code_X8_put : Cond.code yX8_put cX8_put 2 none ∈ gtbl := gt_2 (List.mem_of_getElem? (i := 208) rfl) rfl
theorem q_ml_L_20 : Cond.methodLink RL 20 yX10_erase ∈ gtbl := gt_2 (List.mem_of_getElem? (i := 209) rfl) rfl
theorem q_inst_X10_erase : Cond.instanceMethod yX10_erase ∈ gtbl := gt_2 (List.mem_of_getElem? (i := 210) rfl) rfl
theorem q_sel_X10_erase : Cond.selects RX10 yX10_erase yX10_erase ∈ gtbl := gt_2 (List.mem_of_getElem? (i := 211) rfl) rfl
theorem q_code_X10_erase : Cond.code yX10_erase cX10_erase 2 (some (Jvm.ClassFile.FieldType.int)) ∈ gtbl := gt_2 (List.mem_of_getElem? (i := 212) rfl) rfl
theorem q_ml_L_25 : Cond.methodLink RL 25 yX10_fault ∈ gtbl := gt_2 (List.mem_of_getElem? (i := 213) rfl) rfl
theorem q_inst_X10_fault : Cond.instanceMethod yX10_fault ∈ gtbl := gt_2 (List.mem_of_getElem? (i := 214) rfl) rfl
theorem q_sel_X10_fault : Cond.selects RX10 yX10_fault yX10_fault ∈ gtbl := gt_2 (List.mem_of_getElem? (i := 215) rfl) rfl
theorem q_code_X10_fault : Cond.code yX10_fault cX10_fault 1 (some (Jvm.ClassFile.FieldType.int)) ∈ gtbl := gt_2 (List.mem_of_getElem? (i := 216) rfl) rfl
theorem q_ml_X10_113 : Cond.methodLink RX10 113 yX6_read ∈ gtbl := gt_2 (List.mem_of_getElem? (i := 217) rfl) rfl
theorem q_inst_X6_read : Cond.instanceMethod yX6_read ∈ gtbl := gt_2 (List.mem_of_getElem? (i := 218) rfl) rfl
theorem q_sel_X6_read : Cond.selects RX6 yX6_read yX6_read ∈ gtbl := gt_2 (List.mem_of_getElem? (i := 219) rfl) rfl
theorem q_code_X6_read : Cond.code yX6_read cX6_read 4 (some (Jvm.ClassFile.FieldType.int)) ∈ gtbl := gt_2 (List.mem_of_getElem? (i := 220) rfl) rfl
theorem q_ml_X6_41 : Cond.methodLink RX6 41 yX6_readLine ∈ gtbl := gt_2 (List.mem_of_getElem? (i := 221) rfl) rfl
theorem q_inst_X6_readLine : Cond.instanceMethod yX6_readLine ∈ gtbl := gt_2 (List.mem_of_getElem? (i := 223) rfl) rfl
theorem q_code_X6_readLine : Cond.code yX6_readLine cX6_readLine 3 (some (Jvm.ClassFile.FieldType.boolean)) ∈ gtbl := gt_2 (List.mem_of_getElem? (i := 224) rfl) rfl
theorem q_ml_X6_63 : Cond.methodLink RX6 63 yX6_readVerb ∈ gtbl := gt_2 (List.mem_of_getElem? (i := 225) rfl) rfl
theorem q_inst_X6_readVerb : Cond.instanceMethod yX6_readVerb ∈ gtbl := gt_2 (List.mem_of_getElem? (i := 227) rfl) rfl
theorem q_code_X6_readVerb : Cond.code yX6_readVerb cX6_readVerb 2 (some (Jvm.ClassFile.FieldType.int)) ∈ gtbl := gt_2 (List.mem_of_getElem? (i := 228) rfl) rfl
theorem q_ml_X6_48 : Cond.methodLink RX6 48 yX6_nextToken ∈ gtbl := gt_2 (List.mem_of_getElem? (i := 229) rfl) rfl
theorem q_inst_X6_nextToken : Cond.instanceMethod yX6_nextToken ∈ gtbl := gt_2 (List.mem_of_getElem? (i := 231) rfl) rfl
theorem q_code_X6_nextToken : Cond.code yX6_nextToken cX6_nextToken 1 none ∈ gtbl := gt_2 (List.mem_of_getElem? (i := 232) rfl) rfl
theorem q_ml_X6_98 : Cond.methodLink RX6 98 yX6_kindOf ∈ gtbl := gt_2 (List.mem_of_getElem? (i := 233) rfl) rfl
theorem q_stat_X6_kindOf : Cond.static yX6_kindOf ∈ gtbl := gt_2 (List.mem_of_getElem? (i := 234) rfl) rfl
theorem q_code_X6_kindOf : Cond.code yX6_kindOf cX6_kindOf 1 (some (Jvm.ClassFile.FieldType.int)) ∈ gtbl := gt_2 (List.mem_of_getElem? (i := 235) rfl) rfl
theorem q_ml_X6_84 : Cond.methodLink RX6 84 yX6_verbName ∈ gtbl := gt_2 (List.mem_of_getElem? (i := 236) rfl) rfl
theorem q_stat_X6_verbName : Cond.static yX6_verbName ∈ gtbl := gt_2 (List.mem_of_getElem? (i := 237) rfl) rfl
theorem q_code_X6_verbName : Cond.code yX6_verbName cX6_verbName 1 (some ((Jvm.ClassFile.FieldType.object "java/lang/String"))) ∈ gtbl := gt_2 (List.mem_of_getElem? (i := 238) rfl) rfl
theorem q_ml_X6_88 : Cond.methodLink RX6 88 yX6_tokenIs ∈ gtbl := gt_3 (List.mem_of_getElem? (i := 10) rfl) rfl
theorem q_inst_X6_tokenIs : Cond.instanceMethod yX6_tokenIs ∈ gtbl := gt_3 (List.mem_of_getElem? (i := 12) rfl) rfl
theorem q_code_X6_tokenIs : Cond.code yX6_tokenIs cX6_tokenIs 3 (some (Jvm.ClassFile.FieldType.boolean)) ∈ gtbl := gt_3 (List.mem_of_getElem? (i := 13) rfl) rfl
theorem q_ml_X6_102 : Cond.methodLink RX6 102 yJ0_length_8abf5 ∈ gtbl := gt_3 (List.mem_of_getElem? (i := 14) rfl) rfl
theorem q_inst_J0_length_8abf5 : Cond.instanceMethod yJ0_length_8abf5 ∈ gtbl := gt_3 (List.mem_of_getElem? (i := 15) rfl) rfl
theorem q_sel_J0_length_8abf5 : Cond.selects RJ0 yJ0_length_8abf5 yJ0_length_8abf5 ∈ gtbl := gt_3 (List.mem_of_getElem? (i := 16) rfl) rfl
theorem q_code_J0_length_8abf5 : Cond.code yJ0_length_8abf5 cJ0_length_8abf5 1 (some (Jvm.ClassFile.FieldType.int)) ∈ gtbl := gt_3 (List.mem_of_getElem? (i := 17) rfl) rfl
theorem q_ml_J0_335 : Cond.methodLink RJ0 335 yJ0_coder_7d493 ∈ gtbl := gt_3 (List.mem_of_getElem? (i := 18) rfl) rfl
theorem q_inst_J0_coder_7d493 : Cond.instanceMethod yJ0_coder_7d493 ∈ gtbl := gt_3 (List.mem_of_getElem? (i := 19) rfl) rfl
theorem q_sel_J0_coder_7d493 : Cond.selects RJ0 yJ0_coder_7d493 yJ0_coder_7d493 ∈ gtbl := gt_3 (List.mem_of_getElem? (i := 20) rfl) rfl
theorem q_code_J0_coder_7d493 : Cond.code yJ0_coder_7d493 cJ0_coder_7d493 1 (some (Jvm.ClassFile.FieldType.byte)) ∈ gtbl := gt_3 (List.mem_of_getElem? (i := 21) rfl) rfl
theorem q_fl_J0_38 : Cond.fieldLink RJ0 38 "java/lang/String" "COMPACT_STRINGS" "Z" ∈ gtbl := gt_3 (List.mem_of_getElem? (i := 22) rfl) rfl
theorem q_ml_X6_106 : Cond.methodLink RX6 106 yJ0_charAt_5068e ∈ gtbl := gt_3 (List.mem_of_getElem? (i := 24) rfl) rfl
theorem q_inst_J0_charAt_5068e : Cond.instanceMethod yJ0_charAt_5068e ∈ gtbl := gt_3 (List.mem_of_getElem? (i := 25) rfl) rfl
theorem q_sel_J0_charAt_5068e : Cond.selects RJ0 yJ0_charAt_5068e yJ0_charAt_5068e ∈ gtbl := gt_3 (List.mem_of_getElem? (i := 26) rfl) rfl
theorem q_code_J0_charAt_5068e : Cond.code yJ0_charAt_5068e cJ0_charAt_5068e 2 (some (Jvm.ClassFile.FieldType.char)) ∈ gtbl := gt_3 (List.mem_of_getElem? (i := 27) rfl) rfl
theorem q_ml_J0_492 : Cond.methodLink RJ0 492 yJ0_isLatin1_aae02 ∈ gtbl := gt_3 (List.mem_of_getElem? (i := 28) rfl) rfl
theorem q_inst_J0_isLatin1_aae02 : Cond.instanceMethod yJ0_isLatin1_aae02 ∈ gtbl := gt_3 (List.mem_of_getElem? (i := 29) rfl) rfl
theorem q_sel_J0_isLatin1_aae02 : Cond.selects RJ0 yJ0_isLatin1_aae02 yJ0_isLatin1_aae02 ∈ gtbl := gt_3 (List.mem_of_getElem? (i := 30) rfl) rfl
theorem q_code_J0_isLatin1_aae02 : Cond.code yJ0_isLatin1_aae02 cJ0_isLatin1_aae02 1 (some (Jvm.ClassFile.FieldType.boolean)) ∈ gtbl := gt_3 (List.mem_of_getElem? (i := 31) rfl) rfl
theorem q_ml_J0_495 : Cond.methodLink RJ0 495 yJ1_charAt_3b067 ∈ gtbl := gt_3 (List.mem_of_getElem? (i := 32) rfl) rfl
theorem q_stat_J1_charAt_3b067 : Cond.static yJ1_charAt_3b067 ∈ gtbl := gt_3 (List.mem_of_getElem? (i := 33) rfl) rfl
theorem q_code_J1_charAt_3b067 : Cond.code yJ1_charAt_3b067 cJ1_charAt_3b067 2 (some (Jvm.ClassFile.FieldType.char)) ∈ gtbl := gt_3 (List.mem_of_getElem? (i := 34) rfl) rfl
theorem q_ml_J1_9 : Cond.methodLink RJ1 9 yJ0_checkIndex_df160 ∈ gtbl := gt_3 (List.mem_of_getElem? (i := 35) rfl) rfl
theorem q_stat_J0_checkIndex_df160 : Cond.static yJ0_checkIndex_df160 ∈ gtbl := gt_3 (List.mem_of_getElem? (i := 36) rfl) rfl
theorem q_code_J0_checkIndex_df160 : Cond.code yJ0_checkIndex_df160 cJ0_checkIndex_df160 2 none ∈ gtbl := gt_3 (List.mem_of_getElem? (i := 37) rfl) rfl
theorem q_fl_J0_1053 : Cond.fieldLink RJ0 1053 "jdk/internal/util/Preconditions" "SIOOBE_FORMATTER" "Ljava/util/function/BiFunction;" ∈ gtbl := gt_3 (List.mem_of_getElem? (i := 38) rfl) rfl
theorem q_ml_J0_1059 : Cond.methodLink RJ0 1059 yJ3_checkIndex_8e157 ∈ gtbl := gt_3 (List.mem_of_getElem? (i := 40) rfl) rfl
theorem q_stat_J3_checkIndex_8e157 : Cond.static yJ3_checkIndex_8e157 ∈ gtbl := gt_3 (List.mem_of_getElem? (i := 41) rfl) rfl
theorem q_code_J3_checkIndex_8e157 : Cond.code yJ3_checkIndex_8e157 cJ3_checkIndex_8e157 3 (some (Jvm.ClassFile.FieldType.int)) ∈ gtbl := gt_3 (List.mem_of_getElem? (i := 42) rfl) rfl
theorem q_ml_J0_498 : Cond.methodLink RJ0 498 yJ2_charAt_3b067 ∈ gtbl := gt_3 (List.mem_of_getElem? (i := 43) rfl) rfl
theorem q_stat_J2_charAt_3b067 : Cond.static yJ2_charAt_3b067 ∈ gtbl := gt_3 (List.mem_of_getElem? (i := 44) rfl) rfl
theorem q_code_J2_charAt_3b067 : Cond.code yJ2_charAt_3b067 cJ2_charAt_3b067 2 (some (Jvm.ClassFile.FieldType.char)) ∈ gtbl := gt_3 (List.mem_of_getElem? (i := 45) rfl) rfl
theorem q_ml_J2_67 : Cond.methodLink RJ2 67 yJ2_checkIndex_2214a ∈ gtbl := gt_3 (List.mem_of_getElem? (i := 46) rfl) rfl
theorem q_stat_J2_checkIndex_2214a : Cond.static yJ2_checkIndex_2214a ∈ gtbl := gt_3 (List.mem_of_getElem? (i := 47) rfl) rfl
theorem q_code_J2_checkIndex_2214a : Cond.code yJ2_checkIndex_2214a cJ2_checkIndex_2214a 2 none ∈ gtbl := gt_3 (List.mem_of_getElem? (i := 48) rfl) rfl
theorem q_ml_J2_48 : Cond.methodLink RJ2 48 yJ2_length_9d52b ∈ gtbl := gt_3 (List.mem_of_getElem? (i := 49) rfl) rfl
theorem q_stat_J2_length_9d52b : Cond.static yJ2_length_9d52b ∈ gtbl := gt_3 (List.mem_of_getElem? (i := 50) rfl) rfl
theorem q_code_J2_length_9d52b : Cond.code yJ2_length_9d52b cJ2_length_9d52b 1 (some (Jvm.ClassFile.FieldType.int)) ∈ gtbl := gt_3 (List.mem_of_getElem? (i := 51) rfl) rfl
theorem q_ml_J2_414 : Cond.methodLink RJ2 414 yJ0_checkIndex_df160 ∈ gtbl := gt_3 (List.mem_of_getElem? (i := 52) rfl) rfl
theorem q_ml_J2_71 : Cond.methodLink RJ2 71 yJ2_getChar_3b067 ∈ gtbl := gt_3 (List.mem_of_getElem? (i := 53) rfl) rfl
theorem q_stat_J2_getChar_3b067 : Cond.static yJ2_getChar_3b067 ∈ gtbl := gt_3 (List.mem_of_getElem? (i := 54) rfl) rfl
theorem q_code_J2_getChar_3b067 : Cond.code yJ2_getChar_3b067 cJ2_getChar_3b067 2 (some (Jvm.ClassFile.FieldType.char)) ∈ gtbl := gt_3 (List.mem_of_getElem? (i := 55) rfl) rfl
theorem q_fl_J2_44 : Cond.fieldLink RJ2 44 "java/lang/StringUTF16" "$assertionsDisabled" "Z" ∈ gtbl := gt_3 (List.mem_of_getElem? (i := 56) rfl) rfl
theorem q_fl_J2_59 : Cond.fieldLink RJ2 59 "java/lang/StringUTF16" "HI_BYTE_SHIFT" "I" ∈ gtbl := gt_3 (List.mem_of_getElem? (i := 58) rfl) rfl
theorem q_fl_J2_63 : Cond.fieldLink RJ2 63 "java/lang/StringUTF16" "LO_BYTE_SHIFT" "I" ∈ gtbl := gt_3 (List.mem_of_getElem? (i := 60) rfl) rfl
theorem q_ml_X6_67 : Cond.methodLink RX6 67 yX6_readSize ∈ gtbl := gt_3 (List.mem_of_getElem? (i := 62) rfl) rfl
theorem q_inst_X6_readSize : Cond.instanceMethod yX6_readSize ∈ gtbl := gt_3 (List.mem_of_getElem? (i := 64) rfl) rfl
theorem q_code_X6_readSize : Cond.code yX6_readSize cX6_readSize 4 (some (Jvm.ClassFile.FieldType.boolean)) ∈ gtbl := gt_3 (List.mem_of_getElem? (i := 65) rfl) rfl
theorem q_ml_X6_73 : Cond.methodLink RX6 73 yX6_readNumber ∈ gtbl := gt_3 (List.mem_of_getElem? (i := 66) rfl) rfl
theorem q_inst_X6_readNumber : Cond.instanceMethod yX6_readNumber ∈ gtbl := gt_3 (List.mem_of_getElem? (i := 68) rfl) rfl
theorem q_code_X6_readNumber : Cond.code yX6_readNumber cX6_readNumber 5 (some (Jvm.ClassFile.FieldType.int)) ∈ gtbl := gt_3 (List.mem_of_getElem? (i := 69) rfl) rfl
theorem q_ml_X6_77 : Cond.methodLink RX6 77 yX6_keep ∈ gtbl := gt_3 (List.mem_of_getElem? (i := 70) rfl) rfl
theorem q_stat_X6_keep : Cond.static yX6_keep ∈ gtbl := gt_3 (List.mem_of_getElem? (i := 71) rfl) rfl
theorem q_code_X6_keep : Cond.code yX6_keep cX6_keep 3 (some (Jvm.ClassFile.FieldType.boolean)) ∈ gtbl := gt_3 (List.mem_of_getElem? (i := 72) rfl) rfl
theorem q_ml_X6_70 : Cond.methodLink RX6 70 yX6_readPlace ∈ gtbl := gt_3 (List.mem_of_getElem? (i := 73) rfl) rfl
theorem q_inst_X6_readPlace : Cond.instanceMethod yX6_readPlace ∈ gtbl := gt_3 (List.mem_of_getElem? (i := 75) rfl) rfl
theorem q_code_X6_readPlace : Cond.code yX6_readPlace cX6_readPlace 2 (some (Jvm.ClassFile.FieldType.boolean)) ∈ gtbl := gt_3 (List.mem_of_getElem? (i := 76) rfl) rfl
theorem q_ml_X6_81 : Cond.methodLink RX6 81 yX6_readDirection ∈ gtbl := gt_3 (List.mem_of_getElem? (i := 77) rfl) rfl
theorem q_inst_X6_readDirection : Cond.instanceMethod yX6_readDirection ∈ gtbl := gt_3 (List.mem_of_getElem? (i := 79) rfl) rfl
theorem q_code_X6_readDirection : Cond.code yX6_readDirection cX6_readDirection 2 (some (Jvm.ClassFile.FieldType.int)) ∈ gtbl := gt_3 (List.mem_of_getElem? (i := 80) rfl) rfl
theorem q_ml_X6_92 : Cond.methodLink RX6 92 yX6_directionName ∈ gtbl := gt_3 (List.mem_of_getElem? (i := 81) rfl) rfl
theorem q_stat_X6_directionName : Cond.static yX6_directionName ∈ gtbl := gt_3 (List.mem_of_getElem? (i := 82) rfl) rfl
theorem q_code_X6_directionName : Cond.code yX6_directionName cX6_directionName 1 (some ((Jvm.ClassFile.FieldType.object "java/lang/String"))) ∈ gtbl := gt_3 (List.mem_of_getElem? (i := 83) rfl) rfl
theorem q_ml_X6_54 : Cond.methodLink RX6 54 yX6_endsLine ∈ gtbl := gt_3 (List.mem_of_getElem? (i := 88) rfl) rfl
theorem q_inst_X6_endsLine : Cond.instanceMethod yX6_endsLine ∈ gtbl := gt_3 (List.mem_of_getElem? (i := 90) rfl) rfl
theorem q_code_X6_endsLine : Cond.code yX6_endsLine cX6_endsLine 1 (some (Jvm.ClassFile.FieldType.boolean)) ∈ gtbl := gt_3 (List.mem_of_getElem? (i := 91) rfl) rfl
theorem q_ml_L_29 : Cond.methodLink RL 29 yX10_field ∈ gtbl := gt_3 (List.mem_of_getElem? (i := 93) rfl) rfl
theorem q_inst_X10_field : Cond.instanceMethod yX10_field ∈ gtbl := gt_3 (List.mem_of_getElem? (i := 94) rfl) rfl
theorem q_sel_X10_field : Cond.selects RX10 yX10_field yX10_field ∈ gtbl := gt_3 (List.mem_of_getElem? (i := 95) rfl) rfl
theorem q_code_X10_field : Cond.code yX10_field cX10_field 2 (some (Jvm.ClassFile.FieldType.int)) ∈ gtbl := gt_3 (List.mem_of_getElem? (i := 96) rfl) rfl
theorem q_ml_X10_133 : Cond.methodLink RX10 133 yX4_tell ∈ gtbl := gt_3 (List.mem_of_getElem? (i := 97) rfl) rfl
theorem q_inst_X4_tell : Cond.instanceMethod yX4_tell ∈ gtbl := gt_3 (List.mem_of_getElem? (i := 98) rfl) rfl
theorem q_sel_X4_tell : Cond.selects RX4 yX4_tell yX4_tell ∈ gtbl := gt_3 (List.mem_of_getElem? (i := 99) rfl) rfl
theorem q_code_X4_tell : Cond.code yX4_tell cX4_tell 5 none ∈ gtbl := gt_3 (List.mem_of_getElem? (i := 100) rfl) rfl
theorem q_ml_X4_38 : Cond.methodLink RX4 38 yX4_put ∈ gtbl := gt_3 (List.mem_of_getElem? (i := 101) rfl) rfl
theorem q_inst_X4_put : Cond.instanceMethod yX4_put ∈ gtbl := gt_3 (List.mem_of_getElem? (i := 103) rfl) rfl
theorem q_code_X4_put : Cond.code yX4_put cX4_put 5 none ∈ gtbl := gt_3 (List.mem_of_getElem? (i := 104) rfl) rfl
theorem q_ml_X4_45 : Cond.methodLink RX4 45 yX4_edgeAt ∈ gtbl := gt_3 (List.mem_of_getElem? (i := 105) rfl) rfl
theorem q_ml_X4_49 : Cond.methodLink RX4 49 yX4_want ∈ gtbl := gt_3 (List.mem_of_getElem? (i := 106) rfl) rfl
theorem q_inst_X4_want : Cond.instanceMethod yX4_want ∈ gtbl := gt_3 (List.mem_of_getElem? (i := 108) rfl) rfl
theorem q_code_X4_want : Cond.code yX4_want cX4_want 2 none ∈ gtbl := gt_3 (List.mem_of_getElem? (i := 109) rfl) rfl
theorem q_ml_X4_56 : Cond.methodLink RX4 56 yX4_thaw ∈ gtbl := gt_3 (List.mem_of_getElem? (i := 110) rfl) rfl
theorem q_inst_X4_thaw : Cond.instanceMethod yX4_thaw ∈ gtbl := gt_3 (List.mem_of_getElem? (i := 112) rfl) rfl
theorem q_code_X4_thaw : Cond.code yX4_thaw cX4_thaw 1 none ∈ gtbl := gt_3 (List.mem_of_getElem? (i := 113) rfl) rfl
theorem q_ml_L_33 : Cond.methodLink RL 33 yX10_square ∈ gtbl := gt_3 (List.mem_of_getElem? (i := 114) rfl) rfl
theorem q_inst_X10_square : Cond.instanceMethod yX10_square ∈ gtbl := gt_3 (List.mem_of_getElem? (i := 115) rfl) rfl
theorem q_sel_X10_square : Cond.selects RX10 yX10_square yX10_square ∈ gtbl := gt_3 (List.mem_of_getElem? (i := 116) rfl) rfl
theorem q_code_X10_square : Cond.code yX10_square cX10_square 2 (some (Jvm.ClassFile.FieldType.int)) ∈ gtbl := gt_3 (List.mem_of_getElem? (i := 117) rfl) rfl
theorem q_ml_X10_140 : Cond.methodLink RX10 140 yX4_squares ∈ gtbl := gt_3 (List.mem_of_getElem? (i := 118) rfl) rfl
theorem q_ml_L_38 : Cond.methodLink RL 38 yX10_hedge ∈ gtbl := gt_3 (List.mem_of_getElem? (i := 119) rfl) rfl
theorem q_inst_X10_hedge : Cond.instanceMethod yX10_hedge ∈ gtbl := gt_3 (List.mem_of_getElem? (i := 120) rfl) rfl
theorem q_sel_X10_hedge : Cond.selects RX10 yX10_hedge yX10_hedge ∈ gtbl := gt_3 (List.mem_of_getElem? (i := 121) rfl) rfl
theorem q_code_X10_hedge : Cond.code yX10_hedge cX10_hedge 2 (some (Jvm.ClassFile.FieldType.int)) ∈ gtbl := gt_3 (List.mem_of_getElem? (i := 122) rfl) rfl
theorem q_ml_X10_147 : Cond.methodLink RX10 147 yX4_edgeCount ∈ gtbl := gt_3 (List.mem_of_getElem? (i := 123) rfl) rfl
theorem q_inst_X4_edgeCount : Cond.instanceMethod yX4_edgeCount ∈ gtbl := gt_3 (List.mem_of_getElem? (i := 124) rfl) rfl
theorem q_sel_X4_edgeCount : Cond.selects RX4 yX4_edgeCount yX4_edgeCount ∈ gtbl := gt_3 (List.mem_of_getElem? (i := 125) rfl) rfl
theorem q_code_X4_edgeCount : Cond.code yX4_edgeCount cX4_edgeCount 1 (some (Jvm.ClassFile.FieldType.int)) ∈ gtbl := gt_3 (List.mem_of_getElem? (i := 126) rfl) rfl
theorem q_ml_L_42 : Cond.methodLink RL 42 yX10_night ∈ gtbl := gt_3 (List.mem_of_getElem? (i := 127) rfl) rfl
theorem q_inst_X10_night : Cond.instanceMethod yX10_night ∈ gtbl := gt_3 (List.mem_of_getElem? (i := 128) rfl) rfl
theorem q_sel_X10_night : Cond.selects RX10 yX10_night yX10_night ∈ gtbl := gt_3 (List.mem_of_getElem? (i := 129) rfl) rfl
theorem q_code_X10_night : Cond.code yX10_night cX10_night 3 (some (Jvm.ClassFile.FieldType.int)) ∈ gtbl := gt_3 (List.mem_of_getElem? (i := 130) rfl) rfl
theorem q_ml_X10_153 : Cond.methodLink RX10 153 yX4_wantOf ∈ gtbl := gt_3 (List.mem_of_getElem? (i := 131) rfl) rfl
theorem q_inst_X4_wantOf : Cond.instanceMethod yX4_wantOf ∈ gtbl := gt_3 (List.mem_of_getElem? (i := 132) rfl) rfl
theorem q_sel_X4_wantOf : Cond.selects RX4 yX4_wantOf yX4_wantOf ∈ gtbl := gt_3 (List.mem_of_getElem? (i := 133) rfl) rfl
theorem q_code_X4_wantOf : Cond.code yX4_wantOf cX4_wantOf 2 (some (Jvm.ClassFile.FieldType.int)) ∈ gtbl := gt_3 (List.mem_of_getElem? (i := 134) rfl) rfl
theorem q_ml_L_47 : Cond.methodLink RL 47 yX10_sides ∈ gtbl := gt_3 (List.mem_of_getElem? (i := 135) rfl) rfl
theorem q_inst_X10_sides : Cond.instanceMethod yX10_sides ∈ gtbl := gt_3 (List.mem_of_getElem? (i := 136) rfl) rfl
theorem q_sel_X10_sides : Cond.selects RX10 yX10_sides yX10_sides ∈ gtbl := gt_3 (List.mem_of_getElem? (i := 137) rfl) rfl
theorem q_code_X10_sides : Cond.code yX10_sides cX10_sides 2 (some (Jvm.ClassFile.FieldType.int)) ∈ gtbl := gt_3 (List.mem_of_getElem? (i := 138) rfl) rfl
theorem q_ml_X10_160 : Cond.methodLink RX10 160 yX3_knows ∈ gtbl := gt_3 (List.mem_of_getElem? (i := 139) rfl) rfl
theorem q_inst_X3_knows : Cond.instanceMethod yX3_knows ∈ gtbl := gt_3 (List.mem_of_getElem? (i := 140) rfl) rfl
theorem q_sel_X3_knows : Cond.selects RX3 yX3_knows yX3_knows ∈ gtbl := gt_3 (List.mem_of_getElem? (i := 141) rfl) rfl
theorem q_code_X3_knows : Cond.code yX3_knows cX3_knows 2 (some (Jvm.ClassFile.FieldType.boolean)) ∈ gtbl := gt_3 (List.mem_of_getElem? (i := 142) rfl) rfl
theorem q_ml_L_51 : Cond.methodLink RL 51 yX10_edges ∈ gtbl := gt_3 (List.mem_of_getElem? (i := 143) rfl) rfl
theorem q_inst_X10_edges : Cond.instanceMethod yX10_edges ∈ gtbl := gt_3 (List.mem_of_getElem? (i := 144) rfl) rfl
theorem q_sel_X10_edges : Cond.selects RX10 yX10_edges yX10_edges ∈ gtbl := gt_3 (List.mem_of_getElem? (i := 145) rfl) rfl
theorem q_code_X10_edges : Cond.code yX10_edges cX10_edges 2 (some (Jvm.ClassFile.FieldType.long)) ∈ gtbl := gt_3 (List.mem_of_getElem? (i := 146) rfl) rfl
theorem q_cl_X10_170 : Cond.constantLong RX10 170 (-3) ∈ gtbl := gt_3 (List.mem_of_getElem? (i := 147) rfl) rfl
theorem q_ml_L_56 : Cond.methodLink RL 56 yX10_yards ∈ gtbl := gt_3 (List.mem_of_getElem? (i := 148) rfl) rfl
theorem q_inst_X10_yards : Cond.instanceMethod yX10_yards ∈ gtbl := gt_3 (List.mem_of_getElem? (i := 149) rfl) rfl
theorem q_sel_X10_yards : Cond.selects RX10 yX10_yards yX10_yards ∈ gtbl := gt_3 (List.mem_of_getElem? (i := 150) rfl) rfl
theorem q_code_X10_yards : Cond.code yX10_yards cX10_yards 2 (some (Jvm.ClassFile.FieldType.int)) ∈ gtbl := gt_3 (List.mem_of_getElem? (i := 151) rfl) rfl
theorem q_ml_L_60 : Cond.methodLink RL 60 yX10_fold ∈ gtbl := gt_3 (List.mem_of_getElem? (i := 152) rfl) rfl
theorem q_inst_X10_fold : Cond.instanceMethod yX10_fold ∈ gtbl := gt_3 (List.mem_of_getElem? (i := 153) rfl) rfl
theorem q_sel_X10_fold : Cond.selects RX10 yX10_fold yX10_fold ∈ gtbl := gt_3 (List.mem_of_getElem? (i := 154) rfl) rfl
theorem q_code_X10_fold : Cond.code yX10_fold cX10_fold 2 (some (Jvm.ClassFile.FieldType.int)) ∈ gtbl := gt_3 (List.mem_of_getElem? (i := 155) rfl) rfl
theorem q_ml_X10_175 : Cond.methodLink RX10 175 yX2_put ∈ gtbl := gt_3 (List.mem_of_getElem? (i := 156) rfl) rfl
theorem q_inst_X2_put : Cond.instanceMethod yX2_put ∈ gtbl := gt_3 (List.mem_of_getElem? (i := 157) rfl) rfl
theorem q_sel_X2_put : Cond.selects RX2 yX2_put yX2_put ∈ gtbl := gt_3 (List.mem_of_getElem? (i := 158) rfl) rfl
theorem q_code_X2_put : Cond.code yX2_put cX2_put 2 none ∈ gtbl := gt_3 (List.mem_of_getElem? (i := 159) rfl) rfl
theorem q_ml_L_64 : Cond.methodLink RL 64 yX10_clear ∈ gtbl := gt_3 (List.mem_of_getElem? (i := 160) rfl) rfl
theorem q_inst_X10_clear : Cond.instanceMethod yX10_clear ∈ gtbl := gt_3 (List.mem_of_getElem? (i := 161) rfl) rfl
theorem q_sel_X10_clear : Cond.selects RX10 yX10_clear yX10_clear ∈ gtbl := gt_3 (List.mem_of_getElem? (i := 162) rfl) rfl
theorem q_code_X10_clear : Cond.code yX10_clear cX10_clear 2 (some (Jvm.ClassFile.FieldType.int)) ∈ gtbl := gt_3 (List.mem_of_getElem? (i := 163) rfl) rfl
theorem q_ml_L_68 : Cond.methodLink RL 68 yX10_judge ∈ gtbl := gt_3 (List.mem_of_getElem? (i := 164) rfl) rfl
theorem q_inst_X10_judge : Cond.instanceMethod yX10_judge ∈ gtbl := gt_3 (List.mem_of_getElem? (i := 165) rfl) rfl
theorem q_sel_X10_judge : Cond.selects RX10 yX10_judge yX10_judge ∈ gtbl := gt_3 (List.mem_of_getElem? (i := 166) rfl) rfl
theorem q_code_X10_judge : Cond.code yX10_judge cX10_judge 1 (some (Jvm.ClassFile.FieldType.int)) ∈ gtbl := gt_3 (List.mem_of_getElem? (i := 167) rfl) rfl
theorem q_ml_X10_176 : Cond.methodLink RX10 176 yX2_firstBad ∈ gtbl := gt_3 (List.mem_of_getElem? (i := 168) rfl) rfl
theorem q_inst_X2_firstBad : Cond.instanceMethod yX2_firstBad ∈ gtbl := gt_3 (List.mem_of_getElem? (i := 169) rfl) rfl
theorem q_sel_X2_firstBad : Cond.selects RX2 yX2_firstBad yX2_firstBad ∈ gtbl := gt_3 (List.mem_of_getElem? (i := 170) rfl) rfl
theorem q_code_X2_firstBad : Cond.code yX2_firstBad cX2_firstBad 4 (some (Jvm.ClassFile.FieldType.int)) ∈ gtbl := gt_3 (List.mem_of_getElem? (i := 171) rfl) rfl
theorem q_ml_X2_19 : Cond.methodLink RX2 19 yX2_reasonOf ∈ gtbl := gt_3 (List.mem_of_getElem? (i := 172) rfl) rfl
theorem q_inst_X2_reasonOf : Cond.instanceMethod yX2_reasonOf ∈ gtbl := gt_3 (List.mem_of_getElem? (i := 173) rfl) rfl
theorem q_sel_X2_reasonOf : Cond.selects RX2 yX2_reasonOf yX2_reasonOf ∈ gtbl := gt_3 (List.mem_of_getElem? (i := 174) rfl) rfl
theorem q_code_X2_reasonOf : Cond.code yX2_reasonOf cX2_reasonOf 6 (some (Jvm.ClassFile.FieldType.int)) ∈ gtbl := gt_3 (List.mem_of_getElem? (i := 175) rfl) rfl
theorem q_ml_X2_23 : Cond.methodLink RX2 23 yX3_isFold ∈ gtbl := gt_3 (List.mem_of_getElem? (i := 176) rfl) rfl
theorem q_inst_X3_isFold : Cond.instanceMethod yX3_isFold ∈ gtbl := gt_3 (List.mem_of_getElem? (i := 177) rfl) rfl
theorem q_sel_X3_isFold : Cond.selects RX3 yX3_isFold yX3_isFold ∈ gtbl := gt_3 (List.mem_of_getElem? (i := 178) rfl) rfl
theorem q_code_X3_isFold : Cond.code yX3_isFold cX3_isFold 2 (some (Jvm.ClassFile.FieldType.boolean)) ∈ gtbl := gt_3 (List.mem_of_getElem? (i := 179) rfl) rfl
theorem q_ml_X2_40 : Cond.methodLink RX2 40 yX4_wantOf ∈ gtbl := gt_3 (List.mem_of_getElem? (i := 180) rfl) rfl
theorem q_ml_X2_44 : Cond.methodLink RX2 44 yX4_isFrozen ∈ gtbl := gt_3 (List.mem_of_getElem? (i := 181) rfl) rfl
theorem q_inst_X4_isFrozen : Cond.instanceMethod yX4_isFrozen ∈ gtbl := gt_3 (List.mem_of_getElem? (i := 182) rfl) rfl
theorem q_sel_X4_isFrozen : Cond.selects RX4 yX4_isFrozen yX4_isFrozen ∈ gtbl := gt_3 (List.mem_of_getElem? (i := 183) rfl) rfl
theorem q_code_X4_isFrozen : Cond.code yX4_isFrozen cX4_isFrozen 2 (some (Jvm.ClassFile.FieldType.boolean)) ∈ gtbl := gt_3 (List.mem_of_getElem? (i := 184) rfl) rfl
theorem q_ml_X2_53 : Cond.methodLink RX2 53 yX2_isFresh ∈ gtbl := gt_3 (List.mem_of_getElem? (i := 185) rfl) rfl
theorem q_inst_X2_isFresh : Cond.instanceMethod yX2_isFresh ∈ gtbl := gt_3 (List.mem_of_getElem? (i := 187) rfl) rfl
theorem q_code_X2_isFresh : Cond.code yX2_isFresh cX2_isFresh 5 (some (Jvm.ClassFile.FieldType.boolean)) ∈ gtbl := gt_3 (List.mem_of_getElem? (i := 188) rfl) rfl
theorem q_ml_X2_57 : Cond.methodLink RX2 57 yJ9_max_7cf53 ∈ gtbl := gt_3 (List.mem_of_getElem? (i := 189) rfl) rfl
theorem q_ml_L_72 : Cond.methodLink RL 72 yX10_why ∈ gtbl := gt_3 (List.mem_of_getElem? (i := 190) rfl) rfl
theorem q_inst_X10_why : Cond.instanceMethod yX10_why ∈ gtbl := gt_3 (List.mem_of_getElem? (i := 191) rfl) rfl
theorem q_sel_X10_why : Cond.selects RX10 yX10_why yX10_why ∈ gtbl := gt_3 (List.mem_of_getElem? (i := 192) rfl) rfl
theorem q_code_X10_why : Cond.code yX10_why cX10_why 2 (some (Jvm.ClassFile.FieldType.int)) ∈ gtbl := gt_3 (List.mem_of_getElem? (i := 193) rfl) rfl
theorem q_ml_X10_180 : Cond.methodLink RX10 180 yX2_reasonOf ∈ gtbl := gt_3 (List.mem_of_getElem? (i := 194) rfl) rfl
theorem q_ml_L_76 : Cond.methodLink RL 76 yX10_moved ∈ gtbl := gt_3 (List.mem_of_getElem? (i := 195) rfl) rfl
theorem q_inst_X10_moved : Cond.instanceMethod yX10_moved ∈ gtbl := gt_3 (List.mem_of_getElem? (i := 196) rfl) rfl
theorem q_sel_X10_moved : Cond.selects RX10 yX10_moved yX10_moved ∈ gtbl := gt_3 (List.mem_of_getElem? (i := 197) rfl) rfl
theorem q_code_X10_moved : Cond.code yX10_moved cX10_moved 5 (some (Jvm.ClassFile.FieldType.int)) ∈ gtbl := gt_3 (List.mem_of_getElem? (i := 198) rfl) rfl
theorem q_ml_X10_186 : Cond.methodLink RX10 186 yX3_isFold ∈ gtbl := gt_3 (List.mem_of_getElem? (i := 199) rfl) rfl
theorem q_ml_X10_189 : Cond.methodLink RX10 189 yX3_liftedTo ∈ gtbl := gt_3 (List.mem_of_getElem? (i := 200) rfl) rfl
theorem q_inst_X3_liftedTo : Cond.instanceMethod yX3_liftedTo ∈ gtbl := gt_3 (List.mem_of_getElem? (i := 201) rfl) rfl
theorem q_sel_X3_liftedTo : Cond.selects RX3 yX3_liftedTo yX3_liftedTo ∈ gtbl := gt_3 (List.mem_of_getElem? (i := 202) rfl) rfl
theorem q_code_X3_liftedTo : Cond.code yX3_liftedTo cX3_liftedTo 3 (some (Jvm.ClassFile.FieldType.int)) ∈ gtbl := gt_3 (List.mem_of_getElem? (i := 203) rfl) rfl
theorem q_ml_X10_192 : Cond.methodLink RX10 192 yX0_least ∈ gtbl := gt_3 (List.mem_of_getElem? (i := 204) rfl) rfl
theorem q_inst_X0_least : Cond.instanceMethod yX0_least ∈ gtbl := gt_3 (List.mem_of_getElem? (i := 205) rfl) rfl
theorem q_sel_X0_least : Cond.selects RX0 yX0_least yX0_least ∈ gtbl := gt_3 (List.mem_of_getElem? (i := 206) rfl) rfl
theorem q_code_X0_least : Cond.code yX0_least cX0_least 6 (some (Jvm.ClassFile.FieldType.int)) ∈ gtbl := gt_3 (List.mem_of_getElem? (i := 207) rfl) rfl
theorem q_ml_X0_48 : Cond.methodLink RX0 48 yX0_laySpots ∈ gtbl := gt_3 (List.mem_of_getElem? (i := 208) rfl) rfl
theorem q_inst_X0_laySpots : Cond.instanceMethod yX0_laySpots ∈ gtbl := gt_3 (List.mem_of_getElem? (i := 210) rfl) rfl
theorem q_code_X0_laySpots : Cond.code yX0_laySpots cX0_laySpots 4 none ∈ gtbl := gt_3 (List.mem_of_getElem? (i := 211) rfl) rfl
theorem q_ml_X0_79 : Cond.methodLink RX0 79 yX4_edgeAt ∈ gtbl := gt_3 (List.mem_of_getElem? (i := 212) rfl) rfl
theorem q_ml_X0_83 : Cond.methodLink RX0 83 yX0_putSpot ∈ gtbl := gt_3 (List.mem_of_getElem? (i := 213) rfl) rfl
theorem q_inst_X0_putSpot : Cond.instanceMethod yX0_putSpot ∈ gtbl := gt_3 (List.mem_of_getElem? (i := 215) rfl) rfl
theorem q_code_X0_putSpot : Cond.code yX0_putSpot cX0_putSpot 4 none ∈ gtbl := gt_3 (List.mem_of_getElem? (i := 216) rfl) rfl
theorem q_ml_X0_52 : Cond.methodLink RX0 52 yX0_lay ∈ gtbl := gt_3 (List.mem_of_getElem? (i := 217) rfl) rfl
theorem q_inst_X0_lay : Cond.instanceMethod yX0_lay ∈ gtbl := gt_3 (List.mem_of_getElem? (i := 219) rfl) rfl
theorem q_code_X0_lay : Cond.code yX0_lay cX0_lay 4 none ∈ gtbl := gt_3 (List.mem_of_getElem? (i := 220) rfl) rfl
theorem q_ml_X0_87 : Cond.methodLink RX0 87 yX0_putPlace ∈ gtbl := gt_3 (List.mem_of_getElem? (i := 221) rfl) rfl
theorem q_inst_X0_putPlace : Cond.instanceMethod yX0_putPlace ∈ gtbl := gt_3 (List.mem_of_getElem? (i := 223) rfl) rfl
theorem q_code_X0_putPlace : Cond.code yX0_putPlace cX0_putPlace 3 none ∈ gtbl := gt_3 (List.mem_of_getElem? (i := 224) rfl) rfl
theorem q_ml_X0_90 : Cond.methodLink RX0 90 yJ7_fill_53178 ∈ gtbl := gt_3 (List.mem_of_getElem? (i := 225) rfl) rfl
theorem q_ml_X0_60 : Cond.methodLink RX0 60 yX0_giveTo ∈ gtbl := gt_3 (List.mem_of_getElem? (i := 226) rfl) rfl
theorem q_inst_X0_giveTo : Cond.instanceMethod yX0_giveTo ∈ gtbl := gt_3 (List.mem_of_getElem? (i := 228) rfl) rfl
theorem q_code_X0_giveTo : Cond.code yX0_giveTo cX0_giveTo 5 none ∈ gtbl := gt_3 (List.mem_of_getElem? (i := 229) rfl) rfl
theorem q_c_X0_102 : Cond.constant RX0 102 (1048576) ∈ gtbl := gt_3 (List.mem_of_getElem? (i := 230) rfl) rfl
theorem q_ml_X0_103 : Cond.methodLink RX0 103 yX0_nearestBehind ∈ gtbl := gt_3 (List.mem_of_getElem? (i := 231) rfl) rfl
theorem q_inst_X0_nearestBehind : Cond.instanceMethod yX0_nearestBehind ∈ gtbl := gt_3 (List.mem_of_getElem? (i := 233) rfl) rfl
theorem q_code_X0_nearestBehind : Cond.code yX0_nearestBehind cX0_nearestBehind 6 (some (Jvm.ClassFile.FieldType.int)) ∈ gtbl := gt_3 (List.mem_of_getElem? (i := 234) rfl) rfl
theorem q_ml_X0_67 : Cond.methodLink RX0 67 yX0_way ∈ gtbl := gt_3 (List.mem_of_getElem? (i := 235) rfl) rfl
theorem q_inst_X0_way : Cond.instanceMethod yX0_way ∈ gtbl := gt_3 (List.mem_of_getElem? (i := 237) rfl) rfl
theorem q_code_X0_way : Cond.code yX0_way cX0_way 3 (some (Jvm.ClassFile.FieldType.int)) ∈ gtbl := gt_3 (List.mem_of_getElem? (i := 238) rfl) rfl
theorem q_ml_X0_96 : Cond.methodLink RX0 96 yJ9_abs_0f7a4 ∈ gtbl := gt_3 (List.mem_of_getElem? (i := 239) rfl) rfl
theorem q_stat_J9_abs_0f7a4 : Cond.static yJ9_abs_0f7a4 ∈ gtbl := gt_4 (List.mem_of_getElem? (i := 0) rfl) rfl
theorem q_code_J9_abs_0f7a4 : Cond.code yJ9_abs_0f7a4 cJ9_abs_0f7a4 1 (some (Jvm.ClassFile.FieldType.int)) ∈ gtbl := gt_4 (List.mem_of_getElem? (i := 1) rfl) rfl
theorem q_ml_X0_106 : Cond.methodLink RX0 106 yX0_shiftBy ∈ gtbl := gt_4 (List.mem_of_getElem? (i := 2) rfl) rfl
theorem q_inst_X0_shiftBy : Cond.instanceMethod yX0_shiftBy ∈ gtbl := gt_4 (List.mem_of_getElem? (i := 4) rfl) rfl
theorem q_code_X0_shiftBy : Cond.code yX0_shiftBy cX0_shiftBy 3 none ∈ gtbl := gt_4 (List.mem_of_getElem? (i := 5) rfl) rfl
theorem q_ml_L_80 : Cond.methodLink RL 80 yX10_few ∈ gtbl := gt_4 (List.mem_of_getElem? (i := 6) rfl) rfl
theorem q_inst_X10_few : Cond.instanceMethod yX10_few ∈ gtbl := gt_4 (List.mem_of_getElem? (i := 7) rfl) rfl
theorem q_sel_X10_few : Cond.selects RX10 yX10_few yX10_few ∈ gtbl := gt_4 (List.mem_of_getElem? (i := 8) rfl) rfl
theorem q_code_X10_few : Cond.code yX10_few cX10_few 4 (some (Jvm.ClassFile.FieldType.int)) ∈ gtbl := gt_4 (List.mem_of_getElem? (i := 9) rfl) rfl
theorem q_ml_X10_196 : Cond.methodLink RX10 196 yX3_leastSided ∈ gtbl := gt_4 (List.mem_of_getElem? (i := 10) rfl) rfl
theorem q_inst_X3_leastSided : Cond.instanceMethod yX3_leastSided ∈ gtbl := gt_4 (List.mem_of_getElem? (i := 11) rfl) rfl
theorem q_sel_X3_leastSided : Cond.selects RX3 yX3_leastSided yX3_leastSided ∈ gtbl := gt_4 (List.mem_of_getElem? (i := 12) rfl) rfl
theorem q_code_X3_leastSided : Cond.code yX3_leastSided cX3_leastSided 5 (some (Jvm.ClassFile.FieldType.int)) ∈ gtbl := gt_4 (List.mem_of_getElem? (i := 13) rfl) rfl
theorem q_c_X3_83 : Cond.constant RX3 83 (1048576) ∈ gtbl := gt_4 (List.mem_of_getElem? (i := 14) rfl) rfl
theorem q_ml_X3_84 : Cond.methodLink RX3 84 yX3_isFold ∈ gtbl := gt_4 (List.mem_of_getElem? (i := 15) rfl) rfl
theorem q_ml_L_84 : Cond.methodLink RL 84 yX10_two ∈ gtbl := gt_4 (List.mem_of_getElem? (i := 16) rfl) rfl
theorem q_inst_X10_two : Cond.instanceMethod yX10_two ∈ gtbl := gt_4 (List.mem_of_getElem? (i := 17) rfl) rfl
theorem q_sel_X10_two : Cond.selects RX10 yX10_two yX10_two ∈ gtbl := gt_4 (List.mem_of_getElem? (i := 18) rfl) rfl
theorem q_code_X10_two : Cond.code yX10_two cX10_two 4 (some (Jvm.ClassFile.FieldType.int)) ∈ gtbl := gt_4 (List.mem_of_getElem? (i := 19) rfl) rfl
theorem q_ml_X10_199 : Cond.methodLink RX10 199 yX5_find ∈ gtbl := gt_4 (List.mem_of_getElem? (i := 20) rfl) rfl
theorem q_inst_X5_find : Cond.instanceMethod yX5_find ∈ gtbl := gt_4 (List.mem_of_getElem? (i := 21) rfl) rfl
theorem q_sel_X5_find : Cond.selects RX5 yX5_find yX5_find ∈ gtbl := gt_4 (List.mem_of_getElem? (i := 22) rfl) rfl
theorem q_code_X5_find : Cond.code yX5_find cX5_find 5 none ∈ gtbl := gt_4 (List.mem_of_getElem? (i := 23) rfl) rfl
theorem q_ml_X5_26 : Cond.methodLink RX5 26 yX3_isFold ∈ gtbl := gt_4 (List.mem_of_getElem? (i := 24) rfl) rfl
theorem q_ml_X5_34 : Cond.methodLink RX5 34 yX5_findSecond ∈ gtbl := gt_4 (List.mem_of_getElem? (i := 25) rfl) rfl
theorem q_inst_X5_findSecond : Cond.instanceMethod yX5_findSecond ∈ gtbl := gt_4 (List.mem_of_getElem? (i := 27) rfl) rfl
theorem q_code_X5_findSecond : Cond.code yX5_findSecond cX5_findSecond 7 none ∈ gtbl := gt_4 (List.mem_of_getElem? (i := 28) rfl) rfl
theorem q_ml_X5_41 : Cond.methodLink RX5 41 yJ6_bitCount_0f7a4 ∈ gtbl := gt_4 (List.mem_of_getElem? (i := 29) rfl) rfl
theorem q_ml_L_89 : Cond.methodLink RL 89 yX10_fewest ∈ gtbl := gt_4 (List.mem_of_getElem? (i := 30) rfl) rfl
theorem q_inst_X10_fewest : Cond.instanceMethod yX10_fewest ∈ gtbl := gt_4 (List.mem_of_getElem? (i := 31) rfl) rfl
theorem q_sel_X10_fewest : Cond.selects RX10 yX10_fewest yX10_fewest ∈ gtbl := gt_4 (List.mem_of_getElem? (i := 32) rfl) rfl
theorem q_code_X10_fewest : Cond.code yX10_fewest cX10_fewest 2 (some (Jvm.ClassFile.FieldType.int)) ∈ gtbl := gt_4 (List.mem_of_getElem? (i := 33) rfl) rfl
theorem q_ml_X10_212 : Cond.methodLink RX10 212 yX10_wantable ∈ gtbl := gt_4 (List.mem_of_getElem? (i := 34) rfl) rfl
theorem q_stat_X10_wantable : Cond.static yX10_wantable ∈ gtbl := gt_4 (List.mem_of_getElem? (i := 35) rfl) rfl
theorem q_code_X10_wantable : Cond.code yX10_wantable cX10_wantable 1 (some (Jvm.ClassFile.FieldType.boolean)) ∈ gtbl := gt_4 (List.mem_of_getElem? (i := 36) rfl) rfl
theorem q_ml_X10_215 : Cond.methodLink RX10 215 yX1_fewestFor ∈ gtbl := gt_4 (List.mem_of_getElem? (i := 37) rfl) rfl
theorem q_inst_X1_fewestFor : Cond.instanceMethod yX1_fewestFor ∈ gtbl := gt_4 (List.mem_of_getElem? (i := 38) rfl) rfl
theorem q_sel_X1_fewestFor : Cond.selects RX1 yX1_fewestFor yX1_fewestFor ∈ gtbl := gt_4 (List.mem_of_getElem? (i := 39) rfl) rfl
theorem q_code_X1_fewestFor : Cond.code yX1_fewestFor cX1_fewestFor 2 (some (Jvm.ClassFile.FieldType.int)) ∈ gtbl := gt_4 (List.mem_of_getElem? (i := 40) rfl) rfl
theorem q_ml_X1_46 : Cond.methodLink RX1 46 yX1_workOut ∈ gtbl := gt_4 (List.mem_of_getElem? (i := 41) rfl) rfl
theorem q_inst_X1_workOut : Cond.instanceMethod yX1_workOut ∈ gtbl := gt_4 (List.mem_of_getElem? (i := 43) rfl) rfl
theorem q_code_X1_workOut : Cond.code yX1_workOut cX1_workOut 7 none ∈ gtbl := gt_4 (List.mem_of_getElem? (i := 44) rfl) rfl
theorem q_ml_X1_108 : Cond.methodLink RX1 108 yX7_list ∈ gtbl := gt_4 (List.mem_of_getElem? (i := 45) rfl) rfl
theorem q_inst_X7_list : Cond.instanceMethod yX7_list ∈ gtbl := gt_4 (List.mem_of_getElem? (i := 46) rfl) rfl
theorem q_sel_X7_list : Cond.selects RX7 yX7_list yX7_list ∈ gtbl := gt_4 (List.mem_of_getElem? (i := 47) rfl) rfl
theorem q_code_X7_list : Cond.code yX7_list cX7_list 4 none ∈ gtbl := gt_4 (List.mem_of_getElem? (i := 48) rfl) rfl
theorem q_ml_X7_31 : Cond.methodLink RX7 31 yX3_isFold ∈ gtbl := gt_4 (List.mem_of_getElem? (i := 49) rfl) rfl
theorem q_ml_X7_35 : Cond.methodLink RX7 35 yX7_listBehind ∈ gtbl := gt_4 (List.mem_of_getElem? (i := 50) rfl) rfl
theorem q_inst_X7_listBehind : Cond.instanceMethod yX7_listBehind ∈ gtbl := gt_4 (List.mem_of_getElem? (i := 52) rfl) rfl
theorem q_code_X7_listBehind : Cond.code yX7_listBehind cX7_listBehind 8 (some (Jvm.ClassFile.FieldType.int)) ∈ gtbl := gt_4 (List.mem_of_getElem? (i := 53) rfl) rfl
theorem q_ml_X7_39 : Cond.methodLink RX7 39 yX3_nextTo ∈ gtbl := gt_4 (List.mem_of_getElem? (i := 54) rfl) rfl
theorem q_inst_X3_nextTo : Cond.instanceMethod yX3_nextTo ∈ gtbl := gt_4 (List.mem_of_getElem? (i := 55) rfl) rfl
theorem q_sel_X3_nextTo : Cond.selects RX3 yX3_nextTo yX3_nextTo ∈ gtbl := gt_4 (List.mem_of_getElem? (i := 56) rfl) rfl
theorem q_code_X3_nextTo : Cond.code yX3_nextTo cX3_nextTo 2 (some (Jvm.ClassFile.FieldType.int)) ∈ gtbl := gt_4 (List.mem_of_getElem? (i := 57) rfl) rfl
theorem q_ml_X1_121 : Cond.methodLink RX1 121 yX1_waysBehind ∈ gtbl := gt_4 (List.mem_of_getElem? (i := 58) rfl) rfl
theorem q_inst_X1_waysBehind : Cond.instanceMethod yX1_waysBehind ∈ gtbl := gt_4 (List.mem_of_getElem? (i := 60) rfl) rfl
theorem q_code_X1_waysBehind : Cond.code yX1_waysBehind cX1_waysBehind 4 (some (Jvm.ClassFile.FieldType.int)) ∈ gtbl := gt_4 (List.mem_of_getElem? (i := 61) rfl) rfl
theorem q_ml_X1_82 : Cond.methodLink RX1 82 yX1_isGone ∈ gtbl := gt_4 (List.mem_of_getElem? (i := 62) rfl) rfl
theorem q_inst_X1_isGone : Cond.instanceMethod yX1_isGone ∈ gtbl := gt_4 (List.mem_of_getElem? (i := 64) rfl) rfl
theorem q_code_X1_isGone : Cond.code yX1_isGone cX1_isGone 2 (some (Jvm.ClassFile.FieldType.boolean)) ∈ gtbl := gt_4 (List.mem_of_getElem? (i := 65) rfl) rfl
theorem q_ml_X1_75 : Cond.methodLink RX1 75 yX1_waysOn ∈ gtbl := gt_4 (List.mem_of_getElem? (i := 66) rfl) rfl
theorem q_inst_X1_waysOn : Cond.instanceMethod yX1_waysOn ∈ gtbl := gt_4 (List.mem_of_getElem? (i := 68) rfl) rfl
theorem q_code_X1_waysOn : Cond.code yX1_waysOn cX1_waysOn 6 (some (Jvm.ClassFile.FieldType.int)) ∈ gtbl := gt_4 (List.mem_of_getElem? (i := 69) rfl) rfl
theorem q_ml_X1_93 : Cond.methodLink RX1 93 yX3_nextTo ∈ gtbl := gt_4 (List.mem_of_getElem? (i := 70) rfl) rfl
theorem q_c_X1_133 : Cond.constant RX1 133 (1000000007) ∈ gtbl := gt_4 (List.mem_of_getElem? (i := 71) rfl) rfl
theorem q_ml_X1_124 : Cond.methodLink RX1 124 yX1_leastBehind ∈ gtbl := gt_4 (List.mem_of_getElem? (i := 72) rfl) rfl
theorem q_inst_X1_leastBehind : Cond.instanceMethod yX1_leastBehind ∈ gtbl := gt_4 (List.mem_of_getElem? (i := 74) rfl) rfl
theorem q_code_X1_leastBehind : Cond.code yX1_leastBehind cX1_leastBehind 4 (some (Jvm.ClassFile.FieldType.int)) ∈ gtbl := gt_4 (List.mem_of_getElem? (i := 75) rfl) rfl
theorem q_c_X1_78 : Cond.constant RX1 78 (1048576) ∈ gtbl := gt_4 (List.mem_of_getElem? (i := 76) rfl) rfl
theorem q_ml_X1_50 : Cond.methodLink RX1 50 yX1_leastNeededOn ∈ gtbl := gt_4 (List.mem_of_getElem? (i := 77) rfl) rfl
theorem q_inst_X1_leastNeededOn : Cond.instanceMethod yX1_leastNeededOn ∈ gtbl := gt_4 (List.mem_of_getElem? (i := 79) rfl) rfl
theorem q_code_X1_leastNeededOn : Cond.code yX1_leastNeededOn cX1_leastNeededOn 7 (some (Jvm.ClassFile.FieldType.int)) ∈ gtbl := gt_4 (List.mem_of_getElem? (i := 80) rfl) rfl
theorem q_ml_X1_134 : Cond.methodLink RX1 134 yJ9_max_7cf53 ∈ gtbl := gt_4 (List.mem_of_getElem? (i := 81) rfl) rfl
theorem q_ml_X1_58 : Cond.methodLink RX1 58 yJ9_min_7cf53 ∈ gtbl := gt_4 (List.mem_of_getElem? (i := 82) rfl) rfl
theorem q_stat_J9_min_7cf53 : Cond.static yJ9_min_7cf53 ∈ gtbl := gt_4 (List.mem_of_getElem? (i := 83) rfl) rfl
theorem q_code_J9_min_7cf53 : Cond.code yJ9_min_7cf53 cJ9_min_7cf53 2 (some (Jvm.ClassFile.FieldType.int)) ∈ gtbl := gt_4 (List.mem_of_getElem? (i := 84) rfl) rfl
theorem q_ml_X1_66 : Cond.methodLink RX1 66 yX1_leastLiftedOn ∈ gtbl := gt_4 (List.mem_of_getElem? (i := 85) rfl) rfl
theorem q_inst_X1_leastLiftedOn : Cond.instanceMethod yX1_leastLiftedOn ∈ gtbl := gt_4 (List.mem_of_getElem? (i := 87) rfl) rfl
theorem q_code_X1_leastLiftedOn : Cond.code yX1_leastLiftedOn cX1_leastLiftedOn 7 (some (Jvm.ClassFile.FieldType.int)) ∈ gtbl := gt_4 (List.mem_of_getElem? (i := 88) rfl) rfl
theorem q_ml_X1_90 : Cond.methodLink RX1 90 yX3_liftedTo ∈ gtbl := gt_4 (List.mem_of_getElem? (i := 89) rfl) rfl
theorem q_ml_X1_54 : Cond.methodLink RX1 54 yX1_orNone ∈ gtbl := gt_4 (List.mem_of_getElem? (i := 90) rfl) rfl
theorem q_stat_X1_orNone : Cond.static yX1_orNone ∈ gtbl := gt_4 (List.mem_of_getElem? (i := 91) rfl) rfl
theorem q_code_X1_orNone : Cond.code yX1_orNone cX1_orNone 1 (some (Jvm.ClassFile.FieldType.int)) ∈ gtbl := gt_4 (List.mem_of_getElem? (i := 92) rfl) rfl
theorem q_ml_L_93 : Cond.methodLink RL 93 yX10_best ∈ gtbl := gt_4 (List.mem_of_getElem? (i := 93) rfl) rfl
theorem q_inst_X10_best : Cond.instanceMethod yX10_best ∈ gtbl := gt_4 (List.mem_of_getElem? (i := 94) rfl) rfl
theorem q_sel_X10_best : Cond.selects RX10 yX10_best yX10_best ∈ gtbl := gt_4 (List.mem_of_getElem? (i := 95) rfl) rfl
theorem q_code_X10_best : Cond.code yX10_best cX10_best 4 (some (Jvm.ClassFile.FieldType.int)) ∈ gtbl := gt_4 (List.mem_of_getElem? (i := 96) rfl) rfl
theorem q_ml_X10_218 : Cond.methodLink RX10 218 yX1_findBest ∈ gtbl := gt_4 (List.mem_of_getElem? (i := 97) rfl) rfl
theorem q_inst_X1_findBest : Cond.instanceMethod yX1_findBest ∈ gtbl := gt_4 (List.mem_of_getElem? (i := 98) rfl) rfl
theorem q_sel_X1_findBest : Cond.selects RX1 yX1_findBest yX1_findBest ∈ gtbl := gt_4 (List.mem_of_getElem? (i := 99) rfl) rfl
theorem q_code_X1_findBest : Cond.code yX1_findBest cX1_findBest 4 none ∈ gtbl := gt_4 (List.mem_of_getElem? (i := 100) rfl) rfl
theorem q_ml_X1_72 : Cond.methodLink RX1 72 yX1_writeRow ∈ gtbl := gt_4 (List.mem_of_getElem? (i := 101) rfl) rfl
theorem q_inst_X1_writeRow : Cond.instanceMethod yX1_writeRow ∈ gtbl := gt_4 (List.mem_of_getElem? (i := 103) rfl) rfl
theorem q_code_X1_writeRow : Cond.code yX1_writeRow cX1_writeRow 5 none ∈ gtbl := gt_4 (List.mem_of_getElem? (i := 104) rfl) rfl
theorem q_ml_X1_86 : Cond.methodLink RX1 86 yX1_leastNext ∈ gtbl := gt_4 (List.mem_of_getElem? (i := 105) rfl) rfl
theorem q_inst_X1_leastNext : Cond.instanceMethod yX1_leastNext ∈ gtbl := gt_4 (List.mem_of_getElem? (i := 107) rfl) rfl
theorem q_code_X1_leastNext : Cond.code yX1_leastNext cX1_leastNext 7 (some (Jvm.ClassFile.FieldType.int)) ∈ gtbl := gt_4 (List.mem_of_getElem? (i := 108) rfl) rfl
theorem q_ml_L_97 : Cond.methodLink RL 97 yX10_courses ∈ gtbl := gt_4 (List.mem_of_getElem? (i := 109) rfl) rfl
theorem q_inst_X10_courses : Cond.instanceMethod yX10_courses ∈ gtbl := gt_4 (List.mem_of_getElem? (i := 110) rfl) rfl
theorem q_sel_X10_courses : Cond.selects RX10 yX10_courses yX10_courses ∈ gtbl := gt_4 (List.mem_of_getElem? (i := 111) rfl) rfl
theorem q_code_X10_courses : Cond.code yX10_courses cX10_courses 3 (some (Jvm.ClassFile.FieldType.int)) ∈ gtbl := gt_4 (List.mem_of_getElem? (i := 112) rfl) rfl
theorem q_ml_X10_228 : Cond.methodLink RX10 228 yX1_ways ∈ gtbl := gt_4 (List.mem_of_getElem? (i := 113) rfl) rfl
theorem q_inst_X1_ways : Cond.instanceMethod yX1_ways ∈ gtbl := gt_4 (List.mem_of_getElem? (i := 114) rfl) rfl
theorem q_sel_X1_ways : Cond.selects RX1 yX1_ways yX1_ways ∈ gtbl := gt_4 (List.mem_of_getElem? (i := 115) rfl) rfl
theorem q_code_X1_ways : Cond.code yX1_ways cX1_ways 3 (some (Jvm.ClassFile.FieldType.int)) ∈ gtbl := gt_4 (List.mem_of_getElem? (i := 116) rfl) rfl
theorem q_ml_L_101 : Cond.methodLink RL 101 yX10_round ∈ gtbl := gt_4 (List.mem_of_getElem? (i := 117) rfl) rfl
theorem q_inst_X10_round : Cond.instanceMethod yX10_round ∈ gtbl := gt_4 (List.mem_of_getElem? (i := 118) rfl) rfl
theorem q_sel_X10_round : Cond.selects RX10 yX10_round yX10_round ∈ gtbl := gt_4 (List.mem_of_getElem? (i := 119) rfl) rfl
theorem q_code_X10_round : Cond.code yX10_round cX10_round 4 (some (Jvm.ClassFile.FieldType.int)) ∈ gtbl := gt_4 (List.mem_of_getElem? (i := 120) rfl) rfl
theorem q_ml_X10_231 : Cond.methodLink RX10 231 yX10_knowPlain ∈ gtbl := gt_4 (List.mem_of_getElem? (i := 121) rfl) rfl
theorem q_inst_X10_knowPlain : Cond.instanceMethod yX10_knowPlain ∈ gtbl := gt_4 (List.mem_of_getElem? (i := 123) rfl) rfl
theorem q_code_X10_knowPlain : Cond.code yX10_knowPlain cX10_knowPlain 1 none ∈ gtbl := gt_4 (List.mem_of_getElem? (i := 124) rfl) rfl
theorem q_ml_L_105 : Cond.methodLink RL 105 yX10_broken ∈ gtbl := gt_4 (List.mem_of_getElem? (i := 125) rfl) rfl
theorem q_inst_X10_broken : Cond.instanceMethod yX10_broken ∈ gtbl := gt_4 (List.mem_of_getElem? (i := 126) rfl) rfl
theorem q_sel_X10_broken : Cond.selects RX10 yX10_broken yX10_broken ∈ gtbl := gt_4 (List.mem_of_getElem? (i := 127) rfl) rfl
theorem q_code_X10_broken : Cond.code yX10_broken cX10_broken 4 (some (Jvm.ClassFile.FieldType.int)) ∈ gtbl := gt_4 (List.mem_of_getElem? (i := 128) rfl) rfl
theorem q_ml_L_109 : Cond.methodLink RL 109 yX10_goes ∈ gtbl := gt_4 (List.mem_of_getElem? (i := 129) rfl) rfl
theorem q_inst_X10_goes : Cond.instanceMethod yX10_goes ∈ gtbl := gt_4 (List.mem_of_getElem? (i := 130) rfl) rfl
theorem q_sel_X10_goes : Cond.selects RX10 yX10_goes yX10_goes ∈ gtbl := gt_4 (List.mem_of_getElem? (i := 131) rfl) rfl
theorem q_code_X10_goes : Cond.code yX10_goes cX10_goes 4 (some (Jvm.ClassFile.FieldType.int)) ∈ gtbl := gt_4 (List.mem_of_getElem? (i := 132) rfl) rfl
theorem q_ml_X10_234 : Cond.methodLink RX10 234 yX9_goInward ∈ gtbl := gt_4 (List.mem_of_getElem? (i := 133) rfl) rfl
theorem q_inst_X9_goInward : Cond.instanceMethod yX9_goInward ∈ gtbl := gt_4 (List.mem_of_getElem? (i := 134) rfl) rfl
theorem q_sel_X9_goInward : Cond.selects RX9 yX9_goInward yX9_goInward ∈ gtbl := gt_4 (List.mem_of_getElem? (i := 135) rfl) rfl
theorem q_code_X9_goInward : Cond.code yX9_goInward cX9_goInward 4 none ∈ gtbl := gt_4 (List.mem_of_getElem? (i := 136) rfl) rfl
theorem q_ml_X9_23 : Cond.methodLink RX9 23 yX9_goRound ∈ gtbl := gt_4 (List.mem_of_getElem? (i := 137) rfl) rfl
theorem q_inst_X9_goRound : Cond.instanceMethod yX9_goRound ∈ gtbl := gt_4 (List.mem_of_getElem? (i := 139) rfl) rfl
theorem q_code_X9_goRound : Cond.code yX9_goRound cX9_goRound 6 none ∈ gtbl := gt_4 (List.mem_of_getElem? (i := 140) rfl) rfl
theorem q_ml_X9_19 : Cond.methodLink RX9 19 yX9_put ∈ gtbl := gt_4 (List.mem_of_getElem? (i := 141) rfl) rfl
theorem q_inst_X9_put : Cond.instanceMethod yX9_put ∈ gtbl := gt_4 (List.mem_of_getElem? (i := 143) rfl) rfl
theorem q_code_X9_put : Cond.code yX9_put cX9_put 2 none ∈ gtbl := gt_4 (List.mem_of_getElem? (i := 144) rfl) rfl
theorem q_ml_X10_237 : Cond.methodLink RX10 237 yX9_goByColumns ∈ gtbl := gt_4 (List.mem_of_getElem? (i := 145) rfl) rfl
theorem q_inst_X9_goByColumns : Cond.instanceMethod yX9_goByColumns ∈ gtbl := gt_4 (List.mem_of_getElem? (i := 146) rfl) rfl
theorem q_sel_X9_goByColumns : Cond.selects RX9 yX9_goByColumns yX9_goByColumns ∈ gtbl := gt_4 (List.mem_of_getElem? (i := 147) rfl) rfl
theorem q_code_X9_goByColumns : Cond.code yX9_goByColumns cX9_goByColumns 5 none ∈ gtbl := gt_4 (List.mem_of_getElem? (i := 148) rfl) rfl
theorem q_ml_X10_240 : Cond.methodLink RX10 240 yX9_measure ∈ gtbl := gt_4 (List.mem_of_getElem? (i := 149) rfl) rfl
theorem q_inst_X9_measure : Cond.instanceMethod yX9_measure ∈ gtbl := gt_4 (List.mem_of_getElem? (i := 150) rfl) rfl
theorem q_sel_X9_measure : Cond.selects RX9 yX9_measure yX9_measure ∈ gtbl := gt_4 (List.mem_of_getElem? (i := 151) rfl) rfl
theorem q_code_X9_measure : Cond.code yX9_measure cX9_measure 6 none ∈ gtbl := gt_4 (List.mem_of_getElem? (i := 152) rfl) rfl
theorem q_ml_X9_33 : Cond.methodLink RX9 33 yJ9_min_7cf53 ∈ gtbl := gt_4 (List.mem_of_getElem? (i := 153) rfl) rfl
theorem q_ml_X9_39 : Cond.methodLink RX9 39 yX9_part ∈ gtbl := gt_4 (List.mem_of_getElem? (i := 154) rfl) rfl
theorem q_inst_X9_part : Cond.instanceMethod yX9_part ∈ gtbl := gt_4 (List.mem_of_getElem? (i := 156) rfl) rfl
theorem q_code_X9_part : Cond.code yX9_part cX9_part 5 (some (Jvm.ClassFile.FieldType.int)) ∈ gtbl := gt_4 (List.mem_of_getElem? (i := 157) rfl) rfl
theorem q_ml_X9_42 : Cond.methodLink RX9 42 yX3_isFold ∈ gtbl := gt_4 (List.mem_of_getElem? (i := 158) rfl) rfl
theorem q_ml_X9_51 : Cond.methodLink RX9 51 yJ9_max_7cf53 ∈ gtbl := gt_4 (List.mem_of_getElem? (i := 159) rfl) rfl
theorem q_ml_X9_54 : Cond.methodLink RX9 54 yX3_liftedTo ∈ gtbl := gt_4 (List.mem_of_getElem? (i := 160) rfl) rfl
theorem q_ml_L_114 : Cond.methodLink RL 114 yX10_count ∈ gtbl := gt_4 (List.mem_of_getElem? (i := 161) rfl) rfl
theorem q_inst_X10_count : Cond.instanceMethod yX10_count ∈ gtbl := gt_4 (List.mem_of_getElem? (i := 162) rfl) rfl
theorem q_sel_X10_count : Cond.selects RX10 yX10_count yX10_count ∈ gtbl := gt_4 (List.mem_of_getElem? (i := 163) rfl) rfl
theorem q_code_X10_count : Cond.code yX10_count cX10_count 2 (some (Jvm.ClassFile.FieldType.int)) ∈ gtbl := gt_4 (List.mem_of_getElem? (i := 164) rfl) rfl
theorem q_clk_L_10 : Cond.classLink RL 10 RX11 ∈ gtbl := gt_4 (List.mem_of_getElem? (i := 165) rfl) rfl
theorem q_mk_X11 : Cond.instantiable RX11 41 ∈ gtbl := gt_4 (List.mem_of_getElem? (i := 166) rfl) rfl
theorem q_ml_L_12 : Cond.methodLink RL 12 yX11_init ∈ gtbl := gt_4 (List.mem_of_getElem? (i := 167) rfl) rfl
theorem q_inst_X11_init : Cond.instanceMethod yX11_init ∈ gtbl := gt_4 (List.mem_of_getElem? (i := 168) rfl) rfl
theorem q_code_X11_init : Cond.code yX11_init cX11_init 1 none ∈ gtbl := gt_4 (List.mem_of_getElem? (i := 169) rfl) rfl
theorem q_ml_X11_1 : Cond.methodLink RX11 1 ⟨"java/lang/Object", "<init>", "()V"⟩ ∈ gtbl := gt_4 (List.mem_of_getElem? (i := 170) rfl) rfl
theorem q_c_X11_48 : Cond.constant RX11 48 (286720) ∈ gtbl := gt_4 (List.mem_of_getElem? (i := 171) rfl) rfl
theorem q_fl_X11_7 : Cond.fieldLink RX11 7 "MovedFoldModel" "wide" "I" ∈ gtbl := gt_4 (List.mem_of_getElem? (i := 172) rfl) rfl
theorem q_fl_X11_13 : Cond.fieldLink RX11 13 "MovedFoldModel" "high" "I" ∈ gtbl := gt_4 (List.mem_of_getElem? (i := 173) rfl) rfl
theorem q_fl_X11_16 : Cond.fieldLink RX11 16 "MovedFoldModel" "square" "[I" ∈ gtbl := gt_4 (List.mem_of_getElem? (i := 174) rfl) rfl
theorem q_fl_X11_195 : Cond.fieldLink RX11 195 "MovedFoldModel" "hedges" "J" ∈ gtbl := gt_4 (List.mem_of_getElem? (i := 175) rfl) rfl
theorem q_fl_X11_20 : Cond.fieldLink RX11 20 "MovedFoldModel" "hurdles" "I" ∈ gtbl := gt_4 (List.mem_of_getElem? (i := 176) rfl) rfl
theorem q_fl_X11_209 : Cond.fieldLink RX11 209 "MovedFoldModel" "wants" "I" ∈ gtbl := gt_4 (List.mem_of_getElem? (i := 177) rfl) rfl
theorem q_fl_X11_23 : Cond.fieldLink RX11 23 "MovedFoldModel" "want" "[I" ∈ gtbl := gt_4 (List.mem_of_getElem? (i := 178) rfl) rfl
theorem q_fl_X11_212 : Cond.fieldLink RX11 212 "MovedFoldModel" "rest" "I" ∈ gtbl := gt_4 (List.mem_of_getElem? (i := 179) rfl) rfl
theorem q_fl_X11_215 : Cond.fieldLink RX11 215 "MovedFoldModel" "frozen" "I" ∈ gtbl := gt_4 (List.mem_of_getElem? (i := 180) rfl) rfl
theorem q_fl_X11_94 : Cond.fieldLink RX11 94 "MovedFoldModel" "bytes" "I" ∈ gtbl := gt_4 (List.mem_of_getElem? (i := 181) rfl) rfl
theorem q_fl_X11_26 : Cond.fieldLink RX11 26 "MovedFoldModel" "text" "[I" ∈ gtbl := gt_4 (List.mem_of_getElem? (i := 182) rfl) rfl
theorem q_fl_X11_99 : Cond.fieldLink RX11 99 "MovedFoldModel" "position" "I" ∈ gtbl := gt_4 (List.mem_of_getElem? (i := 183) rfl) rfl
theorem q_fl_X11_102 : Cond.fieldLink RX11 102 "MovedFoldModel" "tokenAt" "I" ∈ gtbl := gt_4 (List.mem_of_getElem? (i := 184) rfl) rfl
theorem q_fl_X11_113 : Cond.fieldLink RX11 113 "MovedFoldModel" "token" "J" ∈ gtbl := gt_4 (List.mem_of_getElem? (i := 185) rfl) rfl
theorem q_fl_X11_105 : Cond.fieldLink RX11 105 "MovedFoldModel" "digits" "I" ∈ gtbl := gt_4 (List.mem_of_getElem? (i := 186) rfl) rfl
theorem q_fl_X11_108 : Cond.fieldLink RX11 108 "MovedFoldModel" "number" "I" ∈ gtbl := gt_4 (List.mem_of_getElem? (i := 187) rfl) rfl
theorem q_fl_X11_127 : Cond.fieldLink RX11 127 "MovedFoldModel" "faultAt" "I" ∈ gtbl := gt_4 (List.mem_of_getElem? (i := 188) rfl) rfl
theorem q_fl_X11_186 : Cond.fieldLink RX11 186 "MovedFoldModel" "readMany" "I" ∈ gtbl := gt_4 (List.mem_of_getElem? (i := 189) rfl) rfl
theorem q_fl_X11_29 : Cond.fieldLink RX11 29 "MovedFoldModel" "read" "[I" ∈ gtbl := gt_4 (List.mem_of_getElem? (i := 190) rfl) rfl
theorem q_fl_X11_137 : Cond.fieldLink RX11 137 "MovedFoldModel" "readWide" "I" ∈ gtbl := gt_4 (List.mem_of_getElem? (i := 191) rfl) rfl
theorem q_fl_X11_143 : Cond.fieldLink RX11 143 "MovedFoldModel" "readHigh" "I" ∈ gtbl := gt_4 (List.mem_of_getElem? (i := 192) rfl) rfl
theorem q_fl_X11_198 : Cond.fieldLink RX11 198 "MovedFoldModel" "nights" "I" ∈ gtbl := gt_4 (List.mem_of_getElem? (i := 193) rfl) rfl
theorem q_fl_X11_32 : Cond.fieldLink RX11 32 "MovedFoldModel" "row" "[I" ∈ gtbl := gt_4 (List.mem_of_getElem? (i := 194) rfl) rfl
theorem q_fl_X11_254 : Cond.fieldLink RX11 254 "MovedFoldModel" "why" "I" ∈ gtbl := gt_4 (List.mem_of_getElem? (i := 195) rfl) rfl
theorem q_fl_X11_284 : Cond.fieldLink RX11 284 "MovedFoldModel" "folds" "I" ∈ gtbl := gt_4 (List.mem_of_getElem? (i := 196) rfl) rfl
theorem q_fl_X11_35 : Cond.fieldLink RX11 35 "MovedFoldModel" "foldSet" "[I" ∈ gtbl := gt_4 (List.mem_of_getElem? (i := 197) rfl) rfl
theorem q_fl_X11_38 : Cond.fieldLink RX11 38 "MovedFoldModel" "foldEdges" "[J" ∈ gtbl := gt_4 (List.mem_of_getElem? (i := 198) rfl) rfl
theorem q_fl_X11_42 : Cond.fieldLink RX11 42 "MovedFoldModel" "foldNeeds" "[I" ∈ gtbl := gt_4 (List.mem_of_getElem? (i := 199) rfl) rfl
theorem q_fl_X11_45 : Cond.fieldLink RX11 45 "MovedFoldModel" "foldYards" "[I" ∈ gtbl := gt_4 (List.mem_of_getElem? (i := 200) rfl) rfl
theorem q_fl_X11_49 : Cond.fieldLink RX11 49 "MovedFoldModel" "least" "[I" ∈ gtbl := gt_4 (List.mem_of_getElem? (i := 201) rfl) rfl
theorem q_fl_X11_52 : Cond.fieldLink RX11 52 "MovedFoldModel" "ways" "[I" ∈ gtbl := gt_4 (List.mem_of_getElem? (i := 202) rfl) rfl
theorem q_fl_X11_55 : Cond.fieldLink RX11 55 "MovedFoldModel" "price" "[I" ∈ gtbl := gt_4 (List.mem_of_getElem? (i := 203) rfl) rfl
theorem q_fl_X11_58 : Cond.fieldLink RX11 58 "MovedFoldModel" "rowBy" "[I" ∈ gtbl := gt_4 (List.mem_of_getElem? (i := 204) rfl) rfl
theorem q_fl_X11_61 : Cond.fieldLink RX11 61 "MovedFoldModel" "columnBy" "[I" ∈ gtbl := gt_4 (List.mem_of_getElem? (i := 205) rfl) rfl
theorem q_fl_X11_64 : Cond.fieldLink RX11 64 "MovedFoldModel" "rowOf" "[I" ∈ gtbl := gt_4 (List.mem_of_getElem? (i := 206) rfl) rfl
theorem q_fl_X11_67 : Cond.fieldLink RX11 67 "MovedFoldModel" "wayBack" "[I" ∈ gtbl := gt_4 (List.mem_of_getElem? (i := 207) rfl) rfl
theorem q_fl_X11_70 : Cond.fieldLink RX11 70 "MovedFoldModel" "slack" "[I" ∈ gtbl := gt_4 (List.mem_of_getElem? (i := 208) rfl) rfl
theorem q_fl_X11_73 : Cond.fieldLink RX11 73 "MovedFoldModel" "isUsed" "[Z" ∈ gtbl := gt_4 (List.mem_of_getElem? (i := 209) rfl) rfl
theorem q_fl_X11_77 : Cond.fieldLink RX11 77 "MovedFoldModel" "lifted" "[I" ∈ gtbl := gt_4 (List.mem_of_getElem? (i := 210) rfl) rfl
theorem q_fl_X11_80 : Cond.fieldLink RX11 80 "MovedFoldModel" "freed" "[I" ∈ gtbl := gt_4 (List.mem_of_getElem? (i := 211) rfl) rfl
theorem q_fl_X11_83 : Cond.fieldLink RX11 83 "MovedFoldModel" "path" "[I" ∈ gtbl := gt_4 (List.mem_of_getElem? (i := 212) rfl) rfl
theorem q_lay_X11_wide : Cond.lays RX11 "MovedFoldModel" "wide" "I" ∈ gtbl := gt_4 (List.mem_of_getElem? (i := 213) rfl) rfl
theorem q_lay_X11_high : Cond.lays RX11 "MovedFoldModel" "high" "I" ∈ gtbl := gt_4 (List.mem_of_getElem? (i := 215) rfl) rfl
theorem q_lay_X11_square : Cond.laysFinal RX11 "MovedFoldModel" "square" "[I" ∈ gtbl := gt_4 (List.mem_of_getElem? (i := 217) rfl) rfl
theorem q_lay_X11_hedges : Cond.lays RX11 "MovedFoldModel" "hedges" "J" ∈ gtbl := gt_4 (List.mem_of_getElem? (i := 219) rfl) rfl
theorem q_lay_X11_hurdles : Cond.lays RX11 "MovedFoldModel" "hurdles" "I" ∈ gtbl := gt_4 (List.mem_of_getElem? (i := 221) rfl) rfl
theorem q_lay_X11_wants : Cond.lays RX11 "MovedFoldModel" "wants" "I" ∈ gtbl := gt_4 (List.mem_of_getElem? (i := 223) rfl) rfl
theorem q_lay_X11_want : Cond.laysFinal RX11 "MovedFoldModel" "want" "[I" ∈ gtbl := gt_4 (List.mem_of_getElem? (i := 225) rfl) rfl
theorem q_lay_X11_rest : Cond.lays RX11 "MovedFoldModel" "rest" "I" ∈ gtbl := gt_4 (List.mem_of_getElem? (i := 227) rfl) rfl
theorem q_lay_X11_frozen : Cond.lays RX11 "MovedFoldModel" "frozen" "I" ∈ gtbl := gt_4 (List.mem_of_getElem? (i := 229) rfl) rfl
theorem q_lay_X11_bytes : Cond.lays RX11 "MovedFoldModel" "bytes" "I" ∈ gtbl := gt_4 (List.mem_of_getElem? (i := 231) rfl) rfl
theorem q_lay_X11_text : Cond.laysFinal RX11 "MovedFoldModel" "text" "[I" ∈ gtbl := gt_4 (List.mem_of_getElem? (i := 233) rfl) rfl
theorem q_lay_X11_position : Cond.lays RX11 "MovedFoldModel" "position" "I" ∈ gtbl := gt_4 (List.mem_of_getElem? (i := 235) rfl) rfl
theorem q_lay_X11_tokenAt : Cond.lays RX11 "MovedFoldModel" "tokenAt" "I" ∈ gtbl := gt_4 (List.mem_of_getElem? (i := 237) rfl) rfl
theorem q_lay_X11_token : Cond.lays RX11 "MovedFoldModel" "token" "J" ∈ gtbl := gt_4 (List.mem_of_getElem? (i := 239) rfl) rfl
theorem q_lay_X11_digits : Cond.lays RX11 "MovedFoldModel" "digits" "I" ∈ gtbl := gt_5 (List.mem_of_getElem? (i := 1) rfl) rfl
theorem q_lay_X11_number : Cond.lays RX11 "MovedFoldModel" "number" "I" ∈ gtbl := gt_5 (List.mem_of_getElem? (i := 3) rfl) rfl
theorem q_lay_X11_faultAt : Cond.lays RX11 "MovedFoldModel" "faultAt" "I" ∈ gtbl := gt_5 (List.mem_of_getElem? (i := 5) rfl) rfl
theorem q_lay_X11_readMany : Cond.lays RX11 "MovedFoldModel" "readMany" "I" ∈ gtbl := gt_5 (List.mem_of_getElem? (i := 7) rfl) rfl
theorem q_lay_X11_read : Cond.laysFinal RX11 "MovedFoldModel" "read" "[I" ∈ gtbl := gt_5 (List.mem_of_getElem? (i := 9) rfl) rfl
theorem q_lay_X11_readWide : Cond.lays RX11 "MovedFoldModel" "readWide" "I" ∈ gtbl := gt_5 (List.mem_of_getElem? (i := 11) rfl) rfl
theorem q_lay_X11_readHigh : Cond.lays RX11 "MovedFoldModel" "readHigh" "I" ∈ gtbl := gt_5 (List.mem_of_getElem? (i := 13) rfl) rfl
theorem q_lay_X11_nights : Cond.lays RX11 "MovedFoldModel" "nights" "I" ∈ gtbl := gt_5 (List.mem_of_getElem? (i := 15) rfl) rfl
theorem q_lay_X11_row : Cond.laysFinal RX11 "MovedFoldModel" "row" "[I" ∈ gtbl := gt_5 (List.mem_of_getElem? (i := 17) rfl) rfl
theorem q_lay_X11_why : Cond.lays RX11 "MovedFoldModel" "why" "I" ∈ gtbl := gt_5 (List.mem_of_getElem? (i := 19) rfl) rfl
theorem q_lay_X11_folds : Cond.lays RX11 "MovedFoldModel" "folds" "I" ∈ gtbl := gt_5 (List.mem_of_getElem? (i := 21) rfl) rfl
theorem q_lay_X11_foldSet : Cond.laysFinal RX11 "MovedFoldModel" "foldSet" "[I" ∈ gtbl := gt_5 (List.mem_of_getElem? (i := 23) rfl) rfl
theorem q_lay_X11_foldEdges : Cond.laysFinal RX11 "MovedFoldModel" "foldEdges" "[J" ∈ gtbl := gt_5 (List.mem_of_getElem? (i := 25) rfl) rfl
theorem q_lay_X11_foldNeeds : Cond.laysFinal RX11 "MovedFoldModel" "foldNeeds" "[I" ∈ gtbl := gt_5 (List.mem_of_getElem? (i := 27) rfl) rfl
theorem q_lay_X11_foldYards : Cond.laysFinal RX11 "MovedFoldModel" "foldYards" "[I" ∈ gtbl := gt_5 (List.mem_of_getElem? (i := 29) rfl) rfl
theorem q_lay_X11_least : Cond.laysFinal RX11 "MovedFoldModel" "least" "[I" ∈ gtbl := gt_5 (List.mem_of_getElem? (i := 31) rfl) rfl
theorem q_lay_X11_ways : Cond.laysFinal RX11 "MovedFoldModel" "ways" "[I" ∈ gtbl := gt_5 (List.mem_of_getElem? (i := 33) rfl) rfl
theorem q_lay_X11_price : Cond.laysFinal RX11 "MovedFoldModel" "price" "[I" ∈ gtbl := gt_5 (List.mem_of_getElem? (i := 35) rfl) rfl
theorem q_lay_X11_rowBy : Cond.laysFinal RX11 "MovedFoldModel" "rowBy" "[I" ∈ gtbl := gt_5 (List.mem_of_getElem? (i := 37) rfl) rfl
theorem q_lay_X11_columnBy : Cond.laysFinal RX11 "MovedFoldModel" "columnBy" "[I" ∈ gtbl := gt_5 (List.mem_of_getElem? (i := 39) rfl) rfl
theorem q_lay_X11_rowOf : Cond.laysFinal RX11 "MovedFoldModel" "rowOf" "[I" ∈ gtbl := gt_5 (List.mem_of_getElem? (i := 41) rfl) rfl
theorem q_lay_X11_wayBack : Cond.laysFinal RX11 "MovedFoldModel" "wayBack" "[I" ∈ gtbl := gt_5 (List.mem_of_getElem? (i := 43) rfl) rfl
theorem q_lay_X11_slack : Cond.laysFinal RX11 "MovedFoldModel" "slack" "[I" ∈ gtbl := gt_5 (List.mem_of_getElem? (i := 45) rfl) rfl
theorem q_lay_X11_isUsed : Cond.laysFinal RX11 "MovedFoldModel" "isUsed" "[Z" ∈ gtbl := gt_5 (List.mem_of_getElem? (i := 47) rfl) rfl
theorem q_lay_X11_lifted : Cond.laysFinal RX11 "MovedFoldModel" "lifted" "[I" ∈ gtbl := gt_5 (List.mem_of_getElem? (i := 49) rfl) rfl
theorem q_lay_X11_freed : Cond.laysFinal RX11 "MovedFoldModel" "freed" "[I" ∈ gtbl := gt_5 (List.mem_of_getElem? (i := 51) rfl) rfl
theorem q_lay_X11_path : Cond.laysFinal RX11 "MovedFoldModel" "path" "[I" ∈ gtbl := gt_5 (List.mem_of_getElem? (i := 53) rfl) rfl
theorem q_ml_L_19 : Cond.methodLink RL 19 yX11_write ∈ gtbl := gt_5 (List.mem_of_getElem? (i := 58) rfl) rfl
theorem q_inst_X11_write : Cond.instanceMethod yX11_write ∈ gtbl := gt_5 (List.mem_of_getElem? (i := 59) rfl) rfl
theorem q_sel_X11_write : Cond.selects RX11 yX11_write yX11_write ∈ gtbl := gt_5 (List.mem_of_getElem? (i := 60) rfl) rfl
theorem q_code_X11_write : Cond.code yX11_write cX11_write 5 (some (Jvm.ClassFile.FieldType.int)) ∈ gtbl := gt_5 (List.mem_of_getElem? (i := 61) rfl) rfl
theorem q_ml_X11_90 : Cond.methodLink RX11 90 yX11_in ∈ gtbl := gt_5 (List.mem_of_getElem? (i := 62) rfl) rfl
theorem q_stat_X11_in : Cond.static yX11_in ∈ gtbl := gt_5 (List.mem_of_getElem? (i := 63) rfl) rfl
theorem q_code_X11_in : Cond.code yX11_in cX11_in 3 (some (Jvm.ClassFile.FieldType.boolean)) ∈ gtbl := gt_5 (List.mem_of_getElem? (i := 64) rfl) rfl
theorem q_cl_X11_97 : Cond.constantLong RX11 97 (255) ∈ gtbl := gt_5 (List.mem_of_getElem? (i := 65) rfl) rfl
theorem q_ml_L_24 : Cond.methodLink RL 24 yX11_erase ∈ gtbl := gt_5 (List.mem_of_getElem? (i := 66) rfl) rfl
theorem q_inst_X11_erase : Cond.instanceMethod yX11_erase ∈ gtbl := gt_5 (List.mem_of_getElem? (i := 67) rfl) rfl
theorem q_sel_X11_erase : Cond.selects RX11 yX11_erase yX11_erase ∈ gtbl := gt_5 (List.mem_of_getElem? (i := 68) rfl) rfl
theorem q_code_X11_erase : Cond.code yX11_erase cX11_erase 2 (some (Jvm.ClassFile.FieldType.int)) ∈ gtbl := gt_5 (List.mem_of_getElem? (i := 69) rfl) rfl
theorem q_ml_L_28 : Cond.methodLink RL 28 yX11_fault ∈ gtbl := gt_5 (List.mem_of_getElem? (i := 70) rfl) rfl
theorem q_inst_X11_fault : Cond.instanceMethod yX11_fault ∈ gtbl := gt_5 (List.mem_of_getElem? (i := 71) rfl) rfl
theorem q_sel_X11_fault : Cond.selects RX11 yX11_fault yX11_fault ∈ gtbl := gt_5 (List.mem_of_getElem? (i := 72) rfl) rfl
theorem q_code_X11_fault : Cond.code yX11_fault cX11_fault 1 (some (Jvm.ClassFile.FieldType.int)) ∈ gtbl := gt_5 (List.mem_of_getElem? (i := 73) rfl) rfl
theorem q_ml_X11_192 : Cond.methodLink RX11 192 yX11_isRead ∈ gtbl := gt_5 (List.mem_of_getElem? (i := 74) rfl) rfl
theorem q_inst_X11_isRead : Cond.instanceMethod yX11_isRead ∈ gtbl := gt_5 (List.mem_of_getElem? (i := 76) rfl) rfl
theorem q_code_X11_isRead : Cond.code yX11_isRead cX11_isRead 2 (some (Jvm.ClassFile.FieldType.boolean)) ∈ gtbl := gt_5 (List.mem_of_getElem? (i := 77) rfl) rfl
theorem q_ml_X11_189 : Cond.methodLink RX11 189 yX11_isLine ∈ gtbl := gt_5 (List.mem_of_getElem? (i := 78) rfl) rfl
theorem q_inst_X11_isLine : Cond.instanceMethod yX11_isLine ∈ gtbl := gt_5 (List.mem_of_getElem? (i := 80) rfl) rfl
theorem q_code_X11_isLine : Cond.code yX11_isLine cX11_isLine 4 (some (Jvm.ClassFile.FieldType.boolean)) ∈ gtbl := gt_5 (List.mem_of_getElem? (i := 81) rfl) rfl
theorem q_ml_X11_130 : Cond.methodLink RX11 130 yX11_nextToken ∈ gtbl := gt_5 (List.mem_of_getElem? (i := 82) rfl) rfl
theorem q_inst_X11_nextToken : Cond.instanceMethod yX11_nextToken ∈ gtbl := gt_5 (List.mem_of_getElem? (i := 84) rfl) rfl
theorem q_code_X11_nextToken : Cond.code yX11_nextToken cX11_nextToken 1 none ∈ gtbl := gt_5 (List.mem_of_getElem? (i := 85) rfl) rfl
theorem q_cl_X11_111 : Cond.constantLong RX11 111 (-2) ∈ gtbl := gt_5 (List.mem_of_getElem? (i := 86) rfl) rfl
theorem q_cl_X11_117 : Cond.constantLong RX11 117 (27) ∈ gtbl := gt_5 (List.mem_of_getElem? (i := 87) rfl) rfl
theorem q_cl_X11_119 : Cond.constantLong RX11 119 (96) ∈ gtbl := gt_5 (List.mem_of_getElem? (i := 88) rfl) rfl
theorem q_cl_X11_121 : Cond.constantLong RX11 121 (-4) ∈ gtbl := gt_5 (List.mem_of_getElem? (i := 89) rfl) rfl
theorem q_cl_X11_123 : Cond.constantLong RX11 123 (-1) ∈ gtbl := gt_5 (List.mem_of_getElem? (i := 90) rfl) rfl
theorem q_cl_X11_125 : Cond.constantLong RX11 125 (-3) ∈ gtbl := gt_5 (List.mem_of_getElem? (i := 91) rfl) rfl
theorem q_cl_X11_158 : Cond.constantLong RX11 158 (3369766) ∈ gtbl := gt_5 (List.mem_of_getElem? (i := 92) rfl) rfl
theorem q_cl_X11_160 : Cond.constantLong RX11 160 (13318957) ∈ gtbl := gt_5 (List.mem_of_getElem? (i := 93) rfl) rfl
theorem q_cl_X11_162 : Cond.constantLong RX11 162 (326245) ∈ gtbl := gt_5 (List.mem_of_getElem? (i := 94) rfl) rfl
theorem q_cl_X11_164 : Cond.constantLong RX11 164 (237308) ∈ gtbl := gt_5 (List.mem_of_getElem? (i := 95) rfl) rfl
theorem q_cl_X11_166 : Cond.constantLong RX11 166 (4353053) ∈ gtbl := gt_5 (List.mem_of_getElem? (i := 96) rfl) rfl
theorem q_cl_X11_168 : Cond.constantLong RX11 168 (307058) ∈ gtbl := gt_5 (List.mem_of_getElem? (i := 97) rfl) rfl
theorem q_cl_X11_170 : Cond.constantLong RX11 170 (3410344531) ∈ gtbl := gt_5 (List.mem_of_getElem? (i := 98) rfl) rfl
theorem q_cl_X11_172 : Cond.constantLong RX11 172 (453836) ∈ gtbl := gt_5 (List.mem_of_getElem? (i := 99) rfl) rfl
theorem q_cl_X11_174 : Cond.constantLong RX11 174 (358472) ∈ gtbl := gt_5 (List.mem_of_getElem? (i := 100) rfl) rfl
theorem q_cl_X11_176 : Cond.constantLong RX11 176 (95973728) ∈ gtbl := gt_5 (List.mem_of_getElem? (i := 101) rfl) rfl
theorem q_cl_X11_178 : Cond.constantLong RX11 178 (399542) ∈ gtbl := gt_5 (List.mem_of_getElem? (i := 102) rfl) rfl
theorem q_ml_X11_180 : Cond.methodLink RX11 180 yX11_isField ∈ gtbl := gt_5 (List.mem_of_getElem? (i := 103) rfl) rfl
theorem q_inst_X11_isField : Cond.instanceMethod yX11_isField ∈ gtbl := gt_5 (List.mem_of_getElem? (i := 105) rfl) rfl
theorem q_code_X11_isField : Cond.code yX11_isField cX11_isField 2 (some (Jvm.ClassFile.FieldType.boolean)) ∈ gtbl := gt_5 (List.mem_of_getElem? (i := 106) rfl) rfl
theorem q_ml_X11_140 : Cond.methodLink RX11 140 yX11_isNumber ∈ gtbl := gt_5 (List.mem_of_getElem? (i := 107) rfl) rfl
theorem q_inst_X11_isNumber : Cond.instanceMethod yX11_isNumber ∈ gtbl := gt_5 (List.mem_of_getElem? (i := 109) rfl) rfl
theorem q_code_X11_isNumber : Cond.code yX11_isNumber cX11_isNumber 4 (some (Jvm.ClassFile.FieldType.boolean)) ∈ gtbl := gt_5 (List.mem_of_getElem? (i := 110) rfl) rfl
theorem q_ml_X11_133 : Cond.methodLink RX11 133 yX11_fails ∈ gtbl := gt_5 (List.mem_of_getElem? (i := 111) rfl) rfl
theorem q_inst_X11_fails : Cond.instanceMethod yX11_fails ∈ gtbl := gt_5 (List.mem_of_getElem? (i := 113) rfl) rfl
theorem q_code_X11_fails : Cond.code yX11_fails cX11_fails 1 (some (Jvm.ClassFile.FieldType.boolean)) ∈ gtbl := gt_5 (List.mem_of_getElem? (i := 114) rfl) rfl
theorem q_ml_X11_146 : Cond.methodLink RX11 146 yX11_isPlace ∈ gtbl := gt_5 (List.mem_of_getElem? (i := 115) rfl) rfl
theorem q_inst_X11_isPlace : Cond.instanceMethod yX11_isPlace ∈ gtbl := gt_5 (List.mem_of_getElem? (i := 117) rfl) rfl
theorem q_code_X11_isPlace : Cond.code yX11_isPlace cX11_isPlace 2 (some (Jvm.ClassFile.FieldType.boolean)) ∈ gtbl := gt_5 (List.mem_of_getElem? (i := 118) rfl) rfl
theorem q_ml_X11_183 : Cond.methodLink RX11 183 yX11_isHedge ∈ gtbl := gt_5 (List.mem_of_getElem? (i := 119) rfl) rfl
theorem q_inst_X11_isHedge : Cond.instanceMethod yX11_isHedge ∈ gtbl := gt_5 (List.mem_of_getElem? (i := 121) rfl) rfl
theorem q_code_X11_isHedge : Cond.code yX11_isHedge cX11_isHedge 2 (some (Jvm.ClassFile.FieldType.boolean)) ∈ gtbl := gt_5 (List.mem_of_getElem? (i := 122) rfl) rfl
theorem q_cl_X11_150 : Cond.constantLong RX11 150 (240023) ∈ gtbl := gt_5 (List.mem_of_getElem? (i := 123) rfl) rfl
theorem q_cl_X11_152 : Cond.constantLong RX11 152 (9748424) ∈ gtbl := gt_5 (List.mem_of_getElem? (i := 124) rfl) rfl
theorem q_cl_X11_154 : Cond.constantLong RX11 154 (583) ∈ gtbl := gt_5 (List.mem_of_getElem? (i := 125) rfl) rfl
theorem q_cl_X11_156 : Cond.constantLong RX11 156 (90302) ∈ gtbl := gt_5 (List.mem_of_getElem? (i := 126) rfl) rfl
theorem q_ml_L_32 : Cond.methodLink RL 32 yX11_field ∈ gtbl := gt_5 (List.mem_of_getElem? (i := 127) rfl) rfl
theorem q_inst_X11_field : Cond.instanceMethod yX11_field ∈ gtbl := gt_5 (List.mem_of_getElem? (i := 128) rfl) rfl
theorem q_sel_X11_field : Cond.selects RX11 yX11_field yX11_field ∈ gtbl := gt_5 (List.mem_of_getElem? (i := 129) rfl) rfl
theorem q_code_X11_field : Cond.code yX11_field cX11_field 2 (some (Jvm.ClassFile.FieldType.int)) ∈ gtbl := gt_5 (List.mem_of_getElem? (i := 130) rfl) rfl
theorem q_ml_X11_218 : Cond.methodLink RX11 218 yX11_doLine ∈ gtbl := gt_5 (List.mem_of_getElem? (i := 131) rfl) rfl
theorem q_inst_X11_doLine : Cond.instanceMethod yX11_doLine ∈ gtbl := gt_5 (List.mem_of_getElem? (i := 133) rfl) rfl
theorem q_code_X11_doLine : Cond.code yX11_doLine cX11_doLine 4 none ∈ gtbl := gt_5 (List.mem_of_getElem? (i := 134) rfl) rfl
theorem q_ml_X11_201 : Cond.methodLink RX11 201 yX11_edgeAt ∈ gtbl := gt_5 (List.mem_of_getElem? (i := 135) rfl) rfl
theorem q_inst_X11_edgeAt : Cond.instanceMethod yX11_edgeAt ∈ gtbl := gt_5 (List.mem_of_getElem? (i := 137) rfl) rfl
theorem q_code_X11_edgeAt : Cond.code yX11_edgeAt cX11_edgeAt 5 (some (Jvm.ClassFile.FieldType.int)) ∈ gtbl := gt_5 (List.mem_of_getElem? (i := 138) rfl) rfl
theorem q_ml_X11_205 : Cond.methodLink RX11 205 yX11_doNight ∈ gtbl := gt_5 (List.mem_of_getElem? (i := 139) rfl) rfl
theorem q_inst_X11_doNight : Cond.instanceMethod yX11_doNight ∈ gtbl := gt_5 (List.mem_of_getElem? (i := 141) rfl) rfl
theorem q_code_X11_doNight : Cond.code yX11_doNight cX11_doNight 3 none ∈ gtbl := gt_5 (List.mem_of_getElem? (i := 142) rfl) rfl
theorem q_ml_L_37 : Cond.methodLink RL 37 yX11_square ∈ gtbl := gt_5 (List.mem_of_getElem? (i := 143) rfl) rfl
theorem q_inst_X11_square : Cond.instanceMethod yX11_square ∈ gtbl := gt_5 (List.mem_of_getElem? (i := 144) rfl) rfl
theorem q_sel_X11_square : Cond.selects RX11 yX11_square yX11_square ∈ gtbl := gt_5 (List.mem_of_getElem? (i := 145) rfl) rfl
theorem q_code_X11_square : Cond.code yX11_square cX11_square 2 (some (Jvm.ClassFile.FieldType.int)) ∈ gtbl := gt_5 (List.mem_of_getElem? (i := 146) rfl) rfl
theorem q_ml_X11_86 : Cond.methodLink RX11 86 yX11_squares ∈ gtbl := gt_5 (List.mem_of_getElem? (i := 147) rfl) rfl
theorem q_inst_X11_squares : Cond.instanceMethod yX11_squares ∈ gtbl := gt_5 (List.mem_of_getElem? (i := 149) rfl) rfl
theorem q_code_X11_squares : Cond.code yX11_squares cX11_squares 1 (some (Jvm.ClassFile.FieldType.int)) ∈ gtbl := gt_5 (List.mem_of_getElem? (i := 150) rfl) rfl
theorem q_ml_L_41 : Cond.methodLink RL 41 yX11_hedge ∈ gtbl := gt_5 (List.mem_of_getElem? (i := 151) rfl) rfl
theorem q_inst_X11_hedge : Cond.instanceMethod yX11_hedge ∈ gtbl := gt_5 (List.mem_of_getElem? (i := 152) rfl) rfl
theorem q_sel_X11_hedge : Cond.selects RX11 yX11_hedge yX11_hedge ∈ gtbl := gt_5 (List.mem_of_getElem? (i := 153) rfl) rfl
theorem q_code_X11_hedge : Cond.code yX11_hedge cX11_hedge 2 (some (Jvm.ClassFile.FieldType.int)) ∈ gtbl := gt_5 (List.mem_of_getElem? (i := 154) rfl) rfl
theorem q_ml_X11_221 : Cond.methodLink RX11 221 yX11_edgeMany ∈ gtbl := gt_5 (List.mem_of_getElem? (i := 155) rfl) rfl
theorem q_inst_X11_edgeMany : Cond.instanceMethod yX11_edgeMany ∈ gtbl := gt_5 (List.mem_of_getElem? (i := 157) rfl) rfl
theorem q_code_X11_edgeMany : Cond.code yX11_edgeMany cX11_edgeMany 1 (some (Jvm.ClassFile.FieldType.int)) ∈ gtbl := gt_5 (List.mem_of_getElem? (i := 158) rfl) rfl
theorem q_ml_L_46 : Cond.methodLink RL 46 yX11_night ∈ gtbl := gt_5 (List.mem_of_getElem? (i := 159) rfl) rfl
theorem q_inst_X11_night : Cond.instanceMethod yX11_night ∈ gtbl := gt_5 (List.mem_of_getElem? (i := 160) rfl) rfl
theorem q_sel_X11_night : Cond.selects RX11 yX11_night yX11_night ∈ gtbl := gt_5 (List.mem_of_getElem? (i := 161) rfl) rfl
theorem q_code_X11_night : Cond.code yX11_night cX11_night 3 (some (Jvm.ClassFile.FieldType.int)) ∈ gtbl := gt_5 (List.mem_of_getElem? (i := 162) rfl) rfl
theorem q_ml_X11_224 : Cond.methodLink RX11 224 yX11_wantOf ∈ gtbl := gt_5 (List.mem_of_getElem? (i := 163) rfl) rfl
theorem q_inst_X11_wantOf : Cond.instanceMethod yX11_wantOf ∈ gtbl := gt_5 (List.mem_of_getElem? (i := 165) rfl) rfl
theorem q_code_X11_wantOf : Cond.code yX11_wantOf cX11_wantOf 2 (some (Jvm.ClassFile.FieldType.int)) ∈ gtbl := gt_5 (List.mem_of_getElem? (i := 166) rfl) rfl
theorem q_ml_L_50 : Cond.methodLink RL 50 yX11_sides ∈ gtbl := gt_5 (List.mem_of_getElem? (i := 167) rfl) rfl
theorem q_inst_X11_sides : Cond.instanceMethod yX11_sides ∈ gtbl := gt_5 (List.mem_of_getElem? (i := 168) rfl) rfl
theorem q_sel_X11_sides : Cond.selects RX11 yX11_sides yX11_sides ∈ gtbl := gt_5 (List.mem_of_getElem? (i := 169) rfl) rfl
theorem q_code_X11_sides : Cond.code yX11_sides cX11_sides 2 (some (Jvm.ClassFile.FieldType.int)) ∈ gtbl := gt_5 (List.mem_of_getElem? (i := 170) rfl) rfl
theorem q_ml_X11_231 : Cond.methodLink RX11 231 yX11_isSet ∈ gtbl := gt_5 (List.mem_of_getElem? (i := 171) rfl) rfl
theorem q_inst_X11_isSet : Cond.instanceMethod yX11_isSet ∈ gtbl := gt_5 (List.mem_of_getElem? (i := 173) rfl) rfl
theorem q_code_X11_isSet : Cond.code yX11_isSet cX11_isSet 2 (some (Jvm.ClassFile.FieldType.boolean)) ∈ gtbl := gt_5 (List.mem_of_getElem? (i := 174) rfl) rfl
theorem q_ml_X11_237 : Cond.methodLink RX11 237 yX11_isFold ∈ gtbl := gt_5 (List.mem_of_getElem? (i := 175) rfl) rfl
theorem q_inst_X11_isFold : Cond.instanceMethod yX11_isFold ∈ gtbl := gt_5 (List.mem_of_getElem? (i := 177) rfl) rfl
theorem q_code_X11_isFold : Cond.code yX11_isFold cX11_isFold 4 (some (Jvm.ClassFile.FieldType.boolean)) ∈ gtbl := gt_5 (List.mem_of_getElem? (i := 178) rfl) rfl
theorem q_ml_X11_234 : Cond.methodLink RX11 234 yX11_besides ∈ gtbl := gt_5 (List.mem_of_getElem? (i := 179) rfl) rfl
theorem q_inst_X11_besides : Cond.instanceMethod yX11_besides ∈ gtbl := gt_5 (List.mem_of_getElem? (i := 181) rfl) rfl
theorem q_code_X11_besides : Cond.code yX11_besides cX11_besides 6 (some (Jvm.ClassFile.FieldType.int)) ∈ gtbl := gt_5 (List.mem_of_getElem? (i := 182) rfl) rfl
theorem q_ml_X11_228 : Cond.methodLink RX11 228 yX11_besideOf ∈ gtbl := gt_5 (List.mem_of_getElem? (i := 183) rfl) rfl
theorem q_inst_X11_besideOf : Cond.instanceMethod yX11_besideOf ∈ gtbl := gt_5 (List.mem_of_getElem? (i := 185) rfl) rfl
theorem q_code_X11_besideOf : Cond.code yX11_besideOf cX11_besideOf 5 (some (Jvm.ClassFile.FieldType.int)) ∈ gtbl := gt_5 (List.mem_of_getElem? (i := 186) rfl) rfl
theorem q_ml_X11_240 : Cond.methodLink RX11 240 yX11_edgesOf ∈ gtbl := gt_5 (List.mem_of_getElem? (i := 187) rfl) rfl
theorem q_inst_X11_edgesOf : Cond.instanceMethod yX11_edgesOf ∈ gtbl := gt_5 (List.mem_of_getElem? (i := 189) rfl) rfl
theorem q_code_X11_edgesOf : Cond.code yX11_edgesOf cX11_edgesOf 11 (some (Jvm.ClassFile.FieldType.long)) ∈ gtbl := gt_5 (List.mem_of_getElem? (i := 190) rfl) rfl
theorem q_ml_X11_244 : Cond.methodLink RX11 244 yX11_bits ∈ gtbl := gt_5 (List.mem_of_getElem? (i := 191) rfl) rfl
theorem q_stat_X11_bits : Cond.static yX11_bits ∈ gtbl := gt_5 (List.mem_of_getElem? (i := 192) rfl) rfl
theorem q_code_X11_bits : Cond.code yX11_bits cX11_bits 5 (some (Jvm.ClassFile.FieldType.int)) ∈ gtbl := gt_5 (List.mem_of_getElem? (i := 193) rfl) rfl
theorem q_ml_L_55 : Cond.methodLink RL 55 yX11_edges ∈ gtbl := gt_5 (List.mem_of_getElem? (i := 194) rfl) rfl
theorem q_inst_X11_edges : Cond.instanceMethod yX11_edges ∈ gtbl := gt_5 (List.mem_of_getElem? (i := 195) rfl) rfl
theorem q_sel_X11_edges : Cond.selects RX11 yX11_edges yX11_edges ∈ gtbl := gt_5 (List.mem_of_getElem? (i := 196) rfl) rfl
theorem q_code_X11_edges : Cond.code yX11_edges cX11_edges 2 (some (Jvm.ClassFile.FieldType.long)) ∈ gtbl := gt_5 (List.mem_of_getElem? (i := 197) rfl) rfl
theorem q_ml_L_59 : Cond.methodLink RL 59 yX11_yards ∈ gtbl := gt_5 (List.mem_of_getElem? (i := 198) rfl) rfl
theorem q_inst_X11_yards : Cond.instanceMethod yX11_yards ∈ gtbl := gt_5 (List.mem_of_getElem? (i := 199) rfl) rfl
theorem q_sel_X11_yards : Cond.selects RX11 yX11_yards yX11_yards ∈ gtbl := gt_5 (List.mem_of_getElem? (i := 200) rfl) rfl
theorem q_code_X11_yards : Cond.code yX11_yards cX11_yards 2 (some (Jvm.ClassFile.FieldType.int)) ∈ gtbl := gt_5 (List.mem_of_getElem? (i := 201) rfl) rfl
theorem q_ml_X11_248 : Cond.methodLink RX11 248 yX11_yardsOf ∈ gtbl := gt_5 (List.mem_of_getElem? (i := 202) rfl) rfl
theorem q_inst_X11_yardsOf : Cond.instanceMethod yX11_yardsOf ∈ gtbl := gt_5 (List.mem_of_getElem? (i := 204) rfl) rfl
theorem q_code_X11_yardsOf : Cond.code yX11_yardsOf cX11_yardsOf 4 (some (Jvm.ClassFile.FieldType.int)) ∈ gtbl := gt_5 (List.mem_of_getElem? (i := 205) rfl) rfl
theorem q_ml_L_63 : Cond.methodLink RL 63 yX11_fold ∈ gtbl := gt_5 (List.mem_of_getElem? (i := 206) rfl) rfl
theorem q_inst_X11_fold : Cond.instanceMethod yX11_fold ∈ gtbl := gt_5 (List.mem_of_getElem? (i := 207) rfl) rfl
theorem q_sel_X11_fold : Cond.selects RX11 yX11_fold yX11_fold ∈ gtbl := gt_5 (List.mem_of_getElem? (i := 208) rfl) rfl
theorem q_code_X11_fold : Cond.code yX11_fold cX11_fold 2 (some (Jvm.ClassFile.FieldType.int)) ∈ gtbl := gt_5 (List.mem_of_getElem? (i := 209) rfl) rfl
theorem q_ml_L_67 : Cond.methodLink RL 67 yX11_clear ∈ gtbl := gt_5 (List.mem_of_getElem? (i := 210) rfl) rfl
theorem q_inst_X11_clear : Cond.instanceMethod yX11_clear ∈ gtbl := gt_5 (List.mem_of_getElem? (i := 211) rfl) rfl
theorem q_sel_X11_clear : Cond.selects RX11 yX11_clear yX11_clear ∈ gtbl := gt_5 (List.mem_of_getElem? (i := 212) rfl) rfl
theorem q_code_X11_clear : Cond.code yX11_clear cX11_clear 2 (some (Jvm.ClassFile.FieldType.int)) ∈ gtbl := gt_5 (List.mem_of_getElem? (i := 213) rfl) rfl
theorem q_ml_L_71 : Cond.methodLink RL 71 yX11_judge ∈ gtbl := gt_5 (List.mem_of_getElem? (i := 214) rfl) rfl
theorem q_inst_X11_judge : Cond.instanceMethod yX11_judge ∈ gtbl := gt_5 (List.mem_of_getElem? (i := 215) rfl) rfl
theorem q_sel_X11_judge : Cond.selects RX11 yX11_judge yX11_judge ∈ gtbl := gt_5 (List.mem_of_getElem? (i := 216) rfl) rfl
theorem q_code_X11_judge : Cond.code yX11_judge cX11_judge 1 (some (Jvm.ClassFile.FieldType.int)) ∈ gtbl := gt_5 (List.mem_of_getElem? (i := 217) rfl) rfl
theorem q_ml_X11_260 : Cond.methodLink RX11 260 yX11_judged ∈ gtbl := gt_5 (List.mem_of_getElem? (i := 218) rfl) rfl
theorem q_inst_X11_judged : Cond.instanceMethod yX11_judged ∈ gtbl := gt_5 (List.mem_of_getElem? (i := 220) rfl) rfl
theorem q_code_X11_judged : Cond.code yX11_judged cX11_judged 2 (some (Jvm.ClassFile.FieldType.int)) ∈ gtbl := gt_5 (List.mem_of_getElem? (i := 221) rfl) rfl
theorem q_ml_X11_257 : Cond.methodLink RX11 257 yX11_wrongOf ∈ gtbl := gt_5 (List.mem_of_getElem? (i := 222) rfl) rfl
theorem q_inst_X11_wrongOf : Cond.instanceMethod yX11_wrongOf ∈ gtbl := gt_5 (List.mem_of_getElem? (i := 224) rfl) rfl
theorem q_code_X11_wrongOf : Cond.code yX11_wrongOf cX11_wrongOf 3 (some (Jvm.ClassFile.FieldType.int)) ∈ gtbl := gt_5 (List.mem_of_getElem? (i := 225) rfl) rfl
theorem q_ml_X11_251 : Cond.methodLink RX11 251 yX11_isFresh ∈ gtbl := gt_5 (List.mem_of_getElem? (i := 226) rfl) rfl
theorem q_inst_X11_isFresh : Cond.instanceMethod yX11_isFresh ∈ gtbl := gt_5 (List.mem_of_getElem? (i := 228) rfl) rfl
theorem q_code_X11_isFresh : Cond.code yX11_isFresh cX11_isFresh 4 (some (Jvm.ClassFile.FieldType.boolean)) ∈ gtbl := gt_5 (List.mem_of_getElem? (i := 229) rfl) rfl
theorem q_ml_L_75 : Cond.methodLink RL 75 yX11_why ∈ gtbl := gt_5 (List.mem_of_getElem? (i := 230) rfl) rfl
theorem q_inst_X11_why : Cond.instanceMethod yX11_why ∈ gtbl := gt_5 (List.mem_of_getElem? (i := 231) rfl) rfl
theorem q_sel_X11_why : Cond.selects RX11 yX11_why yX11_why ∈ gtbl := gt_5 (List.mem_of_getElem? (i := 232) rfl) rfl
theorem q_code_X11_why : Cond.code yX11_why cX11_why 2 (some (Jvm.ClassFile.FieldType.int)) ∈ gtbl := gt_5 (List.mem_of_getElem? (i := 233) rfl) rfl
theorem q_ml_L_79 : Cond.methodLink RL 79 yX11_moved ∈ gtbl := gt_5 (List.mem_of_getElem? (i := 234) rfl) rfl
theorem q_inst_X11_moved : Cond.instanceMethod yX11_moved ∈ gtbl := gt_5 (List.mem_of_getElem? (i := 235) rfl) rfl
theorem q_sel_X11_moved : Cond.selects RX11 yX11_moved yX11_moved ∈ gtbl := gt_5 (List.mem_of_getElem? (i := 236) rfl) rfl
theorem q_code_X11_moved : Cond.code yX11_moved cX11_moved 7 (some (Jvm.ClassFile.FieldType.int)) ∈ gtbl := gt_5 (List.mem_of_getElem? (i := 237) rfl) rfl
theorem q_ml_X11_280 : Cond.methodLink RX11 280 yX11_carried ∈ gtbl := gt_5 (List.mem_of_getElem? (i := 238) rfl) rfl
theorem q_inst_X11_carried : Cond.instanceMethod yX11_carried ∈ gtbl := gt_6 (List.mem_of_getElem? (i := 0) rfl) rfl
theorem q_code_X11_carried : Cond.code yX11_carried cX11_carried 11 (some (Jvm.ClassFile.FieldType.int)) ∈ gtbl := gt_6 (List.mem_of_getElem? (i := 1) rfl) rfl
theorem q_ml_X11_268 : Cond.methodLink RX11 268 yX11_edgeX ∈ gtbl := gt_6 (List.mem_of_getElem? (i := 2) rfl) rfl
theorem q_inst_X11_edgeX : Cond.instanceMethod yX11_edgeX ∈ gtbl := gt_6 (List.mem_of_getElem? (i := 4) rfl) rfl
theorem q_code_X11_edgeX : Cond.code yX11_edgeX cX11_edgeX 3 (some (Jvm.ClassFile.FieldType.int)) ∈ gtbl := gt_6 (List.mem_of_getElem? (i := 5) rfl) rfl
theorem q_ml_X11_271 : Cond.methodLink RX11 271 yX11_edgeY ∈ gtbl := gt_6 (List.mem_of_getElem? (i := 6) rfl) rfl
theorem q_inst_X11_edgeY : Cond.instanceMethod yX11_edgeY ∈ gtbl := gt_6 (List.mem_of_getElem? (i := 8) rfl) rfl
theorem q_code_X11_edgeY : Cond.code yX11_edgeY cX11_edgeY 3 (some (Jvm.ClassFile.FieldType.int)) ∈ gtbl := gt_6 (List.mem_of_getElem? (i := 9) rfl) rfl
theorem q_ml_X11_274 : Cond.methodLink RX11 274 yX11_apart ∈ gtbl := gt_6 (List.mem_of_getElem? (i := 10) rfl) rfl
theorem q_stat_X11_apart : Cond.static yX11_apart ∈ gtbl := gt_6 (List.mem_of_getElem? (i := 11) rfl) rfl
theorem q_code_X11_apart : Cond.code yX11_apart cX11_apart 2 (some (Jvm.ClassFile.FieldType.int)) ∈ gtbl := gt_6 (List.mem_of_getElem? (i := 12) rfl) rfl
theorem q_ml_X11_277 : Cond.methodLink RX11 277 yX11_leastPrice ∈ gtbl := gt_6 (List.mem_of_getElem? (i := 13) rfl) rfl
theorem q_inst_X11_leastPrice : Cond.instanceMethod yX11_leastPrice ∈ gtbl := gt_6 (List.mem_of_getElem? (i := 15) rfl) rfl
theorem q_code_X11_leastPrice : Cond.code yX11_leastPrice cX11_leastPrice 5 (some (Jvm.ClassFile.FieldType.int)) ∈ gtbl := gt_6 (List.mem_of_getElem? (i := 16) rfl) rfl
theorem q_ml_X11_263 : Cond.methodLink RX11 263 yX11_place ∈ gtbl := gt_6 (List.mem_of_getElem? (i := 17) rfl) rfl
theorem q_inst_X11_place : Cond.instanceMethod yX11_place ∈ gtbl := gt_6 (List.mem_of_getElem? (i := 19) rfl) rfl
theorem q_code_X11_place : Cond.code yX11_place cX11_place 9 none ∈ gtbl := gt_6 (List.mem_of_getElem? (i := 20) rfl) rfl
theorem q_c_X11_267 : Cond.constant RX11 267 (100000) ∈ gtbl := gt_6 (List.mem_of_getElem? (i := 21) rfl) rfl
theorem q_ml_L_83 : Cond.methodLink RL 83 yX11_few ∈ gtbl := gt_6 (List.mem_of_getElem? (i := 22) rfl) rfl
theorem q_inst_X11_few : Cond.instanceMethod yX11_few ∈ gtbl := gt_6 (List.mem_of_getElem? (i := 23) rfl) rfl
theorem q_sel_X11_few : Cond.selects RX11 yX11_few yX11_few ∈ gtbl := gt_6 (List.mem_of_getElem? (i := 24) rfl) rfl
theorem q_code_X11_few : Cond.code yX11_few cX11_few 5 (some (Jvm.ClassFile.FieldType.int)) ∈ gtbl := gt_6 (List.mem_of_getElem? (i := 25) rfl) rfl
theorem q_ml_X11_287 : Cond.methodLink RX11 287 yX11_findFolds ∈ gtbl := gt_6 (List.mem_of_getElem? (i := 26) rfl) rfl
theorem q_inst_X11_findFolds : Cond.instanceMethod yX11_findFolds ∈ gtbl := gt_6 (List.mem_of_getElem? (i := 28) rfl) rfl
theorem q_code_X11_findFolds : Cond.code yX11_findFolds cX11_findFolds 2 none ∈ gtbl := gt_6 (List.mem_of_getElem? (i := 29) rfl) rfl
theorem q_ml_L_88 : Cond.methodLink RL 88 yX11_two ∈ gtbl := gt_6 (List.mem_of_getElem? (i := 30) rfl) rfl
theorem q_inst_X11_two : Cond.instanceMethod yX11_two ∈ gtbl := gt_6 (List.mem_of_getElem? (i := 31) rfl) rfl
theorem q_sel_X11_two : Cond.selects RX11 yX11_two yX11_two ∈ gtbl := gt_6 (List.mem_of_getElem? (i := 32) rfl) rfl
theorem q_code_X11_two : Cond.code yX11_two cX11_two 10 (some (Jvm.ClassFile.FieldType.int)) ∈ gtbl := gt_6 (List.mem_of_getElem? (i := 33) rfl) rfl
theorem q_ml_L_92 : Cond.methodLink RL 92 yX11_fewest ∈ gtbl := gt_6 (List.mem_of_getElem? (i := 34) rfl) rfl
theorem q_inst_X11_fewest : Cond.instanceMethod yX11_fewest ∈ gtbl := gt_6 (List.mem_of_getElem? (i := 35) rfl) rfl
theorem q_sel_X11_fewest : Cond.selects RX11 yX11_fewest yX11_fewest ∈ gtbl := gt_6 (List.mem_of_getElem? (i := 36) rfl) rfl
theorem q_code_X11_fewest : Cond.code yX11_fewest cX11_fewest 2 (some (Jvm.ClassFile.FieldType.int)) ∈ gtbl := gt_6 (List.mem_of_getElem? (i := 37) rfl) rfl
theorem q_ml_X11_303 : Cond.methodLink RX11 303 yX11_fewestOf ∈ gtbl := gt_6 (List.mem_of_getElem? (i := 38) rfl) rfl
theorem q_inst_X11_fewestOf : Cond.instanceMethod yX11_fewestOf ∈ gtbl := gt_6 (List.mem_of_getElem? (i := 40) rfl) rfl
theorem q_code_X11_fewestOf : Cond.code yX11_fewestOf cX11_fewestOf 5 (some (Jvm.ClassFile.FieldType.int)) ∈ gtbl := gt_6 (List.mem_of_getElem? (i := 41) rfl) rfl
theorem q_ml_X11_299 : Cond.methodLink RX11 299 yX11_layCourses ∈ gtbl := gt_6 (List.mem_of_getElem? (i := 42) rfl) rfl
theorem q_inst_X11_layCourses : Cond.instanceMethod yX11_layCourses ∈ gtbl := gt_6 (List.mem_of_getElem? (i := 44) rfl) rfl
theorem q_code_X11_layCourses : Cond.code yX11_layCourses cX11_layCourses 9 none ∈ gtbl := gt_6 (List.mem_of_getElem? (i := 45) rfl) rfl
theorem q_ml_X11_290 : Cond.methodLink RX11 290 yX11_rich ∈ gtbl := gt_6 (List.mem_of_getElem? (i := 46) rfl) rfl
theorem q_inst_X11_rich : Cond.instanceMethod yX11_rich ∈ gtbl := gt_6 (List.mem_of_getElem? (i := 48) rfl) rfl
theorem q_code_X11_rich : Cond.code yX11_rich cX11_rich 3 (some (Jvm.ClassFile.FieldType.int)) ∈ gtbl := gt_6 (List.mem_of_getElem? (i := 49) rfl) rfl
theorem q_ml_X11_293 : Cond.methodLink RX11 293 yX11_goOn ∈ gtbl := gt_6 (List.mem_of_getElem? (i := 50) rfl) rfl
theorem q_inst_X11_goOn : Cond.instanceMethod yX11_goOn ∈ gtbl := gt_6 (List.mem_of_getElem? (i := 52) rfl) rfl
theorem q_code_X11_goOn : Cond.code yX11_goOn cX11_goOn 12 none ∈ gtbl := gt_6 (List.mem_of_getElem? (i := 53) rfl) rfl
theorem q_cl_X11_297 : Cond.constantLong RX11 297 (1000000007) ∈ gtbl := gt_6 (List.mem_of_getElem? (i := 54) rfl) rfl
theorem q_ml_L_96 : Cond.methodLink RL 96 yX11_best ∈ gtbl := gt_6 (List.mem_of_getElem? (i := 55) rfl) rfl
theorem q_inst_X11_best : Cond.instanceMethod yX11_best ∈ gtbl := gt_6 (List.mem_of_getElem? (i := 56) rfl) rfl
theorem q_sel_X11_best : Cond.selects RX11 yX11_best yX11_best ∈ gtbl := gt_6 (List.mem_of_getElem? (i := 57) rfl) rfl
theorem q_code_X11_best : Cond.code yX11_best cX11_best 6 (some (Jvm.ClassFile.FieldType.int)) ∈ gtbl := gt_6 (List.mem_of_getElem? (i := 58) rfl) rfl
theorem q_ml_X11_309 : Cond.methodLink RX11 309 yX11_leastLifted ∈ gtbl := gt_6 (List.mem_of_getElem? (i := 59) rfl) rfl
theorem q_inst_X11_leastLifted : Cond.instanceMethod yX11_leastLifted ∈ gtbl := gt_6 (List.mem_of_getElem? (i := 61) rfl) rfl
theorem q_code_X11_leastLifted : Cond.code yX11_leastLifted cX11_leastLifted 6 (some (Jvm.ClassFile.FieldType.int)) ∈ gtbl := gt_6 (List.mem_of_getElem? (i := 62) rfl) rfl
theorem q_ml_X11_312 : Cond.methodLink RX11 312 yX11_walk ∈ gtbl := gt_6 (List.mem_of_getElem? (i := 63) rfl) rfl
theorem q_inst_X11_walk : Cond.instanceMethod yX11_walk ∈ gtbl := gt_6 (List.mem_of_getElem? (i := 65) rfl) rfl
theorem q_code_X11_walk : Cond.code yX11_walk cX11_walk 9 (some (Jvm.ClassFile.FieldType.int)) ∈ gtbl := gt_6 (List.mem_of_getElem? (i := 66) rfl) rfl
theorem q_ml_X11_306 : Cond.methodLink RX11 306 yX11_canFollow ∈ gtbl := gt_6 (List.mem_of_getElem? (i := 67) rfl) rfl
theorem q_inst_X11_canFollow : Cond.instanceMethod yX11_canFollow ∈ gtbl := gt_6 (List.mem_of_getElem? (i := 69) rfl) rfl
theorem q_code_X11_canFollow : Cond.code yX11_canFollow cX11_canFollow 4 (some (Jvm.ClassFile.FieldType.boolean)) ∈ gtbl := gt_6 (List.mem_of_getElem? (i := 70) rfl) rfl
theorem q_ml_L_100 : Cond.methodLink RL 100 yX11_courses ∈ gtbl := gt_6 (List.mem_of_getElem? (i := 71) rfl) rfl
theorem q_inst_X11_courses : Cond.instanceMethod yX11_courses ∈ gtbl := gt_6 (List.mem_of_getElem? (i := 72) rfl) rfl
theorem q_sel_X11_courses : Cond.selects RX11 yX11_courses yX11_courses ∈ gtbl := gt_6 (List.mem_of_getElem? (i := 73) rfl) rfl
theorem q_code_X11_courses : Cond.code yX11_courses cX11_courses 6 (some (Jvm.ClassFile.FieldType.int)) ∈ gtbl := gt_6 (List.mem_of_getElem? (i := 74) rfl) rfl
theorem q_ml_L_104 : Cond.methodLink RL 104 yX11_round ∈ gtbl := gt_6 (List.mem_of_getElem? (i := 75) rfl) rfl
theorem q_inst_X11_round : Cond.instanceMethod yX11_round ∈ gtbl := gt_6 (List.mem_of_getElem? (i := 76) rfl) rfl
theorem q_sel_X11_round : Cond.selects RX11 yX11_round yX11_round ∈ gtbl := gt_6 (List.mem_of_getElem? (i := 77) rfl) rfl
theorem q_code_X11_round : Cond.code yX11_round cX11_round 5 (some (Jvm.ClassFile.FieldType.int)) ∈ gtbl := gt_6 (List.mem_of_getElem? (i := 78) rfl) rfl
theorem q_ml_L_108 : Cond.methodLink RL 108 yX11_broken ∈ gtbl := gt_6 (List.mem_of_getElem? (i := 79) rfl) rfl
theorem q_inst_X11_broken : Cond.instanceMethod yX11_broken ∈ gtbl := gt_6 (List.mem_of_getElem? (i := 80) rfl) rfl
theorem q_sel_X11_broken : Cond.selects RX11 yX11_broken yX11_broken ∈ gtbl := gt_6 (List.mem_of_getElem? (i := 81) rfl) rfl
theorem q_code_X11_broken : Cond.code yX11_broken cX11_broken 5 (some (Jvm.ClassFile.FieldType.int)) ∈ gtbl := gt_6 (List.mem_of_getElem? (i := 82) rfl) rfl
theorem q_ml_L_113 : Cond.methodLink RL 113 yX11_goes ∈ gtbl := gt_6 (List.mem_of_getElem? (i := 83) rfl) rfl
theorem q_inst_X11_goes : Cond.instanceMethod yX11_goes ∈ gtbl := gt_6 (List.mem_of_getElem? (i := 84) rfl) rfl
theorem q_sel_X11_goes : Cond.selects RX11 yX11_goes yX11_goes ∈ gtbl := gt_6 (List.mem_of_getElem? (i := 85) rfl) rfl
theorem q_code_X11_goes : Cond.code yX11_goes cX11_goes 12 (some (Jvm.ClassFile.FieldType.int)) ∈ gtbl := gt_6 (List.mem_of_getElem? (i := 86) rfl) rfl
theorem q_ml_X11_315 : Cond.methodLink RX11 315 yX11_laySnail ∈ gtbl := gt_6 (List.mem_of_getElem? (i := 87) rfl) rfl
theorem q_inst_X11_laySnail : Cond.instanceMethod yX11_laySnail ∈ gtbl := gt_6 (List.mem_of_getElem? (i := 89) rfl) rfl
theorem q_code_X11_laySnail : Cond.code yX11_laySnail cX11_laySnail 8 none ∈ gtbl := gt_6 (List.mem_of_getElem? (i := 90) rfl) rfl
theorem q_ml_X11_318 : Cond.methodLink RX11 318 yX11_layStrip ∈ gtbl := gt_6 (List.mem_of_getElem? (i := 91) rfl) rfl
theorem q_inst_X11_layStrip : Cond.instanceMethod yX11_layStrip ∈ gtbl := gt_6 (List.mem_of_getElem? (i := 93) rfl) rfl
theorem q_code_X11_layStrip : Cond.code yX11_layStrip cX11_layStrip 4 none ∈ gtbl := gt_6 (List.mem_of_getElem? (i := 94) rfl) rfl
theorem q_ml_L_117 : Cond.methodLink RL 117 yX11_count ∈ gtbl := gt_6 (List.mem_of_getElem? (i := 95) rfl) rfl
theorem q_inst_X11_count : Cond.instanceMethod yX11_count ∈ gtbl := gt_6 (List.mem_of_getElem? (i := 96) rfl) rfl
theorem q_sel_X11_count : Cond.selects RX11 yX11_count yX11_count ∈ gtbl := gt_6 (List.mem_of_getElem? (i := 97) rfl) rfl
theorem q_code_X11_count : Cond.code yX11_count cX11_count 2 (some (Jvm.ClassFile.FieldType.int)) ∈ gtbl := gt_6 (List.mem_of_getElem? (i := 98) rfl) rfl
theorem q_cl_L_13 : Cond.constantLong RL 13 (4294967295) ∈ gtbl := gt_6 (List.mem_of_getElem? (i := 99) rfl) rfl
theorem q_fl_J0_9 : Cond.fieldLink RJ0 9 "java/lang/String" "value" "[B" ∈ gtbl := gt_6 (List.mem_of_getElem? (i := 100) rfl) rfl
theorem q_fl_J0_15 : Cond.fieldLink RJ0 15 "java/lang/String" "coder" "B" ∈ gtbl := gt_6 (List.mem_of_getElem? (i := 101) rfl) rfl
theorem q_sel_X4_lay : Cond.selects yX4_lay.cls yX4_lay yX4_lay ∈ gtbl := gt_in (List.mem_append_left _ (List.mem_of_getElem? (i := 0) rfl)) rfl
theorem q_sel_X10_lookAgain : Cond.selects yX10_lookAgain.cls yX10_lookAgain yX10_lookAgain ∈ gtbl := gt_in (List.mem_append_left _ (List.mem_of_getElem? (i := 1) rfl)) rfl
theorem q_sel_X3_putSingle : Cond.selects yX3_putSingle.cls yX3_putSingle yX3_putSingle ∈ gtbl := gt_in (List.mem_append_left _ (List.mem_of_getElem? (i := 2) rfl)) rfl
theorem q_sel_X3_joinAll : Cond.selects yX3_joinAll.cls yX3_joinAll yX3_joinAll ∈ gtbl := gt_in (List.mem_append_left _ (List.mem_of_getElem? (i := 3) rfl)) rfl
theorem q_sel_X3_sortOut : Cond.selects yX3_sortOut.cls yX3_sortOut yX3_sortOut ∈ gtbl := gt_in (List.mem_append_left _ (List.mem_of_getElem? (i := 4) rfl)) rfl
theorem q_sel_X3_inOnePiece : Cond.selects yX3_inOnePiece.cls yX3_inOnePiece yX3_inOnePiece ∈ gtbl := gt_in (List.mem_append_left _ (List.mem_of_getElem? (i := 5) rfl)) rfl
theorem q_sel_X6_readLine : Cond.selects yX6_readLine.cls yX6_readLine yX6_readLine ∈ gtbl := gt_in (List.mem_append_left _ (List.mem_of_getElem? (i := 6) rfl)) rfl
theorem q_sel_X6_readVerb : Cond.selects yX6_readVerb.cls yX6_readVerb yX6_readVerb ∈ gtbl := gt_in (List.mem_append_left _ (List.mem_of_getElem? (i := 7) rfl)) rfl
theorem q_sel_X6_nextToken : Cond.selects yX6_nextToken.cls yX6_nextToken yX6_nextToken ∈ gtbl := gt_in (List.mem_append_left _ (List.mem_of_getElem? (i := 8) rfl)) rfl
theorem q_sel_X6_tokenIs : Cond.selects yX6_tokenIs.cls yX6_tokenIs yX6_tokenIs ∈ gtbl := gt_in (List.mem_append_left _ (List.mem_of_getElem? (i := 9) rfl)) rfl
theorem q_sel_X6_readSize : Cond.selects yX6_readSize.cls yX6_readSize yX6_readSize ∈ gtbl := gt_in (List.mem_append_left _ (List.mem_of_getElem? (i := 10) rfl)) rfl
theorem q_sel_X6_readNumber : Cond.selects yX6_readNumber.cls yX6_readNumber yX6_readNumber ∈ gtbl := gt_in (List.mem_append_left _ (List.mem_of_getElem? (i := 11) rfl)) rfl
theorem q_sel_X6_readPlace : Cond.selects yX6_readPlace.cls yX6_readPlace yX6_readPlace ∈ gtbl := gt_in (List.mem_append_left _ (List.mem_of_getElem? (i := 12) rfl)) rfl
theorem q_sel_X6_readDirection : Cond.selects yX6_readDirection.cls yX6_readDirection yX6_readDirection ∈ gtbl := gt_in (List.mem_append_left _ (List.mem_of_getElem? (i := 13) rfl)) rfl
theorem q_sel_X6_endsLine : Cond.selects yX6_endsLine.cls yX6_endsLine yX6_endsLine ∈ gtbl := gt_in (List.mem_append_left _ (List.mem_of_getElem? (i := 14) rfl)) rfl
theorem q_sel_X4_put : Cond.selects yX4_put.cls yX4_put yX4_put ∈ gtbl := gt_in (List.mem_append_left _ (List.mem_of_getElem? (i := 15) rfl)) rfl
theorem q_sel_X4_want : Cond.selects yX4_want.cls yX4_want yX4_want ∈ gtbl := gt_in (List.mem_append_left _ (List.mem_of_getElem? (i := 16) rfl)) rfl
theorem q_sel_X4_thaw : Cond.selects yX4_thaw.cls yX4_thaw yX4_thaw ∈ gtbl := gt_in (List.mem_append_left _ (List.mem_of_getElem? (i := 17) rfl)) rfl
theorem q_sel_X2_isFresh : Cond.selects yX2_isFresh.cls yX2_isFresh yX2_isFresh ∈ gtbl := gt_in (List.mem_append_left _ (List.mem_of_getElem? (i := 18) rfl)) rfl
theorem q_sel_X0_laySpots : Cond.selects yX0_laySpots.cls yX0_laySpots yX0_laySpots ∈ gtbl := gt_in (List.mem_append_left _ (List.mem_of_getElem? (i := 19) rfl)) rfl
theorem q_sel_X0_putSpot : Cond.selects yX0_putSpot.cls yX0_putSpot yX0_putSpot ∈ gtbl := gt_in (List.mem_append_left _ (List.mem_of_getElem? (i := 20) rfl)) rfl
theorem q_sel_X0_lay : Cond.selects yX0_lay.cls yX0_lay yX0_lay ∈ gtbl := gt_in (List.mem_append_left _ (List.mem_of_getElem? (i := 21) rfl)) rfl
theorem q_sel_X0_putPlace : Cond.selects yX0_putPlace.cls yX0_putPlace yX0_putPlace ∈ gtbl := gt_in (List.mem_append_left _ (List.mem_of_getElem? (i := 22) rfl)) rfl
theorem q_sel_X0_giveTo : Cond.selects yX0_giveTo.cls yX0_giveTo yX0_giveTo ∈ gtbl := gt_in (List.mem_append_left _ (List.mem_of_getElem? (i := 23) rfl)) rfl
theorem q_sel_X0_nearestBehind : Cond.selects yX0_nearestBehind.cls yX0_nearestBehind yX0_nearestBehind ∈ gtbl := gt_in (List.mem_append_left _ (List.mem_of_getElem? (i := 24) rfl)) rfl
theorem q_sel_X0_way : Cond.selects yX0_way.cls yX0_way yX0_way ∈ gtbl := gt_in (List.mem_append_left _ (List.mem_of_getElem? (i := 25) rfl)) rfl
theorem q_sel_X0_shiftBy : Cond.selects yX0_shiftBy.cls yX0_shiftBy yX0_shiftBy ∈ gtbl := gt_in (List.mem_append_left _ (List.mem_of_getElem? (i := 26) rfl)) rfl
theorem q_sel_X5_findSecond : Cond.selects yX5_findSecond.cls yX5_findSecond yX5_findSecond ∈ gtbl := gt_in (List.mem_append_left _ (List.mem_of_getElem? (i := 27) rfl)) rfl
theorem q_sel_X1_workOut : Cond.selects yX1_workOut.cls yX1_workOut yX1_workOut ∈ gtbl := gt_in (List.mem_append_left _ (List.mem_of_getElem? (i := 28) rfl)) rfl
theorem q_sel_X7_listBehind : Cond.selects yX7_listBehind.cls yX7_listBehind yX7_listBehind ∈ gtbl := gt_in (List.mem_append_left _ (List.mem_of_getElem? (i := 29) rfl)) rfl
theorem q_sel_X1_waysBehind : Cond.selects yX1_waysBehind.cls yX1_waysBehind yX1_waysBehind ∈ gtbl := gt_in (List.mem_append_left _ (List.mem_of_getElem? (i := 30) rfl)) rfl
theorem q_sel_X1_isGone : Cond.selects yX1_isGone.cls yX1_isGone yX1_isGone ∈ gtbl := gt_in (List.mem_append_left _ (List.mem_of_getElem? (i := 31) rfl)) rfl
theorem q_sel_X1_waysOn : Cond.selects yX1_waysOn.cls yX1_waysOn yX1_waysOn ∈ gtbl := gt_in (List.mem_append_left _ (List.mem_of_getElem? (i := 32) rfl)) rfl
theorem q_sel_X1_leastBehind : Cond.selects yX1_leastBehind.cls yX1_leastBehind yX1_leastBehind ∈ gtbl := gt_in (List.mem_append_left _ (List.mem_of_getElem? (i := 33) rfl)) rfl
theorem q_sel_X1_leastNeededOn : Cond.selects yX1_leastNeededOn.cls yX1_leastNeededOn yX1_leastNeededOn ∈ gtbl := gt_in (List.mem_append_left _ (List.mem_of_getElem? (i := 34) rfl)) rfl
theorem q_sel_X1_leastLiftedOn : Cond.selects yX1_leastLiftedOn.cls yX1_leastLiftedOn yX1_leastLiftedOn ∈ gtbl := gt_in (List.mem_append_left _ (List.mem_of_getElem? (i := 35) rfl)) rfl
theorem q_sel_X1_writeRow : Cond.selects yX1_writeRow.cls yX1_writeRow yX1_writeRow ∈ gtbl := gt_in (List.mem_append_left _ (List.mem_of_getElem? (i := 36) rfl)) rfl
theorem q_sel_X1_leastNext : Cond.selects yX1_leastNext.cls yX1_leastNext yX1_leastNext ∈ gtbl := gt_in (List.mem_append_left _ (List.mem_of_getElem? (i := 37) rfl)) rfl
theorem q_sel_X10_knowPlain : Cond.selects yX10_knowPlain.cls yX10_knowPlain yX10_knowPlain ∈ gtbl := gt_in (List.mem_append_left _ (List.mem_of_getElem? (i := 38) rfl)) rfl
theorem q_sel_X9_goRound : Cond.selects yX9_goRound.cls yX9_goRound yX9_goRound ∈ gtbl := gt_in (List.mem_append_left _ (List.mem_of_getElem? (i := 39) rfl)) rfl
theorem q_sel_X9_put : Cond.selects yX9_put.cls yX9_put yX9_put ∈ gtbl := gt_in (List.mem_append_left _ (List.mem_of_getElem? (i := 40) rfl)) rfl
theorem q_sel_X9_part : Cond.selects yX9_part.cls yX9_part yX9_part ∈ gtbl := gt_in (List.mem_append_left _ (List.mem_of_getElem? (i := 41) rfl)) rfl
theorem q_sel_X11_isRead : Cond.selects yX11_isRead.cls yX11_isRead yX11_isRead ∈ gtbl := gt_in (List.mem_append_left _ (List.mem_of_getElem? (i := 42) rfl)) rfl
theorem q_sel_X11_isLine : Cond.selects yX11_isLine.cls yX11_isLine yX11_isLine ∈ gtbl := gt_in (List.mem_append_left _ (List.mem_of_getElem? (i := 43) rfl)) rfl
theorem q_sel_X11_nextToken : Cond.selects yX11_nextToken.cls yX11_nextToken yX11_nextToken ∈ gtbl := gt_in (List.mem_append_left _ (List.mem_of_getElem? (i := 44) rfl)) rfl
theorem q_sel_X11_isField : Cond.selects yX11_isField.cls yX11_isField yX11_isField ∈ gtbl := gt_in (List.mem_append_left _ (List.mem_of_getElem? (i := 45) rfl)) rfl
theorem q_sel_X11_isNumber : Cond.selects yX11_isNumber.cls yX11_isNumber yX11_isNumber ∈ gtbl := gt_in (List.mem_append_left _ (List.mem_of_getElem? (i := 46) rfl)) rfl
theorem q_sel_X11_fails : Cond.selects yX11_fails.cls yX11_fails yX11_fails ∈ gtbl := gt_in (List.mem_append_left _ (List.mem_of_getElem? (i := 47) rfl)) rfl
theorem q_sel_X11_isPlace : Cond.selects yX11_isPlace.cls yX11_isPlace yX11_isPlace ∈ gtbl := gt_in (List.mem_append_left _ (List.mem_of_getElem? (i := 48) rfl)) rfl
theorem q_sel_X11_isHedge : Cond.selects yX11_isHedge.cls yX11_isHedge yX11_isHedge ∈ gtbl := gt_in (List.mem_append_left _ (List.mem_of_getElem? (i := 49) rfl)) rfl
theorem q_sel_X11_doLine : Cond.selects yX11_doLine.cls yX11_doLine yX11_doLine ∈ gtbl := gt_in (List.mem_append_left _ (List.mem_of_getElem? (i := 50) rfl)) rfl
theorem q_sel_X11_edgeAt : Cond.selects yX11_edgeAt.cls yX11_edgeAt yX11_edgeAt ∈ gtbl := gt_in (List.mem_append_left _ (List.mem_of_getElem? (i := 51) rfl)) rfl
theorem q_sel_X11_doNight : Cond.selects yX11_doNight.cls yX11_doNight yX11_doNight ∈ gtbl := gt_in (List.mem_append_left _ (List.mem_of_getElem? (i := 52) rfl)) rfl
theorem q_sel_X11_squares : Cond.selects yX11_squares.cls yX11_squares yX11_squares ∈ gtbl := gt_in (List.mem_append_left _ (List.mem_of_getElem? (i := 53) rfl)) rfl
theorem q_sel_X11_edgeMany : Cond.selects yX11_edgeMany.cls yX11_edgeMany yX11_edgeMany ∈ gtbl := gt_in (List.mem_append_left _ (List.mem_of_getElem? (i := 54) rfl)) rfl
theorem q_sel_X11_wantOf : Cond.selects yX11_wantOf.cls yX11_wantOf yX11_wantOf ∈ gtbl := gt_in (List.mem_append_left _ (List.mem_of_getElem? (i := 55) rfl)) rfl
theorem q_sel_X11_isSet : Cond.selects yX11_isSet.cls yX11_isSet yX11_isSet ∈ gtbl := gt_in (List.mem_append_left _ (List.mem_of_getElem? (i := 56) rfl)) rfl
theorem q_sel_X11_isFold : Cond.selects yX11_isFold.cls yX11_isFold yX11_isFold ∈ gtbl := gt_in (List.mem_append_left _ (List.mem_of_getElem? (i := 57) rfl)) rfl
theorem q_sel_X11_besides : Cond.selects yX11_besides.cls yX11_besides yX11_besides ∈ gtbl := gt_in (List.mem_append_left _ (List.mem_of_getElem? (i := 58) rfl)) rfl
theorem q_sel_X11_besideOf : Cond.selects yX11_besideOf.cls yX11_besideOf yX11_besideOf ∈ gtbl := gt_in (List.mem_append_left _ (List.mem_of_getElem? (i := 59) rfl)) rfl
theorem q_sel_X11_edgesOf : Cond.selects yX11_edgesOf.cls yX11_edgesOf yX11_edgesOf ∈ gtbl := gt_in (List.mem_append_left _ (List.mem_of_getElem? (i := 60) rfl)) rfl
theorem q_sel_X11_yardsOf : Cond.selects yX11_yardsOf.cls yX11_yardsOf yX11_yardsOf ∈ gtbl := gt_in (List.mem_append_left _ (List.mem_of_getElem? (i := 61) rfl)) rfl
theorem q_sel_X11_judged : Cond.selects yX11_judged.cls yX11_judged yX11_judged ∈ gtbl := gt_in (List.mem_append_left _ (List.mem_of_getElem? (i := 62) rfl)) rfl
theorem q_sel_X11_wrongOf : Cond.selects yX11_wrongOf.cls yX11_wrongOf yX11_wrongOf ∈ gtbl := gt_in (List.mem_append_left _ (List.mem_of_getElem? (i := 63) rfl)) rfl
theorem q_sel_X11_isFresh : Cond.selects yX11_isFresh.cls yX11_isFresh yX11_isFresh ∈ gtbl := gt_in (List.mem_append_left _ (List.mem_of_getElem? (i := 64) rfl)) rfl
theorem q_sel_X11_carried : Cond.selects yX11_carried.cls yX11_carried yX11_carried ∈ gtbl := gt_in (List.mem_append_left _ (List.mem_of_getElem? (i := 65) rfl)) rfl
theorem q_sel_X11_edgeX : Cond.selects yX11_edgeX.cls yX11_edgeX yX11_edgeX ∈ gtbl := gt_in (List.mem_append_left _ (List.mem_of_getElem? (i := 66) rfl)) rfl
theorem q_sel_X11_edgeY : Cond.selects yX11_edgeY.cls yX11_edgeY yX11_edgeY ∈ gtbl := gt_in (List.mem_append_left _ (List.mem_of_getElem? (i := 67) rfl)) rfl
theorem q_sel_X11_leastPrice : Cond.selects yX11_leastPrice.cls yX11_leastPrice yX11_leastPrice ∈ gtbl := gt_in (List.mem_append_left _ (List.mem_of_getElem? (i := 68) rfl)) rfl
theorem q_sel_X11_place : Cond.selects yX11_place.cls yX11_place yX11_place ∈ gtbl := gt_in (List.mem_append_left _ (List.mem_of_getElem? (i := 69) rfl)) rfl
theorem q_sel_X11_findFolds : Cond.selects yX11_findFolds.cls yX11_findFolds yX11_findFolds ∈ gtbl := gt_in (List.mem_append_left _ (List.mem_of_getElem? (i := 70) rfl)) rfl
theorem q_sel_X11_fewestOf : Cond.selects yX11_fewestOf.cls yX11_fewestOf yX11_fewestOf ∈ gtbl := gt_in (List.mem_append_left _ (List.mem_of_getElem? (i := 71) rfl)) rfl
theorem q_sel_X11_layCourses : Cond.selects yX11_layCourses.cls yX11_layCourses yX11_layCourses ∈ gtbl := gt_in (List.mem_append_left _ (List.mem_of_getElem? (i := 72) rfl)) rfl
theorem q_sel_X11_rich : Cond.selects yX11_rich.cls yX11_rich yX11_rich ∈ gtbl := gt_in (List.mem_append_left _ (List.mem_of_getElem? (i := 73) rfl)) rfl
theorem q_sel_X11_goOn : Cond.selects yX11_goOn.cls yX11_goOn yX11_goOn ∈ gtbl := gt_in (List.mem_append_left _ (List.mem_of_getElem? (i := 74) rfl)) rfl
theorem q_sel_X11_leastLifted : Cond.selects yX11_leastLifted.cls yX11_leastLifted yX11_leastLifted ∈ gtbl := gt_in (List.mem_append_left _ (List.mem_of_getElem? (i := 75) rfl)) rfl
theorem q_sel_X11_walk : Cond.selects yX11_walk.cls yX11_walk yX11_walk ∈ gtbl := gt_in (List.mem_append_left _ (List.mem_of_getElem? (i := 76) rfl)) rfl
theorem q_sel_X11_canFollow : Cond.selects yX11_canFollow.cls yX11_canFollow yX11_canFollow ∈ gtbl := gt_in (List.mem_append_left _ (List.mem_of_getElem? (i := 77) rfl)) rfl
theorem q_sel_X11_laySnail : Cond.selects yX11_laySnail.cls yX11_laySnail yX11_laySnail ∈ gtbl := gt_in (List.mem_append_left _ (List.mem_of_getElem? (i := 78) rfl)) rfl
theorem q_sel_X11_layStrip : Cond.selects yX11_layStrip.cls yX11_layStrip yX11_layStrip ∈ gtbl := gt_in (List.mem_append_left _ (List.mem_of_getElem? (i := 79) rfl)) rfl
theorem inGX0 : ∀ w ∈ u_ws RX0 TX0 14, w ∈ gtbl := by
  intro w hw
  obtain ⟨j, hj, rfl⟩ := List.mem_map.mp hw
  have hj := List.mem_range.mp hj
  match j, hj with
  | 0, _ => exact q_lay_X0_spotX
  | 1, _ => exact q_lay_X0_spotY
  | 2, _ => exact q_lay_X0_toX
  | 3, _ => exact q_lay_X0_toY
  | 4, _ => exact q_lay_X0_fromX
  | 5, _ => exact q_lay_X0_fromY
  | 6, _ => exact q_lay_X0_edgeWorth
  | 7, _ => exact q_lay_X0_placeWorth
  | 8, _ => exact q_lay_X0_givenTo
  | 9, _ => exact q_lay_X0_cameFrom
  | 10, _ => exact q_lay_X0_slack
  | 11, _ => exact q_lay_X0_seen
  | 12, _ => exact q_lay_X0_edges
  | 13, _ => exact q_lay_X0_places
theorem inGX1 : ∀ w ∈ u_ws RX1 TX1 10, w ∈ gtbl := by
  intro w hw
  obtain ⟨j, hj, rfl⟩ := List.mem_map.mp hw
  have hj := List.mem_range.mp hj
  match j, hj with
  | 0, _ => exact q_lay_X1_table
  | 1, _ => exact q_lay_X1_steps
  | 2, _ => exact q_lay_X1_fewestKept
  | 3, _ => exact q_lay_X1_row
  | 4, _ => exact q_lay_X1_length
  | 5, _ => exact q_lay_X1_lifted
  | 6, _ => exact q_lay_X1_bestYards
  | 7, _ => exact q_lay_X1_bestHurdles
  | 8, _ => exact q_lay_X1_yards
  | 9, _ => exact q_lay_X1_hurdles
theorem inGX2 : ∀ w ∈ u_ws RX2 TX2 2, w ∈ gtbl := by
  intro w hw
  obtain ⟨j, hj, rfl⟩ := List.mem_map.mp hw
  have hj := List.mem_range.mp hj
  match j, hj with
  | 0, _ => exact q_lay_X2_folds
  | 1, _ => exact q_lay_X2_nights
theorem inGX3 : ∀ w ∈ u_ws RX3 TX3 7, w ∈ gtbl := by
  intro w hw
  obtain ⟨j, hj, rfl⟩ := List.mem_map.mp hw
  have hj := List.mem_range.mp hj
  match j, hj with
  | 0, _ => exact q_lay_X3_needs
  | 1, _ => exact q_lay_X3_sideCounts
  | 2, _ => exact q_lay_X3_yardSums
  | 3, _ => exact q_lay_X3_beside
  | 4, _ => exact q_lay_X3_all
  | 5, _ => exact q_lay_X3_wanted
  | 6, _ => exact q_lay_X3_mostSides
theorem inGX4 : ∀ w ∈ u_ws RX4 TX4 9, w ∈ gtbl := by
  intro w hw
  obtain ⟨j, hj, rfl⟩ := List.mem_map.mp hw
  have hj := List.mem_range.mp hj
  match j, hj with
  | 0, _ => exact q_lay_X4_kinds
  | 1, _ => exact q_lay_X4_wants
  | 2, _ => exact q_lay_X4_columns
  | 3, _ => exact q_lay_X4_rows
  | 4, _ => exact q_lay_X4_hedges
  | 5, _ => exact q_lay_X4_hurdles
  | 6, _ => exact q_lay_X4_wantCount
  | 7, _ => exact q_lay_X4_rest
  | 8, _ => exact q_lay_X4_frozen
theorem inGX5 : ∀ w ∈ u_ws RX5 TX5 3, w ∈ gtbl := by
  intro w hw
  obtain ⟨j, hj, rfl⟩ := List.mem_map.mp hw
  have hj := List.mem_range.mp hj
  match j, hj with
  | 0, _ => exact q_lay_X5_first
  | 1, _ => exact q_lay_X5_second
  | 2, _ => exact q_lay_X5_needed
theorem inGX6 : ∀ w ∈ u_ws RX6 TX6 11, w ∈ gtbl := by
  intro w hw
  obtain ⟨j, hj, rfl⟩ := List.mem_map.mp hw
  have hj := List.mem_range.mp hj
  match j, hj with
  | 0, _ => exact q_lay_X6_text
  | 1, _ => exact q_lay_X6_verbs
  | 2, _ => exact q_lay_X6_firsts
  | 3, _ => exact q_lay_X6_seconds
  | 4, _ => exact q_lay_X6_thirds
  | 5, _ => exact q_lay_X6_lines
  | 6, _ => exact q_lay_X6_columns
  | 7, _ => exact q_lay_X6_rows
  | 8, _ => exact q_lay_X6_start
  | 9, _ => exact q_lay_X6_stop
  | 10, _ => exact q_lay_X6_kind
theorem inGX7 : ∀ w ∈ u_ws RX7 TX7 4, w ∈ gtbl := by
  intro w hw
  obtain ⟨j, hj, rfl⟩ := List.mem_map.mp hw
  have hj := List.mem_range.mp hj
  match j, hj with
  | 0, _ => exact q_lay_X7_starts
  | 1, _ => exact q_lay_X7_nexts
  | 2, _ => exact q_lay_X7_values
  | 3, _ => exact q_lay_X7_listed
theorem inGX8 : ∀ w ∈ u_ws RX8 TX8 2, w ∈ gtbl := by
  intro w hw
  obtain ⟨j, hj, rfl⟩ := List.mem_map.mp hw
  have hj := List.mem_range.mp hj
  match j, hj with
  | 0, _ => exact q_lay_X8_bytes
  | 1, _ => exact q_lay_X8_length
theorem inGX9 : ∀ w ∈ u_ws RX9 TX9 4, w ∈ gtbl := by
  intro w hw
  obtain ⟨j, hj, rfl⟩ := List.mem_map.mp hw
  have hj := List.mem_range.mp hj
  match j, hj with
  | 0, _ => exact q_lay_X9_order
  | 1, _ => exact q_lay_X9_length
  | 2, _ => exact q_lay_X9_needed
  | 3, _ => exact q_lay_X9_lifted
theorem inGX10 : ∀ w ∈ u_ws RX10 TX10 12, w ∈ gtbl := by
  intro w hw
  obtain ⟨j, hj, rfl⟩ := List.mem_map.mp hw
  have hj := List.mem_range.mp hj
  match j, hj with
  | 0, _ => exact q_lay_X10_text
  | 1, _ => exact q_lay_X10_reader
  | 2, _ => exact q_lay_X10_ground
  | 3, _ => exact q_lay_X10_folds
  | 4, _ => exact q_lay_X10_plainFolds
  | 5, _ => exact q_lay_X10_row
  | 6, _ => exact q_lay_X10_carrying
  | 7, _ => exact q_lay_X10_pair
  | 8, _ => exact q_lay_X10_walk
  | 9, _ => exact q_lay_X10_gone
  | 10, _ => exact q_lay_X10_plainGone
  | 11, _ => exact q_lay_X10_plainKnown
theorem inGX11 : ∀ w ∈ u_ws RX11 TX11 41, w ∈ gtbl := by
  intro w hw
  obtain ⟨j, hj, rfl⟩ := List.mem_map.mp hw
  have hj := List.mem_range.mp hj
  match j, hj with
  | 0, _ => exact q_lay_X11_wide
  | 1, _ => exact q_lay_X11_high
  | 2, _ => exact q_lay_X11_square
  | 3, _ => exact q_lay_X11_hedges
  | 4, _ => exact q_lay_X11_hurdles
  | 5, _ => exact q_lay_X11_wants
  | 6, _ => exact q_lay_X11_want
  | 7, _ => exact q_lay_X11_rest
  | 8, _ => exact q_lay_X11_frozen
  | 9, _ => exact q_lay_X11_bytes
  | 10, _ => exact q_lay_X11_text
  | 11, _ => exact q_lay_X11_position
  | 12, _ => exact q_lay_X11_tokenAt
  | 13, _ => exact q_lay_X11_token
  | 14, _ => exact q_lay_X11_digits
  | 15, _ => exact q_lay_X11_number
  | 16, _ => exact q_lay_X11_faultAt
  | 17, _ => exact q_lay_X11_readMany
  | 18, _ => exact q_lay_X11_read
  | 19, _ => exact q_lay_X11_readWide
  | 20, _ => exact q_lay_X11_readHigh
  | 21, _ => exact q_lay_X11_nights
  | 22, _ => exact q_lay_X11_row
  | 23, _ => exact q_lay_X11_why
  | 24, _ => exact q_lay_X11_folds
  | 25, _ => exact q_lay_X11_foldSet
  | 26, _ => exact q_lay_X11_foldEdges
  | 27, _ => exact q_lay_X11_foldNeeds
  | 28, _ => exact q_lay_X11_foldYards
  | 29, _ => exact q_lay_X11_least
  | 30, _ => exact q_lay_X11_ways
  | 31, _ => exact q_lay_X11_price
  | 32, _ => exact q_lay_X11_rowBy
  | 33, _ => exact q_lay_X11_columnBy
  | 34, _ => exact q_lay_X11_rowOf
  | 35, _ => exact q_lay_X11_wayBack
  | 36, _ => exact q_lay_X11_slack
  | 37, _ => exact q_lay_X11_isUsed
  | 38, _ => exact q_lay_X11_lifted
  | 39, _ => exact q_lay_X11_freed
  | 40, _ => exact q_lay_X11_path
  | j + 41, h => exact absurd h (by omega)
