/-! ===== words by their places ===== -/
theorem tb1 {x : Cond} (h : x ∈ tables_1_1) : x ∈ lw_tbl := List.mem_append_right _ (show x ∈ tables_1 from List.mem_append_left _ (h))
theorem tb2 {x : Cond} (h : x ∈ tables_1_2) : x ∈ lw_tbl := List.mem_append_right _ (show x ∈ tables_1 from List.mem_append_right _ (List.mem_append_left _ (h)))
theorem tb3 {x : Cond} (h : x ∈ tables_1_3) : x ∈ lw_tbl := List.mem_append_right _ (show x ∈ tables_1 from List.mem_append_right _ (List.mem_append_right _ (List.mem_append_left _ (h))))
theorem tb4 {x : Cond} (h : x ∈ tables_1_4) : x ∈ lw_tbl := List.mem_append_right _ (show x ∈ tables_1 from List.mem_append_right _ (List.mem_append_right _ (List.mem_append_right _ (List.mem_append_left _ (h)))))
theorem tb5 {x : Cond} (h : x ∈ tables_1_5) : x ∈ lw_tbl := List.mem_append_right _ (show x ∈ tables_1 from List.mem_append_right _ (List.mem_append_right _ (List.mem_append_right _ (List.mem_append_right _ (List.mem_append_left _ (h))))))
theorem tb6 {x : Cond} (h : x ∈ tables_1_6) : x ∈ lw_tbl := List.mem_append_right _ (show x ∈ tables_1 from List.mem_append_right _ (List.mem_append_right _ (List.mem_append_right _ (List.mem_append_right _ (List.mem_append_right _ (List.mem_append_left _ (h)))))))
theorem tb7 {x : Cond} (h : x ∈ tables_1_7) : x ∈ lw_tbl := List.mem_append_right _ (show x ∈ tables_1 from List.mem_append_right _ (List.mem_append_right _ (List.mem_append_right _ (List.mem_append_right _ (List.mem_append_right _ (List.mem_append_right _ (h)))))))
set_option maxRecDepth 10000 in
theorem w_0 : Cond.selects RX8 yX8_isNone yX8_isNone ∈ lw_gd := gw (List.mem_append_left _ (List.mem_of_getElem? (i := 0) rfl)) rfl
set_option maxRecDepth 10000 in
theorem w_1 : Cond.selects RX1 yX1_isInWindow yX1_isInWindow ∈ lw_gd := gw (List.mem_append_left _ (List.mem_of_getElem? (i := 1) rfl)) rfl
set_option maxRecDepth 10000 in
theorem w_10 : Cond.selects RX6 yX6_isToldSo yX6_isToldSo ∈ lw_gd := gw (List.mem_append_left _ (List.mem_of_getElem? (i := 10) rfl)) rfl
set_option maxRecDepth 10000 in
theorem w_100 : Cond.methodLink RX5 (3 : Nat) Lib.objectInit ∈ lw_gd := gw (tb1 (List.mem_of_getElem? (i := 38) rfl)) rfl
set_option maxRecDepth 10000 in
theorem w_1000 : Cond.selects RX5 yX5_become yX5_become ∈ lw_gd := gw (tb4 (List.mem_of_getElem? (i := 218) rfl)) rfl
set_option maxRecDepth 10000 in
theorem w_1001 : Cond.code yX5_become cX5_become (3 : Nat) (Option.none : Option FieldType) ∈ lw_gd := gw (tb4 (List.mem_of_getElem? (i := 219) rfl)) rfl
set_option maxRecDepth 10000 in
theorem w_1002 : Cond.methodLink RX5 (23 : Nat) yX5_push ∈ lw_gd := gw (tb4 (List.mem_of_getElem? (i := 220) rfl)) rfl
set_option maxRecDepth 10000 in
theorem w_1003 : Cond.methodLink RX7 (53 : Nat) yX1_become ∈ lw_gd := gw (tb4 (List.mem_of_getElem? (i := 221) rfl)) rfl
set_option maxRecDepth 10000 in
theorem w_1004 : Cond.instanceMethod yX1_become ∈ lw_gd := gw (tb4 (List.mem_of_getElem? (i := 222) rfl)) rfl
set_option maxRecDepth 10000 in
theorem w_1005 : Cond.selects RX1 yX1_become yX1_become ∈ lw_gd := gw (tb4 (List.mem_of_getElem? (i := 223) rfl)) rfl
set_option maxRecDepth 10000 in
theorem w_1006 : Cond.code yX1_become cX1_become (2 : Nat) (Option.none : Option FieldType) ∈ lw_gd := gw (tb4 (List.mem_of_getElem? (i := 224) rfl)) rfl
set_option maxRecDepth 10000 in
theorem w_1007 : Cond.methodLink RL (33 : Nat) yX8_merge ∈ lw_gd := gw (tb4 (List.mem_of_getElem? (i := 225) rfl)) rfl
set_option maxRecDepth 10000 in
theorem w_1008 : Cond.instanceMethod yX8_merge ∈ lw_gd := gw (tb4 (List.mem_of_getElem? (i := 226) rfl)) rfl
set_option maxRecDepth 10000 in
theorem w_1009 : Cond.selects RX8 yX8_merge yX8_merge ∈ lw_gd := gw (tb4 (List.mem_of_getElem? (i := 227) rfl)) rfl
set_option maxRecDepth 10000 in
theorem w_101 : Cond.fieldLink RX5 (9 : Nat) "SeriesPress$Points" "stamps" "[I" ∈ lw_gd := gw (tb1 (List.mem_of_getElem? (i := 39) rfl)) rfl
set_option maxRecDepth 10000 in
theorem w_1010 : Cond.code yX8_merge cX8_merge (2 : Nat) (Option.some FieldType.int) ∈ lw_gd := gw (tb4 (List.mem_of_getElem? (i := 228) rfl)) rfl
set_option maxRecDepth 10000 in
theorem w_1011 : Cond.methodLink RX8 (333 : Nat) yX8_packMine ∈ lw_gd := gw (tb4 (List.mem_of_getElem? (i := 229) rfl)) rfl
set_option maxRecDepth 10000 in
theorem w_1013 : Cond.instanceMethod yX8_packMine ∈ lw_gd := gw (tb4 (List.mem_of_getElem? (i := 231) rfl)) rfl
set_option maxRecDepth 10000 in
theorem w_1014 : Cond.code yX8_packMine cX8_packMine (4 : Nat) (Option.some FieldType.int) ∈ lw_gd := gw (tb4 (List.mem_of_getElem? (i := 232) rfl)) rfl
set_option maxRecDepth 10000 in
theorem w_1015 : Cond.methodLink RL (120 : Nat) yX8_repack ∈ lw_gd := gw (tb4 (List.mem_of_getElem? (i := 233) rfl)) rfl
set_option maxRecDepth 10000 in
theorem w_1016 : Cond.instanceMethod yX8_repack ∈ lw_gd := gw (tb4 (List.mem_of_getElem? (i := 234) rfl)) rfl
set_option maxRecDepth 10000 in
theorem w_1017 : Cond.selects RX8 yX8_repack yX8_repack ∈ lw_gd := gw (tb4 (List.mem_of_getElem? (i := 235) rfl)) rfl
set_option maxRecDepth 10000 in
theorem w_1018 : Cond.code yX8_repack cX8_repack (3 : Nat) (Option.some FieldType.int) ∈ lw_gd := gw (tb4 (List.mem_of_getElem? (i := 236) rfl)) rfl
set_option maxRecDepth 10000 in
theorem w_1019 : Cond.methodLink RL (124 : Nat) yX8_thin ∈ lw_gd := gw (tb4 (List.mem_of_getElem? (i := 237) rfl)) rfl
set_option maxRecDepth 10000 in
theorem w_102 : Cond.fieldLink RX4 (28 : Nat) "SeriesPress$Points" "stamps" "[I" ∈ lw_gd := gw (tb1 (List.mem_of_getElem? (i := 40) rfl)) rfl
set_option maxRecDepth 10000 in
theorem w_1020 : Cond.instanceMethod yX8_thin ∈ lw_gd := gw (tb4 (List.mem_of_getElem? (i := 238) rfl)) rfl
set_option maxRecDepth 10000 in
theorem w_1021 : Cond.selects RX8 yX8_thin yX8_thin ∈ lw_gd := gw (tb4 (List.mem_of_getElem? (i := 239) rfl)) rfl
set_option maxRecDepth 10000 in
theorem w_1022 : Cond.code yX8_thin cX8_thin (4 : Nat) (Option.some FieldType.int) ∈ lw_gd := gw (tb5 (List.mem_of_getElem? (i := 0) rfl)) rfl
set_option maxRecDepth 10000 in
theorem w_1023 : Cond.constant RX8 (336 : Nat) (1000000 : Int32) ∈ lw_gd := gw (tb5 (List.mem_of_getElem? (i := 1) rfl)) rfl
set_option maxRecDepth 10000 in
theorem w_1024 : Cond.methodLink RX8 (337 : Nat) yX5_dropAlike ∈ lw_gd := gw (tb5 (List.mem_of_getElem? (i := 2) rfl)) rfl
set_option maxRecDepth 10000 in
theorem w_1025 : Cond.instanceMethod yX5_dropAlike ∈ lw_gd := gw (tb5 (List.mem_of_getElem? (i := 3) rfl)) rfl
set_option maxRecDepth 10000 in
theorem w_1026 : Cond.selects RX5 yX5_dropAlike yX5_dropAlike ∈ lw_gd := gw (tb5 (List.mem_of_getElem? (i := 4) rfl)) rfl
set_option maxRecDepth 10000 in
theorem w_1027 : Cond.code yX5_dropAlike cX5_dropAlike (4 : Nat) (Option.some FieldType.int) ∈ lw_gd := gw (tb5 (List.mem_of_getElem? (i := 5) rfl)) rfl
set_option maxRecDepth 10000 in
theorem w_1028 : Cond.methodLink RX5 (56 : Nat) yX5_shrink ∈ lw_gd := gw (tb5 (List.mem_of_getElem? (i := 6) rfl)) rfl
set_option maxRecDepth 10000 in
theorem w_103 : Cond.fieldLink RX1 (90 : Nat) "SeriesPress$Points" "stamps" "[I" ∈ lw_gd := gw (tb1 (List.mem_of_getElem? (i := 41) rfl)) rfl
set_option maxRecDepth 10000 in
theorem w_1030 : Cond.instanceMethod yX5_shrink ∈ lw_gd := gw (tb5 (List.mem_of_getElem? (i := 8) rfl)) rfl
set_option maxRecDepth 10000 in
theorem w_1031 : Cond.code yX5_shrink cX5_shrink (3 : Nat) (Option.some FieldType.int) ∈ lw_gd := gw (tb5 (List.mem_of_getElem? (i := 9) rfl)) rfl
set_option maxRecDepth 10000 in
theorem w_1032 : Cond.methodLink RL (128 : Nat) yX8_cuts ∈ lw_gd := gw (tb5 (List.mem_of_getElem? (i := 10) rfl)) rfl
set_option maxRecDepth 10000 in
theorem w_1033 : Cond.instanceMethod yX8_cuts ∈ lw_gd := gw (tb5 (List.mem_of_getElem? (i := 11) rfl)) rfl
set_option maxRecDepth 10000 in
theorem w_1034 : Cond.selects RX8 yX8_cuts yX8_cuts ∈ lw_gd := gw (tb5 (List.mem_of_getElem? (i := 12) rfl)) rfl
set_option maxRecDepth 10000 in
theorem w_1035 : Cond.code yX8_cuts cX8_cuts (5 : Nat) (Option.some FieldType.int) ∈ lw_gd := gw (tb5 (List.mem_of_getElem? (i := 13) rfl)) rfl
set_option maxRecDepth 10000 in
theorem w_1036 : Cond.methodLink RX8 (340 : Nat) yX5_dropSpan ∈ lw_gd := gw (tb5 (List.mem_of_getElem? (i := 14) rfl)) rfl
set_option maxRecDepth 10000 in
theorem w_1037 : Cond.instanceMethod yX5_dropSpan ∈ lw_gd := gw (tb5 (List.mem_of_getElem? (i := 15) rfl)) rfl
set_option maxRecDepth 10000 in
theorem w_1038 : Cond.selects RX5 yX5_dropSpan yX5_dropSpan ∈ lw_gd := gw (tb5 (List.mem_of_getElem? (i := 16) rfl)) rfl
set_option maxRecDepth 10000 in
theorem w_1039 : Cond.code yX5_dropSpan cX5_dropSpan (5 : Nat) (Option.some FieldType.int) ∈ lw_gd := gw (tb5 (List.mem_of_getElem? (i := 17) rfl)) rfl
set_option maxRecDepth 10000 in
theorem w_104 : Cond.fieldLink RX7 (119 : Nat) "SeriesPress$Points" "stamps" "[I" ∈ lw_gd := gw (tb1 (List.mem_of_getElem? (i := 42) rfl)) rfl
set_option maxRecDepth 10000 in
theorem w_1040 : Cond.methodLink RL (136 : Nat) yX8_rounds ∈ lw_gd := gw (tb5 (List.mem_of_getElem? (i := 18) rfl)) rfl
set_option maxRecDepth 10000 in
theorem w_1041 : Cond.instanceMethod yX8_rounds ∈ lw_gd := gw (tb5 (List.mem_of_getElem? (i := 19) rfl)) rfl
set_option maxRecDepth 10000 in
theorem w_1042 : Cond.selects RX8 yX8_rounds yX8_rounds ∈ lw_gd := gw (tb5 (List.mem_of_getElem? (i := 20) rfl)) rfl
set_option maxRecDepth 10000 in
theorem w_1043 : Cond.code yX8_rounds cX8_rounds (4 : Nat) (Option.some FieldType.int) ∈ lw_gd := gw (tb5 (List.mem_of_getElem? (i := 21) rfl)) rfl
set_option maxRecDepth 10000 in
theorem w_1044 : Cond.methodLink RX8 (343 : Nat) yX5_clearLowest ∈ lw_gd := gw (tb5 (List.mem_of_getElem? (i := 22) rfl)) rfl
set_option maxRecDepth 10000 in
theorem w_1045 : Cond.instanceMethod yX5_clearLowest ∈ lw_gd := gw (tb5 (List.mem_of_getElem? (i := 23) rfl)) rfl
set_option maxRecDepth 10000 in
theorem w_1046 : Cond.selects RX5 yX5_clearLowest yX5_clearLowest ∈ lw_gd := gw (tb5 (List.mem_of_getElem? (i := 24) rfl)) rfl
set_option maxRecDepth 10000 in
theorem w_1047 : Cond.code yX5_clearLowest cX5_clearLowest (6 : Nat) (Option.some FieldType.int) ∈ lw_gd := gw (tb5 (List.mem_of_getElem? (i := 25) rfl)) rfl
set_option maxRecDepth 10000 in
theorem w_1048 : Cond.constantLong RX5 (59 : Nat) (-1 : Int64) ∈ lw_gd := gw (tb5 (List.mem_of_getElem? (i := 26) rfl)) rfl
set_option maxRecDepth 10000 in
theorem w_1049 : Cond.methodLink RX5 (61 : Nat) yX3_isFinite ∈ lw_gd := gw (tb5 (List.mem_of_getElem? (i := 27) rfl)) rfl
set_option maxRecDepth 10000 in
theorem w_105 : Cond.fieldLink RX8 (240 : Nat) "SeriesPress$Points" "stamps" "[I" ∈ lw_gd := gw (tb1 (List.mem_of_getElem? (i := 43) rfl)) rfl
set_option maxRecDepth 10000 in
theorem w_1050 : Cond.static yX3_isFinite ∈ lw_gd := gw (tb5 (List.mem_of_getElem? (i := 28) rfl)) rfl
set_option maxRecDepth 10000 in
theorem w_1051 : Cond.code yX3_isFinite cX3_isFinite (2 : Nat) (Option.some FieldType.boolean) ∈ lw_gd := gw (tb5 (List.mem_of_getElem? (i := 29) rfl)) rfl
set_option maxRecDepth 10000 in
theorem w_1052 : Cond.methodLink RL (140 : Nat) yX8_rounded ∈ lw_gd := gw (tb5 (List.mem_of_getElem? (i := 30) rfl)) rfl
set_option maxRecDepth 10000 in
theorem w_1053 : Cond.instanceMethod yX8_rounded ∈ lw_gd := gw (tb5 (List.mem_of_getElem? (i := 31) rfl)) rfl
set_option maxRecDepth 10000 in
theorem w_1054 : Cond.selects RX8 yX8_rounded yX8_rounded ∈ lw_gd := gw (tb5 (List.mem_of_getElem? (i := 32) rfl)) rfl
set_option maxRecDepth 10000 in
theorem w_1055 : Cond.code yX8_rounded cX8_rounded (3 : Nat) (Option.some FieldType.int) ∈ lw_gd := gw (tb5 (List.mem_of_getElem? (i := 33) rfl)) rfl
set_option maxRecDepth 10000 in
theorem w_1056 : Cond.methodLink RX8 (346 : Nat) yX1_bytesBy ∈ lw_gd := gw (tb5 (List.mem_of_getElem? (i := 34) rfl)) rfl
set_option maxRecDepth 10000 in
theorem w_1057 : Cond.instanceMethod yX1_bytesBy ∈ lw_gd := gw (tb5 (List.mem_of_getElem? (i := 35) rfl)) rfl
set_option maxRecDepth 10000 in
theorem w_1058 : Cond.selects RX1 yX1_bytesBy yX1_bytesBy ∈ lw_gd := gw (tb5 (List.mem_of_getElem? (i := 36) rfl)) rfl
set_option maxRecDepth 10000 in
theorem w_1059 : Cond.code yX1_bytesBy cX1_bytesBy (7 : Nat) (Option.some FieldType.int) ∈ lw_gd := gw (tb5 (List.mem_of_getElem? (i := 37) rfl)) rfl
set_option maxRecDepth 10000 in
theorem w_106 : Cond.fieldLink RX5 (15 : Nat) "SeriesPress$Points" "bits" "[J" ∈ lw_gd := gw (tb1 (List.mem_of_getElem? (i := 44) rfl)) rfl
set_option maxRecDepth 10000 in
theorem w_1060 : Cond.methodLink RX1 (97 : Nat) yX1_weigh ∈ lw_gd := gw (tb5 (List.mem_of_getElem? (i := 38) rfl)) rfl
set_option maxRecDepth 10000 in
theorem w_1061 : Cond.methodLink RX1 (101 : Nat) yX0_sealedBytes ∈ lw_gd := gw (tb5 (List.mem_of_getElem? (i := 39) rfl)) rfl
set_option maxRecDepth 10000 in
theorem w_1062 : Cond.methodLink RX1 (106 : Nat) yX1_step ∈ lw_gd := gw (tb5 (List.mem_of_getElem? (i := 40) rfl)) rfl
set_option maxRecDepth 10000 in
theorem w_1063 : Cond.methodLink RX1 (109 : Nat) yX1_begin ∈ lw_gd := gw (tb5 (List.mem_of_getElem? (i := 41) rfl)) rfl
set_option maxRecDepth 10000 in
theorem w_1064 : Cond.methodLink RX1 (112 : Nat) yX0_openBytes ∈ lw_gd := gw (tb5 (List.mem_of_getElem? (i := 42) rfl)) rfl
set_option maxRecDepth 10000 in
theorem w_1065 : Cond.methodLink RL (116 : Nat) yX8_best ∈ lw_gd := gw (tb5 (List.mem_of_getElem? (i := 43) rfl)) rfl
set_option maxRecDepth 10000 in
theorem w_1066 : Cond.instanceMethod yX8_best ∈ lw_gd := gw (tb5 (List.mem_of_getElem? (i := 44) rfl)) rfl
set_option maxRecDepth 10000 in
theorem w_1067 : Cond.selects RX8 yX8_best yX8_best ∈ lw_gd := gw (tb5 (List.mem_of_getElem? (i := 45) rfl)) rfl
set_option maxRecDepth 10000 in
theorem w_1068 : Cond.code yX8_best cX8_best (6 : Nat) (Option.some FieldType.int) ∈ lw_gd := gw (tb5 (List.mem_of_getElem? (i := 46) rfl)) rfl
set_option maxRecDepth 10000 in
theorem w_1069 : Cond.classLink RL (10 : Nat) "SeriesPressModel" ∈ lw_gd := gw (tb5 (List.mem_of_getElem? (i := 47) rfl)) rfl
set_option maxRecDepth 10000 in
theorem w_107 : Cond.fieldLink RX4 (39 : Nat) "SeriesPress$Points" "bits" "[J" ∈ lw_gd := gw (tb1 (List.mem_of_getElem? (i := 45) rfl)) rfl
set_option maxRecDepth 10000 in
theorem w_1070 : Cond.instantiable RX9 (41 : Nat) ∈ lw_gd := gw (tb5 (List.mem_of_getElem? (i := 48) rfl)) rfl
set_option maxRecDepth 10000 in
theorem w_1071 : Cond.methodLink RL (12 : Nat) yX9_init ∈ lw_gd := gw (tb5 (List.mem_of_getElem? (i := 49) rfl)) rfl
set_option maxRecDepth 10000 in
theorem w_1072 : Cond.instanceMethod yX9_init ∈ lw_gd := gw (tb5 (List.mem_of_getElem? (i := 50) rfl)) rfl
set_option maxRecDepth 10000 in
theorem w_1073 : Cond.code yX9_init cX9_init (1 : Nat) (Option.none : Option FieldType) ∈ lw_gd := gw (tb5 (List.mem_of_getElem? (i := 51) rfl)) rfl
set_option maxRecDepth 10000 in
theorem w_1074 : Cond.methodLink RX9 (1 : Nat) Lib.objectInit ∈ lw_gd := gw (tb5 (List.mem_of_getElem? (i := 52) rfl)) rfl
set_option maxRecDepth 10000 in
theorem w_1075 : Cond.fieldLink RX9 (7 : Nat) "SeriesPressModel" "room" "[I" ∈ lw_gd := gw (tb5 (List.mem_of_getElem? (i := 53) rfl)) rfl
set_option maxRecDepth 10000 in
theorem w_1076 : Cond.fieldLink RX9 (13 : Nat) "SeriesPressModel" "latest" "[I" ∈ lw_gd := gw (tb5 (List.mem_of_getElem? (i := 54) rfl)) rfl
set_option maxRecDepth 10000 in
theorem w_1077 : Cond.fieldLink RX9 (16 : Nat) "SeriesPressModel" "blocks" "[I" ∈ lw_gd := gw (tb5 (List.mem_of_getElem? (i := 55) rfl)) rfl
set_option maxRecDepth 10000 in
theorem w_1078 : Cond.fieldLink RX9 (19 : Nat) "SeriesPressModel" "store" "[I" ∈ lw_gd := gw (tb5 (List.mem_of_getElem? (i := 56) rfl)) rfl
set_option maxRecDepth 10000 in
theorem w_1079 : Cond.fieldLink RX9 (22 : Nat) "SeriesPressModel" "bytes" "[I" ∈ lw_gd := gw (tb5 (List.mem_of_getElem? (i := 57) rfl)) rfl
set_option maxRecDepth 10000 in
theorem w_108 : Cond.fieldLink RX1 (93 : Nat) "SeriesPress$Points" "bits" "[J" ∈ lw_gd := gw (tb1 (List.mem_of_getElem? (i := 46) rfl)) rfl
set_option maxRecDepth 10000 in
theorem w_1080 : Cond.fieldLink RX9 (25 : Nat) "SeriesPressModel" "bits" "[I" ∈ lw_gd := gw (tb5 (List.mem_of_getElem? (i := 58) rfl)) rfl
set_option maxRecDepth 10000 in
theorem w_1081 : Cond.fieldLink RX9 (28 : Nat) "SeriesPressModel" "sealed" "[Z" ∈ lw_gd := gw (tb5 (List.mem_of_getElem? (i := 59) rfl)) rfl
set_option maxRecDepth 10000 in
theorem w_1082 : Cond.fieldLink RX9 (32 : Nat) "SeriesPressModel" "first" "[I" ∈ lw_gd := gw (tb5 (List.mem_of_getElem? (i := 60) rfl)) rfl
set_option maxRecDepth 10000 in
theorem w_1083 : Cond.fieldLink RX9 (35 : Nat) "SeriesPressModel" "last" "[I" ∈ lw_gd := gw (tb5 (List.mem_of_getElem? (i := 61) rfl)) rfl
set_option maxRecDepth 10000 in
theorem w_1084 : Cond.fieldLink RX9 (38 : Nat) "SeriesPressModel" "lates" "[I" ∈ lw_gd := gw (tb5 (List.mem_of_getElem? (i := 62) rfl)) rfl
set_option maxRecDepth 10000 in
theorem w_1085 : Cond.fieldLink RX9 (41 : Nat) "SeriesPressModel" "lateStamp" "[I" ∈ lw_gd := gw (tb5 (List.mem_of_getElem? (i := 63) rfl)) rfl
set_option maxRecDepth 10000 in
theorem w_1086 : Cond.fieldLink RX9 (44 : Nat) "SeriesPressModel" "lateBits" "[J" ∈ lw_gd := gw (tb5 (List.mem_of_getElem? (i := 64) rfl)) rfl
set_option maxRecDepth 10000 in
theorem w_1087 : Cond.fieldLink RX9 (48 : Nat) "SeriesPressModel" "tape" "[I" ∈ lw_gd := gw (tb5 (List.mem_of_getElem? (i := 65) rfl)) rfl
set_option maxRecDepth 10000 in
theorem w_1088 : Cond.fieldLink RX9 (401 : Nat) "SeriesPressModel" "tapeMany" "I" ∈ lw_gd := gw (tb5 (List.mem_of_getElem? (i := 66) rfl)) rfl
set_option maxRecDepth 10000 in
theorem w_1089 : Cond.fieldLink RX9 (149 : Nat) "SeriesPressModel" "stamp" "J" ∈ lw_gd := gw (tb5 (List.mem_of_getElem? (i := 67) rfl)) rfl
set_option maxRecDepth 10000 in
theorem w_109 : Cond.fieldLink RX7 (123 : Nat) "SeriesPress$Points" "bits" "[J" ∈ lw_gd := gw (tb1 (List.mem_of_getElem? (i := 47) rfl)) rfl
set_option maxRecDepth 10000 in
theorem w_1090 : Cond.fieldLink RX9 (153 : Nat) "SeriesPressModel" "far" "J" ∈ lw_gd := gw (tb5 (List.mem_of_getElem? (i := 68) rfl)) rfl
set_option maxRecDepth 10000 in
theorem w_1091 : Cond.fieldLink RX9 (159 : Nat) "SeriesPressModel" "value" "J" ∈ lw_gd := gw (tb5 (List.mem_of_getElem? (i := 69) rfl)) rfl
set_option maxRecDepth 10000 in
theorem w_1092 : Cond.fieldLink RX9 (134 : Nat) "SeriesPressModel" "ahead" "I" ∈ lw_gd := gw (tb5 (List.mem_of_getElem? (i := 70) rfl)) rfl
set_option maxRecDepth 10000 in
theorem w_1093 : Cond.fieldLink RX9 (138 : Nat) "SeriesPressModel" "behind" "I" ∈ lw_gd := gw (tb5 (List.mem_of_getElem? (i := 71) rfl)) rfl
set_option maxRecDepth 10000 in
theorem w_1094 : Cond.fieldLink RX9 (130 : Nat) "SeriesPressModel" "hasWindow" "Z" ∈ lw_gd := gw (tb5 (List.mem_of_getElem? (i := 72) rfl)) rfl
set_option maxRecDepth 10000 in
theorem w_1095 : Cond.fieldLink RX9 (175 : Nat) "SeriesPressModel" "spot" "I" ∈ lw_gd := gw (tb5 (List.mem_of_getElem? (i := 73) rfl)) rfl
set_option maxRecDepth 10000 in
theorem w_1096 : Cond.fieldLink RX9 (51 : Nat) "SeriesPressModel" "readStamp" "[J" ∈ lw_gd := gw (tb5 (List.mem_of_getElem? (i := 74) rfl)) rfl
set_option maxRecDepth 10000 in
theorem w_1097 : Cond.fieldLink RX9 (54 : Nat) "SeriesPressModel" "readBits" "[J" ∈ lw_gd := gw (tb5 (List.mem_of_getElem? (i := 75) rfl)) rfl
set_option maxRecDepth 10000 in
theorem w_1098 : Cond.fieldLink RX9 (57 : Nat) "SeriesPressModel" "readLong" "[I" ∈ lw_gd := gw (tb5 (List.mem_of_getElem? (i := 76) rfl)) rfl
set_option maxRecDepth 10000 in
theorem w_1099 : Cond.fieldLink RX9 (60 : Nat) "SeriesPressModel" "readClass" "[I" ∈ lw_gd := gw (tb5 (List.mem_of_getElem? (i := 77) rfl)) rfl
set_option maxRecDepth 10000 in
theorem w_11 : Cond.selects RX8 yX8_gathered yX8_gathered ∈ lw_gd := gw (List.mem_append_left _ (List.mem_of_getElem? (i := 11) rfl)) rfl
set_option maxRecDepth 10000 in
theorem w_110 : Cond.fieldLink RX8 (232 : Nat) "SeriesPress$Points" "bits" "[J" ∈ lw_gd := gw (tb1 (List.mem_of_getElem? (i := 48) rfl)) rfl
set_option maxRecDepth 10000 in
theorem w_1100 : Cond.fieldLink RX9 (63 : Nat) "SeriesPressModel" "readWay" "[I" ∈ lw_gd := gw (tb5 (List.mem_of_getElem? (i := 78) rfl)) rfl
set_option maxRecDepth 10000 in
theorem w_1101 : Cond.fieldLink RX9 (223 : Nat) "SeriesPressModel" "readMany" "I" ∈ lw_gd := gw (tb5 (List.mem_of_getElem? (i := 79) rfl)) rfl
set_option maxRecDepth 10000 in
theorem w_1102 : Cond.fieldLink RX9 (203 : Nat) "SeriesPressModel" "fault" "I" ∈ lw_gd := gw (tb5 (List.mem_of_getElem? (i := 80) rfl)) rfl
set_option maxRecDepth 10000 in
theorem w_1103 : Cond.fieldLink RX9 (206 : Nat) "SeriesPressModel" "faultPlace" "I" ∈ lw_gd := gw (tb5 (List.mem_of_getElem? (i := 81) rfl)) rfl
set_option maxRecDepth 10000 in
theorem w_1104 : Cond.fieldLink RX9 (209 : Nat) "SeriesPressModel" "wholeBits" "I" ∈ lw_gd := gw (tb5 (List.mem_of_getElem? (i := 82) rfl)) rfl
set_option maxRecDepth 10000 in
theorem w_1105 : Cond.fieldLink RX9 (66 : Nat) "SeriesPressModel" "allStamp" "[J" ∈ lw_gd := gw (tb5 (List.mem_of_getElem? (i := 83) rfl)) rfl
set_option maxRecDepth 10000 in
theorem w_1106 : Cond.fieldLink RX9 (69 : Nat) "SeriesPressModel" "allBits" "[J" ∈ lw_gd := gw (tb5 (List.mem_of_getElem? (i := 84) rfl)) rfl
set_option maxRecDepth 10000 in
theorem w_1107 : Cond.fieldLink RX9 (72 : Nat) "SeriesPressModel" "allIn" "[I" ∈ lw_gd := gw (tb5 (List.mem_of_getElem? (i := 85) rfl)) rfl
set_option maxRecDepth 10000 in
theorem w_1108 : Cond.fieldLink RX9 (248 : Nat) "SeriesPressModel" "all" "I" ∈ lw_gd := gw (tb5 (List.mem_of_getElem? (i := 86) rfl)) rfl
set_option maxRecDepth 10000 in
theorem w_1109 : Cond.fieldLink RX9 (311 : Nat) "SeriesPressModel" "mendByte" "I" ∈ lw_gd := gw (tb5 (List.mem_of_getElem? (i := 87) rfl)) rfl
set_option maxRecDepth 10000 in
theorem w_111 : Cond.fieldLink RX5 (19 : Nat) "SeriesPress$Points" "size" "I" ∈ lw_gd := gw (tb1 (List.mem_of_getElem? (i := 49) rfl)) rfl
set_option maxRecDepth 10000 in
theorem w_1110 : Cond.fieldLink RX9 (314 : Nat) "SeriesPressModel" "mendTo" "I" ∈ lw_gd := gw (tb5 (List.mem_of_getElem? (i := 88) rfl)) rfl
set_option maxRecDepth 10000 in
theorem w_1111 : Cond.fieldLink RX9 (337 : Nat) "SeriesPressModel" "spanFrom" "I" ∈ lw_gd := gw (tb5 (List.mem_of_getElem? (i := 89) rfl)) rfl
set_option maxRecDepth 10000 in
theorem w_1112 : Cond.fieldLink RX9 (340 : Nat) "SeriesPressModel" "spanTo" "I" ∈ lw_gd := gw (tb5 (List.mem_of_getElem? (i := 90) rfl)) rfl
set_option maxRecDepth 10000 in
theorem w_1113 : Cond.fieldLink RX9 (75 : Nat) "SeriesPressModel" "otherStamp" "[J" ∈ lw_gd := gw (tb5 (List.mem_of_getElem? (i := 91) rfl)) rfl
set_option maxRecDepth 10000 in
theorem w_1114 : Cond.fieldLink RX9 (78 : Nat) "SeriesPressModel" "otherBits" "[J" ∈ lw_gd := gw (tb5 (List.mem_of_getElem? (i := 92) rfl)) rfl
set_option maxRecDepth 10000 in
theorem w_1115 : Cond.fieldLink RX9 (382 : Nat) "SeriesPressModel" "others" "I" ∈ lw_gd := gw (tb5 (List.mem_of_getElem? (i := 93) rfl)) rfl
set_option maxRecDepth 10000 in
theorem w_112 : Cond.fieldLink RX4 (23 : Nat) "SeriesPress$Points" "size" "I" ∈ lw_gd := gw (tb1 (List.mem_of_getElem? (i := 50) rfl)) rfl
set_option maxRecDepth 10000 in
theorem w_113 : Cond.fieldLink RX7 (48 : Nat) "SeriesPress$Points" "size" "I" ∈ lw_gd := gw (tb1 (List.mem_of_getElem? (i := 51) rfl)) rfl
set_option maxRecDepth 10000 in
theorem w_114 : Cond.fieldLink RX8 (102 : Nat) "SeriesPress$Points" "size" "I" ∈ lw_gd := gw (tb1 (List.mem_of_getElem? (i := 52) rfl)) rfl
set_option maxRecDepth 10000 in
theorem w_115 : Cond.fieldLink RX1 (85 : Nat) "SeriesPress$Points" "size" "I" ∈ lw_gd := gw (tb1 (List.mem_of_getElem? (i := 53) rfl)) rfl
set_option maxRecDepth 10000 in
theorem w_1199 : Cond.arrayClass FieldType.boolean ∈ lw_gd := gw (tb5 (List.mem_of_getElem? (i := 177) rfl)) rfl
set_option maxRecDepth 10000 in
theorem w_12 : Cond.selects RX7 yX7_gatherBlock yX7_gatherBlock ∈ lw_gd := gw (List.mem_append_left _ (List.mem_of_getElem? (i := 12) rfl)) rfl
set_option maxRecDepth 10000 in
theorem w_1200 : Cond.methodLink RL (17 : Nat) yX9_begins ∈ lw_gd := gw (tb5 (List.mem_of_getElem? (i := 178) rfl)) rfl
set_option maxRecDepth 10000 in
theorem w_1201 : Cond.instanceMethod yX9_begins ∈ lw_gd := gw (tb5 (List.mem_of_getElem? (i := 179) rfl)) rfl
set_option maxRecDepth 10000 in
theorem w_1202 : Cond.selects RX9 yX9_begins yX9_begins ∈ lw_gd := gw (tb5 (List.mem_of_getElem? (i := 180) rfl)) rfl
set_option maxRecDepth 10000 in
theorem w_1203 : Cond.code yX9_begins cX9_begins (3 : Nat) (Option.some FieldType.int) ∈ lw_gd := gw (tb5 (List.mem_of_getElem? (i := 181) rfl)) rfl
set_option maxRecDepth 10000 in
theorem w_1204 : Cond.constantLong RX9 (81 : Nat) (3 : Int64) ∈ lw_gd := gw (tb5 (List.mem_of_getElem? (i := 182) rfl)) rfl
set_option maxRecDepth 10000 in
theorem w_1205 : Cond.methodLink RX9 (83 : Nat) yX9_in ∈ lw_gd := gw (tb5 (List.mem_of_getElem? (i := 183) rfl)) rfl
set_option maxRecDepth 10000 in
theorem w_1206 : Cond.static yX9_in ∈ lw_gd := gw (tb5 (List.mem_of_getElem? (i := 184) rfl)) rfl
set_option maxRecDepth 10000 in
theorem w_1207 : Cond.code yX9_in cX9_in (6 : Nat) (Option.some FieldType.boolean) ∈ lw_gd := gw (tb5 (List.mem_of_getElem? (i := 185) rfl)) rfl
set_option maxRecDepth 10000 in
theorem w_1208 : Cond.constantLong RX9 (99 : Nat) (24 : Int64) ∈ lw_gd := gw (tb5 (List.mem_of_getElem? (i := 186) rfl)) rfl
set_option maxRecDepth 10000 in
theorem w_1209 : Cond.constantLong RX9 (101 : Nat) (200 : Int64) ∈ lw_gd := gw (tb5 (List.mem_of_getElem? (i := 187) rfl)) rfl
set_option maxRecDepth 10000 in
theorem w_1210 : Cond.methodLink RX9 (103 : Nat) yX9_clears ∈ lw_gd := gw (tb5 (List.mem_of_getElem? (i := 188) rfl)) rfl
set_option maxRecDepth 10000 in
theorem w_1212 : Cond.instanceMethod yX9_clears ∈ lw_gd := gw (tb5 (List.mem_of_getElem? (i := 190) rfl)) rfl
set_option maxRecDepth 10000 in
theorem w_1213 : Cond.code yX9_clears cX9_clears (3 : Nat) (Option.none : Option FieldType) ∈ lw_gd := gw (tb5 (List.mem_of_getElem? (i := 191) rfl)) rfl
set_option maxRecDepth 10000 in
theorem w_1214 : Cond.methodLink RL (24 : Nat) yX9_add ∈ lw_gd := gw (tb5 (List.mem_of_getElem? (i := 192) rfl)) rfl
set_option maxRecDepth 10000 in
theorem w_1215 : Cond.instanceMethod yX9_add ∈ lw_gd := gw (tb5 (List.mem_of_getElem? (i := 193) rfl)) rfl
set_option maxRecDepth 10000 in
theorem w_1216 : Cond.selects RX9 yX9_add yX9_add ∈ lw_gd := gw (tb5 (List.mem_of_getElem? (i := 194) rfl)) rfl
set_option maxRecDepth 10000 in
theorem w_1217 : Cond.code yX9_add cX9_add (5 : Nat) (Option.some FieldType.int) ∈ lw_gd := gw (tb5 (List.mem_of_getElem? (i := 195) rfl)) rfl
set_option maxRecDepth 10000 in
theorem w_1218 : Cond.methodLink RX9 (87 : Nat) yX9_isSeries ∈ lw_gd := gw (tb5 (List.mem_of_getElem? (i := 196) rfl)) rfl
set_option maxRecDepth 10000 in
theorem w_1220 : Cond.instanceMethod yX9_isSeries ∈ lw_gd := gw (tb5 (List.mem_of_getElem? (i := 198) rfl)) rfl
set_option maxRecDepth 10000 in
theorem w_1221 : Cond.code yX9_isSeries cX9_isSeries (2 : Nat) (Option.some FieldType.boolean) ∈ lw_gd := gw (tb5 (List.mem_of_getElem? (i := 199) rfl)) rfl
set_option maxRecDepth 10000 in
theorem w_1222 : Cond.methodLink RX9 (278 : Nat) yX9_isStamp ∈ lw_gd := gw (tb5 (List.mem_of_getElem? (i := 200) rfl)) rfl
set_option maxRecDepth 10000 in
theorem w_1223 : Cond.static yX9_isStamp ∈ lw_gd := gw (tb5 (List.mem_of_getElem? (i := 201) rfl)) rfl
set_option maxRecDepth 10000 in
theorem w_1224 : Cond.code yX9_isStamp cX9_isStamp (1 : Nat) (Option.some FieldType.boolean) ∈ lw_gd := gw (tb5 (List.mem_of_getElem? (i := 202) rfl)) rfl
set_option maxRecDepth 10000 in
theorem w_1225 : Cond.constantLong RX9 (91 : Nat) (2000000000 : Int64) ∈ lw_gd := gw (tb5 (List.mem_of_getElem? (i := 203) rfl)) rfl
set_option maxRecDepth 10000 in
theorem w_1226 : Cond.methodLink RX9 (281 : Nat) yX9_isAbove ∈ lw_gd := gw (tb5 (List.mem_of_getElem? (i := 204) rfl)) rfl
set_option maxRecDepth 10000 in
theorem w_1228 : Cond.instanceMethod yX9_isAbove ∈ lw_gd := gw (tb5 (List.mem_of_getElem? (i := 206) rfl)) rfl
set_option maxRecDepth 10000 in
theorem w_1229 : Cond.code yX9_isAbove cX9_isAbove (3 : Nat) (Option.some FieldType.boolean) ∈ lw_gd := gw (tb5 (List.mem_of_getElem? (i := 207) rfl)) rfl
set_option maxRecDepth 10000 in
theorem w_123 : Cond.arrayClass FieldType.int ∈ lw_gd := gw (tb1 (List.mem_of_getElem? (i := 61) rfl)) rfl
set_option maxRecDepth 10000 in
theorem w_1230 : Cond.methodLink RX9 (285 : Nat) yX9_opens ∈ lw_gd := gw (tb5 (List.mem_of_getElem? (i := 208) rfl)) rfl
set_option maxRecDepth 10000 in
theorem w_1232 : Cond.instanceMethod yX9_opens ∈ lw_gd := gw (tb5 (List.mem_of_getElem? (i := 210) rfl)) rfl
set_option maxRecDepth 10000 in
theorem w_1233 : Cond.code yX9_opens cX9_opens (2 : Nat) (Option.none : Option FieldType) ∈ lw_gd := gw (tb5 (List.mem_of_getElem? (i := 211) rfl)) rfl
set_option maxRecDepth 10000 in
theorem w_1234 : Cond.methodLink RX9 (242 : Nat) yX9_reads ∈ lw_gd := gw (tb5 (List.mem_of_getElem? (i := 212) rfl)) rfl
set_option maxRecDepth 10000 in
theorem w_1236 : Cond.instanceMethod yX9_reads ∈ lw_gd := gw (tb5 (List.mem_of_getElem? (i := 214) rfl)) rfl
set_option maxRecDepth 10000 in
theorem w_1237 : Cond.code yX9_reads cX9_reads (2 : Nat) (Option.none : Option FieldType) ∈ lw_gd := gw (tb5 (List.mem_of_getElem? (i := 215) rfl)) rfl
set_option maxRecDepth 10000 in
theorem w_1238 : Cond.methodLink RX9 (239 : Nat) yX9_readsAll ∈ lw_gd := gw (tb5 (List.mem_of_getElem? (i := 216) rfl)) rfl
set_option maxRecDepth 10000 in
theorem w_124 : Cond.arrayClass FieldType.long ∈ lw_gd := gw (tb1 (List.mem_of_getElem? (i := 62) rfl)) rfl
set_option maxRecDepth 10000 in
theorem w_1240 : Cond.instanceMethod yX9_readsAll ∈ lw_gd := gw (tb5 (List.mem_of_getElem? (i := 218) rfl)) rfl
set_option maxRecDepth 10000 in
theorem w_1241 : Cond.code yX9_readsAll cX9_readsAll (6 : Nat) (Option.none : Option FieldType) ∈ lw_gd := gw (tb5 (List.mem_of_getElem? (i := 219) rfl)) rfl
set_option maxRecDepth 10000 in
theorem w_1242 : Cond.methodLink RX9 (226 : Nat) yX9_faults ∈ lw_gd := gw (tb5 (List.mem_of_getElem? (i := 220) rfl)) rfl
set_option maxRecDepth 10000 in
theorem w_1244 : Cond.instanceMethod yX9_faults ∈ lw_gd := gw (tb5 (List.mem_of_getElem? (i := 222) rfl)) rfl
set_option maxRecDepth 10000 in
theorem w_1245 : Cond.code yX9_faults cX9_faults (3 : Nat) (Option.none : Option FieldType) ∈ lw_gd := gw (tb5 (List.mem_of_getElem? (i := 223) rfl)) rfl
set_option maxRecDepth 10000 in
theorem w_1246 : Cond.methodLink RX9 (107 : Nat) yX9_byteAt ∈ lw_gd := gw (tb5 (List.mem_of_getElem? (i := 224) rfl)) rfl
set_option maxRecDepth 10000 in
theorem w_1248 : Cond.instanceMethod yX9_byteAt ∈ lw_gd := gw (tb5 (List.mem_of_getElem? (i := 226) rfl)) rfl
set_option maxRecDepth 10000 in
theorem w_1249 : Cond.code yX9_byteAt cX9_byteAt (3 : Nat) (Option.some FieldType.int) ∈ lw_gd := gw (tb5 (List.mem_of_getElem? (i := 227) rfl)) rfl
set_option maxRecDepth 10000 in
theorem w_125 : Cond.classLink RX7 (26 : Nat) "SeriesPress$Coder" ∈ lw_gd := gw (tb1 (List.mem_of_getElem? (i := 63) rfl)) rfl
set_option maxRecDepth 10000 in
theorem w_1250 : Cond.methodLink RX9 (200 : Nat) yX9_checkOf ∈ lw_gd := gw (tb5 (List.mem_of_getElem? (i := 228) rfl)) rfl
set_option maxRecDepth 10000 in
theorem w_1252 : Cond.instanceMethod yX9_checkOf ∈ lw_gd := gw (tb5 (List.mem_of_getElem? (i := 230) rfl)) rfl
set_option maxRecDepth 10000 in
theorem w_1253 : Cond.code yX9_checkOf cX9_checkOf (5 : Nat) (Option.some FieldType.int) ∈ lw_gd := gw (tb5 (List.mem_of_getElem? (i := 231) rfl)) rfl
set_option maxRecDepth 10000 in
theorem w_1254 : Cond.methodLink RX9 (196 : Nat) yX9_headStamp ∈ lw_gd := gw (tb5 (List.mem_of_getElem? (i := 232) rfl)) rfl
set_option maxRecDepth 10000 in
theorem w_1256 : Cond.instanceMethod yX9_headStamp ∈ lw_gd := gw (tb5 (List.mem_of_getElem? (i := 234) rfl)) rfl
set_option maxRecDepth 10000 in
theorem w_1257 : Cond.code yX9_headStamp cX9_headStamp (5 : Nat) (Option.some FieldType.long) ∈ lw_gd := gw (tb5 (List.mem_of_getElem? (i := 235) rfl)) rfl
set_option maxRecDepth 10000 in
theorem w_1258 : Cond.methodLink RX9 (229 : Nat) yX9_headBits ∈ lw_gd := gw (tb5 (List.mem_of_getElem? (i := 236) rfl)) rfl
set_option maxRecDepth 10000 in
theorem w_126 : Cond.instantiable RX1 (14 : Nat) ∈ lw_gd := gw (tb1 (List.mem_of_getElem? (i := 64) rfl)) rfl
set_option maxRecDepth 10000 in
theorem w_1260 : Cond.instanceMethod yX9_headBits ∈ lw_gd := gw (tb5 (List.mem_of_getElem? (i := 238) rfl)) rfl
set_option maxRecDepth 10000 in
theorem w_1261 : Cond.code yX9_headBits cX9_headBits (5 : Nat) (Option.some FieldType.long) ∈ lw_gd := gw (tb5 (List.mem_of_getElem? (i := 239) rfl)) rfl
set_option maxRecDepth 10000 in
theorem w_1262 : Cond.methodLink RX9 (192 : Nat) yX9_heads ∈ lw_gd := gw (tb6 (List.mem_of_getElem? (i := 0) rfl)) rfl
set_option maxRecDepth 10000 in
theorem w_1264 : Cond.instanceMethod yX9_heads ∈ lw_gd := gw (tb6 (List.mem_of_getElem? (i := 2) rfl)) rfl
set_option maxRecDepth 10000 in
theorem w_1265 : Cond.code yX9_heads cX9_heads (5 : Nat) (Option.none : Option FieldType) ∈ lw_gd := gw (tb6 (List.mem_of_getElem? (i := 3) rfl)) rfl
set_option maxRecDepth 10000 in
theorem w_1266 : Cond.methodLink RX9 (232 : Nat) yX9_keepsOne ∈ lw_gd := gw (tb6 (List.mem_of_getElem? (i := 4) rfl)) rfl
set_option maxRecDepth 10000 in
theorem w_1268 : Cond.instanceMethod yX9_keepsOne ∈ lw_gd := gw (tb6 (List.mem_of_getElem? (i := 6) rfl)) rfl
set_option maxRecDepth 10000 in
theorem w_1269 : Cond.code yX9_keepsOne cX9_keepsOne (2 : Nat) (Option.none : Option FieldType) ∈ lw_gd := gw (tb6 (List.mem_of_getElem? (i := 7) rfl)) rfl
set_option maxRecDepth 10000 in
theorem w_1270 : Cond.methodLink RX9 (236 : Nat) yX9_readsOne ∈ lw_gd := gw (tb6 (List.mem_of_getElem? (i := 8) rfl)) rfl
set_option maxRecDepth 10000 in
theorem w_1272 : Cond.instanceMethod yX9_readsOne ∈ lw_gd := gw (tb6 (List.mem_of_getElem? (i := 10) rfl)) rfl
set_option maxRecDepth 10000 in
theorem w_1273 : Cond.code yX9_readsOne cX9_readsOne (13 : Nat) (Option.some FieldType.int) ∈ lw_gd := gw (tb6 (List.mem_of_getElem? (i := 11) rfl)) rfl
set_option maxRecDepth 10000 in
theorem w_1274 : Cond.methodLink RX9 (215 : Nat) yX9_gets ∈ lw_gd := gw (tb6 (List.mem_of_getElem? (i := 12) rfl)) rfl
set_option maxRecDepth 10000 in
theorem w_1276 : Cond.instanceMethod yX9_gets ∈ lw_gd := gw (tb6 (List.mem_of_getElem? (i := 14) rfl)) rfl
set_option maxRecDepth 10000 in
theorem w_1277 : Cond.code yX9_gets cX9_gets (6 : Nat) (Option.some FieldType.long) ∈ lw_gd := gw (tb6 (List.mem_of_getElem? (i := 15) rfl)) rfl
set_option maxRecDepth 10000 in
theorem w_1278 : Cond.methodLink RX9 (212 : Nat) yX9_bitAt ∈ lw_gd := gw (tb6 (List.mem_of_getElem? (i := 16) rfl)) rfl
set_option maxRecDepth 10000 in
theorem w_128 : Cond.instanceMethod yX1_init ∈ lw_gd := gw (tb1 (List.mem_of_getElem? (i := 66) rfl)) rfl
set_option maxRecDepth 10000 in
theorem w_1280 : Cond.instanceMethod yX9_bitAt ∈ lw_gd := gw (tb6 (List.mem_of_getElem? (i := 18) rfl)) rfl
set_option maxRecDepth 10000 in
theorem w_1281 : Cond.code yX9_bitAt cX9_bitAt (3 : Nat) (Option.some FieldType.int) ∈ lw_gd := gw (tb6 (List.mem_of_getElem? (i := 19) rfl)) rfl
set_option maxRecDepth 10000 in
theorem w_1282 : Cond.methodLink RX9 (169 : Nat) yX9_wideOf ∈ lw_gd := gw (tb6 (List.mem_of_getElem? (i := 20) rfl)) rfl
set_option maxRecDepth 10000 in
theorem w_1283 : Cond.static yX9_wideOf ∈ lw_gd := gw (tb6 (List.mem_of_getElem? (i := 21) rfl)) rfl
set_option maxRecDepth 10000 in
theorem w_1284 : Cond.code yX9_wideOf cX9_wideOf (1 : Nat) (Option.some FieldType.int) ∈ lw_gd := gw (tb6 (List.mem_of_getElem? (i := 22) rfl)) rfl
set_option maxRecDepth 10000 in
theorem w_1285 : Cond.methodLink RX9 (219 : Nat) yX9_signed ∈ lw_gd := gw (tb6 (List.mem_of_getElem? (i := 23) rfl)) rfl
set_option maxRecDepth 10000 in
theorem w_1286 : Cond.static yX9_signed ∈ lw_gd := gw (tb6 (List.mem_of_getElem? (i := 24) rfl)) rfl
set_option maxRecDepth 10000 in
theorem w_1287 : Cond.code yX9_signed cX9_signed (5 : Nat) (Option.some FieldType.long) ∈ lw_gd := gw (tb6 (List.mem_of_getElem? (i := 25) rfl)) rfl
set_option maxRecDepth 10000 in
theorem w_1288 : Cond.constantLong RX9 (113 : Nat) (64 : Int64) ∈ lw_gd := gw (tb6 (List.mem_of_getElem? (i := 26) rfl)) rfl
set_option maxRecDepth 10000 in
theorem w_1289 : Cond.constantLong RX9 (117 : Nat) (256 : Int64) ∈ lw_gd := gw (tb6 (List.mem_of_getElem? (i := 27) rfl)) rfl
set_option maxRecDepth 10000 in
theorem w_129 : Cond.code yX1_init cX1_init (1 : Nat) (Option.none : Option FieldType) ∈ lw_gd := gw (tb1 (List.mem_of_getElem? (i := 67) rfl)) rfl
set_option maxRecDepth 10000 in
theorem w_1290 : Cond.constantLong RX9 (121 : Nat) (2048 : Int64) ∈ lw_gd := gw (tb6 (List.mem_of_getElem? (i := 28) rfl)) rfl
set_option maxRecDepth 10000 in
theorem w_1291 : Cond.constantLong RX9 (178 : Nat) (2 : Int64) ∈ lw_gd := gw (tb6 (List.mem_of_getElem? (i := 29) rfl)) rfl
set_option maxRecDepth 10000 in
theorem w_1292 : Cond.methodLink RX9 (156 : Nat) yX9_classOf ∈ lw_gd := gw (tb6 (List.mem_of_getElem? (i := 30) rfl)) rfl
set_option maxRecDepth 10000 in
theorem w_1293 : Cond.static yX9_classOf ∈ lw_gd := gw (tb6 (List.mem_of_getElem? (i := 31) rfl)) rfl
set_option maxRecDepth 10000 in
theorem w_1294 : Cond.code yX9_classOf cX9_classOf (2 : Nat) (Option.some FieldType.int) ∈ lw_gd := gw (tb6 (List.mem_of_getElem? (i := 32) rfl)) rfl
set_option maxRecDepth 10000 in
theorem w_1295 : Cond.constantLong RX9 (111 : Nat) (-63 : Int64) ∈ lw_gd := gw (tb6 (List.mem_of_getElem? (i := 33) rfl)) rfl
set_option maxRecDepth 10000 in
theorem w_1296 : Cond.constantLong RX9 (115 : Nat) (-255 : Int64) ∈ lw_gd := gw (tb6 (List.mem_of_getElem? (i := 34) rfl)) rfl
set_option maxRecDepth 10000 in
theorem w_1297 : Cond.constantLong RX9 (119 : Nat) (-2047 : Int64) ∈ lw_gd := gw (tb6 (List.mem_of_getElem? (i := 35) rfl)) rfl
set_option maxRecDepth 10000 in
theorem w_1298 : Cond.methodLink RX9 (162 : Nat) yX9_wayOf ∈ lw_gd := gw (tb6 (List.mem_of_getElem? (i := 36) rfl)) rfl
set_option maxRecDepth 10000 in
theorem w_13 : Cond.selects RX2 yX2_tryChange yX2_tryChange ∈ lw_gd := gw (List.mem_append_left _ (List.mem_of_getElem? (i := 13) rfl)) rfl
set_option maxRecDepth 10000 in
theorem w_130 : Cond.methodLink RX1 (3 : Nat) Lib.objectInit ∈ lw_gd := gw (tb1 (List.mem_of_getElem? (i := 68) rfl)) rfl
set_option maxRecDepth 10000 in
theorem w_1300 : Cond.instanceMethod yX9_wayOf ∈ lw_gd := gw (tb6 (List.mem_of_getElem? (i := 38) rfl)) rfl
set_option maxRecDepth 10000 in
theorem w_1301 : Cond.code yX9_wayOf cX9_wayOf (6 : Nat) (Option.some FieldType.int) ∈ lw_gd := gw (tb6 (List.mem_of_getElem? (i := 39) rfl)) rfl
set_option maxRecDepth 10000 in
theorem w_1302 : Cond.methodLink RX9 (123 : Nat) yJ13_numberOfLeadingZeros_95d88 ∈ lw_gd := gw (tb6 (List.mem_of_getElem? (i := 40) rfl)) rfl
set_option maxRecDepth 10000 in
theorem w_1303 : Cond.methodLink RX9 (127 : Nat) yJ13_numberOfTrailingZeros_95d88 ∈ lw_gd := gw (tb6 (List.mem_of_getElem? (i := 41) rfl)) rfl
set_option maxRecDepth 10000 in
theorem w_1304 : Cond.methodLink RX9 (146 : Nat) yX9_aheadOf ∈ lw_gd := gw (tb6 (List.mem_of_getElem? (i := 42) rfl)) rfl
set_option maxRecDepth 10000 in
theorem w_1305 : Cond.static yX9_aheadOf ∈ lw_gd := gw (tb6 (List.mem_of_getElem? (i := 43) rfl)) rfl
set_option maxRecDepth 10000 in
theorem w_1306 : Cond.code yX9_aheadOf cX9_aheadOf (2 : Nat) (Option.some FieldType.int) ∈ lw_gd := gw (tb6 (List.mem_of_getElem? (i := 44) rfl)) rfl
set_option maxRecDepth 10000 in
theorem w_1307 : Cond.methodLink RX9 (141 : Nat) yJ9_min_7cf53 ∈ lw_gd := gw (tb6 (List.mem_of_getElem? (i := 45) rfl)) rfl
set_option maxRecDepth 10000 in
theorem w_1308 : Cond.methodLink RX9 (268 : Nat) yX9_comes ∈ lw_gd := gw (tb6 (List.mem_of_getElem? (i := 46) rfl)) rfl
set_option maxRecDepth 10000 in
theorem w_131 : Cond.fieldLink RX1 (15 : Nat) "SeriesPress$Coder" "stamp" "I" ∈ lw_gd := gw (tb1 (List.mem_of_getElem? (i := 69) rfl)) rfl
set_option maxRecDepth 10000 in
theorem w_1310 : Cond.instanceMethod yX9_comes ∈ lw_gd := gw (tb6 (List.mem_of_getElem? (i := 48) rfl)) rfl
set_option maxRecDepth 10000 in
theorem w_1311 : Cond.code yX9_comes cX9_comes (8 : Nat) (Option.some FieldType.boolean) ∈ lw_gd := gw (tb6 (List.mem_of_getElem? (i := 49) rfl)) rfl
set_option maxRecDepth 10000 in
theorem w_1312 : Cond.methodLink RX9 (254 : Nat) yX9_takesBits ∈ lw_gd := gw (tb6 (List.mem_of_getElem? (i := 50) rfl)) rfl
set_option maxRecDepth 10000 in
theorem w_1314 : Cond.instanceMethod yX9_takesBits ∈ lw_gd := gw (tb6 (List.mem_of_getElem? (i := 52) rfl)) rfl
set_option maxRecDepth 10000 in
theorem w_1315 : Cond.code yX9_takesBits cX9_takesBits (9 : Nat) (Option.some FieldType.int) ∈ lw_gd := gw (tb6 (List.mem_of_getElem? (i := 53) rfl)) rfl
set_option maxRecDepth 10000 in
theorem w_1316 : Cond.methodLink RX9 (165 : Nat) yX9_signsOf ∈ lw_gd := gw (tb6 (List.mem_of_getElem? (i := 54) rfl)) rfl
set_option maxRecDepth 10000 in
theorem w_1317 : Cond.static yX9_signsOf ∈ lw_gd := gw (tb6 (List.mem_of_getElem? (i := 55) rfl)) rfl
set_option maxRecDepth 10000 in
theorem w_1318 : Cond.code yX9_signsOf cX9_signsOf (1 : Nat) (Option.some FieldType.int) ∈ lw_gd := gw (tb6 (List.mem_of_getElem? (i := 56) rfl)) rfl
set_option maxRecDepth 10000 in
theorem w_1319 : Cond.methodLink RX9 (172 : Nat) yX9_wideAnew ∈ lw_gd := gw (tb6 (List.mem_of_getElem? (i := 57) rfl)) rfl
set_option maxRecDepth 10000 in
theorem w_132 : Cond.fieldLink RX6 (79 : Nat) "SeriesPress$Coder" "stamp" "I" ∈ lw_gd := gw (tb1 (List.mem_of_getElem? (i := 70) rfl)) rfl
set_option maxRecDepth 10000 in
theorem w_1320 : Cond.static yX9_wideAnew ∈ lw_gd := gw (tb6 (List.mem_of_getElem? (i := 58) rfl)) rfl
set_option maxRecDepth 10000 in
theorem w_1321 : Cond.code yX9_wideAnew cX9_wideAnew (2 : Nat) (Option.some FieldType.int) ∈ lw_gd := gw (tb6 (List.mem_of_getElem? (i := 59) rfl)) rfl
set_option maxRecDepth 10000 in
theorem w_1322 : Cond.methodLink RX9 (258 : Nat) yX9_writes ∈ lw_gd := gw (tb6 (List.mem_of_getElem? (i := 60) rfl)) rfl
set_option maxRecDepth 10000 in
theorem w_1324 : Cond.instanceMethod yX9_writes ∈ lw_gd := gw (tb6 (List.mem_of_getElem? (i := 62) rfl)) rfl
set_option maxRecDepth 10000 in
theorem w_1325 : Cond.code yX9_writes cX9_writes (13 : Nat) (Option.none : Option FieldType) ∈ lw_gd := gw (tb6 (List.mem_of_getElem? (i := 63) rfl)) rfl
set_option maxRecDepth 10000 in
theorem w_1326 : Cond.constantLong RX9 (180 : Nat) (6 : Int64) ∈ lw_gd := gw (tb6 (List.mem_of_getElem? (i := 64) rfl)) rfl
set_option maxRecDepth 10000 in
theorem w_1327 : Cond.constantLong RX9 (182 : Nat) (14 : Int64) ∈ lw_gd := gw (tb6 (List.mem_of_getElem? (i := 65) rfl)) rfl
set_option maxRecDepth 10000 in
theorem w_1328 : Cond.constantLong RX9 (184 : Nat) (15 : Int64) ∈ lw_gd := gw (tb6 (List.mem_of_getElem? (i := 66) rfl)) rfl
set_option maxRecDepth 10000 in
theorem w_1329 : Cond.methodLink RX9 (186 : Nat) yX9_puts ∈ lw_gd := gw (tb6 (List.mem_of_getElem? (i := 67) rfl)) rfl
set_option maxRecDepth 10000 in
theorem w_133 : Cond.fieldLink RX8 (153 : Nat) "SeriesPress$Coder" "stamp" "I" ∈ lw_gd := gw (tb1 (List.mem_of_getElem? (i := 71) rfl)) rfl
set_option maxRecDepth 10000 in
theorem w_1331 : Cond.instanceMethod yX9_puts ∈ lw_gd := gw (tb6 (List.mem_of_getElem? (i := 69) rfl)) rfl
set_option maxRecDepth 10000 in
theorem w_1332 : Cond.code yX9_puts cX9_puts (7 : Nat) (Option.none : Option FieldType) ∈ lw_gd := gw (tb6 (List.mem_of_getElem? (i := 70) rfl)) rfl
set_option maxRecDepth 10000 in
theorem w_1333 : Cond.methodLink RX9 (262 : Nat) yX9_seals0 ∈ lw_gd := gw (tb6 (List.mem_of_getElem? (i := 71) rfl)) rfl
set_option maxRecDepth 10000 in
theorem w_1335 : Cond.instanceMethod yX9_seals0 ∈ lw_gd := gw (tb6 (List.mem_of_getElem? (i := 73) rfl)) rfl
set_option maxRecDepth 10000 in
theorem w_1336 : Cond.code yX9_seals0 cX9_seals0 (2 : Nat) (Option.none : Option FieldType) ∈ lw_gd := gw (tb6 (List.mem_of_getElem? (i := 74) rfl)) rfl
set_option maxRecDepth 10000 in
theorem w_1337 : Cond.methodLink RX9 (265 : Nat) yX9_writesHead ∈ lw_gd := gw (tb6 (List.mem_of_getElem? (i := 75) rfl)) rfl
set_option maxRecDepth 10000 in
theorem w_1339 : Cond.instanceMethod yX9_writesHead ∈ lw_gd := gw (tb6 (List.mem_of_getElem? (i := 77) rfl)) rfl
set_option maxRecDepth 10000 in
theorem w_134 : Cond.fieldLink RX7 (139 : Nat) "SeriesPress$Coder" "stamp" "I" ∈ lw_gd := gw (tb1 (List.mem_of_getElem? (i := 72) rfl)) rfl
set_option maxRecDepth 10000 in
theorem w_1340 : Cond.code yX9_writesHead cX9_writesHead (7 : Nat) (Option.none : Option FieldType) ∈ lw_gd := gw (tb6 (List.mem_of_getElem? (i := 78) rfl)) rfl
set_option maxRecDepth 10000 in
theorem w_1341 : Cond.constantLong RX9 (190 : Nat) (255 : Int64) ∈ lw_gd := gw (tb6 (List.mem_of_getElem? (i := 79) rfl)) rfl
set_option maxRecDepth 10000 in
theorem w_1342 : Cond.methodLink RL (32 : Nat) yX9_would ∈ lw_gd := gw (tb6 (List.mem_of_getElem? (i := 80) rfl)) rfl
set_option maxRecDepth 10000 in
theorem w_1343 : Cond.instanceMethod yX9_would ∈ lw_gd := gw (tb6 (List.mem_of_getElem? (i := 81) rfl)) rfl
set_option maxRecDepth 10000 in
theorem w_1344 : Cond.selects RX9 yX9_would yX9_would ∈ lw_gd := gw (tb6 (List.mem_of_getElem? (i := 82) rfl)) rfl
set_option maxRecDepth 10000 in
theorem w_1345 : Cond.code yX9_would cX9_would (7 : Nat) (Option.some FieldType.int) ∈ lw_gd := gw (tb6 (List.mem_of_getElem? (i := 83) rfl)) rfl
set_option maxRecDepth 10000 in
theorem w_1346 : Cond.methodLink RL (28 : Nat) yX9_late ∈ lw_gd := gw (tb6 (List.mem_of_getElem? (i := 84) rfl)) rfl
set_option maxRecDepth 10000 in
theorem w_1347 : Cond.instanceMethod yX9_late ∈ lw_gd := gw (tb6 (List.mem_of_getElem? (i := 85) rfl)) rfl
set_option maxRecDepth 10000 in
theorem w_1348 : Cond.selects RX9 yX9_late yX9_late ∈ lw_gd := gw (tb6 (List.mem_of_getElem? (i := 86) rfl)) rfl
set_option maxRecDepth 10000 in
theorem w_1349 : Cond.code yX9_late cX9_late (6 : Nat) (Option.some FieldType.int) ∈ lw_gd := gw (tb6 (List.mem_of_getElem? (i := 87) rfl)) rfl
set_option maxRecDepth 10000 in
theorem w_135 : Cond.fieldLink RX1 (22 : Nat) "SeriesPress$Coder" "far" "I" ∈ lw_gd := gw (tb1 (List.mem_of_getElem? (i := 73) rfl)) rfl
set_option maxRecDepth 10000 in
theorem w_1350 : Cond.methodLink RX9 (288 : Nat) yJ9_max_7cf53 ∈ lw_gd := gw (tb6 (List.mem_of_getElem? (i := 88) rfl)) rfl
set_option maxRecDepth 10000 in
theorem w_1351 : Cond.methodLink RL (37 : Nat) yX9_merge ∈ lw_gd := gw (tb6 (List.mem_of_getElem? (i := 89) rfl)) rfl
set_option maxRecDepth 10000 in
theorem w_1352 : Cond.instanceMethod yX9_merge ∈ lw_gd := gw (tb6 (List.mem_of_getElem? (i := 90) rfl)) rfl
set_option maxRecDepth 10000 in
theorem w_1353 : Cond.selects RX9 yX9_merge yX9_merge ∈ lw_gd := gw (tb6 (List.mem_of_getElem? (i := 91) rfl)) rfl
set_option maxRecDepth 10000 in
theorem w_1354 : Cond.code yX9_merge cX9_merge (2 : Nat) (Option.some FieldType.int) ∈ lw_gd := gw (tb6 (List.mem_of_getElem? (i := 92) rfl)) rfl
set_option maxRecDepth 10000 in
theorem w_1355 : Cond.methodLink RX9 (291 : Nat) yX9_repack ∈ lw_gd := gw (tb6 (List.mem_of_getElem? (i := 93) rfl)) rfl
set_option maxRecDepth 10000 in
theorem w_1356 : Cond.instanceMethod yX9_repack ∈ lw_gd := gw (tb6 (List.mem_of_getElem? (i := 94) rfl)) rfl
set_option maxRecDepth 10000 in
theorem w_1357 : Cond.selects RX9 yX9_repack yX9_repack ∈ lw_gd := gw (tb6 (List.mem_of_getElem? (i := 95) rfl)) rfl
set_option maxRecDepth 10000 in
theorem w_1358 : Cond.code yX9_repack cX9_repack (3 : Nat) (Option.some FieldType.int) ∈ lw_gd := gw (tb6 (List.mem_of_getElem? (i := 96) rfl)) rfl
set_option maxRecDepth 10000 in
theorem w_1359 : Cond.methodLink RX9 (294 : Nat) yX9_hasBroken ∈ lw_gd := gw (tb6 (List.mem_of_getElem? (i := 97) rfl)) rfl
set_option maxRecDepth 10000 in
theorem w_136 : Cond.fieldLink RX6 (97 : Nat) "SeriesPress$Coder" "far" "I" ∈ lw_gd := gw (tb1 (List.mem_of_getElem? (i := 74) rfl)) rfl
set_option maxRecDepth 10000 in
theorem w_1361 : Cond.instanceMethod yX9_hasBroken ∈ lw_gd := gw (tb6 (List.mem_of_getElem? (i := 99) rfl)) rfl
set_option maxRecDepth 10000 in
theorem w_1362 : Cond.code yX9_hasBroken cX9_hasBroken (3 : Nat) (Option.some FieldType.boolean) ∈ lw_gd := gw (tb6 (List.mem_of_getElem? (i := 100) rfl)) rfl
set_option maxRecDepth 10000 in
theorem w_1363 : Cond.methodLink RX9 (245 : Nat) yX9_isBroken ∈ lw_gd := gw (tb6 (List.mem_of_getElem? (i := 101) rfl)) rfl
set_option maxRecDepth 10000 in
theorem w_1365 : Cond.instanceMethod yX9_isBroken ∈ lw_gd := gw (tb6 (List.mem_of_getElem? (i := 103) rfl)) rfl
set_option maxRecDepth 10000 in
theorem w_1366 : Cond.code yX9_isBroken cX9_isBroken (2 : Nat) (Option.some FieldType.boolean) ∈ lw_gd := gw (tb6 (List.mem_of_getElem? (i := 104) rfl)) rfl
set_option maxRecDepth 10000 in
theorem w_1367 : Cond.methodLink RX9 (297 : Nat) yX9_gathers ∈ lw_gd := gw (tb6 (List.mem_of_getElem? (i := 105) rfl)) rfl
set_option maxRecDepth 10000 in
theorem w_1369 : Cond.instanceMethod yX9_gathers ∈ lw_gd := gw (tb6 (List.mem_of_getElem? (i := 107) rfl)) rfl
set_option maxRecDepth 10000 in
theorem w_137 : Cond.fieldLink RX1 (18 : Nat) "SeriesPress$Coder" "value" "J" ∈ lw_gd := gw (tb1 (List.mem_of_getElem? (i := 75) rfl)) rfl
set_option maxRecDepth 10000 in
theorem w_1370 : Cond.code yX9_gathers cX9_gathers (5 : Nat) (Option.none : Option FieldType) ∈ lw_gd := gw (tb6 (List.mem_of_getElem? (i := 108) rfl)) rfl
set_option maxRecDepth 10000 in
theorem w_1371 : Cond.methodLink RX9 (251 : Nat) yX9_firstNot ∈ lw_gd := gw (tb6 (List.mem_of_getElem? (i := 109) rfl)) rfl
set_option maxRecDepth 10000 in
theorem w_1373 : Cond.instanceMethod yX9_firstNot ∈ lw_gd := gw (tb6 (List.mem_of_getElem? (i := 111) rfl)) rfl
set_option maxRecDepth 10000 in
theorem w_1374 : Cond.code yX9_firstNot cX9_firstNot (6 : Nat) (Option.some FieldType.int) ∈ lw_gd := gw (tb6 (List.mem_of_getElem? (i := 112) rfl)) rfl
set_option maxRecDepth 10000 in
theorem w_1375 : Cond.methodLink RX9 (300 : Nat) yX9_lays ∈ lw_gd := gw (tb6 (List.mem_of_getElem? (i := 113) rfl)) rfl
set_option maxRecDepth 10000 in
theorem w_1377 : Cond.instanceMethod yX9_lays ∈ lw_gd := gw (tb6 (List.mem_of_getElem? (i := 115) rfl)) rfl
set_option maxRecDepth 10000 in
theorem w_1378 : Cond.code yX9_lays cX9_lays (3 : Nat) (Option.some FieldType.int) ∈ lw_gd := gw (tb6 (List.mem_of_getElem? (i := 116) rfl)) rfl
set_option maxRecDepth 10000 in
theorem w_1379 : Cond.methodLink RX9 (272 : Nat) yX9_packs ∈ lw_gd := gw (tb6 (List.mem_of_getElem? (i := 117) rfl)) rfl
set_option maxRecDepth 10000 in
theorem w_138 : Cond.fieldLink RX6 (105 : Nat) "SeriesPress$Coder" "value" "J" ∈ lw_gd := gw (tb1 (List.mem_of_getElem? (i := 76) rfl)) rfl
set_option maxRecDepth 10000 in
theorem w_1381 : Cond.instanceMethod yX9_packs ∈ lw_gd := gw (tb6 (List.mem_of_getElem? (i := 119) rfl)) rfl
set_option maxRecDepth 10000 in
theorem w_1382 : Cond.code yX9_packs cX9_packs (3 : Nat) (Option.some FieldType.boolean) ∈ lw_gd := gw (tb6 (List.mem_of_getElem? (i := 120) rfl)) rfl
set_option maxRecDepth 10000 in
theorem w_1383 : Cond.methodLink RX9 (275 : Nat) yX9_copiesTo ∈ lw_gd := gw (tb6 (List.mem_of_getElem? (i := 121) rfl)) rfl
set_option maxRecDepth 10000 in
theorem w_1385 : Cond.instanceMethod yX9_copiesTo ∈ lw_gd := gw (tb6 (List.mem_of_getElem? (i := 123) rfl)) rfl
set_option maxRecDepth 10000 in
theorem w_1386 : Cond.code yX9_copiesTo cX9_copiesTo (4 : Nat) (Option.none : Option FieldType) ∈ lw_gd := gw (tb6 (List.mem_of_getElem? (i := 124) rfl)) rfl
set_option maxRecDepth 10000 in
theorem w_1387 : Cond.methodLink RL (123 : Nat) yX9_repack ∈ lw_gd := gw (tb6 (List.mem_of_getElem? (i := 125) rfl)) rfl
set_option maxRecDepth 10000 in
theorem w_1388 : Cond.methodLink RL (41 : Nat) yX9_count ∈ lw_gd := gw (tb6 (List.mem_of_getElem? (i := 126) rfl)) rfl
set_option maxRecDepth 10000 in
theorem w_1389 : Cond.instanceMethod yX9_count ∈ lw_gd := gw (tb6 (List.mem_of_getElem? (i := 127) rfl)) rfl
set_option maxRecDepth 10000 in
theorem w_139 : Cond.fieldLink RX7 (142 : Nat) "SeriesPress$Coder" "value" "J" ∈ lw_gd := gw (tb1 (List.mem_of_getElem? (i := 77) rfl)) rfl
set_option maxRecDepth 10000 in
theorem w_1390 : Cond.selects RX9 yX9_count yX9_count ∈ lw_gd := gw (tb6 (List.mem_of_getElem? (i := 128) rfl)) rfl
set_option maxRecDepth 10000 in
theorem w_1391 : Cond.code yX9_count cX9_count (7 : Nat) (Option.some FieldType.int) ∈ lw_gd := gw (tb6 (List.mem_of_getElem? (i := 129) rfl)) rfl
set_option maxRecDepth 10000 in
theorem w_1392 : Cond.methodLink RX9 (303 : Nat) yX9_bytesOf ∈ lw_gd := gw (tb6 (List.mem_of_getElem? (i := 130) rfl)) rfl
set_option maxRecDepth 10000 in
theorem w_1394 : Cond.instanceMethod yX9_bytesOf ∈ lw_gd := gw (tb6 (List.mem_of_getElem? (i := 132) rfl)) rfl
set_option maxRecDepth 10000 in
theorem w_1395 : Cond.code yX9_bytesOf cX9_bytesOf (4 : Nat) (Option.some FieldType.int) ∈ lw_gd := gw (tb6 (List.mem_of_getElem? (i := 133) rfl)) rfl
set_option maxRecDepth 10000 in
theorem w_1396 : Cond.methodLink RL (46 : Nat) yX9_block ∈ lw_gd := gw (tb6 (List.mem_of_getElem? (i := 134) rfl)) rfl
set_option maxRecDepth 10000 in
theorem w_1397 : Cond.instanceMethod yX9_block ∈ lw_gd := gw (tb6 (List.mem_of_getElem? (i := 135) rfl)) rfl
set_option maxRecDepth 10000 in
theorem w_1398 : Cond.selects RX9 yX9_block yX9_block ∈ lw_gd := gw (tb6 (List.mem_of_getElem? (i := 136) rfl)) rfl
set_option maxRecDepth 10000 in
theorem w_1399 : Cond.code yX9_block cX9_block (5 : Nat) (Option.some FieldType.int) ∈ lw_gd := gw (tb6 (List.mem_of_getElem? (i := 137) rfl)) rfl
set_option maxRecDepth 10000 in
theorem w_14 : Cond.selects RX5 yX5_keep yX5_keep ∈ lw_gd := gw (List.mem_append_left _ (List.mem_of_getElem? (i := 14) rfl)) rfl
set_option maxRecDepth 10000 in
theorem w_140 : Cond.fieldLink RX1 (9 : Nat) "SeriesPress$Coder" "lead" "I" ∈ lw_gd := gw (tb1 (List.mem_of_getElem? (i := 78) rfl)) rfl
set_option maxRecDepth 10000 in
theorem w_1400 : Cond.methodLink RX9 (306 : Nat) yX9_isBlock ∈ lw_gd := gw (tb6 (List.mem_of_getElem? (i := 138) rfl)) rfl
set_option maxRecDepth 10000 in
theorem w_1402 : Cond.instanceMethod yX9_isBlock ∈ lw_gd := gw (tb6 (List.mem_of_getElem? (i := 140) rfl)) rfl
set_option maxRecDepth 10000 in
theorem w_1403 : Cond.code yX9_isBlock cX9_isBlock (3 : Nat) (Option.some FieldType.boolean) ∈ lw_gd := gw (tb6 (List.mem_of_getElem? (i := 141) rfl)) rfl
set_option maxRecDepth 10000 in
theorem w_1404 : Cond.constantLong RX9 (309 : Nat) (5 : Int64) ∈ lw_gd := gw (tb6 (List.mem_of_getElem? (i := 142) rfl)) rfl
set_option maxRecDepth 10000 in
theorem w_1405 : Cond.methodLink RL (50 : Nat) yX9_octet ∈ lw_gd := gw (tb6 (List.mem_of_getElem? (i := 143) rfl)) rfl
set_option maxRecDepth 10000 in
theorem w_1406 : Cond.instanceMethod yX9_octet ∈ lw_gd := gw (tb6 (List.mem_of_getElem? (i := 144) rfl)) rfl
set_option maxRecDepth 10000 in
theorem w_1407 : Cond.selects RX9 yX9_octet yX9_octet ∈ lw_gd := gw (tb6 (List.mem_of_getElem? (i := 145) rfl)) rfl
set_option maxRecDepth 10000 in
theorem w_1408 : Cond.code yX9_octet cX9_octet (4 : Nat) (Option.some FieldType.int) ∈ lw_gd := gw (tb6 (List.mem_of_getElem? (i := 146) rfl)) rfl
set_option maxRecDepth 10000 in
theorem w_1409 : Cond.methodLink RL (54 : Nat) yX9_fault ∈ lw_gd := gw (tb6 (List.mem_of_getElem? (i := 147) rfl)) rfl
set_option maxRecDepth 10000 in
theorem w_141 : Cond.fieldLink RX0 (82 : Nat) "SeriesPress$Coder" "lead" "I" ∈ lw_gd := gw (tb1 (List.mem_of_getElem? (i := 79) rfl)) rfl
set_option maxRecDepth 10000 in
theorem w_1410 : Cond.instanceMethod yX9_fault ∈ lw_gd := gw (tb6 (List.mem_of_getElem? (i := 148) rfl)) rfl
set_option maxRecDepth 10000 in
theorem w_1411 : Cond.selects RX9 yX9_fault yX9_fault ∈ lw_gd := gw (tb6 (List.mem_of_getElem? (i := 149) rfl)) rfl
set_option maxRecDepth 10000 in
theorem w_1412 : Cond.code yX9_fault cX9_fault (4 : Nat) (Option.some FieldType.int) ∈ lw_gd := gw (tb6 (List.mem_of_getElem? (i := 150) rfl)) rfl
set_option maxRecDepth 10000 in
theorem w_1413 : Cond.methodLink RL (59 : Nat) yX9_damage ∈ lw_gd := gw (tb6 (List.mem_of_getElem? (i := 151) rfl)) rfl
set_option maxRecDepth 10000 in
theorem w_1414 : Cond.instanceMethod yX9_damage ∈ lw_gd := gw (tb6 (List.mem_of_getElem? (i := 152) rfl)) rfl
set_option maxRecDepth 10000 in
theorem w_1415 : Cond.selects RX9 yX9_damage yX9_damage ∈ lw_gd := gw (tb6 (List.mem_of_getElem? (i := 153) rfl)) rfl
set_option maxRecDepth 10000 in
theorem w_1416 : Cond.code yX9_damage cX9_damage (7 : Nat) (Option.some FieldType.int) ∈ lw_gd := gw (tb6 (List.mem_of_getElem? (i := 154) rfl)) rfl
set_option maxRecDepth 10000 in
theorem w_1417 : Cond.methodLink RL (159 : Nat) yX9_mends ∈ lw_gd := gw (tb6 (List.mem_of_getElem? (i := 155) rfl)) rfl
set_option maxRecDepth 10000 in
theorem w_1418 : Cond.instanceMethod yX9_mends ∈ lw_gd := gw (tb6 (List.mem_of_getElem? (i := 156) rfl)) rfl
set_option maxRecDepth 10000 in
theorem w_1419 : Cond.selects RX9 yX9_mends yX9_mends ∈ lw_gd := gw (tb6 (List.mem_of_getElem? (i := 157) rfl)) rfl
set_option maxRecDepth 10000 in
theorem w_142 : Cond.fieldLink RX6 (143 : Nat) "SeriesPress$Coder" "lead" "I" ∈ lw_gd := gw (tb1 (List.mem_of_getElem? (i := 80) rfl)) rfl
set_option maxRecDepth 10000 in
theorem w_1420 : Cond.code yX9_mends cX9_mends (3 : Nat) (Option.some FieldType.int) ∈ lw_gd := gw (tb6 (List.mem_of_getElem? (i := 158) rfl)) rfl
set_option maxRecDepth 10000 in
theorem w_1421 : Cond.methodLink RX9 (317 : Nat) yX9_mendsOf ∈ lw_gd := gw (tb6 (List.mem_of_getElem? (i := 159) rfl)) rfl
set_option maxRecDepth 10000 in
theorem w_1423 : Cond.instanceMethod yX9_mendsOf ∈ lw_gd := gw (tb6 (List.mem_of_getElem? (i := 161) rfl)) rfl
set_option maxRecDepth 10000 in
theorem w_1424 : Cond.code yX9_mendsOf cX9_mendsOf (7 : Nat) (Option.some FieldType.int) ∈ lw_gd := gw (tb6 (List.mem_of_getElem? (i := 162) rfl)) rfl
set_option maxRecDepth 10000 in
theorem w_1425 : Cond.methodLink RL (163 : Nat) yX9_mend ∈ lw_gd := gw (tb6 (List.mem_of_getElem? (i := 163) rfl)) rfl
set_option maxRecDepth 10000 in
theorem w_1426 : Cond.instanceMethod yX9_mend ∈ lw_gd := gw (tb6 (List.mem_of_getElem? (i := 164) rfl)) rfl
set_option maxRecDepth 10000 in
theorem w_1427 : Cond.selects RX9 yX9_mend yX9_mend ∈ lw_gd := gw (tb6 (List.mem_of_getElem? (i := 165) rfl)) rfl
set_option maxRecDepth 10000 in
theorem w_1428 : Cond.code yX9_mend cX9_mend (6 : Nat) (Option.some FieldType.int) ∈ lw_gd := gw (tb6 (List.mem_of_getElem? (i := 166) rfl)) rfl
set_option maxRecDepth 10000 in
theorem w_1429 : Cond.methodLink RL (167 : Nat) yX9_seals ∈ lw_gd := gw (tb6 (List.mem_of_getElem? (i := 167) rfl)) rfl
set_option maxRecDepth 10000 in
theorem w_143 : Cond.fieldLink RX8 (212 : Nat) "SeriesPress$Coder" "lead" "I" ∈ lw_gd := gw (tb1 (List.mem_of_getElem? (i := 81) rfl)) rfl
set_option maxRecDepth 10000 in
theorem w_1430 : Cond.instanceMethod yX9_seals ∈ lw_gd := gw (tb6 (List.mem_of_getElem? (i := 168) rfl)) rfl
set_option maxRecDepth 10000 in
theorem w_1431 : Cond.selects RX9 yX9_seals yX9_seals ∈ lw_gd := gw (tb6 (List.mem_of_getElem? (i := 169) rfl)) rfl
set_option maxRecDepth 10000 in
theorem w_1432 : Cond.code yX9_seals cX9_seals (3 : Nat) (Option.some FieldType.int) ∈ lw_gd := gw (tb6 (List.mem_of_getElem? (i := 170) rfl)) rfl
set_option maxRecDepth 10000 in
theorem w_1433 : Cond.methodLink RL (171 : Nat) yX9_drops ∈ lw_gd := gw (tb6 (List.mem_of_getElem? (i := 171) rfl)) rfl
set_option maxRecDepth 10000 in
theorem w_1434 : Cond.instanceMethod yX9_drops ∈ lw_gd := gw (tb6 (List.mem_of_getElem? (i := 172) rfl)) rfl
set_option maxRecDepth 10000 in
theorem w_1435 : Cond.selects RX9 yX9_drops yX9_drops ∈ lw_gd := gw (tb6 (List.mem_of_getElem? (i := 173) rfl)) rfl
set_option maxRecDepth 10000 in
theorem w_1436 : Cond.code yX9_drops cX9_drops (5 : Nat) (Option.some FieldType.int) ∈ lw_gd := gw (tb6 (List.mem_of_getElem? (i := 174) rfl)) rfl
set_option maxRecDepth 10000 in
theorem w_1437 : Cond.methodLink RL (95 : Nat) yX9_ways ∈ lw_gd := gw (tb6 (List.mem_of_getElem? (i := 175) rfl)) rfl
set_option maxRecDepth 10000 in
theorem w_1438 : Cond.instanceMethod yX9_ways ∈ lw_gd := gw (tb6 (List.mem_of_getElem? (i := 176) rfl)) rfl
set_option maxRecDepth 10000 in
theorem w_1439 : Cond.selects RX9 yX9_ways yX9_ways ∈ lw_gd := gw (tb6 (List.mem_of_getElem? (i := 177) rfl)) rfl
set_option maxRecDepth 10000 in
theorem w_144 : Cond.fieldLink RX1 (25 : Nat) "SeriesPress$Coder" "tail" "I" ∈ lw_gd := gw (tb1 (List.mem_of_getElem? (i := 82) rfl)) rfl
set_option maxRecDepth 10000 in
theorem w_1440 : Cond.code yX9_ways cX9_ways (3 : Nat) (Option.some FieldType.int) ∈ lw_gd := gw (tb6 (List.mem_of_getElem? (i := 178) rfl)) rfl
set_option maxRecDepth 10000 in
theorem w_1441 : Cond.constantLong RX9 (320 : Nat) (7 : Int64) ∈ lw_gd := gw (tb6 (List.mem_of_getElem? (i := 179) rfl)) rfl
set_option maxRecDepth 10000 in
theorem w_1442 : Cond.methodLink RX9 (322 : Nat) yX9_counted ∈ lw_gd := gw (tb6 (List.mem_of_getElem? (i := 180) rfl)) rfl
set_option maxRecDepth 10000 in
theorem w_1444 : Cond.instanceMethod yX9_counted ∈ lw_gd := gw (tb6 (List.mem_of_getElem? (i := 182) rfl)) rfl
set_option maxRecDepth 10000 in
theorem w_1445 : Cond.code yX9_counted cX9_counted (6 : Nat) (Option.some FieldType.int) ∈ lw_gd := gw (tb6 (List.mem_of_getElem? (i := 183) rfl)) rfl
set_option maxRecDepth 10000 in
theorem w_1446 : Cond.methodLink RL (99 : Nat) yX9_window ∈ lw_gd := gw (tb6 (List.mem_of_getElem? (i := 184) rfl)) rfl
set_option maxRecDepth 10000 in
theorem w_1447 : Cond.instanceMethod yX9_window ∈ lw_gd := gw (tb6 (List.mem_of_getElem? (i := 185) rfl)) rfl
set_option maxRecDepth 10000 in
theorem w_1448 : Cond.selects RX9 yX9_window yX9_window ∈ lw_gd := gw (tb6 (List.mem_of_getElem? (i := 186) rfl)) rfl
set_option maxRecDepth 10000 in
theorem w_1449 : Cond.code yX9_window cX9_window (3 : Nat) (Option.some FieldType.int) ∈ lw_gd := gw (tb6 (List.mem_of_getElem? (i := 187) rfl)) rfl
set_option maxRecDepth 10000 in
theorem w_145 : Cond.fieldLink RX0 (79 : Nat) "SeriesPress$Coder" "tail" "I" ∈ lw_gd := gw (tb1 (List.mem_of_getElem? (i := 83) rfl)) rfl
set_option maxRecDepth 10000 in
theorem w_1450 : Cond.methodLink RL (147 : Nat) yX9_dearest ∈ lw_gd := gw (tb6 (List.mem_of_getElem? (i := 188) rfl)) rfl
set_option maxRecDepth 10000 in
theorem w_1451 : Cond.instanceMethod yX9_dearest ∈ lw_gd := gw (tb6 (List.mem_of_getElem? (i := 189) rfl)) rfl
set_option maxRecDepth 10000 in
theorem w_1452 : Cond.selects RX9 yX9_dearest yX9_dearest ∈ lw_gd := gw (tb6 (List.mem_of_getElem? (i := 190) rfl)) rfl
set_option maxRecDepth 10000 in
theorem w_1453 : Cond.code yX9_dearest cX9_dearest (7 : Nat) (Option.some FieldType.int) ∈ lw_gd := gw (tb6 (List.mem_of_getElem? (i := 191) rfl)) rfl
set_option maxRecDepth 10000 in
theorem w_1454 : Cond.methodLink RL (63 : Nat) yX9_has ∈ lw_gd := gw (tb6 (List.mem_of_getElem? (i := 192) rfl)) rfl
set_option maxRecDepth 10000 in
theorem w_1455 : Cond.instanceMethod yX9_has ∈ lw_gd := gw (tb6 (List.mem_of_getElem? (i := 193) rfl)) rfl
set_option maxRecDepth 10000 in
theorem w_1456 : Cond.selects RX9 yX9_has yX9_has ∈ lw_gd := gw (tb6 (List.mem_of_getElem? (i := 194) rfl)) rfl
set_option maxRecDepth 10000 in
theorem w_1457 : Cond.code yX9_has cX9_has (3 : Nat) (Option.some FieldType.int) ∈ lw_gd := gw (tb6 (List.mem_of_getElem? (i := 195) rfl)) rfl
set_option maxRecDepth 10000 in
theorem w_1458 : Cond.methodLink RX9 (325 : Nat) yX9_isAsked ∈ lw_gd := gw (tb6 (List.mem_of_getElem? (i := 196) rfl)) rfl
set_option maxRecDepth 10000 in
theorem w_146 : Cond.fieldLink RX6 (142 : Nat) "SeriesPress$Coder" "tail" "I" ∈ lw_gd := gw (tb1 (List.mem_of_getElem? (i := 84) rfl)) rfl
set_option maxRecDepth 10000 in
theorem w_1460 : Cond.instanceMethod yX9_isAsked ∈ lw_gd := gw (tb6 (List.mem_of_getElem? (i := 198) rfl)) rfl
set_option maxRecDepth 10000 in
theorem w_1461 : Cond.code yX9_isAsked cX9_isAsked (3 : Nat) (Option.some FieldType.boolean) ∈ lw_gd := gw (tb6 (List.mem_of_getElem? (i := 199) rfl)) rfl
set_option maxRecDepth 10000 in
theorem w_1462 : Cond.methodLink RX9 (328 : Nat) yX9_placeOf ∈ lw_gd := gw (tb6 (List.mem_of_getElem? (i := 200) rfl)) rfl
set_option maxRecDepth 10000 in
theorem w_1464 : Cond.instanceMethod yX9_placeOf ∈ lw_gd := gw (tb6 (List.mem_of_getElem? (i := 202) rfl)) rfl
set_option maxRecDepth 10000 in
theorem w_1465 : Cond.code yX9_placeOf cX9_placeOf (3 : Nat) (Option.some FieldType.int) ∈ lw_gd := gw (tb6 (List.mem_of_getElem? (i := 203) rfl)) rfl
set_option maxRecDepth 10000 in
theorem w_1466 : Cond.methodLink RL (68 : Nat) yX9_at ∈ lw_gd := gw (tb6 (List.mem_of_getElem? (i := 204) rfl)) rfl
set_option maxRecDepth 10000 in
theorem w_1467 : Cond.instanceMethod yX9_at ∈ lw_gd := gw (tb6 (List.mem_of_getElem? (i := 205) rfl)) rfl
set_option maxRecDepth 10000 in
theorem w_1468 : Cond.selects RX9 yX9_at yX9_at ∈ lw_gd := gw (tb6 (List.mem_of_getElem? (i := 206) rfl)) rfl
set_option maxRecDepth 10000 in
theorem w_1469 : Cond.code yX9_at cX9_at (4 : Nat) (Option.some FieldType.long) ∈ lw_gd := gw (tb6 (List.mem_of_getElem? (i := 207) rfl)) rfl
set_option maxRecDepth 10000 in
theorem w_147 : Cond.fieldLink RX8 (215 : Nat) "SeriesPress$Coder" "tail" "I" ∈ lw_gd := gw (tb1 (List.mem_of_getElem? (i := 85) rfl)) rfl
set_option maxRecDepth 10000 in
theorem w_1470 : Cond.methodLink RL (151 : Nat) yX9_where ∈ lw_gd := gw (tb6 (List.mem_of_getElem? (i := 208) rfl)) rfl
set_option maxRecDepth 10000 in
theorem w_1471 : Cond.instanceMethod yX9_where ∈ lw_gd := gw (tb6 (List.mem_of_getElem? (i := 209) rfl)) rfl
set_option maxRecDepth 10000 in
theorem w_1472 : Cond.selects RX9 yX9_where yX9_where ∈ lw_gd := gw (tb6 (List.mem_of_getElem? (i := 210) rfl)) rfl
set_option maxRecDepth 10000 in
theorem w_1473 : Cond.code yX9_where cX9_where (4 : Nat) (Option.some FieldType.int) ∈ lw_gd := gw (tb6 (List.mem_of_getElem? (i := 211) rfl)) rfl
set_option maxRecDepth 10000 in
theorem w_1474 : Cond.methodLink RL (184 : Nat) yX9_since ∈ lw_gd := gw (tb6 (List.mem_of_getElem? (i := 212) rfl)) rfl
set_option maxRecDepth 10000 in
theorem w_1475 : Cond.instanceMethod yX9_since ∈ lw_gd := gw (tb6 (List.mem_of_getElem? (i := 213) rfl)) rfl
set_option maxRecDepth 10000 in
theorem w_1476 : Cond.selects RX9 yX9_since yX9_since ∈ lw_gd := gw (tb6 (List.mem_of_getElem? (i := 214) rfl)) rfl
set_option maxRecDepth 10000 in
theorem w_1477 : Cond.code yX9_since cX9_since (4 : Nat) (Option.some FieldType.int) ∈ lw_gd := gw (tb6 (List.mem_of_getElem? (i := 215) rfl)) rfl
set_option maxRecDepth 10000 in
theorem w_1478 : Cond.methodLink RL (72 : Nat) yX9_nearest ∈ lw_gd := gw (tb6 (List.mem_of_getElem? (i := 216) rfl)) rfl
set_option maxRecDepth 10000 in
theorem w_1479 : Cond.instanceMethod yX9_nearest ∈ lw_gd := gw (tb6 (List.mem_of_getElem? (i := 217) rfl)) rfl
set_option maxRecDepth 10000 in
theorem w_148 : Cond.fieldLink RX1 (28 : Nat) "SeriesPress$Coder" "nextStamp" "I" ∈ lw_gd := gw (tb1 (List.mem_of_getElem? (i := 86) rfl)) rfl
set_option maxRecDepth 10000 in
theorem w_1480 : Cond.selects RX9 yX9_nearest yX9_nearest ∈ lw_gd := gw (tb6 (List.mem_of_getElem? (i := 218) rfl)) rfl
set_option maxRecDepth 10000 in
theorem w_1481 : Cond.code yX9_nearest cX9_nearest (7 : Nat) (Option.some FieldType.int) ∈ lw_gd := gw (tb6 (List.mem_of_getElem? (i := 219) rfl)) rfl
set_option maxRecDepth 10000 in
theorem w_1482 : Cond.constantLong RX9 (331 : Nat) (-1 : Int64) ∈ lw_gd := gw (tb6 (List.mem_of_getElem? (i := 220) rfl)) rfl
set_option maxRecDepth 10000 in
theorem w_1483 : Cond.methodLink RX9 (333 : Nat) yJ9_abs_067f4 ∈ lw_gd := gw (tb6 (List.mem_of_getElem? (i := 221) rfl)) rfl
set_option maxRecDepth 10000 in
theorem w_1484 : Cond.static yJ9_abs_067f4 ∈ lw_gd := gw (tb6 (List.mem_of_getElem? (i := 222) rfl)) rfl
set_option maxRecDepth 10000 in
theorem w_1485 : Cond.code yJ9_abs_067f4 cJ9_abs_067f4 (2 : Nat) (Option.some FieldType.long) ∈ lw_gd := gw (tb6 (List.mem_of_getElem? (i := 223) rfl)) rfl
set_option maxRecDepth 10000 in
theorem w_1486 : Cond.methodLink RL (77 : Nat) yX9_point ∈ lw_gd := gw (tb6 (List.mem_of_getElem? (i := 224) rfl)) rfl
set_option maxRecDepth 10000 in
theorem w_1487 : Cond.instanceMethod yX9_point ∈ lw_gd := gw (tb6 (List.mem_of_getElem? (i := 225) rfl)) rfl
set_option maxRecDepth 10000 in
theorem w_1488 : Cond.selects RX9 yX9_point yX9_point ∈ lw_gd := gw (tb6 (List.mem_of_getElem? (i := 226) rfl)) rfl
set_option maxRecDepth 10000 in
theorem w_1489 : Cond.code yX9_point cX9_point (4 : Nat) (Option.some FieldType.long) ∈ lw_gd := gw (tb6 (List.mem_of_getElem? (i := 227) rfl)) rfl
set_option maxRecDepth 10000 in
theorem w_149 : Cond.fieldLink RX0 (93 : Nat) "SeriesPress$Coder" "nextStamp" "I" ∈ lw_gd := gw (tb1 (List.mem_of_getElem? (i := 87) rfl)) rfl
set_option maxRecDepth 10000 in
theorem w_1490 : Cond.methodLink RL (81 : Nat) yX9_span ∈ lw_gd := gw (tb6 (List.mem_of_getElem? (i := 228) rfl)) rfl
set_option maxRecDepth 10000 in
theorem w_1491 : Cond.instanceMethod yX9_span ∈ lw_gd := gw (tb6 (List.mem_of_getElem? (i := 229) rfl)) rfl
set_option maxRecDepth 10000 in
theorem w_1492 : Cond.selects RX9 yX9_span yX9_span ∈ lw_gd := gw (tb6 (List.mem_of_getElem? (i := 230) rfl)) rfl
set_option maxRecDepth 10000 in
theorem w_1493 : Cond.code yX9_span cX9_span (10 : Nat) (Option.some FieldType.int) ∈ lw_gd := gw (tb6 (List.mem_of_getElem? (i := 231) rfl)) rfl
set_option maxRecDepth 10000 in
theorem w_1494 : Cond.methodLink RX9 (343 : Nat) yX9_isSpan ∈ lw_gd := gw (tb6 (List.mem_of_getElem? (i := 232) rfl)) rfl
set_option maxRecDepth 10000 in
theorem w_1496 : Cond.instanceMethod yX9_isSpan ∈ lw_gd := gw (tb6 (List.mem_of_getElem? (i := 234) rfl)) rfl
set_option maxRecDepth 10000 in
theorem w_1497 : Cond.code yX9_isSpan cX9_isSpan (4 : Nat) (Option.some FieldType.boolean) ∈ lw_gd := gw (tb6 (List.mem_of_getElem? (i := 235) rfl)) rfl
set_option maxRecDepth 10000 in
theorem w_1498 : Cond.methodLink RX9 (347 : Nat) yX9_opened ∈ lw_gd := gw (tb6 (List.mem_of_getElem? (i := 236) rfl)) rfl
set_option maxRecDepth 10000 in
theorem w_15 : Cond.selects RX5 yX5_countBelow yX5_countBelow ∈ lw_gd := gw (List.mem_append_left _ (List.mem_of_getElem? (i := 15) rfl)) rfl
set_option maxRecDepth 10000 in
theorem w_150 : Cond.fieldLink RX1 (31 : Nat) "SeriesPress$Coder" "nextValue" "J" ∈ lw_gd := gw (tb1 (List.mem_of_getElem? (i := 88) rfl)) rfl
set_option maxRecDepth 10000 in
theorem w_1500 : Cond.instanceMethod yX9_opened ∈ lw_gd := gw (tb6 (List.mem_of_getElem? (i := 238) rfl)) rfl
set_option maxRecDepth 10000 in
theorem w_1501 : Cond.code yX9_opened cX9_opened (6 : Nat) (Option.some FieldType.int) ∈ lw_gd := gw (tb6 (List.mem_of_getElem? (i := 239) rfl)) rfl
set_option maxRecDepth 10000 in
theorem w_1502 : Cond.methodLink RX9 (351 : Nat) yX9_laysSpan ∈ lw_gd := gw (tb7 (List.mem_of_getElem? (i := 0) rfl)) rfl
set_option maxRecDepth 10000 in
theorem w_1504 : Cond.instanceMethod yX9_laysSpan ∈ lw_gd := gw (tb7 (List.mem_of_getElem? (i := 2) rfl)) rfl
set_option maxRecDepth 10000 in
theorem w_1505 : Cond.code yX9_laysSpan cX9_laysSpan (4 : Nat) (Option.none : Option FieldType) ∈ lw_gd := gw (tb7 (List.mem_of_getElem? (i := 3) rfl)) rfl
set_option maxRecDepth 10000 in
theorem w_1506 : Cond.methodLink RX9 (355 : Nat) yX9_isNumber ∈ lw_gd := gw (tb7 (List.mem_of_getElem? (i := 4) rfl)) rfl
set_option maxRecDepth 10000 in
theorem w_1507 : Cond.static yX9_isNumber ∈ lw_gd := gw (tb7 (List.mem_of_getElem? (i := 5) rfl)) rfl
set_option maxRecDepth 10000 in
theorem w_1508 : Cond.code yX9_isNumber cX9_isNumber (2 : Nat) (Option.some FieldType.boolean) ∈ lw_gd := gw (tb7 (List.mem_of_getElem? (i := 6) rfl)) rfl
set_option maxRecDepth 10000 in
theorem w_1509 : Cond.constantLong RX9 (95 : Nat) (9223372036854775807 : Int64) ∈ lw_gd := gw (tb7 (List.mem_of_getElem? (i := 7) rfl)) rfl
set_option maxRecDepth 10000 in
theorem w_151 : Cond.fieldLink RX1 (34 : Nat) "SeriesPress$Coder" "second" "I" ∈ lw_gd := gw (tb1 (List.mem_of_getElem? (i := 89) rfl)) rfl
set_option maxRecDepth 10000 in
theorem w_1510 : Cond.constantLong RX9 (97 : Nat) (9218868437227405312 : Int64) ∈ lw_gd := gw (tb7 (List.mem_of_getElem? (i := 8) rfl)) rfl
set_option maxRecDepth 10000 in
theorem w_1511 : Cond.constantLong RX9 (359 : Nat) (-9223372036854775808 : Int64) ∈ lw_gd := gw (tb7 (List.mem_of_getElem? (i := 9) rfl)) rfl
set_option maxRecDepth 10000 in
theorem w_1512 : Cond.methodLink RL (86 : Nat) yX9_value ∈ lw_gd := gw (tb7 (List.mem_of_getElem? (i := 10) rfl)) rfl
set_option maxRecDepth 10000 in
theorem w_1513 : Cond.instanceMethod yX9_value ∈ lw_gd := gw (tb7 (List.mem_of_getElem? (i := 11) rfl)) rfl
set_option maxRecDepth 10000 in
theorem w_1514 : Cond.selects RX9 yX9_value yX9_value ∈ lw_gd := gw (tb7 (List.mem_of_getElem? (i := 12) rfl)) rfl
set_option maxRecDepth 10000 in
theorem w_1515 : Cond.code yX9_value cX9_value (14 : Nat) (Option.some FieldType.long) ∈ lw_gd := gw (tb7 (List.mem_of_getElem? (i := 13) rfl)) rfl
set_option maxRecDepth 10000 in
theorem w_1516 : Cond.constantLong RX9 (373 : Nat) (4 : Int64) ∈ lw_gd := gw (tb7 (List.mem_of_getElem? (i := 14) rfl)) rfl
set_option maxRecDepth 10000 in
theorem w_1517 : Cond.constantLong RX9 (371 : Nat) (9221120237041090560 : Int64) ∈ lw_gd := gw (tb7 (List.mem_of_getElem? (i := 15) rfl)) rfl
set_option maxRecDepth 10000 in
theorem w_1518 : Cond.methodLink RX9 (375 : Nat) yX9_isLess ∈ lw_gd := gw (tb7 (List.mem_of_getElem? (i := 16) rfl)) rfl
set_option maxRecDepth 10000 in
theorem w_1519 : Cond.static yX9_isLess ∈ lw_gd := gw (tb7 (List.mem_of_getElem? (i := 17) rfl)) rfl
set_option maxRecDepth 10000 in
theorem w_152 : Cond.fieldLink RX0 (64 : Nat) "SeriesPress$Coder" "second" "I" ∈ lw_gd := gw (tb1 (List.mem_of_getElem? (i := 90) rfl)) rfl
set_option maxRecDepth 10000 in
theorem w_1520 : Cond.code yX9_isLess cX9_isLess (4 : Nat) (Option.some FieldType.boolean) ∈ lw_gd := gw (tb7 (List.mem_of_getElem? (i := 18) rfl)) rfl
set_option maxRecDepth 10000 in
theorem w_1521 : Cond.methodLink RX9 (361 : Nat) ⟨"java/lang/Double", "longBitsToDouble", "(J)D"⟩ ∈ lw_gd := gw (tb7 (List.mem_of_getElem? (i := 19) rfl)) rfl
set_option maxRecDepth 10000 in
theorem w_1522 : Cond.static ⟨"java/lang/Double", "longBitsToDouble", "(J)D"⟩ ∈ lw_gd := gw (tb7 (List.mem_of_getElem? (i := 20) rfl)) rfl
set_option maxRecDepth 10000 in
theorem w_1523 : Cond.native ⟨"java/lang/Double", "longBitsToDouble", "(J)D"⟩ ∈ lw_gd := gw (tb7 (List.mem_of_getElem? (i := 21) rfl)) rfl
set_option maxRecDepth 10000 in
theorem w_1524 : Cond.methodLink RX9 (379 : Nat) yX9_told ∈ lw_gd := gw (tb7 (List.mem_of_getElem? (i := 22) rfl)) rfl
set_option maxRecDepth 10000 in
theorem w_1525 : Cond.static yX9_told ∈ lw_gd := gw (tb7 (List.mem_of_getElem? (i := 23) rfl)) rfl
set_option maxRecDepth 10000 in
theorem w_1526 : Cond.code yX9_told cX9_told (2 : Nat) (Option.some FieldType.long) ∈ lw_gd := gw (tb7 (List.mem_of_getElem? (i := 24) rfl)) rfl
set_option maxRecDepth 10000 in
theorem w_1527 : Cond.methodLink RX9 (367 : Nat) yJxe99ae_doubleToLongBits_ccdee ∈ lw_gd := gw (tb7 (List.mem_of_getElem? (i := 25) rfl)) rfl
set_option maxRecDepth 10000 in
theorem w_1528 : Cond.static yJxe99ae_doubleToLongBits_ccdee ∈ lw_gd := gw (tb7 (List.mem_of_getElem? (i := 26) rfl)) rfl
set_option maxRecDepth 10000 in
theorem w_1529 : Cond.code yJxe99ae_doubleToLongBits_ccdee cJxe99ae_doubleToLongBits_ccdee (2 : Nat) (Option.some FieldType.long) ∈ lw_gd := gw (tb7 (List.mem_of_getElem? (i := 27) rfl)) rfl
set_option maxRecDepth 10000 in
theorem w_153 : Cond.fieldLink RX1 (41 : Nat) "SeriesPress$Coder" "kind" "I" ∈ lw_gd := gw (tb1 (List.mem_of_getElem? (i := 91) rfl)) rfl
set_option maxRecDepth 10000 in
theorem w_1530 : Cond.methodLink RJxe99ae (122 : Nat) yJxe99ae_isNaN_b9ae7 ∈ lw_gd := gw (tb7 (List.mem_of_getElem? (i := 28) rfl)) rfl
set_option maxRecDepth 10000 in
theorem w_1531 : Cond.static yJxe99ae_isNaN_b9ae7 ∈ lw_gd := gw (tb7 (List.mem_of_getElem? (i := 29) rfl)) rfl
set_option maxRecDepth 10000 in
theorem w_1532 : Cond.code yJxe99ae_isNaN_b9ae7 cJxe99ae_isNaN_b9ae7 (2 : Nat) (Option.some FieldType.boolean) ∈ lw_gd := gw (tb7 (List.mem_of_getElem? (i := 30) rfl)) rfl
set_option maxRecDepth 10000 in
theorem w_1533 : Cond.methodLink RJxe99ae (134 : Nat) ⟨"java/lang/Double", "doubleToRawLongBits", "(D)J"⟩ ∈ lw_gd := gw (tb7 (List.mem_of_getElem? (i := 31) rfl)) rfl
set_option maxRecDepth 10000 in
theorem w_1534 : Cond.static ⟨"java/lang/Double", "doubleToRawLongBits", "(D)J"⟩ ∈ lw_gd := gw (tb7 (List.mem_of_getElem? (i := 32) rfl)) rfl
set_option maxRecDepth 10000 in
theorem w_1535 : Cond.native ⟨"java/lang/Double", "doubleToRawLongBits", "(D)J"⟩ ∈ lw_gd := gw (tb7 (List.mem_of_getElem? (i := 33) rfl)) rfl
set_option maxRecDepth 10000 in
theorem w_1536 : Cond.constantLong RJxe99ae (137 : Nat) (9221120237041090560 : Int64) ∈ lw_gd := gw (tb7 (List.mem_of_getElem? (i := 34) rfl)) rfl
set_option maxRecDepth 10000 in
theorem w_1537 : Cond.methodLink RL (91 : Nat) yX9_above ∈ lw_gd := gw (tb7 (List.mem_of_getElem? (i := 35) rfl)) rfl
set_option maxRecDepth 10000 in
theorem w_1538 : Cond.instanceMethod yX9_above ∈ lw_gd := gw (tb7 (List.mem_of_getElem? (i := 36) rfl)) rfl
set_option maxRecDepth 10000 in
theorem w_1539 : Cond.selects RX9 yX9_above yX9_above ∈ lw_gd := gw (tb7 (List.mem_of_getElem? (i := 37) rfl)) rfl
set_option maxRecDepth 10000 in
theorem w_154 : Cond.fieldLink RX6 (122 : Nat) "SeriesPress$Coder" "kind" "I" ∈ lw_gd := gw (tb1 (List.mem_of_getElem? (i := 92) rfl)) rfl
set_option maxRecDepth 10000 in
theorem w_1540 : Cond.code yX9_above cX9_above (8 : Nat) (Option.some FieldType.int) ∈ lw_gd := gw (tb7 (List.mem_of_getElem? (i := 38) rfl)) rfl
set_option maxRecDepth 10000 in
theorem w_1541 : Cond.methodLink RL (175 : Nat) yX9_least ∈ lw_gd := gw (tb7 (List.mem_of_getElem? (i := 39) rfl)) rfl
set_option maxRecDepth 10000 in
theorem w_1542 : Cond.instanceMethod yX9_least ∈ lw_gd := gw (tb7 (List.mem_of_getElem? (i := 40) rfl)) rfl
set_option maxRecDepth 10000 in
theorem w_1543 : Cond.selects RX9 yX9_least yX9_least ∈ lw_gd := gw (tb7 (List.mem_of_getElem? (i := 41) rfl)) rfl
set_option maxRecDepth 10000 in
theorem w_1544 : Cond.code yX9_least cX9_least (9 : Nat) (Option.some FieldType.long) ∈ lw_gd := gw (tb7 (List.mem_of_getElem? (i := 42) rfl)) rfl
set_option maxRecDepth 10000 in
theorem w_1545 : Cond.methodLink RL (180 : Nat) yX9_passes ∈ lw_gd := gw (tb7 (List.mem_of_getElem? (i := 43) rfl)) rfl
set_option maxRecDepth 10000 in
theorem w_1546 : Cond.instanceMethod yX9_passes ∈ lw_gd := gw (tb7 (List.mem_of_getElem? (i := 44) rfl)) rfl
set_option maxRecDepth 10000 in
theorem w_1547 : Cond.selects RX9 yX9_passes yX9_passes ∈ lw_gd := gw (tb7 (List.mem_of_getElem? (i := 45) rfl)) rfl
set_option maxRecDepth 10000 in
theorem w_1548 : Cond.code yX9_passes cX9_passes (7 : Nat) (Option.some FieldType.int) ∈ lw_gd := gw (tb7 (List.mem_of_getElem? (i := 46) rfl)) rfl
set_option maxRecDepth 10000 in
theorem w_1549 : Cond.methodLink RL (188 : Nat) yX9_area ∈ lw_gd := gw (tb7 (List.mem_of_getElem? (i := 47) rfl)) rfl
set_option maxRecDepth 10000 in
theorem w_155 : Cond.fieldLink RX0 (52 : Nat) "SeriesPress$Coder" "kind" "I" ∈ lw_gd := gw (tb1 (List.mem_of_getElem? (i := 93) rfl)) rfl
set_option maxRecDepth 10000 in
theorem w_1550 : Cond.instanceMethod yX9_area ∈ lw_gd := gw (tb7 (List.mem_of_getElem? (i := 48) rfl)) rfl
set_option maxRecDepth 10000 in
theorem w_1551 : Cond.selects RX9 yX9_area yX9_area ∈ lw_gd := gw (tb7 (List.mem_of_getElem? (i := 49) rfl)) rfl
set_option maxRecDepth 10000 in
theorem w_1552 : Cond.code yX9_area cX9_area (7 : Nat) (Option.some FieldType.long) ∈ lw_gd := gw (tb7 (List.mem_of_getElem? (i := 50) rfl)) rfl
set_option maxRecDepth 10000 in
theorem w_1553 : Cond.methodLink RL (103 : Nat) yX9_gap ∈ lw_gd := gw (tb7 (List.mem_of_getElem? (i := 51) rfl)) rfl
set_option maxRecDepth 10000 in
theorem w_1554 : Cond.instanceMethod yX9_gap ∈ lw_gd := gw (tb7 (List.mem_of_getElem? (i := 52) rfl)) rfl
set_option maxRecDepth 10000 in
theorem w_1555 : Cond.selects RX9 yX9_gap yX9_gap ∈ lw_gd := gw (tb7 (List.mem_of_getElem? (i := 53) rfl)) rfl
set_option maxRecDepth 10000 in
theorem w_1556 : Cond.code yX9_gap cX9_gap (8 : Nat) (Option.some FieldType.int) ∈ lw_gd := gw (tb7 (List.mem_of_getElem? (i := 54) rfl)) rfl
set_option maxRecDepth 10000 in
theorem w_1557 : Cond.methodLink RL (107 : Nat) yX9_row ∈ lw_gd := gw (tb7 (List.mem_of_getElem? (i := 55) rfl)) rfl
set_option maxRecDepth 10000 in
theorem w_1558 : Cond.instanceMethod yX9_row ∈ lw_gd := gw (tb7 (List.mem_of_getElem? (i := 56) rfl)) rfl
set_option maxRecDepth 10000 in
theorem w_1559 : Cond.selects RX9 yX9_row yX9_row ∈ lw_gd := gw (tb7 (List.mem_of_getElem? (i := 57) rfl)) rfl
set_option maxRecDepth 10000 in
theorem w_156 : Cond.fieldLink RX1 (78 : Nat) "SeriesPress$Coder" "way" "I" ∈ lw_gd := gw (tb1 (List.mem_of_getElem? (i := 94) rfl)) rfl
set_option maxRecDepth 10000 in
theorem w_1560 : Cond.code yX9_row cX9_row (7 : Nat) (Option.some FieldType.int) ∈ lw_gd := gw (tb7 (List.mem_of_getElem? (i := 58) rfl)) rfl
set_option maxRecDepth 10000 in
theorem w_1561 : Cond.methodLink RL (111 : Nat) yX9_both ∈ lw_gd := gw (tb7 (List.mem_of_getElem? (i := 59) rfl)) rfl
set_option maxRecDepth 10000 in
theorem w_1562 : Cond.instanceMethod yX9_both ∈ lw_gd := gw (tb7 (List.mem_of_getElem? (i := 60) rfl)) rfl
set_option maxRecDepth 10000 in
theorem w_1563 : Cond.selects RX9 yX9_both yX9_both ∈ lw_gd := gw (tb7 (List.mem_of_getElem? (i := 61) rfl)) rfl
set_option maxRecDepth 10000 in
theorem w_1564 : Cond.code yX9_both cX9_both (7 : Nat) (Option.some FieldType.int) ∈ lw_gd := gw (tb7 (List.mem_of_getElem? (i := 62) rfl)) rfl
set_option maxRecDepth 10000 in
theorem w_1565 : Cond.methodLink RX9 (385 : Nat) yX9_areTwo ∈ lw_gd := gw (tb7 (List.mem_of_getElem? (i := 63) rfl)) rfl
set_option maxRecDepth 10000 in
theorem w_1567 : Cond.instanceMethod yX9_areTwo ∈ lw_gd := gw (tb7 (List.mem_of_getElem? (i := 65) rfl)) rfl
set_option maxRecDepth 10000 in
theorem w_1568 : Cond.code yX9_areTwo cX9_areTwo (3 : Nat) (Option.some FieldType.boolean) ∈ lw_gd := gw (tb7 (List.mem_of_getElem? (i := 66) rfl)) rfl
set_option maxRecDepth 10000 in
theorem w_1569 : Cond.methodLink RX9 (388 : Nat) yX9_gathersTwo ∈ lw_gd := gw (tb7 (List.mem_of_getElem? (i := 67) rfl)) rfl
set_option maxRecDepth 10000 in
theorem w_157 : Cond.fieldLink RX6 (123 : Nat) "SeriesPress$Coder" "way" "I" ∈ lw_gd := gw (tb1 (List.mem_of_getElem? (i := 95) rfl)) rfl
set_option maxRecDepth 10000 in
theorem w_1571 : Cond.instanceMethod yX9_gathersTwo ∈ lw_gd := gw (tb7 (List.mem_of_getElem? (i := 69) rfl)) rfl
set_option maxRecDepth 10000 in
theorem w_1572 : Cond.code yX9_gathersTwo cX9_gathersTwo (4 : Nat) (Option.none : Option FieldType) ∈ lw_gd := gw (tb7 (List.mem_of_getElem? (i := 70) rfl)) rfl
set_option maxRecDepth 10000 in
theorem w_1573 : Cond.methodLink RL (115 : Nat) yX9_differ ∈ lw_gd := gw (tb7 (List.mem_of_getElem? (i := 71) rfl)) rfl
set_option maxRecDepth 10000 in
theorem w_1574 : Cond.instanceMethod yX9_differ ∈ lw_gd := gw (tb7 (List.mem_of_getElem? (i := 72) rfl)) rfl
set_option maxRecDepth 10000 in
theorem w_1575 : Cond.selects RX9 yX9_differ yX9_differ ∈ lw_gd := gw (tb7 (List.mem_of_getElem? (i := 73) rfl)) rfl
set_option maxRecDepth 10000 in
theorem w_1576 : Cond.code yX9_differ cX9_differ (4 : Nat) (Option.some FieldType.int) ∈ lw_gd := gw (tb7 (List.mem_of_getElem? (i := 74) rfl)) rfl
set_option maxRecDepth 10000 in
theorem w_1577 : Cond.methodLink RX9 (391 : Nat) yJ9_min_f86c9 ∈ lw_gd := gw (tb7 (List.mem_of_getElem? (i := 75) rfl)) rfl
set_option maxRecDepth 10000 in
theorem w_1578 : Cond.methodLink RL (135 : Nat) yX9_join ∈ lw_gd := gw (tb7 (List.mem_of_getElem? (i := 76) rfl)) rfl
set_option maxRecDepth 10000 in
theorem w_1579 : Cond.instanceMethod yX9_join ∈ lw_gd := gw (tb7 (List.mem_of_getElem? (i := 77) rfl)) rfl
set_option maxRecDepth 10000 in
theorem w_158 : Cond.fieldLink RX0 (70 : Nat) "SeriesPress$Coder" "way" "I" ∈ lw_gd := gw (tb1 (List.mem_of_getElem? (i := 96) rfl)) rfl
set_option maxRecDepth 10000 in
theorem w_1580 : Cond.selects RX9 yX9_join yX9_join ∈ lw_gd := gw (tb7 (List.mem_of_getElem? (i := 78) rfl)) rfl
set_option maxRecDepth 10000 in
theorem w_1581 : Cond.code yX9_join cX9_join (8 : Nat) (Option.some FieldType.int) ∈ lw_gd := gw (tb7 (List.mem_of_getElem? (i := 79) rfl)) rfl
set_option maxRecDepth 10000 in
theorem w_1582 : Cond.methodLink RL (155 : Nat) yX9_copy ∈ lw_gd := gw (tb7 (List.mem_of_getElem? (i := 80) rfl)) rfl
set_option maxRecDepth 10000 in
theorem w_1583 : Cond.instanceMethod yX9_copy ∈ lw_gd := gw (tb7 (List.mem_of_getElem? (i := 81) rfl)) rfl
set_option maxRecDepth 10000 in
theorem w_1584 : Cond.selects RX9 yX9_copy yX9_copy ∈ lw_gd := gw (tb7 (List.mem_of_getElem? (i := 82) rfl)) rfl
set_option maxRecDepth 10000 in
theorem w_1585 : Cond.code yX9_copy cX9_copy (3 : Nat) (Option.some FieldType.int) ∈ lw_gd := gw (tb7 (List.mem_of_getElem? (i := 83) rfl)) rfl
set_option maxRecDepth 10000 in
theorem w_1586 : Cond.methodLink RL (119 : Nat) yX9_best ∈ lw_gd := gw (tb7 (List.mem_of_getElem? (i := 84) rfl)) rfl
set_option maxRecDepth 10000 in
theorem w_1587 : Cond.instanceMethod yX9_best ∈ lw_gd := gw (tb7 (List.mem_of_getElem? (i := 85) rfl)) rfl
set_option maxRecDepth 10000 in
theorem w_1588 : Cond.selects RX9 yX9_best yX9_best ∈ lw_gd := gw (tb7 (List.mem_of_getElem? (i := 86) rfl)) rfl
set_option maxRecDepth 10000 in
theorem w_1589 : Cond.code yX9_best cX9_best (5 : Nat) (Option.some FieldType.int) ∈ lw_gd := gw (tb7 (List.mem_of_getElem? (i := 87) rfl)) rfl
set_option maxRecDepth 10000 in
theorem w_159 : Cond.fieldLink RX1 (75 : Nat) "SeriesPress$Coder" "cost" "I" ∈ lw_gd := gw (tb1 (List.mem_of_getElem? (i := 97) rfl)) rfl
set_option maxRecDepth 10000 in
theorem w_1590 : Cond.methodLink RL (127 : Nat) yX9_thin ∈ lw_gd := gw (tb7 (List.mem_of_getElem? (i := 88) rfl)) rfl
set_option maxRecDepth 10000 in
theorem w_1591 : Cond.instanceMethod yX9_thin ∈ lw_gd := gw (tb7 (List.mem_of_getElem? (i := 89) rfl)) rfl
set_option maxRecDepth 10000 in
theorem w_1592 : Cond.selects RX9 yX9_thin yX9_thin ∈ lw_gd := gw (tb7 (List.mem_of_getElem? (i := 90) rfl)) rfl
set_option maxRecDepth 10000 in
theorem w_1593 : Cond.code yX9_thin cX9_thin (6 : Nat) (Option.some FieldType.int) ∈ lw_gd := gw (tb7 (List.mem_of_getElem? (i := 91) rfl)) rfl
set_option maxRecDepth 10000 in
theorem w_1594 : Cond.constantLong RX9 (394 : Nat) (1000000 : Int64) ∈ lw_gd := gw (tb7 (List.mem_of_getElem? (i := 92) rfl)) rfl
set_option maxRecDepth 10000 in
theorem w_1595 : Cond.methodLink RL (131 : Nat) yX9_cuts ∈ lw_gd := gw (tb7 (List.mem_of_getElem? (i := 93) rfl)) rfl
set_option maxRecDepth 10000 in
theorem w_1596 : Cond.instanceMethod yX9_cuts ∈ lw_gd := gw (tb7 (List.mem_of_getElem? (i := 94) rfl)) rfl
set_option maxRecDepth 10000 in
theorem w_1597 : Cond.selects RX9 yX9_cuts yX9_cuts ∈ lw_gd := gw (tb7 (List.mem_of_getElem? (i := 95) rfl)) rfl
set_option maxRecDepth 10000 in
theorem w_1598 : Cond.code yX9_cuts cX9_cuts (6 : Nat) (Option.some FieldType.int) ∈ lw_gd := gw (tb7 (List.mem_of_getElem? (i := 96) rfl)) rfl
set_option maxRecDepth 10000 in
theorem w_1599 : Cond.methodLink RL (139 : Nat) yX9_rounds ∈ lw_gd := gw (tb7 (List.mem_of_getElem? (i := 97) rfl)) rfl
set_option maxRecDepth 10000 in
theorem w_16 : Cond.selects RX8 yX8_gatherBoth yX8_gatherBoth ∈ lw_gd := gw (List.mem_append_left _ (List.mem_of_getElem? (i := 16) rfl)) rfl
set_option maxRecDepth 10000 in
theorem w_160 : Cond.fieldLink RX7 (73 : Nat) "SeriesPress$Coder" "cost" "I" ∈ lw_gd := gw (tb1 (List.mem_of_getElem? (i := 98) rfl)) rfl
set_option maxRecDepth 10000 in
theorem w_1600 : Cond.instanceMethod yX9_rounds ∈ lw_gd := gw (tb7 (List.mem_of_getElem? (i := 98) rfl)) rfl
set_option maxRecDepth 10000 in
theorem w_1601 : Cond.selects RX9 yX9_rounds yX9_rounds ∈ lw_gd := gw (tb7 (List.mem_of_getElem? (i := 99) rfl)) rfl
set_option maxRecDepth 10000 in
theorem w_1602 : Cond.code yX9_rounds cX9_rounds (4 : Nat) (Option.some FieldType.int) ∈ lw_gd := gw (tb7 (List.mem_of_getElem? (i := 100) rfl)) rfl
set_option maxRecDepth 10000 in
theorem w_1603 : Cond.constantLong RX9 (396 : Nat) (52 : Int64) ∈ lw_gd := gw (tb7 (List.mem_of_getElem? (i := 101) rfl)) rfl
set_option maxRecDepth 10000 in
theorem w_1604 : Cond.methodLink RX9 (398 : Nat) yX9_lessens ∈ lw_gd := gw (tb7 (List.mem_of_getElem? (i := 102) rfl)) rfl
set_option maxRecDepth 10000 in
theorem w_1606 : Cond.instanceMethod yX9_lessens ∈ lw_gd := gw (tb7 (List.mem_of_getElem? (i := 104) rfl)) rfl
set_option maxRecDepth 10000 in
theorem w_1607 : Cond.code yX9_lessens cX9_lessens (7 : Nat) (Option.some FieldType.int) ∈ lw_gd := gw (tb7 (List.mem_of_getElem? (i := 105) rfl)) rfl
set_option maxRecDepth 10000 in
theorem w_1608 : Cond.methodLink RL (143 : Nat) yX9_rounded ∈ lw_gd := gw (tb7 (List.mem_of_getElem? (i := 106) rfl)) rfl
set_option maxRecDepth 10000 in
theorem w_1609 : Cond.instanceMethod yX9_rounded ∈ lw_gd := gw (tb7 (List.mem_of_getElem? (i := 107) rfl)) rfl
set_option maxRecDepth 10000 in
theorem w_161 : Cond.fieldLink RX8 (111 : Nat) "SeriesPress$Coder" "cost" "I" ∈ lw_gd := gw (tb1 (List.mem_of_getElem? (i := 99) rfl)) rfl
set_option maxRecDepth 10000 in
theorem w_1610 : Cond.selects RX9 yX9_rounded yX9_rounded ∈ lw_gd := gw (tb7 (List.mem_of_getElem? (i := 108) rfl)) rfl
set_option maxRecDepth 10000 in
theorem w_1611 : Cond.code yX9_rounded cX9_rounded (3 : Nat) (Option.some FieldType.int) ∈ lw_gd := gw (tb7 (List.mem_of_getElem? (i := 109) rfl)) rfl
set_option maxRecDepth 10000 in
theorem w_1612 : Cond.methodLink RL (193 : Nat) yX9_feed ∈ lw_gd := gw (tb7 (List.mem_of_getElem? (i := 110) rfl)) rfl
set_option maxRecDepth 10000 in
theorem w_1613 : Cond.instanceMethod yX9_feed ∈ lw_gd := gw (tb7 (List.mem_of_getElem? (i := 111) rfl)) rfl
set_option maxRecDepth 10000 in
theorem w_1614 : Cond.selects RX9 yX9_feed yX9_feed ∈ lw_gd := gw (tb7 (List.mem_of_getElem? (i := 112) rfl)) rfl
set_option maxRecDepth 10000 in
theorem w_1615 : Cond.code yX9_feed cX9_feed (8 : Nat) (Option.some FieldType.int) ∈ lw_gd := gw (tb7 (List.mem_of_getElem? (i := 113) rfl)) rfl
set_option maxRecDepth 10000 in
theorem w_1616 : Cond.methodLink RL (197 : Nat) yX9_end ∈ lw_gd := gw (tb7 (List.mem_of_getElem? (i := 114) rfl)) rfl
set_option maxRecDepth 10000 in
theorem w_1617 : Cond.instanceMethod yX9_end ∈ lw_gd := gw (tb7 (List.mem_of_getElem? (i := 115) rfl)) rfl
set_option maxRecDepth 10000 in
theorem w_1618 : Cond.selects RX9 yX9_end yX9_end ∈ lw_gd := gw (tb7 (List.mem_of_getElem? (i := 116) rfl)) rfl
set_option maxRecDepth 10000 in
theorem w_1619 : Cond.code yX9_end cX9_end (2 : Nat) (Option.some FieldType.int) ∈ lw_gd := gw (tb7 (List.mem_of_getElem? (i := 117) rfl)) rfl
set_option maxRecDepth 10000 in
theorem w_162 : Cond.fieldLink RX6 (148 : Nat) "SeriesPress$Coder" "cost" "I" ∈ lw_gd := gw (tb1 (List.mem_of_getElem? (i := 100) rfl)) rfl
set_option maxRecDepth 10000 in
theorem w_1620 : Cond.methodLink RL (206 : Nat) yX9_taped ∈ lw_gd := gw (tb7 (List.mem_of_getElem? (i := 118) rfl)) rfl
set_option maxRecDepth 10000 in
theorem w_1621 : Cond.instanceMethod yX9_taped ∈ lw_gd := gw (tb7 (List.mem_of_getElem? (i := 119) rfl)) rfl
set_option maxRecDepth 10000 in
theorem w_1622 : Cond.selects RX9 yX9_taped yX9_taped ∈ lw_gd := gw (tb7 (List.mem_of_getElem? (i := 120) rfl)) rfl
set_option maxRecDepth 10000 in
theorem w_1623 : Cond.code yX9_taped cX9_taped (1 : Nat) (Option.some FieldType.int) ∈ lw_gd := gw (tb7 (List.mem_of_getElem? (i := 121) rfl)) rfl
set_option maxRecDepth 10000 in
theorem w_1624 : Cond.methodLink RL (201 : Nat) yX9_takes ∈ lw_gd := gw (tb7 (List.mem_of_getElem? (i := 122) rfl)) rfl
set_option maxRecDepth 10000 in
theorem w_1625 : Cond.instanceMethod yX9_takes ∈ lw_gd := gw (tb7 (List.mem_of_getElem? (i := 123) rfl)) rfl
set_option maxRecDepth 10000 in
theorem w_1626 : Cond.selects RX9 yX9_takes yX9_takes ∈ lw_gd := gw (tb7 (List.mem_of_getElem? (i := 124) rfl)) rfl
set_option maxRecDepth 10000 in
theorem w_1627 : Cond.code yX9_takes cX9_takes (6 : Nat) (Option.some FieldType.int) ∈ lw_gd := gw (tb7 (List.mem_of_getElem? (i := 125) rfl)) rfl
set_option maxRecDepth 10000 in
theorem w_1628 : Cond.methodLink RX9 (404 : Nat) yX9_seals ∈ lw_gd := gw (tb7 (List.mem_of_getElem? (i := 126) rfl)) rfl
set_option maxRecDepth 10000 in
theorem w_1629 : Cond.constantLong RL (18 : Nat) (4294967295 : Int64) ∈ lw_gd := gw (tb7 (List.mem_of_getElem? (i := 127) rfl)) rfl
set_option maxRecDepth 10000 in
theorem w_163 : Cond.fieldLink RX1 (44 : Nat) "SeriesPress$Coder" "differing" "J" ∈ lw_gd := gw (tb1 (List.mem_of_getElem? (i := 101) rfl)) rfl
set_option maxRecDepth 10000 in
theorem w_164 : Cond.fieldLink RX0 (75 : Nat) "SeriesPress$Coder" "differing" "J" ∈ lw_gd := gw (tb1 (List.mem_of_getElem? (i := 102) rfl)) rfl
set_option maxRecDepth 10000 in
theorem w_165 : Cond.fieldLink RX1 (62 : Nat) "SeriesPress$Coder" "ownLead" "I" ∈ lw_gd := gw (tb1 (List.mem_of_getElem? (i := 103) rfl)) rfl
set_option maxRecDepth 10000 in
theorem w_166 : Cond.fieldLink RX6 (127 : Nat) "SeriesPress$Coder" "ownLead" "I" ∈ lw_gd := gw (tb1 (List.mem_of_getElem? (i := 104) rfl)) rfl
set_option maxRecDepth 10000 in
theorem w_167 : Cond.fieldLink RX0 (85 : Nat) "SeriesPress$Coder" "ownLead" "I" ∈ lw_gd := gw (tb1 (List.mem_of_getElem? (i := 105) rfl)) rfl
set_option maxRecDepth 10000 in
theorem w_168 : Cond.fieldLink RX1 (65 : Nat) "SeriesPress$Coder" "ownTail" "I" ∈ lw_gd := gw (tb1 (List.mem_of_getElem? (i := 106) rfl)) rfl
set_option maxRecDepth 10000 in
theorem w_169 : Cond.fieldLink RX6 (133 : Nat) "SeriesPress$Coder" "ownTail" "I" ∈ lw_gd := gw (tb1 (List.mem_of_getElem? (i := 107) rfl)) rfl
set_option maxRecDepth 10000 in
theorem w_17 : Cond.selects RX8 yX8_useSpare yX8_useSpare ∈ lw_gd := gw (List.mem_append_left _ (List.mem_of_getElem? (i := 17) rfl)) rfl
set_option maxRecDepth 10000 in
theorem w_170 : Cond.fieldLink RX0 (88 : Nat) "SeriesPress$Coder" "ownTail" "I" ∈ lw_gd := gw (tb1 (List.mem_of_getElem? (i := 108) rfl)) rfl
set_option maxRecDepth 10000 in
theorem w_18 : Cond.selects RX8 yX8_packMine yX8_packMine ∈ lw_gd := gw (List.mem_append_left _ (List.mem_of_getElem? (i := 18) rfl)) rfl
set_option maxRecDepth 10000 in
theorem w_19 : Cond.selects RX5 yX5_shrink yX5_shrink ∈ lw_gd := gw (List.mem_append_left _ (List.mem_of_getElem? (i := 19) rfl)) rfl
set_option maxRecDepth 10000 in
theorem w_2 : Cond.selects RX0 yX0_writeBits yX0_writeBits ∈ lw_gd := gw (List.mem_append_left _ (List.mem_of_getElem? (i := 2) rfl)) rfl
set_option maxRecDepth 10000 in
theorem w_20 : Cond.selects RX9 yX9_clears yX9_clears ∈ lw_gd := gw (List.mem_append_left _ (List.mem_of_getElem? (i := 20) rfl)) rfl
set_option maxRecDepth 10000 in
theorem w_200 : Cond.instantiable RX0 (9 : Nat) ∈ lw_gd := gw (tb1 (List.mem_of_getElem? (i := 138) rfl)) rfl
set_option maxRecDepth 10000 in
theorem w_202 : Cond.instanceMethod yX0_init ∈ lw_gd := gw (tb1 (List.mem_of_getElem? (i := 140) rfl)) rfl
set_option maxRecDepth 10000 in
theorem w_203 : Cond.code yX0_init cX0_init (1 : Nat) (Option.none : Option FieldType) ∈ lw_gd := gw (tb1 (List.mem_of_getElem? (i := 141) rfl)) rfl
set_option maxRecDepth 10000 in
theorem w_204 : Cond.methodLink RX0 (3 : Nat) Lib.objectInit ∈ lw_gd := gw (tb1 (List.mem_of_getElem? (i := 142) rfl)) rfl
set_option maxRecDepth 10000 in
theorem w_205 : Cond.fieldLink RX0 (9 : Nat) "SeriesPress$Block" "bytes" "[I" ∈ lw_gd := gw (tb1 (List.mem_of_getElem? (i := 143) rfl)) rfl
set_option maxRecDepth 10000 in
theorem w_206 : Cond.fieldLink RX6 (18 : Nat) "SeriesPress$Block" "bytes" "[I" ∈ lw_gd := gw (tb1 (List.mem_of_getElem? (i := 144) rfl)) rfl
set_option maxRecDepth 10000 in
theorem w_207 : Cond.fieldLink RX2 (36 : Nat) "SeriesPress$Block" "bytes" "[I" ∈ lw_gd := gw (tb1 (List.mem_of_getElem? (i := 145) rfl)) rfl
set_option maxRecDepth 10000 in
theorem w_208 : Cond.fieldLink RX8 (189 : Nat) "SeriesPress$Block" "bytes" "[I" ∈ lw_gd := gw (tb1 (List.mem_of_getElem? (i := 146) rfl)) rfl
set_option maxRecDepth 10000 in
theorem w_209 : Cond.fieldLink RX6 (29 : Nat) "SeriesPress$Block" "size" "I" ∈ lw_gd := gw (tb1 (List.mem_of_getElem? (i := 147) rfl)) rfl
set_option maxRecDepth 10000 in
theorem w_21 : Cond.selects RX9 yX9_isSeries yX9_isSeries ∈ lw_gd := gw (List.mem_append_left _ (List.mem_of_getElem? (i := 21) rfl)) rfl
set_option maxRecDepth 10000 in
theorem w_210 : Cond.fieldLink RX2 (29 : Nat) "SeriesPress$Block" "size" "I" ∈ lw_gd := gw (tb1 (List.mem_of_getElem? (i := 148) rfl)) rfl
set_option maxRecDepth 10000 in
theorem w_211 : Cond.fieldLink RX0 (23 : Nat) "SeriesPress$Block" "size" "I" ∈ lw_gd := gw (tb1 (List.mem_of_getElem? (i := 149) rfl)) rfl
set_option maxRecDepth 10000 in
theorem w_212 : Cond.fieldLink RX8 (121 : Nat) "SeriesPress$Block" "size" "I" ∈ lw_gd := gw (tb1 (List.mem_of_getElem? (i := 150) rfl)) rfl
set_option maxRecDepth 10000 in
theorem w_213 : Cond.fieldLink RX7 (107 : Nat) "SeriesPress$Block" "size" "I" ∈ lw_gd := gw (tb1 (List.mem_of_getElem? (i := 151) rfl)) rfl
set_option maxRecDepth 10000 in
theorem w_214 : Cond.fieldLink RX0 (30 : Nat) "SeriesPress$Block" "bits" "I" ∈ lw_gd := gw (tb1 (List.mem_of_getElem? (i := 152) rfl)) rfl
set_option maxRecDepth 10000 in
theorem w_215 : Cond.fieldLink RX7 (70 : Nat) "SeriesPress$Block" "bits" "I" ∈ lw_gd := gw (tb1 (List.mem_of_getElem? (i := 153) rfl)) rfl
set_option maxRecDepth 10000 in
theorem w_216 : Cond.fieldLink RX8 (186 : Nat) "SeriesPress$Block" "bits" "I" ∈ lw_gd := gw (tb1 (List.mem_of_getElem? (i := 154) rfl)) rfl
set_option maxRecDepth 10000 in
theorem w_217 : Cond.fieldLink RX0 (33 : Nat) "SeriesPress$Block" "points" "I" ∈ lw_gd := gw (tb1 (List.mem_of_getElem? (i := 155) rfl)) rfl
set_option maxRecDepth 10000 in
theorem w_218 : Cond.fieldLink RX6 (144 : Nat) "SeriesPress$Block" "points" "I" ∈ lw_gd := gw (tb1 (List.mem_of_getElem? (i := 156) rfl)) rfl
set_option maxRecDepth 10000 in
theorem w_219 : Cond.fieldLink RX7 (104 : Nat) "SeriesPress$Block" "points" "I" ∈ lw_gd := gw (tb1 (List.mem_of_getElem? (i := 157) rfl)) rfl
set_option maxRecDepth 10000 in
theorem w_22 : Cond.selects RX9 yX9_isAbove yX9_isAbove ∈ lw_gd := gw (List.mem_append_left _ (List.mem_of_getElem? (i := 22) rfl)) rfl
set_option maxRecDepth 10000 in
theorem w_220 : Cond.fieldLink RX8 (183 : Nat) "SeriesPress$Block" "points" "I" ∈ lw_gd := gw (tb1 (List.mem_of_getElem? (i := 158) rfl)) rfl
set_option maxRecDepth 10000 in
theorem w_221 : Cond.fieldLink RX6 (78 : Nat) "SeriesPress$Block" "first" "I" ∈ lw_gd := gw (tb1 (List.mem_of_getElem? (i := 159) rfl)) rfl
set_option maxRecDepth 10000 in
theorem w_222 : Cond.fieldLink RX0 (36 : Nat) "SeriesPress$Block" "first" "I" ∈ lw_gd := gw (tb1 (List.mem_of_getElem? (i := 160) rfl)) rfl
set_option maxRecDepth 10000 in
theorem w_223 : Cond.fieldLink RX8 (151 : Nat) "SeriesPress$Block" "first" "I" ∈ lw_gd := gw (tb1 (List.mem_of_getElem? (i := 161) rfl)) rfl
set_option maxRecDepth 10000 in
theorem w_224 : Cond.fieldLink RX6 (82 : Nat) "SeriesPress$Block" "last" "I" ∈ lw_gd := gw (tb1 (List.mem_of_getElem? (i := 162) rfl)) rfl
set_option maxRecDepth 10000 in
theorem w_225 : Cond.fieldLink RX0 (39 : Nat) "SeriesPress$Block" "last" "I" ∈ lw_gd := gw (tb1 (List.mem_of_getElem? (i := 163) rfl)) rfl
set_option maxRecDepth 10000 in
theorem w_226 : Cond.fieldLink RX7 (97 : Nat) "SeriesPress$Block" "last" "I" ∈ lw_gd := gw (tb1 (List.mem_of_getElem? (i := 164) rfl)) rfl
set_option maxRecDepth 10000 in
theorem w_227 : Cond.fieldLink RX8 (156 : Nat) "SeriesPress$Block" "last" "I" ∈ lw_gd := gw (tb1 (List.mem_of_getElem? (i := 165) rfl)) rfl
set_option maxRecDepth 10000 in
theorem w_228 : Cond.fieldLink RX6 (25 : Nat) "SeriesPress$Block" "sealed" "Z" ∈ lw_gd := gw (tb1 (List.mem_of_getElem? (i := 166) rfl)) rfl
set_option maxRecDepth 10000 in
theorem w_229 : Cond.fieldLink RX2 (20 : Nat) "SeriesPress$Block" "sealed" "Z" ∈ lw_gd := gw (tb1 (List.mem_of_getElem? (i := 167) rfl)) rfl
set_option maxRecDepth 10000 in
theorem w_23 : Cond.selects RX9 yX9_opens yX9_opens ∈ lw_gd := gw (List.mem_append_left _ (List.mem_of_getElem? (i := 23) rfl)) rfl
set_option maxRecDepth 10000 in
theorem w_230 : Cond.fieldLink RX7 (59 : Nat) "SeriesPress$Block" "sealed" "Z" ∈ lw_gd := gw (tb1 (List.mem_of_getElem? (i := 168) rfl)) rfl
set_option maxRecDepth 10000 in
theorem w_231 : Cond.fieldLink RX0 (42 : Nat) "SeriesPress$Block" "sealed" "Z" ∈ lw_gd := gw (tb1 (List.mem_of_getElem? (i := 169) rfl)) rfl
set_option maxRecDepth 10000 in
theorem w_232 : Cond.fieldLink RX8 (133 : Nat) "SeriesPress$Block" "sealed" "Z" ∈ lw_gd := gw (tb1 (List.mem_of_getElem? (i := 170) rfl)) rfl
set_option maxRecDepth 10000 in
theorem w_233 : Cond.fieldLink RX2 (26 : Nat) "SeriesPress$Block" "wrong" "I" ∈ lw_gd := gw (tb1 (List.mem_of_getElem? (i := 171) rfl)) rfl
set_option maxRecDepth 10000 in
theorem w_234 : Cond.fieldLink RX0 (46 : Nat) "SeriesPress$Block" "wrong" "I" ∈ lw_gd := gw (tb1 (List.mem_of_getElem? (i := 172) rfl)) rfl
set_option maxRecDepth 10000 in
theorem w_235 : Cond.fieldLink RX7 (101 : Nat) "SeriesPress$Block" "wrong" "I" ∈ lw_gd := gw (tb1 (List.mem_of_getElem? (i := 173) rfl)) rfl
set_option maxRecDepth 10000 in
theorem w_236 : Cond.fieldLink RX8 (180 : Nat) "SeriesPress$Block" "wrong" "I" ∈ lw_gd := gw (tb1 (List.mem_of_getElem? (i := 174) rfl)) rfl
set_option maxRecDepth 10000 in
theorem w_237 : Cond.fieldLink RX0 (15 : Nat) "SeriesPress$Block" "place" "I" ∈ lw_gd := gw (tb1 (List.mem_of_getElem? (i := 175) rfl)) rfl
set_option maxRecDepth 10000 in
theorem w_238 : Cond.fieldLink RX8 (192 : Nat) "SeriesPress$Block" "place" "I" ∈ lw_gd := gw (tb1 (List.mem_of_getElem? (i := 176) rfl)) rfl
set_option maxRecDepth 10000 in
theorem w_24 : Cond.selects RX9 yX9_reads yX9_reads ∈ lw_gd := gw (List.mem_append_left _ (List.mem_of_getElem? (i := 24) rfl)) rfl
set_option maxRecDepth 10000 in
theorem w_25 : Cond.selects RX9 yX9_readsAll yX9_readsAll ∈ lw_gd := gw (List.mem_append_left _ (List.mem_of_getElem? (i := 25) rfl)) rfl
set_option maxRecDepth 10000 in
theorem w_258 : Cond.fieldLink RX7 (11 : Nat) "SeriesPress$Series" "blocks" "[LSeriesPress$Block;" ∈ lw_gd := gw (tb1 (List.mem_of_getElem? (i := 196) rfl)) rfl
set_option maxRecDepth 10000 in
theorem w_259 : Cond.fieldLink RX8 (205 : Nat) "SeriesPress$Series" "blocks" "[LSeriesPress$Block;" ∈ lw_gd := gw (tb1 (List.mem_of_getElem? (i := 197) rfl)) rfl
set_option maxRecDepth 10000 in
theorem w_26 : Cond.selects RX9 yX9_faults yX9_faults ∈ lw_gd := gw (List.mem_append_left _ (List.mem_of_getElem? (i := 26) rfl)) rfl
set_option maxRecDepth 10000 in
theorem w_260 : Cond.fieldLink RX7 (22 : Nat) "SeriesPress$Series" "late" "LSeriesPress$Points;" ∈ lw_gd := gw (tb1 (List.mem_of_getElem? (i := 198) rfl)) rfl
set_option maxRecDepth 10000 in
theorem w_261 : Cond.fieldLink RX8 (95 : Nat) "SeriesPress$Series" "late" "LSeriesPress$Points;" ∈ lw_gd := gw (tb1 (List.mem_of_getElem? (i := 199) rfl)) rfl
set_option maxRecDepth 10000 in
theorem w_262 : Cond.fieldLink RX7 (29 : Nat) "SeriesPress$Series" "coder" "LSeriesPress$Coder;" ∈ lw_gd := gw (tb1 (List.mem_of_getElem? (i := 200) rfl)) rfl
set_option maxRecDepth 10000 in
theorem w_263 : Cond.fieldLink RX8 (108 : Nat) "SeriesPress$Series" "coder" "LSeriesPress$Coder;" ∈ lw_gd := gw (tb1 (List.mem_of_getElem? (i := 201) rfl)) rfl
set_option maxRecDepth 10000 in
theorem w_264 : Cond.fieldLink RX7 (45 : Nat) "SeriesPress$Series" "size" "I" ∈ lw_gd := gw (tb1 (List.mem_of_getElem? (i := 202) rfl)) rfl
set_option maxRecDepth 10000 in
theorem w_265 : Cond.fieldLink RX8 (169 : Nat) "SeriesPress$Series" "size" "I" ∈ lw_gd := gw (tb1 (List.mem_of_getElem? (i := 203) rfl)) rfl
set_option maxRecDepth 10000 in
theorem w_266 : Cond.fieldLink RX7 (42 : Nat) "SeriesPress$Series" "room" "I" ∈ lw_gd := gw (tb1 (List.mem_of_getElem? (i := 204) rfl)) rfl
set_option maxRecDepth 10000 in
theorem w_267 : Cond.fieldLink RX8 (145 : Nat) "SeriesPress$Series" "room" "I" ∈ lw_gd := gw (tb1 (List.mem_of_getElem? (i := 205) rfl)) rfl
set_option maxRecDepth 10000 in
theorem w_268 : Cond.fieldLink RX7 (33 : Nat) "SeriesPress$Series" "last" "I" ∈ lw_gd := gw (tb1 (List.mem_of_getElem? (i := 206) rfl)) rfl
set_option maxRecDepth 10000 in
theorem w_269 : Cond.fieldLink RX8 (87 : Nat) "SeriesPress$Series" "last" "I" ∈ lw_gd := gw (tb1 (List.mem_of_getElem? (i := 207) rfl)) rfl
set_option maxRecDepth 10000 in
theorem w_27 : Cond.selects RX9 yX9_byteAt yX9_byteAt ∈ lw_gd := gw (List.mem_append_left _ (List.mem_of_getElem? (i := 27) rfl)) rfl
set_option maxRecDepth 10000 in
theorem w_270 : Cond.fieldLink RX7 (38 : Nat) "SeriesPress$Series" "begun" "Z" ∈ lw_gd := gw (tb1 (List.mem_of_getElem? (i := 208) rfl)) rfl
set_option maxRecDepth 10000 in
theorem w_271 : Cond.fieldLink RX8 (351 : Nat) "SeriesPress$Series" "begun" "Z" ∈ lw_gd := gw (tb1 (List.mem_of_getElem? (i := 209) rfl)) rfl
set_option maxRecDepth 10000 in
theorem w_28 : Cond.selects RX9 yX9_checkOf yX9_checkOf ∈ lw_gd := gw (List.mem_append_left _ (List.mem_of_getElem? (i := 28) rfl)) rfl
set_option maxRecDepth 10000 in
theorem w_287 : Cond.classLink RX8 (20 : Nat) "SeriesPress$Points" ∈ lw_gd := gw (tb1 (List.mem_of_getElem? (i := 225) rfl)) rfl
set_option maxRecDepth 10000 in
theorem w_288 : Cond.methodLink RX8 (22 : Nat) yX5_init ∈ lw_gd := gw (tb1 (List.mem_of_getElem? (i := 226) rfl)) rfl
set_option maxRecDepth 10000 in
theorem w_289 : Cond.classLink RX8 (32 : Nat) "SeriesPress$Pairs" ∈ lw_gd := gw (tb1 (List.mem_of_getElem? (i := 227) rfl)) rfl
set_option maxRecDepth 10000 in
theorem w_29 : Cond.selects RX9 yX9_headStamp yX9_headStamp ∈ lw_gd := gw (List.mem_append_left _ (List.mem_of_getElem? (i := 29) rfl)) rfl
set_option maxRecDepth 10000 in
theorem w_290 : Cond.instantiable RX4 (9 : Nat) ∈ lw_gd := gw (tb1 (List.mem_of_getElem? (i := 228) rfl)) rfl
set_option maxRecDepth 10000 in
theorem w_291 : Cond.methodLink RX8 (34 : Nat) yX4_init ∈ lw_gd := gw (tb1 (List.mem_of_getElem? (i := 229) rfl)) rfl
set_option maxRecDepth 10000 in
theorem w_292 : Cond.instanceMethod yX4_init ∈ lw_gd := gw (tb1 (List.mem_of_getElem? (i := 230) rfl)) rfl
set_option maxRecDepth 10000 in
theorem w_293 : Cond.code yX4_init cX4_init (3 : Nat) (Option.none : Option FieldType) ∈ lw_gd := gw (tb1 (List.mem_of_getElem? (i := 231) rfl)) rfl
set_option maxRecDepth 10000 in
theorem w_294 : Cond.methodLink RX4 (1 : Nat) Lib.objectInit ∈ lw_gd := gw (tb1 (List.mem_of_getElem? (i := 232) rfl)) rfl
set_option maxRecDepth 10000 in
theorem w_295 : Cond.fieldLink RX4 (7 : Nat) "SeriesPress$Pairs" "one" "LSeriesPress$Points;" ∈ lw_gd := gw (tb1 (List.mem_of_getElem? (i := 233) rfl)) rfl
set_option maxRecDepth 10000 in
theorem w_296 : Cond.fieldLink RX4 (13 : Nat) "SeriesPress$Pairs" "two" "LSeriesPress$Points;" ∈ lw_gd := gw (tb1 (List.mem_of_getElem? (i := 234) rfl)) rfl
set_option maxRecDepth 10000 in
theorem w_297 : Cond.fieldLink RX4 (16 : Nat) "SeriesPress$Pairs" "i" "I" ∈ lw_gd := gw (tb1 (List.mem_of_getElem? (i := 235) rfl)) rfl
set_option maxRecDepth 10000 in
theorem w_298 : Cond.fieldLink RX4 (20 : Nat) "SeriesPress$Pairs" "j" "I" ∈ lw_gd := gw (tb1 (List.mem_of_getElem? (i := 236) rfl)) rfl
set_option maxRecDepth 10000 in
theorem w_299 : Cond.fieldLink RX4 (32 : Nat) "SeriesPress$Pairs" "inOne" "Z" ∈ lw_gd := gw (tb1 (List.mem_of_getElem? (i := 237) rfl)) rfl
set_option maxRecDepth 10000 in
theorem w_3 : Cond.selects RX7 yX7_closeOpen yX7_closeOpen ∈ lw_gd := gw (List.mem_append_left _ (List.mem_of_getElem? (i := 3) rfl)) rfl
set_option maxRecDepth 10000 in
theorem w_30 : Cond.selects RX9 yX9_headBits yX9_headBits ∈ lw_gd := gw (List.mem_append_left _ (List.mem_of_getElem? (i := 30) rfl)) rfl
set_option maxRecDepth 10000 in
theorem w_300 : Cond.fieldLink RX4 (36 : Nat) "SeriesPress$Pairs" "inTwo" "Z" ∈ lw_gd := gw (tb1 (List.mem_of_getElem? (i := 238) rfl)) rfl
set_option maxRecDepth 10000 in
theorem w_301 : Cond.fieldLink RX4 (43 : Nat) "SeriesPress$Pairs" "alike" "Z" ∈ lw_gd := gw (tb1 (List.mem_of_getElem? (i := 239) rfl)) rfl
set_option maxRecDepth 10000 in
theorem w_302 : Cond.fieldLink RX4 (46 : Nat) "SeriesPress$Pairs" "stamp" "I" ∈ lw_gd := gw (tb2 (List.mem_of_getElem? (i := 0) rfl)) rfl
set_option maxRecDepth 10000 in
theorem w_303 : Cond.fieldLink RX8 (322 : Nat) "SeriesPress$Pairs" "stamp" "I" ∈ lw_gd := gw (tb2 (List.mem_of_getElem? (i := 1) rfl)) rfl
set_option maxRecDepth 10000 in
theorem w_304 : Cond.fieldLink RX4 (49 : Nat) "SeriesPress$Pairs" "bits" "J" ∈ lw_gd := gw (tb2 (List.mem_of_getElem? (i := 2) rfl)) rfl
set_option maxRecDepth 10000 in
theorem w_305 : Cond.fieldLink RX8 (323 : Nat) "SeriesPress$Pairs" "bits" "J" ∈ lw_gd := gw (tb2 (List.mem_of_getElem? (i := 3) rfl)) rfl
set_option maxRecDepth 10000 in
theorem w_31 : Cond.selects RX9 yX9_heads yX9_heads ∈ lw_gd := gw (List.mem_append_left _ (List.mem_of_getElem? (i := 31) rfl)) rfl
set_option maxRecDepth 10000 in
theorem w_32 : Cond.selects RX9 yX9_keepsOne yX9_keepsOne ∈ lw_gd := gw (List.mem_append_left _ (List.mem_of_getElem? (i := 32) rfl)) rfl
set_option maxRecDepth 10000 in
theorem w_325 : Cond.classLink RX8 (41 : Nat) "SeriesPress$Reader" ∈ lw_gd := gw (tb2 (List.mem_of_getElem? (i := 23) rfl)) rfl
set_option maxRecDepth 10000 in
theorem w_326 : Cond.instantiable RX6 (17 : Nat) ∈ lw_gd := gw (tb2 (List.mem_of_getElem? (i := 24) rfl)) rfl
set_option maxRecDepth 10000 in
theorem w_328 : Cond.instanceMethod yX6_init ∈ lw_gd := gw (tb2 (List.mem_of_getElem? (i := 26) rfl)) rfl
set_option maxRecDepth 10000 in
theorem w_329 : Cond.code yX6_init cX6_init (1 : Nat) (Option.none : Option FieldType) ∈ lw_gd := gw (tb2 (List.mem_of_getElem? (i := 27) rfl)) rfl
set_option maxRecDepth 10000 in
theorem w_33 : Cond.selects RX9 yX9_readsOne yX9_readsOne ∈ lw_gd := gw (List.mem_append_left _ (List.mem_of_getElem? (i := 33) rfl)) rfl
set_option maxRecDepth 10000 in
theorem w_330 : Cond.methodLink RX6 (3 : Nat) Lib.objectInit ∈ lw_gd := gw (tb2 (List.mem_of_getElem? (i := 28) rfl)) rfl
set_option maxRecDepth 10000 in
theorem w_331 : Cond.classLink RX6 (9 : Nat) "SeriesPress$Coder" ∈ lw_gd := gw (tb2 (List.mem_of_getElem? (i := 29) rfl)) rfl
set_option maxRecDepth 10000 in
theorem w_333 : Cond.fieldLink RX6 (12 : Nat) "SeriesPress$Reader" "coder" "LSeriesPress$Coder;" ∈ lw_gd := gw (tb2 (List.mem_of_getElem? (i := 31) rfl)) rfl
set_option maxRecDepth 10000 in
theorem w_334 : Cond.fieldLink RX8 (152 : Nat) "SeriesPress$Reader" "coder" "LSeriesPress$Coder;" ∈ lw_gd := gw (tb2 (List.mem_of_getElem? (i := 32) rfl)) rfl
set_option maxRecDepth 10000 in
theorem w_335 : Cond.fieldLink RX7 (138 : Nat) "SeriesPress$Reader" "coder" "LSeriesPress$Coder;" ∈ lw_gd := gw (tb2 (List.mem_of_getElem? (i := 33) rfl)) rfl
set_option maxRecDepth 10000 in
theorem w_336 : Cond.fieldLink RX6 (46 : Nat) "SeriesPress$Reader" "first" "I" ∈ lw_gd := gw (tb2 (List.mem_of_getElem? (i := 34) rfl)) rfl
set_option maxRecDepth 10000 in
theorem w_337 : Cond.fieldLink RX8 (148 : Nat) "SeriesPress$Reader" "first" "I" ∈ lw_gd := gw (tb2 (List.mem_of_getElem? (i := 35) rfl)) rfl
set_option maxRecDepth 10000 in
theorem w_338 : Cond.fieldLink RX6 (49 : Nat) "SeriesPress$Reader" "points" "I" ∈ lw_gd := gw (tb2 (List.mem_of_getElem? (i := 36) rfl)) rfl
set_option maxRecDepth 10000 in
theorem w_339 : Cond.fieldLink RX0 (102 : Nat) "SeriesPress$Reader" "points" "I" ∈ lw_gd := gw (tb2 (List.mem_of_getElem? (i := 37) rfl)) rfl
set_option maxRecDepth 10000 in
theorem w_34 : Cond.selects RX9 yX9_gets yX9_gets ∈ lw_gd := gw (List.mem_append_left _ (List.mem_of_getElem? (i := 34) rfl)) rfl
set_option maxRecDepth 10000 in
theorem w_340 : Cond.fieldLink RX6 (75 : Nat) "SeriesPress$Reader" "bits" "I" ∈ lw_gd := gw (tb2 (List.mem_of_getElem? (i := 38) rfl)) rfl
set_option maxRecDepth 10000 in
theorem w_341 : Cond.fieldLink RX0 (103 : Nat) "SeriesPress$Reader" "bits" "I" ∈ lw_gd := gw (tb2 (List.mem_of_getElem? (i := 39) rfl)) rfl
set_option maxRecDepth 10000 in
theorem w_342 : Cond.fieldLink RX6 (56 : Nat) "SeriesPress$Reader" "place" "I" ∈ lw_gd := gw (tb2 (List.mem_of_getElem? (i := 40) rfl)) rfl
set_option maxRecDepth 10000 in
theorem w_343 : Cond.fieldLink RX0 (99 : Nat) "SeriesPress$Reader" "place" "I" ∈ lw_gd := gw (tb2 (List.mem_of_getElem? (i := 41) rfl)) rfl
set_option maxRecDepth 10000 in
theorem w_344 : Cond.fieldLink RX6 (145 : Nat) "SeriesPress$Reader" "dearestCost" "I" ∈ lw_gd := gw (tb2 (List.mem_of_getElem? (i := 42) rfl)) rfl
set_option maxRecDepth 10000 in
theorem w_345 : Cond.fieldLink RX8 (222 : Nat) "SeriesPress$Reader" "dearestCost" "I" ∈ lw_gd := gw (tb2 (List.mem_of_getElem? (i := 43) rfl)) rfl
set_option maxRecDepth 10000 in
theorem w_346 : Cond.fieldLink RX6 (151 : Nat) "SeriesPress$Reader" "dearestStamp" "I" ∈ lw_gd := gw (tb2 (List.mem_of_getElem? (i := 44) rfl)) rfl
set_option maxRecDepth 10000 in
theorem w_347 : Cond.fieldLink RX8 (225 : Nat) "SeriesPress$Reader" "dearestStamp" "I" ∈ lw_gd := gw (tb2 (List.mem_of_getElem? (i := 45) rfl)) rfl
set_option maxRecDepth 10000 in
theorem w_348 : Cond.fieldLink RX6 (24 : Nat) "SeriesPress$Reader" "bytes" "[I" ∈ lw_gd := gw (tb2 (List.mem_of_getElem? (i := 46) rfl)) rfl
set_option maxRecDepth 10000 in
theorem w_349 : Cond.fieldLink RX6 (36 : Nat) "SeriesPress$Reader" "position" "I" ∈ lw_gd := gw (tb2 (List.mem_of_getElem? (i := 47) rfl)) rfl
set_option maxRecDepth 10000 in
theorem w_35 : Cond.selects RX9 yX9_bitAt yX9_bitAt ∈ lw_gd := gw (List.mem_append_left _ (List.mem_of_getElem? (i := 35) rfl)) rfl
set_option maxRecDepth 10000 in
theorem w_350 : Cond.fieldLink RX6 (33 : Nat) "SeriesPress$Reader" "limit" "I" ∈ lw_gd := gw (tb2 (List.mem_of_getElem? (i := 48) rfl)) rfl
set_option maxRecDepth 10000 in
theorem w_351 : Cond.fieldLink RX6 (39 : Nat) "SeriesPress$Reader" "ended" "Z" ∈ lw_gd := gw (tb2 (List.mem_of_getElem? (i := 49) rfl)) rfl
set_option maxRecDepth 10000 in
theorem w_352 : Cond.fieldLink RX6 (88 : Nat) "SeriesPress$Reader" "kind" "I" ∈ lw_gd := gw (tb2 (List.mem_of_getElem? (i := 50) rfl)) rfl
set_option maxRecDepth 10000 in
theorem w_353 : Cond.fieldLink RX6 (126 : Nat) "SeriesPress$Reader" "way" "I" ∈ lw_gd := gw (tb2 (List.mem_of_getElem? (i := 51) rfl)) rfl
set_option maxRecDepth 10000 in
theorem w_354 : Cond.fieldLink RX6 (130 : Nat) "SeriesPress$Reader" "lead" "I" ∈ lw_gd := gw (tb2 (List.mem_of_getElem? (i := 52) rfl)) rfl
set_option maxRecDepth 10000 in
theorem w_355 : Cond.fieldLink RX6 (136 : Nat) "SeriesPress$Reader" "tail" "I" ∈ lw_gd := gw (tb2 (List.mem_of_getElem? (i := 53) rfl)) rfl
set_option maxRecDepth 10000 in
theorem w_356 : Cond.fieldLink RX6 (109 : Nat) "SeriesPress$Reader" "differing" "J" ∈ lw_gd := gw (tb2 (List.mem_of_getElem? (i := 54) rfl)) rfl
set_option maxRecDepth 10000 in
theorem w_357 : Cond.fieldLink RX6 (102 : Nat) "SeriesPress$Reader" "misshapen" "Z" ∈ lw_gd := gw (tb2 (List.mem_of_getElem? (i := 55) rfl)) rfl
set_option maxRecDepth 10000 in
theorem w_36 : Cond.selects RX9 yX9_wayOf yX9_wayOf ∈ lw_gd := gw (List.mem_append_left _ (List.mem_of_getElem? (i := 36) rfl)) rfl
set_option maxRecDepth 10000 in
theorem w_37 : Cond.selects RX9 yX9_comes yX9_comes ∈ lw_gd := gw (List.mem_append_left _ (List.mem_of_getElem? (i := 37) rfl)) rfl
set_option maxRecDepth 10000 in
theorem w_38 : Cond.selects RX9 yX9_takesBits yX9_takesBits ∈ lw_gd := gw (List.mem_append_left _ (List.mem_of_getElem? (i := 38) rfl)) rfl
set_option maxRecDepth 10000 in
theorem w_39 : Cond.selects RX9 yX9_writes yX9_writes ∈ lw_gd := gw (List.mem_append_left _ (List.mem_of_getElem? (i := 39) rfl)) rfl
set_option maxRecDepth 10000 in
theorem w_393 : Cond.classLink RX8 (48 : Nat) "SeriesPress$Coder" ∈ lw_gd := gw (tb2 (List.mem_of_getElem? (i := 91) rfl)) rfl
set_option maxRecDepth 10000 in
theorem w_395 : Cond.classLink RX8 (55 : Nat) "SeriesPress$Mender" ∈ lw_gd := gw (tb2 (List.mem_of_getElem? (i := 93) rfl)) rfl
set_option maxRecDepth 10000 in
theorem w_396 : Cond.instantiable RX2 (5 : Nat) ∈ lw_gd := gw (tb2 (List.mem_of_getElem? (i := 94) rfl)) rfl
set_option maxRecDepth 10000 in
theorem w_397 : Cond.methodLink RX8 (57 : Nat) yX2_init ∈ lw_gd := gw (tb2 (List.mem_of_getElem? (i := 95) rfl)) rfl
set_option maxRecDepth 10000 in
theorem w_398 : Cond.instanceMethod yX2_init ∈ lw_gd := gw (tb2 (List.mem_of_getElem? (i := 96) rfl)) rfl
set_option maxRecDepth 10000 in
theorem w_399 : Cond.code yX2_init cX2_init (2 : Nat) (Option.none : Option FieldType) ∈ lw_gd := gw (tb2 (List.mem_of_getElem? (i := 97) rfl)) rfl
set_option maxRecDepth 10000 in
theorem w_4 : Cond.selects RX8 yX8_blockOf yX8_blockOf ∈ lw_gd := gw (List.mem_append_left _ (List.mem_of_getElem? (i := 4) rfl)) rfl
set_option maxRecDepth 10000 in
theorem w_40 : Cond.selects RX9 yX9_puts yX9_puts ∈ lw_gd := gw (List.mem_append_left _ (List.mem_of_getElem? (i := 40) rfl)) rfl
set_option maxRecDepth 10000 in
theorem w_400 : Cond.methodLink RX2 (1 : Nat) Lib.objectInit ∈ lw_gd := gw (tb2 (List.mem_of_getElem? (i := 98) rfl)) rfl
set_option maxRecDepth 10000 in
theorem w_401 : Cond.fieldLink RX2 (7 : Nat) "SeriesPress$Mender" "reader" "LSeriesPress$Reader;" ∈ lw_gd := gw (tb2 (List.mem_of_getElem? (i := 99) rfl)) rfl
set_option maxRecDepth 10000 in
theorem w_402 : Cond.fieldLink RX2 (13 : Nat) "SeriesPress$Mender" "found" "I" ∈ lw_gd := gw (tb2 (List.mem_of_getElem? (i := 100) rfl)) rfl
set_option maxRecDepth 10000 in
theorem w_403 : Cond.fieldLink RX2 (17 : Nat) "SeriesPress$Mender" "wanted" "I" ∈ lw_gd := gw (tb2 (List.mem_of_getElem? (i := 101) rfl)) rfl
set_option maxRecDepth 10000 in
theorem w_404 : Cond.fieldLink RX2 (56 : Nat) "SeriesPress$Mender" "which" "I" ∈ lw_gd := gw (tb2 (List.mem_of_getElem? (i := 102) rfl)) rfl
set_option maxRecDepth 10000 in
theorem w_405 : Cond.fieldLink RX8 (199 : Nat) "SeriesPress$Mender" "which" "I" ∈ lw_gd := gw (tb2 (List.mem_of_getElem? (i := 103) rfl)) rfl
set_option maxRecDepth 10000 in
theorem w_406 : Cond.fieldLink RX2 (59 : Nat) "SeriesPress$Mender" "becomes" "I" ∈ lw_gd := gw (tb2 (List.mem_of_getElem? (i := 104) rfl)) rfl
set_option maxRecDepth 10000 in
theorem w_407 : Cond.fieldLink RX8 (202 : Nat) "SeriesPress$Mender" "becomes" "I" ∈ lw_gd := gw (tb2 (List.mem_of_getElem? (i := 105) rfl)) rfl
set_option maxRecDepth 10000 in
theorem w_41 : Cond.selects RX9 yX9_seals0 yX9_seals0 ∈ lw_gd := gw (List.mem_append_left _ (List.mem_of_getElem? (i := 41) rfl)) rfl
set_option maxRecDepth 10000 in
theorem w_419 : Cond.classLink RX8 (64 : Nat) "SeriesPress$Block" ∈ lw_gd := gw (tb2 (List.mem_of_getElem? (i := 117) rfl)) rfl
set_option maxRecDepth 10000 in
theorem w_42 : Cond.selects RX9 yX9_writesHead yX9_writesHead ∈ lw_gd := gw (List.mem_append_left _ (List.mem_of_getElem? (i := 42) rfl)) rfl
set_option maxRecDepth 10000 in
theorem w_421 : Cond.fieldLink RX8 (11 : Nat) "SeriesPress" "slots" "[LSeriesPress$Series;" ∈ lw_gd := gw (tb2 (List.mem_of_getElem? (i := 119) rfl)) rfl
set_option maxRecDepth 10000 in
theorem w_422 : Cond.fieldLink RX8 (16 : Nat) "SeriesPress" "spare" "LSeriesPress$Series;" ∈ lw_gd := gw (tb2 (List.mem_of_getElem? (i := 120) rfl)) rfl
set_option maxRecDepth 10000 in
theorem w_423 : Cond.fieldLink RX8 (25 : Nat) "SeriesPress" "mine" "LSeriesPress$Points;" ∈ lw_gd := gw (tb2 (List.mem_of_getElem? (i := 121) rfl)) rfl
set_option maxRecDepth 10000 in
theorem w_424 : Cond.fieldLink RX8 (29 : Nat) "SeriesPress" "theirs" "LSeriesPress$Points;" ∈ lw_gd := gw (tb2 (List.mem_of_getElem? (i := 122) rfl)) rfl
set_option maxRecDepth 10000 in
theorem w_425 : Cond.fieldLink RX8 (37 : Nat) "SeriesPress" "pairs" "LSeriesPress$Pairs;" ∈ lw_gd := gw (tb2 (List.mem_of_getElem? (i := 123) rfl)) rfl
set_option maxRecDepth 10000 in
theorem w_426 : Cond.fieldLink RX8 (44 : Nat) "SeriesPress" "reader" "LSeriesPress$Reader;" ∈ lw_gd := gw (tb2 (List.mem_of_getElem? (i := 124) rfl)) rfl
set_option maxRecDepth 10000 in
theorem w_427 : Cond.fieldLink RX8 (51 : Nat) "SeriesPress" "scales" "LSeriesPress$Coder;" ∈ lw_gd := gw (tb2 (List.mem_of_getElem? (i := 125) rfl)) rfl
set_option maxRecDepth 10000 in
theorem w_428 : Cond.fieldLink RX8 (60 : Nat) "SeriesPress" "mender" "LSeriesPress$Mender;" ∈ lw_gd := gw (tb2 (List.mem_of_getElem? (i := 126) rfl)) rfl
set_option maxRecDepth 10000 in
theorem w_429 : Cond.fieldLink RX8 (67 : Nat) "SeriesPress" "tape" "LSeriesPress$Block;" ∈ lw_gd := gw (tb2 (List.mem_of_getElem? (i := 127) rfl)) rfl
set_option maxRecDepth 10000 in
theorem w_43 : Cond.selects RX9 yX9_hasBroken yX9_hasBroken ∈ lw_gd := gw (List.mem_append_left _ (List.mem_of_getElem? (i := 43) rfl)) rfl
set_option maxRecDepth 10000 in
theorem w_44 : Cond.selects RX9 yX9_isBroken yX9_isBroken ∈ lw_gd := gw (List.mem_append_left _ (List.mem_of_getElem? (i := 44) rfl)) rfl
set_option maxRecDepth 10000 in
theorem w_449 : Cond.methodLink RL (13 : Nat) yX8_begins ∈ lw_gd := gw (tb2 (List.mem_of_getElem? (i := 147) rfl)) rfl
set_option maxRecDepth 10000 in
theorem w_45 : Cond.selects RX9 yX9_gathers yX9_gathers ∈ lw_gd := gw (List.mem_append_left _ (List.mem_of_getElem? (i := 45) rfl)) rfl
set_option maxRecDepth 10000 in
theorem w_450 : Cond.instanceMethod yX8_begins ∈ lw_gd := gw (tb2 (List.mem_of_getElem? (i := 148) rfl)) rfl
set_option maxRecDepth 10000 in
theorem w_451 : Cond.selects RX8 yX8_begins yX8_begins ∈ lw_gd := gw (tb2 (List.mem_of_getElem? (i := 149) rfl)) rfl
set_option maxRecDepth 10000 in
theorem w_452 : Cond.code yX8_begins cX8_begins (3 : Nat) (Option.some FieldType.int) ∈ lw_gd := gw (tb2 (List.mem_of_getElem? (i := 150) rfl)) rfl
set_option maxRecDepth 10000 in
theorem w_453 : Cond.methodLink RX8 (71 : Nat) yX8_isSlot ∈ lw_gd := gw (tb2 (List.mem_of_getElem? (i := 151) rfl)) rfl
set_option maxRecDepth 10000 in
theorem w_454 : Cond.static yX8_isSlot ∈ lw_gd := gw (tb2 (List.mem_of_getElem? (i := 152) rfl)) rfl
set_option maxRecDepth 10000 in
theorem w_455 : Cond.code yX8_isSlot cX8_isSlot (1 : Nat) (Option.some FieldType.boolean) ∈ lw_gd := gw (tb2 (List.mem_of_getElem? (i := 153) rfl)) rfl
set_option maxRecDepth 10000 in
theorem w_456 : Cond.methodLink RX8 (75 : Nat) yX8_isRoom ∈ lw_gd := gw (tb2 (List.mem_of_getElem? (i := 154) rfl)) rfl
set_option maxRecDepth 10000 in
theorem w_457 : Cond.static yX8_isRoom ∈ lw_gd := gw (tb2 (List.mem_of_getElem? (i := 155) rfl)) rfl
set_option maxRecDepth 10000 in
theorem w_458 : Cond.code yX8_isRoom cX8_isRoom (1 : Nat) (Option.some FieldType.boolean) ∈ lw_gd := gw (tb2 (List.mem_of_getElem? (i := 156) rfl)) rfl
set_option maxRecDepth 10000 in
theorem w_459 : Cond.methodLink RX8 (78 : Nat) yX7_start ∈ lw_gd := gw (tb2 (List.mem_of_getElem? (i := 157) rfl)) rfl
set_option maxRecDepth 10000 in
theorem w_46 : Cond.selects RX9 yX9_firstNot yX9_firstNot ∈ lw_gd := gw (List.mem_append_left _ (List.mem_of_getElem? (i := 46) rfl)) rfl
set_option maxRecDepth 10000 in
theorem w_460 : Cond.instanceMethod yX7_start ∈ lw_gd := gw (tb2 (List.mem_of_getElem? (i := 158) rfl)) rfl
set_option maxRecDepth 10000 in
theorem w_461 : Cond.selects RX7 yX7_start yX7_start ∈ lw_gd := gw (tb2 (List.mem_of_getElem? (i := 159) rfl)) rfl
set_option maxRecDepth 10000 in
theorem w_462 : Cond.code yX7_start cX7_start (2 : Nat) (Option.none : Option FieldType) ∈ lw_gd := gw (tb2 (List.mem_of_getElem? (i := 160) rfl)) rfl
set_option maxRecDepth 10000 in
theorem w_463 : Cond.methodLink RL (20 : Nat) yX8_add ∈ lw_gd := gw (tb2 (List.mem_of_getElem? (i := 161) rfl)) rfl
set_option maxRecDepth 10000 in
theorem w_464 : Cond.instanceMethod yX8_add ∈ lw_gd := gw (tb2 (List.mem_of_getElem? (i := 162) rfl)) rfl
set_option maxRecDepth 10000 in
theorem w_465 : Cond.selects RX8 yX8_add yX8_add ∈ lw_gd := gw (tb2 (List.mem_of_getElem? (i := 163) rfl)) rfl
set_option maxRecDepth 10000 in
theorem w_466 : Cond.code yX8_add cX8_add (5 : Nat) (Option.some FieldType.int) ∈ lw_gd := gw (tb2 (List.mem_of_getElem? (i := 164) rfl)) rfl
set_option maxRecDepth 10000 in
theorem w_467 : Cond.methodLink RX8 (81 : Nat) yX8_isNone ∈ lw_gd := gw (tb2 (List.mem_of_getElem? (i := 165) rfl)) rfl
set_option maxRecDepth 10000 in
theorem w_469 : Cond.instanceMethod yX8_isNone ∈ lw_gd := gw (tb2 (List.mem_of_getElem? (i := 167) rfl)) rfl
set_option maxRecDepth 10000 in
theorem w_47 : Cond.selects RX9 yX9_lays yX9_lays ∈ lw_gd := gw (List.mem_append_left _ (List.mem_of_getElem? (i := 47) rfl)) rfl
set_option maxRecDepth 10000 in
theorem w_470 : Cond.code yX8_isNone cX8_isNone (2 : Nat) (Option.some FieldType.boolean) ∈ lw_gd := gw (tb2 (List.mem_of_getElem? (i := 168) rfl)) rfl
set_option maxRecDepth 10000 in
theorem w_471 : Cond.methodLink RX8 (84 : Nat) yX8_isStamp ∈ lw_gd := gw (tb2 (List.mem_of_getElem? (i := 169) rfl)) rfl
set_option maxRecDepth 10000 in
theorem w_472 : Cond.static yX8_isStamp ∈ lw_gd := gw (tb2 (List.mem_of_getElem? (i := 170) rfl)) rfl
set_option maxRecDepth 10000 in
theorem w_473 : Cond.code yX8_isStamp cX8_isStamp (1 : Nat) (Option.some FieldType.boolean) ∈ lw_gd := gw (tb2 (List.mem_of_getElem? (i := 171) rfl)) rfl
set_option maxRecDepth 10000 in
theorem w_474 : Cond.constant RX8 (350 : Nat) (2000000000 : Int32) ∈ lw_gd := gw (tb2 (List.mem_of_getElem? (i := 172) rfl)) rfl
set_option maxRecDepth 10000 in
theorem w_475 : Cond.methodLink RX8 (91 : Nat) yX7_put ∈ lw_gd := gw (tb2 (List.mem_of_getElem? (i := 173) rfl)) rfl
set_option maxRecDepth 10000 in
theorem w_476 : Cond.instanceMethod yX7_put ∈ lw_gd := gw (tb2 (List.mem_of_getElem? (i := 174) rfl)) rfl
set_option maxRecDepth 10000 in
theorem w_477 : Cond.selects RX7 yX7_put yX7_put ∈ lw_gd := gw (tb2 (List.mem_of_getElem? (i := 175) rfl)) rfl
set_option maxRecDepth 10000 in
theorem w_478 : Cond.code yX7_put cX7_put (4 : Nat) (Option.some FieldType.int) ∈ lw_gd := gw (tb2 (List.mem_of_getElem? (i := 176) rfl)) rfl
set_option maxRecDepth 10000 in
theorem w_479 : Cond.methodLink RX7 (80 : Nat) yX7_fits ∈ lw_gd := gw (tb2 (List.mem_of_getElem? (i := 177) rfl)) rfl
set_option maxRecDepth 10000 in
theorem w_48 : Cond.selects RX9 yX9_packs yX9_packs ∈ lw_gd := gw (List.mem_append_left _ (List.mem_of_getElem? (i := 48) rfl)) rfl
set_option maxRecDepth 10000 in
theorem w_480 : Cond.instanceMethod yX7_fits ∈ lw_gd := gw (tb2 (List.mem_of_getElem? (i := 178) rfl)) rfl
set_option maxRecDepth 10000 in
theorem w_481 : Cond.selects RX7 yX7_fits yX7_fits ∈ lw_gd := gw (tb2 (List.mem_of_getElem? (i := 179) rfl)) rfl
set_option maxRecDepth 10000 in
theorem w_482 : Cond.code yX7_fits cX7_fits (5 : Nat) (Option.some FieldType.boolean) ∈ lw_gd := gw (tb2 (List.mem_of_getElem? (i := 180) rfl)) rfl
set_option maxRecDepth 10000 in
theorem w_483 : Cond.methodLink RX7 (62 : Nat) yX7_openBlock ∈ lw_gd := gw (tb2 (List.mem_of_getElem? (i := 181) rfl)) rfl
set_option maxRecDepth 10000 in
theorem w_484 : Cond.instanceMethod yX7_openBlock ∈ lw_gd := gw (tb2 (List.mem_of_getElem? (i := 182) rfl)) rfl
set_option maxRecDepth 10000 in
theorem w_485 : Cond.selects RX7 yX7_openBlock yX7_openBlock ∈ lw_gd := gw (tb2 (List.mem_of_getElem? (i := 183) rfl)) rfl
set_option maxRecDepth 10000 in
theorem w_486 : Cond.code yX7_openBlock cX7_openBlock (1 : Nat) (Option.some (FieldType.object "SeriesPress$Block")) ∈ lw_gd := gw (tb2 (List.mem_of_getElem? (i := 184) rfl)) rfl
set_option maxRecDepth 10000 in
theorem w_487 : Cond.methodLink RX7 (66 : Nat) yX1_weigh ∈ lw_gd := gw (tb2 (List.mem_of_getElem? (i := 185) rfl)) rfl
set_option maxRecDepth 10000 in
theorem w_488 : Cond.instanceMethod yX1_weigh ∈ lw_gd := gw (tb2 (List.mem_of_getElem? (i := 186) rfl)) rfl
set_option maxRecDepth 10000 in
theorem w_489 : Cond.selects RX1 yX1_weigh yX1_weigh ∈ lw_gd := gw (tb2 (List.mem_of_getElem? (i := 187) rfl)) rfl
set_option maxRecDepth 10000 in
theorem w_49 : Cond.selects RX9 yX9_copiesTo yX9_copiesTo ∈ lw_gd := gw (List.mem_append_left _ (List.mem_of_getElem? (i := 49) rfl)) rfl
set_option maxRecDepth 10000 in
theorem w_490 : Cond.code yX1_weigh cX1_weigh (6 : Nat) (Option.none : Option FieldType) ∈ lw_gd := gw (tb2 (List.mem_of_getElem? (i := 188) rfl)) rfl
set_option maxRecDepth 10000 in
theorem w_491 : Cond.methodLink RX1 (37 : Nat) yX1_kindOf ∈ lw_gd := gw (tb2 (List.mem_of_getElem? (i := 189) rfl)) rfl
set_option maxRecDepth 10000 in
theorem w_492 : Cond.static yX1_kindOf ∈ lw_gd := gw (tb2 (List.mem_of_getElem? (i := 190) rfl)) rfl
set_option maxRecDepth 10000 in
theorem w_493 : Cond.code yX1_kindOf cX1_kindOf (1 : Nat) (Option.some FieldType.int) ∈ lw_gd := gw (tb2 (List.mem_of_getElem? (i := 191) rfl)) rfl
set_option maxRecDepth 10000 in
theorem w_494 : Cond.methodLink RX1 (47 : Nat) yJ13_numberOfLeadingZeros_95d88 ∈ lw_gd := gw (tb2 (List.mem_of_getElem? (i := 192) rfl)) rfl
set_option maxRecDepth 10000 in
theorem w_495 : Cond.static yJ13_numberOfLeadingZeros_95d88 ∈ lw_gd := gw (tb2 (List.mem_of_getElem? (i := 193) rfl)) rfl
set_option maxRecDepth 10000 in
theorem w_496 : Cond.code yJ13_numberOfLeadingZeros_95d88 cJ13_numberOfLeadingZeros_95d88 (3 : Nat) (Option.some FieldType.int) ∈ lw_gd := gw (tb2 (List.mem_of_getElem? (i := 194) rfl)) rfl
set_option maxRecDepth 10000 in
theorem w_497 : Cond.methodLink RJ13 (308 : Nat) yJ6_numberOfLeadingZeros_0f7a4 ∈ lw_gd := gw (tb2 (List.mem_of_getElem? (i := 195) rfl)) rfl
set_option maxRecDepth 10000 in
theorem w_498 : Cond.static yJ6_numberOfLeadingZeros_0f7a4 ∈ lw_gd := gw (tb2 (List.mem_of_getElem? (i := 196) rfl)) rfl
set_option maxRecDepth 10000 in
theorem w_499 : Cond.code yJ6_numberOfLeadingZeros_0f7a4 cJ6_numberOfLeadingZeros_0f7a4 (2 : Nat) (Option.some FieldType.int) ∈ lw_gd := gw (tb2 (List.mem_of_getElem? (i := 197) rfl)) rfl
set_option maxRecDepth 10000 in
theorem w_5 : Cond.selects RX8 yX8_takenBy yX8_takenBy ∈ lw_gd := gw (List.mem_append_left _ (List.mem_of_getElem? (i := 5) rfl)) rfl
set_option maxRecDepth 10000 in
theorem w_50 : Cond.selects RX9 yX9_bytesOf yX9_bytesOf ∈ lw_gd := gw (List.mem_append_left _ (List.mem_of_getElem? (i := 50) rfl)) rfl
set_option maxRecDepth 10000 in
theorem w_500 : Cond.constant RJ6 (264 : Nat) (65536 : Int32) ∈ lw_gd := gw (tb2 (List.mem_of_getElem? (i := 198) rfl)) rfl
set_option maxRecDepth 10000 in
theorem w_501 : Cond.methodLink RX1 (53 : Nat) yJ13_numberOfTrailingZeros_95d88 ∈ lw_gd := gw (tb2 (List.mem_of_getElem? (i := 199) rfl)) rfl
set_option maxRecDepth 10000 in
theorem w_502 : Cond.static yJ13_numberOfTrailingZeros_95d88 ∈ lw_gd := gw (tb2 (List.mem_of_getElem? (i := 200) rfl)) rfl
set_option maxRecDepth 10000 in
theorem w_503 : Cond.code yJ13_numberOfTrailingZeros_95d88 cJ13_numberOfTrailingZeros_95d88 (3 : Nat) (Option.some FieldType.int) ∈ lw_gd := gw (tb2 (List.mem_of_getElem? (i := 201) rfl)) rfl
set_option maxRecDepth 10000 in
theorem w_504 : Cond.methodLink RJ13 (311 : Nat) yJ6_numberOfTrailingZeros_0f7a4 ∈ lw_gd := gw (tb2 (List.mem_of_getElem? (i := 202) rfl)) rfl
set_option maxRecDepth 10000 in
theorem w_505 : Cond.static yJ6_numberOfTrailingZeros_0f7a4 ∈ lw_gd := gw (tb2 (List.mem_of_getElem? (i := 203) rfl)) rfl
set_option maxRecDepth 10000 in
theorem w_506 : Cond.code yJ6_numberOfTrailingZeros_0f7a4 cJ6_numberOfTrailingZeros_0f7a4 (2 : Nat) (Option.some FieldType.int) ∈ lw_gd := gw (tb2 (List.mem_of_getElem? (i := 204) rfl)) rfl
set_option maxRecDepth 10000 in
theorem w_507 : Cond.methodLink RX1 (56 : Nat) yJ9_min_7cf53 ∈ lw_gd := gw (tb2 (List.mem_of_getElem? (i := 205) rfl)) rfl
set_option maxRecDepth 10000 in
theorem w_508 : Cond.static yJ9_min_7cf53 ∈ lw_gd := gw (tb2 (List.mem_of_getElem? (i := 206) rfl)) rfl
set_option maxRecDepth 10000 in
theorem w_509 : Cond.code yJ9_min_7cf53 cJ9_min_7cf53 (2 : Nat) (Option.some FieldType.int) ∈ lw_gd := gw (tb2 (List.mem_of_getElem? (i := 207) rfl)) rfl
set_option maxRecDepth 10000 in
theorem w_51 : Cond.selects RX9 yX9_isBlock yX9_isBlock ∈ lw_gd := gw (List.mem_append_left _ (List.mem_of_getElem? (i := 51) rfl)) rfl
set_option maxRecDepth 10000 in
theorem w_514 : Cond.methodLink RX1 (81 : Nat) yX1_isInWindow ∈ lw_gd := gw (tb2 (List.mem_of_getElem? (i := 212) rfl)) rfl
set_option maxRecDepth 10000 in
theorem w_516 : Cond.instanceMethod yX1_isInWindow ∈ lw_gd := gw (tb2 (List.mem_of_getElem? (i := 214) rfl)) rfl
set_option maxRecDepth 10000 in
theorem w_517 : Cond.code yX1_isInWindow cX1_isInWindow (3 : Nat) (Option.some FieldType.boolean) ∈ lw_gd := gw (tb2 (List.mem_of_getElem? (i := 215) rfl)) rfl
set_option maxRecDepth 10000 in
theorem w_518 : Cond.methodLink RX7 (76 : Nat) yX0_sealedBytes ∈ lw_gd := gw (tb2 (List.mem_of_getElem? (i := 216) rfl)) rfl
set_option maxRecDepth 10000 in
theorem w_519 : Cond.static yX0_sealedBytes ∈ lw_gd := gw (tb2 (List.mem_of_getElem? (i := 217) rfl)) rfl
set_option maxRecDepth 10000 in
theorem w_52 : Cond.selects RX9 yX9_mendsOf yX9_mendsOf ∈ lw_gd := gw (List.mem_append_left _ (List.mem_of_getElem? (i := 52) rfl)) rfl
set_option maxRecDepth 10000 in
theorem w_520 : Cond.code yX0_sealedBytes cX0_sealedBytes (1 : Nat) (Option.some FieldType.int) ∈ lw_gd := gw (tb2 (List.mem_of_getElem? (i := 218) rfl)) rfl
set_option maxRecDepth 10000 in
theorem w_521 : Cond.methodLink RX0 (19 : Nat) yX0_openBytes ∈ lw_gd := gw (tb2 (List.mem_of_getElem? (i := 219) rfl)) rfl
set_option maxRecDepth 10000 in
theorem w_522 : Cond.static yX0_openBytes ∈ lw_gd := gw (tb2 (List.mem_of_getElem? (i := 220) rfl)) rfl
set_option maxRecDepth 10000 in
theorem w_523 : Cond.code yX0_openBytes cX0_openBytes (1 : Nat) (Option.some FieldType.int) ∈ lw_gd := gw (tb2 (List.mem_of_getElem? (i := 221) rfl)) rfl
set_option maxRecDepth 10000 in
theorem w_524 : Cond.methodLink RX7 (84 : Nat) yX0_write ∈ lw_gd := gw (tb2 (List.mem_of_getElem? (i := 222) rfl)) rfl
set_option maxRecDepth 10000 in
theorem w_525 : Cond.instanceMethod yX0_write ∈ lw_gd := gw (tb2 (List.mem_of_getElem? (i := 223) rfl)) rfl
set_option maxRecDepth 10000 in
theorem w_526 : Cond.selects RX0 yX0_write yX0_write ∈ lw_gd := gw (tb2 (List.mem_of_getElem? (i := 224) rfl)) rfl
set_option maxRecDepth 10000 in
theorem w_527 : Cond.code yX0_write cX0_write (3 : Nat) (Option.none : Option FieldType) ∈ lw_gd := gw (tb2 (List.mem_of_getElem? (i := 225) rfl)) rfl
set_option maxRecDepth 10000 in
theorem w_53 : Cond.selects RX9 yX9_counted yX9_counted ∈ lw_gd := gw (List.mem_append_left _ (List.mem_of_getElem? (i := 53) rfl)) rfl
set_option maxRecDepth 10000 in
theorem w_531 : Cond.methodLink RX0 (60 : Nat) yX0_writeBits ∈ lw_gd := gw (tb2 (List.mem_of_getElem? (i := 229) rfl)) rfl
set_option maxRecDepth 10000 in
theorem w_533 : Cond.instanceMethod yX0_writeBits ∈ lw_gd := gw (tb2 (List.mem_of_getElem? (i := 231) rfl)) rfl
set_option maxRecDepth 10000 in
theorem w_534 : Cond.code yX0_writeBits cX0_writeBits (10 : Nat) (Option.none : Option FieldType) ∈ lw_gd := gw (tb2 (List.mem_of_getElem? (i := 232) rfl)) rfl
set_option maxRecDepth 10000 in
theorem w_536 : Cond.constantLong RX0 (73 : Nat) (2 : Int64) ∈ lw_gd := gw (tb2 (List.mem_of_getElem? (i := 234) rfl)) rfl
set_option maxRecDepth 10000 in
theorem w_537 : Cond.constantLong RX0 (91 : Nat) (3 : Int64) ∈ lw_gd := gw (tb2 (List.mem_of_getElem? (i := 235) rfl)) rfl
set_option maxRecDepth 10000 in
theorem w_538 : Cond.methodLink RX7 (87 : Nat) yX1_step ∈ lw_gd := gw (tb2 (List.mem_of_getElem? (i := 236) rfl)) rfl
set_option maxRecDepth 10000 in
theorem w_539 : Cond.instanceMethod yX1_step ∈ lw_gd := gw (tb2 (List.mem_of_getElem? (i := 237) rfl)) rfl
set_option maxRecDepth 10000 in
theorem w_54 : Cond.selects RX9 yX9_isAsked yX9_isAsked ∈ lw_gd := gw (List.mem_append_left _ (List.mem_of_getElem? (i := 54) rfl)) rfl
set_option maxRecDepth 10000 in
theorem w_540 : Cond.selects RX1 yX1_step yX1_step ∈ lw_gd := gw (tb2 (List.mem_of_getElem? (i := 238) rfl)) rfl
set_option maxRecDepth 10000 in
theorem w_541 : Cond.code yX1_step cX1_step (1 : Nat) (Option.none : Option FieldType) ∈ lw_gd := gw (tb2 (List.mem_of_getElem? (i := 239) rfl)) rfl
set_option maxRecDepth 10000 in
theorem w_542 : Cond.methodLink RX7 (90 : Nat) yX7_closeOpen ∈ lw_gd := gw (tb3 (List.mem_of_getElem? (i := 0) rfl)) rfl
set_option maxRecDepth 10000 in
theorem w_544 : Cond.instanceMethod yX7_closeOpen ∈ lw_gd := gw (tb3 (List.mem_of_getElem? (i := 2) rfl)) rfl
set_option maxRecDepth 10000 in
theorem w_545 : Cond.code yX7_closeOpen cX7_closeOpen (2 : Nat) (Option.none : Option FieldType) ∈ lw_gd := gw (tb3 (List.mem_of_getElem? (i := 3) rfl)) rfl
set_option maxRecDepth 10000 in
theorem w_546 : Cond.methodLink RX7 (98 : Nat) yX0_close ∈ lw_gd := gw (tb3 (List.mem_of_getElem? (i := 4) rfl)) rfl
set_option maxRecDepth 10000 in
theorem w_547 : Cond.instanceMethod yX0_close ∈ lw_gd := gw (tb3 (List.mem_of_getElem? (i := 5) rfl)) rfl
set_option maxRecDepth 10000 in
theorem w_548 : Cond.selects RX0 yX0_close yX0_close ∈ lw_gd := gw (tb3 (List.mem_of_getElem? (i := 6) rfl)) rfl
set_option maxRecDepth 10000 in
theorem w_549 : Cond.code yX0_close cX0_close (1 : Nat) (Option.none : Option FieldType) ∈ lw_gd := gw (tb3 (List.mem_of_getElem? (i := 7) rfl)) rfl
set_option maxRecDepth 10000 in
theorem w_55 : Cond.selects RX9 yX9_placeOf yX9_placeOf ∈ lw_gd := gw (List.mem_append_left _ (List.mem_of_getElem? (i := 55) rfl)) rfl
set_option maxRecDepth 10000 in
theorem w_550 : Cond.methodLink RX0 (96 : Nat) yX0_checkOf ∈ lw_gd := gw (tb3 (List.mem_of_getElem? (i := 8) rfl)) rfl
set_option maxRecDepth 10000 in
theorem w_551 : Cond.instanceMethod yX0_checkOf ∈ lw_gd := gw (tb3 (List.mem_of_getElem? (i := 9) rfl)) rfl
set_option maxRecDepth 10000 in
theorem w_552 : Cond.selects RX0 yX0_checkOf yX0_checkOf ∈ lw_gd := gw (tb3 (List.mem_of_getElem? (i := 10) rfl)) rfl
set_option maxRecDepth 10000 in
theorem w_553 : Cond.code yX0_checkOf cX0_checkOf (4 : Nat) (Option.some FieldType.int) ∈ lw_gd := gw (tb3 (List.mem_of_getElem? (i := 11) rfl)) rfl
set_option maxRecDepth 10000 in
theorem w_554 : Cond.methodLink RX7 (93 : Nat) yX0_begin ∈ lw_gd := gw (tb3 (List.mem_of_getElem? (i := 12) rfl)) rfl
set_option maxRecDepth 10000 in
theorem w_555 : Cond.instanceMethod yX0_begin ∈ lw_gd := gw (tb3 (List.mem_of_getElem? (i := 13) rfl)) rfl
set_option maxRecDepth 10000 in
theorem w_556 : Cond.selects RX0 yX0_begin yX0_begin ∈ lw_gd := gw (tb3 (List.mem_of_getElem? (i := 14) rfl)) rfl
set_option maxRecDepth 10000 in
theorem w_557 : Cond.code yX0_begin cX0_begin (4 : Nat) (Option.none : Option FieldType) ∈ lw_gd := gw (tb3 (List.mem_of_getElem? (i := 15) rfl)) rfl
set_option maxRecDepth 10000 in
theorem w_558 : Cond.methodLink RX0 (26 : Nat) yX0_append ∈ lw_gd := gw (tb3 (List.mem_of_getElem? (i := 16) rfl)) rfl
set_option maxRecDepth 10000 in
theorem w_559 : Cond.instanceMethod yX0_append ∈ lw_gd := gw (tb3 (List.mem_of_getElem? (i := 17) rfl)) rfl
set_option maxRecDepth 10000 in
theorem w_56 : Cond.selects RX9 yX9_isSpan yX9_isSpan ∈ lw_gd := gw (List.mem_append_left _ (List.mem_of_getElem? (i := 56) rfl)) rfl
set_option maxRecDepth 10000 in
theorem w_560 : Cond.selects RX0 yX0_append yX0_append ∈ lw_gd := gw (tb3 (List.mem_of_getElem? (i := 18) rfl)) rfl
set_option maxRecDepth 10000 in
theorem w_561 : Cond.code yX0_append cX0_append (3 : Nat) (Option.none : Option FieldType) ∈ lw_gd := gw (tb3 (List.mem_of_getElem? (i := 19) rfl)) rfl
set_option maxRecDepth 10000 in
theorem w_562 : Cond.methodLink RX7 (96 : Nat) yX1_begin ∈ lw_gd := gw (tb3 (List.mem_of_getElem? (i := 20) rfl)) rfl
set_option maxRecDepth 10000 in
theorem w_563 : Cond.instanceMethod yX1_begin ∈ lw_gd := gw (tb3 (List.mem_of_getElem? (i := 21) rfl)) rfl
set_option maxRecDepth 10000 in
theorem w_564 : Cond.selects RX1 yX1_begin yX1_begin ∈ lw_gd := gw (tb3 (List.mem_of_getElem? (i := 22) rfl)) rfl
set_option maxRecDepth 10000 in
theorem w_565 : Cond.code yX1_begin cX1_begin (4 : Nat) (Option.none : Option FieldType) ∈ lw_gd := gw (tb3 (List.mem_of_getElem? (i := 23) rfl)) rfl
set_option maxRecDepth 10000 in
theorem w_566 : Cond.methodLink RL (25 : Nat) yX8_late ∈ lw_gd := gw (tb3 (List.mem_of_getElem? (i := 24) rfl)) rfl
set_option maxRecDepth 10000 in
theorem w_567 : Cond.instanceMethod yX8_late ∈ lw_gd := gw (tb3 (List.mem_of_getElem? (i := 25) rfl)) rfl
set_option maxRecDepth 10000 in
theorem w_568 : Cond.selects RX8 yX8_late yX8_late ∈ lw_gd := gw (tb3 (List.mem_of_getElem? (i := 26) rfl)) rfl
set_option maxRecDepth 10000 in
theorem w_569 : Cond.code yX8_late cX8_late (6 : Nat) (Option.some FieldType.int) ∈ lw_gd := gw (tb3 (List.mem_of_getElem? (i := 27) rfl)) rfl
set_option maxRecDepth 10000 in
theorem w_57 : Cond.selects RX9 yX9_opened yX9_opened ∈ lw_gd := gw (List.mem_append_left _ (List.mem_of_getElem? (i := 57) rfl)) rfl
set_option maxRecDepth 10000 in
theorem w_570 : Cond.methodLink RX8 (98 : Nat) yX5_insert ∈ lw_gd := gw (tb3 (List.mem_of_getElem? (i := 28) rfl)) rfl
set_option maxRecDepth 10000 in
theorem w_571 : Cond.instanceMethod yX5_insert ∈ lw_gd := gw (tb3 (List.mem_of_getElem? (i := 29) rfl)) rfl
set_option maxRecDepth 10000 in
theorem w_572 : Cond.selects RX5 yX5_insert yX5_insert ∈ lw_gd := gw (tb3 (List.mem_of_getElem? (i := 30) rfl)) rfl
set_option maxRecDepth 10000 in
theorem w_573 : Cond.code yX5_insert cX5_insert (6 : Nat) (Option.some FieldType.boolean) ∈ lw_gd := gw (tb3 (List.mem_of_getElem? (i := 31) rfl)) rfl
set_option maxRecDepth 10000 in
theorem w_574 : Cond.methodLink RX5 (27 : Nat) yX5_firstFrom ∈ lw_gd := gw (tb3 (List.mem_of_getElem? (i := 32) rfl)) rfl
set_option maxRecDepth 10000 in
theorem w_575 : Cond.instanceMethod yX5_firstFrom ∈ lw_gd := gw (tb3 (List.mem_of_getElem? (i := 33) rfl)) rfl
set_option maxRecDepth 10000 in
theorem w_576 : Cond.selects RX5 yX5_firstFrom yX5_firstFrom ∈ lw_gd := gw (tb3 (List.mem_of_getElem? (i := 34) rfl)) rfl
set_option maxRecDepth 10000 in
theorem w_577 : Cond.code yX5_firstFrom cX5_firstFrom (3 : Nat) (Option.some FieldType.int) ∈ lw_gd := gw (tb3 (List.mem_of_getElem? (i := 35) rfl)) rfl
set_option maxRecDepth 10000 in
theorem w_578 : Cond.methodLink RL (29 : Nat) yX8_would ∈ lw_gd := gw (tb3 (List.mem_of_getElem? (i := 36) rfl)) rfl
set_option maxRecDepth 10000 in
theorem w_579 : Cond.instanceMethod yX8_would ∈ lw_gd := gw (tb3 (List.mem_of_getElem? (i := 37) rfl)) rfl
set_option maxRecDepth 10000 in
theorem w_58 : Cond.selects RX9 yX9_laysSpan yX9_laysSpan ∈ lw_gd := gw (List.mem_append_left _ (List.mem_of_getElem? (i := 58) rfl)) rfl
set_option maxRecDepth 10000 in
theorem w_580 : Cond.selects RX8 yX8_would yX8_would ∈ lw_gd := gw (tb3 (List.mem_of_getElem? (i := 38) rfl)) rfl
set_option maxRecDepth 10000 in
theorem w_581 : Cond.code yX8_would cX8_would (6 : Nat) (Option.some FieldType.int) ∈ lw_gd := gw (tb3 (List.mem_of_getElem? (i := 39) rfl)) rfl
set_option maxRecDepth 10000 in
theorem w_582 : Cond.methodLink RX8 (105 : Nat) yX7_fits ∈ lw_gd := gw (tb3 (List.mem_of_getElem? (i := 40) rfl)) rfl
set_option maxRecDepth 10000 in
theorem w_583 : Cond.methodLink RL (164 : Nat) yX8_seals ∈ lw_gd := gw (tb3 (List.mem_of_getElem? (i := 41) rfl)) rfl
set_option maxRecDepth 10000 in
theorem w_584 : Cond.instanceMethod yX8_seals ∈ lw_gd := gw (tb3 (List.mem_of_getElem? (i := 42) rfl)) rfl
set_option maxRecDepth 10000 in
theorem w_585 : Cond.selects RX8 yX8_seals yX8_seals ∈ lw_gd := gw (tb3 (List.mem_of_getElem? (i := 43) rfl)) rfl
set_option maxRecDepth 10000 in
theorem w_586 : Cond.code yX8_seals cX8_seals (3 : Nat) (Option.some FieldType.int) ∈ lw_gd := gw (tb3 (List.mem_of_getElem? (i := 44) rfl)) rfl
set_option maxRecDepth 10000 in
theorem w_587 : Cond.methodLink RX8 (114 : Nat) yX7_openBlock ∈ lw_gd := gw (tb3 (List.mem_of_getElem? (i := 45) rfl)) rfl
set_option maxRecDepth 10000 in
theorem w_588 : Cond.methodLink RX8 (118 : Nat) yX0_close ∈ lw_gd := gw (tb3 (List.mem_of_getElem? (i := 46) rfl)) rfl
set_option maxRecDepth 10000 in
theorem w_589 : Cond.methodLink RL (168 : Nat) yX8_drops ∈ lw_gd := gw (tb3 (List.mem_of_getElem? (i := 47) rfl)) rfl
set_option maxRecDepth 10000 in
theorem w_59 : Cond.selects RX9 yX9_areTwo yX9_areTwo ∈ lw_gd := gw (List.mem_append_left _ (List.mem_of_getElem? (i := 59) rfl)) rfl
set_option maxRecDepth 10000 in
theorem w_590 : Cond.instanceMethod yX8_drops ∈ lw_gd := gw (tb3 (List.mem_of_getElem? (i := 48) rfl)) rfl
set_option maxRecDepth 10000 in
theorem w_591 : Cond.selects RX8 yX8_drops yX8_drops ∈ lw_gd := gw (tb3 (List.mem_of_getElem? (i := 49) rfl)) rfl
set_option maxRecDepth 10000 in
theorem w_592 : Cond.code yX8_drops cX8_drops (3 : Nat) (Option.some FieldType.int) ∈ lw_gd := gw (tb3 (List.mem_of_getElem? (i := 50) rfl)) rfl
set_option maxRecDepth 10000 in
theorem w_593 : Cond.methodLink RX8 (122 : Nat) yX8_blockOf ∈ lw_gd := gw (tb3 (List.mem_of_getElem? (i := 51) rfl)) rfl
set_option maxRecDepth 10000 in
theorem w_595 : Cond.instanceMethod yX8_blockOf ∈ lw_gd := gw (tb3 (List.mem_of_getElem? (i := 53) rfl)) rfl
set_option maxRecDepth 10000 in
theorem w_596 : Cond.code yX8_blockOf cX8_blockOf (3 : Nat) (Option.some (FieldType.object "SeriesPress$Block")) ∈ lw_gd := gw (tb3 (List.mem_of_getElem? (i := 54) rfl)) rfl
set_option maxRecDepth 10000 in
theorem w_597 : Cond.methodLink RX8 (126 : Nat) yX7_remove ∈ lw_gd := gw (tb3 (List.mem_of_getElem? (i := 55) rfl)) rfl
set_option maxRecDepth 10000 in
theorem w_598 : Cond.instanceMethod yX7_remove ∈ lw_gd := gw (tb3 (List.mem_of_getElem? (i := 56) rfl)) rfl
set_option maxRecDepth 10000 in
theorem w_599 : Cond.selects RX7 yX7_remove yX7_remove ∈ lw_gd := gw (tb3 (List.mem_of_getElem? (i := 57) rfl)) rfl
set_option maxRecDepth 10000 in
theorem w_6 : Cond.selects RX6 yX6_takeBits yX6_takeBits ∈ lw_gd := gw (List.mem_append_left _ (List.mem_of_getElem? (i := 6) rfl)) rfl
set_option maxRecDepth 10000 in
theorem w_60 : Cond.selects RX9 yX9_gathersTwo yX9_gathersTwo ∈ lw_gd := gw (List.mem_append_left _ (List.mem_of_getElem? (i := 60) rfl)) rfl
set_option maxRecDepth 10000 in
theorem w_600 : Cond.code yX7_remove cX7_remove (4 : Nat) (Option.some FieldType.int) ∈ lw_gd := gw (tb3 (List.mem_of_getElem? (i := 58) rfl)) rfl
set_option maxRecDepth 10000 in
theorem w_601 : Cond.methodLink RL (189 : Nat) yX8_feed ∈ lw_gd := gw (tb3 (List.mem_of_getElem? (i := 59) rfl)) rfl
set_option maxRecDepth 10000 in
theorem w_602 : Cond.instanceMethod yX8_feed ∈ lw_gd := gw (tb3 (List.mem_of_getElem? (i := 60) rfl)) rfl
set_option maxRecDepth 10000 in
theorem w_603 : Cond.selects RX8 yX8_feed yX8_feed ∈ lw_gd := gw (tb3 (List.mem_of_getElem? (i := 61) rfl)) rfl
set_option maxRecDepth 10000 in
theorem w_604 : Cond.code yX8_feed cX8_feed (6 : Nat) (Option.some FieldType.int) ∈ lw_gd := gw (tb3 (List.mem_of_getElem? (i := 62) rfl)) rfl
set_option maxRecDepth 10000 in
theorem w_605 : Cond.methodLink RX8 (130 : Nat) yX0_append ∈ lw_gd := gw (tb3 (List.mem_of_getElem? (i := 63) rfl)) rfl
set_option maxRecDepth 10000 in
theorem w_606 : Cond.methodLink RL (194 : Nat) yX8_end ∈ lw_gd := gw (tb3 (List.mem_of_getElem? (i := 64) rfl)) rfl
set_option maxRecDepth 10000 in
theorem w_607 : Cond.instanceMethod yX8_end ∈ lw_gd := gw (tb3 (List.mem_of_getElem? (i := 65) rfl)) rfl
set_option maxRecDepth 10000 in
theorem w_608 : Cond.selects RX8 yX8_end yX8_end ∈ lw_gd := gw (tb3 (List.mem_of_getElem? (i := 66) rfl)) rfl
set_option maxRecDepth 10000 in
theorem w_609 : Cond.code yX8_end cX8_end (2 : Nat) (Option.some FieldType.int) ∈ lw_gd := gw (tb3 (List.mem_of_getElem? (i := 67) rfl)) rfl
set_option maxRecDepth 10000 in
theorem w_61 : Cond.selects RX9 yX9_lessens yX9_lessens ∈ lw_gd := gw (List.mem_append_left _ (List.mem_of_getElem? (i := 61) rfl)) rfl
set_option maxRecDepth 10000 in
theorem w_610 : Cond.methodLink RL (202 : Nat) yX8_taped ∈ lw_gd := gw (tb3 (List.mem_of_getElem? (i := 68) rfl)) rfl
set_option maxRecDepth 10000 in
theorem w_611 : Cond.instanceMethod yX8_taped ∈ lw_gd := gw (tb3 (List.mem_of_getElem? (i := 69) rfl)) rfl
set_option maxRecDepth 10000 in
theorem w_612 : Cond.selects RX8 yX8_taped yX8_taped ∈ lw_gd := gw (tb3 (List.mem_of_getElem? (i := 70) rfl)) rfl
set_option maxRecDepth 10000 in
theorem w_613 : Cond.code yX8_taped cX8_taped (1 : Nat) (Option.some FieldType.int) ∈ lw_gd := gw (tb3 (List.mem_of_getElem? (i := 71) rfl)) rfl
set_option maxRecDepth 10000 in
theorem w_614 : Cond.methodLink RL (198 : Nat) yX8_takes ∈ lw_gd := gw (tb3 (List.mem_of_getElem? (i := 72) rfl)) rfl
set_option maxRecDepth 10000 in
theorem w_615 : Cond.instanceMethod yX8_takes ∈ lw_gd := gw (tb3 (List.mem_of_getElem? (i := 73) rfl)) rfl
set_option maxRecDepth 10000 in
theorem w_616 : Cond.selects RX8 yX8_takes yX8_takes ∈ lw_gd := gw (tb3 (List.mem_of_getElem? (i := 74) rfl)) rfl
set_option maxRecDepth 10000 in
theorem w_617 : Cond.code yX8_takes cX8_takes (3 : Nat) (Option.some FieldType.int) ∈ lw_gd := gw (tb3 (List.mem_of_getElem? (i := 75) rfl)) rfl
set_option maxRecDepth 10000 in
theorem w_618 : Cond.methodLink RX8 (137 : Nat) yX8_takenBy ∈ lw_gd := gw (tb3 (List.mem_of_getElem? (i := 76) rfl)) rfl
set_option maxRecDepth 10000 in
theorem w_620 : Cond.instanceMethod yX8_takenBy ∈ lw_gd := gw (tb3 (List.mem_of_getElem? (i := 78) rfl)) rfl
set_option maxRecDepth 10000 in
theorem w_621 : Cond.code yX8_takenBy cX8_takenBy (3 : Nat) (Option.some FieldType.int) ∈ lw_gd := gw (tb3 (List.mem_of_getElem? (i := 79) rfl)) rfl
set_option maxRecDepth 10000 in
theorem w_622 : Cond.methodLink RX8 (141 : Nat) yX6_examine ∈ lw_gd := gw (tb3 (List.mem_of_getElem? (i := 80) rfl)) rfl
set_option maxRecDepth 10000 in
theorem w_623 : Cond.instanceMethod yX6_examine ∈ lw_gd := gw (tb3 (List.mem_of_getElem? (i := 81) rfl)) rfl
set_option maxRecDepth 10000 in
theorem w_624 : Cond.selects RX6 yX6_examine yX6_examine ∈ lw_gd := gw (tb3 (List.mem_of_getElem? (i := 82) rfl)) rfl
set_option maxRecDepth 10000 in
theorem w_625 : Cond.code yX6_examine cX6_examine (5 : Nat) (Option.some FieldType.int) ∈ lw_gd := gw (tb3 (List.mem_of_getElem? (i := 83) rfl)) rfl
set_option maxRecDepth 10000 in
theorem w_626 : Cond.methodLink RX6 (59 : Nat) yX0_checkOf ∈ lw_gd := gw (tb3 (List.mem_of_getElem? (i := 84) rfl)) rfl
set_option maxRecDepth 10000 in
theorem w_627 : Cond.methodLink RX6 (63 : Nat) yX6_open ∈ lw_gd := gw (tb3 (List.mem_of_getElem? (i := 85) rfl)) rfl
set_option maxRecDepth 10000 in
theorem w_628 : Cond.instanceMethod yX6_open ∈ lw_gd := gw (tb3 (List.mem_of_getElem? (i := 86) rfl)) rfl
set_option maxRecDepth 10000 in
theorem w_629 : Cond.selects RX6 yX6_open yX6_open ∈ lw_gd := gw (tb3 (List.mem_of_getElem? (i := 87) rfl)) rfl
set_option maxRecDepth 10000 in
theorem w_63 : Cond.initialized RX8 ∈ lw_gd := gw (tb1 (List.mem_of_getElem? (i := 1) rfl)) rfl
set_option maxRecDepth 10000 in
theorem w_630 : Cond.code yX6_open cX6_open (4 : Nat) (Option.none : Option FieldType) ∈ lw_gd := gw (tb3 (List.mem_of_getElem? (i := 88) rfl)) rfl
set_option maxRecDepth 10000 in
theorem w_631 : Cond.methodLink RX6 (42 : Nat) yX6_takeBits ∈ lw_gd := gw (tb3 (List.mem_of_getElem? (i := 89) rfl)) rfl
set_option maxRecDepth 10000 in
theorem w_633 : Cond.instanceMethod yX6_takeBits ∈ lw_gd := gw (tb3 (List.mem_of_getElem? (i := 91) rfl)) rfl
set_option maxRecDepth 10000 in
theorem w_634 : Cond.code yX6_takeBits cX6_takeBits (8 : Nat) (Option.some FieldType.long) ∈ lw_gd := gw (tb3 (List.mem_of_getElem? (i := 92) rfl)) rfl
set_option maxRecDepth 10000 in
theorem w_635 : Cond.methodLink RX6 (52 : Nat) yX1_begin ∈ lw_gd := gw (tb3 (List.mem_of_getElem? (i := 93) rfl)) rfl
set_option maxRecDepth 10000 in
theorem w_637 : Cond.methodLink RX6 (71 : Nat) yX6_read ∈ lw_gd := gw (tb3 (List.mem_of_getElem? (i := 95) rfl)) rfl
set_option maxRecDepth 10000 in
theorem w_638 : Cond.instanceMethod yX6_read ∈ lw_gd := gw (tb3 (List.mem_of_getElem? (i := 96) rfl)) rfl
set_option maxRecDepth 10000 in
theorem w_639 : Cond.selects RX6 yX6_read yX6_read ∈ lw_gd := gw (tb3 (List.mem_of_getElem? (i := 97) rfl)) rfl
set_option maxRecDepth 10000 in
theorem w_64 : Cond.initialized RX7 ∈ lw_gd := gw (tb1 (List.mem_of_getElem? (i := 2) rfl)) rfl
set_option maxRecDepth 10000 in
theorem w_640 : Cond.code yX6_read cX6_read (7 : Nat) (Option.some FieldType.int) ∈ lw_gd := gw (tb3 (List.mem_of_getElem? (i := 98) rfl)) rfl
set_option maxRecDepth 10000 in
theorem w_641 : Cond.methodLink RX6 (85 : Nat) yX6_takeKind ∈ lw_gd := gw (tb3 (List.mem_of_getElem? (i := 99) rfl)) rfl
set_option maxRecDepth 10000 in
theorem w_643 : Cond.instanceMethod yX6_takeKind ∈ lw_gd := gw (tb3 (List.mem_of_getElem? (i := 101) rfl)) rfl
set_option maxRecDepth 10000 in
theorem w_644 : Cond.code yX6_takeKind cX6_takeKind (2 : Nat) (Option.some FieldType.int) ∈ lw_gd := gw (tb3 (List.mem_of_getElem? (i := 102) rfl)) rfl
set_option maxRecDepth 10000 in
theorem w_645 : Cond.methodLink RX6 (91 : Nat) yX6_takeSecond ∈ lw_gd := gw (tb3 (List.mem_of_getElem? (i := 103) rfl)) rfl
set_option maxRecDepth 10000 in
theorem w_647 : Cond.instanceMethod yX6_takeSecond ∈ lw_gd := gw (tb3 (List.mem_of_getElem? (i := 105) rfl)) rfl
set_option maxRecDepth 10000 in
theorem w_648 : Cond.code yX6_takeSecond cX6_takeSecond (5 : Nat) (Option.some FieldType.long) ∈ lw_gd := gw (tb3 (List.mem_of_getElem? (i := 106) rfl)) rfl
set_option maxRecDepth 10000 in
theorem w_65 : Cond.initialized RX5 ∈ lw_gd := gw (tb1 (List.mem_of_getElem? (i := 3) rfl)) rfl
set_option maxRecDepth 10000 in
theorem w_650 : Cond.methodLink RX6 (94 : Nat) yX6_takeValue ∈ lw_gd := gw (tb3 (List.mem_of_getElem? (i := 108) rfl)) rfl
set_option maxRecDepth 10000 in
theorem w_652 : Cond.instanceMethod yX6_takeValue ∈ lw_gd := gw (tb3 (List.mem_of_getElem? (i := 110) rfl)) rfl
set_option maxRecDepth 10000 in
theorem w_653 : Cond.code yX6_takeValue cX6_takeValue (4 : Nat) (Option.none : Option FieldType) ∈ lw_gd := gw (tb3 (List.mem_of_getElem? (i := 111) rfl)) rfl
set_option maxRecDepth 10000 in
theorem w_654 : Cond.constantLong RX6 (100 : Nat) (2000000000 : Int64) ∈ lw_gd := gw (tb3 (List.mem_of_getElem? (i := 112) rfl)) rfl
set_option maxRecDepth 10000 in
theorem w_655 : Cond.methodLink RX6 (112 : Nat) yX1_weigh ∈ lw_gd := gw (tb3 (List.mem_of_getElem? (i := 113) rfl)) rfl
set_option maxRecDepth 10000 in
theorem w_656 : Cond.methodLink RX6 (115 : Nat) yX6_isToldSo ∈ lw_gd := gw (tb3 (List.mem_of_getElem? (i := 114) rfl)) rfl
set_option maxRecDepth 10000 in
theorem w_658 : Cond.instanceMethod yX6_isToldSo ∈ lw_gd := gw (tb3 (List.mem_of_getElem? (i := 116) rfl)) rfl
set_option maxRecDepth 10000 in
theorem w_659 : Cond.code yX6_isToldSo cX6_isToldSo (1 : Nat) (Option.some FieldType.boolean) ∈ lw_gd := gw (tb3 (List.mem_of_getElem? (i := 117) rfl)) rfl
set_option maxRecDepth 10000 in
theorem w_66 : Cond.initialized RX1 ∈ lw_gd := gw (tb1 (List.mem_of_getElem? (i := 4) rfl)) rfl
set_option maxRecDepth 10000 in
theorem w_660 : Cond.methodLink RX6 (119 : Nat) yX1_step ∈ lw_gd := gw (tb3 (List.mem_of_getElem? (i := 118) rfl)) rfl
set_option maxRecDepth 10000 in
theorem w_661 : Cond.methodLink RX8 (157 : Nat) yX0_settle ∈ lw_gd := gw (tb3 (List.mem_of_getElem? (i := 119) rfl)) rfl
set_option maxRecDepth 10000 in
theorem w_662 : Cond.instanceMethod yX0_settle ∈ lw_gd := gw (tb3 (List.mem_of_getElem? (i := 120) rfl)) rfl
set_option maxRecDepth 10000 in
theorem w_663 : Cond.selects RX0 yX0_settle yX0_settle ∈ lw_gd := gw (tb3 (List.mem_of_getElem? (i := 121) rfl)) rfl
set_option maxRecDepth 10000 in
theorem w_664 : Cond.code yX0_settle cX0_settle (3 : Nat) (Option.none : Option FieldType) ∈ lw_gd := gw (tb3 (List.mem_of_getElem? (i := 122) rfl)) rfl
set_option maxRecDepth 10000 in
theorem w_665 : Cond.methodLink RX8 (161 : Nat) yX7_take ∈ lw_gd := gw (tb3 (List.mem_of_getElem? (i := 123) rfl)) rfl
set_option maxRecDepth 10000 in
theorem w_666 : Cond.instanceMethod yX7_take ∈ lw_gd := gw (tb3 (List.mem_of_getElem? (i := 124) rfl)) rfl
set_option maxRecDepth 10000 in
theorem w_667 : Cond.selects RX7 yX7_take yX7_take ∈ lw_gd := gw (tb3 (List.mem_of_getElem? (i := 125) rfl)) rfl
set_option maxRecDepth 10000 in
theorem w_668 : Cond.code yX7_take cX7_take (2 : Nat) (Option.some FieldType.int) ∈ lw_gd := gw (tb3 (List.mem_of_getElem? (i := 126) rfl)) rfl
set_option maxRecDepth 10000 in
theorem w_669 : Cond.methodLink RX7 (56 : Nat) yX0_become ∈ lw_gd := gw (tb3 (List.mem_of_getElem? (i := 127) rfl)) rfl
set_option maxRecDepth 10000 in
theorem w_67 : Cond.initialized RX0 ∈ lw_gd := gw (tb1 (List.mem_of_getElem? (i := 5) rfl)) rfl
set_option maxRecDepth 10000 in
theorem w_670 : Cond.instanceMethod yX0_become ∈ lw_gd := gw (tb3 (List.mem_of_getElem? (i := 128) rfl)) rfl
set_option maxRecDepth 10000 in
theorem w_671 : Cond.selects RX0 yX0_become yX0_become ∈ lw_gd := gw (tb3 (List.mem_of_getElem? (i := 129) rfl)) rfl
set_option maxRecDepth 10000 in
theorem w_672 : Cond.code yX0_become cX0_become (2 : Nat) (Option.none : Option FieldType) ∈ lw_gd := gw (tb3 (List.mem_of_getElem? (i := 130) rfl)) rfl
set_option maxRecDepth 10000 in
theorem w_673 : Cond.methodLink RX0 (104 : Nat) arraycopyName ∈ lw_gd := gw (tb3 (List.mem_of_getElem? (i := 131) rfl)) rfl
set_option maxRecDepth 10000 in
theorem w_674 : Cond.static arraycopyName ∈ lw_gd := gw (tb3 (List.mem_of_getElem? (i := 132) rfl)) rfl
set_option maxRecDepth 10000 in
theorem w_675 : Cond.native arraycopyName ∈ lw_gd := gw (tb3 (List.mem_of_getElem? (i := 133) rfl)) rfl
set_option maxRecDepth 10000 in
theorem w_676 : Cond.methodLink RL (38 : Nat) yX8_count ∈ lw_gd := gw (tb3 (List.mem_of_getElem? (i := 134) rfl)) rfl
set_option maxRecDepth 10000 in
theorem w_677 : Cond.instanceMethod yX8_count ∈ lw_gd := gw (tb3 (List.mem_of_getElem? (i := 135) rfl)) rfl
set_option maxRecDepth 10000 in
theorem w_678 : Cond.selects RX8 yX8_count yX8_count ∈ lw_gd := gw (tb3 (List.mem_of_getElem? (i := 136) rfl)) rfl
set_option maxRecDepth 10000 in
theorem w_679 : Cond.code yX8_count cX8_count (4 : Nat) (Option.some FieldType.int) ∈ lw_gd := gw (tb3 (List.mem_of_getElem? (i := 137) rfl)) rfl
set_option maxRecDepth 10000 in
theorem w_68 : Cond.initialized RX4 ∈ lw_gd := gw (tb1 (List.mem_of_getElem? (i := 6) rfl)) rfl
set_option maxRecDepth 10000 in
theorem w_680 : Cond.methodLink RX8 (165 : Nat) yX7_soundPoints ∈ lw_gd := gw (tb3 (List.mem_of_getElem? (i := 138) rfl)) rfl
set_option maxRecDepth 10000 in
theorem w_681 : Cond.instanceMethod yX7_soundPoints ∈ lw_gd := gw (tb3 (List.mem_of_getElem? (i := 139) rfl)) rfl
set_option maxRecDepth 10000 in
theorem w_682 : Cond.selects RX7 yX7_soundPoints yX7_soundPoints ∈ lw_gd := gw (tb3 (List.mem_of_getElem? (i := 140) rfl)) rfl
set_option maxRecDepth 10000 in
theorem w_683 : Cond.code yX7_soundPoints cX7_soundPoints (3 : Nat) (Option.some FieldType.int) ∈ lw_gd := gw (tb3 (List.mem_of_getElem? (i := 141) rfl)) rfl
set_option maxRecDepth 10000 in
theorem w_684 : Cond.methodLink RX8 (170 : Nat) yX7_bytes ∈ lw_gd := gw (tb3 (List.mem_of_getElem? (i := 142) rfl)) rfl
set_option maxRecDepth 10000 in
theorem w_685 : Cond.instanceMethod yX7_bytes ∈ lw_gd := gw (tb3 (List.mem_of_getElem? (i := 143) rfl)) rfl
set_option maxRecDepth 10000 in
theorem w_686 : Cond.selects RX7 yX7_bytes yX7_bytes ∈ lw_gd := gw (tb3 (List.mem_of_getElem? (i := 144) rfl)) rfl
set_option maxRecDepth 10000 in
theorem w_687 : Cond.code yX7_bytes cX7_bytes (3 : Nat) (Option.some FieldType.int) ∈ lw_gd := gw (tb3 (List.mem_of_getElem? (i := 145) rfl)) rfl
set_option maxRecDepth 10000 in
theorem w_688 : Cond.methodLink RX8 (173 : Nat) yX7_broken ∈ lw_gd := gw (tb3 (List.mem_of_getElem? (i := 146) rfl)) rfl
set_option maxRecDepth 10000 in
theorem w_689 : Cond.instanceMethod yX7_broken ∈ lw_gd := gw (tb3 (List.mem_of_getElem? (i := 147) rfl)) rfl
set_option maxRecDepth 10000 in
theorem w_69 : Cond.initialized RX6 ∈ lw_gd := gw (tb1 (List.mem_of_getElem? (i := 7) rfl)) rfl
set_option maxRecDepth 10000 in
theorem w_690 : Cond.selects RX7 yX7_broken yX7_broken ∈ lw_gd := gw (tb3 (List.mem_of_getElem? (i := 148) rfl)) rfl
set_option maxRecDepth 10000 in
theorem w_691 : Cond.code yX7_broken cX7_broken (3 : Nat) (Option.some FieldType.int) ∈ lw_gd := gw (tb3 (List.mem_of_getElem? (i := 149) rfl)) rfl
set_option maxRecDepth 10000 in
theorem w_692 : Cond.methodLink RX8 (176 : Nat) yX8_gathered ∈ lw_gd := gw (tb3 (List.mem_of_getElem? (i := 150) rfl)) rfl
set_option maxRecDepth 10000 in
theorem w_694 : Cond.instanceMethod yX8_gathered ∈ lw_gd := gw (tb3 (List.mem_of_getElem? (i := 152) rfl)) rfl
set_option maxRecDepth 10000 in
theorem w_695 : Cond.code yX8_gathered cX8_gathered (2 : Nat) (Option.some (FieldType.object "SeriesPress$Points")) ∈ lw_gd := gw (tb3 (List.mem_of_getElem? (i := 153) rfl)) rfl
set_option maxRecDepth 10000 in
theorem w_696 : Cond.methodLink RX8 (228 : Nat) yX7_gather ∈ lw_gd := gw (tb3 (List.mem_of_getElem? (i := 154) rfl)) rfl
set_option maxRecDepth 10000 in
theorem w_697 : Cond.instanceMethod yX7_gather ∈ lw_gd := gw (tb3 (List.mem_of_getElem? (i := 155) rfl)) rfl
set_option maxRecDepth 10000 in
theorem w_698 : Cond.selects RX7 yX7_gather yX7_gather ∈ lw_gd := gw (tb3 (List.mem_of_getElem? (i := 156) rfl)) rfl
set_option maxRecDepth 10000 in
theorem w_699 : Cond.code yX7_gather cX7_gather (7 : Nat) (Option.none : Option FieldType) ∈ lw_gd := gw (tb3 (List.mem_of_getElem? (i := 157) rfl)) rfl
set_option maxRecDepth 10000 in
theorem w_7 : Cond.selects RX6 yX6_takeKind yX6_takeKind ∈ lw_gd := gw (List.mem_append_left _ (List.mem_of_getElem? (i := 7) rfl)) rfl
set_option maxRecDepth 10000 in
theorem w_70 : Cond.initialized RX2 ∈ lw_gd := gw (tb1 (List.mem_of_getElem? (i := 8) rfl)) rfl
set_option maxRecDepth 10000 in
theorem w_700 : Cond.methodLink RX7 (112 : Nat) yX5_firstFrom ∈ lw_gd := gw (tb3 (List.mem_of_getElem? (i := 158) rfl)) rfl
set_option maxRecDepth 10000 in
theorem w_701 : Cond.methodLink RX7 (108 : Nat) yX0_touches ∈ lw_gd := gw (tb3 (List.mem_of_getElem? (i := 159) rfl)) rfl
set_option maxRecDepth 10000 in
theorem w_702 : Cond.instanceMethod yX0_touches ∈ lw_gd := gw (tb3 (List.mem_of_getElem? (i := 160) rfl)) rfl
set_option maxRecDepth 10000 in
theorem w_703 : Cond.selects RX0 yX0_touches yX0_touches ∈ lw_gd := gw (tb3 (List.mem_of_getElem? (i := 161) rfl)) rfl
set_option maxRecDepth 10000 in
theorem w_704 : Cond.code yX0_touches cX0_touches (3 : Nat) (Option.some FieldType.boolean) ∈ lw_gd := gw (tb3 (List.mem_of_getElem? (i := 162) rfl)) rfl
set_option maxRecDepth 10000 in
theorem w_705 : Cond.methodLink RX7 (115 : Nat) yX7_gatherBlock ∈ lw_gd := gw (tb3 (List.mem_of_getElem? (i := 163) rfl)) rfl
set_option maxRecDepth 10000 in
theorem w_707 : Cond.instanceMethod yX7_gatherBlock ∈ lw_gd := gw (tb3 (List.mem_of_getElem? (i := 165) rfl)) rfl
set_option maxRecDepth 10000 in
theorem w_708 : Cond.code yX7_gatherBlock cX7_gatherBlock (10 : Nat) (Option.some FieldType.int) ∈ lw_gd := gw (tb3 (List.mem_of_getElem? (i := 166) rfl)) rfl
set_option maxRecDepth 10000 in
theorem w_709 : Cond.methodLink RX7 (129 : Nat) yX6_open ∈ lw_gd := gw (tb3 (List.mem_of_getElem? (i := 167) rfl)) rfl
set_option maxRecDepth 10000 in
theorem w_71 : Cond.initialized RX9 ∈ lw_gd := gw (tb1 (List.mem_of_getElem? (i := 9) rfl)) rfl
set_option maxRecDepth 10000 in
theorem w_710 : Cond.methodLink RX7 (134 : Nat) yX6_read ∈ lw_gd := gw (tb3 (List.mem_of_getElem? (i := 168) rfl)) rfl
set_option maxRecDepth 10000 in
theorem w_711 : Cond.methodLink RX7 (126 : Nat) yX5_push ∈ lw_gd := gw (tb3 (List.mem_of_getElem? (i := 169) rfl)) rfl
set_option maxRecDepth 10000 in
theorem w_712 : Cond.instanceMethod yX5_push ∈ lw_gd := gw (tb3 (List.mem_of_getElem? (i := 170) rfl)) rfl
set_option maxRecDepth 10000 in
theorem w_713 : Cond.selects RX5 yX5_push yX5_push ∈ lw_gd := gw (tb3 (List.mem_of_getElem? (i := 171) rfl)) rfl
set_option maxRecDepth 10000 in
theorem w_714 : Cond.code yX5_push cX5_push (4 : Nat) (Option.none : Option FieldType) ∈ lw_gd := gw (tb3 (List.mem_of_getElem? (i := 172) rfl)) rfl
set_option maxRecDepth 10000 in
theorem w_715 : Cond.methodLink RL (42 : Nat) yX8_block ∈ lw_gd := gw (tb3 (List.mem_of_getElem? (i := 173) rfl)) rfl
set_option maxRecDepth 10000 in
theorem w_716 : Cond.instanceMethod yX8_block ∈ lw_gd := gw (tb3 (List.mem_of_getElem? (i := 174) rfl)) rfl
set_option maxRecDepth 10000 in
theorem w_717 : Cond.selects RX8 yX8_block yX8_block ∈ lw_gd := gw (tb3 (List.mem_of_getElem? (i := 175) rfl)) rfl
set_option maxRecDepth 10000 in
theorem w_718 : Cond.code yX8_block cX8_block (5 : Nat) (Option.some FieldType.int) ∈ lw_gd := gw (tb3 (List.mem_of_getElem? (i := 176) rfl)) rfl
set_option maxRecDepth 10000 in
theorem w_719 : Cond.methodLink RL (47 : Nat) yX8_octet ∈ lw_gd := gw (tb3 (List.mem_of_getElem? (i := 177) rfl)) rfl
set_option maxRecDepth 10000 in
theorem w_72 : Cond.initialized RJ13 ∈ lw_gd := gw (tb1 (List.mem_of_getElem? (i := 10) rfl)) rfl
set_option maxRecDepth 10000 in
theorem w_720 : Cond.instanceMethod yX8_octet ∈ lw_gd := gw (tb3 (List.mem_of_getElem? (i := 178) rfl)) rfl
set_option maxRecDepth 10000 in
theorem w_721 : Cond.selects RX8 yX8_octet yX8_octet ∈ lw_gd := gw (tb3 (List.mem_of_getElem? (i := 179) rfl)) rfl
set_option maxRecDepth 10000 in
theorem w_722 : Cond.code yX8_octet cX8_octet (5 : Nat) (Option.some FieldType.int) ∈ lw_gd := gw (tb3 (List.mem_of_getElem? (i := 180) rfl)) rfl
set_option maxRecDepth 10000 in
theorem w_723 : Cond.methodLink RL (51 : Nat) yX8_fault ∈ lw_gd := gw (tb3 (List.mem_of_getElem? (i := 181) rfl)) rfl
set_option maxRecDepth 10000 in
theorem w_724 : Cond.instanceMethod yX8_fault ∈ lw_gd := gw (tb3 (List.mem_of_getElem? (i := 182) rfl)) rfl
set_option maxRecDepth 10000 in
theorem w_725 : Cond.selects RX8 yX8_fault yX8_fault ∈ lw_gd := gw (tb3 (List.mem_of_getElem? (i := 183) rfl)) rfl
set_option maxRecDepth 10000 in
theorem w_726 : Cond.code yX8_fault cX8_fault (5 : Nat) (Option.some FieldType.int) ∈ lw_gd := gw (tb3 (List.mem_of_getElem? (i := 184) rfl)) rfl
set_option maxRecDepth 10000 in
theorem w_727 : Cond.methodLink RL (55 : Nat) yX8_damage ∈ lw_gd := gw (tb3 (List.mem_of_getElem? (i := 185) rfl)) rfl
set_option maxRecDepth 10000 in
theorem w_728 : Cond.instanceMethod yX8_damage ∈ lw_gd := gw (tb3 (List.mem_of_getElem? (i := 186) rfl)) rfl
set_option maxRecDepth 10000 in
theorem w_729 : Cond.selects RX8 yX8_damage yX8_damage ∈ lw_gd := gw (tb3 (List.mem_of_getElem? (i := 187) rfl)) rfl
set_option maxRecDepth 10000 in
theorem w_73 : Cond.initialized RJ6 ∈ lw_gd := gw (tb1 (List.mem_of_getElem? (i := 11) rfl)) rfl
set_option maxRecDepth 10000 in
theorem w_730 : Cond.code yX8_damage cX8_damage (7 : Nat) (Option.some FieldType.int) ∈ lw_gd := gw (tb3 (List.mem_of_getElem? (i := 188) rfl)) rfl
set_option maxRecDepth 10000 in
theorem w_731 : Cond.methodLink RL (156 : Nat) yX8_mends ∈ lw_gd := gw (tb3 (List.mem_of_getElem? (i := 189) rfl)) rfl
set_option maxRecDepth 10000 in
theorem w_732 : Cond.instanceMethod yX8_mends ∈ lw_gd := gw (tb3 (List.mem_of_getElem? (i := 190) rfl)) rfl
set_option maxRecDepth 10000 in
theorem w_733 : Cond.selects RX8 yX8_mends yX8_mends ∈ lw_gd := gw (tb3 (List.mem_of_getElem? (i := 191) rfl)) rfl
set_option maxRecDepth 10000 in
theorem w_734 : Cond.code yX8_mends cX8_mends (4 : Nat) (Option.some FieldType.int) ∈ lw_gd := gw (tb3 (List.mem_of_getElem? (i := 192) rfl)) rfl
set_option maxRecDepth 10000 in
theorem w_735 : Cond.methodLink RX8 (195 : Nat) yX2_seek ∈ lw_gd := gw (tb3 (List.mem_of_getElem? (i := 193) rfl)) rfl
set_option maxRecDepth 10000 in
theorem w_736 : Cond.instanceMethod yX2_seek ∈ lw_gd := gw (tb3 (List.mem_of_getElem? (i := 194) rfl)) rfl
set_option maxRecDepth 10000 in
theorem w_737 : Cond.selects RX2 yX2_seek yX2_seek ∈ lw_gd := gw (tb3 (List.mem_of_getElem? (i := 195) rfl)) rfl
set_option maxRecDepth 10000 in
theorem w_738 : Cond.code yX2_seek cX2_seek (9 : Nat) (Option.some FieldType.int) ∈ lw_gd := gw (tb3 (List.mem_of_getElem? (i := 196) rfl)) rfl
set_option maxRecDepth 10000 in
theorem w_739 : Cond.methodLink RX2 (32 : Nat) yX0_checkOf ∈ lw_gd := gw (tb3 (List.mem_of_getElem? (i := 197) rfl)) rfl
set_option maxRecDepth 10000 in
theorem w_74 : Cond.initialized RJ9 ∈ lw_gd := gw (tb1 (List.mem_of_getElem? (i := 12) rfl)) rfl
set_option maxRecDepth 10000 in
theorem w_740 : Cond.methodLink RX2 (40 : Nat) yJ9_floorMod_7cf53 ∈ lw_gd := gw (tb3 (List.mem_of_getElem? (i := 198) rfl)) rfl
set_option maxRecDepth 10000 in
theorem w_741 : Cond.static yJ9_floorMod_7cf53 ∈ lw_gd := gw (tb3 (List.mem_of_getElem? (i := 199) rfl)) rfl
set_option maxRecDepth 10000 in
theorem w_742 : Cond.code yJ9_floorMod_7cf53 cJ9_floorMod_7cf53 (3 : Nat) (Option.some FieldType.int) ∈ lw_gd := gw (tb3 (List.mem_of_getElem? (i := 200) rfl)) rfl
set_option maxRecDepth 10000 in
theorem w_743 : Cond.methodLink RX2 (46 : Nat) yX2_tryChange ∈ lw_gd := gw (tb3 (List.mem_of_getElem? (i := 201) rfl)) rfl
set_option maxRecDepth 10000 in
theorem w_745 : Cond.instanceMethod yX2_tryChange ∈ lw_gd := gw (tb3 (List.mem_of_getElem? (i := 203) rfl)) rfl
set_option maxRecDepth 10000 in
theorem w_746 : Cond.code yX2_tryChange cX2_tryChange (5 : Nat) (Option.none : Option FieldType) ∈ lw_gd := gw (tb3 (List.mem_of_getElem? (i := 204) rfl)) rfl
set_option maxRecDepth 10000 in
theorem w_747 : Cond.methodLink RX2 (50 : Nat) yX6_examine ∈ lw_gd := gw (tb3 (List.mem_of_getElem? (i := 205) rfl)) rfl
set_option maxRecDepth 10000 in
theorem w_748 : Cond.methodLink RL (160 : Nat) yX8_mend ∈ lw_gd := gw (tb3 (List.mem_of_getElem? (i := 206) rfl)) rfl
set_option maxRecDepth 10000 in
theorem w_749 : Cond.instanceMethod yX8_mend ∈ lw_gd := gw (tb3 (List.mem_of_getElem? (i := 207) rfl)) rfl
set_option maxRecDepth 10000 in
theorem w_75 : Cond.initialized RX3 ∈ lw_gd := gw (tb1 (List.mem_of_getElem? (i := 13) rfl)) rfl
set_option maxRecDepth 10000 in
theorem w_750 : Cond.selects RX8 yX8_mend yX8_mend ∈ lw_gd := gw (tb3 (List.mem_of_getElem? (i := 208) rfl)) rfl
set_option maxRecDepth 10000 in
theorem w_751 : Cond.code yX8_mend cX8_mend (6 : Nat) (Option.some FieldType.int) ∈ lw_gd := gw (tb3 (List.mem_of_getElem? (i := 209) rfl)) rfl
set_option maxRecDepth 10000 in
theorem w_752 : Cond.methodLink RL (92 : Nat) yX8_ways ∈ lw_gd := gw (tb3 (List.mem_of_getElem? (i := 210) rfl)) rfl
set_option maxRecDepth 10000 in
theorem w_753 : Cond.instanceMethod yX8_ways ∈ lw_gd := gw (tb3 (List.mem_of_getElem? (i := 211) rfl)) rfl
set_option maxRecDepth 10000 in
theorem w_754 : Cond.selects RX8 yX8_ways yX8_ways ∈ lw_gd := gw (tb3 (List.mem_of_getElem? (i := 212) rfl)) rfl
set_option maxRecDepth 10000 in
theorem w_755 : Cond.code yX8_ways cX8_ways (7 : Nat) (Option.some FieldType.int) ∈ lw_gd := gw (tb3 (List.mem_of_getElem? (i := 213) rfl)) rfl
set_option maxRecDepth 10000 in
theorem w_756 : Cond.methodLink RX8 (209 : Nat) yX6_countWay ∈ lw_gd := gw (tb3 (List.mem_of_getElem? (i := 214) rfl)) rfl
set_option maxRecDepth 10000 in
theorem w_757 : Cond.instanceMethod yX6_countWay ∈ lw_gd := gw (tb3 (List.mem_of_getElem? (i := 215) rfl)) rfl
set_option maxRecDepth 10000 in
theorem w_758 : Cond.selects RX6 yX6_countWay yX6_countWay ∈ lw_gd := gw (tb3 (List.mem_of_getElem? (i := 216) rfl)) rfl
set_option maxRecDepth 10000 in
theorem w_759 : Cond.code yX6_countWay cX6_countWay (5 : Nat) (Option.some FieldType.int) ∈ lw_gd := gw (tb3 (List.mem_of_getElem? (i := 217) rfl)) rfl
set_option maxRecDepth 10000 in
theorem w_76 : Cond.initialized RJxe99ae ∈ lw_gd := gw (tb1 (List.mem_of_getElem? (i := 14) rfl)) rfl
set_option maxRecDepth 10000 in
theorem w_760 : Cond.methodLink RL (96 : Nat) yX8_window ∈ lw_gd := gw (tb3 (List.mem_of_getElem? (i := 218) rfl)) rfl
set_option maxRecDepth 10000 in
theorem w_761 : Cond.instanceMethod yX8_window ∈ lw_gd := gw (tb3 (List.mem_of_getElem? (i := 219) rfl)) rfl
set_option maxRecDepth 10000 in
theorem w_762 : Cond.selects RX8 yX8_window yX8_window ∈ lw_gd := gw (tb3 (List.mem_of_getElem? (i := 220) rfl)) rfl
set_option maxRecDepth 10000 in
theorem w_763 : Cond.code yX8_window cX8_window (4 : Nat) (Option.some FieldType.int) ∈ lw_gd := gw (tb3 (List.mem_of_getElem? (i := 221) rfl)) rfl
set_option maxRecDepth 10000 in
theorem w_764 : Cond.methodLink RL (144 : Nat) yX8_dearest ∈ lw_gd := gw (tb3 (List.mem_of_getElem? (i := 222) rfl)) rfl
set_option maxRecDepth 10000 in
theorem w_765 : Cond.instanceMethod yX8_dearest ∈ lw_gd := gw (tb3 (List.mem_of_getElem? (i := 223) rfl)) rfl
set_option maxRecDepth 10000 in
theorem w_766 : Cond.selects RX8 yX8_dearest yX8_dearest ∈ lw_gd := gw (tb3 (List.mem_of_getElem? (i := 224) rfl)) rfl
set_option maxRecDepth 10000 in
theorem w_767 : Cond.code yX8_dearest cX8_dearest (8 : Nat) (Option.some FieldType.int) ∈ lw_gd := gw (tb3 (List.mem_of_getElem? (i := 225) rfl)) rfl
set_option maxRecDepth 10000 in
theorem w_768 : Cond.methodLink RX8 (218 : Nat) yX6_findDearest ∈ lw_gd := gw (tb3 (List.mem_of_getElem? (i := 226) rfl)) rfl
set_option maxRecDepth 10000 in
theorem w_769 : Cond.instanceMethod yX6_findDearest ∈ lw_gd := gw (tb3 (List.mem_of_getElem? (i := 227) rfl)) rfl
set_option maxRecDepth 10000 in
theorem w_77 : Cond.initialized RJ10 ∈ lw_gd := gw (tb1 (List.mem_of_getElem? (i := 15) rfl)) rfl
set_option maxRecDepth 10000 in
theorem w_770 : Cond.selects RX6 yX6_findDearest yX6_findDearest ∈ lw_gd := gw (tb3 (List.mem_of_getElem? (i := 228) rfl)) rfl
set_option maxRecDepth 10000 in
theorem w_771 : Cond.code yX6_findDearest cX6_findDearest (4 : Nat) (Option.some FieldType.boolean) ∈ lw_gd := gw (tb3 (List.mem_of_getElem? (i := 229) rfl)) rfl
set_option maxRecDepth 10000 in
theorem w_772 : Cond.methodLink RL (60 : Nat) yX8_has ∈ lw_gd := gw (tb3 (List.mem_of_getElem? (i := 230) rfl)) rfl
set_option maxRecDepth 10000 in
theorem w_773 : Cond.instanceMethod yX8_has ∈ lw_gd := gw (tb3 (List.mem_of_getElem? (i := 231) rfl)) rfl
set_option maxRecDepth 10000 in
theorem w_774 : Cond.selects RX8 yX8_has yX8_has ∈ lw_gd := gw (tb3 (List.mem_of_getElem? (i := 232) rfl)) rfl
set_option maxRecDepth 10000 in
theorem w_775 : Cond.code yX8_has cX8_has (3 : Nat) (Option.some FieldType.int) ∈ lw_gd := gw (tb3 (List.mem_of_getElem? (i := 233) rfl)) rfl
set_option maxRecDepth 10000 in
theorem w_776 : Cond.methodLink RL (64 : Nat) yX8_at ∈ lw_gd := gw (tb3 (List.mem_of_getElem? (i := 234) rfl)) rfl
set_option maxRecDepth 10000 in
theorem w_777 : Cond.instanceMethod yX8_at ∈ lw_gd := gw (tb3 (List.mem_of_getElem? (i := 235) rfl)) rfl
set_option maxRecDepth 10000 in
theorem w_778 : Cond.selects RX8 yX8_at yX8_at ∈ lw_gd := gw (tb3 (List.mem_of_getElem? (i := 236) rfl)) rfl
set_option maxRecDepth 10000 in
theorem w_779 : Cond.code yX8_at cX8_at (3 : Nat) (Option.some FieldType.long) ∈ lw_gd := gw (tb3 (List.mem_of_getElem? (i := 237) rfl)) rfl
set_option maxRecDepth 10000 in
theorem w_78 : Cond.classLink RL (7 : Nat) "SeriesPress" ∈ lw_gd := gw (tb1 (List.mem_of_getElem? (i := 16) rfl)) rfl
set_option maxRecDepth 10000 in
theorem w_780 : Cond.methodLink RL (69 : Nat) yX8_nearest ∈ lw_gd := gw (tb3 (List.mem_of_getElem? (i := 238) rfl)) rfl
set_option maxRecDepth 10000 in
theorem w_781 : Cond.instanceMethod yX8_nearest ∈ lw_gd := gw (tb3 (List.mem_of_getElem? (i := 239) rfl)) rfl
set_option maxRecDepth 10000 in
theorem w_782 : Cond.selects RX8 yX8_nearest yX8_nearest ∈ lw_gd := gw (tb4 (List.mem_of_getElem? (i := 0) rfl)) rfl
set_option maxRecDepth 10000 in
theorem w_783 : Cond.code yX8_nearest cX8_nearest (3 : Nat) (Option.some FieldType.int) ∈ lw_gd := gw (tb4 (List.mem_of_getElem? (i := 1) rfl)) rfl
set_option maxRecDepth 10000 in
theorem w_784 : Cond.methodLink RX8 (235 : Nat) yX5_closest ∈ lw_gd := gw (tb4 (List.mem_of_getElem? (i := 2) rfl)) rfl
set_option maxRecDepth 10000 in
theorem w_785 : Cond.instanceMethod yX5_closest ∈ lw_gd := gw (tb4 (List.mem_of_getElem? (i := 3) rfl)) rfl
set_option maxRecDepth 10000 in
theorem w_786 : Cond.selects RX5 yX5_closest yX5_closest ∈ lw_gd := gw (tb4 (List.mem_of_getElem? (i := 4) rfl)) rfl
set_option maxRecDepth 10000 in
theorem w_787 : Cond.code yX5_closest cX5_closest (3 : Nat) (Option.some FieldType.int) ∈ lw_gd := gw (tb4 (List.mem_of_getElem? (i := 5) rfl)) rfl
set_option maxRecDepth 10000 in
theorem w_788 : Cond.methodLink RL (73 : Nat) yX8_point ∈ lw_gd := gw (tb4 (List.mem_of_getElem? (i := 6) rfl)) rfl
set_option maxRecDepth 10000 in
theorem w_789 : Cond.instanceMethod yX8_point ∈ lw_gd := gw (tb4 (List.mem_of_getElem? (i := 7) rfl)) rfl
set_option maxRecDepth 10000 in
theorem w_79 : Cond.instantiable RX8 (9 : Nat) ∈ lw_gd := gw (tb1 (List.mem_of_getElem? (i := 17) rfl)) rfl
set_option maxRecDepth 10000 in
theorem w_790 : Cond.selects RX8 yX8_point yX8_point ∈ lw_gd := gw (tb4 (List.mem_of_getElem? (i := 8) rfl)) rfl
set_option maxRecDepth 10000 in
theorem w_791 : Cond.code yX8_point cX8_point (5 : Nat) (Option.some FieldType.long) ∈ lw_gd := gw (tb4 (List.mem_of_getElem? (i := 9) rfl)) rfl
set_option maxRecDepth 10000 in
theorem w_792 : Cond.constantLong RX8 (238 : Nat) (-1 : Int64) ∈ lw_gd := gw (tb4 (List.mem_of_getElem? (i := 10) rfl)) rfl
set_option maxRecDepth 10000 in
theorem w_793 : Cond.methodLink RL (148 : Nat) yX8_where ∈ lw_gd := gw (tb4 (List.mem_of_getElem? (i := 11) rfl)) rfl
set_option maxRecDepth 10000 in
theorem w_794 : Cond.instanceMethod yX8_where ∈ lw_gd := gw (tb4 (List.mem_of_getElem? (i := 12) rfl)) rfl
set_option maxRecDepth 10000 in
theorem w_795 : Cond.selects RX8 yX8_where yX8_where ∈ lw_gd := gw (tb4 (List.mem_of_getElem? (i := 13) rfl)) rfl
set_option maxRecDepth 10000 in
theorem w_796 : Cond.code yX8_where cX8_where (5 : Nat) (Option.some FieldType.int) ∈ lw_gd := gw (tb4 (List.mem_of_getElem? (i := 14) rfl)) rfl
set_option maxRecDepth 10000 in
theorem w_797 : Cond.methodLink RX8 (243 : Nat) yX5_holds ∈ lw_gd := gw (tb4 (List.mem_of_getElem? (i := 15) rfl)) rfl
set_option maxRecDepth 10000 in
theorem w_798 : Cond.instanceMethod yX5_holds ∈ lw_gd := gw (tb4 (List.mem_of_getElem? (i := 16) rfl)) rfl
set_option maxRecDepth 10000 in
theorem w_799 : Cond.selects RX5 yX5_holds yX5_holds ∈ lw_gd := gw (tb4 (List.mem_of_getElem? (i := 17) rfl)) rfl
set_option maxRecDepth 10000 in
theorem w_8 : Cond.selects RX6 yX6_takeSecond yX6_takeSecond ∈ lw_gd := gw (List.mem_append_left _ (List.mem_of_getElem? (i := 8) rfl)) rfl
set_option maxRecDepth 10000 in
theorem w_80 : Cond.methodLink RL (9 : Nat) yX8_init ∈ lw_gd := gw (tb1 (List.mem_of_getElem? (i := 18) rfl)) rfl
set_option maxRecDepth 10000 in
theorem w_800 : Cond.code yX5_holds cX5_holds (3 : Nat) (Option.some FieldType.boolean) ∈ lw_gd := gw (tb4 (List.mem_of_getElem? (i := 18) rfl)) rfl
set_option maxRecDepth 10000 in
theorem w_801 : Cond.methodLink RX8 (246 : Nat) yX0_touches ∈ lw_gd := gw (tb4 (List.mem_of_getElem? (i := 19) rfl)) rfl
set_option maxRecDepth 10000 in
theorem w_802 : Cond.methodLink RL (181 : Nat) yX8_since ∈ lw_gd := gw (tb4 (List.mem_of_getElem? (i := 20) rfl)) rfl
set_option maxRecDepth 10000 in
theorem w_803 : Cond.instanceMethod yX8_since ∈ lw_gd := gw (tb4 (List.mem_of_getElem? (i := 21) rfl)) rfl
set_option maxRecDepth 10000 in
theorem w_804 : Cond.selects RX8 yX8_since yX8_since ∈ lw_gd := gw (tb4 (List.mem_of_getElem? (i := 22) rfl)) rfl
set_option maxRecDepth 10000 in
theorem w_805 : Cond.code yX8_since cX8_since (3 : Nat) (Option.some FieldType.int) ∈ lw_gd := gw (tb4 (List.mem_of_getElem? (i := 23) rfl)) rfl
set_option maxRecDepth 10000 in
theorem w_806 : Cond.methodLink RX8 (250 : Nat) yX5_lastStamp ∈ lw_gd := gw (tb4 (List.mem_of_getElem? (i := 24) rfl)) rfl
set_option maxRecDepth 10000 in
theorem w_807 : Cond.instanceMethod yX5_lastStamp ∈ lw_gd := gw (tb4 (List.mem_of_getElem? (i := 25) rfl)) rfl
set_option maxRecDepth 10000 in
theorem w_808 : Cond.selects RX5 yX5_lastStamp yX5_lastStamp ∈ lw_gd := gw (tb4 (List.mem_of_getElem? (i := 26) rfl)) rfl
set_option maxRecDepth 10000 in
theorem w_809 : Cond.code yX5_lastStamp cX5_lastStamp (1 : Nat) (Option.some FieldType.int) ∈ lw_gd := gw (tb4 (List.mem_of_getElem? (i := 27) rfl)) rfl
set_option maxRecDepth 10000 in
theorem w_81 : Cond.instanceMethod yX8_init ∈ lw_gd := gw (tb1 (List.mem_of_getElem? (i := 19) rfl)) rfl
set_option maxRecDepth 10000 in
theorem w_810 : Cond.methodLink RL (100 : Nat) yX8_gap ∈ lw_gd := gw (tb4 (List.mem_of_getElem? (i := 28) rfl)) rfl
set_option maxRecDepth 10000 in
theorem w_811 : Cond.instanceMethod yX8_gap ∈ lw_gd := gw (tb4 (List.mem_of_getElem? (i := 29) rfl)) rfl
set_option maxRecDepth 10000 in
theorem w_812 : Cond.selects RX8 yX8_gap yX8_gap ∈ lw_gd := gw (tb4 (List.mem_of_getElem? (i := 30) rfl)) rfl
set_option maxRecDepth 10000 in
theorem w_813 : Cond.code yX8_gap cX8_gap (3 : Nat) (Option.some FieldType.int) ∈ lw_gd := gw (tb4 (List.mem_of_getElem? (i := 31) rfl)) rfl
set_option maxRecDepth 10000 in
theorem w_814 : Cond.methodLink RX8 (253 : Nat) yX5_longestGap ∈ lw_gd := gw (tb4 (List.mem_of_getElem? (i := 32) rfl)) rfl
set_option maxRecDepth 10000 in
theorem w_815 : Cond.instanceMethod yX5_longestGap ∈ lw_gd := gw (tb4 (List.mem_of_getElem? (i := 33) rfl)) rfl
set_option maxRecDepth 10000 in
theorem w_816 : Cond.selects RX5 yX5_longestGap yX5_longestGap ∈ lw_gd := gw (tb4 (List.mem_of_getElem? (i := 34) rfl)) rfl
set_option maxRecDepth 10000 in
theorem w_817 : Cond.code yX5_longestGap cX5_longestGap (6 : Nat) (Option.some FieldType.int) ∈ lw_gd := gw (tb4 (List.mem_of_getElem? (i := 35) rfl)) rfl
set_option maxRecDepth 10000 in
theorem w_818 : Cond.methodLink RL (104 : Nat) yX8_row ∈ lw_gd := gw (tb4 (List.mem_of_getElem? (i := 36) rfl)) rfl
set_option maxRecDepth 10000 in
theorem w_819 : Cond.instanceMethod yX8_row ∈ lw_gd := gw (tb4 (List.mem_of_getElem? (i := 37) rfl)) rfl
set_option maxRecDepth 10000 in
theorem w_82 : Cond.code yX8_init cX8_init (2 : Nat) (Option.none : Option FieldType) ∈ lw_gd := gw (tb1 (List.mem_of_getElem? (i := 20) rfl)) rfl
set_option maxRecDepth 10000 in
theorem w_820 : Cond.selects RX8 yX8_row yX8_row ∈ lw_gd := gw (tb4 (List.mem_of_getElem? (i := 38) rfl)) rfl
set_option maxRecDepth 10000 in
theorem w_821 : Cond.code yX8_row cX8_row (4 : Nat) (Option.some FieldType.int) ∈ lw_gd := gw (tb4 (List.mem_of_getElem? (i := 39) rfl)) rfl
set_option maxRecDepth 10000 in
theorem w_822 : Cond.methodLink RX8 (257 : Nat) yX5_longestSame ∈ lw_gd := gw (tb4 (List.mem_of_getElem? (i := 40) rfl)) rfl
set_option maxRecDepth 10000 in
theorem w_823 : Cond.instanceMethod yX5_longestSame ∈ lw_gd := gw (tb4 (List.mem_of_getElem? (i := 41) rfl)) rfl
set_option maxRecDepth 10000 in
theorem w_824 : Cond.selects RX5 yX5_longestSame yX5_longestSame ∈ lw_gd := gw (tb4 (List.mem_of_getElem? (i := 42) rfl)) rfl
set_option maxRecDepth 10000 in
theorem w_825 : Cond.code yX5_longestSame cX5_longestSame (4 : Nat) (Option.some FieldType.int) ∈ lw_gd := gw (tb4 (List.mem_of_getElem? (i := 43) rfl)) rfl
set_option maxRecDepth 10000 in
theorem w_826 : Cond.methodLink RX5 (31 : Nat) yJ9_max_7cf53 ∈ lw_gd := gw (tb4 (List.mem_of_getElem? (i := 44) rfl)) rfl
set_option maxRecDepth 10000 in
theorem w_827 : Cond.static yJ9_max_7cf53 ∈ lw_gd := gw (tb4 (List.mem_of_getElem? (i := 45) rfl)) rfl
set_option maxRecDepth 10000 in
theorem w_828 : Cond.code yJ9_max_7cf53 cJ9_max_7cf53 (2 : Nat) (Option.some FieldType.int) ∈ lw_gd := gw (tb4 (List.mem_of_getElem? (i := 46) rfl)) rfl
set_option maxRecDepth 10000 in
theorem w_829 : Cond.methodLink RX8 (260 : Nat) yX5_longestRise ∈ lw_gd := gw (tb4 (List.mem_of_getElem? (i := 47) rfl)) rfl
set_option maxRecDepth 10000 in
theorem w_83 : Cond.methodLink RX8 (3 : Nat) Lib.objectInit ∈ lw_gd := gw (tb1 (List.mem_of_getElem? (i := 21) rfl)) rfl
set_option maxRecDepth 10000 in
theorem w_830 : Cond.instanceMethod yX5_longestRise ∈ lw_gd := gw (tb4 (List.mem_of_getElem? (i := 48) rfl)) rfl
set_option maxRecDepth 10000 in
theorem w_831 : Cond.selects RX5 yX5_longestRise yX5_longestRise ∈ lw_gd := gw (tb4 (List.mem_of_getElem? (i := 49) rfl)) rfl
set_option maxRecDepth 10000 in
theorem w_832 : Cond.code yX5_longestRise cX5_longestRise (4 : Nat) (Option.some FieldType.int) ∈ lw_gd := gw (tb4 (List.mem_of_getElem? (i := 50) rfl)) rfl
set_option maxRecDepth 10000 in
theorem w_833 : Cond.methodLink RX5 (37 : Nat) yX3_isNumber ∈ lw_gd := gw (tb4 (List.mem_of_getElem? (i := 51) rfl)) rfl
set_option maxRecDepth 10000 in
theorem w_834 : Cond.static yX3_isNumber ∈ lw_gd := gw (tb4 (List.mem_of_getElem? (i := 52) rfl)) rfl
set_option maxRecDepth 10000 in
theorem w_835 : Cond.code yX3_isNumber cX3_isNumber (2 : Nat) (Option.some FieldType.boolean) ∈ lw_gd := gw (tb4 (List.mem_of_getElem? (i := 53) rfl)) rfl
set_option maxRecDepth 10000 in
theorem w_836 : Cond.constantLong RX3 (11 : Nat) (9223372036854775807 : Int64) ∈ lw_gd := gw (tb4 (List.mem_of_getElem? (i := 54) rfl)) rfl
set_option maxRecDepth 10000 in
theorem w_837 : Cond.constantLong RX3 (13 : Nat) (9218868437227405312 : Int64) ∈ lw_gd := gw (tb4 (List.mem_of_getElem? (i := 55) rfl)) rfl
set_option maxRecDepth 10000 in
theorem w_838 : Cond.methodLink RX5 (43 : Nat) yX3_order ∈ lw_gd := gw (tb4 (List.mem_of_getElem? (i := 56) rfl)) rfl
set_option maxRecDepth 10000 in
theorem w_839 : Cond.static yX3_order ∈ lw_gd := gw (tb4 (List.mem_of_getElem? (i := 57) rfl)) rfl
set_option maxRecDepth 10000 in
theorem w_84 : Cond.instanceMethod Lib.objectInit ∈ lw_gd := gw (tb1 (List.mem_of_getElem? (i := 22) rfl)) rfl
set_option maxRecDepth 10000 in
theorem w_840 : Cond.code yX3_order cX3_order (2 : Nat) (Option.some FieldType.long) ∈ lw_gd := gw (tb4 (List.mem_of_getElem? (i := 58) rfl)) rfl
set_option maxRecDepth 10000 in
theorem w_841 : Cond.methodLink RL (176 : Nat) yX8_passes ∈ lw_gd := gw (tb4 (List.mem_of_getElem? (i := 59) rfl)) rfl
set_option maxRecDepth 10000 in
theorem w_842 : Cond.instanceMethod yX8_passes ∈ lw_gd := gw (tb4 (List.mem_of_getElem? (i := 60) rfl)) rfl
set_option maxRecDepth 10000 in
theorem w_843 : Cond.selects RX8 yX8_passes yX8_passes ∈ lw_gd := gw (tb4 (List.mem_of_getElem? (i := 61) rfl)) rfl
set_option maxRecDepth 10000 in
theorem w_844 : Cond.code yX8_passes cX8_passes (4 : Nat) (Option.some FieldType.int) ∈ lw_gd := gw (tb4 (List.mem_of_getElem? (i := 62) rfl)) rfl
set_option maxRecDepth 10000 in
theorem w_845 : Cond.methodLink RX8 (263 : Nat) yX3_isNumber ∈ lw_gd := gw (tb4 (List.mem_of_getElem? (i := 63) rfl)) rfl
set_option maxRecDepth 10000 in
theorem w_846 : Cond.methodLink RX8 (269 : Nat) yX5_passings ∈ lw_gd := gw (tb4 (List.mem_of_getElem? (i := 64) rfl)) rfl
set_option maxRecDepth 10000 in
theorem w_847 : Cond.instanceMethod yX5_passings ∈ lw_gd := gw (tb4 (List.mem_of_getElem? (i := 65) rfl)) rfl
set_option maxRecDepth 10000 in
theorem w_848 : Cond.selects RX5 yX5_passings yX5_passings ∈ lw_gd := gw (tb4 (List.mem_of_getElem? (i := 66) rfl)) rfl
set_option maxRecDepth 10000 in
theorem w_849 : Cond.code yX5_passings cX5_passings (7 : Nat) (Option.some FieldType.int) ∈ lw_gd := gw (tb4 (List.mem_of_getElem? (i := 67) rfl)) rfl
set_option maxRecDepth 10000 in
theorem w_850 : Cond.methodLink RL (78 : Nat) yX8_span ∈ lw_gd := gw (tb4 (List.mem_of_getElem? (i := 68) rfl)) rfl
set_option maxRecDepth 10000 in
theorem w_851 : Cond.instanceMethod yX8_span ∈ lw_gd := gw (tb4 (List.mem_of_getElem? (i := 69) rfl)) rfl
set_option maxRecDepth 10000 in
theorem w_852 : Cond.selects RX8 yX8_span yX8_span ∈ lw_gd := gw (tb4 (List.mem_of_getElem? (i := 70) rfl)) rfl
set_option maxRecDepth 10000 in
theorem w_853 : Cond.code yX8_span cX8_span (5 : Nat) (Option.some FieldType.int) ∈ lw_gd := gw (tb4 (List.mem_of_getElem? (i := 71) rfl)) rfl
set_option maxRecDepth 10000 in
theorem w_854 : Cond.methodLink RX8 (273 : Nat) yX7_opened ∈ lw_gd := gw (tb4 (List.mem_of_getElem? (i := 72) rfl)) rfl
set_option maxRecDepth 10000 in
theorem w_855 : Cond.instanceMethod yX7_opened ∈ lw_gd := gw (tb4 (List.mem_of_getElem? (i := 73) rfl)) rfl
set_option maxRecDepth 10000 in
theorem w_856 : Cond.selects RX7 yX7_opened yX7_opened ∈ lw_gd := gw (tb4 (List.mem_of_getElem? (i := 74) rfl)) rfl
set_option maxRecDepth 10000 in
theorem w_857 : Cond.code yX7_opened cX7_opened (5 : Nat) (Option.some FieldType.int) ∈ lw_gd := gw (tb4 (List.mem_of_getElem? (i := 75) rfl)) rfl
set_option maxRecDepth 10000 in
theorem w_858 : Cond.methodLink RX8 (277 : Nat) yX5_countKind ∈ lw_gd := gw (tb4 (List.mem_of_getElem? (i := 76) rfl)) rfl
set_option maxRecDepth 10000 in
theorem w_859 : Cond.instanceMethod yX5_countKind ∈ lw_gd := gw (tb4 (List.mem_of_getElem? (i := 77) rfl)) rfl
set_option maxRecDepth 10000 in
theorem w_86 : Cond.classLink RX8 (9 : Nat) "SeriesPress$Series" ∈ lw_gd := gw (tb1 (List.mem_of_getElem? (i := 24) rfl)) rfl
set_option maxRecDepth 10000 in
theorem w_860 : Cond.selects RX5 yX5_countKind yX5_countKind ∈ lw_gd := gw (tb4 (List.mem_of_getElem? (i := 78) rfl)) rfl
set_option maxRecDepth 10000 in
theorem w_861 : Cond.code yX5_countKind cX5_countKind (5 : Nat) (Option.some FieldType.int) ∈ lw_gd := gw (tb4 (List.mem_of_getElem? (i := 79) rfl)) rfl
set_option maxRecDepth 10000 in
theorem w_862 : Cond.constantLong RX5 (47 : Nat) (-9223372036854775808 : Int64) ∈ lw_gd := gw (tb4 (List.mem_of_getElem? (i := 80) rfl)) rfl
set_option maxRecDepth 10000 in
theorem w_863 : Cond.methodLink RX5 (49 : Nat) yX3_isInfinite ∈ lw_gd := gw (tb4 (List.mem_of_getElem? (i := 81) rfl)) rfl
set_option maxRecDepth 10000 in
theorem w_864 : Cond.static yX3_isInfinite ∈ lw_gd := gw (tb4 (List.mem_of_getElem? (i := 82) rfl)) rfl
set_option maxRecDepth 10000 in
theorem w_865 : Cond.code yX3_isInfinite cX3_isInfinite (2 : Nat) (Option.some FieldType.boolean) ∈ lw_gd := gw (tb4 (List.mem_of_getElem? (i := 83) rfl)) rfl
set_option maxRecDepth 10000 in
theorem w_866 : Cond.methodLink RL (82 : Nat) yX8_value ∈ lw_gd := gw (tb4 (List.mem_of_getElem? (i := 84) rfl)) rfl
set_option maxRecDepth 10000 in
theorem w_867 : Cond.instanceMethod yX8_value ∈ lw_gd := gw (tb4 (List.mem_of_getElem? (i := 85) rfl)) rfl
set_option maxRecDepth 10000 in
theorem w_868 : Cond.selects RX8 yX8_value yX8_value ∈ lw_gd := gw (tb4 (List.mem_of_getElem? (i := 86) rfl)) rfl
set_option maxRecDepth 10000 in
theorem w_869 : Cond.code yX8_value cX8_value (5 : Nat) (Option.some FieldType.long) ∈ lw_gd := gw (tb4 (List.mem_of_getElem? (i := 87) rfl)) rfl
set_option maxRecDepth 10000 in
theorem w_870 : Cond.constantLong RX8 (280 : Nat) (9221120237041090560 : Int64) ∈ lw_gd := gw (tb4 (List.mem_of_getElem? (i := 88) rfl)) rfl
set_option maxRecDepth 10000 in
theorem w_871 : Cond.methodLink RX8 (282 : Nat) yX5_keepNumbers ∈ lw_gd := gw (tb4 (List.mem_of_getElem? (i := 89) rfl)) rfl
set_option maxRecDepth 10000 in
theorem w_872 : Cond.instanceMethod yX5_keepNumbers ∈ lw_gd := gw (tb4 (List.mem_of_getElem? (i := 90) rfl)) rfl
set_option maxRecDepth 10000 in
theorem w_873 : Cond.selects RX5 yX5_keepNumbers yX5_keepNumbers ∈ lw_gd := gw (tb4 (List.mem_of_getElem? (i := 91) rfl)) rfl
set_option maxRecDepth 10000 in
theorem w_874 : Cond.code yX5_keepNumbers cX5_keepNumbers (3 : Nat) (Option.none : Option FieldType) ∈ lw_gd := gw (tb4 (List.mem_of_getElem? (i := 92) rfl)) rfl
set_option maxRecDepth 10000 in
theorem w_875 : Cond.methodLink RX5 (52 : Nat) yX5_keep ∈ lw_gd := gw (tb4 (List.mem_of_getElem? (i := 93) rfl)) rfl
set_option maxRecDepth 10000 in
theorem w_877 : Cond.instanceMethod yX5_keep ∈ lw_gd := gw (tb4 (List.mem_of_getElem? (i := 95) rfl)) rfl
set_option maxRecDepth 10000 in
theorem w_878 : Cond.code yX5_keep cX5_keep (3 : Nat) (Option.none : Option FieldType) ∈ lw_gd := gw (tb4 (List.mem_of_getElem? (i := 96) rfl)) rfl
set_option maxRecDepth 10000 in
theorem w_879 : Cond.methodLink RX8 (285 : Nat) yX5_leastOf ∈ lw_gd := gw (tb4 (List.mem_of_getElem? (i := 97) rfl)) rfl
set_option maxRecDepth 10000 in
theorem w_88 : Cond.instantiable RX7 (7 : Nat) ∈ lw_gd := gw (tb1 (List.mem_of_getElem? (i := 26) rfl)) rfl
set_option maxRecDepth 10000 in
theorem w_880 : Cond.instanceMethod yX5_leastOf ∈ lw_gd := gw (tb4 (List.mem_of_getElem? (i := 98) rfl)) rfl
set_option maxRecDepth 10000 in
theorem w_881 : Cond.selects RX5 yX5_leastOf yX5_leastOf ∈ lw_gd := gw (tb4 (List.mem_of_getElem? (i := 99) rfl)) rfl
set_option maxRecDepth 10000 in
theorem w_882 : Cond.code yX5_leastOf cX5_leastOf (4 : Nat) (Option.some FieldType.long) ∈ lw_gd := gw (tb4 (List.mem_of_getElem? (i := 100) rfl)) rfl
set_option maxRecDepth 10000 in
theorem w_883 : Cond.methodLink RX8 (289 : Nat) yX5_greatestOf ∈ lw_gd := gw (tb4 (List.mem_of_getElem? (i := 101) rfl)) rfl
set_option maxRecDepth 10000 in
theorem w_884 : Cond.instanceMethod yX5_greatestOf ∈ lw_gd := gw (tb4 (List.mem_of_getElem? (i := 102) rfl)) rfl
set_option maxRecDepth 10000 in
theorem w_885 : Cond.selects RX5 yX5_greatestOf yX5_greatestOf ∈ lw_gd := gw (tb4 (List.mem_of_getElem? (i := 103) rfl)) rfl
set_option maxRecDepth 10000 in
theorem w_886 : Cond.code yX5_greatestOf cX5_greatestOf (4 : Nat) (Option.some FieldType.long) ∈ lw_gd := gw (tb4 (List.mem_of_getElem? (i := 104) rfl)) rfl
set_option maxRecDepth 10000 in
theorem w_887 : Cond.methodLink RX8 (292 : Nat) yX5_total ∈ lw_gd := gw (tb4 (List.mem_of_getElem? (i := 105) rfl)) rfl
set_option maxRecDepth 10000 in
theorem w_888 : Cond.instanceMethod yX5_total ∈ lw_gd := gw (tb4 (List.mem_of_getElem? (i := 106) rfl)) rfl
set_option maxRecDepth 10000 in
theorem w_889 : Cond.selects RX5 yX5_total yX5_total ∈ lw_gd := gw (tb4 (List.mem_of_getElem? (i := 107) rfl)) rfl
set_option maxRecDepth 10000 in
theorem w_89 : Cond.methodLink RX8 (15 : Nat) yX7_init ∈ lw_gd := gw (tb1 (List.mem_of_getElem? (i := 27) rfl)) rfl
set_option maxRecDepth 10000 in
theorem w_890 : Cond.code yX5_total cX5_total (4 : Nat) (Option.some FieldType.long) ∈ lw_gd := gw (tb4 (List.mem_of_getElem? (i := 108) rfl)) rfl
set_option maxRecDepth 10000 in
theorem w_891 : Cond.constantLong RX5 (72 : Nat) (9221120237041090560 : Int64) ∈ lw_gd := gw (tb4 (List.mem_of_getElem? (i := 109) rfl)) rfl
set_option maxRecDepth 10000 in
theorem w_892 : Cond.methodLink RX5 (74 : Nat) yX3_plus ∈ lw_gd := gw (tb4 (List.mem_of_getElem? (i := 110) rfl)) rfl
set_option maxRecDepth 10000 in
theorem w_893 : Cond.static yX3_plus ∈ lw_gd := gw (tb4 (List.mem_of_getElem? (i := 111) rfl)) rfl
set_option maxRecDepth 10000 in
theorem w_894 : Cond.code yX3_plus cX3_plus (14 : Nat) (Option.some FieldType.long) ∈ lw_gd := gw (tb4 (List.mem_of_getElem? (i := 112) rfl)) rfl
set_option maxRecDepth 10000 in
theorem w_895 : Cond.methodLink RX3 (25 : Nat) yX3_isInfinite ∈ lw_gd := gw (tb4 (List.mem_of_getElem? (i := 113) rfl)) rfl
set_option maxRecDepth 10000 in
theorem w_896 : Cond.constantLong RX3 (29 : Nat) (9221120237041090560 : Int64) ∈ lw_gd := gw (tb4 (List.mem_of_getElem? (i := 114) rfl)) rfl
set_option maxRecDepth 10000 in
theorem w_897 : Cond.methodLink RX3 (31 : Nat) yX3_exponent ∈ lw_gd := gw (tb4 (List.mem_of_getElem? (i := 115) rfl)) rfl
set_option maxRecDepth 10000 in
theorem w_898 : Cond.static yX3_exponent ∈ lw_gd := gw (tb4 (List.mem_of_getElem? (i := 116) rfl)) rfl
set_option maxRecDepth 10000 in
theorem w_899 : Cond.code yX3_exponent cX3_exponent (2 : Nat) (Option.some FieldType.int) ∈ lw_gd := gw (tb4 (List.mem_of_getElem? (i := 117) rfl)) rfl
set_option maxRecDepth 10000 in
theorem w_9 : Cond.selects RX6 yX6_takeValue yX6_takeValue ∈ lw_gd := gw (List.mem_append_left _ (List.mem_of_getElem? (i := 9) rfl)) rfl
set_option maxRecDepth 10000 in
theorem w_90 : Cond.instanceMethod yX7_init ∈ lw_gd := gw (tb1 (List.mem_of_getElem? (i := 28) rfl)) rfl
set_option maxRecDepth 10000 in
theorem w_900 : Cond.methodLink RX3 (15 : Nat) yJ9_max_7cf53 ∈ lw_gd := gw (tb4 (List.mem_of_getElem? (i := 118) rfl)) rfl
set_option maxRecDepth 10000 in
theorem w_901 : Cond.methodLink RX3 (35 : Nat) yX3_fraction ∈ lw_gd := gw (tb4 (List.mem_of_getElem? (i := 119) rfl)) rfl
set_option maxRecDepth 10000 in
theorem w_902 : Cond.static yX3_fraction ∈ lw_gd := gw (tb4 (List.mem_of_getElem? (i := 120) rfl)) rfl
set_option maxRecDepth 10000 in
theorem w_903 : Cond.code yX3_fraction cX3_fraction (4 : Nat) (Option.some FieldType.long) ∈ lw_gd := gw (tb4 (List.mem_of_getElem? (i := 121) rfl)) rfl
set_option maxRecDepth 10000 in
theorem w_904 : Cond.constantLong RX3 (21 : Nat) (4503599627370495 : Int64) ∈ lw_gd := gw (tb4 (List.mem_of_getElem? (i := 122) rfl)) rfl
set_option maxRecDepth 10000 in
theorem w_905 : Cond.constantLong RX3 (23 : Nat) (4503599627370496 : Int64) ∈ lw_gd := gw (tb4 (List.mem_of_getElem? (i := 123) rfl)) rfl
set_option maxRecDepth 10000 in
theorem w_906 : Cond.methodLink RX3 (39 : Nat) yX3_shiftedDown ∈ lw_gd := gw (tb4 (List.mem_of_getElem? (i := 124) rfl)) rfl
set_option maxRecDepth 10000 in
theorem w_907 : Cond.static yX3_shiftedDown ∈ lw_gd := gw (tb4 (List.mem_of_getElem? (i := 125) rfl)) rfl
set_option maxRecDepth 10000 in
theorem w_908 : Cond.code yX3_shiftedDown cX3_shiftedDown (5 : Nat) (Option.some FieldType.long) ∈ lw_gd := gw (tb4 (List.mem_of_getElem? (i := 126) rfl)) rfl
set_option maxRecDepth 10000 in
theorem w_909 : Cond.constantLong RX3 (43 : Nat) (-9223372036854775808 : Int64) ∈ lw_gd := gw (tb4 (List.mem_of_getElem? (i := 127) rfl)) rfl
set_option maxRecDepth 10000 in
theorem w_91 : Cond.code yX7_init cX7_init (2 : Nat) (Option.none : Option FieldType) ∈ lw_gd := gw (tb1 (List.mem_of_getElem? (i := 29) rfl)) rfl
set_option maxRecDepth 10000 in
theorem w_910 : Cond.methodLink RX3 (45 : Nat) yX3_roundedOff ∈ lw_gd := gw (tb4 (List.mem_of_getElem? (i := 128) rfl)) rfl
set_option maxRecDepth 10000 in
theorem w_911 : Cond.static yX3_roundedOff ∈ lw_gd := gw (tb4 (List.mem_of_getElem? (i := 129) rfl)) rfl
set_option maxRecDepth 10000 in
theorem w_912 : Cond.code yX3_roundedOff cX3_roundedOff (15 : Nat) (Option.some FieldType.long) ∈ lw_gd := gw (tb4 (List.mem_of_getElem? (i := 130) rfl)) rfl
set_option maxRecDepth 10000 in
theorem w_913 : Cond.methodLink RX3 (51 : Nat) yJ13_numberOfLeadingZeros_95d88 ∈ lw_gd := gw (tb4 (List.mem_of_getElem? (i := 131) rfl)) rfl
set_option maxRecDepth 10000 in
theorem w_914 : Cond.methodLink RX3 (56 : Nat) yJ9_min_7cf53 ∈ lw_gd := gw (tb4 (List.mem_of_getElem? (i := 132) rfl)) rfl
set_option maxRecDepth 10000 in
theorem w_915 : Cond.constantLong RX3 (59 : Nat) (255 : Int64) ∈ lw_gd := gw (tb4 (List.mem_of_getElem? (i := 133) rfl)) rfl
set_option maxRecDepth 10000 in
theorem w_916 : Cond.constantLong RX3 (61 : Nat) (128 : Int64) ∈ lw_gd := gw (tb4 (List.mem_of_getElem? (i := 134) rfl)) rfl
set_option maxRecDepth 10000 in
theorem w_917 : Cond.methodLink RX3 (63 : Nat) yJ9_min_f86c9 ∈ lw_gd := gw (tb4 (List.mem_of_getElem? (i := 135) rfl)) rfl
set_option maxRecDepth 10000 in
theorem w_918 : Cond.static yJ9_min_f86c9 ∈ lw_gd := gw (tb4 (List.mem_of_getElem? (i := 136) rfl)) rfl
set_option maxRecDepth 10000 in
theorem w_919 : Cond.code yJ9_min_f86c9 cJ9_min_f86c9 (4 : Nat) (Option.some FieldType.long) ∈ lw_gd := gw (tb4 (List.mem_of_getElem? (i := 137) rfl)) rfl
set_option maxRecDepth 10000 in
theorem w_92 : Cond.methodLink RX7 (3 : Nat) Lib.objectInit ∈ lw_gd := gw (tb1 (List.mem_of_getElem? (i := 30) rfl)) rfl
set_option maxRecDepth 10000 in
theorem w_920 : Cond.methodLink RL (87 : Nat) yX8_above ∈ lw_gd := gw (tb4 (List.mem_of_getElem? (i := 138) rfl)) rfl
set_option maxRecDepth 10000 in
theorem w_921 : Cond.instanceMethod yX8_above ∈ lw_gd := gw (tb4 (List.mem_of_getElem? (i := 139) rfl)) rfl
set_option maxRecDepth 10000 in
theorem w_922 : Cond.selects RX8 yX8_above yX8_above ∈ lw_gd := gw (tb4 (List.mem_of_getElem? (i := 140) rfl)) rfl
set_option maxRecDepth 10000 in
theorem w_923 : Cond.code yX8_above cX8_above (6 : Nat) (Option.some FieldType.int) ∈ lw_gd := gw (tb4 (List.mem_of_getElem? (i := 141) rfl)) rfl
set_option maxRecDepth 10000 in
theorem w_924 : Cond.methodLink RX8 (295 : Nat) yX5_countAbove ∈ lw_gd := gw (tb4 (List.mem_of_getElem? (i := 142) rfl)) rfl
set_option maxRecDepth 10000 in
theorem w_925 : Cond.instanceMethod yX5_countAbove ∈ lw_gd := gw (tb4 (List.mem_of_getElem? (i := 143) rfl)) rfl
set_option maxRecDepth 10000 in
theorem w_926 : Cond.selects RX5 yX5_countAbove yX5_countAbove ∈ lw_gd := gw (tb4 (List.mem_of_getElem? (i := 144) rfl)) rfl
set_option maxRecDepth 10000 in
theorem w_927 : Cond.code yX5_countAbove cX5_countAbove (5 : Nat) (Option.some FieldType.int) ∈ lw_gd := gw (tb4 (List.mem_of_getElem? (i := 145) rfl)) rfl
set_option maxRecDepth 10000 in
theorem w_928 : Cond.methodLink RL (172 : Nat) yX8_least ∈ lw_gd := gw (tb4 (List.mem_of_getElem? (i := 146) rfl)) rfl
set_option maxRecDepth 10000 in
theorem w_929 : Cond.instanceMethod yX8_least ∈ lw_gd := gw (tb4 (List.mem_of_getElem? (i := 147) rfl)) rfl
set_option maxRecDepth 10000 in
theorem w_93 : Cond.classLink RX7 (9 : Nat) "SeriesPress$Block" ∈ lw_gd := gw (tb1 (List.mem_of_getElem? (i := 31) rfl)) rfl
set_option maxRecDepth 10000 in
theorem w_930 : Cond.selects RX8 yX8_least yX8_least ∈ lw_gd := gw (tb4 (List.mem_of_getElem? (i := 148) rfl)) rfl
set_option maxRecDepth 10000 in
theorem w_931 : Cond.code yX8_least cX8_least (5 : Nat) (Option.some FieldType.long) ∈ lw_gd := gw (tb4 (List.mem_of_getElem? (i := 149) rfl)) rfl
set_option maxRecDepth 10000 in
theorem w_932 : Cond.methodLink RX8 (298 : Nat) yX5_ranked ∈ lw_gd := gw (tb4 (List.mem_of_getElem? (i := 150) rfl)) rfl
set_option maxRecDepth 10000 in
theorem w_933 : Cond.instanceMethod yX5_ranked ∈ lw_gd := gw (tb4 (List.mem_of_getElem? (i := 151) rfl)) rfl
set_option maxRecDepth 10000 in
theorem w_934 : Cond.selects RX5 yX5_ranked yX5_ranked ∈ lw_gd := gw (tb4 (List.mem_of_getElem? (i := 152) rfl)) rfl
set_option maxRecDepth 10000 in
theorem w_935 : Cond.code yX5_ranked cX5_ranked (9 : Nat) (Option.some FieldType.long) ∈ lw_gd := gw (tb4 (List.mem_of_getElem? (i := 153) rfl)) rfl
set_option maxRecDepth 10000 in
theorem w_936 : Cond.constantLong RX5 (64 : Nat) (-9218868437227405312 : Int64) ∈ lw_gd := gw (tb4 (List.mem_of_getElem? (i := 154) rfl)) rfl
set_option maxRecDepth 10000 in
theorem w_937 : Cond.constantLong RX5 (66 : Nat) (9218868437227405312 : Int64) ∈ lw_gd := gw (tb4 (List.mem_of_getElem? (i := 155) rfl)) rfl
set_option maxRecDepth 10000 in
theorem w_938 : Cond.methodLink RX5 (68 : Nat) yX5_countBelow ∈ lw_gd := gw (tb4 (List.mem_of_getElem? (i := 156) rfl)) rfl
set_option maxRecDepth 10000 in
theorem w_940 : Cond.instanceMethod yX5_countBelow ∈ lw_gd := gw (tb4 (List.mem_of_getElem? (i := 158) rfl)) rfl
set_option maxRecDepth 10000 in
theorem w_941 : Cond.code yX5_countBelow cX5_countBelow (5 : Nat) (Option.some FieldType.int) ∈ lw_gd := gw (tb4 (List.mem_of_getElem? (i := 159) rfl)) rfl
set_option maxRecDepth 10000 in
theorem w_942 : Cond.methodLink RL (185 : Nat) yX8_area ∈ lw_gd := gw (tb4 (List.mem_of_getElem? (i := 160) rfl)) rfl
set_option maxRecDepth 10000 in
theorem w_943 : Cond.instanceMethod yX8_area ∈ lw_gd := gw (tb4 (List.mem_of_getElem? (i := 161) rfl)) rfl
set_option maxRecDepth 10000 in
theorem w_944 : Cond.selects RX8 yX8_area yX8_area ∈ lw_gd := gw (tb4 (List.mem_of_getElem? (i := 162) rfl)) rfl
set_option maxRecDepth 10000 in
theorem w_945 : Cond.code yX8_area cX8_area (4 : Nat) (Option.some FieldType.long) ∈ lw_gd := gw (tb4 (List.mem_of_getElem? (i := 163) rfl)) rfl
set_option maxRecDepth 10000 in
theorem w_946 : Cond.methodLink RX8 (302 : Nat) yX5_surface ∈ lw_gd := gw (tb4 (List.mem_of_getElem? (i := 164) rfl)) rfl
set_option maxRecDepth 10000 in
theorem w_947 : Cond.instanceMethod yX5_surface ∈ lw_gd := gw (tb4 (List.mem_of_getElem? (i := 165) rfl)) rfl
set_option maxRecDepth 10000 in
theorem w_948 : Cond.selects RX5 yX5_surface yX5_surface ∈ lw_gd := gw (tb4 (List.mem_of_getElem? (i := 166) rfl)) rfl
set_option maxRecDepth 10000 in
theorem w_949 : Cond.code yX5_surface cX5_surface (4 : Nat) (Option.some FieldType.long) ∈ lw_gd := gw (tb4 (List.mem_of_getElem? (i := 167) rfl)) rfl
set_option maxRecDepth 10000 in
theorem w_95 : Cond.classLink RX7 (17 : Nat) "SeriesPress$Points" ∈ lw_gd := gw (tb1 (List.mem_of_getElem? (i := 33) rfl)) rfl
set_option maxRecDepth 10000 in
theorem w_950 : Cond.methodLink RX5 (78 : Nat) yX3_times ∈ lw_gd := gw (tb4 (List.mem_of_getElem? (i := 168) rfl)) rfl
set_option maxRecDepth 10000 in
theorem w_951 : Cond.static yX3_times ∈ lw_gd := gw (tb4 (List.mem_of_getElem? (i := 169) rfl)) rfl
set_option maxRecDepth 10000 in
theorem w_952 : Cond.code yX3_times cX3_times (14 : Nat) (Option.some FieldType.long) ∈ lw_gd := gw (tb4 (List.mem_of_getElem? (i := 170) rfl)) rfl
set_option maxRecDepth 10000 in
theorem w_953 : Cond.constantLong RX3 (49 : Nat) (4294967295 : Int64) ∈ lw_gd := gw (tb4 (List.mem_of_getElem? (i := 171) rfl)) rfl
set_option maxRecDepth 10000 in
theorem w_954 : Cond.methodLink RL (108 : Nat) yX8_both ∈ lw_gd := gw (tb4 (List.mem_of_getElem? (i := 172) rfl)) rfl
set_option maxRecDepth 10000 in
theorem w_955 : Cond.instanceMethod yX8_both ∈ lw_gd := gw (tb4 (List.mem_of_getElem? (i := 173) rfl)) rfl
set_option maxRecDepth 10000 in
theorem w_956 : Cond.selects RX8 yX8_both yX8_both ∈ lw_gd := gw (tb4 (List.mem_of_getElem? (i := 174) rfl)) rfl
set_option maxRecDepth 10000 in
theorem w_957 : Cond.code yX8_both cX8_both (6 : Nat) (Option.some FieldType.int) ∈ lw_gd := gw (tb4 (List.mem_of_getElem? (i := 175) rfl)) rfl
set_option maxRecDepth 10000 in
theorem w_958 : Cond.methodLink RX8 (305 : Nat) yX8_gatherBoth ∈ lw_gd := gw (tb4 (List.mem_of_getElem? (i := 176) rfl)) rfl
set_option maxRecDepth 10000 in
theorem w_96 : Cond.instantiable RX5 (3 : Nat) ∈ lw_gd := gw (tb1 (List.mem_of_getElem? (i := 34) rfl)) rfl
set_option maxRecDepth 10000 in
theorem w_960 : Cond.instanceMethod yX8_gatherBoth ∈ lw_gd := gw (tb4 (List.mem_of_getElem? (i := 178) rfl)) rfl
set_option maxRecDepth 10000 in
theorem w_961 : Cond.code yX8_gatherBoth cX8_gatherBoth (3 : Nat) (Option.none : Option FieldType) ∈ lw_gd := gw (tb4 (List.mem_of_getElem? (i := 179) rfl)) rfl
set_option maxRecDepth 10000 in
theorem w_962 : Cond.methodLink RX8 (309 : Nat) yX4_begin ∈ lw_gd := gw (tb4 (List.mem_of_getElem? (i := 180) rfl)) rfl
set_option maxRecDepth 10000 in
theorem w_963 : Cond.instanceMethod yX4_begin ∈ lw_gd := gw (tb4 (List.mem_of_getElem? (i := 181) rfl)) rfl
set_option maxRecDepth 10000 in
theorem w_964 : Cond.selects RX4 yX4_begin yX4_begin ∈ lw_gd := gw (tb4 (List.mem_of_getElem? (i := 182) rfl)) rfl
set_option maxRecDepth 10000 in
theorem w_965 : Cond.code yX4_begin cX4_begin (1 : Nat) (Option.some FieldType.int) ∈ lw_gd := gw (tb4 (List.mem_of_getElem? (i := 183) rfl)) rfl
set_option maxRecDepth 10000 in
theorem w_966 : Cond.methodLink RX8 (312 : Nat) yX4_advance ∈ lw_gd := gw (tb4 (List.mem_of_getElem? (i := 184) rfl)) rfl
set_option maxRecDepth 10000 in
theorem w_967 : Cond.instanceMethod yX4_advance ∈ lw_gd := gw (tb4 (List.mem_of_getElem? (i := 185) rfl)) rfl
set_option maxRecDepth 10000 in
theorem w_968 : Cond.selects RX4 yX4_advance yX4_advance ∈ lw_gd := gw (tb4 (List.mem_of_getElem? (i := 186) rfl)) rfl
set_option maxRecDepth 10000 in
theorem w_969 : Cond.code yX4_advance cX4_advance (3 : Nat) (Option.some FieldType.boolean) ∈ lw_gd := gw (tb4 (List.mem_of_getElem? (i := 187) rfl)) rfl
set_option maxRecDepth 10000 in
theorem w_97 : Cond.methodLink RX7 (19 : Nat) yX5_init ∈ lw_gd := gw (tb1 (List.mem_of_getElem? (i := 35) rfl)) rfl
set_option maxRecDepth 10000 in
theorem w_970 : Cond.methodLink RX8 (316 : Nat) yX4_isInBoth ∈ lw_gd := gw (tb4 (List.mem_of_getElem? (i := 188) rfl)) rfl
set_option maxRecDepth 10000 in
theorem w_971 : Cond.instanceMethod yX4_isInBoth ∈ lw_gd := gw (tb4 (List.mem_of_getElem? (i := 189) rfl)) rfl
set_option maxRecDepth 10000 in
theorem w_972 : Cond.selects RX4 yX4_isInBoth yX4_isInBoth ∈ lw_gd := gw (tb4 (List.mem_of_getElem? (i := 190) rfl)) rfl
set_option maxRecDepth 10000 in
theorem w_973 : Cond.code yX4_isInBoth cX4_isInBoth (1 : Nat) (Option.some FieldType.boolean) ∈ lw_gd := gw (tb4 (List.mem_of_getElem? (i := 191) rfl)) rfl
set_option maxRecDepth 10000 in
theorem w_974 : Cond.methodLink RX8 (319 : Nat) yX4_isAlike ∈ lw_gd := gw (tb4 (List.mem_of_getElem? (i := 192) rfl)) rfl
set_option maxRecDepth 10000 in
theorem w_975 : Cond.instanceMethod yX4_isAlike ∈ lw_gd := gw (tb4 (List.mem_of_getElem? (i := 193) rfl)) rfl
set_option maxRecDepth 10000 in
theorem w_976 : Cond.selects RX4 yX4_isAlike yX4_isAlike ∈ lw_gd := gw (tb4 (List.mem_of_getElem? (i := 194) rfl)) rfl
set_option maxRecDepth 10000 in
theorem w_977 : Cond.code yX4_isAlike cX4_isAlike (1 : Nat) (Option.some FieldType.boolean) ∈ lw_gd := gw (tb4 (List.mem_of_getElem? (i := 195) rfl)) rfl
set_option maxRecDepth 10000 in
theorem w_978 : Cond.methodLink RL (112 : Nat) yX8_differ ∈ lw_gd := gw (tb4 (List.mem_of_getElem? (i := 196) rfl)) rfl
set_option maxRecDepth 10000 in
theorem w_979 : Cond.instanceMethod yX8_differ ∈ lw_gd := gw (tb4 (List.mem_of_getElem? (i := 197) rfl)) rfl
set_option maxRecDepth 10000 in
theorem w_98 : Cond.instanceMethod yX5_init ∈ lw_gd := gw (tb1 (List.mem_of_getElem? (i := 36) rfl)) rfl
set_option maxRecDepth 10000 in
theorem w_980 : Cond.selects RX8 yX8_differ yX8_differ ∈ lw_gd := gw (tb4 (List.mem_of_getElem? (i := 198) rfl)) rfl
set_option maxRecDepth 10000 in
theorem w_981 : Cond.code yX8_differ cX8_differ (4 : Nat) (Option.some FieldType.int) ∈ lw_gd := gw (tb4 (List.mem_of_getElem? (i := 199) rfl)) rfl
set_option maxRecDepth 10000 in
theorem w_982 : Cond.methodLink RL (132 : Nat) yX8_join ∈ lw_gd := gw (tb4 (List.mem_of_getElem? (i := 200) rfl)) rfl
set_option maxRecDepth 10000 in
theorem w_983 : Cond.instanceMethod yX8_join ∈ lw_gd := gw (tb4 (List.mem_of_getElem? (i := 201) rfl)) rfl
set_option maxRecDepth 10000 in
theorem w_984 : Cond.selects RX8 yX8_join yX8_join ∈ lw_gd := gw (tb4 (List.mem_of_getElem? (i := 202) rfl)) rfl
set_option maxRecDepth 10000 in
theorem w_985 : Cond.code yX8_join cX8_join (5 : Nat) (Option.some FieldType.int) ∈ lw_gd := gw (tb4 (List.mem_of_getElem? (i := 203) rfl)) rfl
set_option maxRecDepth 10000 in
theorem w_986 : Cond.methodLink RX8 (326 : Nat) yX8_useSpare ∈ lw_gd := gw (tb4 (List.mem_of_getElem? (i := 204) rfl)) rfl
set_option maxRecDepth 10000 in
theorem w_988 : Cond.instanceMethod yX8_useSpare ∈ lw_gd := gw (tb4 (List.mem_of_getElem? (i := 206) rfl)) rfl
set_option maxRecDepth 10000 in
theorem w_989 : Cond.code yX8_useSpare cX8_useSpare (3 : Nat) (Option.some FieldType.int) ∈ lw_gd := gw (tb4 (List.mem_of_getElem? (i := 207) rfl)) rfl
set_option maxRecDepth 10000 in
theorem w_99 : Cond.code yX5_init cX5_init (2 : Nat) (Option.none : Option FieldType) ∈ lw_gd := gw (tb1 (List.mem_of_getElem? (i := 37) rfl)) rfl
set_option maxRecDepth 10000 in
theorem w_990 : Cond.methodLink RL (152 : Nat) yX8_copy ∈ lw_gd := gw (tb4 (List.mem_of_getElem? (i := 208) rfl)) rfl
set_option maxRecDepth 10000 in
theorem w_991 : Cond.instanceMethod yX8_copy ∈ lw_gd := gw (tb4 (List.mem_of_getElem? (i := 209) rfl)) rfl
set_option maxRecDepth 10000 in
theorem w_992 : Cond.selects RX8 yX8_copy yX8_copy ∈ lw_gd := gw (tb4 (List.mem_of_getElem? (i := 210) rfl)) rfl
set_option maxRecDepth 10000 in
theorem w_993 : Cond.code yX8_copy cX8_copy (3 : Nat) (Option.some FieldType.int) ∈ lw_gd := gw (tb4 (List.mem_of_getElem? (i := 211) rfl)) rfl
set_option maxRecDepth 10000 in
theorem w_994 : Cond.methodLink RX8 (329 : Nat) yX7_become ∈ lw_gd := gw (tb4 (List.mem_of_getElem? (i := 212) rfl)) rfl
set_option maxRecDepth 10000 in
theorem w_995 : Cond.instanceMethod yX7_become ∈ lw_gd := gw (tb4 (List.mem_of_getElem? (i := 213) rfl)) rfl
set_option maxRecDepth 10000 in
theorem w_996 : Cond.selects RX7 yX7_become yX7_become ∈ lw_gd := gw (tb4 (List.mem_of_getElem? (i := 214) rfl)) rfl
set_option maxRecDepth 10000 in
theorem w_997 : Cond.code yX7_become cX7_become (3 : Nat) (Option.none : Option FieldType) ∈ lw_gd := gw (tb4 (List.mem_of_getElem? (i := 215) rfl)) rfl
set_option maxRecDepth 10000 in
theorem w_998 : Cond.methodLink RX7 (49 : Nat) yX5_become ∈ lw_gd := gw (tb4 (List.mem_of_getElem? (i := 216) rfl)) rfl
set_option maxRecDepth 10000 in
theorem w_999 : Cond.instanceMethod yX5_become ∈ lw_gd := gw (tb4 (List.mem_of_getElem? (i := 217) rfl)) rfl
set_option maxRecDepth 10000 in
theorem w_objcode : Cond.code Lib.objectInit ⟨#[0xb1]⟩ 1 none ∈ lw_gd := gw (tb1 (List.mem_of_getElem? (i := 23) rfl)) rfl
