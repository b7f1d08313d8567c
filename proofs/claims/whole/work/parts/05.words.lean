theorem t1_in {w : Cond} (h : w ∈ tables_1_1) : w ∈ lw_tbl := List.mem_append_right _ (List.mem_append_left _ h)
theorem t2_in {w : Cond} (h : w ∈ tables_1_2) : w ∈ lw_tbl := List.mem_append_right _ (List.mem_append_right _ (List.mem_append_left _ h))
theorem t3_in {w : Cond} (h : w ∈ tables_1_3) : w ∈ lw_tbl := List.mem_append_right _ (List.mem_append_right _ (List.mem_append_right _ (List.mem_append_left _ h)))
theorem t4_in {w : Cond} (h : w ∈ tables_1_4) : w ∈ lw_tbl := List.mem_append_right _ (List.mem_append_right _ (List.mem_append_right _ (List.mem_append_right _ h)))
theorem s_in {w : Cond} (h : w ∈ k2_sels lw_privs) : w ∈ lw_tbl := List.mem_append_left _ h
theorem t_0 : Cond.initialized "SnowBallsLaw" ∈ TB := tb_in (t1_in (List.mem_of_getElem? (i := 0) rfl)) rfl
theorem t_1 : Cond.initialized RX7 ∈ TB := tb_in (t1_in (List.mem_of_getElem? (i := 1) rfl)) rfl
theorem t_2 : Cond.initialized RX4 ∈ TB := tb_in (t1_in (List.mem_of_getElem? (i := 2) rfl)) rfl
theorem t_3 : Cond.initialized RX1 ∈ TB := tb_in (t1_in (List.mem_of_getElem? (i := 3) rfl)) rfl
theorem t_4 : Cond.initialized RJx29ce0 ∈ TB := tb_in (t1_in (List.mem_of_getElem? (i := 4) rfl)) rfl
theorem t_5 : Cond.initialized RX2 ∈ TB := tb_in (t1_in (List.mem_of_getElem? (i := 5) rfl)) rfl
theorem t_6 : Cond.initialized RX5 ∈ TB := tb_in (t1_in (List.mem_of_getElem? (i := 6) rfl)) rfl
theorem t_7 : Cond.initialized RX3 ∈ TB := tb_in (t1_in (List.mem_of_getElem? (i := 7) rfl)) rfl
theorem t_8 : Cond.initialized RX0 ∈ TB := tb_in (t1_in (List.mem_of_getElem? (i := 8) rfl)) rfl
theorem t_9 : Cond.initialized RX6 ∈ TB := tb_in (t1_in (List.mem_of_getElem? (i := 9) rfl)) rfl
theorem t_10 : Cond.initialized RX8 ∈ TB := tb_in (t1_in (List.mem_of_getElem? (i := 10) rfl)) rfl
theorem t_11 : Cond.initialized RJ9 ∈ TB := tb_in (t1_in (List.mem_of_getElem? (i := 11) rfl)) rfl
theorem t_12 : Cond.initialized RJ6 ∈ TB := tb_in (t1_in (List.mem_of_getElem? (i := 12) rfl)) rfl
theorem t_13 : Cond.classLink "SnowBallsLaw" 7 RX7 ∈ TB := tb_in (t1_in (List.mem_of_getElem? (i := 13) rfl)) rfl
theorem t_14 : Cond.instantiable RX7 12 ∈ TB := tb_in (t1_in (List.mem_of_getElem? (i := 14) rfl)) rfl
theorem t_15 : Cond.methodLink "SnowBallsLaw" 9 yX7_init ∈ TB := tb_in (t1_in (List.mem_of_getElem? (i := 15) rfl)) rfl
theorem t_16 : Cond.instanceMethod yX7_init ∈ TB := tb_in (t1_in (List.mem_of_getElem? (i := 16) rfl)) rfl
theorem t_17 : Cond.code yX7_init cX7_init 1 none ∈ TB := tb_in (t1_in (List.mem_of_getElem? (i := 17) rfl)) rfl
theorem t_18 : Cond.methodLink RX7 3 Lib.objectInit ∈ TB := tb_in (t1_in (List.mem_of_getElem? (i := 18) rfl)) rfl
theorem t_19 : Cond.instanceMethod Lib.objectInit ∈ TB := tb_in (t1_in (List.mem_of_getElem? (i := 19) rfl)) rfl
theorem t_20 : Cond.code Lib.objectInit ⟨#[0xb1]⟩ 1 none ∈ TB := tb_in (t1_in (List.mem_of_getElem? (i := 20) rfl)) rfl
theorem t_21 : Cond.classLink RX7 13 RX4 ∈ TB := tb_in (t1_in (List.mem_of_getElem? (i := 21) rfl)) rfl
theorem t_22 : Cond.instantiable RX4 6 ∈ TB := tb_in (t1_in (List.mem_of_getElem? (i := 22) rfl)) rfl
theorem t_23 : Cond.methodLink RX7 15 yX4_init ∈ TB := tb_in (t1_in (List.mem_of_getElem? (i := 23) rfl)) rfl
theorem t_24 : Cond.instanceMethod yX4_init ∈ TB := tb_in (t1_in (List.mem_of_getElem? (i := 24) rfl)) rfl
theorem t_25 : Cond.code yX4_init cX4_init 2 none ∈ TB := tb_in (t1_in (List.mem_of_getElem? (i := 25) rfl)) rfl
theorem t_26 : Cond.methodLink RX4 3 Lib.objectInit ∈ TB := tb_in (t1_in (List.mem_of_getElem? (i := 26) rfl)) rfl
theorem t_27 : Cond.classLink RX4 15 RX1 ∈ TB := tb_in (t1_in (List.mem_of_getElem? (i := 27) rfl)) rfl
theorem t_29 : Cond.instantiable RX1 5 ∈ TB := tb_in (t1_in (List.mem_of_getElem? (i := 29) rfl)) rfl
theorem t_30 : Cond.methodLink RX4 21 yX1_init ∈ TB := tb_in (t1_in (List.mem_of_getElem? (i := 30) rfl)) rfl
theorem t_31 : Cond.instanceMethod yX1_init ∈ TB := tb_in (t1_in (List.mem_of_getElem? (i := 31) rfl)) rfl
theorem t_32 : Cond.code yX1_init cX1_init 1 none ∈ TB := tb_in (t1_in (List.mem_of_getElem? (i := 32) rfl)) rfl
theorem t_33 : Cond.methodLink RX1 3 Lib.objectInit ∈ TB := tb_in (t1_in (List.mem_of_getElem? (i := 33) rfl)) rfl
theorem t_34 : Cond.fieldLink RX1 9 "SnowBalls$Kind" "BALL" "LSnowBalls$Kind;" ∈ TB := tb_in (t1_in (List.mem_of_getElem? (i := 34) rfl)) rfl
theorem t_36 : Cond.fieldLink RX1 15 "SnowBalls$Ball" "kind" "LSnowBalls$Kind;" ∈ TB := tb_in (t1_in (List.mem_of_getElem? (i := 36) rfl)) rfl
theorem t_37 : Cond.fieldLink RX7 130 "SnowBalls$Ball" "kind" "LSnowBalls$Kind;" ∈ TB := tb_in (t1_in (List.mem_of_getElem? (i := 37) rfl)) rfl
theorem t_38 : Cond.fieldLink RX4 80 "SnowBalls$Ball" "kind" "LSnowBalls$Kind;" ∈ TB := tb_in (t1_in (List.mem_of_getElem? (i := 38) rfl)) rfl
theorem t_39 : Cond.fieldLink RX1 20 "SnowBalls$Ball" "size" "I" ∈ TB := tb_in (t1_in (List.mem_of_getElem? (i := 39) rfl)) rfl
theorem t_40 : Cond.fieldLink RX3 21 "SnowBalls$Ball" "size" "I" ∈ TB := tb_in (t1_in (List.mem_of_getElem? (i := 40) rfl)) rfl
theorem t_41 : Cond.fieldLink RX6 19 "SnowBalls$Ball" "size" "I" ∈ TB := tb_in (t1_in (List.mem_of_getElem? (i := 41) rfl)) rfl
theorem t_42 : Cond.fieldLink RX4 39 "SnowBalls$Ball" "size" "I" ∈ TB := tb_in (t1_in (List.mem_of_getElem? (i := 42) rfl)) rfl
theorem t_43 : Cond.fieldLink RX7 139 "SnowBalls$Ball" "size" "I" ∈ TB := tb_in (t1_in (List.mem_of_getElem? (i := 43) rfl)) rfl
theorem t_44 : Cond.fieldLink RX1 24 "SnowBalls$Ball" "place" "I" ∈ TB := tb_in (t1_in (List.mem_of_getElem? (i := 44) rfl)) rfl
theorem t_45 : Cond.fieldLink RX0 18 "SnowBalls$Ball" "place" "I" ∈ TB := tb_in (t1_in (List.mem_of_getElem? (i := 45) rfl)) rfl
theorem t_46 : Cond.fieldLink RX4 46 "SnowBalls$Ball" "place" "I" ∈ TB := tb_in (t1_in (List.mem_of_getElem? (i := 46) rfl)) rfl
theorem t_47 : Cond.fieldLink RX7 142 "SnowBalls$Ball" "place" "I" ∈ TB := tb_in (t1_in (List.mem_of_getElem? (i := 47) rfl)) rfl
theorem t_48 : Cond.fieldLink RX1 27 "SnowBalls$Ball" "on" "I" ∈ TB := tb_in (t1_in (List.mem_of_getElem? (i := 48) rfl)) rfl
theorem t_49 : Cond.fieldLink RX4 49 "SnowBalls$Ball" "on" "I" ∈ TB := tb_in (t1_in (List.mem_of_getElem? (i := 49) rfl)) rfl
theorem t_50 : Cond.fieldLink RX7 145 "SnowBalls$Ball" "on" "I" ∈ TB := tb_in (t1_in (List.mem_of_getElem? (i := 50) rfl)) rfl
theorem t_51 : Cond.fieldLink RX1 30 "SnowBalls$Ball" "axis" "I" ∈ TB := tb_in (t1_in (List.mem_of_getElem? (i := 51) rfl)) rfl
theorem t_52 : Cond.fieldLink RX7 154 "SnowBalls$Ball" "axis" "I" ∈ TB := tb_in (t1_in (List.mem_of_getElem? (i := 52) rfl)) rfl
theorem t_53 : Cond.fieldLink RX4 96 "SnowBalls$Ball" "axis" "I" ∈ TB := tb_in (t1_in (List.mem_of_getElem? (i := 53) rfl)) rfl
theorem t_54 : Cond.lays RX1 "SnowBalls$Ball" "kind" "LSnowBalls$Kind;" ∈ TB := tb_in (t1_in (List.mem_of_getElem? (i := 54) rfl)) rfl
theorem t_56 : Cond.lays RX1 "SnowBalls$Ball" "size" "I" ∈ TB := tb_in (t1_in (List.mem_of_getElem? (i := 56) rfl)) rfl
theorem t_58 : Cond.lays RX1 "SnowBalls$Ball" "place" "I" ∈ TB := tb_in (t1_in (List.mem_of_getElem? (i := 58) rfl)) rfl
theorem t_60 : Cond.lays RX1 "SnowBalls$Ball" "on" "I" ∈ TB := tb_in (t1_in (List.mem_of_getElem? (i := 60) rfl)) rfl
theorem t_62 : Cond.lays RX1 "SnowBalls$Ball" "axis" "I" ∈ TB := tb_in (t1_in (List.mem_of_getElem? (i := 62) rfl)) rfl
theorem t_65 : Cond.arrayClass .char ∈ TB := tb_in (t1_in (List.mem_of_getElem? (i := 65) rfl)) rfl
theorem t_66 : Cond.arrayClass .int ∈ TB := tb_in (t1_in (List.mem_of_getElem? (i := 66) rfl)) rfl
theorem t_67 : Cond.fieldLink RX4 9 "SnowBalls$Lawn" "depths" "[I" ∈ TB := tb_in (t1_in (List.mem_of_getElem? (i := 67) rfl)) rfl
theorem t_68 : Cond.fieldLink RX7 66 "SnowBalls$Lawn" "depths" "[I" ∈ TB := tb_in (t1_in (List.mem_of_getElem? (i := 68) rfl)) rfl
theorem t_69 : Cond.fieldLink RX4 17 "SnowBalls$Lawn" "balls" "[LSnowBalls$Ball;" ∈ TB := tb_in (t1_in (List.mem_of_getElem? (i := 69) rfl)) rfl
theorem t_70 : Cond.fieldLink RX7 113 "SnowBalls$Lawn" "balls" "[LSnowBalls$Ball;" ∈ TB := tb_in (t1_in (List.mem_of_getElem? (i := 70) rfl)) rfl
theorem t_71 : Cond.fieldLink RX4 26 "SnowBalls$Lawn" "ballCount" "I" ∈ TB := tb_in (t1_in (List.mem_of_getElem? (i := 71) rfl)) rfl
theorem t_72 : Cond.fieldLink RX7 110 "SnowBalls$Lawn" "ballCount" "I" ∈ TB := tb_in (t1_in (List.mem_of_getElem? (i := 72) rfl)) rfl
theorem t_73 : Cond.fieldLink RX4 36 "SnowBalls$Lawn" "wetness" "I" ∈ TB := tb_in (t1_in (List.mem_of_getElem? (i := 73) rfl)) rfl
theorem t_74 : Cond.fieldLink RX7 74 "SnowBalls$Lawn" "wetness" "I" ∈ TB := tb_in (t1_in (List.mem_of_getElem? (i := 74) rfl)) rfl
theorem t_75 : Cond.fieldLink RX4 22 "SnowBalls$Lawn" "strength" "I" ∈ TB := tb_in (t1_in (List.mem_of_getElem? (i := 75) rfl)) rfl
theorem t_76 : Cond.fieldLink RX7 101 "SnowBalls$Lawn" "strength" "I" ∈ TB := tb_in (t1_in (List.mem_of_getElem? (i := 76) rfl)) rfl
theorem t_77 : Cond.fieldLink RX4 29 "SnowBalls$Lawn" "days" "I" ∈ TB := tb_in (t1_in (List.mem_of_getElem? (i := 77) rfl)) rfl
theorem t_78 : Cond.fieldLink RX7 242 "SnowBalls$Lawn" "days" "I" ∈ TB := tb_in (t1_in (List.mem_of_getElem? (i := 78) rfl)) rfl
theorem t_79 : Cond.laysFinal RX4 "SnowBalls$Lawn" "depths" "[I" ∈ TB := tb_in (t1_in (List.mem_of_getElem? (i := 79) rfl)) rfl
theorem t_81 : Cond.laysFinal RX4 "SnowBalls$Lawn" "balls" "[LSnowBalls$Ball;" ∈ TB := tb_in (t1_in (List.mem_of_getElem? (i := 81) rfl)) rfl
theorem t_83 : Cond.lays RX4 "SnowBalls$Lawn" "ballCount" "I" ∈ TB := tb_in (t1_in (List.mem_of_getElem? (i := 83) rfl)) rfl
theorem t_85 : Cond.lays RX4 "SnowBalls$Lawn" "wetness" "I" ∈ TB := tb_in (t1_in (List.mem_of_getElem? (i := 85) rfl)) rfl
theorem t_87 : Cond.lays RX4 "SnowBalls$Lawn" "strength" "I" ∈ TB := tb_in (t1_in (List.mem_of_getElem? (i := 87) rfl)) rfl
theorem t_89 : Cond.lays RX4 "SnowBalls$Lawn" "days" "I" ∈ TB := tb_in (t1_in (List.mem_of_getElem? (i := 89) rfl)) rfl
theorem t_92 : Cond.classLink RX7 26 RX3 ∈ TB := tb_in (t1_in (List.mem_of_getElem? (i := 92) rfl)) rfl
theorem t_93 : Cond.instantiable RX3 3 ∈ TB := tb_in (t1_in (List.mem_of_getElem? (i := 93) rfl)) rfl
theorem t_95 : Cond.instanceMethod yX3_init ∈ TB := tb_in (t1_in (List.mem_of_getElem? (i := 95) rfl)) rfl
theorem t_96 : Cond.code yX3_init cX3_init 1 none ∈ TB := tb_in (t1_in (List.mem_of_getElem? (i := 96) rfl)) rfl
theorem t_98 : Cond.instanceMethod yX5_init ∈ TB := tb_in (t1_in (List.mem_of_getElem? (i := 98) rfl)) rfl
theorem t_99 : Cond.code yX5_init cX5_init 1 none ∈ TB := tb_in (t1_in (List.mem_of_getElem? (i := 99) rfl)) rfl
theorem t_100 : Cond.methodLink RX5 1 Lib.objectInit ∈ TB := tb_in (t1_in (List.mem_of_getElem? (i := 100) rfl)) rfl
theorem t_101 : Cond.fieldLink RX3 9 "SnowBalls$Largest" "size" "I" ∈ TB := tb_in (t1_in (List.mem_of_getElem? (i := 101) rfl)) rfl
theorem t_102 : Cond.fieldLink RX7 197 "SnowBalls$Largest" "size" "I" ∈ TB := tb_in (t1_in (List.mem_of_getElem? (i := 102) rfl)) rfl
theorem t_103 : Cond.fieldLink RX3 15 "SnowBalls$Largest" "firstSide" "I" ∈ TB := tb_in (t1_in (List.mem_of_getElem? (i := 103) rfl)) rfl
theorem t_104 : Cond.fieldLink RX7 198 "SnowBalls$Largest" "firstSide" "I" ∈ TB := tb_in (t1_in (List.mem_of_getElem? (i := 104) rfl)) rfl
theorem t_105 : Cond.fieldLink RX3 18 "SnowBalls$Largest" "fewest" "I" ∈ TB := tb_in (t1_in (List.mem_of_getElem? (i := 105) rfl)) rfl
theorem t_106 : Cond.lays RX3 "SnowBalls$Largest" "size" "I" ∈ TB := tb_in (t1_in (List.mem_of_getElem? (i := 106) rfl)) rfl
theorem t_108 : Cond.lays RX3 "SnowBalls$Largest" "firstSide" "I" ∈ TB := tb_in (t1_in (List.mem_of_getElem? (i := 108) rfl)) rfl
theorem t_110 : Cond.lays RX3 "SnowBalls$Largest" "fewest" "I" ∈ TB := tb_in (t1_in (List.mem_of_getElem? (i := 110) rfl)) rfl
theorem t_113 : Cond.classLink RX7 33 RX0 ∈ TB := tb_in (t1_in (List.mem_of_getElem? (i := 113) rfl)) rfl
theorem t_114 : Cond.instantiable RX0 2 ∈ TB := tb_in (t1_in (List.mem_of_getElem? (i := 114) rfl)) rfl
theorem t_116 : Cond.instanceMethod yX0_init ∈ TB := tb_in (t1_in (List.mem_of_getElem? (i := 116) rfl)) rfl
theorem t_117 : Cond.code yX0_init cX0_init 1 none ∈ TB := tb_in (t1_in (List.mem_of_getElem? (i := 117) rfl)) rfl
theorem t_119 : Cond.fieldLink RX0 15 "SnowBalls$Arrival" "fewest" "I" ∈ TB := tb_in (t1_in (List.mem_of_getElem? (i := 119) rfl)) rfl
theorem t_120 : Cond.fieldLink RX7 204 "SnowBalls$Arrival" "fewest" "I" ∈ TB := tb_in (t1_in (List.mem_of_getElem? (i := 120) rfl)) rfl
theorem t_121 : Cond.fieldLink RX0 9 "SnowBalls$Arrival" "target" "I" ∈ TB := tb_in (t1_in (List.mem_of_getElem? (i := 121) rfl)) rfl
theorem t_122 : Cond.lays RX0 "SnowBalls$Arrival" "fewest" "I" ∈ TB := tb_in (t1_in (List.mem_of_getElem? (i := 122) rfl)) rfl
theorem t_124 : Cond.lays RX0 "SnowBalls$Arrival" "target" "I" ∈ TB := tb_in (t1_in (List.mem_of_getElem? (i := 124) rfl)) rfl
theorem t_127 : Cond.classLink RX7 40 RX6 ∈ TB := tb_in (t1_in (List.mem_of_getElem? (i := 127) rfl)) rfl
theorem t_128 : Cond.instantiable RX6 3 ∈ TB := tb_in (t1_in (List.mem_of_getElem? (i := 128) rfl)) rfl
theorem t_130 : Cond.instanceMethod yX6_init ∈ TB := tb_in (t1_in (List.mem_of_getElem? (i := 130) rfl)) rfl
theorem t_131 : Cond.code yX6_init cX6_init 1 none ∈ TB := tb_in (t1_in (List.mem_of_getElem? (i := 131) rfl)) rfl
theorem t_133 : Cond.fieldLink RX6 16 "SnowBalls$Ways" "ways" "I" ∈ TB := tb_in (t1_in (List.mem_of_getElem? (i := 133) rfl)) rfl
theorem t_134 : Cond.fieldLink RX7 222 "SnowBalls$Ways" "ways" "I" ∈ TB := tb_in (t1_in (List.mem_of_getElem? (i := 134) rfl)) rfl
theorem t_135 : Cond.fieldLink RX6 7 "SnowBalls$Ways" "rolls" "I" ∈ TB := tb_in (t1_in (List.mem_of_getElem? (i := 135) rfl)) rfl
theorem t_136 : Cond.fieldLink RX6 13 "SnowBalls$Ways" "size" "I" ∈ TB := tb_in (t1_in (List.mem_of_getElem? (i := 136) rfl)) rfl
theorem t_137 : Cond.lays RX6 "SnowBalls$Ways" "ways" "I" ∈ TB := tb_in (t1_in (List.mem_of_getElem? (i := 137) rfl)) rfl
theorem t_139 : Cond.lays RX6 "SnowBalls$Ways" "rolls" "I" ∈ TB := tb_in (t1_in (List.mem_of_getElem? (i := 139) rfl)) rfl
theorem t_141 : Cond.lays RX6 "SnowBalls$Ways" "size" "I" ∈ TB := tb_in (t1_in (List.mem_of_getElem? (i := 141) rfl)) rfl
theorem t_144 : Cond.fieldLink RX7 9 "SnowBalls" "page" "[C" ∈ TB := tb_in (t1_in (List.mem_of_getElem? (i := 144) rfl)) rfl
theorem t_145 : Cond.fieldLink RX7 16 "SnowBalls" "now" "LSnowBalls$Lawn;" ∈ TB := tb_in (t1_in (List.mem_of_getElem? (i := 145) rfl)) rfl
theorem t_146 : Cond.fieldLink RX7 20 "SnowBalls" "kept" "LSnowBalls$Lawn;" ∈ TB := tb_in (t1_in (List.mem_of_getElem? (i := 146) rfl)) rfl
theorem t_147 : Cond.fieldLink RX7 23 "SnowBalls" "trial" "LSnowBalls$Lawn;" ∈ TB := tb_in (t1_in (List.mem_of_getElem? (i := 147) rfl)) rfl
theorem t_148 : Cond.fieldLink RX7 29 "SnowBalls" "largestSearch" "LSnowBalls$Largest;" ∈ TB := tb_in (t1_in (List.mem_of_getElem? (i := 148) rfl)) rfl
theorem t_149 : Cond.fieldLink RX7 36 "SnowBalls" "arrivalSearch" "LSnowBalls$Arrival;" ∈ TB := tb_in (t1_in (List.mem_of_getElem? (i := 149) rfl)) rfl
theorem t_150 : Cond.fieldLink RX7 43 "SnowBalls" "waysSearch" "LSnowBalls$Ways;" ∈ TB := tb_in (t1_in (List.mem_of_getElem? (i := 150) rfl)) rfl
theorem t_151 : Cond.fieldLink RX7 51 "SnowBalls" "letters" "I" ∈ TB := tb_in (t1_in (List.mem_of_getElem? (i := 151) rfl)) rfl
theorem t_152 : Cond.fieldLink RX7 77 "SnowBalls" "lawnsRead" "I" ∈ TB := tb_in (t1_in (List.mem_of_getElem? (i := 152) rfl)) rfl
theorem t_153 : Cond.fieldLink RX7 184 "SnowBalls" "searches" "I" ∈ TB := tb_in (t1_in (List.mem_of_getElem? (i := 153) rfl)) rfl
theorem t_154 : Cond.fieldLink RX7 216 "SnowBalls" "books" "I" ∈ TB := tb_in (t1_in (List.mem_of_getElem? (i := 154) rfl)) rfl
theorem t_155 : Cond.fieldLink RX7 80 "SnowBalls" "hasImage" "Z" ∈ TB := tb_in (t1_in (List.mem_of_getElem? (i := 155) rfl)) rfl
theorem t_156 : Cond.laysFinal RX7 "SnowBalls" "page" "[C" ∈ TB := tb_in (t1_in (List.mem_of_getElem? (i := 156) rfl)) rfl
theorem t_158 : Cond.laysFinal RX7 "SnowBalls" "now" "LSnowBalls$Lawn;" ∈ TB := tb_in (t1_in (List.mem_of_getElem? (i := 158) rfl)) rfl
theorem t_160 : Cond.laysFinal RX7 "SnowBalls" "kept" "LSnowBalls$Lawn;" ∈ TB := tb_in (t1_in (List.mem_of_getElem? (i := 160) rfl)) rfl
theorem t_162 : Cond.laysFinal RX7 "SnowBalls" "trial" "LSnowBalls$Lawn;" ∈ TB := tb_in (t1_in (List.mem_of_getElem? (i := 162) rfl)) rfl
theorem t_164 : Cond.laysFinal RX7 "SnowBalls" "largestSearch" "LSnowBalls$Largest;" ∈ TB := tb_in (t1_in (List.mem_of_getElem? (i := 164) rfl)) rfl
theorem t_166 : Cond.laysFinal RX7 "SnowBalls" "arrivalSearch" "LSnowBalls$Arrival;" ∈ TB := tb_in (t1_in (List.mem_of_getElem? (i := 166) rfl)) rfl
theorem t_168 : Cond.laysFinal RX7 "SnowBalls" "waysSearch" "LSnowBalls$Ways;" ∈ TB := tb_in (t1_in (List.mem_of_getElem? (i := 168) rfl)) rfl
theorem t_170 : Cond.lays RX7 "SnowBalls" "letters" "I" ∈ TB := tb_in (t1_in (List.mem_of_getElem? (i := 170) rfl)) rfl
theorem t_172 : Cond.lays RX7 "SnowBalls" "lawnsRead" "I" ∈ TB := tb_in (t1_in (List.mem_of_getElem? (i := 172) rfl)) rfl
theorem t_174 : Cond.lays RX7 "SnowBalls" "searches" "I" ∈ TB := tb_in (t1_in (List.mem_of_getElem? (i := 174) rfl)) rfl
theorem t_176 : Cond.lays RX7 "SnowBalls" "books" "I" ∈ TB := tb_in (t1_in (List.mem_of_getElem? (i := 176) rfl)) rfl
theorem t_178 : Cond.lays RX7 "SnowBalls" "hasImage" "Z" ∈ TB := tb_in (t1_in (List.mem_of_getElem? (i := 178) rfl)) rfl
theorem t_181 : Cond.methodLink "SnowBallsLaw" 13 yX7_letter ∈ TB := tb_in (t1_in (List.mem_of_getElem? (i := 181) rfl)) rfl
theorem t_182 : Cond.instanceMethod yX7_letter ∈ TB := tb_in (t1_in (List.mem_of_getElem? (i := 182) rfl)) rfl
theorem t_183 : Cond.selects RX7 yX7_letter yX7_letter ∈ TB := tb_in (t1_in (List.mem_of_getElem? (i := 183) rfl)) rfl
theorem t_184 : Cond.code yX7_letter cX7_letter 2 (some .int) ∈ TB := tb_in (t1_in (List.mem_of_getElem? (i := 184) rfl)) rfl
theorem t_185 : Cond.methodLink RX7 47 yX7_isOutside ∈ TB := tb_in (t1_in (List.mem_of_getElem? (i := 185) rfl)) rfl
theorem t_186 : Cond.static yX7_isOutside ∈ TB := tb_in (t1_in (List.mem_of_getElem? (i := 186) rfl)) rfl
theorem t_187 : Cond.code yX7_isOutside cX7_isOutside 3 (some .boolean) ∈ TB := tb_in (t1_in (List.mem_of_getElem? (i := 187) rfl)) rfl
theorem t_188 : Cond.methodLink "SnowBallsLaw" 18 yX7_blank ∈ TB := tb_in (t1_in (List.mem_of_getElem? (i := 188) rfl)) rfl
theorem t_189 : Cond.instanceMethod yX7_blank ∈ TB := tb_in (t1_in (List.mem_of_getElem? (i := 189) rfl)) rfl
theorem t_190 : Cond.selects RX7 yX7_blank yX7_blank ∈ TB := tb_in (t1_in (List.mem_of_getElem? (i := 190) rfl)) rfl
theorem t_191 : Cond.code yX7_blank cX7_blank 2 (some .int) ∈ TB := tb_in (t1_in (List.mem_of_getElem? (i := 191) rfl)) rfl
theorem t_192 : Cond.methodLink "SnowBallsLaw" 23 yX7_fault ∈ TB := tb_in (t1_in (List.mem_of_getElem? (i := 192) rfl)) rfl
theorem t_193 : Cond.instanceMethod yX7_fault ∈ TB := tb_in (t1_in (List.mem_of_getElem? (i := 193) rfl)) rfl
theorem t_194 : Cond.selects RX7 yX7_fault yX7_fault ∈ TB := tb_in (t1_in (List.mem_of_getElem? (i := 194) rfl)) rfl
theorem t_195 : Cond.code yX7_fault cX7_fault 2 (some .int) ∈ TB := tb_in (t1_in (List.mem_of_getElem? (i := 195) rfl)) rfl
theorem t_196 : Cond.methodLink RX7 55 yX7_belongsAt ∈ TB := tb_in (t1_in (List.mem_of_getElem? (i := 196) rfl)) rfl
theorem t_197 : Cond.static yX7_belongsAt ∈ TB := tb_in (t1_in (List.mem_of_getElem? (i := 197) rfl)) rfl
theorem t_198 : Cond.code yX7_belongsAt cX7_belongsAt 2 (some .boolean) ∈ TB := tb_in (t1_in (List.mem_of_getElem? (i := 198) rfl)) rfl
theorem t_199 : Cond.methodLink "SnowBallsLaw" 27 yX7_lawn ∈ TB := tb_in (t1_in (List.mem_of_getElem? (i := 199) rfl)) rfl
theorem t_200 : Cond.instanceMethod yX7_lawn ∈ TB := tb_in (t1_in (List.mem_of_getElem? (i := 200) rfl)) rfl
theorem t_201 : Cond.selects RX7 yX7_lawn yX7_lawn ∈ TB := tb_in (t1_in (List.mem_of_getElem? (i := 201) rfl)) rfl
theorem t_202 : Cond.code yX7_lawn cX7_lawn 2 (some .int) ∈ TB := tb_in (t1_in (List.mem_of_getElem? (i := 202) rfl)) rfl
theorem t_203 : Cond.methodLink RX7 59 yX7_fault ∈ TB := tb_in (t1_in (List.mem_of_getElem? (i := 203) rfl)) rfl
theorem t_204 : Cond.methodLink RX7 63 yX4_clear ∈ TB := tb_in (t1_in (List.mem_of_getElem? (i := 204) rfl)) rfl
theorem t_205 : Cond.instanceMethod yX4_clear ∈ TB := tb_in (t1_in (List.mem_of_getElem? (i := 205) rfl)) rfl
theorem t_206 : Cond.selects RX4 yX4_clear yX4_clear ∈ TB := tb_in (t1_in (List.mem_of_getElem? (i := 206) rfl)) rfl
theorem t_207 : Cond.code yX4_clear cX4_clear 1 none ∈ TB := tb_in (t1_in (List.mem_of_getElem? (i := 207) rfl)) rfl
theorem t_208 : Cond.methodLink RX7 70 yX7_letterOf ∈ TB := tb_in (t1_in (List.mem_of_getElem? (i := 208) rfl)) rfl
theorem t_209 : Cond.static yX7_letterOf ∈ TB := tb_in (t1_in (List.mem_of_getElem? (i := 209) rfl)) rfl
theorem t_210 : Cond.code yX7_letterOf cX7_letterOf 1 (some .int) ∈ TB := tb_in (t1_in (List.mem_of_getElem? (i := 210) rfl)) rfl
theorem t_211 : Cond.methodLink RX7 84 yX4_allDepths ∈ TB := tb_in (t1_in (List.mem_of_getElem? (i := 211) rfl)) rfl
theorem t_212 : Cond.instanceMethod yX4_allDepths ∈ TB := tb_in (t1_in (List.mem_of_getElem? (i := 212) rfl)) rfl
theorem t_213 : Cond.selects RX4 yX4_allDepths yX4_allDepths ∈ TB := tb_in (t1_in (List.mem_of_getElem? (i := 213) rfl)) rfl
theorem t_214 : Cond.code yX4_allDepths cX4_allDepths 6 (some .int) ∈ TB := tb_in (t1_in (List.mem_of_getElem? (i := 214) rfl)) rfl
theorem t_215 : Cond.methodLink "SnowBallsLaw" 31 yX7_place ∈ TB := tb_in (t1_in (List.mem_of_getElem? (i := 215) rfl)) rfl
theorem t_216 : Cond.instanceMethod yX7_place ∈ TB := tb_in (t1_in (List.mem_of_getElem? (i := 216) rfl)) rfl
theorem t_217 : Cond.selects RX7 yX7_place yX7_place ∈ TB := tb_in (t1_in (List.mem_of_getElem? (i := 217) rfl)) rfl
theorem t_218 : Cond.code yX7_place cX7_place 3 (some .int) ∈ TB := tb_in (t1_in (List.mem_of_getElem? (i := 218) rfl)) rfl
theorem t_219 : Cond.methodLink RX7 87 yX7_isPlace ∈ TB := tb_in (t1_in (List.mem_of_getElem? (i := 219) rfl)) rfl
theorem t_220 : Cond.static yX7_isPlace ∈ TB := tb_in (t1_in (List.mem_of_getElem? (i := 220) rfl)) rfl
theorem t_221 : Cond.code yX7_isPlace cX7_isPlace 1 (some .boolean) ∈ TB := tb_in (t1_in (List.mem_of_getElem? (i := 221) rfl)) rfl
theorem t_222 : Cond.methodLink RX7 91 yX7_hasLawn ∈ TB := tb_in (t1_in (List.mem_of_getElem? (i := 222) rfl)) rfl
theorem t_224 : Cond.instanceMethod yX7_hasLawn ∈ TB := tb_in (t1_in (List.mem_of_getElem? (i := 224) rfl)) rfl
theorem t_225 : Cond.code yX7_hasLawn cX7_hasLawn 1 (some .boolean) ∈ TB := tb_in (t1_in (List.mem_of_getElem? (i := 225) rfl)) rfl
theorem t_226 : Cond.methodLink RX7 95 yX4_lowestAt ∈ TB := tb_in (t1_in (List.mem_of_getElem? (i := 226) rfl)) rfl
theorem t_227 : Cond.instanceMethod yX4_lowestAt ∈ TB := tb_in (t1_in (List.mem_of_getElem? (i := 227) rfl)) rfl
theorem t_228 : Cond.selects RX4 yX4_lowestAt yX4_lowestAt ∈ TB := tb_in (t1_in (List.mem_of_getElem? (i := 228) rfl)) rfl
theorem t_229 : Cond.code yX4_lowestAt cX4_lowestAt 3 (some .int) ∈ TB := tb_in (t1_in (List.mem_of_getElem? (i := 229) rfl)) rfl
theorem t_230 : Cond.methodLink RX7 98 yX4_heightAt ∈ TB := tb_in (t1_in (List.mem_of_getElem? (i := 230) rfl)) rfl
theorem t_231 : Cond.instanceMethod yX4_heightAt ∈ TB := tb_in (t1_in (List.mem_of_getElem? (i := 231) rfl)) rfl
theorem t_232 : Cond.selects RX4 yX4_heightAt yX4_heightAt ∈ TB := tb_in (t1_in (List.mem_of_getElem? (i := 232) rfl)) rfl
theorem t_233 : Cond.code yX4_heightAt cX4_heightAt 4 (some .int) ∈ TB := tb_in (t1_in (List.mem_of_getElem? (i := 233) rfl)) rfl
theorem t_235 : Cond.static yX7_rootOf ∈ TB := tb_in (t1_in (List.mem_of_getElem? (i := 235) rfl)) rfl
theorem t_236 : Cond.code yX7_rootOf cX7_rootOf 3 (some .int) ∈ TB := tb_in (t1_in (List.mem_of_getElem? (i := 236) rfl)) rfl
theorem t_237 : Cond.methodLink "SnowBallsLaw" 36 yX7_strength ∈ TB := tb_in (t1_in (List.mem_of_getElem? (i := 237) rfl)) rfl
theorem t_238 : Cond.instanceMethod yX7_strength ∈ TB := tb_in (t1_in (List.mem_of_getElem? (i := 238) rfl)) rfl
theorem t_239 : Cond.selects RX7 yX7_strength yX7_strength ∈ TB := tb_in (t1_in (List.mem_of_getElem? (i := 239) rfl)) rfl
theorem t_240 : Cond.code yX7_strength cX7_strength 3 (some .int) ∈ TB := tb_in (t2_in (List.mem_of_getElem? (i := 0) rfl)) rfl
theorem t_241 : Cond.methodLink "SnowBallsLaw" 40 yX7_ball ∈ TB := tb_in (t2_in (List.mem_of_getElem? (i := 1) rfl)) rfl
theorem t_242 : Cond.instanceMethod yX7_ball ∈ TB := tb_in (t2_in (List.mem_of_getElem? (i := 2) rfl)) rfl
theorem t_243 : Cond.selects RX7 yX7_ball yX7_ball ∈ TB := tb_in (t2_in (List.mem_of_getElem? (i := 3) rfl)) rfl
theorem t_244 : Cond.code yX7_ball cX7_ball 3 (some .int) ∈ TB := tb_in (t2_in (List.mem_of_getElem? (i := 4) rfl)) rfl
theorem t_245 : Cond.methodLink RX7 104 yX7_isKind ∈ TB := tb_in (t2_in (List.mem_of_getElem? (i := 5) rfl)) rfl
theorem t_246 : Cond.static yX7_isKind ∈ TB := tb_in (t2_in (List.mem_of_getElem? (i := 6) rfl)) rfl
theorem t_247 : Cond.code yX7_isKind cX7_isKind 1 (some .boolean) ∈ TB := tb_in (t2_in (List.mem_of_getElem? (i := 7) rfl)) rfl
theorem t_248 : Cond.fieldLink RX7 117 "SnowBalls" "KINDS" "[LSnowBalls$Kind;" ∈ TB := tb_in (t2_in (List.mem_of_getElem? (i := 8) rfl)) rfl
theorem t_250 : Cond.methodLink RX7 107 yX4_isFree ∈ TB := tb_in (t2_in (List.mem_of_getElem? (i := 10) rfl)) rfl
theorem t_251 : Cond.instanceMethod yX4_isFree ∈ TB := tb_in (t2_in (List.mem_of_getElem? (i := 11) rfl)) rfl
theorem t_252 : Cond.selects RX4 yX4_isFree yX4_isFree ∈ TB := tb_in (t2_in (List.mem_of_getElem? (i := 12) rfl)) rfl
theorem t_253 : Cond.code yX4_isFree cX4_isFree 2 (some .boolean) ∈ TB := tb_in (t2_in (List.mem_of_getElem? (i := 13) rfl)) rfl
theorem t_254 : Cond.methodLink RX4 56 yX4_manyAt ∈ TB := tb_in (t2_in (List.mem_of_getElem? (i := 14) rfl)) rfl
theorem t_255 : Cond.instanceMethod yX4_manyAt ∈ TB := tb_in (t2_in (List.mem_of_getElem? (i := 15) rfl)) rfl
theorem t_256 : Cond.selects RX4 yX4_manyAt yX4_manyAt ∈ TB := tb_in (t2_in (List.mem_of_getElem? (i := 16) rfl)) rfl
theorem t_257 : Cond.code yX4_manyAt cX4_manyAt 4 (some .int) ∈ TB := tb_in (t2_in (List.mem_of_getElem? (i := 17) rfl)) rfl
theorem t_258 : Cond.methodLink RX7 121 yX1_begin ∈ TB := tb_in (t2_in (List.mem_of_getElem? (i := 18) rfl)) rfl
theorem t_259 : Cond.instanceMethod yX1_begin ∈ TB := tb_in (t2_in (List.mem_of_getElem? (i := 19) rfl)) rfl
theorem t_260 : Cond.selects RX1 yX1_begin yX1_begin ∈ TB := tb_in (t2_in (List.mem_of_getElem? (i := 20) rfl)) rfl
theorem t_261 : Cond.code yX1_begin cX1_begin 3 none ∈ TB := tb_in (t2_in (List.mem_of_getElem? (i := 21) rfl)) rfl
theorem t_262 : Cond.methodLink "SnowBallsLaw" 44 yX7_about ∈ TB := tb_in (t2_in (List.mem_of_getElem? (i := 22) rfl)) rfl
theorem t_263 : Cond.instanceMethod yX7_about ∈ TB := tb_in (t2_in (List.mem_of_getElem? (i := 23) rfl)) rfl
theorem t_264 : Cond.selects RX7 yX7_about yX7_about ∈ TB := tb_in (t2_in (List.mem_of_getElem? (i := 24) rfl)) rfl
theorem t_265 : Cond.code yX7_about cX7_about 4 (some .int) ∈ TB := tb_in (t2_in (List.mem_of_getElem? (i := 25) rfl)) rfl
theorem t_266 : Cond.methodLink RX7 127 yX7_isBall ∈ TB := tb_in (t2_in (List.mem_of_getElem? (i := 26) rfl)) rfl
theorem t_268 : Cond.instanceMethod yX7_isBall ∈ TB := tb_in (t2_in (List.mem_of_getElem? (i := 28) rfl)) rfl
theorem t_269 : Cond.code yX7_isBall cX7_isBall 2 (some .boolean) ∈ TB := tb_in (t2_in (List.mem_of_getElem? (i := 29) rfl)) rfl
theorem t_270 : Cond.methodLink RX7 148 yX1_weight ∈ TB := tb_in (t2_in (List.mem_of_getElem? (i := 30) rfl)) rfl
theorem t_271 : Cond.instanceMethod yX1_weight ∈ TB := tb_in (t2_in (List.mem_of_getElem? (i := 31) rfl)) rfl
theorem t_272 : Cond.selects RX1 yX1_weight yX1_weight ∈ TB := tb_in (t2_in (List.mem_of_getElem? (i := 32) rfl)) rfl
theorem t_273 : Cond.code yX1_weight cX1_weight 1 (some .int) ∈ TB := tb_in (t2_in (List.mem_of_getElem? (i := 33) rfl)) rfl
theorem t_274 : Cond.methodLink RX1 33 yX2_weight ∈ TB := tb_in (t2_in (List.mem_of_getElem? (i := 34) rfl)) rfl
theorem t_275 : Cond.instanceMethod yX2_weight ∈ TB := tb_in (t2_in (List.mem_of_getElem? (i := 35) rfl)) rfl
theorem t_276 : Cond.selects RX2 yX2_weight yX2_weight ∈ TB := tb_in (t2_in (List.mem_of_getElem? (i := 36) rfl)) rfl
theorem t_277 : Cond.code yX2_weight cX2_weight 2 (some .int) ∈ TB := tb_in (t2_in (List.mem_of_getElem? (i := 37) rfl)) rfl
theorem t_278 : Cond.methodLink RX7 151 yX2_breadth ∈ TB := tb_in (t2_in (List.mem_of_getElem? (i := 38) rfl)) rfl
theorem t_279 : Cond.instanceMethod yX2_breadth ∈ TB := tb_in (t2_in (List.mem_of_getElem? (i := 39) rfl)) rfl
theorem t_280 : Cond.selects RX2 yX2_breadth yX2_breadth ∈ TB := tb_in (t2_in (List.mem_of_getElem? (i := 40) rfl)) rfl
theorem t_281 : Cond.code yX2_breadth cX2_breadth 2 (some .int) ∈ TB := tb_in (t2_in (List.mem_of_getElem? (i := 41) rfl)) rfl
theorem t_282 : Cond.methodLink "SnowBallsLaw" 48 yX7_as ∈ TB := tb_in (t2_in (List.mem_of_getElem? (i := 42) rfl)) rfl
theorem t_283 : Cond.instanceMethod yX7_as ∈ TB := tb_in (t2_in (List.mem_of_getElem? (i := 43) rfl)) rfl
theorem t_284 : Cond.selects RX7 yX7_as yX7_as ∈ TB := tb_in (t2_in (List.mem_of_getElem? (i := 44) rfl)) rfl
theorem t_285 : Cond.code yX7_as cX7_as 3 (some .int) ∈ TB := tb_in (t2_in (List.mem_of_getElem? (i := 45) rfl)) rfl
theorem t_286 : Cond.methodLink RX7 157 yX2_isA ∈ TB := tb_in (t2_in (List.mem_of_getElem? (i := 46) rfl)) rfl
theorem t_287 : Cond.instanceMethod yX2_isA ∈ TB := tb_in (t2_in (List.mem_of_getElem? (i := 47) rfl)) rfl
theorem t_288 : Cond.selects RX2 yX2_isA yX2_isA ∈ TB := tb_in (t2_in (List.mem_of_getElem? (i := 48) rfl)) rfl
theorem t_289 : Cond.code yX2_isA cX2_isA 2 (some .boolean) ∈ TB := tb_in (t2_in (List.mem_of_getElem? (i := 49) rfl)) rfl
theorem t_290 : Cond.fieldLink RX2 3 "SnowBalls$Kind" "BALL" "LSnowBalls$Kind;" ∈ TB := tb_in (t2_in (List.mem_of_getElem? (i := 50) rfl)) rfl
theorem t_291 : Cond.fieldLink RX2 16 "SnowBalls$Kind" "SLUSH" "LSnowBalls$Kind;" ∈ TB := tb_in (t2_in (List.mem_of_getElem? (i := 51) rfl)) rfl
theorem t_293 : Cond.fieldLink RX2 13 "SnowBalls$Kind" "WET" "LSnowBalls$Kind;" ∈ TB := tb_in (t2_in (List.mem_of_getElem? (i := 53) rfl)) rfl
theorem t_295 : Cond.methodLink "SnowBallsLaw" 52 yX7_may ∈ TB := tb_in (t2_in (List.mem_of_getElem? (i := 55) rfl)) rfl
theorem t_296 : Cond.instanceMethod yX7_may ∈ TB := tb_in (t2_in (List.mem_of_getElem? (i := 56) rfl)) rfl
theorem t_297 : Cond.selects RX7 yX7_may yX7_may ∈ TB := tb_in (t2_in (List.mem_of_getElem? (i := 57) rfl)) rfl
theorem t_298 : Cond.code yX7_may cX7_may 3 (some .int) ∈ TB := tb_in (t2_in (List.mem_of_getElem? (i := 58) rfl)) rfl
theorem t_299 : Cond.methodLink RX7 161 yX7_isSide ∈ TB := tb_in (t2_in (List.mem_of_getElem? (i := 59) rfl)) rfl
theorem t_300 : Cond.static yX7_isSide ∈ TB := tb_in (t2_in (List.mem_of_getElem? (i := 60) rfl)) rfl
theorem t_301 : Cond.code yX7_isSide cX7_isSide 1 (some .boolean) ∈ TB := tb_in (t2_in (List.mem_of_getElem? (i := 61) rfl)) rfl
theorem t_302 : Cond.methodLink RX7 164 yX4_canRoll ∈ TB := tb_in (t2_in (List.mem_of_getElem? (i := 62) rfl)) rfl
theorem t_303 : Cond.instanceMethod yX4_canRoll ∈ TB := tb_in (t2_in (List.mem_of_getElem? (i := 63) rfl)) rfl
theorem t_304 : Cond.selects RX4 yX4_canRoll yX4_canRoll ∈ TB := tb_in (t2_in (List.mem_of_getElem? (i := 64) rfl)) rfl
theorem t_305 : Cond.code yX4_canRoll cX4_canRoll 5 (some .boolean) ∈ TB := tb_in (t2_in (List.mem_of_getElem? (i := 65) rfl)) rfl
theorem t_306 : Cond.methodLink RX4 63 yX4_standsAlone ∈ TB := tb_in (t2_in (List.mem_of_getElem? (i := 66) rfl)) rfl
theorem t_307 : Cond.instanceMethod yX4_standsAlone ∈ TB := tb_in (t2_in (List.mem_of_getElem? (i := 67) rfl)) rfl
theorem t_308 : Cond.selects RX4 yX4_standsAlone yX4_standsAlone ∈ TB := tb_in (t2_in (List.mem_of_getElem? (i := 68) rfl)) rfl
theorem t_309 : Cond.code yX4_standsAlone cX4_standsAlone 3 (some .boolean) ∈ TB := tb_in (t2_in (List.mem_of_getElem? (i := 69) rfl)) rfl
theorem t_310 : Cond.methodLink RX4 42 yX1_isGone ∈ TB := tb_in (t2_in (List.mem_of_getElem? (i := 70) rfl)) rfl
theorem t_311 : Cond.instanceMethod yX1_isGone ∈ TB := tb_in (t2_in (List.mem_of_getElem? (i := 71) rfl)) rfl
theorem t_312 : Cond.selects RX1 yX1_isGone yX1_isGone ∈ TB := tb_in (t2_in (List.mem_of_getElem? (i := 72) rfl)) rfl
theorem t_313 : Cond.code yX1_isGone cX1_isGone 1 (some .boolean) ∈ TB := tb_in (t2_in (List.mem_of_getElem? (i := 73) rfl)) rfl
theorem t_314 : Cond.methodLink RX4 59 yX4_isTopped ∈ TB := tb_in (t2_in (List.mem_of_getElem? (i := 74) rfl)) rfl
theorem t_315 : Cond.instanceMethod yX4_isTopped ∈ TB := tb_in (t2_in (List.mem_of_getElem? (i := 75) rfl)) rfl
theorem t_316 : Cond.selects RX4 yX4_isTopped yX4_isTopped ∈ TB := tb_in (t2_in (List.mem_of_getElem? (i := 76) rfl)) rfl
theorem t_317 : Cond.code yX4_isTopped cX4_isTopped 3 (some .boolean) ∈ TB := tb_in (t2_in (List.mem_of_getElem? (i := 77) rfl)) rfl
theorem t_318 : Cond.methodLink RX4 66 yX1_weight ∈ TB := tb_in (t2_in (List.mem_of_getElem? (i := 78) rfl)) rfl
theorem t_319 : Cond.methodLink RX4 70 yX1_keepsTo ∈ TB := tb_in (t2_in (List.mem_of_getElem? (i := 79) rfl)) rfl
theorem t_320 : Cond.instanceMethod yX1_keepsTo ∈ TB := tb_in (t2_in (List.mem_of_getElem? (i := 80) rfl)) rfl
theorem t_321 : Cond.selects RX1 yX1_keepsTo yX1_keepsTo ∈ TB := tb_in (t2_in (List.mem_of_getElem? (i := 81) rfl)) rfl
theorem t_322 : Cond.code yX1_keepsTo cX1_keepsTo 2 (some .boolean) ∈ TB := tb_in (t2_in (List.mem_of_getElem? (i := 82) rfl)) rfl
theorem t_324 : Cond.static yX7_axisOf ∈ TB := tb_in (t2_in (List.mem_of_getElem? (i := 84) rfl)) rfl
theorem t_325 : Cond.code yX7_axisOf cX7_axisOf 1 (some .int) ∈ TB := tb_in (t2_in (List.mem_of_getElem? (i := 85) rfl)) rfl
theorem t_327 : Cond.static yX7_beside ∈ TB := tb_in (t2_in (List.mem_of_getElem? (i := 87) rfl)) rfl
theorem t_328 : Cond.code yX7_beside cX7_beside 3 (some .int) ∈ TB := tb_in (t2_in (List.mem_of_getElem? (i := 88) rfl)) rfl
theorem t_329 : Cond.methodLink RX4 77 yX4_isFree ∈ TB := tb_in (t2_in (List.mem_of_getElem? (i := 89) rfl)) rfl
theorem t_330 : Cond.methodLink "SnowBallsLaw" 56 yX7_roll ∈ TB := tb_in (t2_in (List.mem_of_getElem? (i := 90) rfl)) rfl
theorem t_331 : Cond.instanceMethod yX7_roll ∈ TB := tb_in (t2_in (List.mem_of_getElem? (i := 91) rfl)) rfl
theorem t_332 : Cond.selects RX7 yX7_roll yX7_roll ∈ TB := tb_in (t2_in (List.mem_of_getElem? (i := 92) rfl)) rfl
theorem t_333 : Cond.code yX7_roll cX7_roll 3 (some .int) ∈ TB := tb_in (t2_in (List.mem_of_getElem? (i := 93) rfl)) rfl
theorem t_334 : Cond.methodLink RX7 168 yX4_push ∈ TB := tb_in (t2_in (List.mem_of_getElem? (i := 94) rfl)) rfl
theorem t_335 : Cond.instanceMethod yX4_push ∈ TB := tb_in (t2_in (List.mem_of_getElem? (i := 95) rfl)) rfl
theorem t_336 : Cond.selects RX4 yX4_push yX4_push ∈ TB := tb_in (t2_in (List.mem_of_getElem? (i := 96) rfl)) rfl
theorem t_337 : Cond.code yX4_push cX4_push 6 (some .int) ∈ TB := tb_in (t2_in (List.mem_of_getElem? (i := 97) rfl)) rfl
theorem t_338 : Cond.methodLink RX4 84 yX2_takes ∈ TB := tb_in (t2_in (List.mem_of_getElem? (i := 98) rfl)) rfl
theorem t_339 : Cond.instanceMethod yX2_takes ∈ TB := tb_in (t2_in (List.mem_of_getElem? (i := 99) rfl)) rfl
theorem t_340 : Cond.selects RX2 yX2_takes yX2_takes ∈ TB := tb_in (t2_in (List.mem_of_getElem? (i := 100) rfl)) rfl
theorem t_341 : Cond.code yX2_takes cX2_takes 5 (some .int) ∈ TB := tb_in (t2_in (List.mem_of_getElem? (i := 101) rfl)) rfl
theorem t_342 : Cond.methodLink RX2 57 yX2_breadth ∈ TB := tb_in (t2_in (List.mem_of_getElem? (i := 102) rfl)) rfl
theorem t_343 : Cond.methodLink RX2 61 Lib.Math.min.name ∈ TB := tb_in (t2_in (List.mem_of_getElem? (i := 103) rfl)) rfl
theorem t_344 : Cond.static Lib.Math.min.name ∈ TB := tb_in (t2_in (List.mem_of_getElem? (i := 104) rfl)) rfl
theorem t_345 : Cond.code Lib.Math.min.name Lib.Math.min.code 2 (some .int) ∈ TB := tb_in (t2_in (List.mem_of_getElem? (i := 105) rfl)) rfl
theorem t_346 : Cond.methodLink RX4 90 yX2_sticks ∈ TB := tb_in (t2_in (List.mem_of_getElem? (i := 106) rfl)) rfl
theorem t_347 : Cond.instanceMethod yX2_sticks ∈ TB := tb_in (t2_in (List.mem_of_getElem? (i := 107) rfl)) rfl
theorem t_348 : Cond.selects RX2 yX2_sticks yX2_sticks ∈ TB := tb_in (t2_in (List.mem_of_getElem? (i := 108) rfl)) rfl
theorem t_349 : Cond.code yX2_sticks cX2_sticks 1 (some .boolean) ∈ TB := tb_in (t2_in (List.mem_of_getElem? (i := 109) rfl)) rfl
theorem t_350 : Cond.fieldLink RX2 7 "SnowBalls$Kind" "DRUM" "LSnowBalls$Kind;" ∈ TB := tb_in (t2_in (List.mem_of_getElem? (i := 110) rfl)) rfl
theorem t_353 : Cond.methodLink RX4 99 yX2_crumbles ∈ TB := tb_in (t2_in (List.mem_of_getElem? (i := 113) rfl)) rfl
theorem t_354 : Cond.instanceMethod yX2_crumbles ∈ TB := tb_in (t2_in (List.mem_of_getElem? (i := 114) rfl)) rfl
theorem t_355 : Cond.selects RX2 yX2_crumbles yX2_crumbles ∈ TB := tb_in (t2_in (List.mem_of_getElem? (i := 115) rfl)) rfl
theorem t_356 : Cond.code yX2_crumbles cX2_crumbles 2 (some .boolean) ∈ TB := tb_in (t2_in (List.mem_of_getElem? (i := 116) rfl)) rfl
theorem t_357 : Cond.fieldLink RX2 10 "SnowBalls$Kind" "POWDER" "LSnowBalls$Kind;" ∈ TB := tb_in (t2_in (List.mem_of_getElem? (i := 117) rfl)) rfl
theorem t_359 : Cond.methodLink RX4 102 yX1_leave ∈ TB := tb_in (t2_in (List.mem_of_getElem? (i := 119) rfl)) rfl
theorem t_360 : Cond.instanceMethod yX1_leave ∈ TB := tb_in (t2_in (List.mem_of_getElem? (i := 120) rfl)) rfl
theorem t_361 : Cond.selects RX1 yX1_leave yX1_leave ∈ TB := tb_in (t2_in (List.mem_of_getElem? (i := 121) rfl)) rfl
theorem t_362 : Cond.code yX1_leave cX1_leave 1 none ∈ TB := tb_in (t2_in (List.mem_of_getElem? (i := 122) rfl)) rfl
theorem t_363 : Cond.methodLink "SnowBallsLaw" 60 yX7_lift ∈ TB := tb_in (t2_in (List.mem_of_getElem? (i := 123) rfl)) rfl
theorem t_364 : Cond.instanceMethod yX7_lift ∈ TB := tb_in (t2_in (List.mem_of_getElem? (i := 124) rfl)) rfl
theorem t_365 : Cond.selects RX7 yX7_lift yX7_lift ∈ TB := tb_in (t2_in (List.mem_of_getElem? (i := 125) rfl)) rfl
theorem t_366 : Cond.code yX7_lift cX7_lift 3 (some .int) ∈ TB := tb_in (t2_in (List.mem_of_getElem? (i := 126) rfl)) rfl
theorem t_367 : Cond.methodLink RX7 172 yX4_canLift ∈ TB := tb_in (t2_in (List.mem_of_getElem? (i := 127) rfl)) rfl
theorem t_368 : Cond.instanceMethod yX4_canLift ∈ TB := tb_in (t2_in (List.mem_of_getElem? (i := 128) rfl)) rfl
theorem t_369 : Cond.selects RX4 yX4_canLift yX4_canLift ∈ TB := tb_in (t2_in (List.mem_of_getElem? (i := 129) rfl)) rfl
theorem t_370 : Cond.code yX4_canLift cX4_canLift 5 (some .boolean) ∈ TB := tb_in (t2_in (List.mem_of_getElem? (i := 130) rfl)) rfl
theorem t_372 : Cond.static yX7_areBeside ∈ TB := tb_in (t2_in (List.mem_of_getElem? (i := 132) rfl)) rfl
theorem t_373 : Cond.code yX7_areBeside cX7_areBeside 3 (some .boolean) ∈ TB := tb_in (t2_in (List.mem_of_getElem? (i := 133) rfl)) rfl
theorem t_374 : Cond.methodLink RX7 279 yX7_beside ∈ TB := tb_in (t2_in (List.mem_of_getElem? (i := 134) rfl)) rfl
theorem t_375 : Cond.methodLink RX7 175 yX4_raise ∈ TB := tb_in (t2_in (List.mem_of_getElem? (i := 135) rfl)) rfl
theorem t_376 : Cond.instanceMethod yX4_raise ∈ TB := tb_in (t2_in (List.mem_of_getElem? (i := 136) rfl)) rfl
theorem t_377 : Cond.selects RX4 yX4_raise yX4_raise ∈ TB := tb_in (t2_in (List.mem_of_getElem? (i := 137) rfl)) rfl
theorem t_378 : Cond.code yX4_raise cX4_raise 3 (some .int) ∈ TB := tb_in (t2_in (List.mem_of_getElem? (i := 138) rfl)) rfl
theorem t_379 : Cond.methodLink RX4 109 yX4_heightAt ∈ TB := tb_in (t2_in (List.mem_of_getElem? (i := 139) rfl)) rfl
theorem t_380 : Cond.methodLink "SnowBallsLaw" 64 yX7_day ∈ TB := tb_in (t2_in (List.mem_of_getElem? (i := 140) rfl)) rfl
theorem t_381 : Cond.instanceMethod yX7_day ∈ TB := tb_in (t2_in (List.mem_of_getElem? (i := 141) rfl)) rfl
theorem t_382 : Cond.selects RX7 yX7_day yX7_day ∈ TB := tb_in (t2_in (List.mem_of_getElem? (i := 142) rfl)) rfl
theorem t_383 : Cond.code yX7_day cX7_day 2 (some .int) ∈ TB := tb_in (t2_in (List.mem_of_getElem? (i := 143) rfl)) rfl
theorem t_384 : Cond.methodLink RX7 178 yX4_melt ∈ TB := tb_in (t2_in (List.mem_of_getElem? (i := 144) rfl)) rfl
theorem t_385 : Cond.instanceMethod yX4_melt ∈ TB := tb_in (t2_in (List.mem_of_getElem? (i := 145) rfl)) rfl
theorem t_386 : Cond.selects RX4 yX4_melt yX4_melt ∈ TB := tb_in (t2_in (List.mem_of_getElem? (i := 146) rfl)) rfl
theorem t_387 : Cond.code yX4_melt cX4_melt 6 (some .int) ∈ TB := tb_in (t2_in (List.mem_of_getElem? (i := 147) rfl)) rfl
theorem t_388 : Cond.methodLink RX4 112 yX2_melts ∈ TB := tb_in (t2_in (List.mem_of_getElem? (i := 148) rfl)) rfl
theorem t_389 : Cond.instanceMethod yX2_melts ∈ TB := tb_in (t2_in (List.mem_of_getElem? (i := 149) rfl)) rfl
theorem t_390 : Cond.selects RX2 yX2_melts yX2_melts ∈ TB := tb_in (t2_in (List.mem_of_getElem? (i := 150) rfl)) rfl
theorem t_391 : Cond.code yX2_melts cX2_melts 2 (some .int) ∈ TB := tb_in (t2_in (List.mem_of_getElem? (i := 151) rfl)) rfl
theorem t_392 : Cond.methodLink RX4 115 yX4_lower ∈ TB := tb_in (t2_in (List.mem_of_getElem? (i := 152) rfl)) rfl
theorem t_394 : Cond.instanceMethod yX4_lower ∈ TB := tb_in (t2_in (List.mem_of_getElem? (i := 154) rfl)) rfl
theorem t_395 : Cond.code yX4_lower cX4_lower 4 none ∈ TB := tb_in (t2_in (List.mem_of_getElem? (i := 155) rfl)) rfl
theorem t_396 : Cond.methodLink "SnowBallsLaw" 68 yX7_largest ∈ TB := tb_in (t2_in (List.mem_of_getElem? (i := 156) rfl)) rfl
theorem t_397 : Cond.instanceMethod yX7_largest ∈ TB := tb_in (t2_in (List.mem_of_getElem? (i := 157) rfl)) rfl
theorem t_398 : Cond.selects RX7 yX7_largest yX7_largest ∈ TB := tb_in (t2_in (List.mem_of_getElem? (i := 158) rfl)) rfl
theorem t_399 : Cond.code yX7_largest cX7_largest 4 (some .int) ∈ TB := tb_in (t2_in (List.mem_of_getElem? (i := 159) rfl)) rfl
theorem t_400 : Cond.methodLink RX7 181 yX7_maySearch ∈ TB := tb_in (t2_in (List.mem_of_getElem? (i := 160) rfl)) rfl
theorem t_402 : Cond.instanceMethod yX7_maySearch ∈ TB := tb_in (t2_in (List.mem_of_getElem? (i := 162) rfl)) rfl
theorem t_403 : Cond.code yX7_maySearch cX7_maySearch 2 (some .boolean) ∈ TB := tb_in (t2_in (List.mem_of_getElem? (i := 163) rfl)) rfl
theorem t_404 : Cond.methodLink RX7 276 yX1_isGone ∈ TB := tb_in (t2_in (List.mem_of_getElem? (i := 164) rfl)) rfl
theorem t_405 : Cond.methodLink RX7 187 yX3_begin ∈ TB := tb_in (t2_in (List.mem_of_getElem? (i := 165) rfl)) rfl
theorem t_406 : Cond.instanceMethod yX3_begin ∈ TB := tb_in (t2_in (List.mem_of_getElem? (i := 166) rfl)) rfl
theorem t_407 : Cond.selects RX3 yX3_begin yX3_begin ∈ TB := tb_in (t2_in (List.mem_of_getElem? (i := 167) rfl)) rfl
theorem t_408 : Cond.code yX3_begin cX3_begin 1 none ∈ TB := tb_in (t2_in (List.mem_of_getElem? (i := 168) rfl)) rfl
theorem t_409 : Cond.methodLink RX7 189 yX4_copyFrom ∈ TB := tb_in (t2_in (List.mem_of_getElem? (i := 169) rfl)) rfl
theorem t_410 : Cond.instanceMethod yX4_copyFrom ∈ TB := tb_in (t2_in (List.mem_of_getElem? (i := 170) rfl)) rfl
theorem t_411 : Cond.selects RX4 yX4_copyFrom yX4_copyFrom ∈ TB := tb_in (t2_in (List.mem_of_getElem? (i := 171) rfl)) rfl
theorem t_412 : Cond.code yX4_copyFrom cX4_copyFrom 3 none ∈ TB := tb_in (t2_in (List.mem_of_getElem? (i := 172) rfl)) rfl
theorem t_413 : Cond.methodLink RX4 32 yX1_copyFrom ∈ TB := tb_in (t2_in (List.mem_of_getElem? (i := 173) rfl)) rfl
theorem t_414 : Cond.instanceMethod yX1_copyFrom ∈ TB := tb_in (t2_in (List.mem_of_getElem? (i := 174) rfl)) rfl
theorem t_415 : Cond.selects RX1 yX1_copyFrom yX1_copyFrom ∈ TB := tb_in (t2_in (List.mem_of_getElem? (i := 175) rfl)) rfl
theorem t_416 : Cond.code yX1_copyFrom cX1_copyFrom 2 none ∈ TB := tb_in (t2_in (List.mem_of_getElem? (i := 176) rfl)) rfl
theorem t_417 : Cond.methodLink RX7 193 yX7_explore ∈ TB := tb_in (t2_in (List.mem_of_getElem? (i := 177) rfl)) rfl
theorem t_418 : Cond.static yX7_explore ∈ TB := tb_in (t2_in (List.mem_of_getElem? (i := 178) rfl)) rfl
theorem t_419 : Cond.code yX7_explore cX7_explore 13 none ∈ TB := tb_in (t2_in (List.mem_of_getElem? (i := 179) rfl)) rfl
theorem t_420 : Cond.methodLink RX7 290 ⟨"SnowBalls$Search", "meet", "(LSnowBalls$Ball;II)V"⟩ ∈ TB := tb_in (t2_in (List.mem_of_getElem? (i := 180) rfl)) rfl
theorem t_422 : Cond.sameMethod "SnowBalls$Search" "SnowBalls$Search" "meet" "(LSnowBalls$Ball;II)V" ∈ TB := tb_in (t2_in (List.mem_of_getElem? (i := 182) rfl)) rfl
theorem t_423 : Cond.selects RX0 ⟨"SnowBalls$Search", "meet", "(LSnowBalls$Ball;II)V"⟩ yX0_meet ∈ TB := tb_in (t2_in (List.mem_of_getElem? (i := 183) rfl)) rfl
theorem t_424 : Cond.instanceMethod yX0_meet ∈ TB := tb_in (t2_in (List.mem_of_getElem? (i := 184) rfl)) rfl
theorem t_425 : Cond.code yX0_meet cX0_meet 4 none ∈ TB := tb_in (t2_in (List.mem_of_getElem? (i := 185) rfl)) rfl
theorem t_426 : Cond.selects RX3 ⟨"SnowBalls$Search", "meet", "(LSnowBalls$Ball;II)V"⟩ yX3_meet ∈ TB := tb_in (t2_in (List.mem_of_getElem? (i := 186) rfl)) rfl
theorem t_427 : Cond.instanceMethod yX3_meet ∈ TB := tb_in (t2_in (List.mem_of_getElem? (i := 187) rfl)) rfl
theorem t_428 : Cond.code yX3_meet cX3_meet 4 none ∈ TB := tb_in (t2_in (List.mem_of_getElem? (i := 188) rfl)) rfl
theorem t_429 : Cond.selects RX6 ⟨"SnowBalls$Search", "meet", "(LSnowBalls$Ball;II)V"⟩ yX6_meet ∈ TB := tb_in (t2_in (List.mem_of_getElem? (i := 189) rfl)) rfl
theorem t_430 : Cond.instanceMethod yX6_meet ∈ TB := tb_in (t2_in (List.mem_of_getElem? (i := 190) rfl)) rfl
theorem t_431 : Cond.code yX6_meet cX6_meet 4 none ∈ TB := tb_in (t2_in (List.mem_of_getElem? (i := 191) rfl)) rfl
theorem t_432 : Cond.methodLink "SnowBallsLaw" 73 yX7_comes ∈ TB := tb_in (t2_in (List.mem_of_getElem? (i := 192) rfl)) rfl
theorem t_433 : Cond.instanceMethod yX7_comes ∈ TB := tb_in (t2_in (List.mem_of_getElem? (i := 193) rfl)) rfl
theorem t_434 : Cond.selects RX7 yX7_comes yX7_comes ∈ TB := tb_in (t2_in (List.mem_of_getElem? (i := 194) rfl)) rfl
theorem t_435 : Cond.code yX7_comes cX7_comes 3 (some .int) ∈ TB := tb_in (t2_in (List.mem_of_getElem? (i := 195) rfl)) rfl
theorem t_436 : Cond.methodLink RX7 201 yX0_begin ∈ TB := tb_in (t2_in (List.mem_of_getElem? (i := 196) rfl)) rfl
theorem t_437 : Cond.instanceMethod yX0_begin ∈ TB := tb_in (t2_in (List.mem_of_getElem? (i := 197) rfl)) rfl
theorem t_438 : Cond.selects RX0 yX0_begin yX0_begin ∈ TB := tb_in (t2_in (List.mem_of_getElem? (i := 198) rfl)) rfl
theorem t_439 : Cond.code yX0_begin cX0_begin 2 none ∈ TB := tb_in (t2_in (List.mem_of_getElem? (i := 199) rfl)) rfl
theorem t_440 : Cond.methodLink "SnowBallsLaw" 77 yX7_highest ∈ TB := tb_in (t2_in (List.mem_of_getElem? (i := 200) rfl)) rfl
theorem t_441 : Cond.instanceMethod yX7_highest ∈ TB := tb_in (t2_in (List.mem_of_getElem? (i := 201) rfl)) rfl
theorem t_442 : Cond.selects RX7 yX7_highest yX7_highest ∈ TB := tb_in (t2_in (List.mem_of_getElem? (i := 202) rfl)) rfl
theorem t_443 : Cond.code yX7_highest cX7_highest 3 (some .int) ∈ TB := tb_in (t2_in (List.mem_of_getElem? (i := 203) rfl)) rfl
theorem t_444 : Cond.methodLink RX7 207 yX4_highestThree ∈ TB := tb_in (t2_in (List.mem_of_getElem? (i := 204) rfl)) rfl
theorem t_445 : Cond.instanceMethod yX4_highestThree ∈ TB := tb_in (t2_in (List.mem_of_getElem? (i := 205) rfl)) rfl
theorem t_446 : Cond.selects RX4 yX4_highestThree yX4_highestThree ∈ TB := tb_in (t2_in (List.mem_of_getElem? (i := 206) rfl)) rfl
theorem t_447 : Cond.code yX4_highestThree cX4_highestThree 5 (some .int) ∈ TB := tb_in (t2_in (List.mem_of_getElem? (i := 207) rfl)) rfl
theorem t_448 : Cond.methodLink RX4 119 yJ6_bitCount_0f7a4 ∈ TB := tb_in (t2_in (List.mem_of_getElem? (i := 208) rfl)) rfl
theorem t_449 : Cond.static yJ6_bitCount_0f7a4 ∈ TB := tb_in (t2_in (List.mem_of_getElem? (i := 209) rfl)) rfl
theorem t_450 : Cond.code yJ6_bitCount_0f7a4 cJ6_bitCount_0f7a4 1 (some .int) ∈ TB := tb_in (t2_in (List.mem_of_getElem? (i := 210) rfl)) rfl
theorem t_451 : Cond.constant RJ6 265 (1431655765) ∈ TB := tb_in (t2_in (List.mem_of_getElem? (i := 211) rfl)) rfl
theorem t_452 : Cond.constant RJ6 266 (858993459) ∈ TB := tb_in (t2_in (List.mem_of_getElem? (i := 212) rfl)) rfl
theorem t_453 : Cond.constant RJ6 267 (252645135) ∈ TB := tb_in (t2_in (List.mem_of_getElem? (i := 213) rfl)) rfl
theorem t_454 : Cond.methodLink RX4 124 yX4_couldStack ∈ TB := tb_in (t2_in (List.mem_of_getElem? (i := 214) rfl)) rfl
theorem t_456 : Cond.instanceMethod yX4_couldStack ∈ TB := tb_in (t2_in (List.mem_of_getElem? (i := 216) rfl)) rfl
theorem t_457 : Cond.code yX4_couldStack cX4_couldStack 3 (some .boolean) ∈ TB := tb_in (t2_in (List.mem_of_getElem? (i := 217) rfl)) rfl
theorem t_458 : Cond.methodLink RX4 130 yX4_isIn ∈ TB := tb_in (t2_in (List.mem_of_getElem? (i := 218) rfl)) rfl
theorem t_459 : Cond.static yX4_isIn ∈ TB := tb_in (t2_in (List.mem_of_getElem? (i := 219) rfl)) rfl
theorem t_460 : Cond.code yX4_isIn cX4_isIn 2 (some .boolean) ∈ TB := tb_in (t2_in (List.mem_of_getElem? (i := 220) rfl)) rfl
theorem t_461 : Cond.methodLink RX4 133 yX4_couldJoin ∈ TB := tb_in (t2_in (List.mem_of_getElem? (i := 221) rfl)) rfl
theorem t_463 : Cond.instanceMethod yX4_couldJoin ∈ TB := tb_in (t2_in (List.mem_of_getElem? (i := 223) rfl)) rfl
theorem t_464 : Cond.code yX4_couldJoin cX4_couldJoin 5 (some .boolean) ∈ TB := tb_in (t2_in (List.mem_of_getElem? (i := 224) rfl)) rfl
theorem t_465 : Cond.methodLink RX4 127 yX4_heightOfAll ∈ TB := tb_in (t2_in (List.mem_of_getElem? (i := 225) rfl)) rfl
theorem t_466 : Cond.instanceMethod yX4_heightOfAll ∈ TB := tb_in (t2_in (List.mem_of_getElem? (i := 226) rfl)) rfl
theorem t_467 : Cond.selects RX4 yX4_heightOfAll yX4_heightOfAll ∈ TB := tb_in (t2_in (List.mem_of_getElem? (i := 227) rfl)) rfl
theorem t_468 : Cond.code yX4_heightOfAll cX4_heightOfAll 4 (some .int) ∈ TB := tb_in (t2_in (List.mem_of_getElem? (i := 228) rfl)) rfl
theorem t_469 : Cond.methodLink RX7 210 yX4_heightOfAll ∈ TB := tb_in (t2_in (List.mem_of_getElem? (i := 229) rfl)) rfl
theorem t_470 : Cond.methodLink "SnowBallsLaw" 81 yX7_lasts ∈ TB := tb_in (t2_in (List.mem_of_getElem? (i := 230) rfl)) rfl
theorem t_471 : Cond.instanceMethod yX7_lasts ∈ TB := tb_in (t2_in (List.mem_of_getElem? (i := 231) rfl)) rfl
theorem t_472 : Cond.selects RX7 yX7_lasts yX7_lasts ∈ TB := tb_in (t2_in (List.mem_of_getElem? (i := 232) rfl)) rfl
theorem t_473 : Cond.code yX7_lasts cX7_lasts 2 (some .int) ∈ TB := tb_in (t2_in (List.mem_of_getElem? (i := 233) rfl)) rfl
theorem t_474 : Cond.methodLink RX7 213 yX4_daysToFirstGone ∈ TB := tb_in (t2_in (List.mem_of_getElem? (i := 234) rfl)) rfl
theorem t_475 : Cond.instanceMethod yX4_daysToFirstGone ∈ TB := tb_in (t2_in (List.mem_of_getElem? (i := 235) rfl)) rfl
theorem t_476 : Cond.selects RX4 yX4_daysToFirstGone yX4_daysToFirstGone ∈ TB := tb_in (t2_in (List.mem_of_getElem? (i := 236) rfl)) rfl
theorem t_477 : Cond.code yX4_daysToFirstGone cX4_daysToFirstGone 7 (some .int) ∈ TB := tb_in (t2_in (List.mem_of_getElem? (i := 237) rfl)) rfl
theorem t_478 : Cond.methodLink "SnowBallsLaw" 85 yX7_book ∈ TB := tb_in (t2_in (List.mem_of_getElem? (i := 238) rfl)) rfl
theorem t_479 : Cond.instanceMethod yX7_book ∈ TB := tb_in (t2_in (List.mem_of_getElem? (i := 239) rfl)) rfl
theorem t_480 : Cond.selects RX7 yX7_book yX7_book ∈ TB := tb_in (t3_in (List.mem_of_getElem? (i := 0) rfl)) rfl
theorem t_481 : Cond.code yX7_book cX7_book 5 (some .int) ∈ TB := tb_in (t3_in (List.mem_of_getElem? (i := 1) rfl)) rfl
theorem t_482 : Cond.methodLink RX7 219 yX6_begin ∈ TB := tb_in (t3_in (List.mem_of_getElem? (i := 2) rfl)) rfl
theorem t_483 : Cond.instanceMethod yX6_begin ∈ TB := tb_in (t3_in (List.mem_of_getElem? (i := 3) rfl)) rfl
theorem t_484 : Cond.selects RX6 yX6_begin yX6_begin ∈ TB := tb_in (t3_in (List.mem_of_getElem? (i := 4) rfl)) rfl
theorem t_485 : Cond.code yX6_begin cX6_begin 3 none ∈ TB := tb_in (t3_in (List.mem_of_getElem? (i := 5) rfl)) rfl
theorem t_486 : Cond.methodLink "SnowBallsLaw" 90 yX7_games ∈ TB := tb_in (t3_in (List.mem_of_getElem? (i := 6) rfl)) rfl
theorem t_487 : Cond.instanceMethod yX7_games ∈ TB := tb_in (t3_in (List.mem_of_getElem? (i := 7) rfl)) rfl
theorem t_488 : Cond.selects RX7 yX7_games yX7_games ∈ TB := tb_in (t3_in (List.mem_of_getElem? (i := 8) rfl)) rfl
theorem t_489 : Cond.code yX7_games cX7_games 10 (some .int) ∈ TB := tb_in (t3_in (List.mem_of_getElem? (i := 9) rfl)) rfl
theorem t_490 : Cond.methodLink RX7 225 yX7_nextSeed ∈ TB := tb_in (t3_in (List.mem_of_getElem? (i := 10) rfl)) rfl
theorem t_491 : Cond.static yX7_nextSeed ∈ TB := tb_in (t3_in (List.mem_of_getElem? (i := 11) rfl)) rfl
theorem t_492 : Cond.code yX7_nextSeed cX7_nextSeed 2 (some .long) ∈ TB := tb_in (t3_in (List.mem_of_getElem? (i := 12) rfl)) rfl
theorem t_493 : Cond.constantLong RX7 282 (1103515245) ∈ TB := tb_in (t3_in (List.mem_of_getElem? (i := 13) rfl)) rfl
theorem t_494 : Cond.constantLong RX7 284 (12345) ∈ TB := tb_in (t3_in (List.mem_of_getElem? (i := 14) rfl)) rfl
theorem t_495 : Cond.constantLong RX7 286 (2147483648) ∈ TB := tb_in (t3_in (List.mem_of_getElem? (i := 15) rfl)) rfl
theorem t_496 : Cond.methodLink RX7 229 yX7_drawOf ∈ TB := tb_in (t3_in (List.mem_of_getElem? (i := 16) rfl)) rfl
theorem t_497 : Cond.static yX7_drawOf ∈ TB := tb_in (t3_in (List.mem_of_getElem? (i := 17) rfl)) rfl
theorem t_498 : Cond.code yX7_drawOf cX7_drawOf 3 (some .int) ∈ TB := tb_in (t3_in (List.mem_of_getElem? (i := 18) rfl)) rfl
theorem t_499 : Cond.constantLong RX7 288 (65536) ∈ TB := tb_in (t3_in (List.mem_of_getElem? (i := 19) rfl)) rfl
theorem t_500 : Cond.methodLink RX7 233 yX4_allSizes ∈ TB := tb_in (t3_in (List.mem_of_getElem? (i := 20) rfl)) rfl
theorem t_501 : Cond.instanceMethod yX4_allSizes ∈ TB := tb_in (t3_in (List.mem_of_getElem? (i := 21) rfl)) rfl
theorem t_502 : Cond.selects RX4 yX4_allSizes yX4_allSizes ∈ TB := tb_in (t3_in (List.mem_of_getElem? (i := 22) rfl)) rfl
theorem t_503 : Cond.code yX4_allSizes cX4_allSizes 3 (some .int) ∈ TB := tb_in (t3_in (List.mem_of_getElem? (i := 23) rfl)) rfl
theorem t_504 : Cond.methodLink "SnowBallsLaw" 94 yX7_image ∈ TB := tb_in (t3_in (List.mem_of_getElem? (i := 24) rfl)) rfl
theorem t_505 : Cond.instanceMethod yX7_image ∈ TB := tb_in (t3_in (List.mem_of_getElem? (i := 25) rfl)) rfl
theorem t_506 : Cond.selects RX7 yX7_image yX7_image ∈ TB := tb_in (t3_in (List.mem_of_getElem? (i := 26) rfl)) rfl
theorem t_507 : Cond.code yX7_image cX7_image 1 (some .int) ∈ TB := tb_in (t3_in (List.mem_of_getElem? (i := 27) rfl)) rfl
theorem t_508 : Cond.methodLink "SnowBallsLaw" 98 yX7_restore ∈ TB := tb_in (t3_in (List.mem_of_getElem? (i := 28) rfl)) rfl
theorem t_509 : Cond.instanceMethod yX7_restore ∈ TB := tb_in (t3_in (List.mem_of_getElem? (i := 29) rfl)) rfl
theorem t_510 : Cond.selects RX7 yX7_restore yX7_restore ∈ TB := tb_in (t3_in (List.mem_of_getElem? (i := 30) rfl)) rfl
theorem t_511 : Cond.code yX7_restore cX7_restore 1 (some .int) ∈ TB := tb_in (t3_in (List.mem_of_getElem? (i := 31) rfl)) rfl
theorem t_512 : Cond.methodLink "SnowBallsLaw" 102 yX7_count ∈ TB := tb_in (t3_in (List.mem_of_getElem? (i := 32) rfl)) rfl
theorem t_513 : Cond.instanceMethod yX7_count ∈ TB := tb_in (t3_in (List.mem_of_getElem? (i := 33) rfl)) rfl
theorem t_514 : Cond.selects RX7 yX7_count yX7_count ∈ TB := tb_in (t3_in (List.mem_of_getElem? (i := 34) rfl)) rfl
theorem t_515 : Cond.code yX7_count cX7_count 2 (some .int) ∈ TB := tb_in (t3_in (List.mem_of_getElem? (i := 35) rfl)) rfl
theorem t_516 : Cond.methodLink RX7 236 yX4_goneBalls ∈ TB := tb_in (t3_in (List.mem_of_getElem? (i := 36) rfl)) rfl
theorem t_517 : Cond.instanceMethod yX4_goneBalls ∈ TB := tb_in (t3_in (List.mem_of_getElem? (i := 37) rfl)) rfl
theorem t_518 : Cond.selects RX4 yX4_goneBalls yX4_goneBalls ∈ TB := tb_in (t3_in (List.mem_of_getElem? (i := 38) rfl)) rfl
theorem t_519 : Cond.code yX4_goneBalls cX4_goneBalls 3 (some .int) ∈ TB := tb_in (t3_in (List.mem_of_getElem? (i := 39) rfl)) rfl
theorem t_520 : Cond.methodLink RX7 239 yX4_greenPlaces ∈ TB := tb_in (t3_in (List.mem_of_getElem? (i := 40) rfl)) rfl
theorem t_521 : Cond.instanceMethod yX4_greenPlaces ∈ TB := tb_in (t3_in (List.mem_of_getElem? (i := 41) rfl)) rfl
theorem t_522 : Cond.selects RX4 yX4_greenPlaces yX4_greenPlaces ∈ TB := tb_in (t3_in (List.mem_of_getElem? (i := 42) rfl)) rfl
theorem t_523 : Cond.code yX4_greenPlaces cX4_greenPlaces 6 (some .int) ∈ TB := tb_in (t3_in (List.mem_of_getElem? (i := 43) rfl)) rfl
theorem t_524 : Cond.methodLink "SnowBallsLaw" 106 yX7_digest ∈ TB := tb_in (t3_in (List.mem_of_getElem? (i := 44) rfl)) rfl
theorem t_525 : Cond.instanceMethod yX7_digest ∈ TB := tb_in (t3_in (List.mem_of_getElem? (i := 45) rfl)) rfl
theorem t_526 : Cond.selects RX7 yX7_digest yX7_digest ∈ TB := tb_in (t3_in (List.mem_of_getElem? (i := 46) rfl)) rfl
theorem t_527 : Cond.code yX7_digest cX7_digest 4 (some .long) ∈ TB := tb_in (t3_in (List.mem_of_getElem? (i := 47) rfl)) rfl
theorem t_528 : Cond.constantLong RX7 245 (727) ∈ TB := tb_in (t3_in (List.mem_of_getElem? (i := 48) rfl)) rfl
theorem t_529 : Cond.methodLink RX7 247 yX7_digestOfPlaces ∈ TB := tb_in (t3_in (List.mem_of_getElem? (i := 49) rfl)) rfl
theorem t_531 : Cond.instanceMethod yX7_digestOfPlaces ∈ TB := tb_in (t3_in (List.mem_of_getElem? (i := 51) rfl)) rfl
theorem t_532 : Cond.code yX7_digestOfPlaces cX7_digestOfPlaces 7 (some .long) ∈ TB := tb_in (t3_in (List.mem_of_getElem? (i := 52) rfl)) rfl
theorem t_533 : Cond.methodLink RX7 266 yX7_place ∈ TB := tb_in (t3_in (List.mem_of_getElem? (i := 53) rfl)) rfl
theorem t_534 : Cond.methodLink RX7 256 yX7_mixed ∈ TB := tb_in (t3_in (List.mem_of_getElem? (i := 54) rfl)) rfl
theorem t_535 : Cond.static yX7_mixed ∈ TB := tb_in (t3_in (List.mem_of_getElem? (i := 55) rfl)) rfl
theorem t_536 : Cond.code yX7_mixed cX7_mixed 4 (some .long) ∈ TB := tb_in (t3_in (List.mem_of_getElem? (i := 56) rfl)) rfl
theorem t_537 : Cond.constantLong RX7 274 (31) ∈ TB := tb_in (t3_in (List.mem_of_getElem? (i := 57) rfl)) rfl
theorem t_538 : Cond.methodLink RX7 250 yX7_digestOfBalls ∈ TB := tb_in (t3_in (List.mem_of_getElem? (i := 58) rfl)) rfl
theorem t_540 : Cond.instanceMethod yX7_digestOfBalls ∈ TB := tb_in (t3_in (List.mem_of_getElem? (i := 60) rfl)) rfl
theorem t_541 : Cond.code yX7_digestOfBalls cX7_digestOfBalls 7 (some .long) ∈ TB := tb_in (t3_in (List.mem_of_getElem? (i := 61) rfl)) rfl
theorem t_542 : Cond.methodLink RX7 268 yX7_about ∈ TB := tb_in (t3_in (List.mem_of_getElem? (i := 62) rfl)) rfl
theorem t_543 : Cond.methodLink RX7 271 yX7_may ∈ TB := tb_in (t3_in (List.mem_of_getElem? (i := 63) rfl)) rfl
theorem t_544 : Cond.methodLink RX7 253 yX7_highest ∈ TB := tb_in (t3_in (List.mem_of_getElem? (i := 64) rfl)) rfl
theorem t_545 : Cond.methodLink RX7 260 yX7_lasts ∈ TB := tb_in (t3_in (List.mem_of_getElem? (i := 65) rfl)) rfl
theorem t_546 : Cond.methodLink RX7 263 yX7_count ∈ TB := tb_in (t3_in (List.mem_of_getElem? (i := 66) rfl)) rfl
theorem t_547 : Cond.classLink "SnowBallsLaw" 10 RX8 ∈ TB := tb_in (t3_in (List.mem_of_getElem? (i := 67) rfl)) rfl
theorem t_548 : Cond.instantiable RX8 39 ∈ TB := tb_in (t3_in (List.mem_of_getElem? (i := 68) rfl)) rfl
theorem t_549 : Cond.methodLink "SnowBallsLaw" 12 yX8_init ∈ TB := tb_in (t3_in (List.mem_of_getElem? (i := 69) rfl)) rfl
theorem t_550 : Cond.instanceMethod yX8_init ∈ TB := tb_in (t3_in (List.mem_of_getElem? (i := 70) rfl)) rfl
theorem t_551 : Cond.code yX8_init cX8_init 1 none ∈ TB := tb_in (t3_in (List.mem_of_getElem? (i := 71) rfl)) rfl
theorem t_552 : Cond.methodLink RX8 1 Lib.objectInit ∈ TB := tb_in (t3_in (List.mem_of_getElem? (i := 72) rfl)) rfl
theorem t_553 : Cond.fieldLink RX8 82 "SnowBallsModel" "isLawn" "Z" ∈ TB := tb_in (t3_in (List.mem_of_getElem? (i := 73) rfl)) rfl
theorem t_554 : Cond.fieldLink RX8 86 "SnowBallsModel" "lawns" "I" ∈ TB := tb_in (t3_in (List.mem_of_getElem? (i := 74) rfl)) rfl
theorem t_555 : Cond.fieldLink RX8 7 "SnowBallsModel" "depthOf" "[I" ∈ TB := tb_in (t3_in (List.mem_of_getElem? (i := 75) rfl)) rfl
theorem t_556 : Cond.fieldLink RX8 79 "SnowBallsModel" "wetness" "I" ∈ TB := tb_in (t3_in (List.mem_of_getElem? (i := 76) rfl)) rfl
theorem t_557 : Cond.fieldLink RX8 13 "SnowBallsModel" "strength" "I" ∈ TB := tb_in (t3_in (List.mem_of_getElem? (i := 77) rfl)) rfl
theorem t_558 : Cond.fieldLink RX8 89 "SnowBallsModel" "days" "I" ∈ TB := tb_in (t3_in (List.mem_of_getElem? (i := 78) rfl)) rfl
theorem t_559 : Cond.fieldLink RX8 92 "SnowBallsModel" "balls" "I" ∈ TB := tb_in (t3_in (List.mem_of_getElem? (i := 79) rfl)) rfl
theorem t_560 : Cond.fieldLink RX8 17 "SnowBallsModel" "kindOf" "[I" ∈ TB := tb_in (t3_in (List.mem_of_getElem? (i := 80) rfl)) rfl
theorem t_561 : Cond.fieldLink RX8 20 "SnowBallsModel" "sizeOf" "[I" ∈ TB := tb_in (t3_in (List.mem_of_getElem? (i := 81) rfl)) rfl
theorem t_562 : Cond.fieldLink RX8 23 "SnowBallsModel" "placeOf" "[I" ∈ TB := tb_in (t3_in (List.mem_of_getElem? (i := 82) rfl)) rfl
theorem t_563 : Cond.fieldLink RX8 26 "SnowBallsModel" "onOf" "[I" ∈ TB := tb_in (t3_in (List.mem_of_getElem? (i := 83) rfl)) rfl
theorem t_564 : Cond.fieldLink RX8 29 "SnowBallsModel" "sticksOf" "[I" ∈ TB := tb_in (t3_in (List.mem_of_getElem? (i := 84) rfl)) rfl
theorem t_565 : Cond.fieldLink RX8 190 "SnowBallsModel" "asks" "I" ∈ TB := tb_in (t3_in (List.mem_of_getElem? (i := 85) rfl)) rfl
theorem t_566 : Cond.fieldLink RX8 208 "SnowBallsModel" "books" "I" ∈ TB := tb_in (t3_in (List.mem_of_getElem? (i := 86) rfl)) rfl
theorem t_567 : Cond.fieldLink RX8 70 "SnowBallsModel" "pageLength" "I" ∈ TB := tb_in (t3_in (List.mem_of_getElem? (i := 87) rfl)) rfl
theorem t_568 : Cond.fieldLink RX8 32 "SnowBallsModel" "page" "[B" ∈ TB := tb_in (t3_in (List.mem_of_getElem? (i := 88) rfl)) rfl
theorem t_569 : Cond.fieldLink RX8 73 "SnowBallsModel" "faultAt" "I" ∈ TB := tb_in (t3_in (List.mem_of_getElem? (i := 89) rfl)) rfl
theorem t_570 : Cond.fieldLink RX8 36 "SnowBallsModel" "savedDepth" "[I" ∈ TB := tb_in (t3_in (List.mem_of_getElem? (i := 90) rfl)) rfl
theorem t_571 : Cond.fieldLink RX8 163 "SnowBallsModel" "savedSize" "I" ∈ TB := tb_in (t3_in (List.mem_of_getElem? (i := 91) rfl)) rfl
theorem t_572 : Cond.fieldLink RX8 166 "SnowBallsModel" "savedPlace" "I" ∈ TB := tb_in (t3_in (List.mem_of_getElem? (i := 92) rfl)) rfl
theorem t_573 : Cond.fieldLink RX8 169 "SnowBallsModel" "savedSticks" "I" ∈ TB := tb_in (t3_in (List.mem_of_getElem? (i := 93) rfl)) rfl
theorem t_574 : Cond.fieldLink RX8 175 "SnowBallsModel" "bestSize" "I" ∈ TB := tb_in (t3_in (List.mem_of_getElem? (i := 94) rfl)) rfl
theorem t_575 : Cond.fieldLink RX8 178 "SnowBallsModel" "bestFirst" "I" ∈ TB := tb_in (t3_in (List.mem_of_getElem? (i := 95) rfl)) rfl
theorem t_576 : Cond.fieldLink RX8 217 "SnowBallsModel" "seedNow" "J" ∈ TB := tb_in (t3_in (List.mem_of_getElem? (i := 96) rfl)) rfl
theorem t_577 : Cond.fieldLink RX8 39 "SnowBallsModel" "gameSize" "[I" ∈ TB := tb_in (t3_in (List.mem_of_getElem? (i := 97) rfl)) rfl
theorem t_578 : Cond.fieldLink RX8 42 "SnowBallsModel" "gamePlace" "[I" ∈ TB := tb_in (t3_in (List.mem_of_getElem? (i := 98) rfl)) rfl
theorem t_579 : Cond.fieldLink RX8 45 "SnowBallsModel" "gameSticks" "[I" ∈ TB := tb_in (t3_in (List.mem_of_getElem? (i := 99) rfl)) rfl
theorem t_580 : Cond.fieldLink RX8 48 "SnowBallsModel" "gameDepth" "[I" ∈ TB := tb_in (t3_in (List.mem_of_getElem? (i := 100) rfl)) rfl
theorem t_581 : Cond.fieldLink RX8 237 "SnowBallsModel" "isKept" "Z" ∈ TB := tb_in (t3_in (List.mem_of_getElem? (i := 101) rfl)) rfl
theorem t_582 : Cond.fieldLink RX8 240 "SnowBallsModel" "keptLawn" "I" ∈ TB := tb_in (t3_in (List.mem_of_getElem? (i := 102) rfl)) rfl
theorem t_583 : Cond.fieldLink RX8 243 "SnowBallsModel" "keptBalls" "I" ∈ TB := tb_in (t3_in (List.mem_of_getElem? (i := 103) rfl)) rfl
theorem t_584 : Cond.fieldLink RX8 246 "SnowBallsModel" "keptStrength" "I" ∈ TB := tb_in (t3_in (List.mem_of_getElem? (i := 104) rfl)) rfl
theorem t_585 : Cond.fieldLink RX8 249 "SnowBallsModel" "keptDays" "I" ∈ TB := tb_in (t3_in (List.mem_of_getElem? (i := 105) rfl)) rfl
theorem t_586 : Cond.fieldLink RX8 51 "SnowBallsModel" "keptDepth" "[I" ∈ TB := tb_in (t3_in (List.mem_of_getElem? (i := 106) rfl)) rfl
theorem t_587 : Cond.fieldLink RX8 54 "SnowBallsModel" "keptSize" "[I" ∈ TB := tb_in (t3_in (List.mem_of_getElem? (i := 107) rfl)) rfl
theorem t_588 : Cond.fieldLink RX8 57 "SnowBallsModel" "keptPlace" "[I" ∈ TB := tb_in (t3_in (List.mem_of_getElem? (i := 108) rfl)) rfl
theorem t_589 : Cond.fieldLink RX8 60 "SnowBallsModel" "keptOn" "[I" ∈ TB := tb_in (t3_in (List.mem_of_getElem? (i := 109) rfl)) rfl
theorem t_590 : Cond.fieldLink RX8 63 "SnowBallsModel" "keptSticks" "[I" ∈ TB := tb_in (t3_in (List.mem_of_getElem? (i := 110) rfl)) rfl
theorem t_591 : Cond.fieldLink RX8 263 "SnowBallsModel" "h" "J" ∈ TB := tb_in (t3_in (List.mem_of_getElem? (i := 111) rfl)) rfl
theorem t_592 : Cond.lays RX8 "SnowBallsModel" "isLawn" "Z" ∈ TB := tb_in (t3_in (List.mem_of_getElem? (i := 112) rfl)) rfl
theorem t_594 : Cond.lays RX8 "SnowBallsModel" "lawns" "I" ∈ TB := tb_in (t3_in (List.mem_of_getElem? (i := 114) rfl)) rfl
theorem t_596 : Cond.laysFinal RX8 "SnowBallsModel" "depthOf" "[I" ∈ TB := tb_in (t3_in (List.mem_of_getElem? (i := 116) rfl)) rfl
theorem t_598 : Cond.lays RX8 "SnowBallsModel" "wetness" "I" ∈ TB := tb_in (t3_in (List.mem_of_getElem? (i := 118) rfl)) rfl
theorem t_600 : Cond.lays RX8 "SnowBallsModel" "strength" "I" ∈ TB := tb_in (t3_in (List.mem_of_getElem? (i := 120) rfl)) rfl
theorem t_602 : Cond.lays RX8 "SnowBallsModel" "days" "I" ∈ TB := tb_in (t3_in (List.mem_of_getElem? (i := 122) rfl)) rfl
theorem t_604 : Cond.lays RX8 "SnowBallsModel" "balls" "I" ∈ TB := tb_in (t3_in (List.mem_of_getElem? (i := 124) rfl)) rfl
theorem t_606 : Cond.laysFinal RX8 "SnowBallsModel" "kindOf" "[I" ∈ TB := tb_in (t3_in (List.mem_of_getElem? (i := 126) rfl)) rfl
theorem t_608 : Cond.laysFinal RX8 "SnowBallsModel" "sizeOf" "[I" ∈ TB := tb_in (t3_in (List.mem_of_getElem? (i := 128) rfl)) rfl
theorem t_610 : Cond.laysFinal RX8 "SnowBallsModel" "placeOf" "[I" ∈ TB := tb_in (t3_in (List.mem_of_getElem? (i := 130) rfl)) rfl
theorem t_612 : Cond.laysFinal RX8 "SnowBallsModel" "onOf" "[I" ∈ TB := tb_in (t3_in (List.mem_of_getElem? (i := 132) rfl)) rfl
theorem t_614 : Cond.laysFinal RX8 "SnowBallsModel" "sticksOf" "[I" ∈ TB := tb_in (t3_in (List.mem_of_getElem? (i := 134) rfl)) rfl
theorem t_616 : Cond.lays RX8 "SnowBallsModel" "asks" "I" ∈ TB := tb_in (t3_in (List.mem_of_getElem? (i := 136) rfl)) rfl
theorem t_618 : Cond.lays RX8 "SnowBallsModel" "books" "I" ∈ TB := tb_in (t3_in (List.mem_of_getElem? (i := 138) rfl)) rfl
theorem t_620 : Cond.lays RX8 "SnowBallsModel" "pageLength" "I" ∈ TB := tb_in (t3_in (List.mem_of_getElem? (i := 140) rfl)) rfl
theorem t_622 : Cond.laysFinal RX8 "SnowBallsModel" "page" "[B" ∈ TB := tb_in (t3_in (List.mem_of_getElem? (i := 142) rfl)) rfl
theorem t_624 : Cond.lays RX8 "SnowBallsModel" "faultAt" "I" ∈ TB := tb_in (t3_in (List.mem_of_getElem? (i := 144) rfl)) rfl
theorem t_626 : Cond.laysFinal RX8 "SnowBallsModel" "savedDepth" "[I" ∈ TB := tb_in (t3_in (List.mem_of_getElem? (i := 146) rfl)) rfl
theorem t_628 : Cond.lays RX8 "SnowBallsModel" "savedSize" "I" ∈ TB := tb_in (t3_in (List.mem_of_getElem? (i := 148) rfl)) rfl
theorem t_630 : Cond.lays RX8 "SnowBallsModel" "savedPlace" "I" ∈ TB := tb_in (t3_in (List.mem_of_getElem? (i := 150) rfl)) rfl
theorem t_632 : Cond.lays RX8 "SnowBallsModel" "savedSticks" "I" ∈ TB := tb_in (t3_in (List.mem_of_getElem? (i := 152) rfl)) rfl
theorem t_634 : Cond.lays RX8 "SnowBallsModel" "bestSize" "I" ∈ TB := tb_in (t3_in (List.mem_of_getElem? (i := 154) rfl)) rfl
theorem t_636 : Cond.lays RX8 "SnowBallsModel" "bestFirst" "I" ∈ TB := tb_in (t3_in (List.mem_of_getElem? (i := 156) rfl)) rfl
theorem t_638 : Cond.lays RX8 "SnowBallsModel" "seedNow" "J" ∈ TB := tb_in (t3_in (List.mem_of_getElem? (i := 158) rfl)) rfl
theorem t_640 : Cond.laysFinal RX8 "SnowBallsModel" "gameSize" "[I" ∈ TB := tb_in (t3_in (List.mem_of_getElem? (i := 160) rfl)) rfl
theorem t_642 : Cond.laysFinal RX8 "SnowBallsModel" "gamePlace" "[I" ∈ TB := tb_in (t3_in (List.mem_of_getElem? (i := 162) rfl)) rfl
theorem t_644 : Cond.laysFinal RX8 "SnowBallsModel" "gameSticks" "[I" ∈ TB := tb_in (t3_in (List.mem_of_getElem? (i := 164) rfl)) rfl
theorem t_646 : Cond.laysFinal RX8 "SnowBallsModel" "gameDepth" "[I" ∈ TB := tb_in (t3_in (List.mem_of_getElem? (i := 166) rfl)) rfl
theorem t_648 : Cond.lays RX8 "SnowBallsModel" "isKept" "Z" ∈ TB := tb_in (t3_in (List.mem_of_getElem? (i := 168) rfl)) rfl
theorem t_650 : Cond.lays RX8 "SnowBallsModel" "keptLawn" "I" ∈ TB := tb_in (t3_in (List.mem_of_getElem? (i := 170) rfl)) rfl
theorem t_652 : Cond.lays RX8 "SnowBallsModel" "keptBalls" "I" ∈ TB := tb_in (t3_in (List.mem_of_getElem? (i := 172) rfl)) rfl
theorem t_654 : Cond.lays RX8 "SnowBallsModel" "keptStrength" "I" ∈ TB := tb_in (t3_in (List.mem_of_getElem? (i := 174) rfl)) rfl
theorem t_656 : Cond.lays RX8 "SnowBallsModel" "keptDays" "I" ∈ TB := tb_in (t3_in (List.mem_of_getElem? (i := 176) rfl)) rfl
theorem t_658 : Cond.laysFinal RX8 "SnowBallsModel" "keptDepth" "[I" ∈ TB := tb_in (t3_in (List.mem_of_getElem? (i := 178) rfl)) rfl
theorem t_660 : Cond.laysFinal RX8 "SnowBallsModel" "keptSize" "[I" ∈ TB := tb_in (t3_in (List.mem_of_getElem? (i := 180) rfl)) rfl
theorem t_662 : Cond.laysFinal RX8 "SnowBallsModel" "keptPlace" "[I" ∈ TB := tb_in (t3_in (List.mem_of_getElem? (i := 182) rfl)) rfl
theorem t_664 : Cond.laysFinal RX8 "SnowBallsModel" "keptOn" "[I" ∈ TB := tb_in (t3_in (List.mem_of_getElem? (i := 184) rfl)) rfl
theorem t_666 : Cond.laysFinal RX8 "SnowBallsModel" "keptSticks" "[I" ∈ TB := tb_in (t3_in (List.mem_of_getElem? (i := 186) rfl)) rfl
theorem t_668 : Cond.lays RX8 "SnowBallsModel" "h" "J" ∈ TB := tb_in (t3_in (List.mem_of_getElem? (i := 188) rfl)) rfl
theorem t_671 : Cond.arrayClass .byte ∈ TB := tb_in (t3_in (List.mem_of_getElem? (i := 191) rfl)) rfl
theorem t_672 : Cond.methodLink "SnowBallsLaw" 17 yX8_letter ∈ TB := tb_in (t3_in (List.mem_of_getElem? (i := 192) rfl)) rfl
theorem t_673 : Cond.instanceMethod yX8_letter ∈ TB := tb_in (t3_in (List.mem_of_getElem? (i := 193) rfl)) rfl
theorem t_674 : Cond.selects RX8 yX8_letter yX8_letter ∈ TB := tb_in (t3_in (List.mem_of_getElem? (i := 194) rfl)) rfl
theorem t_675 : Cond.code yX8_letter cX8_letter 2 (some .int) ∈ TB := tb_in (t3_in (List.mem_of_getElem? (i := 195) rfl)) rfl
theorem t_676 : Cond.methodLink RX8 66 yX8_within ∈ TB := tb_in (t3_in (List.mem_of_getElem? (i := 196) rfl)) rfl
theorem t_677 : Cond.static yX8_within ∈ TB := tb_in (t3_in (List.mem_of_getElem? (i := 197) rfl)) rfl
theorem t_678 : Cond.code yX8_within cX8_within 3 (some .boolean) ∈ TB := tb_in (t3_in (List.mem_of_getElem? (i := 198) rfl)) rfl
theorem t_679 : Cond.methodLink "SnowBallsLaw" 22 yX8_blank ∈ TB := tb_in (t3_in (List.mem_of_getElem? (i := 199) rfl)) rfl
theorem t_680 : Cond.instanceMethod yX8_blank ∈ TB := tb_in (t3_in (List.mem_of_getElem? (i := 200) rfl)) rfl
theorem t_681 : Cond.selects RX8 yX8_blank yX8_blank ∈ TB := tb_in (t3_in (List.mem_of_getElem? (i := 201) rfl)) rfl
theorem t_682 : Cond.code yX8_blank cX8_blank 2 (some .int) ∈ TB := tb_in (t3_in (List.mem_of_getElem? (i := 202) rfl)) rfl
theorem t_683 : Cond.methodLink "SnowBallsLaw" 26 yX8_fault ∈ TB := tb_in (t3_in (List.mem_of_getElem? (i := 203) rfl)) rfl
theorem t_684 : Cond.instanceMethod yX8_fault ∈ TB := tb_in (t3_in (List.mem_of_getElem? (i := 204) rfl)) rfl
theorem t_685 : Cond.selects RX8 yX8_fault yX8_fault ∈ TB := tb_in (t3_in (List.mem_of_getElem? (i := 205) rfl)) rfl
theorem t_686 : Cond.code yX8_fault cX8_fault 1 (some .int) ∈ TB := tb_in (t3_in (List.mem_of_getElem? (i := 206) rfl)) rfl
theorem t_687 : Cond.methodLink RX8 76 yX8_readLawn ∈ TB := tb_in (t3_in (List.mem_of_getElem? (i := 207) rfl)) rfl
theorem t_689 : Cond.instanceMethod yX8_readLawn ∈ TB := tb_in (t3_in (List.mem_of_getElem? (i := 209) rfl)) rfl
theorem t_690 : Cond.code yX8_readLawn cX8_readLawn 4 none ∈ TB := tb_in (t3_in (List.mem_of_getElem? (i := 210) rfl)) rfl
theorem t_691 : Cond.methodLink "SnowBallsLaw" 30 yX8_lawn ∈ TB := tb_in (t3_in (List.mem_of_getElem? (i := 211) rfl)) rfl
theorem t_692 : Cond.instanceMethod yX8_lawn ∈ TB := tb_in (t3_in (List.mem_of_getElem? (i := 212) rfl)) rfl
theorem t_693 : Cond.selects RX8 yX8_lawn yX8_lawn ∈ TB := tb_in (t3_in (List.mem_of_getElem? (i := 213) rfl)) rfl
theorem t_694 : Cond.code yX8_lawn cX8_lawn 2 (some .int) ∈ TB := tb_in (t3_in (List.mem_of_getElem? (i := 214) rfl)) rfl
theorem t_695 : Cond.methodLink RX8 95 yX8_depthAll ∈ TB := tb_in (t3_in (List.mem_of_getElem? (i := 215) rfl)) rfl
theorem t_697 : Cond.instanceMethod yX8_depthAll ∈ TB := tb_in (t3_in (List.mem_of_getElem? (i := 217) rfl)) rfl
theorem t_698 : Cond.code yX8_depthAll cX8_depthAll 3 (some .int) ∈ TB := tb_in (t3_in (List.mem_of_getElem? (i := 218) rfl)) rfl
theorem t_699 : Cond.methodLink "SnowBallsLaw" 35 yX8_place ∈ TB := tb_in (t3_in (List.mem_of_getElem? (i := 219) rfl)) rfl
theorem t_700 : Cond.instanceMethod yX8_place ∈ TB := tb_in (t3_in (List.mem_of_getElem? (i := 220) rfl)) rfl
theorem t_701 : Cond.selects RX8 yX8_place yX8_place ∈ TB := tb_in (t3_in (List.mem_of_getElem? (i := 221) rfl)) rfl
theorem t_702 : Cond.code yX8_place cX8_place 3 (some .int) ∈ TB := tb_in (t3_in (List.mem_of_getElem? (i := 222) rfl)) rfl
theorem t_703 : Cond.methodLink RX8 103 yX8_isPlace ∈ TB := tb_in (t3_in (List.mem_of_getElem? (i := 223) rfl)) rfl
theorem t_704 : Cond.static yX8_isPlace ∈ TB := tb_in (t3_in (List.mem_of_getElem? (i := 224) rfl)) rfl
theorem t_705 : Cond.code yX8_isPlace cX8_isPlace 1 (some .boolean) ∈ TB := tb_in (t3_in (List.mem_of_getElem? (i := 225) rfl)) rfl
theorem t_706 : Cond.methodLink RX8 107 yX8_standsOn ∈ TB := tb_in (t3_in (List.mem_of_getElem? (i := 226) rfl)) rfl
theorem t_708 : Cond.instanceMethod yX8_standsOn ∈ TB := tb_in (t3_in (List.mem_of_getElem? (i := 228) rfl)) rfl
theorem t_709 : Cond.code yX8_standsOn cX8_standsOn 4 (some .int) ∈ TB := tb_in (t3_in (List.mem_of_getElem? (i := 229) rfl)) rfl
theorem t_710 : Cond.methodLink RX8 110 yX8_heightOf ∈ TB := tb_in (t3_in (List.mem_of_getElem? (i := 230) rfl)) rfl
theorem t_712 : Cond.instanceMethod yX8_heightOf ∈ TB := tb_in (t3_in (List.mem_of_getElem? (i := 232) rfl)) rfl
theorem t_713 : Cond.code yX8_heightOf cX8_heightOf 4 (some .int) ∈ TB := tb_in (t3_in (List.mem_of_getElem? (i := 233) rfl)) rfl
theorem t_714 : Cond.methodLink RX8 99 yX8_root ∈ TB := tb_in (t3_in (List.mem_of_getElem? (i := 234) rfl)) rfl
theorem t_715 : Cond.static yX8_root ∈ TB := tb_in (t3_in (List.mem_of_getElem? (i := 235) rfl)) rfl
theorem t_716 : Cond.code yX8_root cX8_root 2 (some .int) ∈ TB := tb_in (t3_in (List.mem_of_getElem? (i := 236) rfl)) rfl
theorem t_717 : Cond.methodLink "SnowBallsLaw" 39 yX8_strength ∈ TB := tb_in (t3_in (List.mem_of_getElem? (i := 237) rfl)) rfl
theorem t_718 : Cond.instanceMethod yX8_strength ∈ TB := tb_in (t3_in (List.mem_of_getElem? (i := 238) rfl)) rfl
theorem t_719 : Cond.selects RX8 yX8_strength yX8_strength ∈ TB := tb_in (t3_in (List.mem_of_getElem? (i := 239) rfl)) rfl
theorem t_720 : Cond.code yX8_strength cX8_strength 3 (some .int) ∈ TB := tb_in (t4_in (List.mem_of_getElem? (i := 0) rfl)) rfl
theorem t_721 : Cond.methodLink "SnowBallsLaw" 43 yX8_ball ∈ TB := tb_in (t4_in (List.mem_of_getElem? (i := 1) rfl)) rfl
theorem t_722 : Cond.instanceMethod yX8_ball ∈ TB := tb_in (t4_in (List.mem_of_getElem? (i := 2) rfl)) rfl
theorem t_723 : Cond.selects RX8 yX8_ball yX8_ball ∈ TB := tb_in (t4_in (List.mem_of_getElem? (i := 3) rfl)) rfl
theorem t_724 : Cond.code yX8_ball cX8_ball 3 (some .int) ∈ TB := tb_in (t4_in (List.mem_of_getElem? (i := 4) rfl)) rfl
theorem t_725 : Cond.methodLink RX8 113 yX8_lay ∈ TB := tb_in (t4_in (List.mem_of_getElem? (i := 5) rfl)) rfl
theorem t_727 : Cond.instanceMethod yX8_lay ∈ TB := tb_in (t4_in (List.mem_of_getElem? (i := 7) rfl)) rfl
theorem t_728 : Cond.code yX8_lay cX8_lay 4 none ∈ TB := tb_in (t4_in (List.mem_of_getElem? (i := 8) rfl)) rfl
theorem t_729 : Cond.methodLink "SnowBallsLaw" 47 yX8_about ∈ TB := tb_in (t4_in (List.mem_of_getElem? (i := 9) rfl)) rfl
theorem t_730 : Cond.instanceMethod yX8_about ∈ TB := tb_in (t4_in (List.mem_of_getElem? (i := 10) rfl)) rfl
theorem t_731 : Cond.selects RX8 yX8_about yX8_about ∈ TB := tb_in (t4_in (List.mem_of_getElem? (i := 11) rfl)) rfl
theorem t_732 : Cond.code yX8_about cX8_about 3 (some .int) ∈ TB := tb_in (t4_in (List.mem_of_getElem? (i := 12) rfl)) rfl
theorem t_733 : Cond.methodLink RX8 123 yX8_isBall ∈ TB := tb_in (t4_in (List.mem_of_getElem? (i := 13) rfl)) rfl
theorem t_735 : Cond.instanceMethod yX8_isBall ∈ TB := tb_in (t4_in (List.mem_of_getElem? (i := 15) rfl)) rfl
theorem t_736 : Cond.code yX8_isBall cX8_isBall 2 (some .boolean) ∈ TB := tb_in (t4_in (List.mem_of_getElem? (i := 16) rfl)) rfl
theorem t_737 : Cond.methodLink RX8 126 yX8_ballNow ∈ TB := tb_in (t4_in (List.mem_of_getElem? (i := 17) rfl)) rfl
theorem t_739 : Cond.instanceMethod yX8_ballNow ∈ TB := tb_in (t4_in (List.mem_of_getElem? (i := 19) rfl)) rfl
theorem t_740 : Cond.code yX8_ballNow cX8_ballNow 3 (some .int) ∈ TB := tb_in (t4_in (List.mem_of_getElem? (i := 20) rfl)) rfl
theorem t_741 : Cond.methodLink RX8 117 yX8_weighs ∈ TB := tb_in (t4_in (List.mem_of_getElem? (i := 21) rfl)) rfl
theorem t_743 : Cond.instanceMethod yX8_weighs ∈ TB := tb_in (t4_in (List.mem_of_getElem? (i := 23) rfl)) rfl
theorem t_744 : Cond.code yX8_weighs cX8_weighs 2 (some .int) ∈ TB := tb_in (t4_in (List.mem_of_getElem? (i := 24) rfl)) rfl
theorem t_745 : Cond.methodLink RX8 120 yX8_breadth ∈ TB := tb_in (t4_in (List.mem_of_getElem? (i := 25) rfl)) rfl
theorem t_747 : Cond.instanceMethod yX8_breadth ∈ TB := tb_in (t4_in (List.mem_of_getElem? (i := 27) rfl)) rfl
theorem t_748 : Cond.code yX8_breadth cX8_breadth 2 (some .int) ∈ TB := tb_in (t4_in (List.mem_of_getElem? (i := 28) rfl)) rfl
theorem t_749 : Cond.methodLink "SnowBallsLaw" 51 yX8_as ∈ TB := tb_in (t4_in (List.mem_of_getElem? (i := 29) rfl)) rfl
theorem t_750 : Cond.instanceMethod yX8_as ∈ TB := tb_in (t4_in (List.mem_of_getElem? (i := 30) rfl)) rfl
theorem t_751 : Cond.selects RX8 yX8_as yX8_as ∈ TB := tb_in (t4_in (List.mem_of_getElem? (i := 31) rfl)) rfl
theorem t_752 : Cond.code yX8_as cX8_as 4 (some .int) ∈ TB := tb_in (t4_in (List.mem_of_getElem? (i := 32) rfl)) rfl
theorem t_753 : Cond.methodLink "SnowBallsLaw" 55 yX8_may ∈ TB := tb_in (t4_in (List.mem_of_getElem? (i := 33) rfl)) rfl
theorem t_754 : Cond.instanceMethod yX8_may ∈ TB := tb_in (t4_in (List.mem_of_getElem? (i := 34) rfl)) rfl
theorem t_755 : Cond.selects RX8 yX8_may yX8_may ∈ TB := tb_in (t4_in (List.mem_of_getElem? (i := 35) rfl)) rfl
theorem t_756 : Cond.code yX8_may cX8_may 3 (some .int) ∈ TB := tb_in (t4_in (List.mem_of_getElem? (i := 36) rfl)) rfl
theorem t_757 : Cond.methodLink RX8 139 yX8_mayRoll ∈ TB := tb_in (t4_in (List.mem_of_getElem? (i := 37) rfl)) rfl
theorem t_759 : Cond.instanceMethod yX8_mayRoll ∈ TB := tb_in (t4_in (List.mem_of_getElem? (i := 39) rfl)) rfl
theorem t_760 : Cond.code yX8_mayRoll cX8_mayRoll 5 (some .boolean) ∈ TB := tb_in (t4_in (List.mem_of_getElem? (i := 40) rfl)) rfl
theorem t_761 : Cond.methodLink RX8 133 yX8_isFree ∈ TB := tb_in (t4_in (List.mem_of_getElem? (i := 41) rfl)) rfl
theorem t_763 : Cond.instanceMethod yX8_isFree ∈ TB := tb_in (t4_in (List.mem_of_getElem? (i := 43) rfl)) rfl
theorem t_764 : Cond.code yX8_isFree cX8_isFree 2 (some .boolean) ∈ TB := tb_in (t4_in (List.mem_of_getElem? (i := 44) rfl)) rfl
theorem t_765 : Cond.methodLink RX8 130 yX8_above ∈ TB := tb_in (t4_in (List.mem_of_getElem? (i := 45) rfl)) rfl
theorem t_767 : Cond.instanceMethod yX8_above ∈ TB := tb_in (t4_in (List.mem_of_getElem? (i := 47) rfl)) rfl
theorem t_768 : Cond.code yX8_above cX8_above 4 (some .int) ∈ TB := tb_in (t4_in (List.mem_of_getElem? (i := 48) rfl)) rfl
theorem t_769 : Cond.methodLink RX8 136 yX8_beside ∈ TB := tb_in (t4_in (List.mem_of_getElem? (i := 49) rfl)) rfl
theorem t_770 : Cond.static yX8_beside ∈ TB := tb_in (t4_in (List.mem_of_getElem? (i := 50) rfl)) rfl
theorem t_771 : Cond.code yX8_beside cX8_beside 2 (some .int) ∈ TB := tb_in (t4_in (List.mem_of_getElem? (i := 51) rfl)) rfl
theorem t_772 : Cond.methodLink "SnowBallsLaw" 59 yX8_roll ∈ TB := tb_in (t4_in (List.mem_of_getElem? (i := 52) rfl)) rfl
theorem t_773 : Cond.instanceMethod yX8_roll ∈ TB := tb_in (t4_in (List.mem_of_getElem? (i := 53) rfl)) rfl
theorem t_774 : Cond.selects RX8 yX8_roll yX8_roll ∈ TB := tb_in (t4_in (List.mem_of_getElem? (i := 54) rfl)) rfl
theorem t_775 : Cond.code yX8_roll cX8_roll 3 (some .int) ∈ TB := tb_in (t4_in (List.mem_of_getElem? (i := 55) rfl)) rfl
theorem t_776 : Cond.methodLink RX8 143 yX8_doRoll ∈ TB := tb_in (t4_in (List.mem_of_getElem? (i := 56) rfl)) rfl
theorem t_778 : Cond.instanceMethod yX8_doRoll ∈ TB := tb_in (t4_in (List.mem_of_getElem? (i := 58) rfl)) rfl
theorem t_779 : Cond.code yX8_doRoll cX8_doRoll 7 none ∈ TB := tb_in (t4_in (List.mem_of_getElem? (i := 59) rfl)) rfl
theorem t_780 : Cond.methodLink "SnowBallsLaw" 63 yX8_lift ∈ TB := tb_in (t4_in (List.mem_of_getElem? (i := 60) rfl)) rfl
theorem t_781 : Cond.instanceMethod yX8_lift ∈ TB := tb_in (t4_in (List.mem_of_getElem? (i := 61) rfl)) rfl
theorem t_782 : Cond.selects RX8 yX8_lift yX8_lift ∈ TB := tb_in (t4_in (List.mem_of_getElem? (i := 62) rfl)) rfl
theorem t_783 : Cond.code yX8_lift cX8_lift 3 (some .int) ∈ TB := tb_in (t4_in (List.mem_of_getElem? (i := 63) rfl)) rfl
theorem t_784 : Cond.methodLink RX8 153 yX8_mayLift ∈ TB := tb_in (t4_in (List.mem_of_getElem? (i := 64) rfl)) rfl
theorem t_786 : Cond.instanceMethod yX8_mayLift ∈ TB := tb_in (t4_in (List.mem_of_getElem? (i := 66) rfl)) rfl
theorem t_787 : Cond.code yX8_mayLift cX8_mayLift 3 (some .boolean) ∈ TB := tb_in (t4_in (List.mem_of_getElem? (i := 67) rfl)) rfl
theorem t_788 : Cond.methodLink RX8 147 yX8_areBeside ∈ TB := tb_in (t4_in (List.mem_of_getElem? (i := 68) rfl)) rfl
theorem t_789 : Cond.static yX8_areBeside ∈ TB := tb_in (t4_in (List.mem_of_getElem? (i := 69) rfl)) rfl
theorem t_790 : Cond.code yX8_areBeside cX8_areBeside 4 (some .boolean) ∈ TB := tb_in (t4_in (List.mem_of_getElem? (i := 70) rfl)) rfl
theorem t_791 : Cond.methodLink RX8 150 yX8_standMany ∈ TB := tb_in (t4_in (List.mem_of_getElem? (i := 71) rfl)) rfl
theorem t_793 : Cond.instanceMethod yX8_standMany ∈ TB := tb_in (t4_in (List.mem_of_getElem? (i := 73) rfl)) rfl
theorem t_794 : Cond.code yX8_standMany cX8_standMany 4 (some .int) ∈ TB := tb_in (t4_in (List.mem_of_getElem? (i := 74) rfl)) rfl
theorem t_795 : Cond.methodLink "SnowBallsLaw" 67 yX8_day ∈ TB := tb_in (t4_in (List.mem_of_getElem? (i := 75) rfl)) rfl
theorem t_796 : Cond.instanceMethod yX8_day ∈ TB := tb_in (t4_in (List.mem_of_getElem? (i := 76) rfl)) rfl
theorem t_797 : Cond.selects RX8 yX8_day yX8_day ∈ TB := tb_in (t4_in (List.mem_of_getElem? (i := 77) rfl)) rfl
theorem t_798 : Cond.code yX8_day cX8_day 5 (some .int) ∈ TB := tb_in (t4_in (List.mem_of_getElem? (i := 78) rfl)) rfl
theorem t_799 : Cond.methodLink RX8 156 yX8_loss ∈ TB := tb_in (t4_in (List.mem_of_getElem? (i := 79) rfl)) rfl
theorem t_800 : Cond.static yX8_loss ∈ TB := tb_in (t4_in (List.mem_of_getElem? (i := 80) rfl)) rfl
theorem t_801 : Cond.code yX8_loss cX8_loss 2 (some .int) ∈ TB := tb_in (t4_in (List.mem_of_getElem? (i := 81) rfl)) rfl
theorem t_802 : Cond.methodLink RX8 159 yX8_goAway ∈ TB := tb_in (t4_in (List.mem_of_getElem? (i := 82) rfl)) rfl
theorem t_804 : Cond.instanceMethod yX8_goAway ∈ TB := tb_in (t4_in (List.mem_of_getElem? (i := 84) rfl)) rfl
theorem t_805 : Cond.code yX8_goAway cX8_goAway 4 none ∈ TB := tb_in (t4_in (List.mem_of_getElem? (i := 85) rfl)) rfl
theorem t_806 : Cond.methodLink "SnowBallsLaw" 72 yX8_largest ∈ TB := tb_in (t4_in (List.mem_of_getElem? (i := 86) rfl)) rfl
theorem t_807 : Cond.instanceMethod yX8_largest ∈ TB := tb_in (t4_in (List.mem_of_getElem? (i := 87) rfl)) rfl
theorem t_808 : Cond.selects RX8 yX8_largest yX8_largest ∈ TB := tb_in (t4_in (List.mem_of_getElem? (i := 88) rfl)) rfl
theorem t_809 : Cond.code yX8_largest cX8_largest 4 (some .int) ∈ TB := tb_in (t4_in (List.mem_of_getElem? (i := 89) rfl)) rfl
theorem t_810 : Cond.methodLink RX8 193 yX8_layLargest ∈ TB := tb_in (t4_in (List.mem_of_getElem? (i := 90) rfl)) rfl
theorem t_812 : Cond.instanceMethod yX8_layLargest ∈ TB := tb_in (t4_in (List.mem_of_getElem? (i := 92) rfl)) rfl
theorem t_813 : Cond.code yX8_layLargest cX8_layLargest 7 none ∈ TB := tb_in (t4_in (List.mem_of_getElem? (i := 93) rfl)) rfl
theorem t_814 : Cond.methodLink RX8 181 yX8_save ∈ TB := tb_in (t4_in (List.mem_of_getElem? (i := 94) rfl)) rfl
theorem t_816 : Cond.instanceMethod yX8_save ∈ TB := tb_in (t4_in (List.mem_of_getElem? (i := 96) rfl)) rfl
theorem t_817 : Cond.code yX8_save cX8_save 3 none ∈ TB := tb_in (t4_in (List.mem_of_getElem? (i := 97) rfl)) rfl
theorem t_818 : Cond.methodLink RX8 172 yX8_power ∈ TB := tb_in (t4_in (List.mem_of_getElem? (i := 98) rfl)) rfl
theorem t_819 : Cond.static yX8_power ∈ TB := tb_in (t4_in (List.mem_of_getElem? (i := 99) rfl)) rfl
theorem t_820 : Cond.code yX8_power cX8_power 3 (some .int) ∈ TB := tb_in (t4_in (List.mem_of_getElem? (i := 100) rfl)) rfl
theorem t_821 : Cond.methodLink RX8 184 yX8_rollsBy ∈ TB := tb_in (t4_in (List.mem_of_getElem? (i := 101) rfl)) rfl
theorem t_823 : Cond.instanceMethod yX8_rollsBy ∈ TB := tb_in (t4_in (List.mem_of_getElem? (i := 103) rfl)) rfl
theorem t_824 : Cond.code yX8_rollsBy cX8_rollsBy 8 (some .boolean) ∈ TB := tb_in (t4_in (List.mem_of_getElem? (i := 104) rfl)) rfl
theorem t_825 : Cond.methodLink RX8 187 yX8_back ∈ TB := tb_in (t4_in (List.mem_of_getElem? (i := 105) rfl)) rfl
theorem t_827 : Cond.instanceMethod yX8_back ∈ TB := tb_in (t4_in (List.mem_of_getElem? (i := 107) rfl)) rfl
theorem t_828 : Cond.code yX8_back cX8_back 3 none ∈ TB := tb_in (t4_in (List.mem_of_getElem? (i := 108) rfl)) rfl
theorem t_829 : Cond.methodLink "SnowBallsLaw" 76 yX8_comes ∈ TB := tb_in (t4_in (List.mem_of_getElem? (i := 109) rfl)) rfl
theorem t_830 : Cond.instanceMethod yX8_comes ∈ TB := tb_in (t4_in (List.mem_of_getElem? (i := 110) rfl)) rfl
theorem t_831 : Cond.selects RX8 yX8_comes yX8_comes ∈ TB := tb_in (t4_in (List.mem_of_getElem? (i := 111) rfl)) rfl
theorem t_832 : Cond.code yX8_comes cX8_comes 3 (some .int) ∈ TB := tb_in (t4_in (List.mem_of_getElem? (i := 112) rfl)) rfl
theorem t_833 : Cond.methodLink RX8 196 yX8_comesNow ∈ TB := tb_in (t4_in (List.mem_of_getElem? (i := 113) rfl)) rfl
theorem t_835 : Cond.instanceMethod yX8_comesNow ∈ TB := tb_in (t4_in (List.mem_of_getElem? (i := 115) rfl)) rfl
theorem t_836 : Cond.code yX8_comesNow cX8_comesNow 7 (some .int) ∈ TB := tb_in (t4_in (List.mem_of_getElem? (i := 116) rfl)) rfl
theorem t_837 : Cond.methodLink "SnowBallsLaw" 80 yX8_highest ∈ TB := tb_in (t4_in (List.mem_of_getElem? (i := 117) rfl)) rfl
theorem t_838 : Cond.instanceMethod yX8_highest ∈ TB := tb_in (t4_in (List.mem_of_getElem? (i := 118) rfl)) rfl
theorem t_839 : Cond.selects RX8 yX8_highest yX8_highest ∈ TB := tb_in (t4_in (List.mem_of_getElem? (i := 119) rfl)) rfl
theorem t_840 : Cond.code yX8_highest cX8_highest 2 (some .int) ∈ TB := tb_in (t4_in (List.mem_of_getElem? (i := 120) rfl)) rfl
theorem t_841 : Cond.methodLink RX8 202 yX8_highestNow ∈ TB := tb_in (t4_in (List.mem_of_getElem? (i := 121) rfl)) rfl
theorem t_843 : Cond.instanceMethod yX8_highestNow ∈ TB := tb_in (t4_in (List.mem_of_getElem? (i := 123) rfl)) rfl
theorem t_844 : Cond.code yX8_highestNow cX8_highestNow 10 (some .int) ∈ TB := tb_in (t4_in (List.mem_of_getElem? (i := 124) rfl)) rfl
theorem t_845 : Cond.methodLink RX8 199 yX8_mayStand ∈ TB := tb_in (t4_in (List.mem_of_getElem? (i := 125) rfl)) rfl
theorem t_847 : Cond.instanceMethod yX8_mayStand ∈ TB := tb_in (t4_in (List.mem_of_getElem? (i := 127) rfl)) rfl
theorem t_848 : Cond.code yX8_mayStand cX8_mayStand 6 (some .boolean) ∈ TB := tb_in (t4_in (List.mem_of_getElem? (i := 128) rfl)) rfl
theorem t_849 : Cond.methodLink "SnowBallsLaw" 84 yX8_lasts ∈ TB := tb_in (t4_in (List.mem_of_getElem? (i := 129) rfl)) rfl
theorem t_850 : Cond.instanceMethod yX8_lasts ∈ TB := tb_in (t4_in (List.mem_of_getElem? (i := 130) rfl)) rfl
theorem t_851 : Cond.selects RX8 yX8_lasts yX8_lasts ∈ TB := tb_in (t4_in (List.mem_of_getElem? (i := 131) rfl)) rfl
theorem t_852 : Cond.code yX8_lasts cX8_lasts 2 (some .int) ∈ TB := tb_in (t4_in (List.mem_of_getElem? (i := 132) rfl)) rfl
theorem t_853 : Cond.methodLink RX8 205 yX8_lastsNow ∈ TB := tb_in (t4_in (List.mem_of_getElem? (i := 133) rfl)) rfl
theorem t_855 : Cond.instanceMethod yX8_lastsNow ∈ TB := tb_in (t4_in (List.mem_of_getElem? (i := 135) rfl)) rfl
theorem t_856 : Cond.code yX8_lastsNow cX8_lastsNow 6 (some .int) ∈ TB := tb_in (t4_in (List.mem_of_getElem? (i := 136) rfl)) rfl
theorem t_857 : Cond.methodLink "SnowBallsLaw" 89 yX8_book ∈ TB := tb_in (t4_in (List.mem_of_getElem? (i := 137) rfl)) rfl
theorem t_858 : Cond.instanceMethod yX8_book ∈ TB := tb_in (t4_in (List.mem_of_getElem? (i := 138) rfl)) rfl
theorem t_859 : Cond.selects RX8 yX8_book yX8_book ∈ TB := tb_in (t4_in (List.mem_of_getElem? (i := 139) rfl)) rfl
theorem t_860 : Cond.code yX8_book cX8_book 5 (some .int) ∈ TB := tb_in (t4_in (List.mem_of_getElem? (i := 140) rfl)) rfl
theorem t_861 : Cond.methodLink RX8 211 yX8_bookNow ∈ TB := tb_in (t4_in (List.mem_of_getElem? (i := 141) rfl)) rfl
theorem t_863 : Cond.instanceMethod yX8_bookNow ∈ TB := tb_in (t4_in (List.mem_of_getElem? (i := 143) rfl)) rfl
theorem t_864 : Cond.code yX8_bookNow cX8_bookNow 8 (some .int) ∈ TB := tb_in (t4_in (List.mem_of_getElem? (i := 144) rfl)) rfl
theorem t_865 : Cond.methodLink "SnowBallsLaw" 93 yX8_games ∈ TB := tb_in (t4_in (List.mem_of_getElem? (i := 145) rfl)) rfl
theorem t_866 : Cond.instanceMethod yX8_games ∈ TB := tb_in (t4_in (List.mem_of_getElem? (i := 146) rfl)) rfl
theorem t_867 : Cond.selects RX8 yX8_games yX8_games ∈ TB := tb_in (t4_in (List.mem_of_getElem? (i := 147) rfl)) rfl
theorem t_868 : Cond.code yX8_games cX8_games 4 (some .int) ∈ TB := tb_in (t4_in (List.mem_of_getElem? (i := 148) rfl)) rfl
theorem t_869 : Cond.methodLink RX8 233 yX8_gamesNow ∈ TB := tb_in (t4_in (List.mem_of_getElem? (i := 149) rfl)) rfl
theorem t_871 : Cond.instanceMethod yX8_gamesNow ∈ TB := tb_in (t4_in (List.mem_of_getElem? (i := 151) rfl)) rfl
theorem t_872 : Cond.code yX8_gamesNow cX8_gamesNow 8 (some .int) ∈ TB := tb_in (t4_in (List.mem_of_getElem? (i := 152) rfl)) rfl
theorem t_873 : Cond.methodLink RX8 227 yX8_draw ∈ TB := tb_in (t4_in (List.mem_of_getElem? (i := 153) rfl)) rfl
theorem t_875 : Cond.instanceMethod yX8_draw ∈ TB := tb_in (t4_in (List.mem_of_getElem? (i := 155) rfl)) rfl
theorem t_876 : Cond.code yX8_draw cX8_draw 2 (some .int) ∈ TB := tb_in (t4_in (List.mem_of_getElem? (i := 156) rfl)) rfl
theorem t_877 : Cond.constantLong RX8 215 (1103515245) ∈ TB := tb_in (t4_in (List.mem_of_getElem? (i := 157) rfl)) rfl
theorem t_878 : Cond.constantLong RX8 221 (12345) ∈ TB := tb_in (t4_in (List.mem_of_getElem? (i := 158) rfl)) rfl
theorem t_879 : Cond.constantLong RX8 223 (2147483647) ∈ TB := tb_in (t4_in (List.mem_of_getElem? (i := 159) rfl)) rfl
theorem t_880 : Cond.constantLong RX8 225 (65536) ∈ TB := tb_in (t4_in (List.mem_of_getElem? (i := 160) rfl)) rfl
theorem t_881 : Cond.methodLink RX8 230 yX8_sizeAll ∈ TB := tb_in (t4_in (List.mem_of_getElem? (i := 161) rfl)) rfl
theorem t_883 : Cond.instanceMethod yX8_sizeAll ∈ TB := tb_in (t4_in (List.mem_of_getElem? (i := 163) rfl)) rfl
theorem t_884 : Cond.code yX8_sizeAll cX8_sizeAll 3 (some .int) ∈ TB := tb_in (t4_in (List.mem_of_getElem? (i := 164) rfl)) rfl
theorem t_885 : Cond.methodLink "SnowBallsLaw" 97 yX8_image ∈ TB := tb_in (t4_in (List.mem_of_getElem? (i := 165) rfl)) rfl
theorem t_886 : Cond.instanceMethod yX8_image ∈ TB := tb_in (t4_in (List.mem_of_getElem? (i := 166) rfl)) rfl
theorem t_887 : Cond.selects RX8 yX8_image yX8_image ∈ TB := tb_in (t4_in (List.mem_of_getElem? (i := 167) rfl)) rfl
theorem t_888 : Cond.code yX8_image cX8_image 2 (some .int) ∈ TB := tb_in (t4_in (List.mem_of_getElem? (i := 168) rfl)) rfl
theorem t_889 : Cond.methodLink "SnowBallsLaw" 101 yX8_restore ∈ TB := tb_in (t4_in (List.mem_of_getElem? (i := 169) rfl)) rfl
theorem t_890 : Cond.instanceMethod yX8_restore ∈ TB := tb_in (t4_in (List.mem_of_getElem? (i := 170) rfl)) rfl
theorem t_891 : Cond.selects RX8 yX8_restore yX8_restore ∈ TB := tb_in (t4_in (List.mem_of_getElem? (i := 171) rfl)) rfl
theorem t_892 : Cond.code yX8_restore cX8_restore 2 (some .int) ∈ TB := tb_in (t4_in (List.mem_of_getElem? (i := 172) rfl)) rfl
theorem t_893 : Cond.methodLink "SnowBallsLaw" 105 yX8_count ∈ TB := tb_in (t4_in (List.mem_of_getElem? (i := 173) rfl)) rfl
theorem t_894 : Cond.instanceMethod yX8_count ∈ TB := tb_in (t4_in (List.mem_of_getElem? (i := 174) rfl)) rfl
theorem t_895 : Cond.selects RX8 yX8_count yX8_count ∈ TB := tb_in (t4_in (List.mem_of_getElem? (i := 175) rfl)) rfl
theorem t_896 : Cond.code yX8_count cX8_count 2 (some .int) ∈ TB := tb_in (t4_in (List.mem_of_getElem? (i := 176) rfl)) rfl
theorem t_897 : Cond.methodLink RX8 258 yX8_howMany ∈ TB := tb_in (t4_in (List.mem_of_getElem? (i := 177) rfl)) rfl
theorem t_899 : Cond.instanceMethod yX8_howMany ∈ TB := tb_in (t4_in (List.mem_of_getElem? (i := 179) rfl)) rfl
theorem t_900 : Cond.code yX8_howMany cX8_howMany 2 (some .int) ∈ TB := tb_in (t4_in (List.mem_of_getElem? (i := 180) rfl)) rfl
theorem t_901 : Cond.methodLink RX8 252 yX8_goneMany ∈ TB := tb_in (t4_in (List.mem_of_getElem? (i := 181) rfl)) rfl
theorem t_903 : Cond.instanceMethod yX8_goneMany ∈ TB := tb_in (t4_in (List.mem_of_getElem? (i := 183) rfl)) rfl
theorem t_904 : Cond.code yX8_goneMany cX8_goneMany 3 (some .int) ∈ TB := tb_in (t4_in (List.mem_of_getElem? (i := 184) rfl)) rfl
theorem t_905 : Cond.methodLink RX8 255 yX8_greenMany ∈ TB := tb_in (t4_in (List.mem_of_getElem? (i := 185) rfl)) rfl
theorem t_907 : Cond.instanceMethod yX8_greenMany ∈ TB := tb_in (t4_in (List.mem_of_getElem? (i := 187) rfl)) rfl
theorem t_908 : Cond.code yX8_greenMany cX8_greenMany 3 (some .int) ∈ TB := tb_in (t4_in (List.mem_of_getElem? (i := 188) rfl)) rfl
theorem t_909 : Cond.methodLink "SnowBallsLaw" 110 yX8_digest ∈ TB := tb_in (t4_in (List.mem_of_getElem? (i := 189) rfl)) rfl
theorem t_910 : Cond.instanceMethod yX8_digest ∈ TB := tb_in (t4_in (List.mem_of_getElem? (i := 190) rfl)) rfl
theorem t_911 : Cond.selects RX8 yX8_digest yX8_digest ∈ TB := tb_in (t4_in (List.mem_of_getElem? (i := 191) rfl)) rfl
theorem t_912 : Cond.code yX8_digest cX8_digest 3 (some .long) ∈ TB := tb_in (t4_in (List.mem_of_getElem? (i := 192) rfl)) rfl
theorem t_913 : Cond.constantLong RX8 266 (727) ∈ TB := tb_in (t4_in (List.mem_of_getElem? (i := 193) rfl)) rfl
theorem t_914 : Cond.methodLink RX8 268 yX8_mix ∈ TB := tb_in (t4_in (List.mem_of_getElem? (i := 194) rfl)) rfl
theorem t_916 : Cond.instanceMethod yX8_mix ∈ TB := tb_in (t4_in (List.mem_of_getElem? (i := 196) rfl)) rfl
theorem t_917 : Cond.code yX8_mix cX8_mix 3 none ∈ TB := tb_in (t4_in (List.mem_of_getElem? (i := 197) rfl)) rfl
theorem t_918 : Cond.constantLong RX8 261 (31) ∈ TB := tb_in (t4_in (List.mem_of_getElem? (i := 198) rfl)) rfl
theorem t_919 : Cond.fieldLink RX7 134 "SnowBalls$Kind" "number" "I" ∈ TB := tb_in (t4_in (List.mem_of_getElem? (i := 199) rfl)) rfl
theorem t_920 : Cond.fieldLink RX2 42 "SnowBalls$Kind" "weightTimes" "I" ∈ TB := tb_in (t4_in (List.mem_of_getElem? (i := 200) rfl)) rfl
theorem t_921 : Cond.fieldLink RX2 45 "SnowBalls$Kind" "moreBreadth" "I" ∈ TB := tb_in (t4_in (List.mem_of_getElem? (i := 201) rfl)) rfl
theorem t_922 : Cond.fieldLink RX2 48 "SnowBalls$Kind" "takesAllFrom" "I" ∈ TB := tb_in (t4_in (List.mem_of_getElem? (i := 202) rfl)) rfl
theorem t_923 : Cond.fieldLink RX2 51 "SnowBalls$Kind" "meltTimes" "I" ∈ TB := tb_in (t4_in (List.mem_of_getElem? (i := 203) rfl)) rfl
theorem t_924 : Cond.fieldLink RX2 54 "SnowBalls$Kind" "moreMelt" "I" ∈ TB := tb_in (t4_in (List.mem_of_getElem? (i := 204) rfl)) rfl
theorem ts_0 : Cond.selects RX7 yX7_hasLawn yX7_hasLawn ∈ TB := tb_in (s_in (List.mem_of_getElem? (i := 0) rfl)) rfl
theorem ts_1 : Cond.selects RX7 yX7_isBall yX7_isBall ∈ TB := tb_in (s_in (List.mem_of_getElem? (i := 1) rfl)) rfl
theorem ts_2 : Cond.selects RX4 yX4_lower yX4_lower ∈ TB := tb_in (s_in (List.mem_of_getElem? (i := 2) rfl)) rfl
theorem ts_3 : Cond.selects RX7 yX7_maySearch yX7_maySearch ∈ TB := tb_in (s_in (List.mem_of_getElem? (i := 3) rfl)) rfl
theorem ts_4 : Cond.selects RX4 yX4_couldStack yX4_couldStack ∈ TB := tb_in (s_in (List.mem_of_getElem? (i := 4) rfl)) rfl
theorem ts_5 : Cond.selects RX4 yX4_couldJoin yX4_couldJoin ∈ TB := tb_in (s_in (List.mem_of_getElem? (i := 5) rfl)) rfl
theorem ts_6 : Cond.selects RX7 yX7_digestOfPlaces yX7_digestOfPlaces ∈ TB := tb_in (s_in (List.mem_of_getElem? (i := 6) rfl)) rfl
theorem ts_7 : Cond.selects RX7 yX7_digestOfBalls yX7_digestOfBalls ∈ TB := tb_in (s_in (List.mem_of_getElem? (i := 7) rfl)) rfl
theorem ts_8 : Cond.selects RX8 yX8_readLawn yX8_readLawn ∈ TB := tb_in (s_in (List.mem_of_getElem? (i := 8) rfl)) rfl
theorem ts_9 : Cond.selects RX8 yX8_depthAll yX8_depthAll ∈ TB := tb_in (s_in (List.mem_of_getElem? (i := 9) rfl)) rfl
theorem ts_10 : Cond.selects RX8 yX8_standsOn yX8_standsOn ∈ TB := tb_in (s_in (List.mem_of_getElem? (i := 10) rfl)) rfl
theorem ts_11 : Cond.selects RX8 yX8_heightOf yX8_heightOf ∈ TB := tb_in (s_in (List.mem_of_getElem? (i := 11) rfl)) rfl
theorem ts_12 : Cond.selects RX8 yX8_lay yX8_lay ∈ TB := tb_in (s_in (List.mem_of_getElem? (i := 12) rfl)) rfl
theorem ts_13 : Cond.selects RX8 yX8_isBall yX8_isBall ∈ TB := tb_in (s_in (List.mem_of_getElem? (i := 13) rfl)) rfl
theorem ts_14 : Cond.selects RX8 yX8_ballNow yX8_ballNow ∈ TB := tb_in (s_in (List.mem_of_getElem? (i := 14) rfl)) rfl
theorem ts_15 : Cond.selects RX8 yX8_weighs yX8_weighs ∈ TB := tb_in (s_in (List.mem_of_getElem? (i := 15) rfl)) rfl
theorem ts_16 : Cond.selects RX8 yX8_breadth yX8_breadth ∈ TB := tb_in (s_in (List.mem_of_getElem? (i := 16) rfl)) rfl
theorem ts_17 : Cond.selects RX8 yX8_mayRoll yX8_mayRoll ∈ TB := tb_in (s_in (List.mem_of_getElem? (i := 17) rfl)) rfl
theorem ts_18 : Cond.selects RX8 yX8_isFree yX8_isFree ∈ TB := tb_in (s_in (List.mem_of_getElem? (i := 18) rfl)) rfl
theorem ts_19 : Cond.selects RX8 yX8_above yX8_above ∈ TB := tb_in (s_in (List.mem_of_getElem? (i := 19) rfl)) rfl
theorem ts_20 : Cond.selects RX8 yX8_doRoll yX8_doRoll ∈ TB := tb_in (s_in (List.mem_of_getElem? (i := 20) rfl)) rfl
theorem ts_21 : Cond.selects RX8 yX8_mayLift yX8_mayLift ∈ TB := tb_in (s_in (List.mem_of_getElem? (i := 21) rfl)) rfl
theorem ts_22 : Cond.selects RX8 yX8_standMany yX8_standMany ∈ TB := tb_in (s_in (List.mem_of_getElem? (i := 22) rfl)) rfl
theorem ts_23 : Cond.selects RX8 yX8_goAway yX8_goAway ∈ TB := tb_in (s_in (List.mem_of_getElem? (i := 23) rfl)) rfl
theorem ts_24 : Cond.selects RX8 yX8_layLargest yX8_layLargest ∈ TB := tb_in (s_in (List.mem_of_getElem? (i := 24) rfl)) rfl
theorem ts_25 : Cond.selects RX8 yX8_save yX8_save ∈ TB := tb_in (s_in (List.mem_of_getElem? (i := 25) rfl)) rfl
theorem ts_26 : Cond.selects RX8 yX8_rollsBy yX8_rollsBy ∈ TB := tb_in (s_in (List.mem_of_getElem? (i := 26) rfl)) rfl
theorem ts_27 : Cond.selects RX8 yX8_back yX8_back ∈ TB := tb_in (s_in (List.mem_of_getElem? (i := 27) rfl)) rfl
theorem ts_28 : Cond.selects RX8 yX8_comesNow yX8_comesNow ∈ TB := tb_in (s_in (List.mem_of_getElem? (i := 28) rfl)) rfl
theorem ts_29 : Cond.selects RX8 yX8_highestNow yX8_highestNow ∈ TB := tb_in (s_in (List.mem_of_getElem? (i := 29) rfl)) rfl
theorem ts_30 : Cond.selects RX8 yX8_mayStand yX8_mayStand ∈ TB := tb_in (s_in (List.mem_of_getElem? (i := 30) rfl)) rfl
theorem ts_31 : Cond.selects RX8 yX8_lastsNow yX8_lastsNow ∈ TB := tb_in (s_in (List.mem_of_getElem? (i := 31) rfl)) rfl
theorem ts_32 : Cond.selects RX8 yX8_bookNow yX8_bookNow ∈ TB := tb_in (s_in (List.mem_of_getElem? (i := 32) rfl)) rfl
theorem ts_33 : Cond.selects RX8 yX8_gamesNow yX8_gamesNow ∈ TB := tb_in (s_in (List.mem_of_getElem? (i := 33) rfl)) rfl
theorem ts_34 : Cond.selects RX8 yX8_draw yX8_draw ∈ TB := tb_in (s_in (List.mem_of_getElem? (i := 34) rfl)) rfl
theorem ts_35 : Cond.selects RX8 yX8_sizeAll yX8_sizeAll ∈ TB := tb_in (s_in (List.mem_of_getElem? (i := 35) rfl)) rfl
theorem ts_36 : Cond.selects RX8 yX8_howMany yX8_howMany ∈ TB := tb_in (s_in (List.mem_of_getElem? (i := 36) rfl)) rfl
theorem ts_37 : Cond.selects RX8 yX8_goneMany yX8_goneMany ∈ TB := tb_in (s_in (List.mem_of_getElem? (i := 37) rfl)) rfl
theorem ts_38 : Cond.selects RX8 yX8_greenMany yX8_greenMany ∈ TB := tb_in (s_in (List.mem_of_getElem? (i := 38) rfl)) rfl
theorem ts_39 : Cond.selects RX8 yX8_mix yX8_mix ∈ TB := tb_in (s_in (List.mem_of_getElem? (i := 39) rfl)) rfl
theorem inT0 : ∀ w ∈ u_ws RX0 TX0 2, w ∈ TB := by
  show ∀ w ∈ (List.range 2).map (u_lay RX0 TX0), w ∈ TB
  rw [show List.range 2 = [0, 1] from rfl]
  exact List.forall_mem_cons.mpr ⟨t_122, List.forall_mem_cons.mpr ⟨t_124, fun _ h => absurd h List.not_mem_nil⟩⟩
theorem inT1 : ∀ w ∈ u_ws RX1 TX1 5, w ∈ TB := by
  show ∀ w ∈ (List.range 5).map (u_lay RX1 TX1), w ∈ TB
  rw [show List.range 5 = [0, 1, 2, 3, 4] from rfl]
  exact List.forall_mem_cons.mpr ⟨t_54, List.forall_mem_cons.mpr ⟨t_56, List.forall_mem_cons.mpr ⟨t_58, List.forall_mem_cons.mpr ⟨t_60, List.forall_mem_cons.mpr ⟨t_62, fun _ h => absurd h List.not_mem_nil⟩⟩⟩⟩⟩
theorem inT3 : ∀ w ∈ u_ws RX3 TX3 3, w ∈ TB := by
  show ∀ w ∈ (List.range 3).map (u_lay RX3 TX3), w ∈ TB
  rw [show List.range 3 = [0, 1, 2] from rfl]
  exact List.forall_mem_cons.mpr ⟨t_106, List.forall_mem_cons.mpr ⟨t_108, List.forall_mem_cons.mpr ⟨t_110, fun _ h => absurd h List.not_mem_nil⟩⟩⟩
theorem inT4 : ∀ w ∈ u_ws RX4 TX4 6, w ∈ TB := by
  show ∀ w ∈ (List.range 6).map (u_lay RX4 TX4), w ∈ TB
  rw [show List.range 6 = [0, 1, 2, 3, 4, 5] from rfl]
  exact List.forall_mem_cons.mpr ⟨t_79, List.forall_mem_cons.mpr ⟨t_81, List.forall_mem_cons.mpr ⟨t_83, List.forall_mem_cons.mpr ⟨t_85, List.forall_mem_cons.mpr ⟨t_87, List.forall_mem_cons.mpr ⟨t_89, fun _ h => absurd h List.not_mem_nil⟩⟩⟩⟩⟩⟩
theorem inT6 : ∀ w ∈ u_ws RX6 TX6 3, w ∈ TB := by
  show ∀ w ∈ (List.range 3).map (u_lay RX6 TX6), w ∈ TB
  rw [show List.range 3 = [0, 1, 2] from rfl]
  exact List.forall_mem_cons.mpr ⟨t_137, List.forall_mem_cons.mpr ⟨t_139, List.forall_mem_cons.mpr ⟨t_141, fun _ h => absurd h List.not_mem_nil⟩⟩⟩
theorem inT7 : ∀ w ∈ u_ws RX7 TX7 12, w ∈ TB := by
  show ∀ w ∈ (List.range 12).map (u_lay RX7 TX7), w ∈ TB
  rw [show List.range 12 = [0, 1, 2, 3, 4, 5, 6, 7, 8, 9, 10, 11] from rfl]
  exact List.forall_mem_cons.mpr ⟨t_156, List.forall_mem_cons.mpr ⟨t_158, List.forall_mem_cons.mpr ⟨t_160, List.forall_mem_cons.mpr ⟨t_162, List.forall_mem_cons.mpr ⟨t_164, List.forall_mem_cons.mpr ⟨t_166, List.forall_mem_cons.mpr ⟨t_168, List.forall_mem_cons.mpr ⟨t_170, List.forall_mem_cons.mpr ⟨t_172, List.forall_mem_cons.mpr ⟨t_174, List.forall_mem_cons.mpr ⟨t_176, List.forall_mem_cons.mpr ⟨t_178, fun _ h => absurd h List.not_mem_nil⟩⟩⟩⟩⟩⟩⟩⟩⟩⟩⟩⟩
theorem inT8 : ∀ w ∈ u_ws RX8 TX8 39, w ∈ TB := by
  show ∀ w ∈ (List.range 39).map (u_lay RX8 TX8), w ∈ TB
  rw [show List.range 39 = [0, 1, 2, 3, 4, 5, 6, 7, 8, 9, 10, 11, 12, 13, 14, 15, 16, 17, 18, 19, 20, 21, 22, 23, 24, 25, 26, 27, 28, 29, 30, 31, 32, 33, 34, 35, 36, 37, 38] from rfl]
  exact List.forall_mem_cons.mpr ⟨t_592, List.forall_mem_cons.mpr ⟨t_594, List.forall_mem_cons.mpr ⟨t_596, List.forall_mem_cons.mpr ⟨t_598, List.forall_mem_cons.mpr ⟨t_600, List.forall_mem_cons.mpr ⟨t_602, List.forall_mem_cons.mpr ⟨t_604, List.forall_mem_cons.mpr ⟨t_606, List.forall_mem_cons.mpr ⟨t_608, List.forall_mem_cons.mpr ⟨t_610, List.forall_mem_cons.mpr ⟨t_612, List.forall_mem_cons.mpr ⟨t_614, List.forall_mem_cons.mpr ⟨t_616, List.forall_mem_cons.mpr ⟨t_618, List.forall_mem_cons.mpr ⟨t_620, List.forall_mem_cons.mpr ⟨t_622, List.forall_mem_cons.mpr ⟨t_624, List.forall_mem_cons.mpr ⟨t_626, List.forall_mem_cons.mpr ⟨t_628, List.forall_mem_cons.mpr ⟨t_630, List.forall_mem_cons.mpr ⟨t_632, List.forall_mem_cons.mpr ⟨t_634, List.forall_mem_cons.mpr ⟨t_636, List.forall_mem_cons.mpr ⟨t_638, List.forall_mem_cons.mpr ⟨t_640, List.forall_mem_cons.mpr ⟨t_642, List.forall_mem_cons.mpr ⟨t_644, List.forall_mem_cons.mpr ⟨t_646, List.forall_mem_cons.mpr ⟨t_648, List.forall_mem_cons.mpr ⟨t_650, List.forall_mem_cons.mpr ⟨t_652, List.forall_mem_cons.mpr ⟨t_654, List.forall_mem_cons.mpr ⟨t_656, List.forall_mem_cons.mpr ⟨t_658, List.forall_mem_cons.mpr ⟨t_660, List.forall_mem_cons.mpr ⟨t_662, List.forall_mem_cons.mpr ⟨t_664, List.forall_mem_cons.mpr ⟨t_666, List.forall_mem_cons.mpr ⟨t_668, fun _ h => absurd h List.not_mem_nil⟩⟩⟩⟩⟩⟩⟩⟩⟩⟩⟩⟩⟩⟩⟩⟩⟩⟩⟩⟩⟩⟩⟩⟩⟩⟩⟩⟩⟩⟩⟩⟩⟩⟩⟩⟩⟩⟩⟩
