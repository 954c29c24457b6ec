/-! the kernel runs the checker -/
-- X11_status steps 3
theorem k_r112_0 : c_run k_K k_P k_c112_0 k_b112 4000 = true := by decide +kernel
-- X11_top steps 4
theorem k_r113_0 : c_run k_K k_P k_c113_0 k_b113 4000 = true := by decide +kernel
-- X11_bottom steps 4
theorem k_r114_0 : c_run k_K k_P k_c114_0 k_b114 4000 = true := by decide +kernel
-- X11_tray steps 64
theorem k_r123_0 : c_run k_K k_P k_c123_0 k_b123 4000 = true := by decide +kernel
-- X11_write steps 73
theorem k_r125_0 : c_run k_K k_P k_c125_0 k_b125 4000 = true := by decide +kernel
-- X11_read steps 62
theorem k_r127_0 : c_run k_K k_P k_c127_0 k_b127 4000 = true := by decide +kernel
-- X11_pour steps 122
theorem k_r128_0 : c_run k_K k_P k_c128_0 k_b128 4000 = true := by decide +kernel
-- X11_feed steps 24
theorem k_r129_0 : c_run k_K k_P k_c129_0 k_b129 4000 = true := by decide +kernel
-- X11_land steps 69
theorem k_r132_0 : c_run k_K k_P k_c132_0 k_b132 4000 = true := by decide +kernel
-- X11_fault steps 16
theorem k_r133_0 : c_run k_K k_P k_c133_0 k_b133 4000 = true := by decide +kernel
-- X11_many steps 44
theorem k_r134_0 : c_run k_K k_P k_c134_0 k_b134 4000 = true := by decide +kernel
-- X11_boat steps 50
theorem k_r143_0 : c_run k_K k_P k_c143_0 k_b143 4000 = true := by decide +kernel
-- X11_tells steps 111
theorem k_r144_0 : c_run k_K k_P k_c144_0 k_b144 4000 = true := by decide +kernel
-- X11_sheet steps 67
theorem k_r145_0 : c_run k_K k_P k_c145_0 k_b145 4000 = true := by decide +kernel
-- X11_look steps 55
theorem k_r146_0 : c_run k_K k_P k_c146_0 k_b146 4000 = true := by decide +kernel
-- X11_say steps 48
theorem k_r147_0 : c_run k_K k_P k_c147_0 k_b147 4000 = true := by decide +kernel
-- X11_beside steps 17
theorem k_r148_0 : c_run k_K k_P k_c148_0 k_b148 4000 = true := by decide +kernel
-- X11_cut steps 45
theorem k_r149_0 : c_run k_K k_P k_c149_0 k_b149 4000 = true := by decide +kernel
-- X11_years steps 53
theorem k_r150_0 : c_run k_K k_P k_c150_0 k_b150 4000 = true := by decide +kernel
-- X11_rents steps 8
theorem k_r151_0 : c_run k_K k_P k_c151_0 k_b151 4000 = true := by decide +kernel
-- X11_sight steps 60
theorem k_r152_0 : c_run k_K k_P k_c152_0 k_b152 4000 = true := by decide +kernel
-- X11_counts steps 54
theorem k_r154_0 : c_run k_K k_P k_c154_0 k_b154 4000 = true := by decide +kernel
-- X11_mean steps 62
theorem k_r155_0 : c_run k_K k_P k_c155_0 k_b155 4000 = true := by decide +kernel
-- X11_differ steps 33
theorem k_r157_0 : c_run k_K k_P k_c157_0 k_b157 4000 = true := by decide +kernel
-- X11_far steps 43
theorem k_r160_0 : c_run k_K k_P k_c160_0 k_b160 4000 = true := by decide +kernel
-- X11_chance steps 66
theorem k_r161_0 : c_run k_K k_P k_c161_0 k_b161 4000 = true := by decide +kernel
-- X11_weave steps 71
theorem k_r162_0 : c_run k_K k_P k_c162_0 k_b162 4000 = true := by decide +kernel
-- X11_woven steps 37
theorem k_r163_0 : c_run k_K k_P k_c163_0 k_b163 4000 = true := by decide +kernel
-- X11_gap steps 56
theorem k_r164_0 : c_run k_K k_P k_c164_0 k_b164 4000 = true := by decide +kernel
-- X11_right steps 147
theorem k_r167_0 : c_run k_K k_P k_c167_0 k_b167 4000 = true := by decide +kernel
-- X11_left steps 543
theorem k_r169_0 : c_run k_K k_P k_c169_0 k_b169 4000 = true := by decide +kernel
-- X11_earlier steps 80
theorem k_r173_0 : c_run k_K k_P k_c173_0 k_b173 4000 = true := by decide +kernel
-- X11_trend steps 34
theorem k_r176_0 : c_run k_K k_P k_c176_0 k_b176 4000 = true := by decide +kernel
-- X11_split steps 73
theorem k_r177_0 : c_run k_K k_P k_c177_0 k_b177 4000 = true := by decide +kernel
-- X11_mix steps 34
theorem k_r180_0 : c_run k_K k_P k_c180_0 k_b180 4000 = true := by decide +kernel
-- X11_pure steps 34
theorem k_r181_0 : c_run k_K k_P k_c181_0 k_b181 4000 = true := by decide +kernel
-- X11_ways steps 57
theorem k_r190_0 : c_run k_K k_P k_c190_0 k_b190 4000 = true := by decide +kernel
-- X11_written steps 33
theorem k_r191_0 : c_run k_K k_P k_c191_0 k_b191 4000 = true := by decide +kernel
-- X11_writ steps 74
theorem k_r192_0 : c_run k_K k_P k_c192_0 k_b192 4000 = true := by decide +kernel
-- X11_line steps 57
theorem k_r193_0 : c_run k_K k_P k_c193_0 k_b193 4000 = true := by decide +kernel
-- X11_said steps 37
theorem k_r195_0 : c_run k_K k_P k_c195_0 k_b195 4000 = true := by decide +kernel
-- X11_turned steps 44
theorem k_r196_0 : c_run k_K k_P k_c196_0 k_b196 4000 = true := by decide +kernel
-- X11_turning steps 35
theorem k_r197_0 : c_run k_K k_P k_c197_0 k_b197 4000 = true := by decide +kernel
-- X11_back steps 38
theorem k_r199_0 : c_run k_K k_P k_c199_0 k_b199 4000 = true := by decide +kernel
-- X0_copy steps 35
theorem k_r1_0 : c_run k_K k_P k_c1_0 k_b1 4000 = true := by decide +kernel
-- X11_none steps 5
theorem k_r116_0 : c_run k_K k_P k_c116_0 k_b116 4000 = true := by decide +kernel
-- X11_isWithin steps 15
theorem k_r120_0 : c_run k_K k_P k_c120_0 k_b120 4000 = true := by decide +kernel
-- X11_lineStatus steps 20
theorem k_r194_0 : c_run k_K k_P k_c194_0 k_b194 4000 = true := by decide +kernel
-- X11_isText steps 17
theorem k_r189_0 : c_run k_K k_P k_c189_0 k_b189 4000 = true := by decide +kernel
-- X11_isBoat steps 14
theorem k_r138_0 : c_run k_K k_P k_c138_0 k_b138 4000 = true := by decide +kernel
-- X11_isLaw steps 14
theorem k_r137_0 : c_run k_K k_P k_c137_0 k_b137 4000 = true := by decide +kernel
-- X11_isTown steps 14
theorem k_r135_0 : c_run k_K k_P k_c135_0 k_b135 4000 = true := by decide +kernel
-- X11_areTowns steps 15
theorem k_r140_0 : c_run k_K k_P k_c140_0 k_b140 4000 = true := by decide +kernel
-- X11_boatStatus steps 46
theorem k_r158_0 : c_run k_K k_P k_c158_0 k_b158 4000 = true := by decide +kernel
-- X1_put steps 79
theorem k_r9_0 : c_run k_K k_P k_c9_0 k_b9 4000 = true := by decide +kernel
-- X11_areYears steps 17
theorem k_r141_0 : c_run k_K k_P k_c141_0 k_b141 4000 = true := by decide +kernel
-- X11_pickStatus steps 35
theorem k_r153_0 : c_run k_K k_P k_c153_0 k_b153 4000 = true := by decide +kernel
-- X11_give steps 5
theorem k_r118_0 : c_run k_K k_P k_c118_0 k_b118 4000 = true := by decide +kernel
-- X11_grant steps 5
theorem k_r117_0 : c_run k_K k_P k_c117_0 k_b117 4000 = true := by decide +kernel
-- X11_allOf steps 6
theorem k_r121_0 : c_run k_K k_P k_c121_0 k_b121 4000 = true := by decide +kernel
-- X11_isSheet steps 13
theorem k_r139_0 : c_run k_K k_P k_c139_0 k_b139 4000 = true := by decide +kernel
-- X11_placeStatus steps 41
theorem k_r124_0 : c_run k_K k_P k_c124_0 k_b124 4000 = true := by decide +kernel
-- J9_min_7cf53 steps 8
theorem k_r361_0 : c_run k_K k_P k_c361_0 k_b361 4000 = true := by decide +kernel
-- X2_copy steps 65
theorem k_r15_0 : c_run k_K k_P k_c15_0 k_b15 4000 = true := by decide +kernel
-- X11_tell steps 8
theorem k_r119_0 : c_run k_K k_P k_c119_0 k_b119 4000 = true := by decide +kernel
-- X11_refuse steps 5
theorem k_r115_0 : c_run k_K k_P k_c115_0 k_b115 4000 = true := by decide +kernel
-- X5_putBefore steps 7
theorem k_r65_0 : c_run k_K k_P k_c65_0 k_b65 4000 = true := by decide +kernel
-- X11_scanTape steps 10
theorem k_r131_0 : c_run k_K k_P k_c131_0 k_b131 4000 = true := by decide +kernel
-- X9_priceOf steps 28
theorem k_r96_0 : c_run k_K k_P k_c96_0 k_b96 4000 = true := by decide +kernel
-- J9_abs_067f4 steps 10
theorem k_r358_0 : c_run k_K k_P k_c358_0 k_b358 4000 = true := by decide +kernel
-- X8_copy steps 37
theorem k_r89_0 : c_run k_K k_P k_c89_0 k_b89 4000 = true := by decide +kernel
-- X7_valueNow steps 8
theorem k_r81_0 : c_run k_K k_P k_c81_0 k_b81 4000 = true := by decide +kernel
-- X11_townOf steps 15
theorem k_r142_0 : c_run k_K k_P k_c142_0 k_b142 4000 = true := by decide +kernel
-- X11_areWorlds steps 27
theorem k_r185_0 : c_run k_K k_P k_c185_0 k_b185 4000 = true := by decide +kernel
-- X11_hasDiffer steps 11
theorem k_r156_0 : c_run k_K k_P k_c156_0 k_b156 4000 = true := by decide +kernel
-- X5_putAfter steps 7
theorem k_r66_0 : c_run k_K k_P k_c66_0 k_b66 4000 = true := by decide +kernel
-- X0_setCell steps 21
theorem k_r3_0 : c_run k_K k_P k_c3_0 k_b3 4000 = true := by decide +kernel
-- X0_cell steps 23
theorem k_r2_0 : c_run k_K k_P k_c2_0 k_b2 4000 = true := by decide +kernel
-- X0_fits steps 95
theorem k_r4_0 : c_run k_K k_P k_c4_0 k_b4 4000 = true := by decide +kernel
-- X11_isKind steps 14
theorem k_r136_0 : c_run k_K k_P k_c136_0 k_b136 4000 = true := by decide +kernel
-- X11_cutTo steps 20
theorem k_r126_0 : c_run k_K k_P k_c126_0 k_b126 4000 = true := by decide +kernel
-- X4_isLetter steps 13
theorem k_r44_0 : c_run k_K k_P k_c44_0 k_b44 4000 = true := by decide +kernel
-- X4_put steps 65
theorem k_r47_0 : c_run k_K k_P k_c47_0 k_b47 4000 = true := by decide +kernel
-- J9_max_f86c9 steps 9
theorem k_r360_0 : c_run k_K k_P k_c360_0 k_b360 4000 = true := by decide +kernel
-- X3_copy steps 49
theorem k_r32_0 : c_run k_K k_P k_c32_0 k_b32 4000 = true := by decide +kernel
-- X10_run steps 44
theorem k_r104_0 : c_run k_K k_P k_c104_0 k_b104 4000 = true := by decide +kernel
-- X11_hasEarlier steps 34
theorem k_r172_0 : c_run k_K k_P k_c172_0 k_b172 4000 = true := by decide +kernel
-- X5_copy steps 29
theorem k_r64_0 : c_run k_K k_P k_c64_0 k_b64 4000 = true := by decide +kernel
-- X2_wageBy steps 150
theorem k_r28_0 : c_run k_K k_P k_c28_0 k_b28 4000 = true := by decide +kernel
-- X5_saidBy steps 103
theorem k_r68_0 : c_run k_K k_P k_c68_0 k_b68 4000 = true := by decide +kernel
-- X5_overlaps steps 39
theorem k_r67_0 : c_run k_K k_P k_c67_0 k_b67 4000 = true := by decide +kernel
-- X6_clear steps 13
theorem k_r71_0 : c_run k_K k_P k_c71_0 k_b71 4000 = true := by decide +kernel
-- X4_isDigit steps 13
theorem k_r45_0 : c_run k_K k_P k_c45_0 k_b45 4000 = true := by decide +kernel
-- X4_skip steps 47
theorem k_r57_0 : c_run k_K k_P k_c57_0 k_b57 4000 = true := by decide +kernel
-- X0_wageBy steps 191
theorem k_r6_0 : c_run k_K k_P k_c6_0 k_b6 4000 = true := by decide +kernel
-- X1_add steps 50
theorem k_r10_0 : c_run k_K k_P k_c10_0 k_b10 4000 = true := by decide +kernel
-- J9_max_7cf53 steps 8
theorem k_r359_0 : c_run k_K k_P k_c359_0 k_b359 4000 = true := by decide +kernel
-- X11_holds steps 12
theorem k_r122_0 : c_run k_K k_P k_c122_0 k_b122 4000 = true := by decide +kernel
-- X4_isSignByte steps 44
theorem k_r46_0 : c_run k_K k_P k_c46_0 k_b46 4000 = true := by decide +kernel
-- X3_parse steps 23
theorem k_r33_0 : c_run k_K k_P k_c33_0 k_b33 4000 = true := by decide +kernel
-- X4_atEnd steps 8
theorem k_r51_0 : c_run k_K k_P k_c51_0 k_b51 4000 = true := by decide +kernel
-- X2_joinedBy steps 36
theorem k_r30_0 : c_run k_K k_P k_c30_0 k_b30 4000 = true := by decide +kernel
-- J9_min_f86c9 steps 9
theorem k_r362_0 : c_run k_K k_P k_c362_0 k_b362 4000 = true := by decide +kernel
-- X10_doTry steps 103
theorem k_r109_0 : c_run k_K k_P k_c109_0 k_b109 4000 = true := by decide +kernel
-- X10_changeSight steps 64
theorem k_r110_0 : c_run k_K k_P k_c110_0 k_b110 4000 = true := by decide +kernel
-- X10_isReached steps 33
theorem k_r108_0 : c_run k_K k_P k_c108_0 k_b108 4000 = true := by decide +kernel
-- X4_word steps 3
theorem k_r55_0 : c_run k_K k_P k_c55_0 k_b55 4000 = true := by decide +kernel
-- X5_reset steps 24
theorem k_r63_0 : c_run k_K k_P k_c63_0 k_b63 4000 = true := by decide +kernel
-- X2_namePart steps 19
theorem k_r20_0 : c_run k_K k_P k_c20_0 k_b20 4000 = true := by decide +kernel
-- X4_fail steps 63
theorem k_r58_0 : c_run k_K k_P k_c58_0 k_b58 4000 = true := by decide +kernel
-- X2_lawPart steps 37
theorem k_r23_0 : c_run k_K k_P k_c23_0 k_b23 4000 = true := by decide +kernel
-- X2_boatPart steps 249
theorem k_r21_0 : c_run k_K k_P k_c21_0 k_b21 4000 = true := by decide +kernel
-- X8_endPart steps 54
theorem k_r91_0 : c_run k_K k_P k_c91_0 k_b91 4000 = true := by decide +kernel
-- X8_stepPart steps 195
theorem k_r92_0 : c_run k_K k_P k_c92_0 k_b92 4000 = true := by decide +kernel
-- X5_groupOf steps 500
theorem k_r69_0 : c_run k_K k_P k_c69_0 k_b69 4000 = true := by decide +kernel
-- X6_hasEach steps 35
theorem k_r76_0 : c_run k_K k_P k_c76_0 k_b76 4000 = true := by decide +kernel
-- X7_drop steps 40
theorem k_r85_0 : c_run k_K k_P k_c85_0 k_b85 4000 = true := by decide +kernel
-- X8_readRest steps 184
theorem k_r93_0 : c_run k_K k_P k_c93_0 k_b93 4000 = true := by decide +kernel
-- X4_need steps 13
theorem k_r59_0 : c_run k_K k_P k_c59_0 k_b59 4000 = true := by decide +kernel
-- X4_held steps 3
theorem k_r56_0 : c_run k_K k_P k_c56_0 k_b56 4000 = true := by decide +kernel
-- X2_takeName steps 44
theorem k_r17_0 : c_run k_K k_P k_c17_0 k_b17 4000 = true := by decide +kernel
-- X2_takeName steps 44
theorem k_r17_1 : c_run k_K k_P k_c17_1 k_b17 4000 = true := by decide +kernel
-- X4_isSign steps 17
theorem k_r53_0 : c_run k_K k_P k_c53_0 k_b53 4000 = true := by decide +kernel
-- X6_put steps 36
theorem k_r72_0 : c_run k_K k_P k_c72_0 k_b72 4000 = true := by decide +kernel
-- X11_addPart steps 59
theorem k_r179_0 : c_run k_K k_P k_c179_0 k_b179 4000 = true := by decide +kernel
-- X6_over steps 72
theorem k_r78_0 : c_run k_K k_P k_c78_0 k_b78 4000 = true := by decide +kernel
-- X6_rounded steps 10
theorem k_r79_0 : c_run k_K k_P k_c79_0 k_b79 4000 = true := by decide +kernel
-- X11_drawnRounded steps 12
theorem k_r187_0 : c_run k_K k_P k_c187_0 k_b187 4000 = true := by decide +kernel
-- X4_isName steps 122
theorem k_r54_0 : c_run k_K k_P k_c54_0 k_b54 4000 = true := by decide +kernel
-- X4_numberWithin steps 33
theorem k_r60_0 : c_run k_K k_P k_c60_0 k_b60 4000 = true := by decide +kernel
-- X3_claimPart steps 400
theorem k_r38_0 : c_run k_K k_P k_c38_0 k_b38 4000 = true := by decide +kernel
-- X3_emit steps 19
theorem k_r34_0 : c_run k_K k_P k_c34_0 k_b34 4000 = true := by decide +kernel
-- X6_under steps 24
theorem k_r77_0 : c_run k_K k_P k_c77_0 k_b77 4000 = true := by decide +kernel
-- X7_keep steps 11
theorem k_r87_0 : c_run k_K k_P k_c87_0 k_b87 4000 = true := by decide +kernel
-- X4_isNumber steps 9
theorem k_r52_0 : c_run k_K k_P k_c52_0 k_b52 4000 = true := by decide +kernel
-- J9_floorDiv_f86c9 steps 24
theorem k_r357_0 : c_run k_K k_P k_c357_0 k_b357 4000 = true := by decide +kernel
-- X2_isKnown steps 58
theorem k_r18_0 : c_run k_K k_P k_c18_0 k_b18 4000 = true := by decide +kernel
-- X3_valueOf steps 142
theorem k_r39_0 : c_run k_K k_P k_c39_0 k_b39 4000 = true := by decide +kernel
-- X1_isPassedBy steps 50
theorem k_r12_0 : c_run k_K k_P k_c12_0 k_b12 4000 = true := by decide +kernel
-- X1_isReachedBy steps 50
theorem k_r11_0 : c_run k_K k_P k_c11_0 k_b11 4000 = true := by decide +kernel
-- X1_isAbove steps 15
theorem k_r13_0 : c_run k_K k_P k_c13_0 k_b13 4000 = true := by decide +kernel
-- X2_emit steps 19
theorem k_r24_0 : c_run k_K k_P k_c24_0 k_b24 4000 = true := by decide +kernel
