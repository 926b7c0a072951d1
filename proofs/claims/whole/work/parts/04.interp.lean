set_option maxRecDepth 100000
/-! the methods: name, bytes, locals, what is returned, parameters, whose, kind (0 of an object, 1 static, 2 a constructor), the program -/
abbrev zM : Type := MethodName × ByteArray × Nat × Option FieldType × Nat × Nat × Nat × List (Nat × Instr × Nat)
def zm_0 : zM := (yX0_init, cX0_init, 1, none, 0, 0, 2, zp_0)
def zm_1 : zM := (yX0_tryOut, cX0_tryOut, 8, (some .int), 2, 0, 0, zp_1)
def zm_2 : zM := (yX0_begin, cX0_begin, 2, none, 1, 0, 0, zp_2)
def zm_3 : zM := (yX0_tryAct, cX0_tryAct, 5, none, 3, 0, 0, zp_3)
def zm_4 : zM := (yX0_countHand, cX0_countHand, 2, none, 1, 0, 0, zp_4)
def zm_5 : zM := (yX0_mostHanded, cX0_mostHanded, 4, (some .int), 0, 0, 0, zp_5)
def zm_6 : zM := (yX0_drift, cX0_drift, 6, none, 3, 0, 0, zp_6)
def zm_7 : zM := (yX0_drawAct, cX0_drawAct, 6, none, 3, 0, 0, zp_7)
def zm_8 : zM := (yX0_actByLot, cX0_actByLot, 1, (some .int), 1, 0, 1, zp_8)
def zm_9 : zM := (yX1_init, cX1_init, 2, none, 0, 1, 2, zp_9)
def zm_10 : zM := (yX1_copyFrom, cX1_copyFrom, 2, none, 1, 1, 0, zp_10)
def zm_11 : zM := (yX1_waysFrom, cX1_waysFrom, 2, (some .int), 1, 1, 0, zp_11)
def zm_12 : zM := (yX1_setWay, cX1_setWay, 6, none, 3, 1, 0, zp_12)
def zm_13 : zM := (yX1_countWays, cX1_countWays, 3, (some .int), 0, 1, 0, zp_13)
def zm_14 : zM := (yX1_neighboursOf, cX1_neighboursOf, 4, (some .int), 1, 1, 0, zp_14)
def zm_15 : zM := (yX1_stepsBetween, cX1_stepsBetween, 5, (some .int), 2, 1, 0, zp_15)
def zm_16 : zM := (yX1_reachableFrom, cX1_reachableFrom, 4, (some .int), 1, 1, 0, zp_16)
def zm_17 : zM := (yX1_hasCushion, cX1_hasCushion, 2, (some .boolean), 1, 1, 0, zp_17)
def zm_18 : zM := (yX1_benchOf, cX1_benchOf, 2, (some .int), 1, 1, 0, zp_18)
def zm_19 : zM := (yX1_placeOf, cX1_placeOf, 2, (some .int), 1, 1, 0, zp_19)
def zm_20 : zM := (yX1_heldBy, cX1_heldBy, 2, (some .int), 1, 1, 0, zp_20)
def zm_21 : zM := (yX1_lyingOn, cX1_lyingOn, 2, (some .int), 1, 1, 0, zp_21)
def zm_22 : zM := (yX1_memoryAt, cX1_memoryAt, 3, (some .int), 1, 1, 0, zp_22)
def zm_23 : zM := (yX1_freshOn, cX1_freshOn, 3, (some .int), 1, 1, 0, zp_23)
def zm_24 : zM := (yX1_standAt, cX1_standAt, 3, none, 2, 1, 0, zp_24)
def zm_25 : zM := (yX1_putWith, cX1_putWith, 3, none, 2, 1, 0, zp_25)
def zm_26 : zM := (yX1_makeNowhere, cX1_makeNowhere, 2, none, 1, 1, 0, zp_26)
def zm_27 : zM := (yX1_putOn, cX1_putOn, 4, none, 3, 1, 0, zp_27)
def zm_28 : zM := (yX1_countNowhere, cX1_countNowhere, 3, (some .int), 0, 1, 0, zp_28)
def zm_29 : zM := (yX1_countOnBenches, cX1_countOnBenches, 3, (some .int), 0, 1, 0, zp_29)
def zm_30 : zM := (yX1_whyNot, cX1_whyNot, 4, (some .int), 3, 1, 0, zp_30)
def zm_31 : zM := (yX1_whyNotSit, cX1_whyNotSit, 3, (some .int), 1, 1, 0, zp_31)
def zm_32 : zM := (yX1_whyNotChange, cX1_whyNotChange, 3, (some .int), 2, 1, 0, zp_32)
def zm_33 : zM := (yX1_carryOut, cX1_carryOut, 4, none, 3, 1, 0, zp_33)
def zm_34 : zM := (yX1_sitDown, cX1_sitDown, 5, none, 1, 1, 0, zp_34)
def zm_35 : zM := (yX1_swap, cX1_swap, 5, none, 2, 1, 0, zp_35)
def zm_36 : zM := (yX1_endDay, cX1_endDay, 3, none, 0, 1, 0, zp_36)
def zm_37 : zM := (yX1_addSight, cX1_addSight, 4, none, 3, 1, 0, zp_37)
def zm_38 : zM := (yX1_dropSights, cX1_dropSights, 1, none, 0, 1, 0, zp_38)
def zm_39 : zM := (yX1_allSeenSo, cX1_allSeenSo, 8, (some .boolean), 2, 1, 0, zp_39)
def zm_40 : zM := (yX2_init, cX2_init, 1, none, 0, 2, 2, zp_40)
def zm_41 : zM := (yX2_read, cX2_read, 5, (some .boolean), 1, 2, 0, zp_41)
def zm_42 : zM := (yX2_sittingsLeft, cX2_sittingsLeft, 7, (some .int), 0, 2, 0, zp_42)
def zm_43 : zM := (yX2_firstSitting, cX2_firstSitting, 4, (some .int), 0, 2, 0, zp_43)
def zm_44 : zM := (yX2_swapWith, cX2_swapWith, 3, none, 1, 2, 0, zp_44)
def zm_45 : zM := (yX3_init, cX3_init, 1, none, 0, 3, 2, zp_45)
def zm_46 : zM := (yX3_append, cX3_append, 2, none, 1, 3, 0, zp_46)
def zm_47 : zM := (yX3_empty, cX3_empty, 1, none, 0, 3, 0, zp_47)
def zm_48 : zM := (yX3_firstFault, cX3_firstFault, 3, (some .int), 0, 3, 0, zp_48)
def zm_49 : zM := (yX3_dueBehind, cX3_dueBehind, 2, (some .int), 2, 3, 1, zp_49)
def zm_50 : zM := (yX3_dueBehindStart, cX3_dueBehindStart, 1, (some .int), 1, 3, 1, zp_50)
def zm_51 : zM := (yX3_dueBehindDeed, cX3_dueBehindDeed, 1, (some .int), 1, 3, 1, zp_51)
def zm_52 : zM := (yX3_actEndedBy, cX3_actEndedBy, 2, (some .int), 2, 3, 1, zp_52)
def zm_53 : zM := (yX3_targetOf, cX3_targetOf, 1, (some .int), 1, 3, 1, zp_53)
def zm_54 : zM := (yX4_init, cX4_init, 1, none, 0, 4, 2, zp_54)
def zm_55 : zM := (yX4_shortest, cX4_shortest, 7, (some .int), 3, 4, 0, zp_55)
def zm_56 : zM := (yX4_gatherStops, cX4_gatherStops, 4, none, 2, 4, 0, zp_56)
def zm_57 : zM := (yX4_measureLegs, cX4_measureLegs, 5, none, 1, 4, 0, zp_57)
def zm_58 : zM := (yX4_cheapest, cX4_cheapest, 6, (some .int), 2, 4, 0, zp_58)
def zm_59 : zM := (yX5_init, cX5_init, 2, none, 1, 5, 2, zp_59)
def zm_60 : zM := (yX5_at, cX5_at, 2, (some .int), 1, 5, 0, zp_60)
def zm_61 : zM := (yX5_put, cX5_put, 3, none, 2, 5, 0, zp_61)
def zm_62 : zM := (yX5_fillWith, cX5_fillWith, 2, none, 1, 5, 0, zp_62)
def zm_63 : zM := (yX5_copyFrom, cX5_copyFrom, 2, none, 1, 5, 0, zp_63)
def zm_64 : zM := (yX6_init, cX6_init, 1, none, 0, 6, 2, zp_64)
def zm_65 : zM := (yX6_sift, cX6_sift, 4, none, 1, 6, 0, zp_65)
def zm_66 : zM := (yX6_holder, cX6_holder, 4, (some .int), 3, 6, 1, zp_66)
def zm_67 : zM := (yX6_chooseQuestion, cX6_chooseQuestion, 4, none, 0, 6, 0, zp_67)
def zm_68 : zM := (yX6_countHolders, cX6_countHolders, 4, none, 1, 6, 0, zp_68)
def zm_69 : zM := (yX7_init, cX7_init, 5, none, 0, 7, 2, zp_69)
def zm_70 : zM := (yX7_worthBehind, cX7_worthBehind, 3, (some .int), 2, 7, 0, zp_70)
def zm_71 : zM := (yX7_winningBench, cX7_winningBench, 3, (some .int), 1, 7, 0, zp_71)
def zm_72 : zM := (yX8_init, cX8_init, 1, none, 0, 8, 2, zp_72)
def zm_73 : zM := (yX8_explore, cX8_explore, 4, none, 2, 8, 0, zp_73)
def zm_74 : zM := (yX8_startsOf, cX8_startsOf, 7, (some .int), 2, 8, 0, zp_74)
def zm_75 : zM := (yX8_longestFrom, cX8_longestFrom, 4, (some .int), 1, 8, 0, zp_75)
def zm_76 : zM := (yX8_firstFrom, cX8_firstFrom, 9, (some .int), 3, 8, 0, zp_76)
def zm_77 : zM := (yX8_startsOfWalks, cX8_startsOfWalks, 5, (some .int), 2, 8, 0, zp_77)
def zm_78 : zM := (yX9_init, cX9_init, 1, none, 0, 9, 2, zp_78)
def zm_79 : zM := (yX9_way, cX9_way, 4, (some .int), 3, 9, 0, zp_79)
def zm_80 : zM := (yX9_stand, cX9_stand, 4, (some .int), 2, 9, 0, zp_80)
def zm_81 : zM := (yX9_give, cX9_give, 4, (some .int), 2, 9, 0, zp_81)
def zm_82 : zM := (yX9_lay, cX9_lay, 5, (some .int), 3, 9, 0, zp_82)
def zm_83 : zM := (yX9_forget, cX9_forget, 3, (some .int), 1, 9, 0, zp_83)
def zm_84 : zM := (yX9_say, cX9_say, 2, (some .int), 1, 9, 0, zp_84)
def zm_85 : zM := (yX9_wipe, cX9_wipe, 2, (some .int), 0, 9, 0, zp_85)
def zm_86 : zM := (yX9_fault, cX9_fault, 1, (some .int), 0, 9, 0, zp_86)
def zm_87 : zM := (yX9_judge, cX9_judge, 3, (some .int), 1, 9, 0, zp_87)
def zm_88 : zM := (yX9_behind, cX9_behind, 4, (some .int), 2, 9, 0, zp_88)
def zm_89 : zM := (yX9_lies, cX9_lies, 4, (some .int), 2, 9, 0, zp_89)
def zm_90 : zM := (yX9_hands, cX9_hands, 5, (some .int), 2, 9, 0, zp_90)
def zm_91 : zM := (yX9_most, cX9_most, 2, (some .int), 0, 9, 0, zp_91)
def zm_92 : zM := (yX9_done, cX9_done, 2, (some .int), 0, 9, 0, zp_92)
def zm_93 : zM := (yX9_steps, cX9_steps, 3, (some .int), 2, 9, 0, zp_93)
def zm_94 : zM := (yX9_get, cX9_get, 5, (some .int), 2, 9, 0, zp_94)
def zm_95 : zM := (yX9_round, cX9_round, 3, (some .int), 2, 9, 0, zp_95)
def zm_96 : zM := (yX9_walk, cX9_walk, 4, (some .int), 2, 9, 0, zp_96)
def zm_97 : zM := (yX9_right, cX9_right, 3, (some .int), 2, 9, 0, zp_97)
def zm_98 : zM := (yX9_seen, cX9_seen, 4, (some .int), 3, 9, 0, zp_98)
def zm_99 : zM := (yX9_clear, cX9_clear, 2, (some .int), 0, 9, 0, zp_99)
def zm_100 : zM := (yX9_fits, cX9_fits, 2, (some .int), 1, 9, 0, zp_100)
def zm_101 : zM := (yX9_ask, cX9_ask, 2, (some .int), 1, 9, 0, zp_101)
def zm_102 : zM := (yX9_take, cX9_take, 4, (some .int), 2, 9, 0, zp_102)
def zm_103 : zM := (yX9_evenings, cX9_evenings, 12, (some .long), 4, 9, 0, zp_103)
def zm_104 : zM := (yX9_season, cX9_season, 5, (some .int), 3, 9, 0, zp_104)
def zm_105 : zM := (yX9_image, cX9_image, 3, (some .int), 1, 9, 0, zp_105)
def zm_106 : zM := (yX9_restore, cX9_restore, 2, (some .int), 1, 9, 0, zp_106)
def zm_107 : zM := (yX9_told, cX9_told, 2, (some .int), 1, 9, 0, zp_107)
def zm_108 : zM := (yX9_toldOfOne, cX9_toldOfOne, 2, (some .int), 1, 9, 0, zp_108)
def zm_109 : zM := (yX9_isWithin, cX9_isWithin, 3, (some .boolean), 3, 9, 1, zp_109)
def zm_110 : zM := (yX9_isBench, cX9_isBench, 1, (some .boolean), 1, 9, 1, zp_110)
def zm_111 : zM := (yX9_isOne, cX9_isOne, 1, (some .boolean), 1, 9, 1, zp_111)
def zm_112 : zM := (yX9_isMemory, cX9_isMemory, 1, (some .boolean), 1, 9, 1, zp_112)
def zm_113 : zM := (yX9_has, cX9_has, 2, (some .boolean), 2, 9, 1, zp_113)
def zm_114 : zM := (yX9_power, cX9_power, 5, (some .long), 2, 9, 1, zp_114)
def zm_115 : zM := (yX9_commonDivisor, cX9_commonDivisor, 11, (some .long), 2, 9, 1, zp_115)
def zm_116 : zM := (yX10_init, cX10_init, 2, none, 0, 10, 2, zp_116)
def zm_117 : zM := (yX10_in, cX10_in, 6, (some .boolean), 3, 10, 1, zp_117)
def zm_118 : zM := (yX10_isBench, cX10_isBench, 1, (some .boolean), 1, 10, 1, zp_118)
def zm_119 : zM := (yX10_isOne, cX10_isOne, 1, (some .boolean), 1, 10, 1, zp_119)
def zm_120 : zM := (yX10_isMemory, cX10_isMemory, 1, (some .boolean), 1, 10, 1, zp_120)
def zm_121 : zM := (yX10_isIn, cX10_isIn, 2, (some .boolean), 2, 10, 1, zp_121)
def zm_122 : zM := (yX10_with, cX10_with, 3, (some .int), 3, 10, 1, zp_122)
def zm_123 : zM := (yX10_ones, cX10_ones, 3, (some .int), 1, 10, 1, zp_123)
def zm_124 : zM := (yX10_way, cX10_way, 6, (some .int), 3, 10, 0, zp_124)
def zm_125 : zM := (yX10_stand, cX10_stand, 4, (some .int), 2, 10, 0, zp_125)
def zm_126 : zM := (yX10_whereIs, cX10_whereIs, 4, (some .int), 1, 10, 0, zp_126)
def zm_127 : zM := (yX10_lose, cX10_lose, 3, (some .int), 1, 10, 0, zp_127)
def zm_128 : zM := (yX10_give, cX10_give, 4, (some .int), 2, 10, 0, zp_128)
def zm_129 : zM := (yX10_lay, cX10_lay, 5, (some .int), 3, 10, 0, zp_129)
def zm_130 : zM := (yX10_forget, cX10_forget, 2, (some .int), 1, 10, 0, zp_130)
def zm_131 : zM := (yX10_say, cX10_say, 2, (some .int), 1, 10, 0, zp_131)
def zm_132 : zM := (yX10_wipe, cX10_wipe, 2, (some .int), 0, 10, 0, zp_132)
def zm_133 : zM := (yX10_close, cX10_close, 3, (some .int), 2, 10, 0, zp_133)
def zm_134 : zM := (yX10_isName, cX10_isName, 1, (some .boolean), 1, 10, 1, zp_134)
def zm_135 : zM := (yX10_begin, cX10_begin, 2, (some .int), 1, 10, 0, zp_135)
def zm_136 : zM := (yX10_deed, cX10_deed, 2, (some .int), 1, 10, 0, zp_136)
def zm_137 : zM := (yX10_readOn, cX10_readOn, 3, (some .int), 2, 10, 0, zp_137)
def zm_138 : zM := (yX10_fault, cX10_fault, 3, (some .int), 0, 10, 0, zp_138)
def zm_139 : zM := (yX10_whyNoSeat, cX10_whyNoSeat, 3, (some .int), 1, 10, 0, zp_139)
def zm_140 : zM := (yX10_whyNoChange, cX10_whyNoChange, 3, (some .int), 2, 10, 0, zp_140)
def zm_141 : zM := (yX10_whyNot, cX10_whyNot, 4, (some .int), 3, 10, 0, zp_141)
def zm_142 : zM := (yX10_comeTo, cX10_comeTo, 3, none, 2, 10, 0, zp_142)
def zm_143 : zM := (yX10_sit, cX10_sit, 4, none, 1, 10, 0, zp_143)
def zm_144 : zM := (yX10_change, cX10_change, 4, none, 2, 10, 0, zp_144)
def zm_145 : zM := (yX10_evening, cX10_evening, 2, none, 0, 10, 0, zp_145)
def zm_146 : zM := (yX10_happen, cX10_happen, 4, none, 3, 10, 0, zp_146)
def zm_147 : zM := (yX10_keepNow, cX10_keepNow, 2, none, 0, 10, 0, zp_147)
def zm_148 : zM := (yX10_back, cX10_back, 3, (some .int), 1, 10, 0, zp_148)
def zm_149 : zM := (yX10_goDays, cX10_goDays, 3, none, 0, 10, 0, zp_149)
def zm_150 : zM := (yX10_refusal, cX10_refusal, 1, (some .int), 0, 10, 0, zp_150)
def zm_151 : zM := (yX10_judge, cX10_judge, 3, (some .int), 1, 10, 0, zp_151)
def zm_152 : zM := (yX10_behind, cX10_behind, 4, (some .int), 2, 10, 0, zp_152)
def zm_153 : zM := (yX10_lies, cX10_lies, 4, (some .int), 2, 10, 0, zp_153)
def zm_154 : zM := (yX10_hands, cX10_hands, 5, (some .int), 2, 10, 0, zp_154)
def zm_155 : zM := (yX10_most, cX10_most, 4, (some .int), 0, 10, 0, zp_155)
def zm_156 : zM := (yX10_done, cX10_done, 2, (some .int), 0, 10, 0, zp_156)
def zm_157 : zM := (yX10_far, cX10_far, 7, (some .int), 2, 10, 0, zp_157)
def zm_158 : zM := (yX10_steps, cX10_steps, 3, (some .int), 2, 10, 0, zp_158)
def zm_159 : zM := (yX10_get, cX10_get, 5, (some .int), 2, 10, 0, zp_159)
def zm_160 : zM := (yX10_findOff, cX10_findOff, 2, none, 0, 10, 0, zp_160)
def zm_161 : zM := (yX10_least, cX10_least, 2, (some .int), 2, 10, 1, zp_161)
def zm_162 : zM := (yX10_rowBy, cX10_rowBy, 8, (some .int), 3, 10, 0, zp_162)
def zm_163 : zM := (yX10_round, cX10_round, 6, (some .int), 2, 10, 0, zp_163)
def zm_164 : zM := (yX10_goesOn, cX10_goesOn, 7, (some .int), 2, 10, 0, zp_164)
def zm_165 : zM := (yX10_walk, cX10_walk, 10, (some .int), 2, 10, 0, zp_165)
def zm_166 : zM := (yX10_readSeven, cX10_readSeven, 5, (some .boolean), 1, 10, 0, zp_166)
def zm_167 : zM := (yX10_sitsBy, cX10_sitsBy, 6, (some .int), 0, 10, 0, zp_167)
def zm_168 : zM := (yX10_seat, cX10_seat, 3, none, 1, 10, 0, zp_168)
def zm_169 : zM := (yX10_right, cX10_right, 6, (some .int), 2, 10, 0, zp_169)
def zm_170 : zM := (yX10_seen, cX10_seen, 4, (some .int), 3, 10, 0, zp_170)
def zm_171 : zM := (yX10_clear, cX10_clear, 2, (some .int), 0, 10, 0, zp_171)
def zm_172 : zM := (yX10_whoHas, cX10_whoHas, 6, (some .int), 2, 10, 1, zp_172)
def zm_173 : zM := (yX10_isFit, cX10_isFit, 4, (some .boolean), 1, 10, 0, zp_173)
def zm_174 : zM := (yX10_fits, cX10_fits, 4, (some .int), 1, 10, 0, zp_174)
def zm_175 : zM := (yX10_countBy, cX10_countBy, 4, none, 1, 10, 0, zp_175)
def zm_176 : zM := (yX10_ask, cX10_ask, 8, (some .int), 1, 10, 0, zp_176)
def zm_177 : zM := (yX10_rowsBy, cX10_rowsBy, 5, (some .int), 2, 10, 0, zp_177)
def zm_178 : zM := (yX10_worthOf, cX10_worthOf, 3, (some .int), 1, 10, 0, zp_178)
def zm_179 : zM := (yX10_take, cX10_take, 5, (some .int), 2, 10, 0, zp_179)
def zm_180 : zM := (yX10_lowest, cX10_lowest, 11, (some .long), 3, 10, 1, zp_180)
def zm_181 : zM := (yX10_evenings, cX10_evenings, 10, (some .long), 4, 10, 0, zp_181)
def zm_182 : zM := (yX10_seasonOne, cX10_seasonOne, 7, none, 3, 10, 0, zp_182)
def zm_183 : zM := (yX10_manyLie, cX10_manyLie, 3, (some .int), 0, 10, 0, zp_183)
def zm_184 : zM := (yX10_manyLost, cX10_manyLost, 3, (some .int), 0, 10, 0, zp_184)
def zm_185 : zM := (yX10_season, cX10_season, 6, (some .int), 3, 10, 0, zp_185)
def zm_186 : zM := (yX10_pass, cX10_pass, 3, (some .int), 1, 10, 0, zp_186)
def zm_187 : zM := (yX10_passRow, cX10_passRow, 4, none, 2, 10, 0, zp_187)
def zm_188 : zM := (yX10_passAll, cX10_passAll, 1, none, 0, 10, 0, zp_188)
def zm_189 : zM := (yX10_image, cX10_image, 2, (some .int), 1, 10, 0, zp_189)
def zm_190 : zM := (yX10_restore, cX10_restore, 2, (some .int), 1, 10, 0, zp_190)
def zm_191 : zM := (yX10_ofBenches, cX10_ofBenches, 3, (some .int), 1, 10, 0, zp_191)
def zm_192 : zM := (yX10_ofOnes, cX10_ofOnes, 3, (some .int), 1, 10, 0, zp_192)
def zm_193 : zM := (yX10_ofAll, cX10_ofAll, 2, (some .int), 1, 10, 0, zp_193)
def zm_194 : zM := (yX10_told, cX10_told, 2, (some .int), 1, 10, 0, zp_194)
def zm_195 : zM := (yJ6_numberOfTrailingZeros_0f7a4, cJ6_numberOfTrailingZeros_0f7a4, 2, (some .int), 1, 11, 1, zp_195)
def zm_196 : zM := (yJ6_bitCount_0f7a4, cJ6_bitCount_0f7a4, 1, (some .int), 1, 11, 1, zp_196)
def zm_197 : zM := (yJ13_numberOfTrailingZeros_95d88, cJ13_numberOfTrailingZeros_95d88, 3, (some .int), 1, 12, 1, zp_197)
def zm_198 : zM := (yJ9_max_7cf53, cJ9_max_7cf53, 2, (some .int), 2, 13, 1, zp_198)
def zm_199 : zM := (yJ9_max_f86c9, cJ9_max_f86c9, 4, (some .long), 2, 13, 1, zp_199)
def zm_200 : zM := (yJ9_min_7cf53, cJ9_min_7cf53, 2, (some .int), 2, 13, 1, zp_200)
def zm_201 : zM := (yJ7_fill_53178, cJ7_fill_53178, 4, none, 2, 14, 1, zp_201)
def zm_202 : zM := (yL_law, cL_law, 4, (some .boolean), 1, 15, 1, zp_202)
def zml : List zM := [zm_0, zm_1, zm_2, zm_3, zm_4, zm_5, zm_6, zm_7, zm_8, zm_9, zm_10, zm_11, zm_12, zm_13, zm_14, zm_15, zm_16, zm_17, zm_18, zm_19, zm_20, zm_21, zm_22, zm_23, zm_24, zm_25, zm_26, zm_27, zm_28, zm_29, zm_30, zm_31, zm_32, zm_33, zm_34, zm_35, zm_36, zm_37, zm_38, zm_39, zm_40, zm_41, zm_42, zm_43, zm_44, zm_45, zm_46, zm_47, zm_48, zm_49, zm_50, zm_51, zm_52, zm_53, zm_54, zm_55, zm_56, zm_57, zm_58, zm_59, zm_60, zm_61, zm_62, zm_63, zm_64, zm_65, zm_66, zm_67, zm_68, zm_69, zm_70, zm_71, zm_72, zm_73, zm_74, zm_75, zm_76, zm_77, zm_78, zm_79, zm_80, zm_81, zm_82, zm_83, zm_84, zm_85, zm_86, zm_87, zm_88, zm_89, zm_90, zm_91, zm_92, zm_93, zm_94, zm_95, zm_96, zm_97, zm_98, zm_99, zm_100, zm_101, zm_102, zm_103, zm_104, zm_105, zm_106, zm_107, zm_108, zm_109, zm_110, zm_111, zm_112, zm_113, zm_114, zm_115, zm_116, zm_117, zm_118, zm_119, zm_120, zm_121, zm_122, zm_123, zm_124, zm_125, zm_126, zm_127, zm_128, zm_129, zm_130, zm_131, zm_132, zm_133, zm_134, zm_135, zm_136, zm_137, zm_138, zm_139, zm_140, zm_141, zm_142, zm_143, zm_144, zm_145, zm_146, zm_147, zm_148, zm_149, zm_150, zm_151, zm_152, zm_153, zm_154, zm_155, zm_156, zm_157, zm_158, zm_159, zm_160, zm_161, zm_162, zm_163, zm_164, zm_165, zm_166, zm_167, zm_168, zm_169, zm_170, zm_171, zm_172, zm_173, zm_174, zm_175, zm_176, zm_177, zm_178, zm_179, zm_180, zm_181, zm_182, zm_183, zm_184, zm_185, zm_186, zm_187, zm_188, zm_189, zm_190, zm_191, zm_192, zm_193, zm_194, zm_195, zm_196, zm_197, zm_198, zm_199, zm_200, zm_201, zm_202]
def zow : List String := ["BenchMemories$Course", "BenchMemories$Garden", "BenchMemories$Order", "BenchMemories$Pad", "BenchMemories$Rounds", "BenchMemories$Row", "BenchMemories$Suspects", "BenchMemories$Turns", "BenchMemories$Walks", "BenchMemories", "BenchMemoriesModel", "java/lang/Integer", "java/lang/Long", "java/lang/Math", "java/util/Arrays", "BenchMemoriesLaw"]
abbrev zRs : Type := Nat × Nat × Nat × Int
def zc_0 : List (Nat × zRs) := [(3, 6, 0, 0, 0), (9, 4, 1, 0, 0), (11, 5, 9, 0, 0), (12, 1, 0, 0, 0), (18, 4, 5, 0, 0), (20, 5, 59, 0, 0), (23, 1, 0, 1, 0), (27, 5, 48, 0, 0), (33, 5, 2, 0, 0), (37, 1, 3, 1, 1), (41, 1, 0, 4, 0), (44, 1, 3, 0, 1), (47, 5, 60, 0, 0), (51, 5, 111, 0, 1), (55, 5, 49, 0, 0), (59, 5, 52, 0, 0), (62, 5, 53, 0, 0), (65, 5, 3, 0, 0), (69, 5, 10, 0, 0), (72, 5, 62, 0, 0), (75, 1, 0, 2, 0), (78, 1, 0, 3, 0), (81, 1, 0, 5, 0), (84, 5, 30, 0, 0), (88, 5, 33, 0, 0), (91, 5, 20, 0, 0), (94, 5, 4, 0, 0), (97, 5, 61, 0, 0), (101, 2, 0, 0, 65537), (102, 5, 7, 0, 0), (105, 5, 8, 0, 0)]
def zc_1 : List (Nat × zRs) := [(3, 6, 0, 0, 0), (9, 4, 5, 0, 0), (11, 5, 59, 0, 0), (14, 1, 1, 0, 0), (20, 1, 1, 1, 0), (23, 1, 1, 2, 0), (26, 1, 1, 3, 0), (29, 1, 1, 4, 0), (32, 5, 61, 0, 0), (36, 5, 111, 0, 1), (40, 5, 63, 0, 0), (44, 1, 1, 5, 0), (48, 1, 1, 6, 0), (51, 1, 1, 7, 0), (54, 5, 60, 0, 0), (58, 5, 196, 0, 0), (63, 5, 113, 0, 1), (67, 5, 14, 0, 0), (70, 5, 22, 0, 0), (73, 5, 21, 0, 0), (76, 5, 18, 0, 0), (79, 5, 31, 0, 0), (82, 5, 32, 0, 0), (86, 5, 17, 0, 0), (89, 5, 24, 0, 0), (92, 5, 34, 0, 0), (95, 5, 35, 0, 0), (98, 5, 26, 0, 0), (101, 5, 36, 0, 0), (104, 5, 27, 0, 0), (108, 5, 25, 0, 0), (111, 5, 66, 0, 0)]
def zc_2 : List (Nat × zRs) := [(3, 6, 0, 0, 0), (9, 4, 5, 0, 0), (13, 5, 59, 0, 0), (16, 1, 2, 0, 0), (20, 5, 61, 0, 0), (24, 5, 113, 0, 1), (28, 5, 60, 0, 0), (32, 5, 42, 0, 0), (36, 5, 44, 0, 0)]
def zc_3 : List (Nat × zRs) := [(3, 6, 0, 0, 0), (9, 4, 5, 0, 0), (11, 5, 59, 0, 0), (14, 1, 3, 0, 0), (20, 1, 3, 1, 0), (24, 5, 61, 0, 0), (28, 5, 60, 0, 0), (32, 5, 49, 0, 0), (36, 5, 50, 0, 0), (39, 5, 51, 0, 0), (42, 5, 110, 0, 1), (46, 5, 111, 0, 1)]
def zc_4 : List (Nat × zRs) := [(5, 6, 0, 0, 0), (11, 4, 5, 0, 0), (13, 5, 59, 0, 0), (16, 1, 4, 0, 0), (20, 1, 4, 1, 0), (23, 1, 4, 2, 0), (26, 5, 56, 0, 0), (30, 1, 4, 3, 0), (34, 5, 16, 0, 0), (40, 5, 57, 0, 0), (44, 5, 113, 0, 1), (48, 5, 58, 0, 0), (52, 5, 61, 0, 0), (55, 5, 60, 0, 0), (58, 5, 15, 0, 0), (61, 2, 0, 0, 1000000), (62, 5, 200, 0, 0)]
def zc_5 : List (Nat × zRs) := [(3, 6, 0, 0, 0), (9, 5, 198, 0, 0), (15, 1, 5, 0, 0), (21, 5, 201, 0, 0), (27, 7, 0, 0, 0)]
def zc_6 : List (Nat × zRs) := [(3, 6, 0, 0, 0), (9, 4, 5, 0, 0), (13, 5, 59, 0, 0), (16, 1, 6, 0, 0), (20, 1, 6, 1, 0), (23, 1, 6, 2, 0), (27, 5, 39, 0, 0), (33, 5, 61, 0, 0), (37, 1, 6, 3, 0), (40, 1, 6, 4, 0), (43, 5, 68, 0, 0), (46, 5, 60, 0, 0), (50, 5, 198, 0, 0), (56, 5, 62, 0, 0), (59, 5, 66, 0, 0)]
def zc_7 : List (Nat × zRs) := [(3, 6, 0, 0, 0), (9, 4, 5, 0, 0), (11, 5, 59, 0, 0), (14, 1, 7, 0, 0), (20, 5, 70, 0, 0), (24, 3, 0, 0, -1), (26, 5, 197, 0, 0), (32, 5, 61, 0, 0), (36, 5, 198, 0, 0), (41, 5, 60, 0, 0)]
def zc_8 : List (Nat × zRs) := [(3, 6, 0, 0, 0), (9, 4, 5, 0, 0), (13, 5, 59, 0, 0), (16, 1, 8, 0, 0), (20, 5, 16, 0, 0), (26, 1, 8, 1, 0), (30, 5, 74, 0, 0), (34, 5, 61, 0, 0), (38, 5, 113, 0, 1), (42, 5, 60, 0, 0), (45, 5, 11, 0, 0), (48, 5, 196, 0, 0), (53, 5, 198, 0, 0), (59, 5, 77, 0, 0), (62, 5, 195, 0, 0)]
def zc_9 : List (Nat × zRs) := [(1, 6, 0, 0, 0), (7, 4, 1, 0, 0), (9, 5, 9, 0, 0), (10, 1, 9, 0, 0), (16, 1, 9, 1, 0), (19, 1, 9, 2, 0), (22, 4, 3, 0, 0), (24, 5, 45, 0, 1), (25, 1, 9, 3, 0), (29, 4, 0, 0, 0), (31, 5, 0, 0, 1), (32, 1, 9, 4, 0), (36, 4, 4, 0, 0), (38, 5, 54, 0, 1), (39, 1, 9, 5, 0), (43, 4, 8, 0, 0), (45, 5, 72, 0, 1), (46, 1, 9, 6, 0), (50, 4, 2, 0, 0), (52, 5, 40, 0, 1), (53, 1, 9, 7, 0), (57, 4, 6, 0, 0), (59, 5, 64, 0, 1), (60, 1, 9, 8, 0), (64, 4, 7, 0, 0), (66, 5, 69, 0, 0), (67, 1, 9, 9, 0), (71, 5, 110, 0, 0), (75, 5, 12, 0, 0), (79, 5, 13, 0, 0), (83, 5, 111, 0, 0), (86, 5, 18, 0, 0), (90, 5, 24, 0, 0), (94, 5, 112, 0, 0), (97, 5, 19, 0, 0), (100, 5, 20, 0, 0), (103, 5, 26, 0, 0), (107, 5, 25, 0, 0), (110, 5, 109, 0, 0), (114, 5, 21, 0, 0), (117, 5, 27, 0, 0), (121, 1, 3, 1, 1), (125, 5, 46, 0, 0), (128, 5, 47, 0, 0), (131, 5, 48, 0, 0), (134, 5, 1, 0, 0), (138, 1, 0, 3, 1), (141, 1, 0, 4, 1), (144, 1, 0, 5, 1), (147, 1, 0, 0, 1), (150, 5, 23, 0, 0), (153, 1, 0, 1, 1), (157, 5, 60, 0, 0), (162, 5, 5, 0, 0), (165, 5, 10, 0, 0), (169, 1, 0, 2, 1), (172, 5, 15, 0, 0), (176, 5, 17, 0, 0), (179, 5, 55, 0, 0), (183, 5, 73, 0, 0), (187, 5, 75, 0, 0), (190, 5, 76, 0, 0), (193, 5, 41, 0, 0), (196, 5, 42, 0, 0), (199, 5, 43, 0, 0), (202, 1, 1, 5, 1), (205, 5, 37, 0, 0), (208, 5, 38, 0, 0), (211, 5, 65, 0, 0), (214, 1, 6, 2, 1), (215, 1, 6, 0, 1), (218, 5, 67, 0, 0), (221, 1, 6, 3, 1), (224, 1, 6, 4, 1), (227, 5, 71, 0, 0), (230, 3, 0, 0, -1000000000000000002), (232, 5, 114, 0, 0), (236, 5, 115, 0, 0), (240, 5, 199, 0, 0), (245, 5, 6, 0, 0), (249, 1, 1, 7, 1), (252, 5, 28, 0, 0), (255, 5, 29, 0, 0), (258, 1, 9, 10, 0), (261, 5, 113, 0, 0), (265, 1, 1, 6, 1), (268, 5, 108, 0, 0), (271, 5, 11, 0, 0)]
def zc_10 : List (Nat × zRs) := [(1, 6, 0, 0, 0), (7, 1, 10, 0, 0), (13, 1, 10, 1, 0), (16, 1, 10, 2, 0), (19, 1, 10, 3, 0), (22, 1, 10, 4, 0), (25, 1, 10, 7, 0), (28, 1, 10, 8, 0), (31, 1, 10, 9, 0), (34, 1, 10, 11, 0), (37, 1, 10, 13, 0), (40, 1, 10, 14, 0), (43, 1, 10, 15, 0), (46, 1, 10, 17, 0), (49, 1, 10, 18, 0), (52, 1, 10, 22, 0), (55, 1, 10, 23, 0), (58, 1, 10, 24, 0), (61, 1, 10, 25, 0), (64, 1, 10, 26, 0), (67, 1, 10, 27, 0), (71, 1, 10, 28, 0), (74, 1, 10, 29, 0), (77, 3, 0, 0, 9), (79, 5, 117, 0, 0), (83, 3, 0, 0, 7), (85, 3, 0, 0, 11), (87, 5, 118, 0, 0), (91, 5, 122, 0, 0), (95, 5, 123, 0, 0), (99, 5, 119, 0, 0), (102, 5, 126, 0, 0), (105, 5, 120, 0, 0), (108, 5, 127, 0, 0), (111, 3, 0, 0, 33), (113, 3, 0, 0, 126), (115, 1, 10, 12, 0), (119, 1, 10, 16, 0), (122, 3, 0, 0, 65), (124, 3, 0, 0, 72), (126, 5, 134, 0, 0), (129, 5, 133, 0, 0), (133, 3, 0, 0, 48), (135, 3, 0, 0, 57), (137, 5, 135, 0, 0), (140, 5, 136, 0, 0), (143, 5, 137, 0, 0), (146, 1, 10, 5, 0), (149, 5, 121, 0, 0), (153, 5, 139, 0, 0), (156, 5, 140, 0, 0), (159, 1, 10, 6, 0), (162, 5, 142, 0, 0), (166, 5, 143, 0, 0), (170, 5, 144, 0, 0), (173, 5, 145, 0, 0), (176, 1, 10, 19, 0), (179, 1, 10, 20, 0), (182, 1, 10, 21, 0), (185, 5, 141, 0, 0), (189, 5, 146, 0, 0), (193, 5, 147, 0, 0), (196, 5, 138, 0, 0), (200, 5, 149, 0, 0), (203, 3, 0, 0, 2), (205, 5, 150, 0, 0), (208, 5, 148, 0, 0), (211, 5, 157, 0, 0), (214, 5, 161, 0, 0), (217, 3, 0, 0, 1023), (219, 5, 160, 0, 0), (222, 5, 162, 0, 0), (225, 5, 164, 0, 0), (228, 3, 0, 0, 9999999), (230, 5, 166, 0, 0), (233, 5, 167, 0, 0), (236, 5, 168, 0, 0), (239, 3, 0, 0, 60), (241, 1, 10, 10, 0), (244, 3, 0, 0, 8), (246, 5, 172, 0, 0), (249, 5, 173, 0, 0), (252, 5, 174, 0, 0), (255, 5, 175, 0, 0), (258, 5, 177, 0, 0), (261, 3, 0, 0, 40), (263, 5, 178, 0, 0), (266, 3, 0, 0, 12), (268, 3, 0, 0, 10), (270, 3, 0, 0, -1000000000000000002), (272, 5, 180, 0, 0), (276, 3, 0, 0, 9999), (278, 3, 0, 0, 99), (280, 3, 0, 0, 75), (282, 3, 0, 0, 74), (284, 3, 0, 0, 65537), (286, 5, 182, 0, 0), (289, 5, 184, 0, 0), (292, 5, 183, 0, 0), (295, 1, 10, 31, 0), (299, 1, 10, 30, 0), (302, 5, 186, 0, 0), (305, 5, 187, 0, 0), (309, 5, 188, 0, 0), (312, 3, 0, 0, 100), (314, 3, 0, 0, 111), (316, 3, 0, 0, 39), (318, 5, 191, 0, 0), (321, 3, 0, 0, 59), (323, 5, 192, 0, 0), (326, 5, 193, 0, 0)]
def zc_11 : List (Nat × zRs) := [(264, 2, 0, 0, 65536), (265, 2, 0, 0, 1431655765), (266, 2, 0, 0, 858993459), (267, 2, 0, 0, 252645135)]
def zc_12 : List (Nat × zRs) := [(311, 5, 195, 0, 0)]
def zc_13 : List (Nat × zRs) := []
def zc_14 : List (Nat × zRs) := []
def zc_15 : List (Nat × zRs) := [(7, 4, 9, 0, 0), (9, 5, 78, 0, 0), (10, 4, 10, 0, 0), (12, 5, 116, 0, 0), (13, 5, 79, 0, 0), (17, 5, 124, 0, 0), (18, 5, 80, 0, 0), (22, 5, 125, 0, 0), (23, 5, 81, 0, 0), (26, 5, 128, 0, 0), (27, 5, 82, 0, 0), (31, 5, 129, 0, 0), (32, 5, 83, 0, 0), (36, 5, 130, 0, 0), (37, 5, 84, 0, 0), (40, 5, 131, 0, 0), (41, 5, 85, 0, 0), (45, 5, 132, 0, 0), (46, 5, 86, 0, 0), (49, 5, 138, 0, 0), (50, 5, 87, 0, 0), (53, 5, 151, 0, 0), (54, 5, 88, 0, 0), (57, 5, 152, 0, 0), (58, 5, 89, 0, 0), (61, 5, 153, 0, 0), (62, 5, 90, 0, 0), (65, 5, 154, 0, 0), (66, 5, 91, 0, 0), (69, 5, 155, 0, 0), (70, 5, 92, 0, 0), (73, 5, 156, 0, 0), (74, 5, 93, 0, 0), (77, 5, 158, 0, 0), (78, 5, 94, 0, 0), (81, 5, 159, 0, 0), (82, 5, 95, 0, 0), (85, 5, 163, 0, 0), (86, 5, 96, 0, 0), (89, 5, 165, 0, 0), (90, 5, 97, 0, 0), (93, 5, 169, 0, 0), (94, 5, 98, 0, 0), (97, 5, 170, 0, 0), (98, 5, 99, 0, 0), (101, 5, 171, 0, 0), (102, 5, 100, 0, 0), (105, 5, 174, 0, 0), (106, 5, 101, 0, 0), (109, 5, 176, 0, 0), (110, 5, 102, 0, 0), (113, 5, 179, 0, 0), (114, 5, 103, 0, 0), (118, 5, 181, 0, 0), (119, 5, 104, 0, 0), (122, 5, 185, 0, 0), (123, 5, 105, 0, 0), (126, 5, 189, 0, 0), (127, 5, 106, 0, 0), (130, 5, 190, 0, 0), (131, 5, 107, 0, 0), (134, 5, 194, 0, 0)]
def zcl : List (List (Nat × zRs)) := [zc_0, zc_1, zc_2, zc_3, zc_4, zc_5, zc_6, zc_7, zc_8, zc_9, zc_10, zc_11, zc_12, zc_13, zc_14, zc_15]
def zcp (o i : Nat) : Option zRs := (zcl[o]?).bind fun l => l.lookup i
/-- fields: 0 int, 1 boolean, 2 a reference; whether final -/
def zfd : List (List (Nat × Bool)) := [[(2, true), (2, true), (0, false), (0, false), (0, false), (0, false)], [(2, true), (2, true), (2, true), (2, true), (2, true), (0, false), (0, false), (0, false)], [(2, true)], [(2, true), (0, false)], [(2, true), (2, true), (2, true), (0, false)], [(2, true)], [(2, true), (2, true), (0, false), (0, false), (0, false)], [(2, true)], [(2, true), (0, false)], [(2, true), (2, true), (2, true), (2, true), (2, true), (2, true), (2, true), (2, true), (2, true), (2, true), (0, false)], [(2, true), (2, true), (2, true), (2, true), (2, true), (0, false), (0, false), (2, true), (2, true), (2, true), (0, false), (2, true), (0, false), (2, true), (2, true), (2, true), (0, false), (2, true), (2, true), (0, false), (0, false), (0, false), (2, true), (2, true), (2, true), (2, true), (2, true), (2, true), (2, true), (2, true), (0, false), (1, false)]]
/-! THE INTERPRETER: a heap is the cells' shapes (0: an object, by its kind; 1: a row of ints (0) or booleans (1); how many slots), what their references are (0: null), what their ints are. The cell k of the list is the reference k + 1; the reference 0 is the law's own script. -/
abbrev zFr : Type := Nat × List (Option Value) × List Value
abbrev zH : Type := List (Nat × Nat × Nat) × (Nat → Nat → Nat) × (Nat → Nat → Int32)
abbrev zR : Type := Option (Option Value × zH)
abbrev zX : Type := Option (Nat × (Nat → Int32))
def zI1 (st : List Value) (k : Int32 → List Value → zR) : zR := match st with
  | .int x :: r => k x r
  | _ => none
def zI2 (st : List Value) (k : Int32 → Int32 → List Value → zR) : zR := match st with
  | .int y :: .int x :: r => k x y r
  | _ => none
def zJ1 (st : List Value) (k : Int64 → List Value → zR) : zR := match st with
  | .long x :: r => k x r
  | _ => none
def zJ2 (st : List Value) (k : Int64 → Int64 → List Value → zR) : zR := match st with
  | .long y :: .long x :: r => k x y r
  | _ => none
def zA1 (st : List Value) (k : Nat → List Value → zR) : zR := match st with
  | .ref a :: r => k a r
  | _ => none
def zTo (pc : Nat) (off : Int) (k : Nat → zR) : zR := match (pc : Int) + off with
  | .ofNat t => k t
  | _ => none
def zGo (b : Prop) [Decidable b] (k : zR) : zR := if b then k else none
def zSh (h : zH) (a : Nat) : Option (Nat × Nat × Nat) := match a with
  | 0 => none
  | k + 1 => h.1[k]?
def zRv (r : Nat) : Value := match r with
  | 0 => .null
  | k + 1 => .ref (k + 1)
def zUp {α : Type} (f : Nat → Nat → α) (a i : Nat) (v : α) : Nat → Nat → α := fun b j => if b = a then (if j = i then v else f b j) else f b j
def zRow {α : Type} (f : Nat → Nat → α) (a : Nat) (g : Nat → α) : Nat → Nat → α := fun b => if b = a then g else f b
def zClr (i : Nat) (L : List (Option Value)) : List (Option Value) := match i with
  | 0 => L
  | j + 1 => match L[j]? with
    | some (some (.long _)) => L.set j none
    | _ => L
def zS1 (L : List (Option Value)) (i : Nat) (v : Value) : List (Option Value) := (zClr i L).set i (some v)
def zS2 (L : List (Option Value)) (i : Nat) (v : Value) : List (Option Value) := ((zClr i L).set i (some v)).set (i + 1) none
def zCnd (c : Jvm.ClassFile.Cond) (x y : Int32) (k1 k2 : zR) : zR := match c with
  | .eq => if x = y then k1 else k2
  | .ne => if x = y then k2 else k1
  | .lt => if x < y then k1 else k2
  | .ge => if y ≤ x then k1 else k2
  | .gt => if y < x then k1 else k2
  | .le => if x ≤ y then k1 else k2
def zLI (L : List (Option Value)) (i : Nat) (k : Int32 → zR) : zR := match L[i]? with
  | some (some (.int x)) => k x
  | _ => none
def zLJ (L : List (Option Value)) (i : Nat) (k : Int64 → zR) : zR := match L[i]? with
  | some (some (.long x)) => k x
  | _ => none
def zLA (L : List (Option Value)) (i : Nat) (k : Nat → zR) : zR := match L[i]? with
  | some (some (.ref x)) => k x
  | _ => none
def zCat (st : List Value) : Nat := (st.map fun v => v.category).sum
def zArgs (vs : List Value) : List (Option Value) := vs.flatMap fun v => if v.category = 2 then [some v, none] else [some v]
def zEnt (maxL : Nat) (vs : List Value) : zFr := (0, zArgs vs ++ List.replicate (maxL - (zArgs vs).length) none, [])
/-- a constant pool's row, of a kind -/
def zCp (o i kind : Nat) (k : Nat → Nat → Int → zR) : zR := match zcp o i with
  | some (q, a, b, c) => if q = kind then k a b c else none
  | none => none
def zFd (ci k : Nat) : Option (Nat × Bool) := (zfd[ci]?).bind fun l => l[k]?
def zFn (ci : Nat) : Nat := (zfd.getD ci []).length

def zMl (M : Nat) : Nat := ((zml[M]?).map fun r => r.2.2.1).getD 0
def zRt (M : Nat) : Option FieldType := (zml[M]?).bind fun r => r.2.2.2.1
def zPn (M : Nat) : Nat := ((zml[M]?).map fun r => r.2.2.2.2.1).getD 0
def zOw (M : Nat) : Nat := ((zml[M]?).map fun r => r.2.2.2.2.2.1).getD 0
def zKd (M : Nat) : Nat := ((zml[M]?).map fun r => r.2.2.2.2.2.2.1).getD 9
/-- one instruction: K goes on, C calls a method; o: whose constant pool; M: the method; sl: how much of the locals' words a call may lay by -/
def zdo (xs : zX) (o M : Nat) (K : zFr → zH → zR) (C : Nat → List Value → zH → (Option Value → zH → zR) → zR) (i : Instr) (len pc : Nat) (L : List (Option Value)) (st : List Value) (h : zH) : zR :=
  match i with
  | .iload_n k => zLI L k fun x => K (pc + 1, L, .int x :: st) h
  | .iload k => zLI L k fun x => K (pc + 2, L, .int x :: st) h
  | .lload_n k => zLJ L k fun x => K (pc + 1, L, .long x :: st) h
  | .lload k => zLJ L k fun x => K (pc + 2, L, .long x :: st) h
  | .aload_n k => zLA L k fun x => K (pc + 1, L, .ref x :: st) h
  | .aload k => zLA L k fun x => K (pc + 2, L, .ref x :: st) h
  | .iconst n => K (pc + 1, L, .int (Int32.ofInt n) :: st) h
  | .bipush n => K (pc + 2, L, .int (Int8.ofInt n).toInt32 :: st) h
  | .sipush n => K (pc + 3, L, .int (Int16.ofInt n).toInt32 :: st) h
  | .lconst n => K (pc + 1, L, .long (Int64.ofNat (n : Nat)) :: st) h
  | .ldc n => zCp o n 2 fun _ _ c => K (pc + 2, L, .int (Int32.ofInt c) :: st) h
  | .ldc_w n => zCp o n 2 fun _ _ c => K (pc + 3, L, .int (Int32.ofInt c) :: st) h
  | .ldc2_w n => zCp o n 3 fun _ _ c => K (pc + 3, L, .long (Int64.ofInt c) :: st) h
  | .istore_n k => zI1 st fun x r => zGo ((k : Nat) < L.length) (K (pc + 1, zS1 L k (.int x), r) h)
  | .istore k => zI1 st fun x r => zGo (k < L.length) (K (pc + 2, zS1 L k (.int x), r) h)
  | .astore_n k => zA1 st fun x r => zGo ((k : Nat) < L.length) (K (pc + 1, zS1 L k (.ref x), r) h)
  | .lstore_n k => zJ1 st fun x r => zGo ((k : Nat) + 1 < L.length) (K (pc + 1, zS2 L k (.long x), r) h)
  | .lstore k => zJ1 st fun x r => zGo (k + 1 < L.length) (K (pc + 2, zS2 L k (.long x), r) h)
  | .iinc k n => zLI L k fun x => K (pc + 3, zS1 L k (.int (x + Int32.ofInt n)), st) h
  | .goto off => zTo pc off fun t => K (t, L, st) h
  | .if_icmp c off => zI2 st fun x y r => zTo pc off fun t => zCnd c x y (K (t, L, r) h) (K (pc + 3, L, r) h)
  | .ifCond c off => zI1 st fun x r => zTo pc off fun t => zCnd c x 0 (K (t, L, r) h) (K (pc + 3, L, r) h)
  | .ifnull _ => zA1 st fun _ r => K (pc + 3, L, r) h
  | .ifnonnull off => zA1 st fun _ r => zTo pc off fun t => K (t, L, r) h
  | .tableswitch d lo hi offs => zI1 st fun x r => if x.toInt < lo ∨ hi < x.toInt then zTo pc d fun t => K (t, L, r) h
      else match offs[(x.toInt - lo).toNat]? with
        | some off => zTo pc off fun t => K (t, L, r) h
        | none => none
  | .lookupswitch d ps => zI1 st fun x r => zGo ((ps.toList.zip (ps.toList.drop 1)).all (fun (a, next) => a.1 < next.1) = true) (zTo pc (Op.lookupswitch.offset ps.toList d x.toInt) fun t => K (t, L, r) h)
  | .dup => match st with
    | v :: r => zGo (v.category = 1) (K (pc + 1, L, v :: v :: r) h)
    | _ => none
  | .dup2 => match st with
    | v :: w :: r => zGo (v.category = 1 ∧ w.category = 1) (K (pc + 1, L, v :: w :: v :: w :: r) h)
    | _ => none
  | .iadd => zI2 st fun x y r => K (pc + 1, L, .int (x + y) :: r) h
  | .isub => zI2 st fun x y r => K (pc + 1, L, .int (x - y) :: r) h
  | .imul => zI2 st fun x y r => K (pc + 1, L, .int (x * y) :: r) h
  | .iand => zI2 st fun x y r => K (pc + 1, L, .int (x &&& y) :: r) h
  | .ior => zI2 st fun x y r => K (pc + 1, L, .int (x ||| y) :: r) h
  | .ixor => zI2 st fun x y r => K (pc + 1, L, .int (x ^^^ y) :: r) h
  | .ishl => zI2 st fun x y r => K (pc + 1, L, .int (x <<< (y &&& 31)) :: r) h
  | .ishr => zI2 st fun x y r => K (pc + 1, L, .int (x >>> (y &&& 31)) :: r) h
  | .iushr => zI2 st fun x y r => K (pc + 1, L, .int (x.toUInt32 >>> (y.toUInt32 &&& Int32.toUInt32 31)).toInt32 :: r) h
  | .idiv => zI2 st fun x y r => zGo (¬ y = 0) (K (pc + 1, L, .int (x / y) :: r) h)
  | .irem => zI2 st fun x y r => zGo (¬ y = 0) (K (pc + 1, L, .int (x - x / y * y) :: r) h)
  | .ladd => zJ2 st fun x y r => K (pc + 1, L, .long (x + y) :: r) h
  | .lsub => zJ2 st fun x y r => K (pc + 1, L, .long (x - y) :: r) h
  | .lmul => zJ2 st fun x y r => K (pc + 1, L, .long (x * y) :: r) h
  | .lor => zJ2 st fun x y r => K (pc + 1, L, .long (x ||| y) :: r) h
  | .lxor => zJ2 st fun x y r => K (pc + 1, L, .long (x ^^^ y) :: r) h
  | .ldiv => zJ2 st fun x y r => zGo (¬ y = 0) (K (pc + 1, L, .long (x / y) :: r) h)
  | .lrem => zJ2 st fun x y r => zGo (¬ y = 0) (K (pc + 1, L, .long (x - x / y * y) :: r) h)
  | .lshl => zI1 st fun y r => zJ1 r fun x r => K (pc + 1, L, .long (x <<< (y.toInt64 &&& 63)) :: r) h
  | .lushr => zI1 st fun y r => zJ1 r fun x r => K (pc + 1, L, .long (x.toUInt64 >>> (y.toInt64.toUInt64 &&& Int64.toUInt64 63)).toInt64 :: r) h
  | .lcmp => zJ2 st fun x y r => K (pc + 1, L, .int (lg_cmp x y) :: r) h
  | .i2l => zI1 st fun x r => K (pc + 1, L, .long x.toInt64 :: r) h
  | .l2i => zJ1 st fun x r => K (pc + 1, L, .int x.toInt32 :: r) h
  | .getfield n => zA1 st fun a r => zCp o n 1 fun ci k _ => match zSh h a with
    | some (0, cj, _) => zGo (cj = ci) (match zFd ci k with
      | some (2, _) => K (pc + 3, L, zRv (h.2.1 a k) :: r) h
      | some _ => K (pc + 3, L, .int (h.2.2 a k) :: r) h
      | none => none)
    | _ => none
  | .putfield n => match st with
    | .int x :: .ref a :: r => zCp o n 1 fun ci k nest => match zSh h a with
      | some (0, cj, _) => zGo (cj = ci ∧ nest = 0) (match zFd ci k with
        | some (0, false) => K (pc + 3, L, r) (h.1, h.2.1, zUp h.2.2 a k x)
        | some (1, false) => zGo (x = 0 ∨ x = 1) (K (pc + 3, L, r) (h.1, h.2.1, zUp h.2.2 a k x))
        | _ => none)
      | _ => none
    | .ref (q + 1) :: .ref a :: r => zCp o n 1 fun ci k nest => match zSh h a with
      | some (0, cj, _) => zGo (cj = ci ∧ nest = 0 ∧ q < h.1.length) (match zFd ci k with
        | some (2, true) => zGo (zKd M = 2 ∧ o = ci) (K (pc + 3, L, r) (h.1, zUp h.2.1 a k (q + 1), h.2.2))
        | _ => none)
      | _ => none
    | _ => none
  | .iaload => zI1 st fun i r => zA1 r fun a r => match a, xs with
    | 0, some (n, f) => zGo (¬ (i < 0 ∨ n ≤ i.toNatClampNeg)) (K (pc + 1, L, .int (f i.toNatClampNeg) :: r) h)
    | 0, none => none
    | a + 1, _ => match zSh h (a + 1) with
      | some (1, 0, n) => zGo (¬ (i < 0 ∨ n ≤ i.toNatClampNeg)) (K (pc + 1, L, .int (h.2.2 (a + 1) i.toNatClampNeg) :: r) h)
      | _ => none
  | .baload => zI1 st fun i r => zA1 r fun a r => match zSh h a with
    | some (1, 1, n) => zGo (¬ (i < 0 ∨ n ≤ i.toNatClampNeg)) (K (pc + 1, L, .int (h.2.2 a i.toNatClampNeg) :: r) h)
    | _ => none
  | .iastore => zI2 st fun i x r => zA1 r fun a r => match zSh h a with
    | some (1, 0, n) => zGo (¬ (i < 0 ∨ n ≤ i.toNatClampNeg)) (K (pc + 1, L, r) (h.1, h.2.1, zUp h.2.2 a i.toNatClampNeg x))
    | _ => none
  | .bastore => zI2 st fun i x r => zA1 r fun a r => match zSh h a with
    | some (1, 1, n) => zGo (¬ (i < 0 ∨ n ≤ i.toNatClampNeg) ∧ (x = 0 ∨ x = 1)) (K (pc + 1, L, r) (h.1, h.2.1, zUp h.2.2 a i.toNatClampNeg x))
    | _ => none
  | .arraylength => zA1 st fun a r => match a, xs with
    | 0, some (n, _) => K (pc + 1, L, .int (Int32.ofNat n) :: r) h
    | 0, none => none
    | a + 1, _ => match zSh h (a + 1) with
      | some (1, _, n) => K (pc + 1, L, .int (Int32.ofNat n) :: r) h
      | _ => none
  | .newarray ty => zI1 st fun n r => match ty with
    | .int => zGo (¬ n < 0 ∧ n.toNatClampNeg ≤ 100000) (K (pc + 2, L, .ref (h.1.length + 1) :: r) (h.1 ++ [(1, 0, n.toNatClampNeg)], h.2.1, zRow h.2.2 (h.1.length + 1) (fun _ => 0)))
    | .boolean => zGo (¬ n < 0 ∧ n.toNatClampNeg ≤ 100000) (K (pc + 2, L, .ref (h.1.length + 1) :: r) (h.1 ++ [(1, 1, n.toNatClampNeg)], h.2.1, zRow h.2.2 (h.1.length + 1) (fun _ => 0)))
    | _ => none
  | .new n => zCp o n 4 fun ci _ _ => K (pc + 3, L, .ref (h.1.length + 1) :: st) (h.1 ++ [(0, ci, zFn ci)], zRow h.2.1 (h.1.length + 1) (fun _ => 0), zRow h.2.2 (h.1.length + 1) (fun _ => 0))
  | .invokestatic n => match zcp o n with
    | some (5, N, _, _) => zGo (zKd N = 1 ∧ zPn N ≤ st.length ∧ zCat (st.drop (zPn N)) ≤ 8) (C N (st.take (zPn N)).reverse h fun v h => K (pc + 3, L, v.toList ++ st.drop (zPn N)) h)
    | some (7, _, _, _) => match st with
      | .int n :: .int dp :: .ref a :: .int sp :: .ref a0 :: r => match zSh h a0, zSh h a with
        | some (1, 0, n0), some (1, 0, n1) => zGo (¬ sp < 0 ∧ ¬ dp < 0 ∧ ¬ n < 0 ∧ sp.toNatClampNeg + n.toNatClampNeg ≤ n0 ∧ dp.toNatClampNeg + n.toNatClampNeg ≤ n1 ∧ zCat r ≤ 8) (K (pc + 3, L, r) (h.1, h.2.1, zRow h.2.2 a (va_cpy (h.2.2 a0) (h.2.2 a) sp.toNatClampNeg dp.toNatClampNeg n.toNatClampNeg)))
        | _, _ => none
      | _ => none
    | _ => none
  | .invokevirtual n => zCp o n 5 fun N _ _ => match st.drop (zPn N) with
    | .ref a :: r => match zSh h a with
      | some (0, cj, _) => zGo (zKd N = 0 ∧ cj = zOw N ∧ zPn N ≤ st.length ∧ zCat r ≤ 8) (C N (.ref a :: (st.take (zPn N)).reverse) h fun v h => K (pc + 3, L, v.toList ++ r) h)
      | _ => none
    | _ => none
  | .invokespecial n => match zcp o n with
    | some (5, N, _, _) => match st.drop (zPn N) with
      | .ref a :: r => zGo (zKd N = 2 ∧ zPn N ≤ st.length ∧ zCat r ≤ 8) (C N (.ref a :: (st.take (zPn N)).reverse) h fun v h => K (pc + 3, L, v.toList ++ r) h)
      | _ => none
    | some (6, _, _, _) => match st with
      | .ref _ :: r => zGo (zCat r ≤ 8) (K (pc + 3, L, r) h)
      | _ => none
    | _ => none
  | .ireturn => match st with
    | [.int x] => match zRt M with
      | some .int => some (some (.int x), h)
      | some .boolean => zGo (x = 0 ∨ x = 1) (some (some (.int x), h))
      | _ => none
    | _ => none
  | .lreturn => match st with
    | [.long x] => zGo (zRt M = some .long) (some (some (.long x), h))
    | _ => none
  | .return_ => match st with
    | [] => zGo (zRt M = none) (some (none, h))
    | _ => none
  | _ => none
def zin (M pc : Nat) : Option (Instr × Nat) := (zml[M]?).bind fun r => r.2.2.2.2.2.2.2.lookup pc
/-- n: how many instructions at the most; d: how many calls may stand open above this one -/
def zrun (xs : zX) : Nat → Nat → Nat → zFr → zH → zR
  | 0, _, _, _, _ => none
  | n + 1, d, M, f, h => match zin M f.1 with
    | none => none
    | some (i, len) => zdo xs (zOw M) M (fun f h => zrun xs n d M f h) (fun N vs h k => match d with
      | 0 => none
      | d + 1 => match zrun none n d N (zEnt (zMl N) vs) h with
        | some (v, h') => k v h'
        | none => none) i len f.1 f.2.1 f.2.2 h
def zEv (xs : zX) (d M : Nat) (f : zFr) (h : zH) (v : Option Value) (h' : zH) : Prop := ∃ n, zrun xs n d M f h = some (v, h')
def zCall (d M : Nat) (vs : List Value) (h : zH) (v : Option Value) (h' : zH) : Prop := zEv none d M (zEnt (zMl M) vs) h v h'

