set_option maxRecDepth 100000
abbrev zcls : List vw_C := [(RX0, TX0, 6), (RX1, TX1, 8), (RX2, TX2, 1), (RX3, TX3, 2), (RX4, TX4, 4), (RX5, TX5, 1), (RX6, TX6, 5), (RX7, TX7, 1), (RX8, TX8, 2), (RX9, TX9, 11), (RX10, TX10, 32)]
def zOn (o : Nat) : String := (zow[o]?).getD ""
def zBy (M : Nat) : ByteArray := ((zml[M]?).map fun r => r.2.1).getD ⟨#[]⟩
def zYn (M : Nat) : MethodName := ((zml[M]?).map fun r => r.1).getD ⟨"", "", ""⟩
def zInOk (M : Nat) : Prop := ∀ q ∈ (((zml[M]?).map fun r => r.2.2.2.2.2.2.2).getD []), decode (zBy M) q.1 = .ok q.2
theorem zio_0 : zInOk 0 := zd_0
theorem zio_1 : zInOk 1 := zd_1
theorem zio_2 : zInOk 2 := zd_2
theorem zio_3 : zInOk 3 := zd_3
theorem zio_4 : zInOk 4 := zd_4
theorem zio_5 : zInOk 5 := zd_5
theorem zio_6 : zInOk 6 := zd_6
theorem zio_7 : zInOk 7 := zd_7
theorem zio_8 : zInOk 8 := zd_8
theorem zio_9 : zInOk 9 := zd_9
theorem zio_10 : zInOk 10 := zd_10
theorem zio_11 : zInOk 11 := zd_11
theorem zio_12 : zInOk 12 := zd_12
theorem zio_13 : zInOk 13 := zd_13
theorem zio_14 : zInOk 14 := zd_14
theorem zio_15 : zInOk 15 := zd_15
theorem zio_16 : zInOk 16 := zd_16
theorem zio_17 : zInOk 17 := zd_17
theorem zio_18 : zInOk 18 := zd_18
theorem zio_19 : zInOk 19 := zd_19
theorem zio_20 : zInOk 20 := zd_20
theorem zio_21 : zInOk 21 := zd_21
theorem zio_22 : zInOk 22 := zd_22
theorem zio_23 : zInOk 23 := zd_23
theorem zio_24 : zInOk 24 := zd_24
theorem zio_25 : zInOk 25 := zd_25
theorem zio_26 : zInOk 26 := zd_26
theorem zio_27 : zInOk 27 := zd_27
theorem zio_28 : zInOk 28 := zd_28
theorem zio_29 : zInOk 29 := zd_29
theorem zio_30 : zInOk 30 := zd_30
theorem zio_31 : zInOk 31 := zd_31
theorem zio_32 : zInOk 32 := zd_32
theorem zio_33 : zInOk 33 := zd_33
theorem zio_34 : zInOk 34 := zd_34
theorem zio_35 : zInOk 35 := zd_35
theorem zio_36 : zInOk 36 := zd_36
theorem zio_37 : zInOk 37 := zd_37
theorem zio_38 : zInOk 38 := zd_38
theorem zio_39 : zInOk 39 := zd_39
theorem zio_40 : zInOk 40 := zd_40
theorem zio_41 : zInOk 41 := zd_41
theorem zio_42 : zInOk 42 := zd_42
theorem zio_43 : zInOk 43 := zd_43
theorem zio_44 : zInOk 44 := zd_44
theorem zio_45 : zInOk 45 := zd_45
theorem zio_46 : zInOk 46 := zd_46
theorem zio_47 : zInOk 47 := zd_47
theorem zio_48 : zInOk 48 := zd_48
theorem zio_49 : zInOk 49 := zd_49
theorem zio_50 : zInOk 50 := zd_50
theorem zio_51 : zInOk 51 := zd_51
theorem zio_52 : zInOk 52 := zd_52
theorem zio_53 : zInOk 53 := zd_53
theorem zio_54 : zInOk 54 := zd_54
theorem zio_55 : zInOk 55 := zd_55
theorem zio_56 : zInOk 56 := zd_56
theorem zio_57 : zInOk 57 := zd_57
theorem zio_58 : zInOk 58 := zd_58
theorem zio_59 : zInOk 59 := zd_59
theorem zio_60 : zInOk 60 := zd_60
theorem zio_61 : zInOk 61 := zd_61
theorem zio_62 : zInOk 62 := zd_62
theorem zio_63 : zInOk 63 := zd_63
theorem zio_64 : zInOk 64 := zd_64
theorem zio_65 : zInOk 65 := zd_65
theorem zio_66 : zInOk 66 := zd_66
theorem zio_67 : zInOk 67 := zd_67
theorem zio_68 : zInOk 68 := zd_68
theorem zio_69 : zInOk 69 := zd_69
theorem zio_70 : zInOk 70 := zd_70
theorem zio_71 : zInOk 71 := zd_71
theorem zio_72 : zInOk 72 := zd_72
theorem zio_73 : zInOk 73 := zd_73
theorem zio_74 : zInOk 74 := zd_74
theorem zio_75 : zInOk 75 := zd_75
theorem zio_76 : zInOk 76 := zd_76
theorem zio_77 : zInOk 77 := zd_77
theorem zio_78 : zInOk 78 := zd_78
theorem zio_79 : zInOk 79 := zd_79
theorem zio_80 : zInOk 80 := zd_80
theorem zio_81 : zInOk 81 := zd_81
theorem zio_82 : zInOk 82 := zd_82
theorem zio_83 : zInOk 83 := zd_83
theorem zio_84 : zInOk 84 := zd_84
theorem zio_85 : zInOk 85 := zd_85
theorem zio_86 : zInOk 86 := zd_86
theorem zio_87 : zInOk 87 := zd_87
theorem zio_88 : zInOk 88 := zd_88
theorem zio_89 : zInOk 89 := zd_89
theorem zio_90 : zInOk 90 := zd_90
theorem zio_91 : zInOk 91 := zd_91
theorem zio_92 : zInOk 92 := zd_92
theorem zio_93 : zInOk 93 := zd_93
theorem zio_94 : zInOk 94 := zd_94
theorem zio_95 : zInOk 95 := zd_95
theorem zio_96 : zInOk 96 := zd_96
theorem zio_97 : zInOk 97 := zd_97
theorem zio_98 : zInOk 98 := zd_98
theorem zio_99 : zInOk 99 := zd_99
theorem zio_100 : zInOk 100 := zd_100
theorem zio_101 : zInOk 101 := zd_101
theorem zio_102 : zInOk 102 := zd_102
theorem zio_103 : zInOk 103 := zd_103
theorem zio_104 : zInOk 104 := zd_104
theorem zio_105 : zInOk 105 := zd_105
theorem zio_106 : zInOk 106 := zd_106
theorem zio_107 : zInOk 107 := zd_107
theorem zio_108 : zInOk 108 := zd_108
theorem zio_109 : zInOk 109 := zd_109
theorem zio_110 : zInOk 110 := zd_110
theorem zio_111 : zInOk 111 := zd_111
theorem zio_112 : zInOk 112 := zd_112
theorem zio_113 : zInOk 113 := zd_113
theorem zio_114 : zInOk 114 := zd_114
theorem zio_115 : zInOk 115 := zd_115
theorem zio_116 : zInOk 116 := zd_116
theorem zio_117 : zInOk 117 := zd_117
theorem zio_118 : zInOk 118 := zd_118
theorem zio_119 : zInOk 119 := zd_119
theorem zio_120 : zInOk 120 := zd_120
theorem zio_121 : zInOk 121 := zd_121
theorem zio_122 : zInOk 122 := zd_122
theorem zio_123 : zInOk 123 := zd_123
theorem zio_124 : zInOk 124 := zd_124
theorem zio_125 : zInOk 125 := zd_125
theorem zio_126 : zInOk 126 := zd_126
theorem zio_127 : zInOk 127 := zd_127
theorem zio_128 : zInOk 128 := zd_128
theorem zio_129 : zInOk 129 := zd_129
theorem zio_130 : zInOk 130 := zd_130
theorem zio_131 : zInOk 131 := zd_131
theorem zio_132 : zInOk 132 := zd_132
theorem zio_133 : zInOk 133 := zd_133
theorem zio_134 : zInOk 134 := zd_134
theorem zio_135 : zInOk 135 := zd_135
theorem zio_136 : zInOk 136 := zd_136
theorem zio_137 : zInOk 137 := zd_137
theorem zio_138 : zInOk 138 := zd_138
theorem zio_139 : zInOk 139 := zd_139
theorem zio_140 : zInOk 140 := zd_140
theorem zio_141 : zInOk 141 := zd_141
theorem zio_142 : zInOk 142 := zd_142
theorem zio_143 : zInOk 143 := zd_143
theorem zio_144 : zInOk 144 := zd_144
theorem zio_145 : zInOk 145 := zd_145
theorem zio_146 : zInOk 146 := zd_146
theorem zio_147 : zInOk 147 := zd_147
theorem zio_148 : zInOk 148 := zd_148
theorem zio_149 : zInOk 149 := zd_149
theorem zio_150 : zInOk 150 := zd_150
theorem zio_151 : zInOk 151 := zd_151
theorem zio_152 : zInOk 152 := zd_152
theorem zio_153 : zInOk 153 := zd_153
theorem zio_154 : zInOk 154 := zd_154
theorem zio_155 : zInOk 155 := zd_155
theorem zio_156 : zInOk 156 := zd_156
theorem zio_157 : zInOk 157 := zd_157
theorem zio_158 : zInOk 158 := zd_158
theorem zio_159 : zInOk 159 := zd_159
theorem zio_160 : zInOk 160 := zd_160
theorem zio_161 : zInOk 161 := zd_161
theorem zio_162 : zInOk 162 := zd_162
theorem zio_163 : zInOk 163 := zd_163
theorem zio_164 : zInOk 164 := zd_164
theorem zio_165 : zInOk 165 := zd_165
theorem zio_166 : zInOk 166 := zd_166
theorem zio_167 : zInOk 167 := zd_167
theorem zio_168 : zInOk 168 := zd_168
theorem zio_169 : zInOk 169 := zd_169
theorem zio_170 : zInOk 170 := zd_170
theorem zio_171 : zInOk 171 := zd_171
theorem zio_172 : zInOk 172 := zd_172
theorem zio_173 : zInOk 173 := zd_173
theorem zio_174 : zInOk 174 := zd_174
theorem zio_175 : zInOk 175 := zd_175
theorem zio_176 : zInOk 176 := zd_176
theorem zio_177 : zInOk 177 := zd_177
theorem zio_178 : zInOk 178 := zd_178
theorem zio_179 : zInOk 179 := zd_179
theorem zio_180 : zInOk 180 := zd_180
theorem zio_181 : zInOk 181 := zd_181
theorem zio_182 : zInOk 182 := zd_182
theorem zio_183 : zInOk 183 := zd_183
theorem zio_184 : zInOk 184 := zd_184
theorem zio_185 : zInOk 185 := zd_185
theorem zio_186 : zInOk 186 := zd_186
theorem zio_187 : zInOk 187 := zd_187
theorem zio_188 : zInOk 188 := zd_188
theorem zio_189 : zInOk 189 := zd_189
theorem zio_190 : zInOk 190 := zd_190
theorem zio_191 : zInOk 191 := zd_191
theorem zio_192 : zInOk 192 := zd_192
theorem zio_193 : zInOk 193 := zd_193
theorem zio_194 : zInOk 194 := zd_194
theorem zio_195 : zInOk 195 := zd_195
theorem zio_196 : zInOk 196 := zd_196
theorem zio_197 : zInOk 197 := zd_197
theorem zio_198 : zInOk 198 := zd_198
theorem zio_199 : zInOk 199 := zd_199
def zMok (N : Nat) : Prop := (zKd N = 0 → Jvm.Cond.instanceMethod (zYn N) ∈ lw_tbl ∧ Jvm.Cond.selects (zOn (zOw N)) (zYn N) (zYn N) ∈ lw_tbl) ∧ (zKd N = 1 → Jvm.Cond.static (zYn N) ∈ lw_tbl) ∧ (zKd N = 2 → Jvm.Cond.instanceMethod (zYn N) ∈ lw_tbl ∧ (zYn N).name = "<init>" ∧ zRt N = none) ∧ Jvm.Cond.initialized (zYn N).cls ∈ lw_tbl ∧ Jvm.Cond.code (zYn N) (zBy N) (zMl N) (zRt N) ∈ lw_tbl
theorem zmo_0 : zMok 0 := ⟨fun h => absurd h (by decide +kernel), fun h => absurd h (by decide +kernel), fun _ => ⟨List.mem_of_getElem? (i := 162) (by decide +kernel), by decide +kernel, by decide +kernel⟩, List.mem_of_getElem? (i := 63) (by decide +kernel), List.mem_of_getElem? (i := 163) (by decide +kernel)⟩
theorem zmo_1 : zMok 1 := ⟨fun _ => ⟨List.mem_of_getElem? (i := 454) (by decide +kernel), List.mem_of_getElem? (i := 455) (by decide +kernel)⟩, fun h => absurd h (by decide +kernel), fun h => absurd h (by decide +kernel), List.mem_of_getElem? (i := 63) (by decide +kernel), List.mem_of_getElem? (i := 456) (by decide +kernel)⟩
theorem zmo_2 : zMok 2 := ⟨fun _ => ⟨List.mem_of_getElem? (i := 460) (by decide +kernel), List.mem_of_getElem? (i := 2) (by decide +kernel)⟩, fun h => absurd h (by decide +kernel), fun h => absurd h (by decide +kernel), List.mem_of_getElem? (i := 63) (by decide +kernel), List.mem_of_getElem? (i := 461) (by decide +kernel)⟩
theorem zmo_3 : zMok 3 := ⟨fun _ => ⟨List.mem_of_getElem? (i := 491) (by decide +kernel), List.mem_of_getElem? (i := 3) (by decide +kernel)⟩, fun h => absurd h (by decide +kernel), fun h => absurd h (by decide +kernel), List.mem_of_getElem? (i := 63) (by decide +kernel), List.mem_of_getElem? (i := 492) (by decide +kernel)⟩
theorem zmo_4 : zMok 4 := ⟨fun _ => ⟨List.mem_of_getElem? (i := 536) (by decide +kernel), List.mem_of_getElem? (i := 9) (by decide +kernel)⟩, fun h => absurd h (by decide +kernel), fun h => absurd h (by decide +kernel), List.mem_of_getElem? (i := 63) (by decide +kernel), List.mem_of_getElem? (i := 537) (by decide +kernel)⟩
theorem zmo_5 : zMok 5 := ⟨fun _ => ⟨List.mem_of_getElem? (i := 562) (by decide +kernel), List.mem_of_getElem? (i := 563) (by decide +kernel)⟩, fun h => absurd h (by decide +kernel), fun h => absurd h (by decide +kernel), List.mem_of_getElem? (i := 63) (by decide +kernel), List.mem_of_getElem? (i := 564) (by decide +kernel)⟩
theorem zmo_6 : zMok 6 := ⟨fun _ => ⟨List.mem_of_getElem? (i := 753) (by decide +kernel), List.mem_of_getElem? (i := 754) (by decide +kernel)⟩, fun h => absurd h (by decide +kernel), fun h => absurd h (by decide +kernel), List.mem_of_getElem? (i := 63) (by decide +kernel), List.mem_of_getElem? (i := 755) (by decide +kernel)⟩
theorem zmo_7 : zMok 7 := ⟨fun _ => ⟨List.mem_of_getElem? (i := 759) (by decide +kernel), List.mem_of_getElem? (i := 17) (by decide +kernel)⟩, fun h => absurd h (by decide +kernel), fun h => absurd h (by decide +kernel), List.mem_of_getElem? (i := 63) (by decide +kernel), List.mem_of_getElem? (i := 760) (by decide +kernel)⟩
theorem zmo_8 : zMok 8 := ⟨fun h => absurd h (by decide +kernel), fun _ => List.mem_of_getElem? (i := 762) (by decide +kernel), fun h => absurd h (by decide +kernel), List.mem_of_getElem? (i := 63) (by decide +kernel), List.mem_of_getElem? (i := 763) (by decide +kernel)⟩
theorem zmo_9 : zMok 9 := ⟨fun h => absurd h (by decide +kernel), fun h => absurd h (by decide +kernel), fun _ => ⟨List.mem_of_getElem? (i := 86) (by decide +kernel), by decide +kernel, by decide +kernel⟩, List.mem_of_getElem? (i := 59) (by decide +kernel), List.mem_of_getElem? (i := 87) (by decide +kernel)⟩
theorem zmo_10 : zMok 10 := ⟨fun _ => ⟨List.mem_of_getElem? (i := 463) (by decide +kernel), List.mem_of_getElem? (i := 464) (by decide +kernel)⟩, fun h => absurd h (by decide +kernel), fun h => absurd h (by decide +kernel), List.mem_of_getElem? (i := 59) (by decide +kernel), List.mem_of_getElem? (i := 465) (by decide +kernel)⟩
theorem zmo_11 : zMok 11 := ⟨fun _ => ⟨List.mem_of_getElem? (i := 635) (by decide +kernel), List.mem_of_getElem? (i := 636) (by decide +kernel)⟩, fun h => absurd h (by decide +kernel), fun h => absurd h (by decide +kernel), List.mem_of_getElem? (i := 59) (by decide +kernel), List.mem_of_getElem? (i := 637) (by decide +kernel)⟩
theorem zmo_12 : zMok 12 := ⟨fun _ => ⟨List.mem_of_getElem? (i := 342) (by decide +kernel), List.mem_of_getElem? (i := 343) (by decide +kernel)⟩, fun h => absurd h (by decide +kernel), fun h => absurd h (by decide +kernel), List.mem_of_getElem? (i := 59) (by decide +kernel), List.mem_of_getElem? (i := 344) (by decide +kernel)⟩
theorem zmo_13 : zMok 13 := ⟨fun _ => ⟨List.mem_of_getElem? (i := 347) (by decide +kernel), List.mem_of_getElem? (i := 348) (by decide +kernel)⟩, fun h => absurd h (by decide +kernel), fun h => absurd h (by decide +kernel), List.mem_of_getElem? (i := 59) (by decide +kernel), List.mem_of_getElem? (i := 349) (by decide +kernel)⟩
theorem zmo_14 : zMok 14 := ⟨fun _ => ⟨List.mem_of_getElem? (i := 579) (by decide +kernel), List.mem_of_getElem? (i := 580) (by decide +kernel)⟩, fun h => absurd h (by decide +kernel), fun h => absurd h (by decide +kernel), List.mem_of_getElem? (i := 59) (by decide +kernel), List.mem_of_getElem? (i := 581) (by decide +kernel)⟩
theorem zmo_15 : zMok 15 := ⟨fun _ => ⟨List.mem_of_getElem? (i := 575) (by decide +kernel), List.mem_of_getElem? (i := 576) (by decide +kernel)⟩, fun h => absurd h (by decide +kernel), fun h => absurd h (by decide +kernel), List.mem_of_getElem? (i := 59) (by decide +kernel), List.mem_of_getElem? (i := 577) (by decide +kernel)⟩
theorem zmo_16 : zMok 16 := ⟨fun _ => ⟨List.mem_of_getElem? (i := 602) (by decide +kernel), List.mem_of_getElem? (i := 603) (by decide +kernel)⟩, fun h => absurd h (by decide +kernel), fun h => absurd h (by decide +kernel), List.mem_of_getElem? (i := 59) (by decide +kernel), List.mem_of_getElem? (i := 604) (by decide +kernel)⟩
theorem zmo_17 : zMok 17 := ⟨fun _ => ⟨List.mem_of_getElem? (i := 506) (by decide +kernel), List.mem_of_getElem? (i := 507) (by decide +kernel)⟩, fun h => absurd h (by decide +kernel), fun h => absurd h (by decide +kernel), List.mem_of_getElem? (i := 59) (by decide +kernel), List.mem_of_getElem? (i := 508) (by decide +kernel)⟩
theorem zmo_18 : zMok 18 := ⟨fun _ => ⟨List.mem_of_getElem? (i := 362) (by decide +kernel), List.mem_of_getElem? (i := 363) (by decide +kernel)⟩, fun h => absurd h (by decide +kernel), fun h => absurd h (by decide +kernel), List.mem_of_getElem? (i := 59) (by decide +kernel), List.mem_of_getElem? (i := 364) (by decide +kernel)⟩
theorem zmo_19 : zMok 19 := ⟨fun _ => ⟨List.mem_of_getElem? (i := 377) (by decide +kernel), List.mem_of_getElem? (i := 378) (by decide +kernel)⟩, fun h => absurd h (by decide +kernel), fun h => absurd h (by decide +kernel), List.mem_of_getElem? (i := 59) (by decide +kernel), List.mem_of_getElem? (i := 379) (by decide +kernel)⟩
theorem zmo_20 : zMok 20 := ⟨fun _ => ⟨List.mem_of_getElem? (i := 381) (by decide +kernel), List.mem_of_getElem? (i := 382) (by decide +kernel)⟩, fun h => absurd h (by decide +kernel), fun h => absurd h (by decide +kernel), List.mem_of_getElem? (i := 59) (by decide +kernel), List.mem_of_getElem? (i := 383) (by decide +kernel)⟩
theorem zmo_21 : zMok 21 := ⟨fun _ => ⟨List.mem_of_getElem? (i := 401) (by decide +kernel), List.mem_of_getElem? (i := 402) (by decide +kernel)⟩, fun h => absurd h (by decide +kernel), fun h => absurd h (by decide +kernel), List.mem_of_getElem? (i := 59) (by decide +kernel), List.mem_of_getElem? (i := 403) (by decide +kernel)⟩
theorem zmo_22 : zMok 22 := ⟨fun _ => ⟨List.mem_of_getElem? (i := 386) (by decide +kernel), List.mem_of_getElem? (i := 1) (by decide +kernel)⟩, fun h => absurd h (by decide +kernel), fun h => absurd h (by decide +kernel), List.mem_of_getElem? (i := 59) (by decide +kernel), List.mem_of_getElem? (i := 387) (by decide +kernel)⟩
theorem zmo_23 : zMok 23 := ⟨fun _ => ⟨List.mem_of_getElem? (i := 548) (by decide +kernel), List.mem_of_getElem? (i := 549) (by decide +kernel)⟩, fun h => absurd h (by decide +kernel), fun h => absurd h (by decide +kernel), List.mem_of_getElem? (i := 59) (by decide +kernel), List.mem_of_getElem? (i := 550) (by decide +kernel)⟩
theorem zmo_24 : zMok 24 := ⟨fun _ => ⟨List.mem_of_getElem? (i := 366) (by decide +kernel), List.mem_of_getElem? (i := 367) (by decide +kernel)⟩, fun h => absurd h (by decide +kernel), fun h => absurd h (by decide +kernel), List.mem_of_getElem? (i := 59) (by decide +kernel), List.mem_of_getElem? (i := 368) (by decide +kernel)⟩
theorem zmo_25 : zMok 25 := ⟨fun _ => ⟨List.mem_of_getElem? (i := 393) (by decide +kernel), List.mem_of_getElem? (i := 394) (by decide +kernel)⟩, fun h => absurd h (by decide +kernel), fun h => absurd h (by decide +kernel), List.mem_of_getElem? (i := 59) (by decide +kernel), List.mem_of_getElem? (i := 395) (by decide +kernel)⟩
theorem zmo_26 : zMok 26 := ⟨fun _ => ⟨List.mem_of_getElem? (i := 389) (by decide +kernel), List.mem_of_getElem? (i := 390) (by decide +kernel)⟩, fun h => absurd h (by decide +kernel), fun h => absurd h (by decide +kernel), List.mem_of_getElem? (i := 59) (by decide +kernel), List.mem_of_getElem? (i := 391) (by decide +kernel)⟩
theorem zmo_27 : zMok 27 := ⟨fun _ => ⟨List.mem_of_getElem? (i := 405) (by decide +kernel), List.mem_of_getElem? (i := 406) (by decide +kernel)⟩, fun h => absurd h (by decide +kernel), fun h => absurd h (by decide +kernel), List.mem_of_getElem? (i := 59) (by decide +kernel), List.mem_of_getElem? (i := 407) (by decide +kernel)⟩
theorem zmo_28 : zMok 28 := ⟨fun _ => ⟨List.mem_of_getElem? (i := 765) (by decide +kernel), List.mem_of_getElem? (i := 766) (by decide +kernel)⟩, fun h => absurd h (by decide +kernel), fun h => absurd h (by decide +kernel), List.mem_of_getElem? (i := 59) (by decide +kernel), List.mem_of_getElem? (i := 767) (by decide +kernel)⟩
theorem zmo_29 : zMok 29 := ⟨fun _ => ⟨List.mem_of_getElem? (i := 769) (by decide +kernel), List.mem_of_getElem? (i := 770) (by decide +kernel)⟩, fun h => absurd h (by decide +kernel), fun h => absurd h (by decide +kernel), List.mem_of_getElem? (i := 59) (by decide +kernel), List.mem_of_getElem? (i := 771) (by decide +kernel)⟩
theorem zmo_30 : zMok 30 := ⟨fun _ => ⟨List.mem_of_getElem? (i := 494) (by decide +kernel), List.mem_of_getElem? (i := 495) (by decide +kernel)⟩, fun h => absurd h (by decide +kernel), fun h => absurd h (by decide +kernel), List.mem_of_getElem? (i := 59) (by decide +kernel), List.mem_of_getElem? (i := 496) (by decide +kernel)⟩
theorem zmo_31 : zMok 31 := ⟨fun _ => ⟨List.mem_of_getElem? (i := 503) (by decide +kernel), List.mem_of_getElem? (i := 4) (by decide +kernel)⟩, fun h => absurd h (by decide +kernel), fun h => absurd h (by decide +kernel), List.mem_of_getElem? (i := 59) (by decide +kernel), List.mem_of_getElem? (i := 504) (by decide +kernel)⟩
theorem zmo_32 : zMok 32 := ⟨fun _ => ⟨List.mem_of_getElem? (i := 511) (by decide +kernel), List.mem_of_getElem? (i := 5) (by decide +kernel)⟩, fun h => absurd h (by decide +kernel), fun h => absurd h (by decide +kernel), List.mem_of_getElem? (i := 59) (by decide +kernel), List.mem_of_getElem? (i := 512) (by decide +kernel)⟩
theorem zmo_33 : zMok 33 := ⟨fun _ => ⟨List.mem_of_getElem? (i := 514) (by decide +kernel), List.mem_of_getElem? (i := 515) (by decide +kernel)⟩, fun h => absurd h (by decide +kernel), fun h => absurd h (by decide +kernel), List.mem_of_getElem? (i := 59) (by decide +kernel), List.mem_of_getElem? (i := 516) (by decide +kernel)⟩
theorem zmo_34 : zMok 34 := ⟨fun _ => ⟨List.mem_of_getElem? (i := 520) (by decide +kernel), List.mem_of_getElem? (i := 6) (by decide +kernel)⟩, fun h => absurd h (by decide +kernel), fun h => absurd h (by decide +kernel), List.mem_of_getElem? (i := 59) (by decide +kernel), List.mem_of_getElem? (i := 521) (by decide +kernel)⟩
theorem zmo_35 : zMok 35 := ⟨fun _ => ⟨List.mem_of_getElem? (i := 526) (by decide +kernel), List.mem_of_getElem? (i := 7) (by decide +kernel)⟩, fun h => absurd h (by decide +kernel), fun h => absurd h (by decide +kernel), List.mem_of_getElem? (i := 59) (by decide +kernel), List.mem_of_getElem? (i := 527) (by decide +kernel)⟩
theorem zmo_36 : zMok 36 := ⟨fun _ => ⟨List.mem_of_getElem? (i := 531) (by decide +kernel), List.mem_of_getElem? (i := 8) (by decide +kernel)⟩, fun h => absurd h (by decide +kernel), fun h => absurd h (by decide +kernel), List.mem_of_getElem? (i := 59) (by decide +kernel), List.mem_of_getElem? (i := 532) (by decide +kernel)⟩
theorem zmo_37 : zMok 37 := ⟨fun _ => ⟨List.mem_of_getElem? (i := 683) (by decide +kernel), List.mem_of_getElem? (i := 684) (by decide +kernel)⟩, fun h => absurd h (by decide +kernel), fun h => absurd h (by decide +kernel), List.mem_of_getElem? (i := 59) (by decide +kernel), List.mem_of_getElem? (i := 685) (by decide +kernel)⟩
theorem zmo_38 : zMok 38 := ⟨fun _ => ⟨List.mem_of_getElem? (i := 691) (by decide +kernel), List.mem_of_getElem? (i := 692) (by decide +kernel)⟩, fun h => absurd h (by decide +kernel), fun h => absurd h (by decide +kernel), List.mem_of_getElem? (i := 59) (by decide +kernel), List.mem_of_getElem? (i := 693) (by decide +kernel)⟩
theorem zmo_39 : zMok 39 := ⟨fun _ => ⟨List.mem_of_getElem? (i := 703) (by decide +kernel), List.mem_of_getElem? (i := 704) (by decide +kernel)⟩, fun h => absurd h (by decide +kernel), fun h => absurd h (by decide +kernel), List.mem_of_getElem? (i := 59) (by decide +kernel), List.mem_of_getElem? (i := 705) (by decide +kernel)⟩
theorem zmo_40 : zMok 40 := ⟨fun h => absurd h (by decide +kernel), fun h => absurd h (by decide +kernel), fun _ => ⟨List.mem_of_getElem? (i := 233) (by decide +kernel), by decide +kernel, by decide +kernel⟩, List.mem_of_getElem? (i := 66) (by decide +kernel), List.mem_of_getElem? (i := 234) (by decide +kernel)⟩
theorem zmo_41 : zMok 41 := ⟨fun _ => ⟨List.mem_of_getElem? (i := 659) (by decide +kernel), List.mem_of_getElem? (i := 660) (by decide +kernel)⟩, fun h => absurd h (by decide +kernel), fun h => absurd h (by decide +kernel), List.mem_of_getElem? (i := 66) (by decide +kernel), List.mem_of_getElem? (i := 661) (by decide +kernel)⟩
theorem zmo_42 : zMok 42 := ⟨fun _ => ⟨List.mem_of_getElem? (i := 664) (by decide +kernel), List.mem_of_getElem? (i := 665) (by decide +kernel)⟩, fun h => absurd h (by decide +kernel), fun h => absurd h (by decide +kernel), List.mem_of_getElem? (i := 66) (by decide +kernel), List.mem_of_getElem? (i := 666) (by decide +kernel)⟩
theorem zmo_43 : zMok 43 := ⟨fun _ => ⟨List.mem_of_getElem? (i := 670) (by decide +kernel), List.mem_of_getElem? (i := 671) (by decide +kernel)⟩, fun h => absurd h (by decide +kernel), fun h => absurd h (by decide +kernel), List.mem_of_getElem? (i := 66) (by decide +kernel), List.mem_of_getElem? (i := 672) (by decide +kernel)⟩
theorem zmo_44 : zMok 44 := ⟨fun _ => ⟨List.mem_of_getElem? (i := 676) (by decide +kernel), List.mem_of_getElem? (i := 15) (by decide +kernel)⟩, fun h => absurd h (by decide +kernel), fun h => absurd h (by decide +kernel), List.mem_of_getElem? (i := 66) (by decide +kernel), List.mem_of_getElem? (i := 677) (by decide +kernel)⟩
theorem zmo_45 : zMok 45 := ⟨fun h => absurd h (by decide +kernel), fun h => absurd h (by decide +kernel), fun _ => ⟨List.mem_of_getElem? (i := 144) (by decide +kernel), by decide +kernel, by decide +kernel⟩, List.mem_of_getElem? (i := 62) (by decide +kernel), List.mem_of_getElem? (i := 145) (by decide +kernel)⟩
theorem zmo_46 : zMok 46 := ⟨fun _ => ⟨List.mem_of_getElem? (i := 417) (by decide +kernel), List.mem_of_getElem? (i := 418) (by decide +kernel)⟩, fun h => absurd h (by decide +kernel), fun h => absurd h (by decide +kernel), List.mem_of_getElem? (i := 62) (by decide +kernel), List.mem_of_getElem? (i := 419) (by decide +kernel)⟩
theorem zmo_47 : zMok 47 := ⟨fun _ => ⟨List.mem_of_getElem? (i := 426) (by decide +kernel), List.mem_of_getElem? (i := 427) (by decide +kernel)⟩, fun h => absurd h (by decide +kernel), fun h => absurd h (by decide +kernel), List.mem_of_getElem? (i := 62) (by decide +kernel), List.mem_of_getElem? (i := 428) (by decide +kernel)⟩
theorem zmo_48 : zMok 48 := ⟨fun _ => ⟨List.mem_of_getElem? (i := 434) (by decide +kernel), List.mem_of_getElem? (i := 435) (by decide +kernel)⟩, fun h => absurd h (by decide +kernel), fun h => absurd h (by decide +kernel), List.mem_of_getElem? (i := 62) (by decide +kernel), List.mem_of_getElem? (i := 436) (by decide +kernel)⟩
theorem zmo_49 : zMok 49 := ⟨fun h => absurd h (by decide +kernel), fun _ => List.mem_of_getElem? (i := 439) (by decide +kernel), fun h => absurd h (by decide +kernel), List.mem_of_getElem? (i := 62) (by decide +kernel), List.mem_of_getElem? (i := 440) (by decide +kernel)⟩
theorem zmo_50 : zMok 50 := ⟨fun h => absurd h (by decide +kernel), fun _ => List.mem_of_getElem? (i := 442) (by decide +kernel), fun h => absurd h (by decide +kernel), List.mem_of_getElem? (i := 62) (by decide +kernel), List.mem_of_getElem? (i := 443) (by decide +kernel)⟩
theorem zmo_51 : zMok 51 := ⟨fun h => absurd h (by decide +kernel), fun _ => List.mem_of_getElem? (i := 446) (by decide +kernel), fun h => absurd h (by decide +kernel), List.mem_of_getElem? (i := 62) (by decide +kernel), List.mem_of_getElem? (i := 447) (by decide +kernel)⟩
theorem zmo_52 : zMok 52 := ⟨fun h => absurd h (by decide +kernel), fun _ => List.mem_of_getElem? (i := 484) (by decide +kernel), fun h => absurd h (by decide +kernel), List.mem_of_getElem? (i := 62) (by decide +kernel), List.mem_of_getElem? (i := 485) (by decide +kernel)⟩
theorem zmo_53 : zMok 53 := ⟨fun h => absurd h (by decide +kernel), fun _ => List.mem_of_getElem? (i := 487) (by decide +kernel), fun h => absurd h (by decide +kernel), List.mem_of_getElem? (i := 62) (by decide +kernel), List.mem_of_getElem? (i := 488) (by decide +kernel)⟩
theorem zmo_54 : zMok 54 := ⟨fun h => absurd h (by decide +kernel), fun h => absurd h (by decide +kernel), fun _ => ⟨List.mem_of_getElem? (i := 197) (by decide +kernel), by decide +kernel, by decide +kernel⟩, List.mem_of_getElem? (i := 64) (by decide +kernel), List.mem_of_getElem? (i := 198) (by decide +kernel)⟩
theorem zmo_55 : zMok 55 := ⟨fun _ => ⟨List.mem_of_getElem? (i := 592) (by decide +kernel), List.mem_of_getElem? (i := 593) (by decide +kernel)⟩, fun h => absurd h (by decide +kernel), fun h => absurd h (by decide +kernel), List.mem_of_getElem? (i := 64) (by decide +kernel), List.mem_of_getElem? (i := 594) (by decide +kernel)⟩
theorem zmo_56 : zMok 56 := ⟨fun _ => ⟨List.mem_of_getElem? (i := 597) (by decide +kernel), List.mem_of_getElem? (i := 10) (by decide +kernel)⟩, fun h => absurd h (by decide +kernel), fun h => absurd h (by decide +kernel), List.mem_of_getElem? (i := 64) (by decide +kernel), List.mem_of_getElem? (i := 598) (by decide +kernel)⟩
theorem zmo_57 : zMok 57 := ⟨fun _ => ⟨List.mem_of_getElem? (i := 607) (by decide +kernel), List.mem_of_getElem? (i := 11) (by decide +kernel)⟩, fun h => absurd h (by decide +kernel), fun h => absurd h (by decide +kernel), List.mem_of_getElem? (i := 64) (by decide +kernel), List.mem_of_getElem? (i := 608) (by decide +kernel)⟩
theorem zmo_58 : zMok 58 := ⟨fun _ => ⟨List.mem_of_getElem? (i := 613) (by decide +kernel), List.mem_of_getElem? (i := 12) (by decide +kernel)⟩, fun h => absurd h (by decide +kernel), fun h => absurd h (by decide +kernel), List.mem_of_getElem? (i := 64) (by decide +kernel), List.mem_of_getElem? (i := 614) (by decide +kernel)⟩
theorem zmo_59 : zMok 59 := ⟨fun h => absurd h (by decide +kernel), fun h => absurd h (by decide +kernel), fun _ => ⟨List.mem_of_getElem? (i := 92) (by decide +kernel), by decide +kernel, by decide +kernel⟩, List.mem_of_getElem? (i := 60) (by decide +kernel), List.mem_of_getElem? (i := 93) (by decide +kernel)⟩
theorem zmo_60 : zMok 60 := ⟨fun _ => ⟨List.mem_of_getElem? (i := 284) (by decide +kernel), List.mem_of_getElem? (i := 285) (by decide +kernel)⟩, fun h => absurd h (by decide +kernel), fun h => absurd h (by decide +kernel), List.mem_of_getElem? (i := 60) (by decide +kernel), List.mem_of_getElem? (i := 286) (by decide +kernel)⟩
theorem zmo_61 : zMok 61 := ⟨fun _ => ⟨List.mem_of_getElem? (i := 104) (by decide +kernel), List.mem_of_getElem? (i := 105) (by decide +kernel)⟩, fun h => absurd h (by decide +kernel), fun h => absurd h (by decide +kernel), List.mem_of_getElem? (i := 60) (by decide +kernel), List.mem_of_getElem? (i := 106) (by decide +kernel)⟩
theorem zmo_62 : zMok 62 := ⟨fun _ => ⟨List.mem_of_getElem? (i := 474) (by decide +kernel), List.mem_of_getElem? (i := 475) (by decide +kernel)⟩, fun h => absurd h (by decide +kernel), fun h => absurd h (by decide +kernel), List.mem_of_getElem? (i := 60) (by decide +kernel), List.mem_of_getElem? (i := 476) (by decide +kernel)⟩
theorem zmo_63 : zMok 63 := ⟨fun _ => ⟨List.mem_of_getElem? (i := 467) (by decide +kernel), List.mem_of_getElem? (i := 468) (by decide +kernel)⟩, fun h => absurd h (by decide +kernel), fun h => absurd h (by decide +kernel), List.mem_of_getElem? (i := 60) (by decide +kernel), List.mem_of_getElem? (i := 469) (by decide +kernel)⟩
theorem zmo_64 : zMok 64 := ⟨fun h => absurd h (by decide +kernel), fun h => absurd h (by decide +kernel), fun _ => ⟨List.mem_of_getElem? (i := 245) (by decide +kernel), by decide +kernel, by decide +kernel⟩, List.mem_of_getElem? (i := 67) (by decide +kernel), List.mem_of_getElem? (i := 246) (by decide +kernel)⟩
theorem zmo_65 : zMok 65 := ⟨fun _ => ⟨List.mem_of_getElem? (i := 699) (by decide +kernel), List.mem_of_getElem? (i := 700) (by decide +kernel)⟩, fun h => absurd h (by decide +kernel), fun h => absurd h (by decide +kernel), List.mem_of_getElem? (i := 67) (by decide +kernel), List.mem_of_getElem? (i := 701) (by decide +kernel)⟩
theorem zmo_66 : zMok 66 := ⟨fun h => absurd h (by decide +kernel), fun _ => List.mem_of_getElem? (i := 707) (by decide +kernel), fun h => absurd h (by decide +kernel), List.mem_of_getElem? (i := 67) (by decide +kernel), List.mem_of_getElem? (i := 708) (by decide +kernel)⟩
theorem zmo_67 : zMok 67 := ⟨fun _ => ⟨List.mem_of_getElem? (i := 715) (by decide +kernel), List.mem_of_getElem? (i := 716) (by decide +kernel)⟩, fun h => absurd h (by decide +kernel), fun h => absurd h (by decide +kernel), List.mem_of_getElem? (i := 67) (by decide +kernel), List.mem_of_getElem? (i := 717) (by decide +kernel)⟩
theorem zmo_68 : zMok 68 := ⟨fun _ => ⟨List.mem_of_getElem? (i := 720) (by decide +kernel), List.mem_of_getElem? (i := 16) (by decide +kernel)⟩, fun h => absurd h (by decide +kernel), fun h => absurd h (by decide +kernel), List.mem_of_getElem? (i := 67) (by decide +kernel), List.mem_of_getElem? (i := 721) (by decide +kernel)⟩
theorem zmo_69 : zMok 69 := ⟨fun h => absurd h (by decide +kernel), fun h => absurd h (by decide +kernel), fun _ => ⟨List.mem_of_getElem? (i := 273) (by decide +kernel), by decide +kernel, by decide +kernel⟩, List.mem_of_getElem? (i := 68) (by decide +kernel), List.mem_of_getElem? (i := 274) (by decide +kernel)⟩
theorem zmo_70 : zMok 70 := ⟨fun _ => ⟨List.mem_of_getElem? (i := 280) (by decide +kernel), List.mem_of_getElem? (i := 0) (by decide +kernel)⟩, fun h => absurd h (by decide +kernel), fun h => absurd h (by decide +kernel), List.mem_of_getElem? (i := 68) (by decide +kernel), List.mem_of_getElem? (i := 281) (by decide +kernel)⟩
theorem zmo_71 : zMok 71 := ⟨fun _ => ⟨List.mem_of_getElem? (i := 731) (by decide +kernel), List.mem_of_getElem? (i := 732) (by decide +kernel)⟩, fun h => absurd h (by decide +kernel), fun h => absurd h (by decide +kernel), List.mem_of_getElem? (i := 68) (by decide +kernel), List.mem_of_getElem? (i := 733) (by decide +kernel)⟩
theorem zmo_72 : zMok 72 := ⟨fun h => absurd h (by decide +kernel), fun h => absurd h (by decide +kernel), fun _ => ⟨List.mem_of_getElem? (i := 218) (by decide +kernel), by decide +kernel, by decide +kernel⟩, List.mem_of_getElem? (i := 65) (by decide +kernel), List.mem_of_getElem? (i := 219) (by decide +kernel)⟩
theorem zmo_73 : zMok 73 := ⟨fun _ => ⟨List.mem_of_getElem? (i := 624) (by decide +kernel), List.mem_of_getElem? (i := 625) (by decide +kernel)⟩, fun h => absurd h (by decide +kernel), fun h => absurd h (by decide +kernel), List.mem_of_getElem? (i := 65) (by decide +kernel), List.mem_of_getElem? (i := 626) (by decide +kernel)⟩
theorem zmo_74 : zMok 74 := ⟨fun _ => ⟨List.mem_of_getElem? (i := 630) (by decide +kernel), List.mem_of_getElem? (i := 13) (by decide +kernel)⟩, fun h => absurd h (by decide +kernel), fun h => absurd h (by decide +kernel), List.mem_of_getElem? (i := 65) (by decide +kernel), List.mem_of_getElem? (i := 631) (by decide +kernel)⟩
theorem zmo_75 : zMok 75 := ⟨fun _ => ⟨List.mem_of_getElem? (i := 640) (by decide +kernel), List.mem_of_getElem? (i := 641) (by decide +kernel)⟩, fun h => absurd h (by decide +kernel), fun h => absurd h (by decide +kernel), List.mem_of_getElem? (i := 65) (by decide +kernel), List.mem_of_getElem? (i := 642) (by decide +kernel)⟩
theorem zmo_76 : zMok 76 := ⟨fun _ => ⟨List.mem_of_getElem? (i := 646) (by decide +kernel), List.mem_of_getElem? (i := 647) (by decide +kernel)⟩, fun h => absurd h (by decide +kernel), fun h => absurd h (by decide +kernel), List.mem_of_getElem? (i := 65) (by decide +kernel), List.mem_of_getElem? (i := 648) (by decide +kernel)⟩
theorem zmo_77 : zMok 77 := ⟨fun _ => ⟨List.mem_of_getElem? (i := 651) (by decide +kernel), List.mem_of_getElem? (i := 14) (by decide +kernel)⟩, fun h => absurd h (by decide +kernel), fun h => absurd h (by decide +kernel), List.mem_of_getElem? (i := 65) (by decide +kernel), List.mem_of_getElem? (i := 652) (by decide +kernel)⟩
theorem zmo_78 : zMok 78 := ⟨fun h => absurd h (by decide +kernel), fun h => absurd h (by decide +kernel), fun _ => ⟨List.mem_of_getElem? (i := 78) (by decide +kernel), by decide +kernel, by decide +kernel⟩, List.mem_of_getElem? (i := 58) (by decide +kernel), List.mem_of_getElem? (i := 79) (by decide +kernel)⟩
theorem zmo_79 : zMok 79 := ⟨fun _ => ⟨List.mem_of_getElem? (i := 335) (by decide +kernel), List.mem_of_getElem? (i := 336) (by decide +kernel)⟩, fun h => absurd h (by decide +kernel), fun h => absurd h (by decide +kernel), List.mem_of_getElem? (i := 58) (by decide +kernel), List.mem_of_getElem? (i := 337) (by decide +kernel)⟩
theorem zmo_80 : zMok 80 := ⟨fun _ => ⟨List.mem_of_getElem? (i := 357) (by decide +kernel), List.mem_of_getElem? (i := 358) (by decide +kernel)⟩, fun h => absurd h (by decide +kernel), fun h => absurd h (by decide +kernel), List.mem_of_getElem? (i := 58) (by decide +kernel), List.mem_of_getElem? (i := 359) (by decide +kernel)⟩
theorem zmo_81 : zMok 81 := ⟨fun _ => ⟨List.mem_of_getElem? (i := 370) (by decide +kernel), List.mem_of_getElem? (i := 371) (by decide +kernel)⟩, fun h => absurd h (by decide +kernel), fun h => absurd h (by decide +kernel), List.mem_of_getElem? (i := 58) (by decide +kernel), List.mem_of_getElem? (i := 372) (by decide +kernel)⟩
theorem zmo_82 : zMok 82 := ⟨fun _ => ⟨List.mem_of_getElem? (i := 397) (by decide +kernel), List.mem_of_getElem? (i := 398) (by decide +kernel)⟩, fun h => absurd h (by decide +kernel), fun h => absurd h (by decide +kernel), List.mem_of_getElem? (i := 58) (by decide +kernel), List.mem_of_getElem? (i := 399) (by decide +kernel)⟩
theorem zmo_83 : zMok 83 := ⟨fun _ => ⟨List.mem_of_getElem? (i := 409) (by decide +kernel), List.mem_of_getElem? (i := 410) (by decide +kernel)⟩, fun h => absurd h (by decide +kernel), fun h => absurd h (by decide +kernel), List.mem_of_getElem? (i := 58) (by decide +kernel), List.mem_of_getElem? (i := 411) (by decide +kernel)⟩
theorem zmo_84 : zMok 84 := ⟨fun _ => ⟨List.mem_of_getElem? (i := 413) (by decide +kernel), List.mem_of_getElem? (i := 414) (by decide +kernel)⟩, fun h => absurd h (by decide +kernel), fun h => absurd h (by decide +kernel), List.mem_of_getElem? (i := 58) (by decide +kernel), List.mem_of_getElem? (i := 415) (by decide +kernel)⟩
theorem zmo_85 : zMok 85 := ⟨fun _ => ⟨List.mem_of_getElem? (i := 422) (by decide +kernel), List.mem_of_getElem? (i := 423) (by decide +kernel)⟩, fun h => absurd h (by decide +kernel), fun h => absurd h (by decide +kernel), List.mem_of_getElem? (i := 58) (by decide +kernel), List.mem_of_getElem? (i := 424) (by decide +kernel)⟩
theorem zmo_86 : zMok 86 := ⟨fun _ => ⟨List.mem_of_getElem? (i := 430) (by decide +kernel), List.mem_of_getElem? (i := 431) (by decide +kernel)⟩, fun h => absurd h (by decide +kernel), fun h => absurd h (by decide +kernel), List.mem_of_getElem? (i := 58) (by decide +kernel), List.mem_of_getElem? (i := 432) (by decide +kernel)⟩
theorem zmo_87 : zMok 87 := ⟨fun _ => ⟨List.mem_of_getElem? (i := 450) (by decide +kernel), List.mem_of_getElem? (i := 451) (by decide +kernel)⟩, fun h => absurd h (by decide +kernel), fun h => absurd h (by decide +kernel), List.mem_of_getElem? (i := 58) (by decide +kernel), List.mem_of_getElem? (i := 452) (by decide +kernel)⟩
theorem zmo_88 : zMok 88 := ⟨fun _ => ⟨List.mem_of_getElem? (i := 540) (by decide +kernel), List.mem_of_getElem? (i := 541) (by decide +kernel)⟩, fun h => absurd h (by decide +kernel), fun h => absurd h (by decide +kernel), List.mem_of_getElem? (i := 58) (by decide +kernel), List.mem_of_getElem? (i := 542) (by decide +kernel)⟩
theorem zmo_89 : zMok 89 := ⟨fun _ => ⟨List.mem_of_getElem? (i := 544) (by decide +kernel), List.mem_of_getElem? (i := 545) (by decide +kernel)⟩, fun h => absurd h (by decide +kernel), fun h => absurd h (by decide +kernel), List.mem_of_getElem? (i := 58) (by decide +kernel), List.mem_of_getElem? (i := 546) (by decide +kernel)⟩
theorem zmo_90 : zMok 90 := ⟨fun _ => ⟨List.mem_of_getElem? (i := 553) (by decide +kernel), List.mem_of_getElem? (i := 554) (by decide +kernel)⟩, fun h => absurd h (by decide +kernel), fun h => absurd h (by decide +kernel), List.mem_of_getElem? (i := 58) (by decide +kernel), List.mem_of_getElem? (i := 555) (by decide +kernel)⟩
theorem zmo_91 : zMok 91 := ⟨fun _ => ⟨List.mem_of_getElem? (i := 558) (by decide +kernel), List.mem_of_getElem? (i := 559) (by decide +kernel)⟩, fun h => absurd h (by decide +kernel), fun h => absurd h (by decide +kernel), List.mem_of_getElem? (i := 58) (by decide +kernel), List.mem_of_getElem? (i := 560) (by decide +kernel)⟩
theorem zmo_92 : zMok 92 := ⟨fun _ => ⟨List.mem_of_getElem? (i := 566) (by decide +kernel), List.mem_of_getElem? (i := 567) (by decide +kernel)⟩, fun h => absurd h (by decide +kernel), fun h => absurd h (by decide +kernel), List.mem_of_getElem? (i := 58) (by decide +kernel), List.mem_of_getElem? (i := 568) (by decide +kernel)⟩
theorem zmo_93 : zMok 93 := ⟨fun _ => ⟨List.mem_of_getElem? (i := 571) (by decide +kernel), List.mem_of_getElem? (i := 572) (by decide +kernel)⟩, fun h => absurd h (by decide +kernel), fun h => absurd h (by decide +kernel), List.mem_of_getElem? (i := 58) (by decide +kernel), List.mem_of_getElem? (i := 573) (by decide +kernel)⟩
theorem zmo_94 : zMok 94 := ⟨fun _ => ⟨List.mem_of_getElem? (i := 583) (by decide +kernel), List.mem_of_getElem? (i := 584) (by decide +kernel)⟩, fun h => absurd h (by decide +kernel), fun h => absurd h (by decide +kernel), List.mem_of_getElem? (i := 58) (by decide +kernel), List.mem_of_getElem? (i := 585) (by decide +kernel)⟩
theorem zmo_95 : zMok 95 := ⟨fun _ => ⟨List.mem_of_getElem? (i := 588) (by decide +kernel), List.mem_of_getElem? (i := 589) (by decide +kernel)⟩, fun h => absurd h (by decide +kernel), fun h => absurd h (by decide +kernel), List.mem_of_getElem? (i := 58) (by decide +kernel), List.mem_of_getElem? (i := 590) (by decide +kernel)⟩
theorem zmo_96 : zMok 96 := ⟨fun _ => ⟨List.mem_of_getElem? (i := 620) (by decide +kernel), List.mem_of_getElem? (i := 621) (by decide +kernel)⟩, fun h => absurd h (by decide +kernel), fun h => absurd h (by decide +kernel), List.mem_of_getElem? (i := 58) (by decide +kernel), List.mem_of_getElem? (i := 622) (by decide +kernel)⟩
theorem zmo_97 : zMok 97 := ⟨fun _ => ⟨List.mem_of_getElem? (i := 655) (by decide +kernel), List.mem_of_getElem? (i := 656) (by decide +kernel)⟩, fun h => absurd h (by decide +kernel), fun h => absurd h (by decide +kernel), List.mem_of_getElem? (i := 58) (by decide +kernel), List.mem_of_getElem? (i := 657) (by decide +kernel)⟩
theorem zmo_98 : zMok 98 := ⟨fun _ => ⟨List.mem_of_getElem? (i := 679) (by decide +kernel), List.mem_of_getElem? (i := 680) (by decide +kernel)⟩, fun h => absurd h (by decide +kernel), fun h => absurd h (by decide +kernel), List.mem_of_getElem? (i := 58) (by decide +kernel), List.mem_of_getElem? (i := 681) (by decide +kernel)⟩
theorem zmo_99 : zMok 99 := ⟨fun _ => ⟨List.mem_of_getElem? (i := 687) (by decide +kernel), List.mem_of_getElem? (i := 688) (by decide +kernel)⟩, fun h => absurd h (by decide +kernel), fun h => absurd h (by decide +kernel), List.mem_of_getElem? (i := 58) (by decide +kernel), List.mem_of_getElem? (i := 689) (by decide +kernel)⟩
theorem zmo_100 : zMok 100 := ⟨fun _ => ⟨List.mem_of_getElem? (i := 695) (by decide +kernel), List.mem_of_getElem? (i := 696) (by decide +kernel)⟩, fun h => absurd h (by decide +kernel), fun h => absurd h (by decide +kernel), List.mem_of_getElem? (i := 58) (by decide +kernel), List.mem_of_getElem? (i := 697) (by decide +kernel)⟩
theorem zmo_101 : zMok 101 := ⟨fun _ => ⟨List.mem_of_getElem? (i := 711) (by decide +kernel), List.mem_of_getElem? (i := 712) (by decide +kernel)⟩, fun h => absurd h (by decide +kernel), fun h => absurd h (by decide +kernel), List.mem_of_getElem? (i := 58) (by decide +kernel), List.mem_of_getElem? (i := 713) (by decide +kernel)⟩
theorem zmo_102 : zMok 102 := ⟨fun _ => ⟨List.mem_of_getElem? (i := 727) (by decide +kernel), List.mem_of_getElem? (i := 728) (by decide +kernel)⟩, fun h => absurd h (by decide +kernel), fun h => absurd h (by decide +kernel), List.mem_of_getElem? (i := 58) (by decide +kernel), List.mem_of_getElem? (i := 729) (by decide +kernel)⟩
theorem zmo_103 : zMok 103 := ⟨fun _ => ⟨List.mem_of_getElem? (i := 735) (by decide +kernel), List.mem_of_getElem? (i := 736) (by decide +kernel)⟩, fun h => absurd h (by decide +kernel), fun h => absurd h (by decide +kernel), List.mem_of_getElem? (i := 58) (by decide +kernel), List.mem_of_getElem? (i := 737) (by decide +kernel)⟩
theorem zmo_104 : zMok 104 := ⟨fun _ => ⟨List.mem_of_getElem? (i := 749) (by decide +kernel), List.mem_of_getElem? (i := 750) (by decide +kernel)⟩, fun h => absurd h (by decide +kernel), fun h => absurd h (by decide +kernel), List.mem_of_getElem? (i := 58) (by decide +kernel), List.mem_of_getElem? (i := 751) (by decide +kernel)⟩
theorem zmo_105 : zMok 105 := ⟨fun _ => ⟨List.mem_of_getElem? (i := 773) (by decide +kernel), List.mem_of_getElem? (i := 774) (by decide +kernel)⟩, fun h => absurd h (by decide +kernel), fun h => absurd h (by decide +kernel), List.mem_of_getElem? (i := 58) (by decide +kernel), List.mem_of_getElem? (i := 775) (by decide +kernel)⟩
theorem zmo_106 : zMok 106 := ⟨fun _ => ⟨List.mem_of_getElem? (i := 777) (by decide +kernel), List.mem_of_getElem? (i := 778) (by decide +kernel)⟩, fun h => absurd h (by decide +kernel), fun h => absurd h (by decide +kernel), List.mem_of_getElem? (i := 58) (by decide +kernel), List.mem_of_getElem? (i := 779) (by decide +kernel)⟩
theorem zmo_107 : zMok 107 := ⟨fun _ => ⟨List.mem_of_getElem? (i := 782) (by decide +kernel), List.mem_of_getElem? (i := 783) (by decide +kernel)⟩, fun h => absurd h (by decide +kernel), fun h => absurd h (by decide +kernel), List.mem_of_getElem? (i := 58) (by decide +kernel), List.mem_of_getElem? (i := 784) (by decide +kernel)⟩
theorem zmo_108 : zMok 108 := ⟨fun _ => ⟨List.mem_of_getElem? (i := 787) (by decide +kernel), List.mem_of_getElem? (i := 18) (by decide +kernel)⟩, fun h => absurd h (by decide +kernel), fun h => absurd h (by decide +kernel), List.mem_of_getElem? (i := 58) (by decide +kernel), List.mem_of_getElem? (i := 788) (by decide +kernel)⟩
theorem zmo_109 : zMok 109 := ⟨fun h => absurd h (by decide +kernel), fun _ => List.mem_of_getElem? (i := 111) (by decide +kernel), fun h => absurd h (by decide +kernel), List.mem_of_getElem? (i := 58) (by decide +kernel), List.mem_of_getElem? (i := 112) (by decide +kernel)⟩
theorem zmo_110 : zMok 110 := ⟨fun h => absurd h (by decide +kernel), fun _ => List.mem_of_getElem? (i := 339) (by decide +kernel), fun h => absurd h (by decide +kernel), List.mem_of_getElem? (i := 58) (by decide +kernel), List.mem_of_getElem? (i := 340) (by decide +kernel)⟩
theorem zmo_111 : zMok 111 := ⟨fun h => absurd h (by decide +kernel), fun _ => List.mem_of_getElem? (i := 108) (by decide +kernel), fun h => absurd h (by decide +kernel), List.mem_of_getElem? (i := 58) (by decide +kernel), List.mem_of_getElem? (i := 109) (by decide +kernel)⟩
theorem zmo_112 : zMok 112 := ⟨fun h => absurd h (by decide +kernel), fun _ => List.mem_of_getElem? (i := 374) (by decide +kernel), fun h => absurd h (by decide +kernel), List.mem_of_getElem? (i := 58) (by decide +kernel), List.mem_of_getElem? (i := 375) (by decide +kernel)⟩
theorem zmo_113 : zMok 113 := ⟨fun h => absurd h (by decide +kernel), fun _ => List.mem_of_getElem? (i := 499) (by decide +kernel), fun h => absurd h (by decide +kernel), List.mem_of_getElem? (i := 58) (by decide +kernel), List.mem_of_getElem? (i := 500) (by decide +kernel)⟩
theorem zmo_114 : zMok 114 := ⟨fun h => absurd h (by decide +kernel), fun _ => List.mem_of_getElem? (i := 740) (by decide +kernel), fun h => absurd h (by decide +kernel), List.mem_of_getElem? (i := 58) (by decide +kernel), List.mem_of_getElem? (i := 741) (by decide +kernel)⟩
theorem zmo_115 : zMok 115 := ⟨fun h => absurd h (by decide +kernel), fun _ => List.mem_of_getElem? (i := 743) (by decide +kernel), fun h => absurd h (by decide +kernel), List.mem_of_getElem? (i := 58) (by decide +kernel), List.mem_of_getElem? (i := 744) (by decide +kernel)⟩
theorem zmo_116 : zMok 116 := ⟨fun h => absurd h (by decide +kernel), fun h => absurd h (by decide +kernel), fun _ => ⟨List.mem_of_getElem? (i := 793) (by decide +kernel), by decide +kernel, by decide +kernel⟩, List.mem_of_getElem? (i := 72) (by decide +kernel), List.mem_of_getElem? (i := 794) (by decide +kernel)⟩
theorem zmo_117 : zMok 117 := ⟨fun h => absurd h (by decide +kernel), fun _ => List.mem_of_getElem? (i := 903) (by decide +kernel), fun h => absurd h (by decide +kernel), List.mem_of_getElem? (i := 72) (by decide +kernel), List.mem_of_getElem? (i := 904) (by decide +kernel)⟩
theorem zmo_118 : zMok 118 := ⟨fun h => absurd h (by decide +kernel), fun _ => List.mem_of_getElem? (i := 899) (by decide +kernel), fun h => absurd h (by decide +kernel), List.mem_of_getElem? (i := 72) (by decide +kernel), List.mem_of_getElem? (i := 900) (by decide +kernel)⟩
theorem zmo_119 : zMok 119 := ⟨fun h => absurd h (by decide +kernel), fun _ => List.mem_of_getElem? (i := 916) (by decide +kernel), fun h => absurd h (by decide +kernel), List.mem_of_getElem? (i := 72) (by decide +kernel), List.mem_of_getElem? (i := 917) (by decide +kernel)⟩
theorem zmo_120 : zMok 120 := ⟨fun h => absurd h (by decide +kernel), fun _ => List.mem_of_getElem? (i := 924) (by decide +kernel), fun h => absurd h (by decide +kernel), List.mem_of_getElem? (i := 72) (by decide +kernel), List.mem_of_getElem? (i := 925) (by decide +kernel)⟩
theorem zmo_121 : zMok 121 := ⟨fun h => absurd h (by decide +kernel), fun _ => List.mem_of_getElem? (i := 1003) (by decide +kernel), fun h => absurd h (by decide +kernel), List.mem_of_getElem? (i := 72) (by decide +kernel), List.mem_of_getElem? (i := 1004) (by decide +kernel)⟩
theorem zmo_122 : zMok 122 := ⟨fun h => absurd h (by decide +kernel), fun _ => List.mem_of_getElem? (i := 906) (by decide +kernel), fun h => absurd h (by decide +kernel), List.mem_of_getElem? (i := 72) (by decide +kernel), List.mem_of_getElem? (i := 907) (by decide +kernel)⟩
theorem zmo_123 : zMok 123 := ⟨fun h => absurd h (by decide +kernel), fun _ => List.mem_of_getElem? (i := 909) (by decide +kernel), fun h => absurd h (by decide +kernel), List.mem_of_getElem? (i := 72) (by decide +kernel), List.mem_of_getElem? (i := 910) (by decide +kernel)⟩
theorem zmo_124 : zMok 124 := ⟨fun _ => ⟨List.mem_of_getElem? (i := 895) (by decide +kernel), List.mem_of_getElem? (i := 896) (by decide +kernel)⟩, fun h => absurd h (by decide +kernel), fun h => absurd h (by decide +kernel), List.mem_of_getElem? (i := 72) (by decide +kernel), List.mem_of_getElem? (i := 897) (by decide +kernel)⟩
theorem zmo_125 : zMok 125 := ⟨fun _ => ⟨List.mem_of_getElem? (i := 912) (by decide +kernel), List.mem_of_getElem? (i := 913) (by decide +kernel)⟩, fun h => absurd h (by decide +kernel), fun h => absurd h (by decide +kernel), List.mem_of_getElem? (i := 72) (by decide +kernel), List.mem_of_getElem? (i := 914) (by decide +kernel)⟩
theorem zmo_126 : zMok 126 := ⟨fun _ => ⟨List.mem_of_getElem? (i := 933) (by decide +kernel), List.mem_of_getElem? (i := 20) (by decide +kernel)⟩, fun h => absurd h (by decide +kernel), fun h => absurd h (by decide +kernel), List.mem_of_getElem? (i := 72) (by decide +kernel), List.mem_of_getElem? (i := 934) (by decide +kernel)⟩
theorem zmo_127 : zMok 127 := ⟨fun _ => ⟨List.mem_of_getElem? (i := 929) (by decide +kernel), List.mem_of_getElem? (i := 19) (by decide +kernel)⟩, fun h => absurd h (by decide +kernel), fun h => absurd h (by decide +kernel), List.mem_of_getElem? (i := 72) (by decide +kernel), List.mem_of_getElem? (i := 930) (by decide +kernel)⟩
theorem zmo_128 : zMok 128 := ⟨fun _ => ⟨List.mem_of_getElem? (i := 920) (by decide +kernel), List.mem_of_getElem? (i := 921) (by decide +kernel)⟩, fun h => absurd h (by decide +kernel), fun h => absurd h (by decide +kernel), List.mem_of_getElem? (i := 72) (by decide +kernel), List.mem_of_getElem? (i := 922) (by decide +kernel)⟩
theorem zmo_129 : zMok 129 := ⟨fun _ => ⟨List.mem_of_getElem? (i := 936) (by decide +kernel), List.mem_of_getElem? (i := 937) (by decide +kernel)⟩, fun h => absurd h (by decide +kernel), fun h => absurd h (by decide +kernel), List.mem_of_getElem? (i := 72) (by decide +kernel), List.mem_of_getElem? (i := 938) (by decide +kernel)⟩
theorem zmo_130 : zMok 130 := ⟨fun _ => ⟨List.mem_of_getElem? (i := 940) (by decide +kernel), List.mem_of_getElem? (i := 941) (by decide +kernel)⟩, fun h => absurd h (by decide +kernel), fun h => absurd h (by decide +kernel), List.mem_of_getElem? (i := 72) (by decide +kernel), List.mem_of_getElem? (i := 942) (by decide +kernel)⟩
theorem zmo_131 : zMok 131 := ⟨fun _ => ⟨List.mem_of_getElem? (i := 944) (by decide +kernel), List.mem_of_getElem? (i := 945) (by decide +kernel)⟩, fun h => absurd h (by decide +kernel), fun h => absurd h (by decide +kernel), List.mem_of_getElem? (i := 72) (by decide +kernel), List.mem_of_getElem? (i := 946) (by decide +kernel)⟩
theorem zmo_132 : zMok 132 := ⟨fun _ => ⟨List.mem_of_getElem? (i := 950) (by decide +kernel), List.mem_of_getElem? (i := 951) (by decide +kernel)⟩, fun h => absurd h (by decide +kernel), fun h => absurd h (by decide +kernel), List.mem_of_getElem? (i := 72) (by decide +kernel), List.mem_of_getElem? (i := 952) (by decide +kernel)⟩
theorem zmo_133 : zMok 133 := ⟨fun _ => ⟨List.mem_of_getElem? (i := 972) (by decide +kernel), List.mem_of_getElem? (i := 23) (by decide +kernel)⟩, fun h => absurd h (by decide +kernel), fun h => absurd h (by decide +kernel), List.mem_of_getElem? (i := 72) (by decide +kernel), List.mem_of_getElem? (i := 973) (by decide +kernel)⟩
theorem zmo_134 : zMok 134 := ⟨fun h => absurd h (by decide +kernel), fun _ => List.mem_of_getElem? (i := 966) (by decide +kernel), fun h => absurd h (by decide +kernel), List.mem_of_getElem? (i := 72) (by decide +kernel), List.mem_of_getElem? (i := 967) (by decide +kernel)⟩
theorem zmo_135 : zMok 135 := ⟨fun _ => ⟨List.mem_of_getElem? (i := 963) (by decide +kernel), List.mem_of_getElem? (i := 22) (by decide +kernel)⟩, fun h => absurd h (by decide +kernel), fun h => absurd h (by decide +kernel), List.mem_of_getElem? (i := 72) (by decide +kernel), List.mem_of_getElem? (i := 964) (by decide +kernel)⟩
theorem zmo_136 : zMok 136 := ⟨fun _ => ⟨List.mem_of_getElem? (i := 976) (by decide +kernel), List.mem_of_getElem? (i := 24) (by decide +kernel)⟩, fun h => absurd h (by decide +kernel), fun h => absurd h (by decide +kernel), List.mem_of_getElem? (i := 72) (by decide +kernel), List.mem_of_getElem? (i := 977) (by decide +kernel)⟩
theorem zmo_137 : zMok 137 := ⟨fun _ => ⟨List.mem_of_getElem? (i := 959) (by decide +kernel), List.mem_of_getElem? (i := 21) (by decide +kernel)⟩, fun h => absurd h (by decide +kernel), fun h => absurd h (by decide +kernel), List.mem_of_getElem? (i := 72) (by decide +kernel), List.mem_of_getElem? (i := 960) (by decide +kernel)⟩
theorem zmo_138 : zMok 138 := ⟨fun _ => ⟨List.mem_of_getElem? (i := 954) (by decide +kernel), List.mem_of_getElem? (i := 955) (by decide +kernel)⟩, fun h => absurd h (by decide +kernel), fun h => absurd h (by decide +kernel), List.mem_of_getElem? (i := 72) (by decide +kernel), List.mem_of_getElem? (i := 956) (by decide +kernel)⟩
theorem zmo_139 : zMok 139 := ⟨fun _ => ⟨List.mem_of_getElem? (i := 1007) (by decide +kernel), List.mem_of_getElem? (i := 29) (by decide +kernel)⟩, fun h => absurd h (by decide +kernel), fun h => absurd h (by decide +kernel), List.mem_of_getElem? (i := 72) (by decide +kernel), List.mem_of_getElem? (i := 1008) (by decide +kernel)⟩
theorem zmo_140 : zMok 140 := ⟨fun _ => ⟨List.mem_of_getElem? (i := 1011) (by decide +kernel), List.mem_of_getElem? (i := 30) (by decide +kernel)⟩, fun h => absurd h (by decide +kernel), fun h => absurd h (by decide +kernel), List.mem_of_getElem? (i := 72) (by decide +kernel), List.mem_of_getElem? (i := 1012) (by decide +kernel)⟩
theorem zmo_141 : zMok 141 := ⟨fun _ => ⟨List.mem_of_getElem? (i := 1000) (by decide +kernel), List.mem_of_getElem? (i := 28) (by decide +kernel)⟩, fun h => absurd h (by decide +kernel), fun h => absurd h (by decide +kernel), List.mem_of_getElem? (i := 72) (by decide +kernel), List.mem_of_getElem? (i := 1001) (by decide +kernel)⟩
theorem zmo_142 : zMok 142 := ⟨fun _ => ⟨List.mem_of_getElem? (i := 1023) (by decide +kernel), List.mem_of_getElem? (i := 33) (by decide +kernel)⟩, fun h => absurd h (by decide +kernel), fun h => absurd h (by decide +kernel), List.mem_of_getElem? (i := 72) (by decide +kernel), List.mem_of_getElem? (i := 1024) (by decide +kernel)⟩
theorem zmo_143 : zMok 143 := ⟨fun _ => ⟨List.mem_of_getElem? (i := 1019) (by decide +kernel), List.mem_of_getElem? (i := 32) (by decide +kernel)⟩, fun h => absurd h (by decide +kernel), fun h => absurd h (by decide +kernel), List.mem_of_getElem? (i := 72) (by decide +kernel), List.mem_of_getElem? (i := 1020) (by decide +kernel)⟩
theorem zmo_144 : zMok 144 := ⟨fun _ => ⟨List.mem_of_getElem? (i := 1027) (by decide +kernel), List.mem_of_getElem? (i := 34) (by decide +kernel)⟩, fun h => absurd h (by decide +kernel), fun h => absurd h (by decide +kernel), List.mem_of_getElem? (i := 72) (by decide +kernel), List.mem_of_getElem? (i := 1028) (by decide +kernel)⟩
theorem zmo_145 : zMok 145 := ⟨fun _ => ⟨List.mem_of_getElem? (i := 1031) (by decide +kernel), List.mem_of_getElem? (i := 35) (by decide +kernel)⟩, fun h => absurd h (by decide +kernel), fun h => absurd h (by decide +kernel), List.mem_of_getElem? (i := 72) (by decide +kernel), List.mem_of_getElem? (i := 1032) (by decide +kernel)⟩
theorem zmo_146 : zMok 146 := ⟨fun _ => ⟨List.mem_of_getElem? (i := 1015) (by decide +kernel), List.mem_of_getElem? (i := 31) (by decide +kernel)⟩, fun h => absurd h (by decide +kernel), fun h => absurd h (by decide +kernel), List.mem_of_getElem? (i := 72) (by decide +kernel), List.mem_of_getElem? (i := 1016) (by decide +kernel)⟩
theorem zmo_147 : zMok 147 := ⟨fun _ => ⟨List.mem_of_getElem? (i := 991) (by decide +kernel), List.mem_of_getElem? (i := 26) (by decide +kernel)⟩, fun h => absurd h (by decide +kernel), fun h => absurd h (by decide +kernel), List.mem_of_getElem? (i := 72) (by decide +kernel), List.mem_of_getElem? (i := 992) (by decide +kernel)⟩
theorem zmo_148 : zMok 148 := ⟨fun _ => ⟨List.mem_of_getElem? (i := 1035) (by decide +kernel), List.mem_of_getElem? (i := 36) (by decide +kernel)⟩, fun h => absurd h (by decide +kernel), fun h => absurd h (by decide +kernel), List.mem_of_getElem? (i := 72) (by decide +kernel), List.mem_of_getElem? (i := 1036) (by decide +kernel)⟩
theorem zmo_149 : zMok 149 := ⟨fun _ => ⟨List.mem_of_getElem? (i := 996) (by decide +kernel), List.mem_of_getElem? (i := 27) (by decide +kernel)⟩, fun h => absurd h (by decide +kernel), fun h => absurd h (by decide +kernel), List.mem_of_getElem? (i := 72) (by decide +kernel), List.mem_of_getElem? (i := 997) (by decide +kernel)⟩
theorem zmo_150 : zMok 150 := ⟨fun _ => ⟨List.mem_of_getElem? (i := 987) (by decide +kernel), List.mem_of_getElem? (i := 25) (by decide +kernel)⟩, fun h => absurd h (by decide +kernel), fun h => absurd h (by decide +kernel), List.mem_of_getElem? (i := 72) (by decide +kernel), List.mem_of_getElem? (i := 988) (by decide +kernel)⟩
theorem zmo_151 : zMok 151 := ⟨fun _ => ⟨List.mem_of_getElem? (i := 981) (by decide +kernel), List.mem_of_getElem? (i := 982) (by decide +kernel)⟩, fun h => absurd h (by decide +kernel), fun h => absurd h (by decide +kernel), List.mem_of_getElem? (i := 72) (by decide +kernel), List.mem_of_getElem? (i := 983) (by decide +kernel)⟩
theorem zmo_152 : zMok 152 := ⟨fun _ => ⟨List.mem_of_getElem? (i := 1038) (by decide +kernel), List.mem_of_getElem? (i := 1039) (by decide +kernel)⟩, fun h => absurd h (by decide +kernel), fun h => absurd h (by decide +kernel), List.mem_of_getElem? (i := 72) (by decide +kernel), List.mem_of_getElem? (i := 1040) (by decide +kernel)⟩
theorem zmo_153 : zMok 153 := ⟨fun _ => ⟨List.mem_of_getElem? (i := 1042) (by decide +kernel), List.mem_of_getElem? (i := 1043) (by decide +kernel)⟩, fun h => absurd h (by decide +kernel), fun h => absurd h (by decide +kernel), List.mem_of_getElem? (i := 72) (by decide +kernel), List.mem_of_getElem? (i := 1044) (by decide +kernel)⟩
theorem zmo_154 : zMok 154 := ⟨fun _ => ⟨List.mem_of_getElem? (i := 1046) (by decide +kernel), List.mem_of_getElem? (i := 1047) (by decide +kernel)⟩, fun h => absurd h (by decide +kernel), fun h => absurd h (by decide +kernel), List.mem_of_getElem? (i := 72) (by decide +kernel), List.mem_of_getElem? (i := 1048) (by decide +kernel)⟩
theorem zmo_155 : zMok 155 := ⟨fun _ => ⟨List.mem_of_getElem? (i := 1050) (by decide +kernel), List.mem_of_getElem? (i := 1051) (by decide +kernel)⟩, fun h => absurd h (by decide +kernel), fun h => absurd h (by decide +kernel), List.mem_of_getElem? (i := 72) (by decide +kernel), List.mem_of_getElem? (i := 1052) (by decide +kernel)⟩
theorem zmo_156 : zMok 156 := ⟨fun _ => ⟨List.mem_of_getElem? (i := 1054) (by decide +kernel), List.mem_of_getElem? (i := 1055) (by decide +kernel)⟩, fun h => absurd h (by decide +kernel), fun h => absurd h (by decide +kernel), List.mem_of_getElem? (i := 72) (by decide +kernel), List.mem_of_getElem? (i := 1056) (by decide +kernel)⟩
theorem zmo_157 : zMok 157 := ⟨fun _ => ⟨List.mem_of_getElem? (i := 1063) (by decide +kernel), List.mem_of_getElem? (i := 37) (by decide +kernel)⟩, fun h => absurd h (by decide +kernel), fun h => absurd h (by decide +kernel), List.mem_of_getElem? (i := 72) (by decide +kernel), List.mem_of_getElem? (i := 1064) (by decide +kernel)⟩
theorem zmo_158 : zMok 158 := ⟨fun _ => ⟨List.mem_of_getElem? (i := 1058) (by decide +kernel), List.mem_of_getElem? (i := 1059) (by decide +kernel)⟩, fun h => absurd h (by decide +kernel), fun h => absurd h (by decide +kernel), List.mem_of_getElem? (i := 72) (by decide +kernel), List.mem_of_getElem? (i := 1060) (by decide +kernel)⟩
theorem zmo_159 : zMok 159 := ⟨fun _ => ⟨List.mem_of_getElem? (i := 1066) (by decide +kernel), List.mem_of_getElem? (i := 1067) (by decide +kernel)⟩, fun h => absurd h (by decide +kernel), fun h => absurd h (by decide +kernel), List.mem_of_getElem? (i := 72) (by decide +kernel), List.mem_of_getElem? (i := 1068) (by decide +kernel)⟩
theorem zmo_160 : zMok 160 := ⟨fun _ => ⟨List.mem_of_getElem? (i := 1076) (by decide +kernel), List.mem_of_getElem? (i := 38) (by decide +kernel)⟩, fun h => absurd h (by decide +kernel), fun h => absurd h (by decide +kernel), List.mem_of_getElem? (i := 72) (by decide +kernel), List.mem_of_getElem? (i := 1077) (by decide +kernel)⟩
theorem zmo_161 : zMok 161 := ⟨fun h => absurd h (by decide +kernel), fun _ => List.mem_of_getElem? (i := 1083) (by decide +kernel), fun h => absurd h (by decide +kernel), List.mem_of_getElem? (i := 72) (by decide +kernel), List.mem_of_getElem? (i := 1084) (by decide +kernel)⟩
theorem zmo_162 : zMok 162 := ⟨fun _ => ⟨List.mem_of_getElem? (i := 1080) (by decide +kernel), List.mem_of_getElem? (i := 39) (by decide +kernel)⟩, fun h => absurd h (by decide +kernel), fun h => absurd h (by decide +kernel), List.mem_of_getElem? (i := 72) (by decide +kernel), List.mem_of_getElem? (i := 1081) (by decide +kernel)⟩
theorem zmo_163 : zMok 163 := ⟨fun _ => ⟨List.mem_of_getElem? (i := 1070) (by decide +kernel), List.mem_of_getElem? (i := 1071) (by decide +kernel)⟩, fun h => absurd h (by decide +kernel), fun h => absurd h (by decide +kernel), List.mem_of_getElem? (i := 72) (by decide +kernel), List.mem_of_getElem? (i := 1072) (by decide +kernel)⟩
theorem zmo_164 : zMok 164 := ⟨fun _ => ⟨List.mem_of_getElem? (i := 1091) (by decide +kernel), List.mem_of_getElem? (i := 40) (by decide +kernel)⟩, fun h => absurd h (by decide +kernel), fun h => absurd h (by decide +kernel), List.mem_of_getElem? (i := 72) (by decide +kernel), List.mem_of_getElem? (i := 1092) (by decide +kernel)⟩
theorem zmo_165 : zMok 165 := ⟨fun _ => ⟨List.mem_of_getElem? (i := 1086) (by decide +kernel), List.mem_of_getElem? (i := 1087) (by decide +kernel)⟩, fun h => absurd h (by decide +kernel), fun h => absurd h (by decide +kernel), List.mem_of_getElem? (i := 72) (by decide +kernel), List.mem_of_getElem? (i := 1088) (by decide +kernel)⟩
theorem zmo_166 : zMok 166 := ⟨fun _ => ⟨List.mem_of_getElem? (i := 1100) (by decide +kernel), List.mem_of_getElem? (i := 41) (by decide +kernel)⟩, fun h => absurd h (by decide +kernel), fun h => absurd h (by decide +kernel), List.mem_of_getElem? (i := 72) (by decide +kernel), List.mem_of_getElem? (i := 1101) (by decide +kernel)⟩
theorem zmo_167 : zMok 167 := ⟨fun _ => ⟨List.mem_of_getElem? (i := 1104) (by decide +kernel), List.mem_of_getElem? (i := 42) (by decide +kernel)⟩, fun h => absurd h (by decide +kernel), fun h => absurd h (by decide +kernel), List.mem_of_getElem? (i := 72) (by decide +kernel), List.mem_of_getElem? (i := 1105) (by decide +kernel)⟩
theorem zmo_168 : zMok 168 := ⟨fun _ => ⟨List.mem_of_getElem? (i := 1108) (by decide +kernel), List.mem_of_getElem? (i := 43) (by decide +kernel)⟩, fun h => absurd h (by decide +kernel), fun h => absurd h (by decide +kernel), List.mem_of_getElem? (i := 72) (by decide +kernel), List.mem_of_getElem? (i := 1109) (by decide +kernel)⟩
theorem zmo_169 : zMok 169 := ⟨fun _ => ⟨List.mem_of_getElem? (i := 1094) (by decide +kernel), List.mem_of_getElem? (i := 1095) (by decide +kernel)⟩, fun h => absurd h (by decide +kernel), fun h => absurd h (by decide +kernel), List.mem_of_getElem? (i := 72) (by decide +kernel), List.mem_of_getElem? (i := 1096) (by decide +kernel)⟩
theorem zmo_170 : zMok 170 := ⟨fun _ => ⟨List.mem_of_getElem? (i := 1111) (by decide +kernel), List.mem_of_getElem? (i := 1112) (by decide +kernel)⟩, fun h => absurd h (by decide +kernel), fun h => absurd h (by decide +kernel), List.mem_of_getElem? (i := 72) (by decide +kernel), List.mem_of_getElem? (i := 1113) (by decide +kernel)⟩
theorem zmo_171 : zMok 171 := ⟨fun _ => ⟨List.mem_of_getElem? (i := 1116) (by decide +kernel), List.mem_of_getElem? (i := 1117) (by decide +kernel)⟩, fun h => absurd h (by decide +kernel), fun h => absurd h (by decide +kernel), List.mem_of_getElem? (i := 72) (by decide +kernel), List.mem_of_getElem? (i := 1118) (by decide +kernel)⟩
theorem zmo_172 : zMok 172 := ⟨fun h => absurd h (by decide +kernel), fun _ => List.mem_of_getElem? (i := 1129) (by decide +kernel), fun h => absurd h (by decide +kernel), List.mem_of_getElem? (i := 72) (by decide +kernel), List.mem_of_getElem? (i := 1130) (by decide +kernel)⟩
theorem zmo_173 : zMok 173 := ⟨fun _ => ⟨List.mem_of_getElem? (i := 1125) (by decide +kernel), List.mem_of_getElem? (i := 44) (by decide +kernel)⟩, fun h => absurd h (by decide +kernel), fun h => absurd h (by decide +kernel), List.mem_of_getElem? (i := 72) (by decide +kernel), List.mem_of_getElem? (i := 1126) (by decide +kernel)⟩
theorem zmo_174 : zMok 174 := ⟨fun _ => ⟨List.mem_of_getElem? (i := 1120) (by decide +kernel), List.mem_of_getElem? (i := 1121) (by decide +kernel)⟩, fun h => absurd h (by decide +kernel), fun h => absurd h (by decide +kernel), List.mem_of_getElem? (i := 72) (by decide +kernel), List.mem_of_getElem? (i := 1122) (by decide +kernel)⟩
theorem zmo_175 : zMok 175 := ⟨fun _ => ⟨List.mem_of_getElem? (i := 1138) (by decide +kernel), List.mem_of_getElem? (i := 45) (by decide +kernel)⟩, fun h => absurd h (by decide +kernel), fun h => absurd h (by decide +kernel), List.mem_of_getElem? (i := 72) (by decide +kernel), List.mem_of_getElem? (i := 1139) (by decide +kernel)⟩
theorem zmo_176 : zMok 176 := ⟨fun _ => ⟨List.mem_of_getElem? (i := 1132) (by decide +kernel), List.mem_of_getElem? (i := 1133) (by decide +kernel)⟩, fun h => absurd h (by decide +kernel), fun h => absurd h (by decide +kernel), List.mem_of_getElem? (i := 72) (by decide +kernel), List.mem_of_getElem? (i := 1134) (by decide +kernel)⟩
theorem zmo_177 : zMok 177 := ⟨fun _ => ⟨List.mem_of_getElem? (i := 1151) (by decide +kernel), List.mem_of_getElem? (i := 47) (by decide +kernel)⟩, fun h => absurd h (by decide +kernel), fun h => absurd h (by decide +kernel), List.mem_of_getElem? (i := 72) (by decide +kernel), List.mem_of_getElem? (i := 1152) (by decide +kernel)⟩
theorem zmo_178 : zMok 178 := ⟨fun _ => ⟨List.mem_of_getElem? (i := 1147) (by decide +kernel), List.mem_of_getElem? (i := 46) (by decide +kernel)⟩, fun h => absurd h (by decide +kernel), fun h => absurd h (by decide +kernel), List.mem_of_getElem? (i := 72) (by decide +kernel), List.mem_of_getElem? (i := 1148) (by decide +kernel)⟩
theorem zmo_179 : zMok 179 := ⟨fun _ => ⟨List.mem_of_getElem? (i := 1141) (by decide +kernel), List.mem_of_getElem? (i := 1142) (by decide +kernel)⟩, fun h => absurd h (by decide +kernel), fun h => absurd h (by decide +kernel), List.mem_of_getElem? (i := 72) (by decide +kernel), List.mem_of_getElem? (i := 1143) (by decide +kernel)⟩
theorem zmo_180 : zMok 180 := ⟨fun h => absurd h (by decide +kernel), fun _ => List.mem_of_getElem? (i := 1161) (by decide +kernel), fun h => absurd h (by decide +kernel), List.mem_of_getElem? (i := 72) (by decide +kernel), List.mem_of_getElem? (i := 1162) (by decide +kernel)⟩
theorem zmo_181 : zMok 181 := ⟨fun _ => ⟨List.mem_of_getElem? (i := 1154) (by decide +kernel), List.mem_of_getElem? (i := 1155) (by decide +kernel)⟩, fun h => absurd h (by decide +kernel), fun h => absurd h (by decide +kernel), List.mem_of_getElem? (i := 72) (by decide +kernel), List.mem_of_getElem? (i := 1156) (by decide +kernel)⟩
theorem zmo_182 : zMok 182 := ⟨fun _ => ⟨List.mem_of_getElem? (i := 1174) (by decide +kernel), List.mem_of_getElem? (i := 48) (by decide +kernel)⟩, fun h => absurd h (by decide +kernel), fun h => absurd h (by decide +kernel), List.mem_of_getElem? (i := 72) (by decide +kernel), List.mem_of_getElem? (i := 1175) (by decide +kernel)⟩
theorem zmo_183 : zMok 183 := ⟨fun _ => ⟨List.mem_of_getElem? (i := 1182) (by decide +kernel), List.mem_of_getElem? (i := 50) (by decide +kernel)⟩, fun h => absurd h (by decide +kernel), fun h => absurd h (by decide +kernel), List.mem_of_getElem? (i := 72) (by decide +kernel), List.mem_of_getElem? (i := 1183) (by decide +kernel)⟩
theorem zmo_184 : zMok 184 := ⟨fun _ => ⟨List.mem_of_getElem? (i := 1178) (by decide +kernel), List.mem_of_getElem? (i := 49) (by decide +kernel)⟩, fun h => absurd h (by decide +kernel), fun h => absurd h (by decide +kernel), List.mem_of_getElem? (i := 72) (by decide +kernel), List.mem_of_getElem? (i := 1179) (by decide +kernel)⟩
theorem zmo_185 : zMok 185 := ⟨fun _ => ⟨List.mem_of_getElem? (i := 1164) (by decide +kernel), List.mem_of_getElem? (i := 1165) (by decide +kernel)⟩, fun h => absurd h (by decide +kernel), fun h => absurd h (by decide +kernel), List.mem_of_getElem? (i := 72) (by decide +kernel), List.mem_of_getElem? (i := 1166) (by decide +kernel)⟩
theorem zmo_186 : zMok 186 := ⟨fun _ => ⟨List.mem_of_getElem? (i := 1194) (by decide +kernel), List.mem_of_getElem? (i := 52) (by decide +kernel)⟩, fun h => absurd h (by decide +kernel), fun h => absurd h (by decide +kernel), List.mem_of_getElem? (i := 72) (by decide +kernel), List.mem_of_getElem? (i := 1195) (by decide +kernel)⟩
theorem zmo_187 : zMok 187 := ⟨fun _ => ⟨List.mem_of_getElem? (i := 1198) (by decide +kernel), List.mem_of_getElem? (i := 53) (by decide +kernel)⟩, fun h => absurd h (by decide +kernel), fun h => absurd h (by decide +kernel), List.mem_of_getElem? (i := 72) (by decide +kernel), List.mem_of_getElem? (i := 1199) (by decide +kernel)⟩
theorem zmo_188 : zMok 188 := ⟨fun _ => ⟨List.mem_of_getElem? (i := 1190) (by decide +kernel), List.mem_of_getElem? (i := 51) (by decide +kernel)⟩, fun h => absurd h (by decide +kernel), fun h => absurd h (by decide +kernel), List.mem_of_getElem? (i := 72) (by decide +kernel), List.mem_of_getElem? (i := 1191) (by decide +kernel)⟩
theorem zmo_189 : zMok 189 := ⟨fun _ => ⟨List.mem_of_getElem? (i := 1185) (by decide +kernel), List.mem_of_getElem? (i := 1186) (by decide +kernel)⟩, fun h => absurd h (by decide +kernel), fun h => absurd h (by decide +kernel), List.mem_of_getElem? (i := 72) (by decide +kernel), List.mem_of_getElem? (i := 1187) (by decide +kernel)⟩
theorem zmo_190 : zMok 190 := ⟨fun _ => ⟨List.mem_of_getElem? (i := 1201) (by decide +kernel), List.mem_of_getElem? (i := 1202) (by decide +kernel)⟩, fun h => absurd h (by decide +kernel), fun h => absurd h (by decide +kernel), List.mem_of_getElem? (i := 72) (by decide +kernel), List.mem_of_getElem? (i := 1203) (by decide +kernel)⟩
theorem zmo_191 : zMok 191 := ⟨fun _ => ⟨List.mem_of_getElem? (i := 1213) (by decide +kernel), List.mem_of_getElem? (i := 54) (by decide +kernel)⟩, fun h => absurd h (by decide +kernel), fun h => absurd h (by decide +kernel), List.mem_of_getElem? (i := 72) (by decide +kernel), List.mem_of_getElem? (i := 1214) (by decide +kernel)⟩
theorem zmo_192 : zMok 192 := ⟨fun _ => ⟨List.mem_of_getElem? (i := 1218) (by decide +kernel), List.mem_of_getElem? (i := 55) (by decide +kernel)⟩, fun h => absurd h (by decide +kernel), fun h => absurd h (by decide +kernel), List.mem_of_getElem? (i := 72) (by decide +kernel), List.mem_of_getElem? (i := 1219) (by decide +kernel)⟩
theorem zmo_193 : zMok 193 := ⟨fun _ => ⟨List.mem_of_getElem? (i := 1222) (by decide +kernel), List.mem_of_getElem? (i := 56) (by decide +kernel)⟩, fun h => absurd h (by decide +kernel), fun h => absurd h (by decide +kernel), List.mem_of_getElem? (i := 72) (by decide +kernel), List.mem_of_getElem? (i := 1223) (by decide +kernel)⟩
theorem zmo_194 : zMok 194 := ⟨fun _ => ⟨List.mem_of_getElem? (i := 1205) (by decide +kernel), List.mem_of_getElem? (i := 1206) (by decide +kernel)⟩, fun h => absurd h (by decide +kernel), fun h => absurd h (by decide +kernel), List.mem_of_getElem? (i := 72) (by decide +kernel), List.mem_of_getElem? (i := 1207) (by decide +kernel)⟩
theorem zmo_195 : zMok 195 := ⟨fun h => absurd h (by decide +kernel), fun _ => List.mem_of_getElem? (i := 292) (by decide +kernel), fun h => absurd h (by decide +kernel), List.mem_of_getElem? (i := 71) (by decide +kernel), List.mem_of_getElem? (i := 293) (by decide +kernel)⟩
theorem zmo_196 : zMok 196 := ⟨fun h => absurd h (by decide +kernel), fun _ => List.mem_of_getElem? (i := 351) (by decide +kernel), fun h => absurd h (by decide +kernel), List.mem_of_getElem? (i := 71) (by decide +kernel), List.mem_of_getElem? (i := 352) (by decide +kernel)⟩
theorem zmo_197 : zMok 197 := ⟨fun h => absurd h (by decide +kernel), fun _ => List.mem_of_getElem? (i := 289) (by decide +kernel), fun h => absurd h (by decide +kernel), List.mem_of_getElem? (i := 70) (by decide +kernel), List.mem_of_getElem? (i := 290) (by decide +kernel)⟩
theorem zmo_198 : zMok 198 := ⟨fun h => absurd h (by decide +kernel), fun _ => List.mem_of_getElem? (i := 478) (by decide +kernel), fun h => absurd h (by decide +kernel), List.mem_of_getElem? (i := 74) (by decide +kernel), List.mem_of_getElem? (i := 479) (by decide +kernel)⟩
def zCpOk (o i : Nat) : zRs → Prop
  | (1, a, k, c) => ∃ q : vw_C, zcls[a]? = some q ∧ k < q.2.2 ∧ (c = 0 → Jvm.Cond.fieldLink (zOn o) i (q.2.1 k).1 (q.2.1 k).2.1 (q.2.1 k).2.2.1 ∈ lw_tbl) ∧ (¬ c = 0 → Jvm.Cond.fieldLinkNest (zOn o) i (q.2.1 k).1 (q.2.1 k).2.1 (q.2.1 k).2.2.1 "BenchMemories" ∈ lw_tbl)
  | (2, _, _, c) => Jvm.Cond.constant (zOn o) i (Int32.ofInt c) ∈ lw_tbl
  | (3, _, _, c) => Jvm.Cond.constantLong (zOn o) i (Int64.ofInt c) ∈ lw_tbl
  | (4, a, _, _) => ∃ q : vw_C, zcls[a]? = some q ∧ Jvm.Cond.classLink (zOn o) i q.1 ∈ lw_tbl ∧ Jvm.Cond.instantiable q.1 q.2.2 ∈ lw_tbl ∧ Jvm.Cond.initialized q.1 ∈ lw_tbl
  | (5, N, _, c) => zMok N ∧ (c = 0 → Jvm.Cond.methodLink (zOn o) i (zYn N) ∈ lw_tbl) ∧ (¬ c = 0 → Jvm.Cond.methodLinkNest (zOn o) i (zYn N) "BenchMemories" ∈ lw_tbl)
  | (6, _, _, _) => Jvm.Cond.methodLink (zOn o) i objectInit ∈ lw_tbl
  | (7, _, _, _) => Jvm.Cond.methodLink (zOn o) i arraycopyName ∈ lw_tbl
  | (8, _, _, _) => Jvm.Cond.methodLink (zOn o) i Lib.Math.max.name ∈ lw_tbl
  | (9, _, _, _) => Jvm.Cond.methodLink (zOn o) i Lib.Math.min.name ∈ lw_tbl
  | (10, _, _, _) => Jvm.Cond.methodLink (zOn o) i Lib.MathLoose.max_long.x ∈ lw_tbl
  | _ => False
theorem zk_0_3 : zCpOk 0 3 (6, 0, 0, 0) := List.mem_of_getElem? (i := 164) (by decide +kernel)
theorem zk_0_9 : zCpOk 0 9 (4, 1, 0, 0) := ⟨(RX1, TX1, 8), rfl, List.mem_of_getElem? (i := 165) (by decide +kernel), List.mem_of_getElem? (i := 84) (by decide +kernel), List.mem_of_getElem? (i := 59) (by decide +kernel)⟩
theorem zk_0_11 : zCpOk 0 11 (5, 9, 0, 0) := ⟨zmo_9, fun _ => List.mem_of_getElem? (i := 166) (by decide +kernel), fun h => absurd rfl h⟩
theorem zk_0_12 : zCpOk 0 12 (1, 0, 0, 0) := ⟨(RX0, TX0, 6), rfl, by decide +kernel, fun _ => List.mem_of_getElem? (i := 169) (by decide +kernel), fun h => absurd rfl h⟩
theorem zk_0_18 : zCpOk 0 18 (4, 5, 0, 0) := ⟨(RX5, TX5, 1), rfl, List.mem_of_getElem? (i := 167) (by decide +kernel), List.mem_of_getElem? (i := 90) (by decide +kernel), List.mem_of_getElem? (i := 60) (by decide +kernel)⟩
theorem zk_0_20 : zCpOk 0 20 (5, 59, 0, 0) := ⟨zmo_59, fun _ => List.mem_of_getElem? (i := 168) (by decide +kernel), fun h => absurd rfl h⟩
theorem zk_0_23 : zCpOk 0 23 (1, 0, 1, 0) := ⟨(RX0, TX0, 6), rfl, by decide +kernel, fun _ => List.mem_of_getElem? (i := 171) (by decide +kernel), fun h => absurd rfl h⟩
theorem zk_0_27 : zCpOk 0 27 (5, 48, 0, 0) := ⟨zmo_48, fun _ => List.mem_of_getElem? (i := 457) (by decide +kernel), fun h => absurd rfl h⟩
theorem zk_0_33 : zCpOk 0 33 (5, 2, 0, 0) := ⟨zmo_2, fun _ => List.mem_of_getElem? (i := 458) (by decide +kernel), fun h => absurd rfl h⟩
theorem zk_0_37 : zCpOk 0 37 (1, 3, 1, 1) := ⟨(RX3, TX3, 2), rfl, by decide +kernel, fun h => absurd h (by decide +kernel), fun _ => List.mem_of_getElem? (i := 152) (by decide +kernel)⟩
theorem zk_0_41 : zCpOk 0 41 (1, 0, 4, 0) := ⟨(RX0, TX0, 6), rfl, by decide +kernel, fun _ => List.mem_of_getElem? (i := 177) (by decide +kernel), fun h => absurd rfl h⟩
theorem zk_0_44 : zCpOk 0 44 (1, 3, 0, 1) := ⟨(RX3, TX3, 2), rfl, by decide +kernel, fun h => absurd h (by decide +kernel), fun _ => List.mem_of_getElem? (i := 150) (by decide +kernel)⟩
theorem zk_0_47 : zCpOk 0 47 (5, 60, 0, 0) := ⟨zmo_60, fun _ => List.mem_of_getElem? (i := 480) (by decide +kernel), fun h => absurd rfl h⟩
theorem zk_0_51 : zCpOk 0 51 (5, 111, 0, 1) := ⟨zmo_111, fun h => absurd h (by decide +kernel), fun _ => List.mem_of_getElem? (i := 481) (by decide +kernel)⟩
theorem zk_0_55 : zCpOk 0 55 (5, 49, 0, 0) := ⟨zmo_49, fun _ => List.mem_of_getElem? (i := 482) (by decide +kernel), fun h => absurd rfl h⟩
theorem zk_0_59 : zCpOk 0 59 (5, 52, 0, 0) := ⟨zmo_52, fun _ => List.mem_of_getElem? (i := 483) (by decide +kernel), fun h => absurd rfl h⟩
theorem zk_0_62 : zCpOk 0 62 (5, 53, 0, 0) := ⟨zmo_53, fun _ => List.mem_of_getElem? (i := 486) (by decide +kernel), fun h => absurd rfl h⟩
theorem zk_0_65 : zCpOk 0 65 (5, 3, 0, 0) := ⟨zmo_3, fun _ => List.mem_of_getElem? (i := 489) (by decide +kernel), fun h => absurd rfl h⟩
theorem zk_0_69 : zCpOk 0 69 (5, 10, 0, 0) := ⟨zmo_10, fun _ => List.mem_of_getElem? (i := 462) (by decide +kernel), fun h => absurd rfl h⟩
theorem zk_0_72 : zCpOk 0 72 (5, 62, 0, 0) := ⟨zmo_62, fun _ => List.mem_of_getElem? (i := 473) (by decide +kernel), fun h => absurd rfl h⟩
theorem zk_0_75 : zCpOk 0 75 (1, 0, 2, 0) := ⟨(RX0, TX0, 6), rfl, by decide +kernel, fun _ => List.mem_of_getElem? (i := 173) (by decide +kernel), fun h => absurd rfl h⟩
theorem zk_0_78 : zCpOk 0 78 (1, 0, 3, 0) := ⟨(RX0, TX0, 6), rfl, by decide +kernel, fun _ => List.mem_of_getElem? (i := 175) (by decide +kernel), fun h => absurd rfl h⟩
theorem zk_0_81 : zCpOk 0 81 (1, 0, 5, 0) := ⟨(RX0, TX0, 6), rfl, by decide +kernel, fun _ => List.mem_of_getElem? (i := 179) (by decide +kernel), fun h => absurd rfl h⟩
theorem zk_0_84 : zCpOk 0 84 (5, 30, 0, 0) := ⟨zmo_30, fun _ => List.mem_of_getElem? (i := 493) (by decide +kernel), fun h => absurd rfl h⟩
theorem zk_0_88 : zCpOk 0 88 (5, 33, 0, 0) := ⟨zmo_33, fun _ => List.mem_of_getElem? (i := 513) (by decide +kernel), fun h => absurd rfl h⟩
theorem zk_0_91 : zCpOk 0 91 (5, 20, 0, 0) := ⟨zmo_20, fun _ => List.mem_of_getElem? (i := 533) (by decide +kernel), fun h => absurd rfl h⟩
theorem zk_0_94 : zCpOk 0 94 (5, 4, 0, 0) := ⟨zmo_4, fun _ => List.mem_of_getElem? (i := 534) (by decide +kernel), fun h => absurd rfl h⟩
theorem zk_0_97 : zCpOk 0 97 (5, 61, 0, 0) := ⟨zmo_61, fun _ => List.mem_of_getElem? (i := 538) (by decide +kernel), fun h => absurd rfl h⟩
theorem zk_0_101 : zCpOk 0 101 (2, 0, 0, 65537) := List.mem_of_getElem? (i := 756) (by decide +kernel)
theorem zk_0_102 : zCpOk 0 102 (5, 7, 0, 0) := ⟨zmo_7, fun _ => List.mem_of_getElem? (i := 757) (by decide +kernel), fun h => absurd rfl h⟩
theorem zk_0_105 : zCpOk 0 105 (5, 8, 0, 0) := ⟨zmo_8, fun _ => List.mem_of_getElem? (i := 761) (by decide +kernel), fun h => absurd rfl h⟩
theorem zko_0 : ∀ q ∈ zc_0, zCpOk 0 q.1 q.2 := List.forall_mem_cons.mpr ⟨zk_0_3, List.forall_mem_cons.mpr ⟨zk_0_9, List.forall_mem_cons.mpr ⟨zk_0_11, List.forall_mem_cons.mpr ⟨zk_0_12, List.forall_mem_cons.mpr ⟨zk_0_18, List.forall_mem_cons.mpr ⟨zk_0_20, List.forall_mem_cons.mpr ⟨zk_0_23, List.forall_mem_cons.mpr ⟨zk_0_27, List.forall_mem_cons.mpr ⟨zk_0_33, List.forall_mem_cons.mpr ⟨zk_0_37, List.forall_mem_cons.mpr ⟨zk_0_41, List.forall_mem_cons.mpr ⟨zk_0_44, List.forall_mem_cons.mpr ⟨zk_0_47, List.forall_mem_cons.mpr ⟨zk_0_51, List.forall_mem_cons.mpr ⟨zk_0_55, List.forall_mem_cons.mpr ⟨zk_0_59, List.forall_mem_cons.mpr ⟨zk_0_62, List.forall_mem_cons.mpr ⟨zk_0_65, List.forall_mem_cons.mpr ⟨zk_0_69, List.forall_mem_cons.mpr ⟨zk_0_72, List.forall_mem_cons.mpr ⟨zk_0_75, List.forall_mem_cons.mpr ⟨zk_0_78, List.forall_mem_cons.mpr ⟨zk_0_81, List.forall_mem_cons.mpr ⟨zk_0_84, List.forall_mem_cons.mpr ⟨zk_0_88, List.forall_mem_cons.mpr ⟨zk_0_91, List.forall_mem_cons.mpr ⟨zk_0_94, List.forall_mem_cons.mpr ⟨zk_0_97, List.forall_mem_cons.mpr ⟨zk_0_101, List.forall_mem_cons.mpr ⟨zk_0_102, List.forall_mem_cons.mpr ⟨zk_0_105, fun _ h => absurd h List.not_mem_nil⟩⟩⟩⟩⟩⟩⟩⟩⟩⟩⟩⟩⟩⟩⟩⟩⟩⟩⟩⟩⟩⟩⟩⟩⟩⟩⟩⟩⟩⟩⟩
theorem zk_1_3 : zCpOk 1 3 (6, 0, 0, 0) := List.mem_of_getElem? (i := 88) (by decide +kernel)
theorem zk_1_9 : zCpOk 1 9 (4, 5, 0, 0) := ⟨(RX5, TX5, 1), rfl, List.mem_of_getElem? (i := 89) (by decide +kernel), List.mem_of_getElem? (i := 90) (by decide +kernel), List.mem_of_getElem? (i := 60) (by decide +kernel)⟩
theorem zk_1_11 : zCpOk 1 11 (5, 59, 0, 0) := ⟨zmo_59, fun _ => List.mem_of_getElem? (i := 91) (by decide +kernel), fun h => absurd rfl h⟩
theorem zk_1_14 : zCpOk 1 14 (1, 1, 0, 0) := ⟨(RX1, TX1, 8), rfl, by decide +kernel, fun _ => List.mem_of_getElem? (i := 113) (by decide +kernel), fun h => absurd rfl h⟩
theorem zk_1_20 : zCpOk 1 20 (1, 1, 1, 0) := ⟨(RX1, TX1, 8), rfl, by decide +kernel, fun _ => List.mem_of_getElem? (i := 114) (by decide +kernel), fun h => absurd rfl h⟩
theorem zk_1_23 : zCpOk 1 23 (1, 1, 2, 0) := ⟨(RX1, TX1, 8), rfl, by decide +kernel, fun _ => List.mem_of_getElem? (i := 115) (by decide +kernel), fun h => absurd rfl h⟩
theorem zk_1_26 : zCpOk 1 26 (1, 1, 3, 0) := ⟨(RX1, TX1, 8), rfl, by decide +kernel, fun _ => List.mem_of_getElem? (i := 116) (by decide +kernel), fun h => absurd rfl h⟩
theorem zk_1_29 : zCpOk 1 29 (1, 1, 4, 0) := ⟨(RX1, TX1, 8), rfl, by decide +kernel, fun _ => List.mem_of_getElem? (i := 117) (by decide +kernel), fun h => absurd rfl h⟩
theorem zk_1_32 : zCpOk 1 32 (5, 61, 0, 0) := ⟨zmo_61, fun _ => List.mem_of_getElem? (i := 103) (by decide +kernel), fun h => absurd rfl h⟩
theorem zk_1_36 : zCpOk 1 36 (5, 111, 0, 1) := ⟨zmo_111, fun h => absurd h (by decide +kernel), fun _ => List.mem_of_getElem? (i := 107) (by decide +kernel)⟩
theorem zk_1_40 : zCpOk 1 40 (5, 63, 0, 0) := ⟨zmo_63, fun _ => List.mem_of_getElem? (i := 466) (by decide +kernel), fun h => absurd rfl h⟩
theorem zk_1_44 : zCpOk 1 44 (1, 1, 5, 0) := ⟨(RX1, TX1, 8), rfl, by decide +kernel, fun _ => List.mem_of_getElem? (i := 118) (by decide +kernel), fun h => absurd rfl h⟩
theorem zk_1_48 : zCpOk 1 48 (1, 1, 6, 0) := ⟨(RX1, TX1, 8), rfl, by decide +kernel, fun _ => List.mem_of_getElem? (i := 120) (by decide +kernel), fun h => absurd rfl h⟩
theorem zk_1_51 : zCpOk 1 51 (1, 1, 7, 0) := ⟨(RX1, TX1, 8), rfl, by decide +kernel, fun _ => List.mem_of_getElem? (i := 122) (by decide +kernel), fun h => absurd rfl h⟩
theorem zk_1_54 : zCpOk 1 54 (5, 60, 0, 0) := ⟨zmo_60, fun _ => List.mem_of_getElem? (i := 345) (by decide +kernel), fun h => absurd rfl h⟩
theorem zk_1_58 : zCpOk 1 58 (5, 196, 0, 0) := ⟨zmo_196, fun _ => List.mem_of_getElem? (i := 350) (by decide +kernel), fun h => absurd rfl h⟩
theorem zk_1_63 : zCpOk 1 63 (5, 113, 0, 1) := ⟨zmo_113, fun h => absurd h (by decide +kernel), fun _ => List.mem_of_getElem? (i := 498) (by decide +kernel)⟩
theorem zk_1_67 : zCpOk 1 67 (5, 14, 0, 0) := ⟨zmo_14, fun _ => List.mem_of_getElem? (i := 578) (by decide +kernel), fun h => absurd rfl h⟩
theorem zk_1_70 : zCpOk 1 70 (5, 22, 0, 0) := ⟨zmo_22, fun _ => List.mem_of_getElem? (i := 384) (by decide +kernel), fun h => absurd rfl h⟩
theorem zk_1_73 : zCpOk 1 73 (5, 21, 0, 0) := ⟨zmo_21, fun _ => List.mem_of_getElem? (i := 551) (by decide +kernel), fun h => absurd rfl h⟩
theorem zk_1_76 : zCpOk 1 76 (5, 18, 0, 0) := ⟨zmo_18, fun _ => List.mem_of_getElem? (i := 497) (by decide +kernel), fun h => absurd rfl h⟩
theorem zk_1_79 : zCpOk 1 79 (5, 31, 0, 0) := ⟨zmo_31, fun _ => List.mem_of_getElem? (i := 501) (by decide +kernel), fun h => absurd rfl h⟩
theorem zk_1_82 : zCpOk 1 82 (5, 32, 0, 0) := ⟨zmo_32, fun _ => List.mem_of_getElem? (i := 509) (by decide +kernel), fun h => absurd rfl h⟩
theorem zk_1_86 : zCpOk 1 86 (5, 17, 0, 0) := ⟨zmo_17, fun _ => List.mem_of_getElem? (i := 505) (by decide +kernel), fun h => absurd rfl h⟩
theorem zk_1_89 : zCpOk 1 89 (5, 24, 0, 0) := ⟨zmo_24, fun _ => List.mem_of_getElem? (i := 517) (by decide +kernel), fun h => absurd rfl h⟩
theorem zk_1_92 : zCpOk 1 92 (5, 34, 0, 0) := ⟨zmo_34, fun _ => List.mem_of_getElem? (i := 518) (by decide +kernel), fun h => absurd rfl h⟩
theorem zk_1_95 : zCpOk 1 95 (5, 35, 0, 0) := ⟨zmo_35, fun _ => List.mem_of_getElem? (i := 524) (by decide +kernel), fun h => absurd rfl h⟩
theorem zk_1_98 : zCpOk 1 98 (5, 26, 0, 0) := ⟨zmo_26, fun _ => List.mem_of_getElem? (i := 528) (by decide +kernel), fun h => absurd rfl h⟩
theorem zk_1_101 : zCpOk 1 101 (5, 36, 0, 0) := ⟨zmo_36, fun _ => List.mem_of_getElem? (i := 529) (by decide +kernel), fun h => absurd rfl h⟩
theorem zk_1_104 : zCpOk 1 104 (5, 27, 0, 0) := ⟨zmo_27, fun _ => List.mem_of_getElem? (i := 522) (by decide +kernel), fun h => absurd rfl h⟩
theorem zk_1_108 : zCpOk 1 108 (5, 25, 0, 0) := ⟨zmo_25, fun _ => List.mem_of_getElem? (i := 523) (by decide +kernel), fun h => absurd rfl h⟩
theorem zk_1_111 : zCpOk 1 111 (5, 66, 0, 0) := ⟨zmo_66, fun _ => List.mem_of_getElem? (i := 706) (by decide +kernel), fun h => absurd rfl h⟩
theorem zko_1 : ∀ q ∈ zc_1, zCpOk 1 q.1 q.2 := List.forall_mem_cons.mpr ⟨zk_1_3, List.forall_mem_cons.mpr ⟨zk_1_9, List.forall_mem_cons.mpr ⟨zk_1_11, List.forall_mem_cons.mpr ⟨zk_1_14, List.forall_mem_cons.mpr ⟨zk_1_20, List.forall_mem_cons.mpr ⟨zk_1_23, List.forall_mem_cons.mpr ⟨zk_1_26, List.forall_mem_cons.mpr ⟨zk_1_29, List.forall_mem_cons.mpr ⟨zk_1_32, List.forall_mem_cons.mpr ⟨zk_1_36, List.forall_mem_cons.mpr ⟨zk_1_40, List.forall_mem_cons.mpr ⟨zk_1_44, List.forall_mem_cons.mpr ⟨zk_1_48, List.forall_mem_cons.mpr ⟨zk_1_51, List.forall_mem_cons.mpr ⟨zk_1_54, List.forall_mem_cons.mpr ⟨zk_1_58, List.forall_mem_cons.mpr ⟨zk_1_63, List.forall_mem_cons.mpr ⟨zk_1_67, List.forall_mem_cons.mpr ⟨zk_1_70, List.forall_mem_cons.mpr ⟨zk_1_73, List.forall_mem_cons.mpr ⟨zk_1_76, List.forall_mem_cons.mpr ⟨zk_1_79, List.forall_mem_cons.mpr ⟨zk_1_82, List.forall_mem_cons.mpr ⟨zk_1_86, List.forall_mem_cons.mpr ⟨zk_1_89, List.forall_mem_cons.mpr ⟨zk_1_92, List.forall_mem_cons.mpr ⟨zk_1_95, List.forall_mem_cons.mpr ⟨zk_1_98, List.forall_mem_cons.mpr ⟨zk_1_101, List.forall_mem_cons.mpr ⟨zk_1_104, List.forall_mem_cons.mpr ⟨zk_1_108, List.forall_mem_cons.mpr ⟨zk_1_111, fun _ h => absurd h List.not_mem_nil⟩⟩⟩⟩⟩⟩⟩⟩⟩⟩⟩⟩⟩⟩⟩⟩⟩⟩⟩⟩⟩⟩⟩⟩⟩⟩⟩⟩⟩⟩⟩⟩
theorem zk_2_3 : zCpOk 2 3 (6, 0, 0, 0) := List.mem_of_getElem? (i := 235) (by decide +kernel)
theorem zk_2_9 : zCpOk 2 9 (4, 5, 0, 0) := ⟨(RX5, TX5, 1), rfl, List.mem_of_getElem? (i := 236) (by decide +kernel), List.mem_of_getElem? (i := 90) (by decide +kernel), List.mem_of_getElem? (i := 60) (by decide +kernel)⟩
theorem zk_2_13 : zCpOk 2 13 (5, 59, 0, 0) := ⟨zmo_59, fun _ => List.mem_of_getElem? (i := 237) (by decide +kernel), fun h => absurd rfl h⟩
theorem zk_2_16 : zCpOk 2 16 (1, 2, 0, 0) := ⟨(RX2, TX2, 1), rfl, by decide +kernel, fun _ => List.mem_of_getElem? (i := 238) (by decide +kernel), fun h => absurd rfl h⟩
theorem zk_2_20 : zCpOk 2 20 (5, 61, 0, 0) := ⟨zmo_61, fun _ => List.mem_of_getElem? (i := 662) (by decide +kernel), fun h => absurd rfl h⟩
theorem zk_2_24 : zCpOk 2 24 (5, 113, 0, 1) := ⟨zmo_113, fun h => absurd h (by decide +kernel), fun _ => List.mem_of_getElem? (i := 667) (by decide +kernel)⟩
theorem zk_2_28 : zCpOk 2 28 (5, 60, 0, 0) := ⟨zmo_60, fun _ => List.mem_of_getElem? (i := 668) (by decide +kernel), fun h => absurd rfl h⟩
theorem zk_2_32 : zCpOk 2 32 (5, 42, 0, 0) := ⟨zmo_42, fun _ => List.mem_of_getElem? (i := 673) (by decide +kernel), fun h => absurd rfl h⟩
theorem zk_2_36 : zCpOk 2 36 (5, 44, 0, 0) := ⟨zmo_44, fun _ => List.mem_of_getElem? (i := 674) (by decide +kernel), fun h => absurd rfl h⟩
theorem zko_2 : ∀ q ∈ zc_2, zCpOk 2 q.1 q.2 := List.forall_mem_cons.mpr ⟨zk_2_3, List.forall_mem_cons.mpr ⟨zk_2_9, List.forall_mem_cons.mpr ⟨zk_2_13, List.forall_mem_cons.mpr ⟨zk_2_16, List.forall_mem_cons.mpr ⟨zk_2_20, List.forall_mem_cons.mpr ⟨zk_2_24, List.forall_mem_cons.mpr ⟨zk_2_28, List.forall_mem_cons.mpr ⟨zk_2_32, List.forall_mem_cons.mpr ⟨zk_2_36, fun _ h => absurd h List.not_mem_nil⟩⟩⟩⟩⟩⟩⟩⟩⟩
theorem zk_3_3 : zCpOk 3 3 (6, 0, 0, 0) := List.mem_of_getElem? (i := 146) (by decide +kernel)
theorem zk_3_9 : zCpOk 3 9 (4, 5, 0, 0) := ⟨(RX5, TX5, 1), rfl, List.mem_of_getElem? (i := 147) (by decide +kernel), List.mem_of_getElem? (i := 90) (by decide +kernel), List.mem_of_getElem? (i := 60) (by decide +kernel)⟩
theorem zk_3_11 : zCpOk 3 11 (5, 59, 0, 0) := ⟨zmo_59, fun _ => List.mem_of_getElem? (i := 148) (by decide +kernel), fun h => absurd rfl h⟩
theorem zk_3_14 : zCpOk 3 14 (1, 3, 0, 0) := ⟨(RX3, TX3, 2), rfl, by decide +kernel, fun _ => List.mem_of_getElem? (i := 149) (by decide +kernel), fun h => absurd rfl h⟩
theorem zk_3_20 : zCpOk 3 20 (1, 3, 1, 0) := ⟨(RX3, TX3, 2), rfl, by decide +kernel, fun _ => List.mem_of_getElem? (i := 151) (by decide +kernel), fun h => absurd rfl h⟩
theorem zk_3_24 : zCpOk 3 24 (5, 61, 0, 0) := ⟨zmo_61, fun _ => List.mem_of_getElem? (i := 420) (by decide +kernel), fun h => absurd rfl h⟩
theorem zk_3_28 : zCpOk 3 28 (5, 60, 0, 0) := ⟨zmo_60, fun _ => List.mem_of_getElem? (i := 437) (by decide +kernel), fun h => absurd rfl h⟩
theorem zk_3_32 : zCpOk 3 32 (5, 49, 0, 0) := ⟨zmo_49, fun _ => List.mem_of_getElem? (i := 438) (by decide +kernel), fun h => absurd rfl h⟩
theorem zk_3_36 : zCpOk 3 36 (5, 50, 0, 0) := ⟨zmo_50, fun _ => List.mem_of_getElem? (i := 441) (by decide +kernel), fun h => absurd rfl h⟩
theorem zk_3_39 : zCpOk 3 39 (5, 51, 0, 0) := ⟨zmo_51, fun _ => List.mem_of_getElem? (i := 445) (by decide +kernel), fun h => absurd rfl h⟩
theorem zk_3_42 : zCpOk 3 42 (5, 110, 0, 1) := ⟨zmo_110, fun h => absurd h (by decide +kernel), fun _ => List.mem_of_getElem? (i := 448) (by decide +kernel)⟩
theorem zk_3_46 : zCpOk 3 46 (5, 111, 0, 1) := ⟨zmo_111, fun h => absurd h (by decide +kernel), fun _ => List.mem_of_getElem? (i := 444) (by decide +kernel)⟩
theorem zko_3 : ∀ q ∈ zc_3, zCpOk 3 q.1 q.2 := List.forall_mem_cons.mpr ⟨zk_3_3, List.forall_mem_cons.mpr ⟨zk_3_9, List.forall_mem_cons.mpr ⟨zk_3_11, List.forall_mem_cons.mpr ⟨zk_3_14, List.forall_mem_cons.mpr ⟨zk_3_20, List.forall_mem_cons.mpr ⟨zk_3_24, List.forall_mem_cons.mpr ⟨zk_3_28, List.forall_mem_cons.mpr ⟨zk_3_32, List.forall_mem_cons.mpr ⟨zk_3_36, List.forall_mem_cons.mpr ⟨zk_3_39, List.forall_mem_cons.mpr ⟨zk_3_42, List.forall_mem_cons.mpr ⟨zk_3_46, fun _ h => absurd h List.not_mem_nil⟩⟩⟩⟩⟩⟩⟩⟩⟩⟩⟩⟩
theorem zk_4_5 : zCpOk 4 5 (6, 0, 0, 0) := List.mem_of_getElem? (i := 199) (by decide +kernel)
theorem zk_4_11 : zCpOk 4 11 (4, 5, 0, 0) := ⟨(RX5, TX5, 1), rfl, List.mem_of_getElem? (i := 200) (by decide +kernel), List.mem_of_getElem? (i := 90) (by decide +kernel), List.mem_of_getElem? (i := 60) (by decide +kernel)⟩
theorem zk_4_13 : zCpOk 4 13 (5, 59, 0, 0) := ⟨zmo_59, fun _ => List.mem_of_getElem? (i := 201) (by decide +kernel), fun h => absurd rfl h⟩
theorem zk_4_16 : zCpOk 4 16 (1, 4, 0, 0) := ⟨(RX4, TX4, 4), rfl, by decide +kernel, fun _ => List.mem_of_getElem? (i := 202) (by decide +kernel), fun h => absurd rfl h⟩
theorem zk_4_20 : zCpOk 4 20 (1, 4, 1, 0) := ⟨(RX4, TX4, 4), rfl, by decide +kernel, fun _ => List.mem_of_getElem? (i := 203) (by decide +kernel), fun h => absurd rfl h⟩
theorem zk_4_23 : zCpOk 4 23 (1, 4, 2, 0) := ⟨(RX4, TX4, 4), rfl, by decide +kernel, fun _ => List.mem_of_getElem? (i := 204) (by decide +kernel), fun h => absurd rfl h⟩
theorem zk_4_26 : zCpOk 4 26 (5, 56, 0, 0) := ⟨zmo_56, fun _ => List.mem_of_getElem? (i := 595) (by decide +kernel), fun h => absurd rfl h⟩
theorem zk_4_30 : zCpOk 4 30 (1, 4, 3, 0) := ⟨(RX4, TX4, 4), rfl, by decide +kernel, fun _ => List.mem_of_getElem? (i := 205) (by decide +kernel), fun h => absurd rfl h⟩
theorem zk_4_34 : zCpOk 4 34 (5, 16, 0, 0) := ⟨zmo_16, fun _ => List.mem_of_getElem? (i := 601) (by decide +kernel), fun h => absurd rfl h⟩
theorem zk_4_40 : zCpOk 4 40 (5, 57, 0, 0) := ⟨zmo_57, fun _ => List.mem_of_getElem? (i := 605) (by decide +kernel), fun h => absurd rfl h⟩
theorem zk_4_44 : zCpOk 4 44 (5, 113, 0, 1) := ⟨zmo_113, fun h => absurd h (by decide +kernel), fun _ => List.mem_of_getElem? (i := 599) (by decide +kernel)⟩
theorem zk_4_48 : zCpOk 4 48 (5, 58, 0, 0) := ⟨zmo_58, fun _ => List.mem_of_getElem? (i := 611) (by decide +kernel), fun h => absurd rfl h⟩
theorem zk_4_52 : zCpOk 4 52 (5, 61, 0, 0) := ⟨zmo_61, fun _ => List.mem_of_getElem? (i := 600) (by decide +kernel), fun h => absurd rfl h⟩
theorem zk_4_55 : zCpOk 4 55 (5, 60, 0, 0) := ⟨zmo_60, fun _ => List.mem_of_getElem? (i := 609) (by decide +kernel), fun h => absurd rfl h⟩
theorem zk_4_58 : zCpOk 4 58 (5, 15, 0, 0) := ⟨zmo_15, fun _ => List.mem_of_getElem? (i := 610) (by decide +kernel), fun h => absurd rfl h⟩
theorem zk_4_61 : zCpOk 4 61 (2, 0, 0, 1000000) := List.mem_of_getElem? (i := 615) (by decide +kernel)
theorem zk_4_62 : zCpOk 4 62 (9, 0, 0, 0) := List.mem_of_getElem? (i := 616) (by decide +kernel)
theorem zko_4 : ∀ q ∈ zc_4, zCpOk 4 q.1 q.2 := List.forall_mem_cons.mpr ⟨zk_4_5, List.forall_mem_cons.mpr ⟨zk_4_11, List.forall_mem_cons.mpr ⟨zk_4_13, List.forall_mem_cons.mpr ⟨zk_4_16, List.forall_mem_cons.mpr ⟨zk_4_20, List.forall_mem_cons.mpr ⟨zk_4_23, List.forall_mem_cons.mpr ⟨zk_4_26, List.forall_mem_cons.mpr ⟨zk_4_30, List.forall_mem_cons.mpr ⟨zk_4_34, List.forall_mem_cons.mpr ⟨zk_4_40, List.forall_mem_cons.mpr ⟨zk_4_44, List.forall_mem_cons.mpr ⟨zk_4_48, List.forall_mem_cons.mpr ⟨zk_4_52, List.forall_mem_cons.mpr ⟨zk_4_55, List.forall_mem_cons.mpr ⟨zk_4_58, List.forall_mem_cons.mpr ⟨zk_4_61, List.forall_mem_cons.mpr ⟨zk_4_62, fun _ h => absurd h List.not_mem_nil⟩⟩⟩⟩⟩⟩⟩⟩⟩⟩⟩⟩⟩⟩⟩⟩⟩
theorem zk_5_3 : zCpOk 5 3 (6, 0, 0, 0) := List.mem_of_getElem? (i := 94) (by decide +kernel)
theorem zk_5_9 : zCpOk 5 9 (8, 0, 0, 0) := List.mem_of_getElem? (i := 95) (by decide +kernel)
theorem zk_5_15 : zCpOk 5 15 (1, 5, 0, 0) := ⟨(RX5, TX5, 1), rfl, by decide +kernel, fun _ => List.mem_of_getElem? (i := 98) (by decide +kernel), fun h => absurd rfl h⟩
theorem zk_5_21 : zCpOk 5 21 (5, 198, 0, 0) := ⟨zmo_198, fun _ => List.mem_of_getElem? (i := 477) (by decide +kernel), fun h => absurd rfl h⟩
theorem zk_5_27 : zCpOk 5 27 (7, 0, 0, 0) := List.mem_of_getElem? (i := 470) (by decide +kernel)
theorem zko_5 : ∀ q ∈ zc_5, zCpOk 5 q.1 q.2 := List.forall_mem_cons.mpr ⟨zk_5_3, List.forall_mem_cons.mpr ⟨zk_5_9, List.forall_mem_cons.mpr ⟨zk_5_15, List.forall_mem_cons.mpr ⟨zk_5_21, List.forall_mem_cons.mpr ⟨zk_5_27, fun _ h => absurd h List.not_mem_nil⟩⟩⟩⟩⟩
theorem zk_6_3 : zCpOk 6 3 (6, 0, 0, 0) := List.mem_of_getElem? (i := 247) (by decide +kernel)
theorem zk_6_9 : zCpOk 6 9 (4, 5, 0, 0) := ⟨(RX5, TX5, 1), rfl, List.mem_of_getElem? (i := 248) (by decide +kernel), List.mem_of_getElem? (i := 90) (by decide +kernel), List.mem_of_getElem? (i := 60) (by decide +kernel)⟩
theorem zk_6_13 : zCpOk 6 13 (5, 59, 0, 0) := ⟨zmo_59, fun _ => List.mem_of_getElem? (i := 249) (by decide +kernel), fun h => absurd rfl h⟩
theorem zk_6_16 : zCpOk 6 16 (1, 6, 0, 0) := ⟨(RX6, TX6, 5), rfl, by decide +kernel, fun _ => List.mem_of_getElem? (i := 250) (by decide +kernel), fun h => absurd rfl h⟩
theorem zk_6_20 : zCpOk 6 20 (1, 6, 1, 0) := ⟨(RX6, TX6, 5), rfl, by decide +kernel, fun _ => List.mem_of_getElem? (i := 252) (by decide +kernel), fun h => absurd rfl h⟩
theorem zk_6_23 : zCpOk 6 23 (1, 6, 2, 0) := ⟨(RX6, TX6, 5), rfl, by decide +kernel, fun _ => List.mem_of_getElem? (i := 253) (by decide +kernel), fun h => absurd rfl h⟩
theorem zk_6_27 : zCpOk 6 27 (5, 39, 0, 0) := ⟨zmo_39, fun _ => List.mem_of_getElem? (i := 702) (by decide +kernel), fun h => absurd rfl h⟩
theorem zk_6_33 : zCpOk 6 33 (5, 61, 0, 0) := ⟨zmo_61, fun _ => List.mem_of_getElem? (i := 709) (by decide +kernel), fun h => absurd rfl h⟩
theorem zk_6_37 : zCpOk 6 37 (1, 6, 3, 0) := ⟨(RX6, TX6, 5), rfl, by decide +kernel, fun _ => List.mem_of_getElem? (i := 255) (by decide +kernel), fun h => absurd rfl h⟩
theorem zk_6_40 : zCpOk 6 40 (1, 6, 4, 0) := ⟨(RX6, TX6, 5), rfl, by decide +kernel, fun _ => List.mem_of_getElem? (i := 257) (by decide +kernel), fun h => absurd rfl h⟩
theorem zk_6_43 : zCpOk 6 43 (5, 68, 0, 0) := ⟨zmo_68, fun _ => List.mem_of_getElem? (i := 718) (by decide +kernel), fun h => absurd rfl h⟩
theorem zk_6_46 : zCpOk 6 46 (5, 60, 0, 0) := ⟨zmo_60, fun _ => List.mem_of_getElem? (i := 723) (by decide +kernel), fun h => absurd rfl h⟩
theorem zk_6_50 : zCpOk 6 50 (8, 0, 0, 0) := List.mem_of_getElem? (i := 725) (by decide +kernel)
theorem zk_6_56 : zCpOk 6 56 (5, 62, 0, 0) := ⟨zmo_62, fun _ => List.mem_of_getElem? (i := 722) (by decide +kernel), fun h => absurd rfl h⟩
theorem zk_6_59 : zCpOk 6 59 (5, 66, 0, 0) := ⟨zmo_66, fun _ => List.mem_of_getElem? (i := 724) (by decide +kernel), fun h => absurd rfl h⟩
theorem zko_6 : ∀ q ∈ zc_6, zCpOk 6 q.1 q.2 := List.forall_mem_cons.mpr ⟨zk_6_3, List.forall_mem_cons.mpr ⟨zk_6_9, List.forall_mem_cons.mpr ⟨zk_6_13, List.forall_mem_cons.mpr ⟨zk_6_16, List.forall_mem_cons.mpr ⟨zk_6_20, List.forall_mem_cons.mpr ⟨zk_6_23, List.forall_mem_cons.mpr ⟨zk_6_27, List.forall_mem_cons.mpr ⟨zk_6_33, List.forall_mem_cons.mpr ⟨zk_6_37, List.forall_mem_cons.mpr ⟨zk_6_40, List.forall_mem_cons.mpr ⟨zk_6_43, List.forall_mem_cons.mpr ⟨zk_6_46, List.forall_mem_cons.mpr ⟨zk_6_50, List.forall_mem_cons.mpr ⟨zk_6_56, List.forall_mem_cons.mpr ⟨zk_6_59, fun _ h => absurd h List.not_mem_nil⟩⟩⟩⟩⟩⟩⟩⟩⟩⟩⟩⟩⟩⟩⟩
theorem zk_7_3 : zCpOk 7 3 (6, 0, 0, 0) := List.mem_of_getElem? (i := 275) (by decide +kernel)
theorem zk_7_9 : zCpOk 7 9 (4, 5, 0, 0) := ⟨(RX5, TX5, 1), rfl, List.mem_of_getElem? (i := 276) (by decide +kernel), List.mem_of_getElem? (i := 90) (by decide +kernel), List.mem_of_getElem? (i := 60) (by decide +kernel)⟩
theorem zk_7_11 : zCpOk 7 11 (5, 59, 0, 0) := ⟨zmo_59, fun _ => List.mem_of_getElem? (i := 277) (by decide +kernel), fun h => absurd rfl h⟩
theorem zk_7_14 : zCpOk 7 14 (1, 7, 0, 0) := ⟨(RX7, TX7, 1), rfl, by decide +kernel, fun _ => List.mem_of_getElem? (i := 296) (by decide +kernel), fun h => absurd rfl h⟩
theorem zk_7_20 : zCpOk 7 20 (5, 70, 0, 0) := ⟨zmo_70, fun _ => List.mem_of_getElem? (i := 278) (by decide +kernel), fun h => absurd rfl h⟩
theorem zk_7_24 : zCpOk 7 24 (3, 0, 0, -1) := List.mem_of_getElem? (i := 287) (by decide +kernel)
theorem zk_7_26 : zCpOk 7 26 (5, 197, 0, 0) := ⟨zmo_197, fun _ => List.mem_of_getElem? (i := 288) (by decide +kernel), fun h => absurd rfl h⟩
theorem zk_7_32 : zCpOk 7 32 (5, 61, 0, 0) := ⟨zmo_61, fun _ => List.mem_of_getElem? (i := 295) (by decide +kernel), fun h => absurd rfl h⟩
theorem zk_7_36 : zCpOk 7 36 (8, 0, 0, 0) := List.mem_of_getElem? (i := 282) (by decide +kernel)
theorem zk_7_41 : zCpOk 7 41 (5, 60, 0, 0) := ⟨zmo_60, fun _ => List.mem_of_getElem? (i := 283) (by decide +kernel), fun h => absurd rfl h⟩
theorem zko_7 : ∀ q ∈ zc_7, zCpOk 7 q.1 q.2 := List.forall_mem_cons.mpr ⟨zk_7_3, List.forall_mem_cons.mpr ⟨zk_7_9, List.forall_mem_cons.mpr ⟨zk_7_11, List.forall_mem_cons.mpr ⟨zk_7_14, List.forall_mem_cons.mpr ⟨zk_7_20, List.forall_mem_cons.mpr ⟨zk_7_24, List.forall_mem_cons.mpr ⟨zk_7_26, List.forall_mem_cons.mpr ⟨zk_7_32, List.forall_mem_cons.mpr ⟨zk_7_36, List.forall_mem_cons.mpr ⟨zk_7_41, fun _ h => absurd h List.not_mem_nil⟩⟩⟩⟩⟩⟩⟩⟩⟩⟩
theorem zk_8_3 : zCpOk 8 3 (6, 0, 0, 0) := List.mem_of_getElem? (i := 220) (by decide +kernel)
theorem zk_8_9 : zCpOk 8 9 (4, 5, 0, 0) := ⟨(RX5, TX5, 1), rfl, List.mem_of_getElem? (i := 221) (by decide +kernel), List.mem_of_getElem? (i := 90) (by decide +kernel), List.mem_of_getElem? (i := 60) (by decide +kernel)⟩
theorem zk_8_13 : zCpOk 8 13 (5, 59, 0, 0) := ⟨zmo_59, fun _ => List.mem_of_getElem? (i := 222) (by decide +kernel), fun h => absurd rfl h⟩
theorem zk_8_16 : zCpOk 8 16 (1, 8, 0, 0) := ⟨(RX8, TX8, 2), rfl, by decide +kernel, fun _ => List.mem_of_getElem? (i := 223) (by decide +kernel), fun h => absurd rfl h⟩
theorem zk_8_20 : zCpOk 8 20 (5, 16, 0, 0) := ⟨zmo_16, fun _ => List.mem_of_getElem? (i := 627) (by decide +kernel), fun h => absurd rfl h⟩
theorem zk_8_26 : zCpOk 8 26 (1, 8, 1, 0) := ⟨(RX8, TX8, 2), rfl, by decide +kernel, fun _ => List.mem_of_getElem? (i := 224) (by decide +kernel), fun h => absurd rfl h⟩
theorem zk_8_30 : zCpOk 8 30 (5, 74, 0, 0) := ⟨zmo_74, fun _ => List.mem_of_getElem? (i := 628) (by decide +kernel), fun h => absurd rfl h⟩
theorem zk_8_34 : zCpOk 8 34 (5, 61, 0, 0) := ⟨zmo_61, fun _ => List.mem_of_getElem? (i := 638) (by decide +kernel), fun h => absurd rfl h⟩
theorem zk_8_38 : zCpOk 8 38 (5, 113, 0, 1) := ⟨zmo_113, fun h => absurd h (by decide +kernel), fun _ => List.mem_of_getElem? (i := 632) (by decide +kernel)⟩
theorem zk_8_42 : zCpOk 8 42 (5, 60, 0, 0) := ⟨zmo_60, fun _ => List.mem_of_getElem? (i := 633) (by decide +kernel), fun h => absurd rfl h⟩
theorem zk_8_45 : zCpOk 8 45 (5, 11, 0, 0) := ⟨zmo_11, fun _ => List.mem_of_getElem? (i := 634) (by decide +kernel), fun h => absurd rfl h⟩
theorem zk_8_48 : zCpOk 8 48 (5, 196, 0, 0) := ⟨zmo_196, fun _ => List.mem_of_getElem? (i := 643) (by decide +kernel), fun h => absurd rfl h⟩
theorem zk_8_53 : zCpOk 8 53 (8, 0, 0, 0) := List.mem_of_getElem? (i := 644) (by decide +kernel)
theorem zk_8_59 : zCpOk 8 59 (5, 77, 0, 0) := ⟨zmo_77, fun _ => List.mem_of_getElem? (i := 649) (by decide +kernel), fun h => absurd rfl h⟩
theorem zk_8_62 : zCpOk 8 62 (5, 195, 0, 0) := ⟨zmo_195, fun _ => List.mem_of_getElem? (i := 653) (by decide +kernel), fun h => absurd rfl h⟩
theorem zko_8 : ∀ q ∈ zc_8, zCpOk 8 q.1 q.2 := List.forall_mem_cons.mpr ⟨zk_8_3, List.forall_mem_cons.mpr ⟨zk_8_9, List.forall_mem_cons.mpr ⟨zk_8_13, List.forall_mem_cons.mpr ⟨zk_8_16, List.forall_mem_cons.mpr ⟨zk_8_20, List.forall_mem_cons.mpr ⟨zk_8_26, List.forall_mem_cons.mpr ⟨zk_8_30, List.forall_mem_cons.mpr ⟨zk_8_34, List.forall_mem_cons.mpr ⟨zk_8_38, List.forall_mem_cons.mpr ⟨zk_8_42, List.forall_mem_cons.mpr ⟨zk_8_45, List.forall_mem_cons.mpr ⟨zk_8_48, List.forall_mem_cons.mpr ⟨zk_8_53, List.forall_mem_cons.mpr ⟨zk_8_59, List.forall_mem_cons.mpr ⟨zk_8_62, fun _ h => absurd h List.not_mem_nil⟩⟩⟩⟩⟩⟩⟩⟩⟩⟩⟩⟩⟩⟩⟩
theorem zk_9_1 : zCpOk 9 1 (6, 0, 0, 0) := List.mem_of_getElem? (i := 80) (by decide +kernel)
theorem zk_9_7 : zCpOk 9 7 (4, 1, 0, 0) := ⟨(RX1, TX1, 8), rfl, List.mem_of_getElem? (i := 83) (by decide +kernel), List.mem_of_getElem? (i := 84) (by decide +kernel), List.mem_of_getElem? (i := 59) (by decide +kernel)⟩
theorem zk_9_9 : zCpOk 9 9 (5, 9, 0, 0) := ⟨zmo_9, fun _ => List.mem_of_getElem? (i := 85) (by decide +kernel), fun h => absurd rfl h⟩
theorem zk_9_10 : zCpOk 9 10 (1, 9, 0, 0) := ⟨(RX9, TX9, 11), rfl, by decide +kernel, fun _ => List.mem_of_getElem? (i := 300) (by decide +kernel), fun h => absurd rfl h⟩
theorem zk_9_16 : zCpOk 9 16 (1, 9, 1, 0) := ⟨(RX9, TX9, 11), rfl, by decide +kernel, fun _ => List.mem_of_getElem? (i := 301) (by decide +kernel), fun h => absurd rfl h⟩
theorem zk_9_19 : zCpOk 9 19 (1, 9, 2, 0) := ⟨(RX9, TX9, 11), rfl, by decide +kernel, fun _ => List.mem_of_getElem? (i := 302) (by decide +kernel), fun h => absurd rfl h⟩
theorem zk_9_22 : zCpOk 9 22 (4, 3, 0, 0) := ⟨(RX3, TX3, 2), rfl, List.mem_of_getElem? (i := 141) (by decide +kernel), List.mem_of_getElem? (i := 142) (by decide +kernel), List.mem_of_getElem? (i := 62) (by decide +kernel)⟩
theorem zk_9_24 : zCpOk 9 24 (5, 45, 0, 1) := ⟨zmo_45, fun h => absurd h (by decide +kernel), fun _ => List.mem_of_getElem? (i := 143) (by decide +kernel)⟩
theorem zk_9_25 : zCpOk 9 25 (1, 9, 3, 0) := ⟨(RX9, TX9, 11), rfl, by decide +kernel, fun _ => List.mem_of_getElem? (i := 303) (by decide +kernel), fun h => absurd rfl h⟩
theorem zk_9_29 : zCpOk 9 29 (4, 0, 0, 0) := ⟨(RX0, TX0, 6), rfl, List.mem_of_getElem? (i := 159) (by decide +kernel), List.mem_of_getElem? (i := 160) (by decide +kernel), List.mem_of_getElem? (i := 63) (by decide +kernel)⟩
theorem zk_9_31 : zCpOk 9 31 (5, 0, 0, 1) := ⟨zmo_0, fun h => absurd h (by decide +kernel), fun _ => List.mem_of_getElem? (i := 161) (by decide +kernel)⟩
theorem zk_9_32 : zCpOk 9 32 (1, 9, 4, 0) := ⟨(RX9, TX9, 11), rfl, by decide +kernel, fun _ => List.mem_of_getElem? (i := 304) (by decide +kernel), fun h => absurd rfl h⟩
theorem zk_9_36 : zCpOk 9 36 (4, 4, 0, 0) := ⟨(RX4, TX4, 4), rfl, List.mem_of_getElem? (i := 194) (by decide +kernel), List.mem_of_getElem? (i := 195) (by decide +kernel), List.mem_of_getElem? (i := 64) (by decide +kernel)⟩
theorem zk_9_38 : zCpOk 9 38 (5, 54, 0, 1) := ⟨zmo_54, fun h => absurd h (by decide +kernel), fun _ => List.mem_of_getElem? (i := 196) (by decide +kernel)⟩
theorem zk_9_39 : zCpOk 9 39 (1, 9, 5, 0) := ⟨(RX9, TX9, 11), rfl, by decide +kernel, fun _ => List.mem_of_getElem? (i := 305) (by decide +kernel), fun h => absurd rfl h⟩
theorem zk_9_43 : zCpOk 9 43 (4, 8, 0, 0) := ⟨(RX8, TX8, 2), rfl, List.mem_of_getElem? (i := 215) (by decide +kernel), List.mem_of_getElem? (i := 216) (by decide +kernel), List.mem_of_getElem? (i := 65) (by decide +kernel)⟩
theorem zk_9_45 : zCpOk 9 45 (5, 72, 0, 1) := ⟨zmo_72, fun h => absurd h (by decide +kernel), fun _ => List.mem_of_getElem? (i := 217) (by decide +kernel)⟩
theorem zk_9_46 : zCpOk 9 46 (1, 9, 6, 0) := ⟨(RX9, TX9, 11), rfl, by decide +kernel, fun _ => List.mem_of_getElem? (i := 306) (by decide +kernel), fun h => absurd rfl h⟩
theorem zk_9_50 : zCpOk 9 50 (4, 2, 0, 0) := ⟨(RX2, TX2, 1), rfl, List.mem_of_getElem? (i := 230) (by decide +kernel), List.mem_of_getElem? (i := 231) (by decide +kernel), List.mem_of_getElem? (i := 66) (by decide +kernel)⟩
theorem zk_9_52 : zCpOk 9 52 (5, 40, 0, 1) := ⟨zmo_40, fun h => absurd h (by decide +kernel), fun _ => List.mem_of_getElem? (i := 232) (by decide +kernel)⟩
theorem zk_9_53 : zCpOk 9 53 (1, 9, 7, 0) := ⟨(RX9, TX9, 11), rfl, by decide +kernel, fun _ => List.mem_of_getElem? (i := 307) (by decide +kernel), fun h => absurd rfl h⟩
theorem zk_9_57 : zCpOk 9 57 (4, 6, 0, 0) := ⟨(RX6, TX6, 5), rfl, List.mem_of_getElem? (i := 242) (by decide +kernel), List.mem_of_getElem? (i := 243) (by decide +kernel), List.mem_of_getElem? (i := 67) (by decide +kernel)⟩
theorem zk_9_59 : zCpOk 9 59 (5, 64, 0, 1) := ⟨zmo_64, fun h => absurd h (by decide +kernel), fun _ => List.mem_of_getElem? (i := 244) (by decide +kernel)⟩
theorem zk_9_60 : zCpOk 9 60 (1, 9, 8, 0) := ⟨(RX9, TX9, 11), rfl, by decide +kernel, fun _ => List.mem_of_getElem? (i := 308) (by decide +kernel), fun h => absurd rfl h⟩
theorem zk_9_64 : zCpOk 9 64 (4, 7, 0, 0) := ⟨(RX7, TX7, 1), rfl, List.mem_of_getElem? (i := 270) (by decide +kernel), List.mem_of_getElem? (i := 271) (by decide +kernel), List.mem_of_getElem? (i := 68) (by decide +kernel)⟩
theorem zk_9_66 : zCpOk 9 66 (5, 69, 0, 0) := ⟨zmo_69, fun _ => List.mem_of_getElem? (i := 272) (by decide +kernel), fun h => absurd rfl h⟩
theorem zk_9_67 : zCpOk 9 67 (1, 9, 9, 0) := ⟨(RX9, TX9, 11), rfl, by decide +kernel, fun _ => List.mem_of_getElem? (i := 309) (by decide +kernel), fun h => absurd rfl h⟩
theorem zk_9_71 : zCpOk 9 71 (5, 110, 0, 0) := ⟨zmo_110, fun _ => List.mem_of_getElem? (i := 338) (by decide +kernel), fun h => absurd rfl h⟩
theorem zk_9_75 : zCpOk 9 75 (5, 12, 0, 0) := ⟨zmo_12, fun _ => List.mem_of_getElem? (i := 341) (by decide +kernel), fun h => absurd rfl h⟩
theorem zk_9_79 : zCpOk 9 79 (5, 13, 0, 0) := ⟨zmo_13, fun _ => List.mem_of_getElem? (i := 346) (by decide +kernel), fun h => absurd rfl h⟩
theorem zk_9_83 : zCpOk 9 83 (5, 111, 0, 0) := ⟨zmo_111, fun _ => List.mem_of_getElem? (i := 360) (by decide +kernel), fun h => absurd rfl h⟩
theorem zk_9_86 : zCpOk 9 86 (5, 18, 0, 0) := ⟨zmo_18, fun _ => List.mem_of_getElem? (i := 361) (by decide +kernel), fun h => absurd rfl h⟩
theorem zk_9_90 : zCpOk 9 90 (5, 24, 0, 0) := ⟨zmo_24, fun _ => List.mem_of_getElem? (i := 365) (by decide +kernel), fun h => absurd rfl h⟩
theorem zk_9_94 : zCpOk 9 94 (5, 112, 0, 0) := ⟨zmo_112, fun _ => List.mem_of_getElem? (i := 373) (by decide +kernel), fun h => absurd rfl h⟩
theorem zk_9_97 : zCpOk 9 97 (5, 19, 0, 0) := ⟨zmo_19, fun _ => List.mem_of_getElem? (i := 376) (by decide +kernel), fun h => absurd rfl h⟩
theorem zk_9_100 : zCpOk 9 100 (5, 20, 0, 0) := ⟨zmo_20, fun _ => List.mem_of_getElem? (i := 380) (by decide +kernel), fun h => absurd rfl h⟩
theorem zk_9_103 : zCpOk 9 103 (5, 26, 0, 0) := ⟨zmo_26, fun _ => List.mem_of_getElem? (i := 388) (by decide +kernel), fun h => absurd rfl h⟩
theorem zk_9_107 : zCpOk 9 107 (5, 25, 0, 0) := ⟨zmo_25, fun _ => List.mem_of_getElem? (i := 392) (by decide +kernel), fun h => absurd rfl h⟩
theorem zk_9_110 : zCpOk 9 110 (5, 109, 0, 0) := ⟨zmo_109, fun _ => List.mem_of_getElem? (i := 110) (by decide +kernel), fun h => absurd rfl h⟩
theorem zk_9_114 : zCpOk 9 114 (5, 21, 0, 0) := ⟨zmo_21, fun _ => List.mem_of_getElem? (i := 400) (by decide +kernel), fun h => absurd rfl h⟩
theorem zk_9_117 : zCpOk 9 117 (5, 27, 0, 0) := ⟨zmo_27, fun _ => List.mem_of_getElem? (i := 404) (by decide +kernel), fun h => absurd rfl h⟩
theorem zk_9_121 : zCpOk 9 121 (1, 3, 1, 1) := ⟨(RX3, TX3, 2), rfl, by decide +kernel, fun h => absurd h (by decide +kernel), fun _ => List.mem_of_getElem? (i := 153) (by decide +kernel)⟩
theorem zk_9_125 : zCpOk 9 125 (5, 46, 0, 0) := ⟨zmo_46, fun _ => List.mem_of_getElem? (i := 416) (by decide +kernel), fun h => absurd rfl h⟩
theorem zk_9_128 : zCpOk 9 128 (5, 47, 0, 0) := ⟨zmo_47, fun _ => List.mem_of_getElem? (i := 425) (by decide +kernel), fun h => absurd rfl h⟩
theorem zk_9_131 : zCpOk 9 131 (5, 48, 0, 0) := ⟨zmo_48, fun _ => List.mem_of_getElem? (i := 433) (by decide +kernel), fun h => absurd rfl h⟩
theorem zk_9_134 : zCpOk 9 134 (5, 1, 0, 0) := ⟨zmo_1, fun _ => List.mem_of_getElem? (i := 453) (by decide +kernel), fun h => absurd rfl h⟩
theorem zk_9_138 : zCpOk 9 138 (1, 0, 3, 1) := ⟨(RX0, TX0, 6), rfl, by decide +kernel, fun h => absurd h (by decide +kernel), fun _ => List.mem_of_getElem? (i := 176) (by decide +kernel)⟩
theorem zk_9_141 : zCpOk 9 141 (1, 0, 4, 1) := ⟨(RX0, TX0, 6), rfl, by decide +kernel, fun h => absurd h (by decide +kernel), fun _ => List.mem_of_getElem? (i := 178) (by decide +kernel)⟩
theorem zk_9_144 : zCpOk 9 144 (1, 0, 5, 1) := ⟨(RX0, TX0, 6), rfl, by decide +kernel, fun h => absurd h (by decide +kernel), fun _ => List.mem_of_getElem? (i := 180) (by decide +kernel)⟩
theorem zk_9_147 : zCpOk 9 147 (1, 0, 0, 1) := ⟨(RX0, TX0, 6), rfl, by decide +kernel, fun h => absurd h (by decide +kernel), fun _ => List.mem_of_getElem? (i := 170) (by decide +kernel)⟩
theorem zk_9_150 : zCpOk 9 150 (5, 23, 0, 0) := ⟨zmo_23, fun _ => List.mem_of_getElem? (i := 547) (by decide +kernel), fun h => absurd rfl h⟩
theorem zk_9_153 : zCpOk 9 153 (1, 0, 1, 1) := ⟨(RX0, TX0, 6), rfl, by decide +kernel, fun h => absurd h (by decide +kernel), fun _ => List.mem_of_getElem? (i := 172) (by decide +kernel)⟩
theorem zk_9_157 : zCpOk 9 157 (5, 60, 0, 0) := ⟨zmo_60, fun _ => List.mem_of_getElem? (i := 556) (by decide +kernel), fun h => absurd rfl h⟩
theorem zk_9_162 : zCpOk 9 162 (5, 5, 0, 0) := ⟨zmo_5, fun _ => List.mem_of_getElem? (i := 561) (by decide +kernel), fun h => absurd rfl h⟩
theorem zk_9_165 : zCpOk 9 165 (5, 10, 0, 0) := ⟨zmo_10, fun _ => List.mem_of_getElem? (i := 569) (by decide +kernel), fun h => absurd rfl h⟩
theorem zk_9_169 : zCpOk 9 169 (1, 0, 2, 1) := ⟨(RX0, TX0, 6), rfl, by decide +kernel, fun h => absurd h (by decide +kernel), fun _ => List.mem_of_getElem? (i := 174) (by decide +kernel)⟩
theorem zk_9_172 : zCpOk 9 172 (5, 15, 0, 0) := ⟨zmo_15, fun _ => List.mem_of_getElem? (i := 574) (by decide +kernel), fun h => absurd rfl h⟩
theorem zk_9_176 : zCpOk 9 176 (5, 17, 0, 0) := ⟨zmo_17, fun _ => List.mem_of_getElem? (i := 586) (by decide +kernel), fun h => absurd rfl h⟩
theorem zk_9_179 : zCpOk 9 179 (5, 55, 0, 0) := ⟨zmo_55, fun _ => List.mem_of_getElem? (i := 591) (by decide +kernel), fun h => absurd rfl h⟩
theorem zk_9_183 : zCpOk 9 183 (5, 73, 0, 0) := ⟨zmo_73, fun _ => List.mem_of_getElem? (i := 623) (by decide +kernel), fun h => absurd rfl h⟩
theorem zk_9_187 : zCpOk 9 187 (5, 75, 0, 0) := ⟨zmo_75, fun _ => List.mem_of_getElem? (i := 639) (by decide +kernel), fun h => absurd rfl h⟩
theorem zk_9_190 : zCpOk 9 190 (5, 76, 0, 0) := ⟨zmo_76, fun _ => List.mem_of_getElem? (i := 645) (by decide +kernel), fun h => absurd rfl h⟩
theorem zk_9_193 : zCpOk 9 193 (5, 41, 0, 0) := ⟨zmo_41, fun _ => List.mem_of_getElem? (i := 658) (by decide +kernel), fun h => absurd rfl h⟩
theorem zk_9_196 : zCpOk 9 196 (5, 42, 0, 0) := ⟨zmo_42, fun _ => List.mem_of_getElem? (i := 663) (by decide +kernel), fun h => absurd rfl h⟩
theorem zk_9_199 : zCpOk 9 199 (5, 43, 0, 0) := ⟨zmo_43, fun _ => List.mem_of_getElem? (i := 669) (by decide +kernel), fun h => absurd rfl h⟩
theorem zk_9_202 : zCpOk 9 202 (1, 1, 5, 1) := ⟨(RX1, TX1, 8), rfl, by decide +kernel, fun h => absurd h (by decide +kernel), fun _ => List.mem_of_getElem? (i := 119) (by decide +kernel)⟩
theorem zk_9_205 : zCpOk 9 205 (5, 37, 0, 0) := ⟨zmo_37, fun _ => List.mem_of_getElem? (i := 682) (by decide +kernel), fun h => absurd rfl h⟩
theorem zk_9_208 : zCpOk 9 208 (5, 38, 0, 0) := ⟨zmo_38, fun _ => List.mem_of_getElem? (i := 690) (by decide +kernel), fun h => absurd rfl h⟩
theorem zk_9_211 : zCpOk 9 211 (5, 65, 0, 0) := ⟨zmo_65, fun _ => List.mem_of_getElem? (i := 698) (by decide +kernel), fun h => absurd rfl h⟩
theorem zk_9_214 : zCpOk 9 214 (1, 6, 2, 1) := ⟨(RX6, TX6, 5), rfl, by decide +kernel, fun h => absurd h (by decide +kernel), fun _ => List.mem_of_getElem? (i := 254) (by decide +kernel)⟩
theorem zk_9_215 : zCpOk 9 215 (1, 6, 0, 1) := ⟨(RX6, TX6, 5), rfl, by decide +kernel, fun h => absurd h (by decide +kernel), fun _ => List.mem_of_getElem? (i := 251) (by decide +kernel)⟩
theorem zk_9_218 : zCpOk 9 218 (5, 67, 0, 0) := ⟨zmo_67, fun _ => List.mem_of_getElem? (i := 714) (by decide +kernel), fun h => absurd rfl h⟩
theorem zk_9_221 : zCpOk 9 221 (1, 6, 3, 1) := ⟨(RX6, TX6, 5), rfl, by decide +kernel, fun h => absurd h (by decide +kernel), fun _ => List.mem_of_getElem? (i := 256) (by decide +kernel)⟩
theorem zk_9_224 : zCpOk 9 224 (1, 6, 4, 1) := ⟨(RX6, TX6, 5), rfl, by decide +kernel, fun h => absurd h (by decide +kernel), fun _ => List.mem_of_getElem? (i := 258) (by decide +kernel)⟩
theorem zk_9_227 : zCpOk 9 227 (5, 71, 0, 0) := ⟨zmo_71, fun _ => List.mem_of_getElem? (i := 730) (by decide +kernel), fun h => absurd rfl h⟩
theorem zk_9_230 : zCpOk 9 230 (3, 0, 0, -1000000000000000002) := List.mem_of_getElem? (i := 738) (by decide +kernel)
theorem zk_9_232 : zCpOk 9 232 (5, 114, 0, 0) := ⟨zmo_114, fun _ => List.mem_of_getElem? (i := 739) (by decide +kernel), fun h => absurd rfl h⟩
theorem zk_9_236 : zCpOk 9 236 (5, 115, 0, 0) := ⟨zmo_115, fun _ => List.mem_of_getElem? (i := 742) (by decide +kernel), fun h => absurd rfl h⟩
theorem zk_9_240 : zCpOk 9 240 (10, 0, 0, 0) := List.mem_of_getElem? (i := 745) (by decide +kernel)
theorem zk_9_245 : zCpOk 9 245 (5, 6, 0, 0) := ⟨zmo_6, fun _ => List.mem_of_getElem? (i := 752) (by decide +kernel), fun h => absurd rfl h⟩
theorem zk_9_249 : zCpOk 9 249 (1, 1, 7, 1) := ⟨(RX1, TX1, 8), rfl, by decide +kernel, fun h => absurd h (by decide +kernel), fun _ => List.mem_of_getElem? (i := 123) (by decide +kernel)⟩
theorem zk_9_252 : zCpOk 9 252 (5, 28, 0, 0) := ⟨zmo_28, fun _ => List.mem_of_getElem? (i := 764) (by decide +kernel), fun h => absurd rfl h⟩
theorem zk_9_255 : zCpOk 9 255 (5, 29, 0, 0) := ⟨zmo_29, fun _ => List.mem_of_getElem? (i := 768) (by decide +kernel), fun h => absurd rfl h⟩
theorem zk_9_258 : zCpOk 9 258 (1, 9, 10, 0) := ⟨(RX9, TX9, 11), rfl, by decide +kernel, fun _ => List.mem_of_getElem? (i := 310) (by decide +kernel), fun h => absurd rfl h⟩
theorem zk_9_261 : zCpOk 9 261 (5, 113, 0, 0) := ⟨zmo_113, fun _ => List.mem_of_getElem? (i := 780) (by decide +kernel), fun h => absurd rfl h⟩
theorem zk_9_265 : zCpOk 9 265 (1, 1, 6, 1) := ⟨(RX1, TX1, 8), rfl, by decide +kernel, fun h => absurd h (by decide +kernel), fun _ => List.mem_of_getElem? (i := 121) (by decide +kernel)⟩
theorem zk_9_268 : zCpOk 9 268 (5, 108, 0, 0) := ⟨zmo_108, fun _ => List.mem_of_getElem? (i := 785) (by decide +kernel), fun h => absurd rfl h⟩
theorem zk_9_271 : zCpOk 9 271 (5, 11, 0, 0) := ⟨zmo_11, fun _ => List.mem_of_getElem? (i := 789) (by decide +kernel), fun h => absurd rfl h⟩
theorem zko_9 : ∀ q ∈ zc_9, zCpOk 9 q.1 q.2 := List.forall_mem_cons.mpr ⟨zk_9_1, List.forall_mem_cons.mpr ⟨zk_9_7, List.forall_mem_cons.mpr ⟨zk_9_9, List.forall_mem_cons.mpr ⟨zk_9_10, List.forall_mem_cons.mpr ⟨zk_9_16, List.forall_mem_cons.mpr ⟨zk_9_19, List.forall_mem_cons.mpr ⟨zk_9_22, List.forall_mem_cons.mpr ⟨zk_9_24, List.forall_mem_cons.mpr ⟨zk_9_25, List.forall_mem_cons.mpr ⟨zk_9_29, List.forall_mem_cons.mpr ⟨zk_9_31, List.forall_mem_cons.mpr ⟨zk_9_32, List.forall_mem_cons.mpr ⟨zk_9_36, List.forall_mem_cons.mpr ⟨zk_9_38, List.forall_mem_cons.mpr ⟨zk_9_39, List.forall_mem_cons.mpr ⟨zk_9_43, List.forall_mem_cons.mpr ⟨zk_9_45, List.forall_mem_cons.mpr ⟨zk_9_46, List.forall_mem_cons.mpr ⟨zk_9_50, List.forall_mem_cons.mpr ⟨zk_9_52, List.forall_mem_cons.mpr ⟨zk_9_53, List.forall_mem_cons.mpr ⟨zk_9_57, List.forall_mem_cons.mpr ⟨zk_9_59, List.forall_mem_cons.mpr ⟨zk_9_60, List.forall_mem_cons.mpr ⟨zk_9_64, List.forall_mem_cons.mpr ⟨zk_9_66, List.forall_mem_cons.mpr ⟨zk_9_67, List.forall_mem_cons.mpr ⟨zk_9_71, List.forall_mem_cons.mpr ⟨zk_9_75, List.forall_mem_cons.mpr ⟨zk_9_79, List.forall_mem_cons.mpr ⟨zk_9_83, List.forall_mem_cons.mpr ⟨zk_9_86, List.forall_mem_cons.mpr ⟨zk_9_90, List.forall_mem_cons.mpr ⟨zk_9_94, List.forall_mem_cons.mpr ⟨zk_9_97, List.forall_mem_cons.mpr ⟨zk_9_100, List.forall_mem_cons.mpr ⟨zk_9_103, List.forall_mem_cons.mpr ⟨zk_9_107, List.forall_mem_cons.mpr ⟨zk_9_110, List.forall_mem_cons.mpr ⟨zk_9_114, List.forall_mem_cons.mpr ⟨zk_9_117, List.forall_mem_cons.mpr ⟨zk_9_121, List.forall_mem_cons.mpr ⟨zk_9_125, List.forall_mem_cons.mpr ⟨zk_9_128, List.forall_mem_cons.mpr ⟨zk_9_131, List.forall_mem_cons.mpr ⟨zk_9_134, List.forall_mem_cons.mpr ⟨zk_9_138, List.forall_mem_cons.mpr ⟨zk_9_141, List.forall_mem_cons.mpr ⟨zk_9_144, List.forall_mem_cons.mpr ⟨zk_9_147, List.forall_mem_cons.mpr ⟨zk_9_150, List.forall_mem_cons.mpr ⟨zk_9_153, List.forall_mem_cons.mpr ⟨zk_9_157, List.forall_mem_cons.mpr ⟨zk_9_162, List.forall_mem_cons.mpr ⟨zk_9_165, List.forall_mem_cons.mpr ⟨zk_9_169, List.forall_mem_cons.mpr ⟨zk_9_172, List.forall_mem_cons.mpr ⟨zk_9_176, List.forall_mem_cons.mpr ⟨zk_9_179, List.forall_mem_cons.mpr ⟨zk_9_183, List.forall_mem_cons.mpr ⟨zk_9_187, List.forall_mem_cons.mpr ⟨zk_9_190, List.forall_mem_cons.mpr ⟨zk_9_193, List.forall_mem_cons.mpr ⟨zk_9_196, List.forall_mem_cons.mpr ⟨zk_9_199, List.forall_mem_cons.mpr ⟨zk_9_202, List.forall_mem_cons.mpr ⟨zk_9_205, List.forall_mem_cons.mpr ⟨zk_9_208, List.forall_mem_cons.mpr ⟨zk_9_211, List.forall_mem_cons.mpr ⟨zk_9_214, List.forall_mem_cons.mpr ⟨zk_9_215, List.forall_mem_cons.mpr ⟨zk_9_218, List.forall_mem_cons.mpr ⟨zk_9_221, List.forall_mem_cons.mpr ⟨zk_9_224, List.forall_mem_cons.mpr ⟨zk_9_227, List.forall_mem_cons.mpr ⟨zk_9_230, List.forall_mem_cons.mpr ⟨zk_9_232, List.forall_mem_cons.mpr ⟨zk_9_236, List.forall_mem_cons.mpr ⟨zk_9_240, List.forall_mem_cons.mpr ⟨zk_9_245, List.forall_mem_cons.mpr ⟨zk_9_249, List.forall_mem_cons.mpr ⟨zk_9_252, List.forall_mem_cons.mpr ⟨zk_9_255, List.forall_mem_cons.mpr ⟨zk_9_258, List.forall_mem_cons.mpr ⟨zk_9_261, List.forall_mem_cons.mpr ⟨zk_9_265, List.forall_mem_cons.mpr ⟨zk_9_268, List.forall_mem_cons.mpr ⟨zk_9_271, fun _ h => absurd h List.not_mem_nil⟩⟩⟩⟩⟩⟩⟩⟩⟩⟩⟩⟩⟩⟩⟩⟩⟩⟩⟩⟩⟩⟩⟩⟩⟩⟩⟩⟩⟩⟩⟩⟩⟩⟩⟩⟩⟩⟩⟩⟩⟩⟩⟩⟩⟩⟩⟩⟩⟩⟩⟩⟩⟩⟩⟩⟩⟩⟩⟩⟩⟩⟩⟩⟩⟩⟩⟩⟩⟩⟩⟩⟩⟩⟩⟩⟩⟩⟩⟩⟩⟩⟩⟩⟩⟩⟩⟩⟩
theorem zk_10_1 : zCpOk 10 1 (6, 0, 0, 0) := List.mem_of_getElem? (i := 795) (by decide +kernel)
theorem zk_10_7 : zCpOk 10 7 (1, 10, 0, 0) := ⟨(RX10, TX10, 32), rfl, by decide +kernel, fun _ => List.mem_of_getElem? (i := 796) (by decide +kernel), fun h => absurd rfl h⟩
theorem zk_10_13 : zCpOk 10 13 (1, 10, 1, 0) := ⟨(RX10, TX10, 32), rfl, by decide +kernel, fun _ => List.mem_of_getElem? (i := 797) (by decide +kernel), fun h => absurd rfl h⟩
theorem zk_10_16 : zCpOk 10 16 (1, 10, 2, 0) := ⟨(RX10, TX10, 32), rfl, by decide +kernel, fun _ => List.mem_of_getElem? (i := 798) (by decide +kernel), fun h => absurd rfl h⟩
theorem zk_10_19 : zCpOk 10 19 (1, 10, 3, 0) := ⟨(RX10, TX10, 32), rfl, by decide +kernel, fun _ => List.mem_of_getElem? (i := 799) (by decide +kernel), fun h => absurd rfl h⟩
theorem zk_10_22 : zCpOk 10 22 (1, 10, 4, 0) := ⟨(RX10, TX10, 32), rfl, by decide +kernel, fun _ => List.mem_of_getElem? (i := 800) (by decide +kernel), fun h => absurd rfl h⟩
theorem zk_10_25 : zCpOk 10 25 (1, 10, 7, 0) := ⟨(RX10, TX10, 32), rfl, by decide +kernel, fun _ => List.mem_of_getElem? (i := 803) (by decide +kernel), fun h => absurd rfl h⟩
theorem zk_10_28 : zCpOk 10 28 (1, 10, 8, 0) := ⟨(RX10, TX10, 32), rfl, by decide +kernel, fun _ => List.mem_of_getElem? (i := 804) (by decide +kernel), fun h => absurd rfl h⟩
theorem zk_10_31 : zCpOk 10 31 (1, 10, 9, 0) := ⟨(RX10, TX10, 32), rfl, by decide +kernel, fun _ => List.mem_of_getElem? (i := 805) (by decide +kernel), fun h => absurd rfl h⟩
theorem zk_10_34 : zCpOk 10 34 (1, 10, 11, 0) := ⟨(RX10, TX10, 32), rfl, by decide +kernel, fun _ => List.mem_of_getElem? (i := 807) (by decide +kernel), fun h => absurd rfl h⟩
theorem zk_10_37 : zCpOk 10 37 (1, 10, 13, 0) := ⟨(RX10, TX10, 32), rfl, by decide +kernel, fun _ => List.mem_of_getElem? (i := 809) (by decide +kernel), fun h => absurd rfl h⟩
theorem zk_10_40 : zCpOk 10 40 (1, 10, 14, 0) := ⟨(RX10, TX10, 32), rfl, by decide +kernel, fun _ => List.mem_of_getElem? (i := 810) (by decide +kernel), fun h => absurd rfl h⟩
theorem zk_10_43 : zCpOk 10 43 (1, 10, 15, 0) := ⟨(RX10, TX10, 32), rfl, by decide +kernel, fun _ => List.mem_of_getElem? (i := 811) (by decide +kernel), fun h => absurd rfl h⟩
theorem zk_10_46 : zCpOk 10 46 (1, 10, 17, 0) := ⟨(RX10, TX10, 32), rfl, by decide +kernel, fun _ => List.mem_of_getElem? (i := 813) (by decide +kernel), fun h => absurd rfl h⟩
theorem zk_10_49 : zCpOk 10 49 (1, 10, 18, 0) := ⟨(RX10, TX10, 32), rfl, by decide +kernel, fun _ => List.mem_of_getElem? (i := 814) (by decide +kernel), fun h => absurd rfl h⟩
theorem zk_10_52 : zCpOk 10 52 (1, 10, 22, 0) := ⟨(RX10, TX10, 32), rfl, by decide +kernel, fun _ => List.mem_of_getElem? (i := 818) (by decide +kernel), fun h => absurd rfl h⟩
theorem zk_10_55 : zCpOk 10 55 (1, 10, 23, 0) := ⟨(RX10, TX10, 32), rfl, by decide +kernel, fun _ => List.mem_of_getElem? (i := 819) (by decide +kernel), fun h => absurd rfl h⟩
theorem zk_10_58 : zCpOk 10 58 (1, 10, 24, 0) := ⟨(RX10, TX10, 32), rfl, by decide +kernel, fun _ => List.mem_of_getElem? (i := 820) (by decide +kernel), fun h => absurd rfl h⟩
theorem zk_10_61 : zCpOk 10 61 (1, 10, 25, 0) := ⟨(RX10, TX10, 32), rfl, by decide +kernel, fun _ => List.mem_of_getElem? (i := 821) (by decide +kernel), fun h => absurd rfl h⟩
theorem zk_10_64 : zCpOk 10 64 (1, 10, 26, 0) := ⟨(RX10, TX10, 32), rfl, by decide +kernel, fun _ => List.mem_of_getElem? (i := 822) (by decide +kernel), fun h => absurd rfl h⟩
theorem zk_10_67 : zCpOk 10 67 (1, 10, 27, 0) := ⟨(RX10, TX10, 32), rfl, by decide +kernel, fun _ => List.mem_of_getElem? (i := 823) (by decide +kernel), fun h => absurd rfl h⟩
theorem zk_10_71 : zCpOk 10 71 (1, 10, 28, 0) := ⟨(RX10, TX10, 32), rfl, by decide +kernel, fun _ => List.mem_of_getElem? (i := 824) (by decide +kernel), fun h => absurd rfl h⟩
theorem zk_10_74 : zCpOk 10 74 (1, 10, 29, 0) := ⟨(RX10, TX10, 32), rfl, by decide +kernel, fun _ => List.mem_of_getElem? (i := 825) (by decide +kernel), fun h => absurd rfl h⟩
theorem zk_10_77 : zCpOk 10 77 (3, 0, 0, 9) := List.mem_of_getElem? (i := 901) (by decide +kernel)
theorem zk_10_79 : zCpOk 10 79 (5, 117, 0, 0) := ⟨zmo_117, fun _ => List.mem_of_getElem? (i := 902) (by decide +kernel), fun h => absurd rfl h⟩
theorem zk_10_83 : zCpOk 10 83 (3, 0, 0, 7) := List.mem_of_getElem? (i := 918) (by decide +kernel)
theorem zk_10_85 : zCpOk 10 85 (3, 0, 0, 11) := List.mem_of_getElem? (i := 926) (by decide +kernel)
theorem zk_10_87 : zCpOk 10 87 (5, 118, 0, 0) := ⟨zmo_118, fun _ => List.mem_of_getElem? (i := 898) (by decide +kernel), fun h => absurd rfl h⟩
theorem zk_10_91 : zCpOk 10 91 (5, 122, 0, 0) := ⟨zmo_122, fun _ => List.mem_of_getElem? (i := 905) (by decide +kernel), fun h => absurd rfl h⟩
theorem zk_10_95 : zCpOk 10 95 (5, 123, 0, 0) := ⟨zmo_123, fun _ => List.mem_of_getElem? (i := 908) (by decide +kernel), fun h => absurd rfl h⟩
theorem zk_10_99 : zCpOk 10 99 (5, 119, 0, 0) := ⟨zmo_119, fun _ => List.mem_of_getElem? (i := 915) (by decide +kernel), fun h => absurd rfl h⟩
theorem zk_10_102 : zCpOk 10 102 (5, 126, 0, 0) := ⟨zmo_126, fun _ => List.mem_of_getElem? (i := 931) (by decide +kernel), fun h => absurd rfl h⟩
theorem zk_10_105 : zCpOk 10 105 (5, 120, 0, 0) := ⟨zmo_120, fun _ => List.mem_of_getElem? (i := 923) (by decide +kernel), fun h => absurd rfl h⟩
theorem zk_10_108 : zCpOk 10 108 (5, 127, 0, 0) := ⟨zmo_127, fun _ => List.mem_of_getElem? (i := 927) (by decide +kernel), fun h => absurd rfl h⟩
theorem zk_10_111 : zCpOk 10 111 (3, 0, 0, 33) := List.mem_of_getElem? (i := 947) (by decide +kernel)
theorem zk_10_113 : zCpOk 10 113 (3, 0, 0, 126) := List.mem_of_getElem? (i := 948) (by decide +kernel)
theorem zk_10_115 : zCpOk 10 115 (1, 10, 12, 0) := ⟨(RX10, TX10, 32), rfl, by decide +kernel, fun _ => List.mem_of_getElem? (i := 808) (by decide +kernel), fun h => absurd rfl h⟩
theorem zk_10_119 : zCpOk 10 119 (1, 10, 16, 0) := ⟨(RX10, TX10, 32), rfl, by decide +kernel, fun _ => List.mem_of_getElem? (i := 812) (by decide +kernel), fun h => absurd rfl h⟩
theorem zk_10_122 : zCpOk 10 122 (3, 0, 0, 65) := List.mem_of_getElem? (i := 968) (by decide +kernel)
theorem zk_10_124 : zCpOk 10 124 (3, 0, 0, 72) := List.mem_of_getElem? (i := 969) (by decide +kernel)
theorem zk_10_126 : zCpOk 10 126 (5, 134, 0, 0) := ⟨zmo_134, fun _ => List.mem_of_getElem? (i := 965) (by decide +kernel), fun h => absurd rfl h⟩
theorem zk_10_129 : zCpOk 10 129 (5, 133, 0, 0) := ⟨zmo_133, fun _ => List.mem_of_getElem? (i := 970) (by decide +kernel), fun h => absurd rfl h⟩
theorem zk_10_133 : zCpOk 10 133 (3, 0, 0, 48) := List.mem_of_getElem? (i := 978) (by decide +kernel)
theorem zk_10_135 : zCpOk 10 135 (3, 0, 0, 57) := List.mem_of_getElem? (i := 979) (by decide +kernel)
theorem zk_10_137 : zCpOk 10 137 (5, 135, 0, 0) := ⟨zmo_135, fun _ => List.mem_of_getElem? (i := 961) (by decide +kernel), fun h => absurd rfl h⟩
theorem zk_10_140 : zCpOk 10 140 (5, 136, 0, 0) := ⟨zmo_136, fun _ => List.mem_of_getElem? (i := 974) (by decide +kernel), fun h => absurd rfl h⟩
theorem zk_10_143 : zCpOk 10 143 (5, 137, 0, 0) := ⟨zmo_137, fun _ => List.mem_of_getElem? (i := 957) (by decide +kernel), fun h => absurd rfl h⟩
theorem zk_10_146 : zCpOk 10 146 (1, 10, 5, 0) := ⟨(RX10, TX10, 32), rfl, by decide +kernel, fun _ => List.mem_of_getElem? (i := 801) (by decide +kernel), fun h => absurd rfl h⟩
theorem zk_10_149 : zCpOk 10 149 (5, 121, 0, 0) := ⟨zmo_121, fun _ => List.mem_of_getElem? (i := 1002) (by decide +kernel), fun h => absurd rfl h⟩
theorem zk_10_153 : zCpOk 10 153 (5, 139, 0, 0) := ⟨zmo_139, fun _ => List.mem_of_getElem? (i := 1005) (by decide +kernel), fun h => absurd rfl h⟩
theorem zk_10_156 : zCpOk 10 156 (5, 140, 0, 0) := ⟨zmo_140, fun _ => List.mem_of_getElem? (i := 1009) (by decide +kernel), fun h => absurd rfl h⟩
theorem zk_10_159 : zCpOk 10 159 (1, 10, 6, 0) := ⟨(RX10, TX10, 32), rfl, by decide +kernel, fun _ => List.mem_of_getElem? (i := 802) (by decide +kernel), fun h => absurd rfl h⟩
theorem zk_10_162 : zCpOk 10 162 (5, 142, 0, 0) := ⟨zmo_142, fun _ => List.mem_of_getElem? (i := 1021) (by decide +kernel), fun h => absurd rfl h⟩
theorem zk_10_166 : zCpOk 10 166 (5, 143, 0, 0) := ⟨zmo_143, fun _ => List.mem_of_getElem? (i := 1017) (by decide +kernel), fun h => absurd rfl h⟩
theorem zk_10_170 : zCpOk 10 170 (5, 144, 0, 0) := ⟨zmo_144, fun _ => List.mem_of_getElem? (i := 1025) (by decide +kernel), fun h => absurd rfl h⟩
theorem zk_10_173 : zCpOk 10 173 (5, 145, 0, 0) := ⟨zmo_145, fun _ => List.mem_of_getElem? (i := 1029) (by decide +kernel), fun h => absurd rfl h⟩
theorem zk_10_176 : zCpOk 10 176 (1, 10, 19, 0) := ⟨(RX10, TX10, 32), rfl, by decide +kernel, fun _ => List.mem_of_getElem? (i := 815) (by decide +kernel), fun h => absurd rfl h⟩
theorem zk_10_179 : zCpOk 10 179 (1, 10, 20, 0) := ⟨(RX10, TX10, 32), rfl, by decide +kernel, fun _ => List.mem_of_getElem? (i := 816) (by decide +kernel), fun h => absurd rfl h⟩
theorem zk_10_182 : zCpOk 10 182 (1, 10, 21, 0) := ⟨(RX10, TX10, 32), rfl, by decide +kernel, fun _ => List.mem_of_getElem? (i := 817) (by decide +kernel), fun h => absurd rfl h⟩
theorem zk_10_185 : zCpOk 10 185 (5, 141, 0, 0) := ⟨zmo_141, fun _ => List.mem_of_getElem? (i := 998) (by decide +kernel), fun h => absurd rfl h⟩
theorem zk_10_189 : zCpOk 10 189 (5, 146, 0, 0) := ⟨zmo_146, fun _ => List.mem_of_getElem? (i := 1013) (by decide +kernel), fun h => absurd rfl h⟩
theorem zk_10_193 : zCpOk 10 193 (5, 147, 0, 0) := ⟨zmo_147, fun _ => List.mem_of_getElem? (i := 989) (by decide +kernel), fun h => absurd rfl h⟩
theorem zk_10_196 : zCpOk 10 196 (5, 138, 0, 0) := ⟨zmo_138, fun _ => List.mem_of_getElem? (i := 993) (by decide +kernel), fun h => absurd rfl h⟩
theorem zk_10_200 : zCpOk 10 200 (5, 149, 0, 0) := ⟨zmo_149, fun _ => List.mem_of_getElem? (i := 994) (by decide +kernel), fun h => absurd rfl h⟩
theorem zk_10_203 : zCpOk 10 203 (3, 0, 0, 2) := List.mem_of_getElem? (i := 984) (by decide +kernel)
theorem zk_10_205 : zCpOk 10 205 (5, 150, 0, 0) := ⟨zmo_150, fun _ => List.mem_of_getElem? (i := 985) (by decide +kernel), fun h => absurd rfl h⟩
theorem zk_10_208 : zCpOk 10 208 (5, 148, 0, 0) := ⟨zmo_148, fun _ => List.mem_of_getElem? (i := 1033) (by decide +kernel), fun h => absurd rfl h⟩
theorem zk_10_211 : zCpOk 10 211 (5, 157, 0, 0) := ⟨zmo_157, fun _ => List.mem_of_getElem? (i := 1061) (by decide +kernel), fun h => absurd rfl h⟩
theorem zk_10_214 : zCpOk 10 214 (5, 161, 0, 0) := ⟨zmo_161, fun _ => List.mem_of_getElem? (i := 1082) (by decide +kernel), fun h => absurd rfl h⟩
theorem zk_10_217 : zCpOk 10 217 (3, 0, 0, 1023) := List.mem_of_getElem? (i := 1073) (by decide +kernel)
theorem zk_10_219 : zCpOk 10 219 (5, 160, 0, 0) := ⟨zmo_160, fun _ => List.mem_of_getElem? (i := 1074) (by decide +kernel), fun h => absurd rfl h⟩
theorem zk_10_222 : zCpOk 10 222 (5, 162, 0, 0) := ⟨zmo_162, fun _ => List.mem_of_getElem? (i := 1078) (by decide +kernel), fun h => absurd rfl h⟩
theorem zk_10_225 : zCpOk 10 225 (5, 164, 0, 0) := ⟨zmo_164, fun _ => List.mem_of_getElem? (i := 1089) (by decide +kernel), fun h => absurd rfl h⟩
theorem zk_10_228 : zCpOk 10 228 (3, 0, 0, 9999999) := List.mem_of_getElem? (i := 1097) (by decide +kernel)
theorem zk_10_230 : zCpOk 10 230 (5, 166, 0, 0) := ⟨zmo_166, fun _ => List.mem_of_getElem? (i := 1098) (by decide +kernel), fun h => absurd rfl h⟩
theorem zk_10_233 : zCpOk 10 233 (5, 167, 0, 0) := ⟨zmo_167, fun _ => List.mem_of_getElem? (i := 1102) (by decide +kernel), fun h => absurd rfl h⟩
theorem zk_10_236 : zCpOk 10 236 (5, 168, 0, 0) := ⟨zmo_168, fun _ => List.mem_of_getElem? (i := 1106) (by decide +kernel), fun h => absurd rfl h⟩
theorem zk_10_239 : zCpOk 10 239 (3, 0, 0, 60) := List.mem_of_getElem? (i := 1114) (by decide +kernel)
theorem zk_10_241 : zCpOk 10 241 (1, 10, 10, 0) := ⟨(RX10, TX10, 32), rfl, by decide +kernel, fun _ => List.mem_of_getElem? (i := 806) (by decide +kernel), fun h => absurd rfl h⟩
theorem zk_10_244 : zCpOk 10 244 (3, 0, 0, 8) := List.mem_of_getElem? (i := 1127) (by decide +kernel)
theorem zk_10_246 : zCpOk 10 246 (5, 172, 0, 0) := ⟨zmo_172, fun _ => List.mem_of_getElem? (i := 1128) (by decide +kernel), fun h => absurd rfl h⟩
theorem zk_10_249 : zCpOk 10 249 (5, 173, 0, 0) := ⟨zmo_173, fun _ => List.mem_of_getElem? (i := 1123) (by decide +kernel), fun h => absurd rfl h⟩
theorem zk_10_252 : zCpOk 10 252 (5, 174, 0, 0) := ⟨zmo_174, fun _ => List.mem_of_getElem? (i := 1135) (by decide +kernel), fun h => absurd rfl h⟩
theorem zk_10_255 : zCpOk 10 255 (5, 175, 0, 0) := ⟨zmo_175, fun _ => List.mem_of_getElem? (i := 1136) (by decide +kernel), fun h => absurd rfl h⟩
theorem zk_10_258 : zCpOk 10 258 (5, 177, 0, 0) := ⟨zmo_177, fun _ => List.mem_of_getElem? (i := 1149) (by decide +kernel), fun h => absurd rfl h⟩
theorem zk_10_261 : zCpOk 10 261 (3, 0, 0, 40) := List.mem_of_getElem? (i := 1144) (by decide +kernel)
theorem zk_10_263 : zCpOk 10 263 (5, 178, 0, 0) := ⟨zmo_178, fun _ => List.mem_of_getElem? (i := 1145) (by decide +kernel), fun h => absurd rfl h⟩
theorem zk_10_266 : zCpOk 10 266 (3, 0, 0, 12) := List.mem_of_getElem? (i := 1157) (by decide +kernel)
theorem zk_10_268 : zCpOk 10 268 (3, 0, 0, 10) := List.mem_of_getElem? (i := 1158) (by decide +kernel)
theorem zk_10_270 : zCpOk 10 270 (3, 0, 0, -1000000000000000002) := List.mem_of_getElem? (i := 1159) (by decide +kernel)
theorem zk_10_272 : zCpOk 10 272 (5, 180, 0, 0) := ⟨zmo_180, fun _ => List.mem_of_getElem? (i := 1160) (by decide +kernel), fun h => absurd rfl h⟩
theorem zk_10_276 : zCpOk 10 276 (3, 0, 0, 9999) := List.mem_of_getElem? (i := 1167) (by decide +kernel)
theorem zk_10_278 : zCpOk 10 278 (3, 0, 0, 99) := List.mem_of_getElem? (i := 1168) (by decide +kernel)
theorem zk_10_280 : zCpOk 10 280 (3, 0, 0, 75) := List.mem_of_getElem? (i := 1169) (by decide +kernel)
theorem zk_10_282 : zCpOk 10 282 (3, 0, 0, 74) := List.mem_of_getElem? (i := 1170) (by decide +kernel)
theorem zk_10_284 : zCpOk 10 284 (3, 0, 0, 65537) := List.mem_of_getElem? (i := 1171) (by decide +kernel)
theorem zk_10_286 : zCpOk 10 286 (5, 182, 0, 0) := ⟨zmo_182, fun _ => List.mem_of_getElem? (i := 1172) (by decide +kernel), fun h => absurd rfl h⟩
theorem zk_10_289 : zCpOk 10 289 (5, 184, 0, 0) := ⟨zmo_184, fun _ => List.mem_of_getElem? (i := 1176) (by decide +kernel), fun h => absurd rfl h⟩
theorem zk_10_292 : zCpOk 10 292 (5, 183, 0, 0) := ⟨zmo_183, fun _ => List.mem_of_getElem? (i := 1180) (by decide +kernel), fun h => absurd rfl h⟩
theorem zk_10_295 : zCpOk 10 295 (1, 10, 31, 0) := ⟨(RX10, TX10, 32), rfl, by decide +kernel, fun _ => List.mem_of_getElem? (i := 827) (by decide +kernel), fun h => absurd rfl h⟩
theorem zk_10_299 : zCpOk 10 299 (1, 10, 30, 0) := ⟨(RX10, TX10, 32), rfl, by decide +kernel, fun _ => List.mem_of_getElem? (i := 826) (by decide +kernel), fun h => absurd rfl h⟩
theorem zk_10_302 : zCpOk 10 302 (5, 186, 0, 0) := ⟨zmo_186, fun _ => List.mem_of_getElem? (i := 1192) (by decide +kernel), fun h => absurd rfl h⟩
theorem zk_10_305 : zCpOk 10 305 (5, 187, 0, 0) := ⟨zmo_187, fun _ => List.mem_of_getElem? (i := 1196) (by decide +kernel), fun h => absurd rfl h⟩
theorem zk_10_309 : zCpOk 10 309 (5, 188, 0, 0) := ⟨zmo_188, fun _ => List.mem_of_getElem? (i := 1188) (by decide +kernel), fun h => absurd rfl h⟩
theorem zk_10_312 : zCpOk 10 312 (3, 0, 0, 100) := List.mem_of_getElem? (i := 1208) (by decide +kernel)
theorem zk_10_314 : zCpOk 10 314 (3, 0, 0, 111) := List.mem_of_getElem? (i := 1209) (by decide +kernel)
theorem zk_10_316 : zCpOk 10 316 (3, 0, 0, 39) := List.mem_of_getElem? (i := 1210) (by decide +kernel)
theorem zk_10_318 : zCpOk 10 318 (5, 191, 0, 0) := ⟨zmo_191, fun _ => List.mem_of_getElem? (i := 1211) (by decide +kernel), fun h => absurd rfl h⟩
theorem zk_10_321 : zCpOk 10 321 (3, 0, 0, 59) := List.mem_of_getElem? (i := 1215) (by decide +kernel)
theorem zk_10_323 : zCpOk 10 323 (5, 192, 0, 0) := ⟨zmo_192, fun _ => List.mem_of_getElem? (i := 1216) (by decide +kernel), fun h => absurd rfl h⟩
theorem zk_10_326 : zCpOk 10 326 (5, 193, 0, 0) := ⟨zmo_193, fun _ => List.mem_of_getElem? (i := 1220) (by decide +kernel), fun h => absurd rfl h⟩
theorem zko_10 : ∀ q ∈ zc_10, zCpOk 10 q.1 q.2 := List.forall_mem_cons.mpr ⟨zk_10_1, List.forall_mem_cons.mpr ⟨zk_10_7, List.forall_mem_cons.mpr ⟨zk_10_13, List.forall_mem_cons.mpr ⟨zk_10_16, List.forall_mem_cons.mpr ⟨zk_10_19, List.forall_mem_cons.mpr ⟨zk_10_22, List.forall_mem_cons.mpr ⟨zk_10_25, List.forall_mem_cons.mpr ⟨zk_10_28, List.forall_mem_cons.mpr ⟨zk_10_31, List.forall_mem_cons.mpr ⟨zk_10_34, List.forall_mem_cons.mpr ⟨zk_10_37, List.forall_mem_cons.mpr ⟨zk_10_40, List.forall_mem_cons.mpr ⟨zk_10_43, List.forall_mem_cons.mpr ⟨zk_10_46, List.forall_mem_cons.mpr ⟨zk_10_49, List.forall_mem_cons.mpr ⟨zk_10_52, List.forall_mem_cons.mpr ⟨zk_10_55, List.forall_mem_cons.mpr ⟨zk_10_58, List.forall_mem_cons.mpr ⟨zk_10_61, List.forall_mem_cons.mpr ⟨zk_10_64, List.forall_mem_cons.mpr ⟨zk_10_67, List.forall_mem_cons.mpr ⟨zk_10_71, List.forall_mem_cons.mpr ⟨zk_10_74, List.forall_mem_cons.mpr ⟨zk_10_77, List.forall_mem_cons.mpr ⟨zk_10_79, List.forall_mem_cons.mpr ⟨zk_10_83, List.forall_mem_cons.mpr ⟨zk_10_85, List.forall_mem_cons.mpr ⟨zk_10_87, List.forall_mem_cons.mpr ⟨zk_10_91, List.forall_mem_cons.mpr ⟨zk_10_95, List.forall_mem_cons.mpr ⟨zk_10_99, List.forall_mem_cons.mpr ⟨zk_10_102, List.forall_mem_cons.mpr ⟨zk_10_105, List.forall_mem_cons.mpr ⟨zk_10_108, List.forall_mem_cons.mpr ⟨zk_10_111, List.forall_mem_cons.mpr ⟨zk_10_113, List.forall_mem_cons.mpr ⟨zk_10_115, List.forall_mem_cons.mpr ⟨zk_10_119, List.forall_mem_cons.mpr ⟨zk_10_122, List.forall_mem_cons.mpr ⟨zk_10_124, List.forall_mem_cons.mpr ⟨zk_10_126, List.forall_mem_cons.mpr ⟨zk_10_129, List.forall_mem_cons.mpr ⟨zk_10_133, List.forall_mem_cons.mpr ⟨zk_10_135, List.forall_mem_cons.mpr ⟨zk_10_137, List.forall_mem_cons.mpr ⟨zk_10_140, List.forall_mem_cons.mpr ⟨zk_10_143, List.forall_mem_cons.mpr ⟨zk_10_146, List.forall_mem_cons.mpr ⟨zk_10_149, List.forall_mem_cons.mpr ⟨zk_10_153, List.forall_mem_cons.mpr ⟨zk_10_156, List.forall_mem_cons.mpr ⟨zk_10_159, List.forall_mem_cons.mpr ⟨zk_10_162, List.forall_mem_cons.mpr ⟨zk_10_166, List.forall_mem_cons.mpr ⟨zk_10_170, List.forall_mem_cons.mpr ⟨zk_10_173, List.forall_mem_cons.mpr ⟨zk_10_176, List.forall_mem_cons.mpr ⟨zk_10_179, List.forall_mem_cons.mpr ⟨zk_10_182, List.forall_mem_cons.mpr ⟨zk_10_185, List.forall_mem_cons.mpr ⟨zk_10_189, List.forall_mem_cons.mpr ⟨zk_10_193, List.forall_mem_cons.mpr ⟨zk_10_196, List.forall_mem_cons.mpr ⟨zk_10_200, List.forall_mem_cons.mpr ⟨zk_10_203, List.forall_mem_cons.mpr ⟨zk_10_205, List.forall_mem_cons.mpr ⟨zk_10_208, List.forall_mem_cons.mpr ⟨zk_10_211, List.forall_mem_cons.mpr ⟨zk_10_214, List.forall_mem_cons.mpr ⟨zk_10_217, List.forall_mem_cons.mpr ⟨zk_10_219, List.forall_mem_cons.mpr ⟨zk_10_222, List.forall_mem_cons.mpr ⟨zk_10_225, List.forall_mem_cons.mpr ⟨zk_10_228, List.forall_mem_cons.mpr ⟨zk_10_230, List.forall_mem_cons.mpr ⟨zk_10_233, List.forall_mem_cons.mpr ⟨zk_10_236, List.forall_mem_cons.mpr ⟨zk_10_239, List.forall_mem_cons.mpr ⟨zk_10_241, List.forall_mem_cons.mpr ⟨zk_10_244, List.forall_mem_cons.mpr ⟨zk_10_246, List.forall_mem_cons.mpr ⟨zk_10_249, List.forall_mem_cons.mpr ⟨zk_10_252, List.forall_mem_cons.mpr ⟨zk_10_255, List.forall_mem_cons.mpr ⟨zk_10_258, List.forall_mem_cons.mpr ⟨zk_10_261, List.forall_mem_cons.mpr ⟨zk_10_263, List.forall_mem_cons.mpr ⟨zk_10_266, List.forall_mem_cons.mpr ⟨zk_10_268, List.forall_mem_cons.mpr ⟨zk_10_270, List.forall_mem_cons.mpr ⟨zk_10_272, List.forall_mem_cons.mpr ⟨zk_10_276, List.forall_mem_cons.mpr ⟨zk_10_278, List.forall_mem_cons.mpr ⟨zk_10_280, List.forall_mem_cons.mpr ⟨zk_10_282, List.forall_mem_cons.mpr ⟨zk_10_284, List.forall_mem_cons.mpr ⟨zk_10_286, List.forall_mem_cons.mpr ⟨zk_10_289, List.forall_mem_cons.mpr ⟨zk_10_292, List.forall_mem_cons.mpr ⟨zk_10_295, List.forall_mem_cons.mpr ⟨zk_10_299, List.forall_mem_cons.mpr ⟨zk_10_302, List.forall_mem_cons.mpr ⟨zk_10_305, List.forall_mem_cons.mpr ⟨zk_10_309, List.forall_mem_cons.mpr ⟨zk_10_312, List.forall_mem_cons.mpr ⟨zk_10_314, List.forall_mem_cons.mpr ⟨zk_10_316, List.forall_mem_cons.mpr ⟨zk_10_318, List.forall_mem_cons.mpr ⟨zk_10_321, List.forall_mem_cons.mpr ⟨zk_10_323, List.forall_mem_cons.mpr ⟨zk_10_326, fun _ h => absurd h List.not_mem_nil⟩⟩⟩⟩⟩⟩⟩⟩⟩⟩⟩⟩⟩⟩⟩⟩⟩⟩⟩⟩⟩⟩⟩⟩⟩⟩⟩⟩⟩⟩⟩⟩⟩⟩⟩⟩⟩⟩⟩⟩⟩⟩⟩⟩⟩⟩⟩⟩⟩⟩⟩⟩⟩⟩⟩⟩⟩⟩⟩⟩⟩⟩⟩⟩⟩⟩⟩⟩⟩⟩⟩⟩⟩⟩⟩⟩⟩⟩⟩⟩⟩⟩⟩⟩⟩⟩⟩⟩⟩⟩⟩⟩⟩⟩⟩⟩⟩⟩⟩⟩⟩⟩⟩⟩⟩⟩⟩⟩⟩⟩⟩
theorem zk_11_264 : zCpOk 11 264 (2, 0, 0, 65536) := List.mem_of_getElem? (i := 294) (by decide +kernel)
theorem zk_11_265 : zCpOk 11 265 (2, 0, 0, 1431655765) := List.mem_of_getElem? (i := 353) (by decide +kernel)
theorem zk_11_266 : zCpOk 11 266 (2, 0, 0, 858993459) := List.mem_of_getElem? (i := 354) (by decide +kernel)
theorem zk_11_267 : zCpOk 11 267 (2, 0, 0, 252645135) := List.mem_of_getElem? (i := 355) (by decide +kernel)
theorem zko_11 : ∀ q ∈ zc_11, zCpOk 11 q.1 q.2 := List.forall_mem_cons.mpr ⟨zk_11_264, List.forall_mem_cons.mpr ⟨zk_11_265, List.forall_mem_cons.mpr ⟨zk_11_266, List.forall_mem_cons.mpr ⟨zk_11_267, fun _ h => absurd h List.not_mem_nil⟩⟩⟩⟩
theorem zk_12_311 : zCpOk 12 311 (5, 195, 0, 0) := ⟨zmo_195, fun _ => List.mem_of_getElem? (i := 291) (by decide +kernel), fun h => absurd rfl h⟩
theorem zko_12 : ∀ q ∈ zc_12, zCpOk 12 q.1 q.2 := List.forall_mem_cons.mpr ⟨zk_12_311, fun _ h => absurd h List.not_mem_nil⟩
theorem zko_13 : ∀ q ∈ zc_13, zCpOk 13 q.1 q.2 := fun _ h => absurd h List.not_mem_nil
theorem zk_14_7 : zCpOk 14 7 (4, 9, 0, 0) := ⟨(RX9, TX9, 11), rfl, List.mem_of_getElem? (i := 75) (by decide +kernel), List.mem_of_getElem? (i := 76) (by decide +kernel), List.mem_of_getElem? (i := 58) (by decide +kernel)⟩
theorem zk_14_9 : zCpOk 14 9 (5, 78, 0, 0) := ⟨zmo_78, fun _ => List.mem_of_getElem? (i := 77) (by decide +kernel), fun h => absurd rfl h⟩
theorem zk_14_10 : zCpOk 14 10 (4, 10, 0, 0) := ⟨(RX10, TX10, 32), rfl, List.mem_of_getElem? (i := 790) (by decide +kernel), List.mem_of_getElem? (i := 791) (by decide +kernel), List.mem_of_getElem? (i := 72) (by decide +kernel)⟩
theorem zk_14_12 : zCpOk 14 12 (5, 116, 0, 0) := ⟨zmo_116, fun _ => List.mem_of_getElem? (i := 792) (by decide +kernel), fun h => absurd rfl h⟩
theorem zk_14_13 : zCpOk 14 13 (5, 79, 0, 0) := ⟨zmo_79, fun _ => List.mem_of_getElem? (i := 334) (by decide +kernel), fun h => absurd rfl h⟩
theorem zk_14_17 : zCpOk 14 17 (5, 124, 0, 0) := ⟨zmo_124, fun _ => List.mem_of_getElem? (i := 894) (by decide +kernel), fun h => absurd rfl h⟩
theorem zk_14_18 : zCpOk 14 18 (5, 80, 0, 0) := ⟨zmo_80, fun _ => List.mem_of_getElem? (i := 356) (by decide +kernel), fun h => absurd rfl h⟩
theorem zk_14_22 : zCpOk 14 22 (5, 125, 0, 0) := ⟨zmo_125, fun _ => List.mem_of_getElem? (i := 911) (by decide +kernel), fun h => absurd rfl h⟩
theorem zk_14_23 : zCpOk 14 23 (5, 81, 0, 0) := ⟨zmo_81, fun _ => List.mem_of_getElem? (i := 369) (by decide +kernel), fun h => absurd rfl h⟩
theorem zk_14_26 : zCpOk 14 26 (5, 128, 0, 0) := ⟨zmo_128, fun _ => List.mem_of_getElem? (i := 919) (by decide +kernel), fun h => absurd rfl h⟩
theorem zk_14_27 : zCpOk 14 27 (5, 82, 0, 0) := ⟨zmo_82, fun _ => List.mem_of_getElem? (i := 396) (by decide +kernel), fun h => absurd rfl h⟩
theorem zk_14_31 : zCpOk 14 31 (5, 129, 0, 0) := ⟨zmo_129, fun _ => List.mem_of_getElem? (i := 935) (by decide +kernel), fun h => absurd rfl h⟩
theorem zk_14_32 : zCpOk 14 32 (5, 83, 0, 0) := ⟨zmo_83, fun _ => List.mem_of_getElem? (i := 408) (by decide +kernel), fun h => absurd rfl h⟩
theorem zk_14_36 : zCpOk 14 36 (5, 130, 0, 0) := ⟨zmo_130, fun _ => List.mem_of_getElem? (i := 939) (by decide +kernel), fun h => absurd rfl h⟩
theorem zk_14_37 : zCpOk 14 37 (5, 84, 0, 0) := ⟨zmo_84, fun _ => List.mem_of_getElem? (i := 412) (by decide +kernel), fun h => absurd rfl h⟩
theorem zk_14_40 : zCpOk 14 40 (5, 131, 0, 0) := ⟨zmo_131, fun _ => List.mem_of_getElem? (i := 943) (by decide +kernel), fun h => absurd rfl h⟩
theorem zk_14_41 : zCpOk 14 41 (5, 85, 0, 0) := ⟨zmo_85, fun _ => List.mem_of_getElem? (i := 421) (by decide +kernel), fun h => absurd rfl h⟩
theorem zk_14_45 : zCpOk 14 45 (5, 132, 0, 0) := ⟨zmo_132, fun _ => List.mem_of_getElem? (i := 949) (by decide +kernel), fun h => absurd rfl h⟩
theorem zk_14_46 : zCpOk 14 46 (5, 86, 0, 0) := ⟨zmo_86, fun _ => List.mem_of_getElem? (i := 429) (by decide +kernel), fun h => absurd rfl h⟩
theorem zk_14_49 : zCpOk 14 49 (5, 138, 0, 0) := ⟨zmo_138, fun _ => List.mem_of_getElem? (i := 953) (by decide +kernel), fun h => absurd rfl h⟩
theorem zk_14_50 : zCpOk 14 50 (5, 87, 0, 0) := ⟨zmo_87, fun _ => List.mem_of_getElem? (i := 449) (by decide +kernel), fun h => absurd rfl h⟩
theorem zk_14_53 : zCpOk 14 53 (5, 151, 0, 0) := ⟨zmo_151, fun _ => List.mem_of_getElem? (i := 980) (by decide +kernel), fun h => absurd rfl h⟩
theorem zk_14_54 : zCpOk 14 54 (5, 88, 0, 0) := ⟨zmo_88, fun _ => List.mem_of_getElem? (i := 539) (by decide +kernel), fun h => absurd rfl h⟩
theorem zk_14_57 : zCpOk 14 57 (5, 152, 0, 0) := ⟨zmo_152, fun _ => List.mem_of_getElem? (i := 1037) (by decide +kernel), fun h => absurd rfl h⟩
theorem zk_14_58 : zCpOk 14 58 (5, 89, 0, 0) := ⟨zmo_89, fun _ => List.mem_of_getElem? (i := 543) (by decide +kernel), fun h => absurd rfl h⟩
theorem zk_14_61 : zCpOk 14 61 (5, 153, 0, 0) := ⟨zmo_153, fun _ => List.mem_of_getElem? (i := 1041) (by decide +kernel), fun h => absurd rfl h⟩
theorem zk_14_62 : zCpOk 14 62 (5, 90, 0, 0) := ⟨zmo_90, fun _ => List.mem_of_getElem? (i := 552) (by decide +kernel), fun h => absurd rfl h⟩
theorem zk_14_65 : zCpOk 14 65 (5, 154, 0, 0) := ⟨zmo_154, fun _ => List.mem_of_getElem? (i := 1045) (by decide +kernel), fun h => absurd rfl h⟩
theorem zk_14_66 : zCpOk 14 66 (5, 91, 0, 0) := ⟨zmo_91, fun _ => List.mem_of_getElem? (i := 557) (by decide +kernel), fun h => absurd rfl h⟩
theorem zk_14_69 : zCpOk 14 69 (5, 155, 0, 0) := ⟨zmo_155, fun _ => List.mem_of_getElem? (i := 1049) (by decide +kernel), fun h => absurd rfl h⟩
theorem zk_14_70 : zCpOk 14 70 (5, 92, 0, 0) := ⟨zmo_92, fun _ => List.mem_of_getElem? (i := 565) (by decide +kernel), fun h => absurd rfl h⟩
theorem zk_14_73 : zCpOk 14 73 (5, 156, 0, 0) := ⟨zmo_156, fun _ => List.mem_of_getElem? (i := 1053) (by decide +kernel), fun h => absurd rfl h⟩
theorem zk_14_74 : zCpOk 14 74 (5, 93, 0, 0) := ⟨zmo_93, fun _ => List.mem_of_getElem? (i := 570) (by decide +kernel), fun h => absurd rfl h⟩
theorem zk_14_77 : zCpOk 14 77 (5, 158, 0, 0) := ⟨zmo_158, fun _ => List.mem_of_getElem? (i := 1057) (by decide +kernel), fun h => absurd rfl h⟩
theorem zk_14_78 : zCpOk 14 78 (5, 94, 0, 0) := ⟨zmo_94, fun _ => List.mem_of_getElem? (i := 582) (by decide +kernel), fun h => absurd rfl h⟩
theorem zk_14_81 : zCpOk 14 81 (5, 159, 0, 0) := ⟨zmo_159, fun _ => List.mem_of_getElem? (i := 1065) (by decide +kernel), fun h => absurd rfl h⟩
theorem zk_14_82 : zCpOk 14 82 (5, 95, 0, 0) := ⟨zmo_95, fun _ => List.mem_of_getElem? (i := 587) (by decide +kernel), fun h => absurd rfl h⟩
theorem zk_14_85 : zCpOk 14 85 (5, 163, 0, 0) := ⟨zmo_163, fun _ => List.mem_of_getElem? (i := 1069) (by decide +kernel), fun h => absurd rfl h⟩
theorem zk_14_86 : zCpOk 14 86 (5, 96, 0, 0) := ⟨zmo_96, fun _ => List.mem_of_getElem? (i := 619) (by decide +kernel), fun h => absurd rfl h⟩
theorem zk_14_89 : zCpOk 14 89 (5, 165, 0, 0) := ⟨zmo_165, fun _ => List.mem_of_getElem? (i := 1085) (by decide +kernel), fun h => absurd rfl h⟩
theorem zk_14_90 : zCpOk 14 90 (5, 97, 0, 0) := ⟨zmo_97, fun _ => List.mem_of_getElem? (i := 654) (by decide +kernel), fun h => absurd rfl h⟩
theorem zk_14_93 : zCpOk 14 93 (5, 169, 0, 0) := ⟨zmo_169, fun _ => List.mem_of_getElem? (i := 1093) (by decide +kernel), fun h => absurd rfl h⟩
theorem zk_14_94 : zCpOk 14 94 (5, 98, 0, 0) := ⟨zmo_98, fun _ => List.mem_of_getElem? (i := 678) (by decide +kernel), fun h => absurd rfl h⟩
theorem zk_14_97 : zCpOk 14 97 (5, 170, 0, 0) := ⟨zmo_170, fun _ => List.mem_of_getElem? (i := 1110) (by decide +kernel), fun h => absurd rfl h⟩
theorem zk_14_98 : zCpOk 14 98 (5, 99, 0, 0) := ⟨zmo_99, fun _ => List.mem_of_getElem? (i := 686) (by decide +kernel), fun h => absurd rfl h⟩
theorem zk_14_101 : zCpOk 14 101 (5, 171, 0, 0) := ⟨zmo_171, fun _ => List.mem_of_getElem? (i := 1115) (by decide +kernel), fun h => absurd rfl h⟩
theorem zk_14_102 : zCpOk 14 102 (5, 100, 0, 0) := ⟨zmo_100, fun _ => List.mem_of_getElem? (i := 694) (by decide +kernel), fun h => absurd rfl h⟩
theorem zk_14_105 : zCpOk 14 105 (5, 174, 0, 0) := ⟨zmo_174, fun _ => List.mem_of_getElem? (i := 1119) (by decide +kernel), fun h => absurd rfl h⟩
theorem zk_14_106 : zCpOk 14 106 (5, 101, 0, 0) := ⟨zmo_101, fun _ => List.mem_of_getElem? (i := 710) (by decide +kernel), fun h => absurd rfl h⟩
theorem zk_14_109 : zCpOk 14 109 (5, 176, 0, 0) := ⟨zmo_176, fun _ => List.mem_of_getElem? (i := 1131) (by decide +kernel), fun h => absurd rfl h⟩
theorem zk_14_110 : zCpOk 14 110 (5, 102, 0, 0) := ⟨zmo_102, fun _ => List.mem_of_getElem? (i := 726) (by decide +kernel), fun h => absurd rfl h⟩
theorem zk_14_113 : zCpOk 14 113 (5, 179, 0, 0) := ⟨zmo_179, fun _ => List.mem_of_getElem? (i := 1140) (by decide +kernel), fun h => absurd rfl h⟩
theorem zk_14_114 : zCpOk 14 114 (5, 103, 0, 0) := ⟨zmo_103, fun _ => List.mem_of_getElem? (i := 734) (by decide +kernel), fun h => absurd rfl h⟩
theorem zk_14_118 : zCpOk 14 118 (5, 181, 0, 0) := ⟨zmo_181, fun _ => List.mem_of_getElem? (i := 1153) (by decide +kernel), fun h => absurd rfl h⟩
theorem zk_14_119 : zCpOk 14 119 (5, 104, 0, 0) := ⟨zmo_104, fun _ => List.mem_of_getElem? (i := 748) (by decide +kernel), fun h => absurd rfl h⟩
theorem zk_14_122 : zCpOk 14 122 (5, 185, 0, 0) := ⟨zmo_185, fun _ => List.mem_of_getElem? (i := 1163) (by decide +kernel), fun h => absurd rfl h⟩
theorem zk_14_123 : zCpOk 14 123 (5, 105, 0, 0) := ⟨zmo_105, fun _ => List.mem_of_getElem? (i := 772) (by decide +kernel), fun h => absurd rfl h⟩
theorem zk_14_126 : zCpOk 14 126 (5, 189, 0, 0) := ⟨zmo_189, fun _ => List.mem_of_getElem? (i := 1184) (by decide +kernel), fun h => absurd rfl h⟩
theorem zk_14_127 : zCpOk 14 127 (5, 106, 0, 0) := ⟨zmo_106, fun _ => List.mem_of_getElem? (i := 776) (by decide +kernel), fun h => absurd rfl h⟩
theorem zk_14_130 : zCpOk 14 130 (5, 190, 0, 0) := ⟨zmo_190, fun _ => List.mem_of_getElem? (i := 1200) (by decide +kernel), fun h => absurd rfl h⟩
theorem zk_14_131 : zCpOk 14 131 (5, 107, 0, 0) := ⟨zmo_107, fun _ => List.mem_of_getElem? (i := 781) (by decide +kernel), fun h => absurd rfl h⟩
theorem zk_14_134 : zCpOk 14 134 (5, 194, 0, 0) := ⟨zmo_194, fun _ => List.mem_of_getElem? (i := 1204) (by decide +kernel), fun h => absurd rfl h⟩
theorem zko_14 : ∀ q ∈ zc_14, zCpOk 14 q.1 q.2 := List.forall_mem_cons.mpr ⟨zk_14_7, List.forall_mem_cons.mpr ⟨zk_14_9, List.forall_mem_cons.mpr ⟨zk_14_10, List.forall_mem_cons.mpr ⟨zk_14_12, List.forall_mem_cons.mpr ⟨zk_14_13, List.forall_mem_cons.mpr ⟨zk_14_17, List.forall_mem_cons.mpr ⟨zk_14_18, List.forall_mem_cons.mpr ⟨zk_14_22, List.forall_mem_cons.mpr ⟨zk_14_23, List.forall_mem_cons.mpr ⟨zk_14_26, List.forall_mem_cons.mpr ⟨zk_14_27, List.forall_mem_cons.mpr ⟨zk_14_31, List.forall_mem_cons.mpr ⟨zk_14_32, List.forall_mem_cons.mpr ⟨zk_14_36, List.forall_mem_cons.mpr ⟨zk_14_37, List.forall_mem_cons.mpr ⟨zk_14_40, List.forall_mem_cons.mpr ⟨zk_14_41, List.forall_mem_cons.mpr ⟨zk_14_45, List.forall_mem_cons.mpr ⟨zk_14_46, List.forall_mem_cons.mpr ⟨zk_14_49, List.forall_mem_cons.mpr ⟨zk_14_50, List.forall_mem_cons.mpr ⟨zk_14_53, List.forall_mem_cons.mpr ⟨zk_14_54, List.forall_mem_cons.mpr ⟨zk_14_57, List.forall_mem_cons.mpr ⟨zk_14_58, List.forall_mem_cons.mpr ⟨zk_14_61, List.forall_mem_cons.mpr ⟨zk_14_62, List.forall_mem_cons.mpr ⟨zk_14_65, List.forall_mem_cons.mpr ⟨zk_14_66, List.forall_mem_cons.mpr ⟨zk_14_69, List.forall_mem_cons.mpr ⟨zk_14_70, List.forall_mem_cons.mpr ⟨zk_14_73, List.forall_mem_cons.mpr ⟨zk_14_74, List.forall_mem_cons.mpr ⟨zk_14_77, List.forall_mem_cons.mpr ⟨zk_14_78, List.forall_mem_cons.mpr ⟨zk_14_81, List.forall_mem_cons.mpr ⟨zk_14_82, List.forall_mem_cons.mpr ⟨zk_14_85, List.forall_mem_cons.mpr ⟨zk_14_86, List.forall_mem_cons.mpr ⟨zk_14_89, List.forall_mem_cons.mpr ⟨zk_14_90, List.forall_mem_cons.mpr ⟨zk_14_93, List.forall_mem_cons.mpr ⟨zk_14_94, List.forall_mem_cons.mpr ⟨zk_14_97, List.forall_mem_cons.mpr ⟨zk_14_98, List.forall_mem_cons.mpr ⟨zk_14_101, List.forall_mem_cons.mpr ⟨zk_14_102, List.forall_mem_cons.mpr ⟨zk_14_105, List.forall_mem_cons.mpr ⟨zk_14_106, List.forall_mem_cons.mpr ⟨zk_14_109, List.forall_mem_cons.mpr ⟨zk_14_110, List.forall_mem_cons.mpr ⟨zk_14_113, List.forall_mem_cons.mpr ⟨zk_14_114, List.forall_mem_cons.mpr ⟨zk_14_118, List.forall_mem_cons.mpr ⟨zk_14_119, List.forall_mem_cons.mpr ⟨zk_14_122, List.forall_mem_cons.mpr ⟨zk_14_123, List.forall_mem_cons.mpr ⟨zk_14_126, List.forall_mem_cons.mpr ⟨zk_14_127, List.forall_mem_cons.mpr ⟨zk_14_130, List.forall_mem_cons.mpr ⟨zk_14_131, List.forall_mem_cons.mpr ⟨zk_14_134, fun _ h => absurd h List.not_mem_nil⟩⟩⟩⟩⟩⟩⟩⟩⟩⟩⟩⟩⟩⟩⟩⟩⟩⟩⟩⟩⟩⟩⟩⟩⟩⟩⟩⟩⟩⟩⟩⟩⟩⟩⟩⟩⟩⟩⟩⟩⟩⟩⟩⟩⟩⟩⟩⟩⟩⟩⟩⟩⟩⟩⟩⟩⟩⟩⟩⟩⟩⟩
theorem zu_0 : ∀ w ∈ u_ws RX0 TX0 6, w ∈ lw_tbl := by
  have h : u_ws RX0 TX0 6 = [u_lay RX0 TX0 0, u_lay RX0 TX0 1, u_lay RX0 TX0 2, u_lay RX0 TX0 3, u_lay RX0 TX0 4, u_lay RX0 TX0 5] := by decide +kernel
  rw [h]
  exact List.forall_mem_cons.mpr ⟨List.mem_of_getElem? (i := 181) (by decide +kernel), List.forall_mem_cons.mpr ⟨List.mem_of_getElem? (i := 183) (by decide +kernel), List.forall_mem_cons.mpr ⟨List.mem_of_getElem? (i := 185) (by decide +kernel), List.forall_mem_cons.mpr ⟨List.mem_of_getElem? (i := 187) (by decide +kernel), List.forall_mem_cons.mpr ⟨List.mem_of_getElem? (i := 189) (by decide +kernel), List.forall_mem_cons.mpr ⟨List.mem_of_getElem? (i := 191) (by decide +kernel), fun _ h => absurd h List.not_mem_nil⟩⟩⟩⟩⟩⟩
theorem zu_1 : ∀ w ∈ u_ws RX1 TX1 8, w ∈ lw_tbl := by
  have h : u_ws RX1 TX1 8 = [u_lay RX1 TX1 0, u_lay RX1 TX1 1, u_lay RX1 TX1 2, u_lay RX1 TX1 3, u_lay RX1 TX1 4, u_lay RX1 TX1 5, u_lay RX1 TX1 6, u_lay RX1 TX1 7] := by decide +kernel
  rw [h]
  exact List.forall_mem_cons.mpr ⟨List.mem_of_getElem? (i := 124) (by decide +kernel), List.forall_mem_cons.mpr ⟨List.mem_of_getElem? (i := 126) (by decide +kernel), List.forall_mem_cons.mpr ⟨List.mem_of_getElem? (i := 128) (by decide +kernel), List.forall_mem_cons.mpr ⟨List.mem_of_getElem? (i := 130) (by decide +kernel), List.forall_mem_cons.mpr ⟨List.mem_of_getElem? (i := 132) (by decide +kernel), List.forall_mem_cons.mpr ⟨List.mem_of_getElem? (i := 134) (by decide +kernel), List.forall_mem_cons.mpr ⟨List.mem_of_getElem? (i := 136) (by decide +kernel), List.forall_mem_cons.mpr ⟨List.mem_of_getElem? (i := 138) (by decide +kernel), fun _ h => absurd h List.not_mem_nil⟩⟩⟩⟩⟩⟩⟩⟩
theorem zu_2 : ∀ w ∈ u_ws RX2 TX2 1, w ∈ lw_tbl := by
  have h : u_ws RX2 TX2 1 = [u_lay RX2 TX2 0] := by decide +kernel
  rw [h]
  exact List.forall_mem_cons.mpr ⟨List.mem_of_getElem? (i := 239) (by decide +kernel), fun _ h => absurd h List.not_mem_nil⟩
theorem zu_3 : ∀ w ∈ u_ws RX3 TX3 2, w ∈ lw_tbl := by
  have h : u_ws RX3 TX3 2 = [u_lay RX3 TX3 0, u_lay RX3 TX3 1] := by decide +kernel
  rw [h]
  exact List.forall_mem_cons.mpr ⟨List.mem_of_getElem? (i := 154) (by decide +kernel), List.forall_mem_cons.mpr ⟨List.mem_of_getElem? (i := 156) (by decide +kernel), fun _ h => absurd h List.not_mem_nil⟩⟩
theorem zu_4 : ∀ w ∈ u_ws RX4 TX4 4, w ∈ lw_tbl := by
  have h : u_ws RX4 TX4 4 = [u_lay RX4 TX4 0, u_lay RX4 TX4 1, u_lay RX4 TX4 2, u_lay RX4 TX4 3] := by decide +kernel
  rw [h]
  exact List.forall_mem_cons.mpr ⟨List.mem_of_getElem? (i := 206) (by decide +kernel), List.forall_mem_cons.mpr ⟨List.mem_of_getElem? (i := 208) (by decide +kernel), List.forall_mem_cons.mpr ⟨List.mem_of_getElem? (i := 210) (by decide +kernel), List.forall_mem_cons.mpr ⟨List.mem_of_getElem? (i := 212) (by decide +kernel), fun _ h => absurd h List.not_mem_nil⟩⟩⟩⟩
theorem zu_5 : ∀ w ∈ u_ws RX5 TX5 1, w ∈ lw_tbl := by
  have h : u_ws RX5 TX5 1 = [u_lay RX5 TX5 0] := by decide +kernel
  rw [h]
  exact List.forall_mem_cons.mpr ⟨List.mem_of_getElem? (i := 99) (by decide +kernel), fun _ h => absurd h List.not_mem_nil⟩
theorem zu_6 : ∀ w ∈ u_ws RX6 TX6 5, w ∈ lw_tbl := by
  have h : u_ws RX6 TX6 5 = [u_lay RX6 TX6 0, u_lay RX6 TX6 1, u_lay RX6 TX6 2, u_lay RX6 TX6 3, u_lay RX6 TX6 4] := by decide +kernel
  rw [h]
  exact List.forall_mem_cons.mpr ⟨List.mem_of_getElem? (i := 259) (by decide +kernel), List.forall_mem_cons.mpr ⟨List.mem_of_getElem? (i := 261) (by decide +kernel), List.forall_mem_cons.mpr ⟨List.mem_of_getElem? (i := 263) (by decide +kernel), List.forall_mem_cons.mpr ⟨List.mem_of_getElem? (i := 265) (by decide +kernel), List.forall_mem_cons.mpr ⟨List.mem_of_getElem? (i := 267) (by decide +kernel), fun _ h => absurd h List.not_mem_nil⟩⟩⟩⟩⟩
theorem zu_7 : ∀ w ∈ u_ws RX7 TX7 1, w ∈ lw_tbl := by
  have h : u_ws RX7 TX7 1 = [u_lay RX7 TX7 0] := by decide +kernel
  rw [h]
  exact List.forall_mem_cons.mpr ⟨List.mem_of_getElem? (i := 297) (by decide +kernel), fun _ h => absurd h List.not_mem_nil⟩
theorem zu_8 : ∀ w ∈ u_ws RX8 TX8 2, w ∈ lw_tbl := by
  have h : u_ws RX8 TX8 2 = [u_lay RX8 TX8 0, u_lay RX8 TX8 1] := by decide +kernel
  rw [h]
  exact List.forall_mem_cons.mpr ⟨List.mem_of_getElem? (i := 225) (by decide +kernel), List.forall_mem_cons.mpr ⟨List.mem_of_getElem? (i := 227) (by decide +kernel), fun _ h => absurd h List.not_mem_nil⟩⟩
theorem zu_9 : ∀ w ∈ u_ws RX9 TX9 11, w ∈ lw_tbl := by
  have h : u_ws RX9 TX9 11 = [u_lay RX9 TX9 0, u_lay RX9 TX9 1, u_lay RX9 TX9 2, u_lay RX9 TX9 3, u_lay RX9 TX9 4, u_lay RX9 TX9 5, u_lay RX9 TX9 6, u_lay RX9 TX9 7, u_lay RX9 TX9 8, u_lay RX9 TX9 9, u_lay RX9 TX9 10] := by decide +kernel
  rw [h]
  exact List.forall_mem_cons.mpr ⟨List.mem_of_getElem? (i := 311) (by decide +kernel), List.forall_mem_cons.mpr ⟨List.mem_of_getElem? (i := 313) (by decide +kernel), List.forall_mem_cons.mpr ⟨List.mem_of_getElem? (i := 315) (by decide +kernel), List.forall_mem_cons.mpr ⟨List.mem_of_getElem? (i := 317) (by decide +kernel), List.forall_mem_cons.mpr ⟨List.mem_of_getElem? (i := 319) (by decide +kernel), List.forall_mem_cons.mpr ⟨List.mem_of_getElem? (i := 321) (by decide +kernel), List.forall_mem_cons.mpr ⟨List.mem_of_getElem? (i := 323) (by decide +kernel), List.forall_mem_cons.mpr ⟨List.mem_of_getElem? (i := 325) (by decide +kernel), List.forall_mem_cons.mpr ⟨List.mem_of_getElem? (i := 327) (by decide +kernel), List.forall_mem_cons.mpr ⟨List.mem_of_getElem? (i := 329) (by decide +kernel), List.forall_mem_cons.mpr ⟨List.mem_of_getElem? (i := 331) (by decide +kernel), fun _ h => absurd h List.not_mem_nil⟩⟩⟩⟩⟩⟩⟩⟩⟩⟩⟩
theorem zu_10 : ∀ w ∈ u_ws RX10 TX10 32, w ∈ lw_tbl := by
  have h : u_ws RX10 TX10 32 = [u_lay RX10 TX10 0, u_lay RX10 TX10 1, u_lay RX10 TX10 2, u_lay RX10 TX10 3, u_lay RX10 TX10 4, u_lay RX10 TX10 5, u_lay RX10 TX10 6, u_lay RX10 TX10 7, u_lay RX10 TX10 8, u_lay RX10 TX10 9, u_lay RX10 TX10 10, u_lay RX10 TX10 11, u_lay RX10 TX10 12, u_lay RX10 TX10 13, u_lay RX10 TX10 14, u_lay RX10 TX10 15, u_lay RX10 TX10 16, u_lay RX10 TX10 17, u_lay RX10 TX10 18, u_lay RX10 TX10 19, u_lay RX10 TX10 20, u_lay RX10 TX10 21, u_lay RX10 TX10 22, u_lay RX10 TX10 23, u_lay RX10 TX10 24, u_lay RX10 TX10 25, u_lay RX10 TX10 26, u_lay RX10 TX10 27, u_lay RX10 TX10 28, u_lay RX10 TX10 29, u_lay RX10 TX10 30, u_lay RX10 TX10 31] := by decide +kernel
  rw [h]
  exact List.forall_mem_cons.mpr ⟨List.mem_of_getElem? (i := 828) (by decide +kernel), List.forall_mem_cons.mpr ⟨List.mem_of_getElem? (i := 830) (by decide +kernel), List.forall_mem_cons.mpr ⟨List.mem_of_getElem? (i := 832) (by decide +kernel), List.forall_mem_cons.mpr ⟨List.mem_of_getElem? (i := 834) (by decide +kernel), List.forall_mem_cons.mpr ⟨List.mem_of_getElem? (i := 836) (by decide +kernel), List.forall_mem_cons.mpr ⟨List.mem_of_getElem? (i := 838) (by decide +kernel), List.forall_mem_cons.mpr ⟨List.mem_of_getElem? (i := 840) (by decide +kernel), List.forall_mem_cons.mpr ⟨List.mem_of_getElem? (i := 842) (by decide +kernel), List.forall_mem_cons.mpr ⟨List.mem_of_getElem? (i := 844) (by decide +kernel), List.forall_mem_cons.mpr ⟨List.mem_of_getElem? (i := 846) (by decide +kernel), List.forall_mem_cons.mpr ⟨List.mem_of_getElem? (i := 848) (by decide +kernel), List.forall_mem_cons.mpr ⟨List.mem_of_getElem? (i := 850) (by decide +kernel), List.forall_mem_cons.mpr ⟨List.mem_of_getElem? (i := 852) (by decide +kernel), List.forall_mem_cons.mpr ⟨List.mem_of_getElem? (i := 854) (by decide +kernel), List.forall_mem_cons.mpr ⟨List.mem_of_getElem? (i := 856) (by decide +kernel), List.forall_mem_cons.mpr ⟨List.mem_of_getElem? (i := 858) (by decide +kernel), List.forall_mem_cons.mpr ⟨List.mem_of_getElem? (i := 860) (by decide +kernel), List.forall_mem_cons.mpr ⟨List.mem_of_getElem? (i := 862) (by decide +kernel), List.forall_mem_cons.mpr ⟨List.mem_of_getElem? (i := 864) (by decide +kernel), List.forall_mem_cons.mpr ⟨List.mem_of_getElem? (i := 866) (by decide +kernel), List.forall_mem_cons.mpr ⟨List.mem_of_getElem? (i := 868) (by decide +kernel), List.forall_mem_cons.mpr ⟨List.mem_of_getElem? (i := 870) (by decide +kernel), List.forall_mem_cons.mpr ⟨List.mem_of_getElem? (i := 872) (by decide +kernel), List.forall_mem_cons.mpr ⟨List.mem_of_getElem? (i := 874) (by decide +kernel), List.forall_mem_cons.mpr ⟨List.mem_of_getElem? (i := 876) (by decide +kernel), List.forall_mem_cons.mpr ⟨List.mem_of_getElem? (i := 878) (by decide +kernel), List.forall_mem_cons.mpr ⟨List.mem_of_getElem? (i := 880) (by decide +kernel), List.forall_mem_cons.mpr ⟨List.mem_of_getElem? (i := 882) (by decide +kernel), List.forall_mem_cons.mpr ⟨List.mem_of_getElem? (i := 884) (by decide +kernel), List.forall_mem_cons.mpr ⟨List.mem_of_getElem? (i := 886) (by decide +kernel), List.forall_mem_cons.mpr ⟨List.mem_of_getElem? (i := 888) (by decide +kernel), List.forall_mem_cons.mpr ⟨List.mem_of_getElem? (i := 890) (by decide +kernel), fun _ h => absurd h List.not_mem_nil⟩⟩⟩⟩⟩⟩⟩⟩⟩⟩⟩⟩⟩⟩⟩⟩⟩⟩⟩⟩⟩⟩⟩⟩⟩⟩⟩⟩⟩⟩⟩⟩
theorem zarr_i : Jvm.Cond.arrayClass .int ∈ lw_tbl := List.mem_of_getElem? (i := 102) (by decide +kernel)
theorem zarr_z : Jvm.Cond.arrayClass .boolean ∈ lw_tbl := List.mem_of_getElem? (i := 893) (by decide +kernel)
theorem zobj_i : Jvm.Cond.instanceMethod objectInit ∈ lw_tbl := List.mem_of_getElem? (i := 81) (by decide +kernel)
theorem zobj_c : Jvm.Cond.code objectInit ⟨#[0xb1]⟩ 1 none ∈ lw_tbl := List.mem_of_getElem? (i := 82) (by decide +kernel)
theorem zac_n : Jvm.Cond.native arraycopyName ∈ lw_tbl := List.mem_of_getElem? (i := 472) (by decide +kernel)
theorem zac_s : Jvm.Cond.static arraycopyName ∈ lw_tbl := List.mem_of_getElem? (i := 471) (by decide +kernel)
theorem zac_i : Jvm.Cond.initialized "java/lang/System" ∈ lw_tbl := List.mem_of_getElem? (i := 73) (by decide +kernel)
theorem zmt_as : Jvm.Cond.static Lib.Math.max.name ∈ lw_tbl := List.mem_of_getElem? (i := 96) (by decide +kernel)
theorem zmt_ac : Jvm.Cond.code Lib.Math.max.name Lib.Math.max.code 2 (some .int) ∈ lw_tbl := List.mem_of_getElem? (i := 97) (by decide +kernel)
theorem zmt_bs : Jvm.Cond.static Lib.Math.min.name ∈ lw_tbl := List.mem_of_getElem? (i := 617) (by decide +kernel)
theorem zmt_bc : Jvm.Cond.code Lib.Math.min.name Lib.Math.min.code 2 (some .int) ∈ lw_tbl := List.mem_of_getElem? (i := 618) (by decide +kernel)
theorem zmt_cs : Jvm.Cond.static Lib.MathLoose.max_long.x ∈ lw_tbl := List.mem_of_getElem? (i := 746) (by decide +kernel)
theorem zmt_cc : Jvm.Cond.code Lib.MathLoose.max_long.x Lib.MathLoose.max_long.code 4 (some .long) ∈ lw_tbl := List.mem_of_getElem? (i := 747) (by decide +kernel)
theorem zmt_i : Jvm.Cond.initialized "java/lang/Math" ∈ lw_tbl := List.mem_of_getElem? (i := 61) (by decide +kernel)
