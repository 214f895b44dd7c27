theorem zall_cut {α : Type} (f : α → Bool) (l : List α) (n : Nat) (h1 : (l.take n).all f = true) (h2 : (l.drop n).all f = true) : l.all f = true := by
  rw [← List.take_append_drop n l, List.all_append, h1, h2]
  rfl
theorem zol_0 : ((zc_231.drop 0).take 60).all (zokE zm_231) = true := by decide +kernel
theorem zol_1 : ((zc_231.drop 60).take 60).all (zokE zm_231) = true := by decide +kernel
theorem zol_2 : ((zc_231.drop 120).take 60).all (zokE zm_231) = true := by decide +kernel
theorem zol_3 : ((zc_231.drop 180).take 60).all (zokE zm_231) = true := by decide +kernel
theorem zol_4 : ((zc_231.drop 240).take 60).all (zokE zm_231) = true := by decide +kernel
theorem zol_5 : ((zc_231.drop 300).take 60).all (zokE zm_231) = true := by decide +kernel
theorem zol_6 : ((zc_231.drop 360).take 60).all (zokE zm_231) = true := by decide +kernel
theorem zol_7 : ((zc_231.drop 420).take 60).all (zokE zm_231) = true := by decide +kernel
theorem zol_8 : ((zc_231.drop 480).take 60).all (zokE zm_231) = true := by decide +kernel
theorem zol_9 : ((zc_231.drop 540).take 60).all (zokE zm_231) = true := by decide +kernel
theorem zol_10 : ((zc_231.drop 600).take 60).all (zokE zm_231) = true := by decide +kernel
theorem zol_11 : ((zc_231.drop 660).take 60).all (zokE zm_231) = true := by decide +kernel
theorem zol_12 : ((zc_231.drop 720).take 60).all (zokE zm_231) = true := by decide +kernel
theorem zol_13 : ((zc_231.drop 780).take 60).all (zokE zm_231) = true := by decide +kernel
theorem zol_14 : ((zc_231.drop 840).take 60).all (zokE zm_231) = true := by decide +kernel
theorem zol_15 : ((zc_231.drop 900).take 60).all (zokE zm_231) = true := by decide +kernel
theorem zolE : (zc_231.drop 960).all (zokE zm_231) = true := by decide +kernel
theorem zor_15 : (zc_231.drop 900).all (zokE zm_231) = true := zall_cut _ _ 60 zol_15 (by rw [List.drop_drop]; exact zolE)
theorem zor_14 : (zc_231.drop 840).all (zokE zm_231) = true := zall_cut _ _ 60 zol_14 (by rw [List.drop_drop]; exact zor_15)
theorem zor_13 : (zc_231.drop 780).all (zokE zm_231) = true := zall_cut _ _ 60 zol_13 (by rw [List.drop_drop]; exact zor_14)
theorem zor_12 : (zc_231.drop 720).all (zokE zm_231) = true := zall_cut _ _ 60 zol_12 (by rw [List.drop_drop]; exact zor_13)
theorem zor_11 : (zc_231.drop 660).all (zokE zm_231) = true := zall_cut _ _ 60 zol_11 (by rw [List.drop_drop]; exact zor_12)
theorem zor_10 : (zc_231.drop 600).all (zokE zm_231) = true := zall_cut _ _ 60 zol_10 (by rw [List.drop_drop]; exact zor_11)
theorem zor_9 : (zc_231.drop 540).all (zokE zm_231) = true := zall_cut _ _ 60 zol_9 (by rw [List.drop_drop]; exact zor_10)
theorem zor_8 : (zc_231.drop 480).all (zokE zm_231) = true := zall_cut _ _ 60 zol_8 (by rw [List.drop_drop]; exact zor_9)
theorem zor_7 : (zc_231.drop 420).all (zokE zm_231) = true := zall_cut _ _ 60 zol_7 (by rw [List.drop_drop]; exact zor_8)
theorem zor_6 : (zc_231.drop 360).all (zokE zm_231) = true := zall_cut _ _ 60 zol_6 (by rw [List.drop_drop]; exact zor_7)
theorem zor_5 : (zc_231.drop 300).all (zokE zm_231) = true := zall_cut _ _ 60 zol_5 (by rw [List.drop_drop]; exact zor_6)
theorem zor_4 : (zc_231.drop 240).all (zokE zm_231) = true := zall_cut _ _ 60 zol_4 (by rw [List.drop_drop]; exact zor_5)
theorem zor_3 : (zc_231.drop 180).all (zokE zm_231) = true := zall_cut _ _ 60 zol_3 (by rw [List.drop_drop]; exact zor_4)
theorem zor_2 : (zc_231.drop 120).all (zokE zm_231) = true := zall_cut _ _ 60 zol_2 (by rw [List.drop_drop]; exact zor_3)
theorem zor_1 : (zc_231.drop 60).all (zokE zm_231) = true := zall_cut _ _ 60 zol_1 (by rw [List.drop_drop]; exact zor_2)
theorem zo_231 : zc_231.all (zokE zm_231) = true := zall_cut _ _ 60 zol_0 zor_1
theorem zcode_ok : zCode
  | 0, q, h => by cases h; exact zo_0
  | 1, q, h => by cases h; exact zo_1
  | 2, q, h => by cases h; exact zo_2
  | 3, q, h => by cases h; exact zo_3
  | 4, q, h => by cases h; exact zo_4
  | 5, q, h => by cases h; exact zo_5
  | 6, q, h => by cases h; exact zo_6
  | 7, q, h => by cases h; exact zo_7
  | 8, q, h => by cases h; exact zo_8
  | 9, q, h => by cases h; exact zo_9
  | 10, q, h => by cases h; exact zo_10
  | 11, q, h => by cases h; exact zo_11
  | 12, q, h => by cases h; exact zo_12
  | 13, q, h => by cases h; exact zo_13
  | 14, q, h => by cases h; exact zo_14
  | 15, q, h => by cases h; exact zo_15
  | 16, q, h => by cases h; exact zo_16
  | 17, q, h => by cases h; exact zo_17
  | 18, q, h => by cases h; exact zo_18
  | 19, q, h => by cases h; exact zo_19
  | 20, q, h => by cases h; exact zo_20
  | 21, q, h => by cases h; exact zo_21
  | 22, q, h => by cases h; exact zo_22
  | 23, q, h => by cases h; exact zo_23
  | 24, q, h => by cases h; exact zo_24
  | 25, q, h => by cases h; exact zo_25
  | 26, q, h => by cases h; exact zo_26
  | 27, q, h => by cases h; exact zo_27
  | 28, q, h => by cases h; exact zo_28
  | 29, q, h => by cases h; exact zo_29
  | 30, q, h => by cases h; exact zo_30
  | 31, q, h => by cases h; exact zo_31
  | 32, q, h => by cases h; exact zo_32
  | 33, q, h => by cases h; exact zo_33
  | 34, q, h => by cases h; exact zo_34
  | 35, q, h => by cases h; exact zo_35
  | 36, q, h => by cases h; exact zo_36
  | 37, q, h => by cases h; exact zo_37
  | 38, q, h => by cases h; exact zo_38
  | 39, q, h => by cases h; exact zo_39
  | 40, q, h => by cases h; exact zo_40
  | 41, q, h => by cases h; exact zo_41
  | 42, q, h => by cases h; exact zo_42
  | 43, q, h => by cases h; exact zo_43
  | 44, q, h => by cases h; exact zo_44
  | 45, q, h => by cases h; exact zo_45
  | 46, q, h => by cases h; exact zo_46
  | 47, q, h => by cases h; exact zo_47
  | 48, q, h => by cases h; exact zo_48
  | 49, q, h => by cases h; exact zo_49
  | 50, q, h => by cases h; exact zo_50
  | 51, q, h => by cases h; exact zo_51
  | 52, q, h => by cases h; exact zo_52
  | 53, q, h => by cases h; exact zo_53
  | 54, q, h => by cases h; exact zo_54
  | 55, q, h => by cases h; exact zo_55
  | 56, q, h => by cases h; exact zo_56
  | 57, q, h => by cases h; exact zo_57
  | 58, q, h => by cases h; exact zo_58
  | 59, q, h => by cases h; exact zo_59
  | 60, q, h => by cases h; exact zo_60
  | 61, q, h => by cases h; exact zo_61
  | 62, q, h => by cases h; exact zo_62
  | 63, q, h => by cases h; exact zo_63
  | 64, q, h => by cases h; exact zo_64
  | 65, q, h => by cases h; exact zo_65
  | 66, q, h => by cases h; exact zo_66
  | 67, q, h => by cases h; exact zo_67
  | 68, q, h => by cases h; exact zo_68
  | 69, q, h => by cases h; exact zo_69
  | 70, q, h => by cases h; exact zo_70
  | 71, q, h => by cases h; exact zo_71
  | 72, q, h => by cases h; exact zo_72
  | 73, q, h => by cases h; exact zo_73
  | 74, q, h => by cases h; exact zo_74
  | 75, q, h => by cases h; exact zo_75
  | 76, q, h => by cases h; exact zo_76
  | 77, q, h => by cases h; exact zo_77
  | 78, q, h => by cases h; exact zo_78
  | 79, q, h => by cases h; exact zo_79
  | 80, q, h => by cases h; exact zo_80
  | 81, q, h => by cases h; exact zo_81
  | 82, q, h => by cases h; exact zo_82
  | 83, q, h => by cases h; exact zo_83
  | 84, q, h => by cases h; exact zo_84
  | 85, q, h => by cases h; exact zo_85
  | 86, q, h => by cases h; exact zo_86
  | 87, q, h => by cases h; exact zo_87
  | 88, q, h => by cases h; exact zo_88
  | 89, q, h => by cases h; exact zo_89
  | 90, q, h => by cases h; exact zo_90
  | 91, q, h => by cases h; exact zo_91
  | 92, q, h => by cases h; exact zo_92
  | 93, q, h => by cases h; exact zo_93
  | 94, q, h => by cases h; exact zo_94
  | 95, q, h => by cases h; exact zo_95
  | 96, q, h => by cases h; exact zo_96
  | 97, q, h => by cases h; exact zo_97
  | 98, q, h => by cases h; exact zo_98
  | 99, q, h => by cases h; exact zo_99
  | 100, q, h => by cases h; exact zo_100
  | 101, q, h => by cases h; exact zo_101
  | 102, q, h => by cases h; exact zo_102
  | 103, q, h => by cases h; exact zo_103
  | 104, q, h => by cases h; exact zo_104
  | 105, q, h => by cases h; exact zo_105
  | 106, q, h => by cases h; exact zo_106
  | 107, q, h => by cases h; exact zo_107
  | 108, q, h => by cases h; exact zo_108
  | 109, q, h => by cases h; exact zo_109
  | 110, q, h => by cases h; exact zo_110
  | 111, q, h => by cases h; exact zo_111
  | 112, q, h => by cases h; exact zo_112
  | 113, q, h => by cases h; exact zo_113
  | 114, q, h => by cases h; exact zo_114
  | 115, q, h => by cases h; exact zo_115
  | 116, q, h => by cases h; exact zo_116
  | 117, q, h => by cases h; exact zo_117
  | 118, q, h => by cases h; exact zo_118
  | 119, q, h => by cases h; exact zo_119
  | 120, q, h => by cases h; exact zo_120
  | 121, q, h => by cases h; exact zo_121
  | 122, q, h => by cases h; exact zo_122
  | 123, q, h => by cases h; exact zo_123
  | 124, q, h => by cases h; exact zo_124
  | 125, q, h => by cases h; exact zo_125
  | 126, q, h => by cases h; exact zo_126
  | 127, q, h => by cases h; exact zo_127
  | 128, q, h => by cases h; exact zo_128
  | 129, q, h => by cases h; exact zo_129
  | 130, q, h => by cases h; exact zo_130
  | 131, q, h => by cases h; exact zo_131
  | 132, q, h => by cases h; exact zo_132
  | 133, q, h => by cases h; exact zo_133
  | 134, q, h => by cases h; exact zo_134
  | 135, q, h => by cases h; exact zo_135
  | 136, q, h => by cases h; exact zo_136
  | 137, q, h => by cases h; exact zo_137
  | 138, q, h => by cases h; exact zo_138
  | 139, q, h => by cases h; exact zo_139
  | 140, q, h => by cases h; exact zo_140
  | 141, q, h => by cases h; exact zo_141
  | 142, q, h => by cases h; exact zo_142
  | 143, q, h => by cases h; exact zo_143
  | 144, q, h => by cases h; exact zo_144
  | 145, q, h => by cases h; exact zo_145
  | 146, q, h => by cases h; exact zo_146
  | 147, q, h => by cases h; exact zo_147
  | 148, q, h => by cases h; exact zo_148
  | 149, q, h => by cases h; exact zo_149
  | 150, q, h => by cases h; exact zo_150
  | 151, q, h => by cases h; exact zo_151
  | 152, q, h => by cases h; exact zo_152
  | 153, q, h => by cases h; exact zo_153
  | 154, q, h => by cases h; exact zo_154
  | 155, q, h => by cases h; exact zo_155
  | 156, q, h => by cases h; exact zo_156
  | 157, q, h => by cases h; exact zo_157
  | 158, q, h => by cases h; exact zo_158
  | 159, q, h => by cases h; exact zo_159
  | 160, q, h => by cases h; exact zo_160
  | 161, q, h => by cases h; exact zo_161
  | 162, q, h => by cases h; exact zo_162
  | 163, q, h => by cases h; exact zo_163
  | 164, q, h => by cases h; exact zo_164
  | 165, q, h => by cases h; exact zo_165
  | 166, q, h => by cases h; exact zo_166
  | 167, q, h => by cases h; exact zo_167
  | 168, q, h => by cases h; exact zo_168
  | 169, q, h => by cases h; exact zo_169
  | 170, q, h => by cases h; exact zo_170
  | 171, q, h => by cases h; exact zo_171
  | 172, q, h => by cases h; exact zo_172
  | 173, q, h => by cases h; exact zo_173
  | 174, q, h => by cases h; exact zo_174
  | 175, q, h => by cases h; exact zo_175
  | 176, q, h => by cases h; exact zo_176
  | 177, q, h => by cases h; exact zo_177
  | 178, q, h => by cases h; exact zo_178
  | 179, q, h => by cases h; exact zo_179
  | 180, q, h => by cases h; exact zo_180
  | 181, q, h => by cases h; exact zo_181
  | 182, q, h => by cases h; exact zo_182
  | 183, q, h => by cases h; exact zo_183
  | 184, q, h => by cases h; exact zo_184
  | 185, q, h => by cases h; exact zo_185
  | 186, q, h => by cases h; exact zo_186
  | 187, q, h => by cases h; exact zo_187
  | 188, q, h => by cases h; exact zo_188
  | 189, q, h => by cases h; exact zo_189
  | 190, q, h => by cases h; exact zo_190
  | 191, q, h => by cases h; exact zo_191
  | 192, q, h => by cases h; exact zo_192
  | 193, q, h => by cases h; exact zo_193
  | 194, q, h => by cases h; exact zo_194
  | 195, q, h => by cases h; exact zo_195
  | 196, q, h => by cases h; exact zo_196
  | 197, q, h => by cases h; exact zo_197
  | 198, q, h => by cases h; exact zo_198
  | 199, q, h => by cases h; exact zo_199
  | 200, q, h => by cases h; exact zo_200
  | 201, q, h => by cases h; exact zo_201
  | 202, q, h => by cases h; exact zo_202
  | 203, q, h => by cases h; exact zo_203
  | 204, q, h => by cases h; exact zo_204
  | 205, q, h => by cases h; exact zo_205
  | 206, q, h => by cases h; exact zo_206
  | 207, q, h => by cases h; exact zo_207
  | 208, q, h => by cases h; exact zo_208
  | 209, q, h => by cases h; exact zo_209
  | 210, q, h => by cases h; exact zo_210
  | 211, q, h => by cases h; exact zo_211
  | 212, q, h => by cases h; exact zo_212
  | 213, q, h => by cases h; exact zo_213
  | 214, q, h => by cases h; exact zo_214
  | 215, q, h => by cases h; exact zo_215
  | 216, q, h => by cases h; exact zo_216
  | 217, q, h => by cases h; exact zo_217
  | 218, q, h => by cases h; exact zo_218
  | 219, q, h => by cases h; exact zo_219
  | 220, q, h => by cases h; exact zo_220
  | 221, q, h => by cases h; exact zo_221
  | 222, q, h => by cases h; exact zo_222
  | 223, q, h => by cases h; exact zo_223
  | 224, q, h => by cases h; exact zo_224
  | 225, q, h => by cases h; exact zo_225
  | 226, q, h => by cases h; exact zo_226
  | 227, q, h => by cases h; exact zo_227
  | 228, q, h => by cases h; exact zo_228
  | 229, q, h => by cases h; exact zo_229
  | 230, q, h => by cases h; exact zo_230
  | 231, q, h => by cases h; exact zo_231
  | 232, q, h => by cases h; exact zo_232
  | 233, q, h => by cases h; exact zo_233
  | n + 234, q, h => by rw [List.getElem?_eq_none (by have : zmeth.length = 234 := rfl; omega)] at h; cases h
