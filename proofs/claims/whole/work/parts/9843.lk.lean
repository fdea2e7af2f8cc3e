theorem z_ui_0 : ∀ w ∈ u_ws (z_C 0) (z_T 0) (z_N 0), w ∈ lw_tbl := by
  have h : u_ws (z_C 0) (z_T 0) (z_N 0) = ([365, 367, 369, 371, 373, 375, 377, 379, 381, 383, 385, 387] : List Nat).filterMap (fun i : Nat => lw_tbl[i]?) := by decide +kernel
  intro w hw
  rw [h] at hw
  obtain ⟨i, -, hi⟩ := List.mem_filterMap.mp hw
  exact List.mem_of_getElem? hi
theorem z_ui_1 : ∀ w ∈ u_ws (z_C 1) (z_T 1) (z_N 1), w ∈ lw_tbl := by
  have h : u_ws (z_C 1) (z_T 1) (z_N 1) = ([300, 302, 304, 306, 308, 310, 312] : List Nat).filterMap (fun i : Nat => lw_tbl[i]?) := by decide +kernel
  intro w hw
  rw [h] at hw
  obtain ⟨i, -, hi⟩ := List.mem_filterMap.mp hw
  exact List.mem_of_getElem? hi
theorem z_ui_2 : ∀ w ∈ u_ws (z_C 2) (z_T 2) (z_N 2), w ∈ lw_tbl := by
  have h : u_ws (z_C 2) (z_T 2) (z_N 2) = ([241, 243, 245, 247, 249, 251, 253, 255, 257, 259, 261, 263, 265, 267, 269, 271] : List Nat).filterMap (fun i : Nat => lw_tbl[i]?) := by decide +kernel
  intro w hw
  rw [h] at hw
  obtain ⟨i, -, hi⟩ := List.mem_filterMap.mp hw
  exact List.mem_of_getElem? hi
theorem z_ui_3 : ∀ w ∈ u_ws (z_C 3) (z_T 3) (z_N 3), w ∈ lw_tbl := by
  have h : u_ws (z_C 3) (z_T 3) (z_N 3) = ([160, 162, 164, 166, 168, 170, 172, 174, 176, 178] : List Nat).filterMap (fun i : Nat => lw_tbl[i]?) := by decide +kernel
  intro w hw
  rw [h] at hw
  obtain ⟨i, -, hi⟩ := List.mem_filterMap.mp hw
  exact List.mem_of_getElem? hi
theorem z_ui_4 : ∀ w ∈ u_ws (z_C 4) (z_T 4) (z_N 4), w ∈ lw_tbl := by
  have h : u_ws (z_C 4) (z_T 4) (z_N 4) = ([332, 334, 336, 338, 340, 342] : List Nat).filterMap (fun i : Nat => lw_tbl[i]?) := by decide +kernel
  intro w hw
  rw [h] at hw
  obtain ⟨i, -, hi⟩ := List.mem_filterMap.mp hw
  exact List.mem_of_getElem? hi
theorem z_ui_5 : ∀ w ∈ u_ws (z_C 5) (z_T 5) (z_N 5), w ∈ lw_tbl := by
  have h : u_ws (z_C 5) (z_T 5) (z_N 5) = ([408, 410, 412, 414, 416, 418, 420, 422, 424, 426, 428, 430, 432, 434, 436, 438, 440] : List Nat).filterMap (fun i : Nat => lw_tbl[i]?) := by decide +kernel
  intro w hw
  rw [h] at hw
  obtain ⟨i, -, hi⟩ := List.mem_filterMap.mp hw
  exact List.mem_of_getElem? hi
theorem z_ui_6 : ∀ w ∈ u_ws (z_C 6) (z_T 6) (z_N 6), w ∈ lw_tbl := by
  have h : u_ws (z_C 6) (z_T 6) (z_N 6) = ([1246, 1248, 1250, 1252, 1254, 1256, 1258, 1260, 1262, 1264, 1266, 1268, 1270, 1272, 1274, 1276, 1278, 1280, 1282, 1284, 1286, 1288, 1290, 1292, 1294, 1296, 1298] : List Nat).filterMap (fun i : Nat => lw_tbl[i]?) := by decide +kernel
  intro w hw
  rw [h] at hw
  obtain ⟨i, -, hi⟩ := List.mem_filterMap.mp hw
  exact List.mem_of_getElem? hi
theorem z_xs_00 : ∀ w ∈ (vx_atS RX5 98 "java/lang/IndexOutOfBoundsException" ["java/lang/RuntimeException", "java/lang/Exception"]).filter goodWord, w ∈ lw_tbl := by decide +kernel
theorem z_xs_10 : ((vx_atS RX5 98 "java/lang/IndexOutOfBoundsException" ["java/lang/RuntimeException", "java/lang/Exception"]).filter (fun w => !goodWord w)).all (fun w => z_xw.any (fun x => decide (x = w))) = true := by decide +kernel
theorem z_xs_20 : (vx_atS RX5 98 "java/lang/IndexOutOfBoundsException" ["java/lang/RuntimeException", "java/lang/Exception"]).all vx_ot = true := by decide +kernel
theorem z_xs_30 : Bundle.fit "java/lang/IndexOutOfBoundsException" = true := by decide +kernel
theorem z_xs_01 : ∀ w ∈ (vx_atS RX5 117 "java/lang/IllegalArgumentException" ["java/lang/RuntimeException", "java/lang/Exception"]).filter goodWord, w ∈ lw_tbl := by decide +kernel
theorem z_xs_11 : ((vx_atS RX5 117 "java/lang/IllegalArgumentException" ["java/lang/RuntimeException", "java/lang/Exception"]).filter (fun w => !goodWord w)).all (fun w => z_xw.any (fun x => decide (x = w))) = true := by decide +kernel
theorem z_xs_21 : (vx_atS RX5 117 "java/lang/IllegalArgumentException" ["java/lang/RuntimeException", "java/lang/Exception"]).all vx_ot = true := by decide +kernel
theorem z_xs_31 : Bundle.fit "java/lang/IllegalArgumentException" = true := by decide +kernel
theorem z_xs_02 : ∀ w ∈ (vx_atS RX5 87 "java/lang/IllegalStateException" ["java/lang/RuntimeException", "java/lang/Exception"]).filter goodWord, w ∈ lw_tbl := by decide +kernel
theorem z_xs_12 : ((vx_atS RX5 87 "java/lang/IllegalStateException" ["java/lang/RuntimeException", "java/lang/Exception"]).filter (fun w => !goodWord w)).all (fun w => z_xw.any (fun x => decide (x = w))) = true := by decide +kernel
theorem z_xs_22 : (vx_atS RX5 87 "java/lang/IllegalStateException" ["java/lang/RuntimeException", "java/lang/Exception"]).all vx_ot = true := by decide +kernel
theorem z_xs_32 : Bundle.fit "java/lang/IllegalStateException" = true := by decide +kernel
theorem z_xs_03 : ∀ w ∈ (zx_at RX5 195 "java/util/NoSuchElementException" "java/lang/RuntimeException" ["java/lang/Exception"] 13 z_six13).filter goodWord, w ∈ lw_tbl := by decide +kernel
theorem z_xs_13 : ((zx_at RX5 195 "java/util/NoSuchElementException" "java/lang/RuntimeException" ["java/lang/Exception"] 13 z_six13).filter (fun w => !goodWord w)).all (fun w => z_xw.any (fun x => decide (x = w))) = true := by decide +kernel
theorem z_xs_23 : (zx_at RX5 195 "java/util/NoSuchElementException" "java/lang/RuntimeException" ["java/lang/Exception"] 13 z_six13).all vx_ot = true := by decide +kernel
theorem z_xs_33 : Bundle.fit "java/util/NoSuchElementException" = true := by decide +kernel
theorem z_xs_4 : ∀ n ∈ z_nms, Bundle.fit n = true := by decide +kernel
theorem z_xs_of {i : Nat} {E : String} {as : List Jvm.Cond} (ha : z_atx i = as) (hE : z_EX i = E) (h0 : ∀ w ∈ as.filter goodWord, w ∈ lw_tbl) (h1 : (as.filter (fun w => !goodWord w)).all (fun w => z_xw.any (fun x => decide (x = w))) = true) (h2 : as.all vx_ot = true) (h3 : Bundle.fit E = true) : (∀ w ∈ z_atx i, goodWord w = true → w ∈ z_wl) ∧ (∀ w ∈ z_atx i, goodWord w = false → w ∈ z_xw) ∧ (∀ w ∈ z_atx i, vx_ot w = true) ∧ Bundle.fit (z_EX i) = true ∧ (∀ n ∈ z_nms, Bundle.fit n = true) := by
  rw [ha, hE]
  refine ⟨fun w hw hg => ?_, fun w hw hg => ?_, fun w hw => List.all_eq_true.mp h2 w hw, h3, z_xs_4⟩
  · exact List.mem_filter.mpr ⟨h0 w (List.mem_filter.mpr ⟨hw, hg⟩), hg⟩
  · have := List.all_eq_true.mp h1 w (List.mem_filter.mpr ⟨hw, by simp [hg]⟩)
    rw [List.any_eq_true] at this
    obtain ⟨x, hx, he⟩ := this
    have : x = w := by simpa using he
    rw [← this]
    exact hx
theorem z_xs : z_XSy
  | 0, _ => z_xs_of (i := 0) rfl rfl z_xs_00 z_xs_10 z_xs_20 z_xs_30
  | 1, _ => z_xs_of (i := 1) rfl rfl z_xs_01 z_xs_11 z_xs_21 z_xs_31
  | 2, _ => z_xs_of (i := 2) rfl rfl z_xs_02 z_xs_12 z_xs_22 z_xs_32
  | 3, _ => z_xs_of (i := 3) rfl rfl z_xs_03 z_xs_13 z_xs_23 z_xs_33
  | n + 4, h => absurd h (by omega)
theorem zs_allm : ∀ m, m < 248 → z_all m = true
  | 0, _ => zs_0
  | 1, _ => zs_1
  | 2, _ => zs_2
  | 3, _ => zs_3
  | 4, _ => zs_4
  | 5, _ => zs_5
  | 6, _ => zs_6
  | 7, _ => zs_7
  | 8, _ => zs_8
  | 9, _ => zs_9
  | 10, _ => zs_10
  | 11, _ => zs_11
  | 12, _ => zs_12
  | 13, _ => zs_13
  | 14, _ => zs_14
  | 15, _ => zs_15
  | 16, _ => zs_16
  | 17, _ => zs_17
  | 18, _ => zs_18
  | 19, _ => zs_19
  | 20, _ => zs_20
  | 21, _ => zs_21
  | 22, _ => zs_22
  | 23, _ => zs_23
  | 24, _ => zs_24
  | 25, _ => zs_25
  | 26, _ => zs_26
  | 27, _ => zs_27
  | 28, _ => zs_28
  | 29, _ => zs_29
  | 30, _ => zs_30
  | 31, _ => zs_31
  | 32, _ => zs_32
  | 33, _ => zs_33
  | 34, _ => zs_34
  | 35, _ => zs_35
  | 36, _ => zs_36
  | 37, _ => zs_37
  | 38, _ => zs_38
  | 39, _ => zs_39
  | 40, _ => zs_40
  | 41, _ => zs_41
  | 42, _ => zs_42
  | 43, _ => zs_43
  | 44, _ => zs_44
  | 45, _ => zs_45
  | 46, _ => zs_46
  | 47, _ => zs_47
  | 48, _ => zs_48
  | 49, _ => zs_49
  | 50, _ => zs_50
  | 51, _ => zs_51
  | 52, _ => zs_52
  | 53, _ => zs_53
  | 54, _ => zs_54
  | 55, _ => zs_55
  | 56, _ => zs_56
  | 57, _ => zs_57
  | 58, _ => zs_58
  | 59, _ => zs_59
  | 60, _ => zs_60
  | 61, _ => zs_61
  | 62, _ => zs_62
  | 63, _ => zs_63
  | 64, _ => zs_64
  | 65, _ => zs_65
  | 66, _ => zs_66
  | 67, _ => zs_67
  | 68, _ => zs_68
  | 69, _ => zs_69
  | 70, _ => zs_70
  | 71, _ => zs_71
  | 72, _ => zs_72
  | 73, _ => zs_73
  | 74, _ => zs_74
  | 75, _ => zs_75
  | 76, _ => zs_76
  | 77, _ => zs_77
  | 78, _ => zs_78
  | 79, _ => zs_79
  | 80, _ => zs_80
  | 81, _ => zs_81
  | 82, _ => zs_82
  | 83, _ => zs_83
  | 84, _ => zs_84
  | 85, _ => zs_85
  | 86, _ => zs_86
  | 87, _ => zs_87
  | 88, _ => zs_88
  | 89, _ => zs_89
  | 90, _ => zs_90
  | 91, _ => zs_91
  | 92, _ => zs_92
  | 93, _ => zs_93
  | 94, _ => zs_94
  | 95, _ => zs_95
  | 96, _ => zs_96
  | 97, _ => zs_97
  | 98, _ => zs_98
  | 99, _ => zs_99
  | 100, _ => zs_100
  | 101, _ => zs_101
  | 102, _ => zs_102
  | 103, _ => zs_103
  | 104, _ => zs_104
  | 105, _ => zs_105
  | 106, _ => zs_106
  | 107, _ => zs_107
  | 108, _ => zs_108
  | 109, _ => zs_109
  | 110, _ => zs_110
  | 111, _ => zs_111
  | 112, _ => zs_112
  | 113, _ => zs_113
  | 114, _ => zs_114
  | 115, _ => zs_115
  | 116, _ => zs_116
  | 117, _ => zs_117
  | 118, _ => zs_118
  | 119, _ => zs_119
  | 120, _ => zs_120
  | 121, _ => zs_121
  | 122, _ => zs_122
  | 123, _ => zs_123
  | 124, _ => zs_124
  | 125, _ => zs_125
  | 126, _ => zs_126
  | 127, _ => zs_127
  | 128, _ => zs_128
  | 129, _ => zs_129
  | 130, _ => zs_130
  | 131, _ => zs_131
  | 132, _ => zs_132
  | 133, _ => zs_133
  | 134, _ => zs_134
  | 135, _ => zs_135
  | 136, _ => zs_136
  | 137, _ => zs_137
  | 138, _ => zs_138
  | 139, _ => zs_139
  | 140, _ => zs_140
  | 141, _ => zs_141
  | 142, _ => zs_142
  | 143, _ => zs_143
  | 144, _ => zs_144
  | 145, _ => zs_145
  | 146, _ => zs_146
  | 147, _ => zs_147
  | 148, _ => zs_148
  | 149, _ => zs_149
  | 150, _ => zs_150
  | 151, _ => zs_151
  | 152, _ => zs_152
  | 153, _ => zs_153
  | 154, _ => zs_154
  | 155, _ => zs_155
  | 156, _ => zs_156
  | 157, _ => zs_157
  | 158, _ => zs_158
  | 159, _ => zs_159
  | 160, _ => zs_160
  | 161, _ => zs_161
  | 162, _ => zs_162
  | 163, _ => zs_163
  | 164, _ => zs_164
  | 165, _ => zs_165
  | 166, _ => zs_166
  | 167, _ => zs_167
  | 168, _ => zs_168
  | 169, _ => zs_169
  | 170, _ => zs_170
  | 171, _ => zs_171
  | 172, _ => zs_172
  | 173, _ => zs_173
  | 174, _ => zs_174
  | 175, _ => zs_175
  | 176, _ => zs_176
  | 177, _ => zs_177
  | 178, _ => zs_178
  | 179, _ => zs_179
  | 180, _ => zs_180
  | 181, _ => zs_181
  | 182, _ => zs_182
  | 183, _ => zs_183
  | 184, _ => zs_184
  | 185, _ => zs_185
  | 186, _ => zs_186
  | 187, _ => zs_187
  | 188, _ => zs_188
  | 189, _ => zs_189
  | 190, _ => zs_190
  | 191, _ => zs_191
  | 192, _ => zs_192
  | 193, _ => zs_193
  | 194, _ => zs_194
  | 195, _ => zs_195
  | 196, _ => zs_196
  | 197, _ => zs_197
  | 198, _ => zs_198
  | 199, _ => zs_199
  | 200, _ => zs_200
  | 201, _ => zs_201
  | 202, _ => zs_202
  | 203, _ => zs_203
  | 204, _ => zs_204
  | 205, _ => zs_205
  | 206, _ => zs_206
  | 207, _ => zs_207
  | 208, _ => zs_208
  | 209, _ => zs_209
  | 210, _ => zs_210
  | 211, _ => zs_211
  | 212, _ => zs_212
  | 213, _ => zs_213
  | 214, _ => zs_214
  | 215, _ => zs_215
  | 216, _ => zs_216
  | 217, _ => zs_217
  | 218, _ => zs_218
  | 219, _ => zs_219
  | 220, _ => zs_220
  | 221, _ => zs_221
  | 222, _ => zs_222
  | 223, _ => zs_223
  | 224, _ => zs_224
  | 225, _ => zs_225
  | 226, _ => zs_226
  | 227, _ => zs_227
  | 228, _ => zs_228
  | 229, _ => zs_229
  | 230, _ => zs_230
  | 231, _ => zs_231
  | 232, _ => zs_232
  | 233, _ => zs_233
  | 234, _ => zs_234
  | 235, _ => zs_235
  | 236, _ => zs_236
  | 237, _ => zs_237
  | 238, _ => zs_238
  | 239, _ => zs_239
  | 240, _ => zs_240
  | 241, _ => zs_241
  | 242, _ => zs_242
  | 243, _ => zs_243
  | 244, _ => zs_244
  | 245, _ => zs_245
  | 246, _ => zs_246
  | 247, _ => zs_247
  | n + 248, h => absurd h (by omega)
theorem zp_one {ws : List Jvm.Cond} {ps : List Nat} (h : (ws = ps.filterMap (fun i : Nat => lw_tbl[i]?)) ∧ ws.all goodWord = true) : ∀ w ∈ ws, w ∈ z_wl := by
  intro w hw
  have h1 := List.all_eq_true.mp h.2 w hw
  rw [h.1] at hw
  obtain ⟨i, -, hi⟩ := List.mem_filterMap.mp hw
  exact List.mem_filter.mpr ⟨List.mem_of_getElem? hi, h1⟩
theorem zp_allm : ∀ m, m < 248 → ∀ w ∈ z_wds m, w ∈ z_wl
  | 0, _ => zp_one zp_0
  | 1, _ => zp_one zp_1
  | 2, _ => zp_one zp_2
  | 3, _ => zp_one zp_3
  | 4, _ => zp_one zp_4
  | 5, _ => zp_one zp_5
  | 6, _ => zp_one zp_6
  | 7, _ => zp_one zp_7
  | 8, _ => zp_one zp_8
  | 9, _ => zp_one zp_9
  | 10, _ => zp_one zp_10
  | 11, _ => zp_one zp_11
  | 12, _ => zp_one zp_12
  | 13, _ => zp_one zp_13
  | 14, _ => zp_one zp_14
  | 15, _ => zp_one zp_15
  | 16, _ => zp_one zp_16
  | 17, _ => zp_one zp_17
  | 18, _ => zp_one zp_18
  | 19, _ => zp_one zp_19
  | 20, _ => zp_one zp_20
  | 21, _ => zp_one zp_21
  | 22, _ => zp_one zp_22
  | 23, _ => zp_one zp_23
  | 24, _ => zp_one zp_24
  | 25, _ => zp_one zp_25
  | 26, _ => zp_one zp_26
  | 27, _ => zp_one zp_27
  | 28, _ => zp_one zp_28
  | 29, _ => zp_one zp_29
  | 30, _ => zp_one zp_30
  | 31, _ => zp_one zp_31
  | 32, _ => zp_one zp_32
  | 33, _ => zp_one zp_33
  | 34, _ => zp_one zp_34
  | 35, _ => zp_one zp_35
  | 36, _ => zp_one zp_36
  | 37, _ => zp_one zp_37
  | 38, _ => zp_one zp_38
  | 39, _ => zp_one zp_39
  | 40, _ => zp_one zp_40
  | 41, _ => zp_one zp_41
  | 42, _ => zp_one zp_42
  | 43, _ => zp_one zp_43
  | 44, _ => zp_one zp_44
  | 45, _ => zp_one zp_45
  | 46, _ => zp_one zp_46
  | 47, _ => zp_one zp_47
  | 48, _ => zp_one zp_48
  | 49, _ => zp_one zp_49
  | 50, _ => zp_one zp_50
  | 51, _ => zp_one zp_51
  | 52, _ => zp_one zp_52
  | 53, _ => zp_one zp_53
  | 54, _ => zp_one zp_54
  | 55, _ => zp_one zp_55
  | 56, _ => zp_one zp_56
  | 57, _ => zp_one zp_57
  | 58, _ => zp_one zp_58
  | 59, _ => zp_one zp_59
  | 60, _ => zp_one zp_60
  | 61, _ => zp_one zp_61
  | 62, _ => zp_one zp_62
  | 63, _ => zp_one zp_63
  | 64, _ => zp_one zp_64
  | 65, _ => zp_one zp_65
  | 66, _ => zp_one zp_66
  | 67, _ => zp_one zp_67
  | 68, _ => zp_one zp_68
  | 69, _ => zp_one zp_69
  | 70, _ => zp_one zp_70
  | 71, _ => zp_one zp_71
  | 72, _ => zp_one zp_72
  | 73, _ => zp_one zp_73
  | 74, _ => zp_one zp_74
  | 75, _ => zp_one zp_75
  | 76, _ => zp_one zp_76
  | 77, _ => zp_one zp_77
  | 78, _ => zp_one zp_78
  | 79, _ => zp_one zp_79
  | 80, _ => zp_one zp_80
  | 81, _ => zp_one zp_81
  | 82, _ => zp_one zp_82
  | 83, _ => zp_one zp_83
  | 84, _ => zp_one zp_84
  | 85, _ => zp_one zp_85
  | 86, _ => zp_one zp_86
  | 87, _ => zp_one zp_87
  | 88, _ => zp_one zp_88
  | 89, _ => zp_one zp_89
  | 90, _ => zp_one zp_90
  | 91, _ => zp_one zp_91
  | 92, _ => zp_one zp_92
  | 93, _ => zp_one zp_93
  | 94, _ => zp_one zp_94
  | 95, _ => zp_one zp_95
  | 96, _ => zp_one zp_96
  | 97, _ => zp_one zp_97
  | 98, _ => zp_one zp_98
  | 99, _ => zp_one zp_99
  | 100, _ => zp_one zp_100
  | 101, _ => zp_one zp_101
  | 102, _ => zp_one zp_102
  | 103, _ => zp_one zp_103
  | 104, _ => zp_one zp_104
  | 105, _ => zp_one zp_105
  | 106, _ => zp_one zp_106
  | 107, _ => zp_one zp_107
  | 108, _ => zp_one zp_108
  | 109, _ => zp_one zp_109
  | 110, _ => zp_one zp_110
  | 111, _ => zp_one zp_111
  | 112, _ => zp_one zp_112
  | 113, _ => zp_one zp_113
  | 114, _ => zp_one zp_114
  | 115, _ => zp_one zp_115
  | 116, _ => zp_one zp_116
  | 117, _ => zp_one zp_117
  | 118, _ => zp_one zp_118
  | 119, _ => zp_one zp_119
  | 120, _ => zp_one zp_120
  | 121, _ => zp_one zp_121
  | 122, _ => zp_one zp_122
  | 123, _ => zp_one zp_123
  | 124, _ => zp_one zp_124
  | 125, _ => zp_one zp_125
  | 126, _ => zp_one zp_126
  | 127, _ => zp_one zp_127
  | 128, _ => zp_one zp_128
  | 129, _ => zp_one zp_129
  | 130, _ => zp_one zp_130
  | 131, _ => zp_one zp_131
  | 132, _ => zp_one zp_132
  | 133, _ => zp_one zp_133
  | 134, _ => zp_one zp_134
  | 135, _ => zp_one zp_135
  | 136, _ => zp_one zp_136
  | 137, _ => zp_one zp_137
  | 138, _ => zp_one zp_138
  | 139, _ => zp_one zp_139
  | 140, _ => zp_one zp_140
  | 141, _ => zp_one zp_141
  | 142, _ => zp_one zp_142
  | 143, _ => zp_one zp_143
  | 144, _ => zp_one zp_144
  | 145, _ => zp_one zp_145
  | 146, _ => zp_one zp_146
  | 147, _ => zp_one zp_147
  | 148, _ => zp_one zp_148
  | 149, _ => zp_one zp_149
  | 150, _ => zp_one zp_150
  | 151, _ => zp_one zp_151
  | 152, _ => zp_one zp_152
  | 153, _ => zp_one zp_153
  | 154, _ => zp_one zp_154
  | 155, _ => zp_one zp_155
  | 156, _ => zp_one zp_156
  | 157, _ => zp_one zp_157
  | 158, _ => zp_one zp_158
  | 159, _ => zp_one zp_159
  | 160, _ => zp_one zp_160
  | 161, _ => zp_one zp_161
  | 162, _ => zp_one zp_162
  | 163, _ => zp_one zp_163
  | 164, _ => zp_one zp_164
  | 165, _ => zp_one zp_165
  | 166, _ => zp_one zp_166
  | 167, _ => zp_one zp_167
  | 168, _ => zp_one zp_168
  | 169, _ => zp_one zp_169
  | 170, _ => zp_one zp_170
  | 171, _ => zp_one zp_171
  | 172, _ => zp_one zp_172
  | 173, _ => zp_one zp_173
  | 174, _ => zp_one zp_174
  | 175, _ => zp_one zp_175
  | 176, _ => zp_one zp_176
  | 177, _ => zp_one zp_177
  | 178, _ => zp_one zp_178
  | 179, _ => zp_one zp_179
  | 180, _ => zp_one zp_180
  | 181, _ => zp_one zp_181
  | 182, _ => zp_one zp_182
  | 183, _ => zp_one zp_183
  | 184, _ => zp_one zp_184
  | 185, _ => zp_one zp_185
  | 186, _ => zp_one zp_186
  | 187, _ => zp_one zp_187
  | 188, _ => zp_one zp_188
  | 189, _ => zp_one zp_189
  | 190, _ => zp_one zp_190
  | 191, _ => zp_one zp_191
  | 192, _ => zp_one zp_192
  | 193, _ => zp_one zp_193
  | 194, _ => zp_one zp_194
  | 195, _ => zp_one zp_195
  | 196, _ => zp_one zp_196
  | 197, _ => zp_one zp_197
  | 198, _ => zp_one zp_198
  | 199, _ => zp_one zp_199
  | 200, _ => zp_one zp_200
  | 201, _ => zp_one zp_201
  | 202, _ => zp_one zp_202
  | 203, _ => zp_one zp_203
  | 204, _ => zp_one zp_204
  | 205, _ => zp_one zp_205
  | 206, _ => zp_one zp_206
  | 207, _ => zp_one zp_207
  | 208, _ => zp_one zp_208
  | 209, _ => zp_one zp_209
  | 210, _ => zp_one zp_210
  | 211, _ => zp_one zp_211
  | 212, _ => zp_one zp_212
  | 213, _ => zp_one zp_213
  | 214, _ => zp_one zp_214
  | 215, _ => zp_one zp_215
  | 216, _ => zp_one zp_216
  | 217, _ => zp_one zp_217
  | 218, _ => zp_one zp_218
  | 219, _ => zp_one zp_219
  | 220, _ => zp_one zp_220
  | 221, _ => zp_one zp_221
  | 222, _ => zp_one zp_222
  | 223, _ => zp_one zp_223
  | 224, _ => zp_one zp_224
  | 225, _ => zp_one zp_225
  | 226, _ => zp_one zp_226
  | 227, _ => zp_one zp_227
  | 228, _ => zp_one zp_228
  | 229, _ => zp_one zp_229
  | 230, _ => zp_one zp_230
  | 231, _ => zp_one zp_231
  | 232, _ => zp_one zp_232
  | 233, _ => zp_one zp_233
  | 234, _ => zp_one zp_234
  | 235, _ => zp_one zp_235
  | 236, _ => zp_one zp_236
  | 237, _ => zp_one zp_237
  | 238, _ => zp_one zp_238
  | 239, _ => zp_one zp_239
  | 240, _ => zp_one zp_240
  | 241, _ => zp_one zp_241
  | 242, _ => zp_one zp_242
  | 243, _ => zp_one zp_243
  | 244, _ => zp_one zp_244
  | 245, _ => zp_one zp_245
  | 246, _ => zp_one zp_246
  | 247, _ => zp_one zp_247
  | n + 248, h => absurd h (by omega)
theorem zs_alll : ∀ m, m < 125 → z_allc 248 m = true
  | 0, _ => zs_law_0
  | 1, _ => zs_law_1
  | 2, _ => zs_law_2
  | 3, _ => zs_law_3
  | 4, _ => zs_law_4
  | 5, _ => zs_law_5
  | 6, _ => zs_law_6
  | 7, _ => zs_law_7
  | 8, _ => zs_law_8
  | 9, _ => zs_law_9
  | 10, _ => zs_law_10
  | 11, _ => zs_law_11
  | 12, _ => zs_law_12
  | 13, _ => zs_law_13
  | 14, _ => zs_law_14
  | 15, _ => zs_law_15
  | 16, _ => zs_law_16
  | 17, _ => zs_law_17
  | 18, _ => zs_law_18
  | 19, _ => zs_law_19
  | 20, _ => zs_law_20
  | 21, _ => zs_law_21
  | 22, _ => zs_law_22
  | 23, _ => zs_law_23
  | 24, _ => zs_law_24
  | 25, _ => zs_law_25
  | 26, _ => zs_law_26
  | 27, _ => zs_law_27
  | 28, _ => zs_law_28
  | 29, _ => zs_law_29
  | 30, _ => zs_law_30
  | 31, _ => zs_law_31
  | 32, _ => zs_law_32
  | 33, _ => zs_law_33
  | 34, _ => zs_law_34
  | 35, _ => zs_law_35
  | 36, _ => zs_law_36
  | 37, _ => zs_law_37
  | 38, _ => zs_law_38
  | 39, _ => zs_law_39
  | 40, _ => zs_law_40
  | 41, _ => zs_law_41
  | 42, _ => zs_law_42
  | 43, _ => zs_law_43
  | 44, _ => zs_law_44
  | 45, _ => zs_law_45
  | 46, _ => zs_law_46
  | 47, _ => zs_law_47
  | 48, _ => zs_law_48
  | 49, _ => zs_law_49
  | 50, _ => zs_law_50
  | 51, _ => zs_law_51
  | 52, _ => zs_law_52
  | 53, _ => zs_law_53
  | 54, _ => zs_law_54
  | 55, _ => zs_law_55
  | 56, _ => zs_law_56
  | 57, _ => zs_law_57
  | 58, _ => zs_law_58
  | 59, _ => zs_law_59
  | 60, _ => zs_law_60
  | 61, _ => zs_law_61
  | 62, _ => zs_law_62
  | 63, _ => zs_law_63
  | 64, _ => zs_law_64
  | 65, _ => zs_law_65
  | 66, _ => zs_law_66
  | 67, _ => zs_law_67
  | 68, _ => zs_law_68
  | 69, _ => zs_law_69
  | 70, _ => zs_law_70
  | 71, _ => zs_law_71
  | 72, _ => zs_law_72
  | 73, _ => zs_law_73
  | 74, _ => zs_law_74
  | 75, _ => zs_law_75
  | 76, _ => zs_law_76
  | 77, _ => zs_law_77
  | 78, _ => zs_law_78
  | 79, _ => zs_law_79
  | 80, _ => zs_law_80
  | 81, _ => zs_law_81
  | 82, _ => zs_law_82
  | 83, _ => zs_law_83
  | 84, _ => zs_law_84
  | 85, _ => zs_law_85
  | 86, _ => zs_law_86
  | 87, _ => zs_law_87
  | 88, _ => zs_law_88
  | 89, _ => zs_law_89
  | 90, _ => zs_law_90
  | 91, _ => zs_law_91
  | 92, _ => zs_law_92
  | 93, _ => zs_law_93
  | 94, _ => zs_law_94
  | 95, _ => zs_law_95
  | 96, _ => zs_law_96
  | 97, _ => zs_law_97
  | 98, _ => zs_law_98
  | 99, _ => zs_law_99
  | 100, _ => zs_law_100
  | 101, _ => zs_law_101
  | 102, _ => zs_law_102
  | 103, _ => zs_law_103
  | 104, _ => zs_law_104
  | 105, _ => zs_law_105
  | 106, _ => zs_law_106
  | 107, _ => zs_law_107
  | 108, _ => zs_law_108
  | 109, _ => zs_law_109
  | 110, _ => zs_law_110
  | 111, _ => zs_law_111
  | 112, _ => zs_law_112
  | 113, _ => zs_law_113
  | 114, _ => zs_law_114
  | 115, _ => zs_law_115
  | 116, _ => zs_law_116
  | 117, _ => zs_law_117
  | 118, _ => zs_law_118
  | 119, _ => zs_law_119
  | 120, _ => zs_law_120
  | 121, _ => zs_law_121
  | 122, _ => zs_law_122
  | 123, _ => zs_law_123
  | 124, _ => zs_law_124
  | n + 125, h => absurd h (by omega)
theorem zp_alll : ∀ m, m < 125 → ∀ w ∈ z_wdc 248 m, w ∈ z_wl
  | 0, _ => zp_one zp_law_0
  | 1, _ => zp_one zp_law_1
  | 2, _ => zp_one zp_law_2
  | 3, _ => zp_one zp_law_3
  | 4, _ => zp_one zp_law_4
  | 5, _ => zp_one zp_law_5
  | 6, _ => zp_one zp_law_6
  | 7, _ => zp_one zp_law_7
  | 8, _ => zp_one zp_law_8
  | 9, _ => zp_one zp_law_9
  | 10, _ => zp_one zp_law_10
  | 11, _ => zp_one zp_law_11
  | 12, _ => zp_one zp_law_12
  | 13, _ => zp_one zp_law_13
  | 14, _ => zp_one zp_law_14
  | 15, _ => zp_one zp_law_15
  | 16, _ => zp_one zp_law_16
  | 17, _ => zp_one zp_law_17
  | 18, _ => zp_one zp_law_18
  | 19, _ => zp_one zp_law_19
  | 20, _ => zp_one zp_law_20
  | 21, _ => zp_one zp_law_21
  | 22, _ => zp_one zp_law_22
  | 23, _ => zp_one zp_law_23
  | 24, _ => zp_one zp_law_24
  | 25, _ => zp_one zp_law_25
  | 26, _ => zp_one zp_law_26
  | 27, _ => zp_one zp_law_27
  | 28, _ => zp_one zp_law_28
  | 29, _ => zp_one zp_law_29
  | 30, _ => zp_one zp_law_30
  | 31, _ => zp_one zp_law_31
  | 32, _ => zp_one zp_law_32
  | 33, _ => zp_one zp_law_33
  | 34, _ => zp_one zp_law_34
  | 35, _ => zp_one zp_law_35
  | 36, _ => zp_one zp_law_36
  | 37, _ => zp_one zp_law_37
  | 38, _ => zp_one zp_law_38
  | 39, _ => zp_one zp_law_39
  | 40, _ => zp_one zp_law_40
  | 41, _ => zp_one zp_law_41
  | 42, _ => zp_one zp_law_42
  | 43, _ => zp_one zp_law_43
  | 44, _ => zp_one zp_law_44
  | 45, _ => zp_one zp_law_45
  | 46, _ => zp_one zp_law_46
  | 47, _ => zp_one zp_law_47
  | 48, _ => zp_one zp_law_48
  | 49, _ => zp_one zp_law_49
  | 50, _ => zp_one zp_law_50
  | 51, _ => zp_one zp_law_51
  | 52, _ => zp_one zp_law_52
  | 53, _ => zp_one zp_law_53
  | 54, _ => zp_one zp_law_54
  | 55, _ => zp_one zp_law_55
  | 56, _ => zp_one zp_law_56
  | 57, _ => zp_one zp_law_57
  | 58, _ => zp_one zp_law_58
  | 59, _ => zp_one zp_law_59
  | 60, _ => zp_one zp_law_60
  | 61, _ => zp_one zp_law_61
  | 62, _ => zp_one zp_law_62
  | 63, _ => zp_one zp_law_63
  | 64, _ => zp_one zp_law_64
  | 65, _ => zp_one zp_law_65
  | 66, _ => zp_one zp_law_66
  | 67, _ => zp_one zp_law_67
  | 68, _ => zp_one zp_law_68
  | 69, _ => zp_one zp_law_69
  | 70, _ => zp_one zp_law_70
  | 71, _ => zp_one zp_law_71
  | 72, _ => zp_one zp_law_72
  | 73, _ => zp_one zp_law_73
  | 74, _ => zp_one zp_law_74
  | 75, _ => zp_one zp_law_75
  | 76, _ => zp_one zp_law_76
  | 77, _ => zp_one zp_law_77
  | 78, _ => zp_one zp_law_78
  | 79, _ => zp_one zp_law_79
  | 80, _ => zp_one zp_law_80
  | 81, _ => zp_one zp_law_81
  | 82, _ => zp_one zp_law_82
  | 83, _ => zp_one zp_law_83
  | 84, _ => zp_one zp_law_84
  | 85, _ => zp_one zp_law_85
  | 86, _ => zp_one zp_law_86
  | 87, _ => zp_one zp_law_87
  | 88, _ => zp_one zp_law_88
  | 89, _ => zp_one zp_law_89
  | 90, _ => zp_one zp_law_90
  | 91, _ => zp_one zp_law_91
  | 92, _ => zp_one zp_law_92
  | 93, _ => zp_one zp_law_93
  | 94, _ => zp_one zp_law_94
  | 95, _ => zp_one zp_law_95
  | 96, _ => zp_one zp_law_96
  | 97, _ => zp_one zp_law_97
  | 98, _ => zp_one zp_law_98
  | 99, _ => zp_one zp_law_99
  | 100, _ => zp_one zp_law_100
  | 101, _ => zp_one zp_law_101
  | 102, _ => zp_one zp_law_102
  | 103, _ => zp_one zp_law_103
  | 104, _ => zp_one zp_law_104
  | 105, _ => zp_one zp_law_105
  | 106, _ => zp_one zp_law_106
  | 107, _ => zp_one zp_law_107
  | 108, _ => zp_one zp_law_108
  | 109, _ => zp_one zp_law_109
  | 110, _ => zp_one zp_law_110
  | 111, _ => zp_one zp_law_111
  | 112, _ => zp_one zp_law_112
  | 113, _ => zp_one zp_law_113
  | 114, _ => zp_one zp_law_114
  | 115, _ => zp_one zp_law_115
  | 116, _ => zp_one zp_law_116
  | 117, _ => zp_one zp_law_117
  | 118, _ => zp_one zp_law_118
  | 119, _ => zp_one zp_law_119
  | 120, _ => zp_one zp_law_120
  | 121, _ => zp_one zp_law_121
  | 122, _ => zp_one zp_law_122
  | 123, _ => zp_one zp_law_123
  | 124, _ => zp_one zp_law_124
  | n + 125, h => absurd h (by omega)
theorem z_zip {α : Type} {l : List α} {i : Nat} {x : α} (h : l[i]? = some x) : (x, i) ∈ l.zipIdx := by
  have h1 : l.zipIdx[i]? = some (x, i) := by
    rw [List.getElem?_zipIdx, h]
    simp
  exact List.mem_of_getElem? h1
theorem z_tab_len : (z_tab 248).length = 125 := by decide +kernel
theorem z_allc_of {m : Nat} (h : z_all m = true) (ch : Nat) : z_allc m ch = true := by
  by_cases hc : ch < (z_tab m).length
  · exact List.all_eq_true.mp h ch (List.mem_range.mpr hc)
  · unfold z_allc
    rw [List.getD_eq_getElem?_getD, List.getElem?_eq_none (by omega)]
    rfl
theorem z_wdc_of {m : Nat} (h : ∀ w ∈ z_wds m, w ∈ z_wl) (ch : Nat) : ∀ w ∈ z_wdc m ch, w ∈ z_wl := by
  intro w hw
  by_cases hc : ch < (z_tab m).length
  · exact h w (List.mem_flatMap.mpr ⟨ch, List.mem_range.mpr hc, hw⟩)
  · unfold z_wdc at hw
    rw [List.getD_eq_getElem?_getD, List.getElem?_eq_none (by omega)] at hw
    cases hw
set_option maxRecDepth 100000 in
theorem z_tab_hi {m : Nat} (h : 248 < m) : z_tab m = [] := by
  unfold z_tab
  have hb : ∀ k, k ≤ 249 → Nat.blt m k = false := fun k hk => by
    cases hh : Nat.blt m k with
    | false => rfl
    | true => exact absurd (Nat.blt_eq.mp hh) (by omega)
  simp only [hb 249 (by omega), cond_false]
theorem z_lk : z_LK := by
  intro m pc e h
  have hC : z_allc m (pc / 16) = true ∧ ∀ w ∈ z_wdc m (pc / 16), w ∈ z_wl := by
    by_cases hm : m < 248
    · exact ⟨z_allc_of (zs_allm m hm) _, z_wdc_of (zp_allm m hm) _⟩
    · by_cases hm2 : m = 248
      · subst hm2
        by_cases hc : pc / 16 < 125
        · exact ⟨zs_alll _ hc, zp_alll _ hc⟩
        · have h0 : (z_tab 248).getD (pc / 16) [] = [] := by
            rw [List.getD_eq_getElem?_getD, List.getElem?_eq_none (by rw [z_tab_len]; omega)]
            rfl
          unfold z_at at h
          rw [h0] at h
          cases h
      · unfold z_at at h
        rw [z_tab_hi (by omega)] at h
        cases h
  have hg : ((z_tab m).getD (pc / 16) [])[pc % 16]? = some (some e) := by
    unfold z_at at h
    rw [List.getD_eq_getElem?_getD] at h
    cases hh : ((z_tab m).getD (pc / 16) [])[pc % 16]? with
    | none => rw [hh] at h; cases h
    | some q =>
      rw [hh] at h
      replace h : q = some e := h
      rw [h]
  refine ⟨?_, fun w hw => hC.2 w ?_⟩
  · have := List.all_eq_true.mp hC.1 _ (z_zip hg)
    have e1 : 16 * (pc / 16) + pc % 16 = pc := Nat.div_add_mod pc 16
    dsimp only at this
    rw [e1] at this
    exact this
  · unfold z_wdc
    exact List.mem_flatMap.mpr ⟨_, List.mem_of_getElem? hg, hw⟩
theorem z_ui : z_UI := by
  have h : ∀ ci, ci < 7 → (u_ws (z_C ci) (z_T ci) (z_N ci)).all (fun w => goodWord w) = true := by decide +kernel
  intro ci hci w hw
  refine List.mem_filter.mpr ⟨?_, List.all_eq_true.mp (h ci hci) w hw⟩
  match ci, hci, hw with
  | 0, _, hw => exact z_ui_0 w hw
  | 1, _, hw => exact z_ui_1 w hw
  | 2, _, hw => exact z_ui_2 w hw
  | 3, _, hw => exact z_ui_3 w hw
  | 4, _, hw => exact z_ui_4 w hw
  | 5, _, hw => exact z_ui_5 w hw
  | 6, _, hw => exact z_ui_6 w hw
