theorem zp_212 : (z_wds 212 = ([704, 125, 396, 397] : List Nat).filterMap (fun i : Nat => lw_tbl[i]?)) ∧ (z_wds 212).all goodWord = true := by decide +kernel
theorem zp_213 : (z_wds 213 = ([728, 730, 25, 114, 731, 925, 926, 114, 927] : List Nat).filterMap (fun i : Nat => lw_tbl[i]?)) ∧ (z_wds 213).all goodWord = true := by decide +kernel
theorem zp_214 : (z_wds 214 = ([728, 730, 25, 114, 731, 945, 946, 114, 947] : List Nat).filterMap (fun i : Nat => lw_tbl[i]?)) ∧ (z_wds 214).all goodWord = true := by decide +kernel
theorem zp_215 : (z_wds 215 = ([196, 704, 125] : List Nat).filterMap (fun i : Nat => lw_tbl[i]?)) ∧ (z_wds 215).all goodWord = true := by decide +kernel
theorem zp_216 : (z_wds 216 = ([210, 704, 125] : List Nat).filterMap (fun i : Nat => lw_tbl[i]?)) ∧ (z_wds 216).all goodWord = true := by decide +kernel
theorem zp_217 : (z_wds 217 = ([876, 131] : List Nat).filterMap (fun i : Nat => lw_tbl[i]?)) ∧ (z_wds 217).all goodWord = true := by decide +kernel
theorem zp_218 : (z_wds 218 = ([403, 322, 704, 125] : List Nat).filterMap (fun i : Nat => lw_tbl[i]?)) ∧ (z_wds 218).all goodWord = true := by decide +kernel
theorem zp_219 : (z_wds 219 = ([404, 402, 396, 397, 463, 464, 465, 117, 466, 403, 402, 498, 499, 500, 118, 501, 404] : List Nat).filterMap (fun i : Nat => lw_tbl[i]?)) ∧ (z_wds 219).all goodWord = true := by decide +kernel
theorem zp_220 : (z_wds 220 = ([400, 399, 400, 400, 400] : List Nat).filterMap (fun i : Nat => lw_tbl[i]?)) ∧ (z_wds 220).all goodWord = true := by decide +kernel
theorem zp_221 : (z_wds 221 = ([994, 995, 997, 42, 114, 998] : List Nat).filterMap (fun i : Nat => lw_tbl[i]?)) ∧ (z_wds 221).all goodWord = true := by decide +kernel
theorem zp_222 : (z_wds 222 = ([1021] : List Nat).filterMap (fun i : Nat => lw_tbl[i]?)) ∧ (z_wds 222).all goodWord = true := by decide +kernel
theorem zp_223 : (z_wds 223 = ([619, 620, 621, 114, 622, 618] : List Nat).filterMap (fun i : Nat => lw_tbl[i]?)) ∧ (z_wds 223).all goodWord = true := by decide +kernel
theorem zp_224 : (z_wds 224 = ([700, 701, 702, 114, 703, 699] : List Nat).filterMap (fun i : Nat => lw_tbl[i]?)) ∧ (z_wds 224).all goodWord = true := by decide +kernel
theorem zp_225 : (z_wds 225 = ([724, 725, 726, 114, 727, 699, 723] : List Nat).filterMap (fun i : Nat => lw_tbl[i]?)) ∧ (z_wds 225).all goodWord = true := by decide +kernel
theorem zp_226 : (z_wds 226 = ([895, 896, 897, 114, 898, 699, 723] : List Nat).filterMap (fun i : Nat => lw_tbl[i]?)) ∧ (z_wds 226).all goodWord = true := by decide +kernel
theorem zp_227 : (z_wds 227 = ([917, 918, 919, 114, 920, 699, 723] : List Nat).filterMap (fun i : Nat => lw_tbl[i]?)) ∧ (z_wds 227).all goodWord = true := by decide +kernel
theorem zp_228 : (z_wds 228 = ([937, 938, 939, 114, 940, 699, 723] : List Nat).filterMap (fun i : Nat => lw_tbl[i]?)) ∧ (z_wds 228).all goodWord = true := by decide +kernel
theorem zp_229 : (z_wds 229 = ([962, 963, 964, 114, 965, 699, 961] : List Nat).filterMap (fun i : Nat => lw_tbl[i]?)) ∧ (z_wds 229).all goodWord = true := by decide +kernel
theorem zp_230 : (z_wds 230 = ([986, 987, 988, 114, 989, 699] : List Nat).filterMap (fun i : Nat => lw_tbl[i]?)) ∧ (z_wds 230).all goodWord = true := by decide +kernel
theorem zp_231 : (z_wds 231 = ([1006, 1007, 1008, 114, 1009, 699] : List Nat).filterMap (fun i : Nat => lw_tbl[i]?)) ∧ (z_wds 231).all goodWord = true := by decide +kernel
theorem zp_232 : (z_wds 232 = ([1014, 1015, 1016, 114, 1017, 699, 723, 618] : List Nat).filterMap (fun i : Nat => lw_tbl[i]?)) ∧ (z_wds 232).all goodWord = true := by decide +kernel
theorem zp_233 : (z_wds 233 = ([1028, 1029, 1030, 114, 1031, 699, 723, 618] : List Nat).filterMap (fun i : Nat => lw_tbl[i]?)) ∧ (z_wds 233).all goodWord = true := by decide +kernel
theorem zp_234 : (z_wds 234 = ([1038, 1039, 1040, 114, 1041, 699, 723] : List Nat).filterMap (fun i : Nat => lw_tbl[i]?)) ∧ (z_wds 234).all goodWord = true := by decide +kernel
theorem zp_235 : (z_wds 235 = ([1046, 1047, 1048, 114, 1049, 699] : List Nat).filterMap (fun i : Nat => lw_tbl[i]?)) ∧ (z_wds 235).all goodWord = true := by decide +kernel
theorem zp_236 : (z_wds 236 = ([1068, 1069, 1070, 114, 1071, 699, 723, 618] : List Nat).filterMap (fun i : Nat => lw_tbl[i]?)) ∧ (z_wds 236).all goodWord = true := by decide +kernel
theorem zp_237 : (z_wds 237 = ([1099, 1100, 1101, 114, 1102, 699] : List Nat).filterMap (fun i : Nat => lw_tbl[i]?)) ∧ (z_wds 237).all goodWord = true := by decide +kernel
theorem zp_238 : (z_wds 238 = ([1106, 1107, 1108, 114, 1109, 699] : List Nat).filterMap (fun i : Nat => lw_tbl[i]?)) ∧ (z_wds 238).all goodWord = true := by decide +kernel
theorem zp_239 : (z_wds 239 = ([1113, 1114, 1115, 114, 1116, 699] : List Nat).filterMap (fun i : Nat => lw_tbl[i]?)) ∧ (z_wds 239).all goodWord = true := by decide +kernel
theorem zp_240 : (z_wds 240 = ([1120, 1121, 1122, 114, 1123, 723] : List Nat).filterMap (fun i : Nat => lw_tbl[i]?)) ∧ (z_wds 240).all goodWord = true := by decide +kernel
theorem zp_241 : (z_wds 241 = ([1132, 1133, 1134, 114, 1135, 961] : List Nat).filterMap (fun i : Nat => lw_tbl[i]?)) ∧ (z_wds 241).all goodWord = true := by decide +kernel
theorem zp_242 : (z_wds 242 = ([1149, 1150, 1151, 114, 1152, 723] : List Nat).filterMap (fun i : Nat => lw_tbl[i]?)) ∧ (z_wds 242).all goodWord = true := by decide +kernel
theorem zp_243 : (z_wds 243 = ([1161, 1162, 1163, 114, 1164, 699, 723] : List Nat).filterMap (fun i : Nat => lw_tbl[i]?)) ∧ (z_wds 243).all goodWord = true := by decide +kernel
theorem zp_244 : (z_wds 244 = ([1170, 1171, 1172, 114, 1173, 723] : List Nat).filterMap (fun i : Nat => lw_tbl[i]?)) ∧ (z_wds 244).all goodWord = true := by decide +kernel
theorem zp_245 : (z_wds 245 = ([1181, 1182, 1183, 114, 1184, 699] : List Nat).filterMap (fun i : Nat => lw_tbl[i]?)) ∧ (z_wds 245).all goodWord = true := by decide +kernel
theorem zp_246 : (z_wds 246 = ([1198, 1199, 1200, 114, 1201, 699] : List Nat).filterMap (fun i : Nat => lw_tbl[i]?)) ∧ (z_wds 246).all goodWord = true := by decide +kernel
theorem zp_247 : (z_wds 247 = ([1209, 1210, 1211, 114, 1212, 699] : List Nat).filterMap (fun i : Nat => lw_tbl[i]?)) ∧ (z_wds 247).all goodWord = true := by decide +kernel
theorem zp_law_0 : (z_wdc 248 0 = ([] : List Nat).filterMap (fun i : Nat => lw_tbl[i]?)) ∧ (z_wdc 248 0).all goodWord = true := by decide +kernel
theorem zp_law_1 : (z_wdc 248 1 = ([] : List Nat).filterMap (fun i : Nat => lw_tbl[i]?)) ∧ (z_wdc 248 1).all goodWord = true := by decide +kernel
theorem zp_law_2 : (z_wdc 248 2 = ([] : List Nat).filterMap (fun i : Nat => lw_tbl[i]?)) ∧ (z_wdc 248 2).all goodWord = true := by decide +kernel
theorem zp_law_3 : (z_wdc 248 3 = ([] : List Nat).filterMap (fun i : Nat => lw_tbl[i]?)) ∧ (z_wdc 248 3).all goodWord = true := by decide +kernel
theorem zp_law_4 : (z_wdc 248 4 = ([] : List Nat).filterMap (fun i : Nat => lw_tbl[i]?)) ∧ (z_wdc 248 4).all goodWord = true := by decide +kernel
theorem zp_law_5 : (z_wdc 248 5 = ([] : List Nat).filterMap (fun i : Nat => lw_tbl[i]?)) ∧ (z_wdc 248 5).all goodWord = true := by decide +kernel
theorem zp_law_6 : (z_wdc 248 6 = ([] : List Nat).filterMap (fun i : Nat => lw_tbl[i]?)) ∧ (z_wdc 248 6).all goodWord = true := by decide +kernel
theorem zp_law_7 : (z_wdc 248 7 = ([] : List Nat).filterMap (fun i : Nat => lw_tbl[i]?)) ∧ (z_wdc 248 7).all goodWord = true := by decide +kernel
theorem zp_law_8 : (z_wdc 248 8 = ([] : List Nat).filterMap (fun i : Nat => lw_tbl[i]?)) ∧ (z_wdc 248 8).all goodWord = true := by decide +kernel
theorem zp_law_9 : (z_wdc 248 9 = ([] : List Nat).filterMap (fun i : Nat => lw_tbl[i]?)) ∧ (z_wdc 248 9).all goodWord = true := by decide +kernel
theorem zp_law_10 : (z_wdc 248 10 = ([] : List Nat).filterMap (fun i : Nat => lw_tbl[i]?)) ∧ (z_wdc 248 10).all goodWord = true := by decide +kernel
theorem zp_law_11 : (z_wdc 248 11 = ([] : List Nat).filterMap (fun i : Nat => lw_tbl[i]?)) ∧ (z_wdc 248 11).all goodWord = true := by decide +kernel
theorem zp_law_12 : (z_wdc 248 12 = ([] : List Nat).filterMap (fun i : Nat => lw_tbl[i]?)) ∧ (z_wdc 248 12).all goodWord = true := by decide +kernel
theorem zp_law_13 : (z_wdc 248 13 = ([] : List Nat).filterMap (fun i : Nat => lw_tbl[i]?)) ∧ (z_wdc 248 13).all goodWord = true := by decide +kernel
theorem zp_law_14 : (z_wdc 248 14 = ([615, 616, 113, 617] : List Nat).filterMap (fun i : Nat => lw_tbl[i]?)) ∧ (z_wdc 248 14).all goodWord = true := by decide +kernel
theorem zp_law_15 : (z_wdc 248 15 = ([] : List Nat).filterMap (fun i : Nat => lw_tbl[i]?)) ∧ (z_wdc 248 15).all goodWord = true := by decide +kernel
theorem zp_law_16 : (z_wdc 248 16 = ([1305, 1306, 1307, 120, 1308, 1301, 1302, 1303, 120, 1304] : List Nat).filterMap (fun i : Nat => lw_tbl[i]?)) ∧ (z_wdc 248 16).all goodWord = true := by decide +kernel
theorem zp_law_17 : (z_wdc 248 17 = ([] : List Nat).filterMap (fun i : Nat => lw_tbl[i]?)) ∧ (z_wdc 248 17).all goodWord = true := by decide +kernel
theorem zp_law_18 : (z_wdc 248 18 = ([] : List Nat).filterMap (fun i : Nat => lw_tbl[i]?)) ∧ (z_wdc 248 18).all goodWord = true := by decide +kernel
theorem zp_law_19 : (z_wdc 248 19 = ([696, 697, 113, 698, 1317, 1318, 1319, 120, 1320] : List Nat).filterMap (fun i : Nat => lw_tbl[i]?)) ∧ (z_wdc 248 19).all goodWord = true := by decide +kernel
theorem zp_law_20 : (z_wdc 248 20 = ([1301, 1302, 1303, 120, 1304] : List Nat).filterMap (fun i : Nat => lw_tbl[i]?)) ∧ (z_wdc 248 20).all goodWord = true := by decide +kernel
theorem zp_law_21 : (z_wdc 248 21 = ([] : List Nat).filterMap (fun i : Nat => lw_tbl[i]?)) ∧ (z_wdc 248 21).all goodWord = true := by decide +kernel
theorem zp_law_22 : (z_wdc 248 22 = ([720, 721, 113, 722] : List Nat).filterMap (fun i : Nat => lw_tbl[i]?)) ∧ (z_wdc 248 22).all goodWord = true := by decide +kernel
theorem zp_law_23 : (z_wdc 248 23 = ([1324, 1325, 1326, 120, 1327, 1301, 1302, 1303, 120, 1304] : List Nat).filterMap (fun i : Nat => lw_tbl[i]?)) ∧ (z_wdc 248 23).all goodWord = true := by decide +kernel
theorem zp_law_24 : (z_wdc 248 24 = ([] : List Nat).filterMap (fun i : Nat => lw_tbl[i]?)) ∧ (z_wdc 248 24).all goodWord = true := by decide +kernel
theorem zp_law_25 : (z_wdc 248 25 = ([443, 444, 445, 114, 446, 1434, 1435, 1436, 120, 1437] : List Nat).filterMap (fun i : Nat => lw_tbl[i]?)) ∧ (z_wdc 248 25).all goodWord = true := by decide +kernel
theorem zp_law_26 : (z_wdc 248 26 = ([447, 448, 449, 114, 450, 1438, 1439, 1440, 120, 1441] : List Nat).filterMap (fun i : Nat => lw_tbl[i]?)) ∧ (z_wdc 248 26).all goodWord = true := by decide +kernel
theorem zp_law_27 : (z_wdc 248 27 = ([] : List Nat).filterMap (fun i : Nat => lw_tbl[i]?)) ∧ (z_wdc 248 27).all goodWord = true := by decide +kernel
theorem zp_law_28 : (z_wdc 248 28 = ([892, 893, 113, 894] : List Nat).filterMap (fun i : Nat => lw_tbl[i]?)) ∧ (z_wdc 248 28).all goodWord = true := by decide +kernel
theorem zp_law_29 : (z_wdc 248 29 = ([1442, 1443, 1444, 120, 1445, 1301, 1302, 1303, 120, 1304] : List Nat).filterMap (fun i : Nat => lw_tbl[i]?)) ∧ (z_wdc 248 29).all goodWord = true := by decide +kernel
theorem zp_law_30 : (z_wdc 248 30 = ([] : List Nat).filterMap (fun i : Nat => lw_tbl[i]?)) ∧ (z_wdc 248 30).all goodWord = true := by decide +kernel
theorem zp_law_31 : (z_wdc 248 31 = ([] : List Nat).filterMap (fun i : Nat => lw_tbl[i]?)) ∧ (z_wdc 248 31).all goodWord = true := by decide +kernel
theorem zp_law_32 : (z_wdc 248 32 = ([914, 915, 113, 916] : List Nat).filterMap (fun i : Nat => lw_tbl[i]?)) ∧ (z_wdc 248 32).all goodWord = true := by decide +kernel
theorem zp_law_33 : (z_wdc 248 33 = ([] : List Nat).filterMap (fun i : Nat => lw_tbl[i]?)) ∧ (z_wdc 248 33).all goodWord = true := by decide +kernel
theorem zp_law_34 : (z_wdc 248 34 = ([1462, 1463, 1464, 120, 1465, 1301, 1302, 1303, 120, 1304] : List Nat).filterMap (fun i : Nat => lw_tbl[i]?)) ∧ (z_wdc 248 34).all goodWord = true := by decide +kernel
theorem zp_law_35 : (z_wdc 248 35 = ([] : List Nat).filterMap (fun i : Nat => lw_tbl[i]?)) ∧ (z_wdc 248 35).all goodWord = true := by decide +kernel
theorem zp_law_36 : (z_wdc 248 36 = ([] : List Nat).filterMap (fun i : Nat => lw_tbl[i]?)) ∧ (z_wdc 248 36).all goodWord = true := by decide +kernel
theorem zp_law_37 : (z_wdc 248 37 = ([934, 935, 113, 936] : List Nat).filterMap (fun i : Nat => lw_tbl[i]?)) ∧ (z_wdc 248 37).all goodWord = true := by decide +kernel
theorem zp_law_38 : (z_wdc 248 38 = ([] : List Nat).filterMap (fun i : Nat => lw_tbl[i]?)) ∧ (z_wdc 248 38).all goodWord = true := by decide +kernel
theorem zp_law_39 : (z_wdc 248 39 = ([1474, 1475, 1476, 120, 1477, 1301, 1302, 1303, 120, 1304] : List Nat).filterMap (fun i : Nat => lw_tbl[i]?)) ∧ (z_wdc 248 39).all goodWord = true := by decide +kernel
theorem zp_law_40 : (z_wdc 248 40 = ([] : List Nat).filterMap (fun i : Nat => lw_tbl[i]?)) ∧ (z_wdc 248 40).all goodWord = true := by decide +kernel
theorem zp_law_41 : (z_wdc 248 41 = ([] : List Nat).filterMap (fun i : Nat => lw_tbl[i]?)) ∧ (z_wdc 248 41).all goodWord = true := by decide +kernel
theorem zp_law_42 : (z_wdc 248 42 = ([958, 959, 113, 960] : List Nat).filterMap (fun i : Nat => lw_tbl[i]?)) ∧ (z_wdc 248 42).all goodWord = true := by decide +kernel
theorem zp_law_43 : (z_wdc 248 43 = ([] : List Nat).filterMap (fun i : Nat => lw_tbl[i]?)) ∧ (z_wdc 248 43).all goodWord = true := by decide +kernel
theorem zp_law_44 : (z_wdc 248 44 = ([1490, 1491, 1492, 120, 1493, 1301, 1302, 1303, 120, 1304] : List Nat).filterMap (fun i : Nat => lw_tbl[i]?)) ∧ (z_wdc 248 44).all goodWord = true := by decide +kernel
theorem zp_law_45 : (z_wdc 248 45 = ([] : List Nat).filterMap (fun i : Nat => lw_tbl[i]?)) ∧ (z_wdc 248 45).all goodWord = true := by decide +kernel
theorem zp_law_46 : (z_wdc 248 46 = ([] : List Nat).filterMap (fun i : Nat => lw_tbl[i]?)) ∧ (z_wdc 248 46).all goodWord = true := by decide +kernel
theorem zp_law_47 : (z_wdc 248 47 = ([983, 984, 113, 985] : List Nat).filterMap (fun i : Nat => lw_tbl[i]?)) ∧ (z_wdc 248 47).all goodWord = true := by decide +kernel
theorem zp_law_48 : (z_wdc 248 48 = ([1494, 1495, 1496, 120, 1497, 1301, 1302, 1303, 120, 1304] : List Nat).filterMap (fun i : Nat => lw_tbl[i]?)) ∧ (z_wdc 248 48).all goodWord = true := by decide +kernel
theorem zp_law_49 : (z_wdc 248 49 = ([] : List Nat).filterMap (fun i : Nat => lw_tbl[i]?)) ∧ (z_wdc 248 49).all goodWord = true := by decide +kernel
theorem zp_law_50 : (z_wdc 248 50 = ([] : List Nat).filterMap (fun i : Nat => lw_tbl[i]?)) ∧ (z_wdc 248 50).all goodWord = true := by decide +kernel
theorem zp_law_51 : (z_wdc 248 51 = ([1003, 1004, 113, 1005, 1502, 1503, 1504, 120, 1505] : List Nat).filterMap (fun i : Nat => lw_tbl[i]?)) ∧ (z_wdc 248 51).all goodWord = true := by decide +kernel
theorem zp_law_52 : (z_wdc 248 52 = ([1301, 1302, 1303, 120, 1304] : List Nat).filterMap (fun i : Nat => lw_tbl[i]?)) ∧ (z_wdc 248 52).all goodWord = true := by decide +kernel
theorem zp_law_53 : (z_wdc 248 53 = ([] : List Nat).filterMap (fun i : Nat => lw_tbl[i]?)) ∧ (z_wdc 248 53).all goodWord = true := by decide +kernel
theorem zp_law_54 : (z_wdc 248 54 = ([] : List Nat).filterMap (fun i : Nat => lw_tbl[i]?)) ∧ (z_wdc 248 54).all goodWord = true := by decide +kernel
theorem zp_law_55 : (z_wdc 248 55 = ([1011, 1012, 113, 1013] : List Nat).filterMap (fun i : Nat => lw_tbl[i]?)) ∧ (z_wdc 248 55).all goodWord = true := by decide +kernel
theorem zp_law_56 : (z_wdc 248 56 = ([1506, 1507, 1508, 120, 1509] : List Nat).filterMap (fun i : Nat => lw_tbl[i]?)) ∧ (z_wdc 248 56).all goodWord = true := by decide +kernel
theorem zp_law_57 : (z_wdc 248 57 = ([1301, 1302, 1303, 120, 1304] : List Nat).filterMap (fun i : Nat => lw_tbl[i]?)) ∧ (z_wdc 248 57).all goodWord = true := by decide +kernel
theorem zp_law_58 : (z_wdc 248 58 = ([] : List Nat).filterMap (fun i : Nat => lw_tbl[i]?)) ∧ (z_wdc 248 58).all goodWord = true := by decide +kernel
theorem zp_law_59 : (z_wdc 248 59 = ([] : List Nat).filterMap (fun i : Nat => lw_tbl[i]?)) ∧ (z_wdc 248 59).all goodWord = true := by decide +kernel
theorem zp_law_60 : (z_wdc 248 60 = ([1025, 1026, 113, 1027] : List Nat).filterMap (fun i : Nat => lw_tbl[i]?)) ∧ (z_wdc 248 60).all goodWord = true := by decide +kernel
theorem zp_law_61 : (z_wdc 248 61 = ([1517, 1518, 1519, 120, 1520] : List Nat).filterMap (fun i : Nat => lw_tbl[i]?)) ∧ (z_wdc 248 61).all goodWord = true := by decide +kernel
theorem zp_law_62 : (z_wdc 248 62 = ([1301, 1302, 1303, 120, 1304] : List Nat).filterMap (fun i : Nat => lw_tbl[i]?)) ∧ (z_wdc 248 62).all goodWord = true := by decide +kernel
theorem zp_law_63 : (z_wdc 248 63 = ([] : List Nat).filterMap (fun i : Nat => lw_tbl[i]?)) ∧ (z_wdc 248 63).all goodWord = true := by decide +kernel
theorem zp_law_64 : (z_wdc 248 64 = ([] : List Nat).filterMap (fun i : Nat => lw_tbl[i]?)) ∧ (z_wdc 248 64).all goodWord = true := by decide +kernel
theorem zp_law_65 : (z_wdc 248 65 = ([1035, 1036, 113, 1037] : List Nat).filterMap (fun i : Nat => lw_tbl[i]?)) ∧ (z_wdc 248 65).all goodWord = true := by decide +kernel
theorem zp_law_66 : (z_wdc 248 66 = ([1521, 1522, 1523, 120, 1524] : List Nat).filterMap (fun i : Nat => lw_tbl[i]?)) ∧ (z_wdc 248 66).all goodWord = true := by decide +kernel
theorem zp_law_67 : (z_wdc 248 67 = ([1301, 1302, 1303, 120, 1304] : List Nat).filterMap (fun i : Nat => lw_tbl[i]?)) ∧ (z_wdc 248 67).all goodWord = true := by decide +kernel
theorem zp_law_68 : (z_wdc 248 68 = ([] : List Nat).filterMap (fun i : Nat => lw_tbl[i]?)) ∧ (z_wdc 248 68).all goodWord = true := by decide +kernel
theorem zp_law_69 : (z_wdc 248 69 = ([] : List Nat).filterMap (fun i : Nat => lw_tbl[i]?)) ∧ (z_wdc 248 69).all goodWord = true := by decide +kernel
theorem zp_law_70 : (z_wdc 248 70 = ([1043, 1044, 113, 1045] : List Nat).filterMap (fun i : Nat => lw_tbl[i]?)) ∧ (z_wdc 248 70).all goodWord = true := by decide +kernel
theorem zp_law_71 : (z_wdc 248 71 = ([1525, 1526, 1527, 120, 1528, 1301, 1302, 1303, 120, 1304] : List Nat).filterMap (fun i : Nat => lw_tbl[i]?)) ∧ (z_wdc 248 71).all goodWord = true := by decide +kernel
theorem zp_law_72 : (z_wdc 248 72 = ([] : List Nat).filterMap (fun i : Nat => lw_tbl[i]?)) ∧ (z_wdc 248 72).all goodWord = true := by decide +kernel
theorem zp_law_73 : (z_wdc 248 73 = ([] : List Nat).filterMap (fun i : Nat => lw_tbl[i]?)) ∧ (z_wdc 248 73).all goodWord = true := by decide +kernel
theorem zp_law_74 : (z_wdc 248 74 = ([1065, 1066, 113, 1067] : List Nat).filterMap (fun i : Nat => lw_tbl[i]?)) ∧ (z_wdc 248 74).all goodWord = true := by decide +kernel
theorem zp_law_75 : (z_wdc 248 75 = ([] : List Nat).filterMap (fun i : Nat => lw_tbl[i]?)) ∧ (z_wdc 248 75).all goodWord = true := by decide +kernel
theorem zp_law_76 : (z_wdc 248 76 = ([1537, 1538, 1539, 120, 1540, 1301, 1302, 1303, 120, 1304] : List Nat).filterMap (fun i : Nat => lw_tbl[i]?)) ∧ (z_wdc 248 76).all goodWord = true := by decide +kernel
theorem zp_law_77 : (z_wdc 248 77 = ([] : List Nat).filterMap (fun i : Nat => lw_tbl[i]?)) ∧ (z_wdc 248 77).all goodWord = true := by decide +kernel
theorem zp_law_78 : (z_wdc 248 78 = ([451, 452, 453, 114, 454, 1557, 1558, 1559, 120, 1560] : List Nat).filterMap (fun i : Nat => lw_tbl[i]?)) ∧ (z_wdc 248 78).all goodWord = true := by decide +kernel
theorem zp_law_79 : (z_wdc 248 79 = ([1096, 1097, 113, 1098] : List Nat).filterMap (fun i : Nat => lw_tbl[i]?)) ∧ (z_wdc 248 79).all goodWord = true := by decide +kernel
theorem zp_law_80 : (z_wdc 248 80 = ([1561, 1562, 1563, 120, 1564, 1301, 1302, 1303, 120, 1304] : List Nat).filterMap (fun i : Nat => lw_tbl[i]?)) ∧ (z_wdc 248 80).all goodWord = true := by decide +kernel
theorem zp_law_81 : (z_wdc 248 81 = ([] : List Nat).filterMap (fun i : Nat => lw_tbl[i]?)) ∧ (z_wdc 248 81).all goodWord = true := by decide +kernel
theorem zp_law_82 : (z_wdc 248 82 = ([] : List Nat).filterMap (fun i : Nat => lw_tbl[i]?)) ∧ (z_wdc 248 82).all goodWord = true := by decide +kernel
theorem zp_law_83 : (z_wdc 248 83 = ([1103, 1104, 113, 1105, 1589, 1590, 1591, 120, 1592] : List Nat).filterMap (fun i : Nat => lw_tbl[i]?)) ∧ (z_wdc 248 83).all goodWord = true := by decide +kernel
theorem zp_law_84 : (z_wdc 248 84 = ([1301, 1302, 1303, 120, 1304] : List Nat).filterMap (fun i : Nat => lw_tbl[i]?)) ∧ (z_wdc 248 84).all goodWord = true := by decide +kernel
theorem zp_law_85 : (z_wdc 248 85 = ([] : List Nat).filterMap (fun i : Nat => lw_tbl[i]?)) ∧ (z_wdc 248 85).all goodWord = true := by decide +kernel
theorem zp_law_86 : (z_wdc 248 86 = ([1110, 1111, 113, 1112] : List Nat).filterMap (fun i : Nat => lw_tbl[i]?)) ∧ (z_wdc 248 86).all goodWord = true := by decide +kernel
theorem zp_law_87 : (z_wdc 248 87 = ([1593, 1594, 1595, 120, 1596, 1301, 1302, 1303, 120, 1304] : List Nat).filterMap (fun i : Nat => lw_tbl[i]?)) ∧ (z_wdc 248 87).all goodWord = true := by decide +kernel
theorem zp_law_88 : (z_wdc 248 88 = ([] : List Nat).filterMap (fun i : Nat => lw_tbl[i]?)) ∧ (z_wdc 248 88).all goodWord = true := by decide +kernel
theorem zp_law_89 : (z_wdc 248 89 = ([] : List Nat).filterMap (fun i : Nat => lw_tbl[i]?)) ∧ (z_wdc 248 89).all goodWord = true := by decide +kernel
theorem zp_law_90 : (z_wdc 248 90 = ([1117, 1118, 113, 1119, 1597, 1598, 1599, 120, 1600] : List Nat).filterMap (fun i : Nat => lw_tbl[i]?)) ∧ (z_wdc 248 90).all goodWord = true := by decide +kernel
theorem zp_law_91 : (z_wdc 248 91 = ([1301, 1302, 1303, 120, 1304] : List Nat).filterMap (fun i : Nat => lw_tbl[i]?)) ∧ (z_wdc 248 91).all goodWord = true := by decide +kernel
theorem zp_law_92 : (z_wdc 248 92 = ([] : List Nat).filterMap (fun i : Nat => lw_tbl[i]?)) ∧ (z_wdc 248 92).all goodWord = true := by decide +kernel
theorem zp_law_93 : (z_wdc 248 93 = ([1129, 1130, 113, 1131, 1601, 1602, 1603, 120, 1604] : List Nat).filterMap (fun i : Nat => lw_tbl[i]?)) ∧ (z_wdc 248 93).all goodWord = true := by decide +kernel
theorem zp_law_94 : (z_wdc 248 94 = ([1301, 1302, 1303, 120, 1304] : List Nat).filterMap (fun i : Nat => lw_tbl[i]?)) ∧ (z_wdc 248 94).all goodWord = true := by decide +kernel
theorem zp_law_95 : (z_wdc 248 95 = ([] : List Nat).filterMap (fun i : Nat => lw_tbl[i]?)) ∧ (z_wdc 248 95).all goodWord = true := by decide +kernel
theorem zp_law_96 : (z_wdc 248 96 = ([] : List Nat).filterMap (fun i : Nat => lw_tbl[i]?)) ∧ (z_wdc 248 96).all goodWord = true := by decide +kernel
theorem zp_law_97 : (z_wdc 248 97 = ([] : List Nat).filterMap (fun i : Nat => lw_tbl[i]?)) ∧ (z_wdc 248 97).all goodWord = true := by decide +kernel
theorem zp_law_98 : (z_wdc 248 98 = ([1146, 1147, 113, 1148] : List Nat).filterMap (fun i : Nat => lw_tbl[i]?)) ∧ (z_wdc 248 98).all goodWord = true := by decide +kernel
theorem zp_law_99 : (z_wdc 248 99 = ([1618, 1619, 1620, 120, 1621, 1301, 1302, 1303, 120, 1304] : List Nat).filterMap (fun i : Nat => lw_tbl[i]?)) ∧ (z_wdc 248 99).all goodWord = true := by decide +kernel
theorem zp_law_100 : (z_wdc 248 100 = ([] : List Nat).filterMap (fun i : Nat => lw_tbl[i]?)) ∧ (z_wdc 248 100).all goodWord = true := by decide +kernel
theorem zp_law_101 : (z_wdc 248 101 = ([455, 456, 457, 114, 458, 1622, 1623, 1624, 120, 1625] : List Nat).filterMap (fun i : Nat => lw_tbl[i]?)) ∧ (z_wdc 248 101).all goodWord = true := by decide +kernel
theorem zp_law_102 : (z_wdc 248 102 = ([] : List Nat).filterMap (fun i : Nat => lw_tbl[i]?)) ∧ (z_wdc 248 102).all goodWord = true := by decide +kernel
theorem zp_law_103 : (z_wdc 248 103 = ([1158, 1159, 113, 1160] : List Nat).filterMap (fun i : Nat => lw_tbl[i]?)) ∧ (z_wdc 248 103).all goodWord = true := by decide +kernel
theorem zp_law_104 : (z_wdc 248 104 = ([1638, 1639, 1640, 120, 1641, 1301, 1302, 1303, 120, 1304] : List Nat).filterMap (fun i : Nat => lw_tbl[i]?)) ∧ (z_wdc 248 104).all goodWord = true := by decide +kernel
theorem zp_law_105 : (z_wdc 248 105 = ([] : List Nat).filterMap (fun i : Nat => lw_tbl[i]?)) ∧ (z_wdc 248 105).all goodWord = true := by decide +kernel
theorem zp_law_106 : (z_wdc 248 106 = ([1167, 1168, 113, 1169] : List Nat).filterMap (fun i : Nat => lw_tbl[i]?)) ∧ (z_wdc 248 106).all goodWord = true := by decide +kernel
theorem zp_law_107 : (z_wdc 248 107 = ([1642, 1643, 1644, 120, 1645] : List Nat).filterMap (fun i : Nat => lw_tbl[i]?)) ∧ (z_wdc 248 107).all goodWord = true := by decide +kernel
theorem zp_law_108 : (z_wdc 248 108 = ([1301, 1302, 1303, 120, 1304] : List Nat).filterMap (fun i : Nat => lw_tbl[i]?)) ∧ (z_wdc 248 108).all goodWord = true := by decide +kernel
