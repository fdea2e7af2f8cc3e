theorem zp_law_109 : (z_wdc 248 109 = ([] : List Nat).filterMap (fun i : Nat => lw_tbl[i]?)) ∧ (z_wdc 248 109).all goodWord = true := by decide +kernel
theorem zp_law_110 : (z_wdc 248 110 = ([542, 543, 544, 114, 545, 1646, 1647, 1648, 120, 1649, 550, 551, 552, 114, 553] : List Nat).filterMap (fun i : Nat => lw_tbl[i]?)) ∧ (z_wdc 248 110).all goodWord = true := by decide +kernel
theorem zp_law_111 : (z_wdc 248 111 = ([1654, 1655, 1656, 120, 1657] : List Nat).filterMap (fun i : Nat => lw_tbl[i]?)) ∧ (z_wdc 248 111).all goodWord = true := by decide +kernel
theorem zp_law_112 : (z_wdc 248 112 = ([1178, 1179, 113, 1180, 1658, 1659, 1660, 120, 1661] : List Nat).filterMap (fun i : Nat => lw_tbl[i]?)) ∧ (z_wdc 248 112).all goodWord = true := by decide +kernel
theorem zp_law_113 : (z_wdc 248 113 = ([1301, 1302, 1303, 120, 1304] : List Nat).filterMap (fun i : Nat => lw_tbl[i]?)) ∧ (z_wdc 248 113).all goodWord = true := by decide +kernel
theorem zp_law_114 : (z_wdc 248 114 = ([] : List Nat).filterMap (fun i : Nat => lw_tbl[i]?)) ∧ (z_wdc 248 114).all goodWord = true := by decide +kernel
theorem zp_law_115 : (z_wdc 248 115 = ([1195, 1196, 113, 1197] : List Nat).filterMap (fun i : Nat => lw_tbl[i]?)) ∧ (z_wdc 248 115).all goodWord = true := by decide +kernel
theorem zp_law_116 : (z_wdc 248 116 = ([1674, 1675, 1676, 120, 1677, 1301, 1302, 1303, 120, 1304] : List Nat).filterMap (fun i : Nat => lw_tbl[i]?)) ∧ (z_wdc 248 116).all goodWord = true := by decide +kernel
theorem zp_law_117 : (z_wdc 248 117 = ([] : List Nat).filterMap (fun i : Nat => lw_tbl[i]?)) ∧ (z_wdc 248 117).all goodWord = true := by decide +kernel
theorem zp_law_118 : (z_wdc 248 118 = ([] : List Nat).filterMap (fun i : Nat => lw_tbl[i]?)) ∧ (z_wdc 248 118).all goodWord = true := by decide +kernel
theorem zp_law_119 : (z_wdc 248 119 = ([1206, 1207, 113, 1208, 1678, 1679, 1680, 120, 1681] : List Nat).filterMap (fun i : Nat => lw_tbl[i]?)) ∧ (z_wdc 248 119).all goodWord = true := by decide +kernel
theorem zp_law_120 : (z_wdc 248 120 = ([1301, 1302, 1303, 120, 1304] : List Nat).filterMap (fun i : Nat => lw_tbl[i]?)) ∧ (z_wdc 248 120).all goodWord = true := by decide +kernel
theorem zp_law_121 : (z_wdc 248 121 = ([] : List Nat).filterMap (fun i : Nat => lw_tbl[i]?)) ∧ (z_wdc 248 121).all goodWord = true := by decide +kernel
theorem zp_law_122 : (z_wdc 248 122 = ([554, 555, 556, 114, 557, 1682, 1683, 1684, 120, 1685, 607, 608, 609, 114, 610] : List Nat).filterMap (fun i : Nat => lw_tbl[i]?)) ∧ (z_wdc 248 122).all goodWord = true := by decide +kernel
theorem zp_law_123 : (z_wdc 248 123 = ([1715, 1716, 1717, 120, 1718] : List Nat).filterMap (fun i : Nat => lw_tbl[i]?)) ∧ (z_wdc 248 123).all goodWord = true := by decide +kernel
theorem zp_law_124 : (z_wdc 248 124 = ([] : List Nat).filterMap (fun i : Nat => lw_tbl[i]?)) ∧ (z_wdc 248 124).all goodWord = true := by decide +kernel
