/-! the law: the other calls -/
section LAW
variable {ad : Nat → Nat} {G : Gh} {X : Amb} {b L : Nat} {xs : Nat → Int32} {u : Mem} {i : Int32}
theorem lw_c25 (C : Cx ad G X cL_law "CarryFairLaw" 13 480) (Z : Scr X b L xs) (hin : lwIn i L) (hI : Inv u) (hgo : ∀ u, Inv u → V shs ad G X 1771 (lwL b ad i) [] u) : V shs ad G X 1109 (lwL b ad i) [] u := by
  obtain ⟨x, u1, u2, hf, hg, hI2⟩ := s_kindFor hI (xs (i + 1).toNatClampNeg) (xs (i + 2).toNatClampNeg)
  refine V_aload_n C 2 dL_law_1109 rfl rfl rfl ?_
  refine V_sarg C Z (k := 1) rfl rfl dL_law_1110 dL_law_1111 dL_law_1112 dL_law_1113 dL_law_1114 rfl hin.2.1 rfl ?_
  refine V_sarg C Z (k := 2) rfl rfl dL_law_1115 dL_law_1116 dL_law_1117 dL_law_1118 dL_law_1119 rfl hin.2.2.1 rfl ?_
  refine V_cVi C (b := 0) (As := [.int (xs (i + 1).toNatClampNeg), .int (xs (i + 2).toNatClampNeg)]) (st := []) cf9 rfl M_X9_kindFor (show Cond.methodLink "CarryFairLaw" 117 yX9_kindFor ∈ BW from bw 749 (by decide +kernel) (by decide +kernel)) ⟨by decide, by decide⟩ rfl rfl (Nat.le_of_ble_eq_true rfl) dL_law_1120 rfl (kX9_kindFor hf) ?_
  refine V_aload_n C 1 dL_law_1123 rfl rfl rfl ?_
  refine V_sarg C Z (k := 1) rfl rfl dL_law_1124 dL_law_1125 dL_law_1126 dL_law_1127 dL_law_1128 rfl hin.2.1 rfl ?_
  refine V_sarg C Z (k := 2) rfl rfl dL_law_1129 dL_law_1130 dL_law_1131 dL_law_1132 dL_law_1133 rfl hin.2.2.1 rfl ?_
  refine V_cVi C (b := 116) (As := [.int (xs (i + 1).toNatClampNeg), .int (xs (i + 2).toNatClampNeg)]) (st := [.int x]) cf10 rfl M_X10_kindFor (show Cond.methodLink "CarryFairLaw" 120 yX10_kindFor ∈ BW from bw 1462 (by decide +kernel) (by decide +kernel)) ⟨by decide, by decide⟩ rfl rfl (Nat.le_of_ble_eq_true rfl) dL_law_1134 rfl (kX10_kindFor hg) ?_
  exact V_icmp_eq C dL_law_1137 (tgt := 1771) rfl rfl (fun _ => hgo _ hI2) (fun z => absurd rfl z)
theorem lw_c26 (C : Cx ad G X cL_law "CarryFairLaw" 13 480) (Z : Scr X b L xs) (hin : lwIn i L) (hI : Inv u) (hgo : ∀ u, Inv u → V shs ad G X 1771 (lwL b ad i) [] u) : V shs ad G X 1142 (lwL b ad i) [] u := by
  obtain ⟨x, u1, u2, hf, hg, hI2⟩ := s_bridge hI (xs (i + 1).toNatClampNeg) (xs (i + 2).toNatClampNeg)
  refine V_aload_n C 2 dL_law_1142 rfl rfl rfl ?_
  refine V_sarg C Z (k := 1) rfl rfl dL_law_1143 dL_law_1144 dL_law_1145 dL_law_1146 dL_law_1147 rfl hin.2.1 rfl ?_
  refine V_sarg C Z (k := 2) rfl rfl dL_law_1148 dL_law_1149 dL_law_1150 dL_law_1151 dL_law_1152 rfl hin.2.2.1 rfl ?_
  refine V_cVi C (b := 0) (As := [.int (xs (i + 1).toNatClampNeg), .int (xs (i + 2).toNatClampNeg)]) (st := []) cf9 rfl M_X9_bridge (show Cond.methodLink "CarryFairLaw" 121 yX9_bridge ∈ BW from bw 753 (by decide +kernel) (by decide +kernel)) ⟨by decide, by decide⟩ rfl rfl (Nat.le_of_ble_eq_true rfl) dL_law_1153 rfl (kX9_bridge hf) ?_
  refine V_aload_n C 1 dL_law_1156 rfl rfl rfl ?_
  refine V_sarg C Z (k := 1) rfl rfl dL_law_1157 dL_law_1158 dL_law_1159 dL_law_1160 dL_law_1161 rfl hin.2.1 rfl ?_
  refine V_sarg C Z (k := 2) rfl rfl dL_law_1162 dL_law_1163 dL_law_1164 dL_law_1165 dL_law_1166 rfl hin.2.2.1 rfl ?_
  refine V_cVi C (b := 116) (As := [.int (xs (i + 1).toNatClampNeg), .int (xs (i + 2).toNatClampNeg)]) (st := [.int x]) cf10 rfl M_X10_bridge (show Cond.methodLink "CarryFairLaw" 124 yX10_bridge ∈ BW from bw 1466 (by decide +kernel) (by decide +kernel)) ⟨by decide, by decide⟩ rfl rfl (Nat.le_of_ble_eq_true rfl) dL_law_1167 rfl (kX10_bridge hg) ?_
  exact V_icmp_eq C dL_law_1170 (tgt := 1771) rfl rfl (fun _ => hgo _ hI2) (fun z => absurd rfl z)
theorem lw_c27 (C : Cx ad G X cL_law "CarryFairLaw" 13 480) (Z : Scr X b L xs) (hin : lwIn i L) (hI : Inv u) (hgo : ∀ u, Inv u → V shs ad G X 1771 (lwL b ad i) [] u) : V shs ad G X 1175 (lwL b ad i) [] u := by
  obtain ⟨x, u1, u2, hf, hg, hI2⟩ := s_worth hI (xs (i + 1).toNatClampNeg) (xs (i + 2).toNatClampNeg)
  refine V_aload_n C 2 dL_law_1175 rfl rfl rfl ?_
  refine V_sarg C Z (k := 1) rfl rfl dL_law_1176 dL_law_1177 dL_law_1178 dL_law_1179 dL_law_1180 rfl hin.2.1 rfl ?_
  refine V_sarg C Z (k := 2) rfl rfl dL_law_1181 dL_law_1182 dL_law_1183 dL_law_1184 dL_law_1185 rfl hin.2.2.1 rfl ?_
  refine V_cVi C (b := 0) (As := [.int (xs (i + 1).toNatClampNeg), .int (xs (i + 2).toNatClampNeg)]) (st := []) cf9 rfl M_X9_worth (show Cond.methodLink "CarryFairLaw" 125 yX9_worth ∈ BW from bw 781 (by decide +kernel) (by decide +kernel)) ⟨by decide, by decide⟩ rfl rfl (Nat.le_of_ble_eq_true rfl) dL_law_1186 rfl (kX9_worth hf) ?_
  refine V_aload_n C 1 dL_law_1189 rfl rfl rfl ?_
  refine V_sarg C Z (k := 1) rfl rfl dL_law_1190 dL_law_1191 dL_law_1192 dL_law_1193 dL_law_1194 rfl hin.2.1 rfl ?_
  refine V_sarg C Z (k := 2) rfl rfl dL_law_1195 dL_law_1196 dL_law_1197 dL_law_1198 dL_law_1199 rfl hin.2.2.1 rfl ?_
  refine V_cVi C (b := 116) (As := [.int (xs (i + 1).toNatClampNeg), .int (xs (i + 2).toNatClampNeg)]) (st := [.int x]) cf10 rfl M_X10_worth (show Cond.methodLink "CarryFairLaw" 128 yX10_worth ∈ BW from bw 1474 (by decide +kernel) (by decide +kernel)) ⟨by decide, by decide⟩ rfl rfl (Nat.le_of_ble_eq_true rfl) dL_law_1200 rfl (kX10_worth hg) ?_
  exact V_icmp_eq C dL_law_1203 (tgt := 1771) rfl rfl (fun _ => hgo _ hI2) (fun z => absurd rfl z)
theorem lw_c28 (C : Cx ad G X cL_law "CarryFairLaw" 13 480) (Z : Scr X b L xs) (hin : lwIn i L) (hI : Inv u) (hgo : ∀ u, Inv u → V shs ad G X 1771 (lwL b ad i) [] u) : V shs ad G X 1208 (lwL b ad i) [] u := by
  obtain ⟨x, u1, u2, hf, hg, hI2⟩ := s_reach hI (xs (i + 1).toNatClampNeg)
  refine V_aload_n C 2 dL_law_1208 rfl rfl rfl ?_
  refine V_sarg C Z (k := 1) rfl rfl dL_law_1209 dL_law_1210 dL_law_1211 dL_law_1212 dL_law_1213 rfl hin.2.1 rfl ?_
  refine V_cVi C (b := 0) (As := [.int (xs (i + 1).toNatClampNeg)]) (st := []) cf9 rfl M_X9_reach (show Cond.methodLink "CarryFairLaw" 129 yX9_reach ∈ BW from bw 785 (by decide +kernel) (by decide +kernel)) ⟨by decide, by decide⟩ rfl rfl (Nat.le_of_ble_eq_true rfl) dL_law_1214 rfl (kX9_reach hf) ?_
  refine V_aload_n C 1 dL_law_1217 rfl rfl rfl ?_
  refine V_sarg C Z (k := 1) rfl rfl dL_law_1218 dL_law_1219 dL_law_1220 dL_law_1221 dL_law_1222 rfl hin.2.1 rfl ?_
  refine V_cVi C (b := 116) (As := [.int (xs (i + 1).toNatClampNeg)]) (st := [.int x]) cf10 rfl M_X10_reach (show Cond.methodLink "CarryFairLaw" 132 yX10_reach ∈ BW from bw 1478 (by decide +kernel) (by decide +kernel)) ⟨by decide, by decide⟩ rfl rfl (Nat.le_of_ble_eq_true rfl) dL_law_1223 rfl (kX10_reach hg) ?_
  exact V_icmp_eq C dL_law_1226 (tgt := 1771) rfl rfl (fun _ => hgo _ hI2) (fun z => absurd rfl z)
theorem lw_c29 (C : Cx ad G X cL_law "CarryFairLaw" 13 480) (Z : Scr X b L xs) (hin : lwIn i L) (hI : Inv u) (hgo : ∀ u, Inv u → V shs ad G X 1771 (lwL b ad i) [] u) : V shs ad G X 1231 (lwL b ad i) [] u := by
  obtain ⟨x, u1, u2, hf, hg, hI2⟩ := s_middle hI (xs (i + 1).toNatClampNeg)
  refine V_aload_n C 2 dL_law_1231 rfl rfl rfl ?_
  refine V_sarg C Z (k := 1) rfl rfl dL_law_1232 dL_law_1233 dL_law_1234 dL_law_1235 dL_law_1236 rfl hin.2.1 rfl ?_
  refine V_cVi C (b := 0) (As := [.int (xs (i + 1).toNatClampNeg)]) (st := []) cf9 rfl M_X9_middle (show Cond.methodLink "CarryFairLaw" 133 yX9_middle ∈ BW from bw 789 (by decide +kernel) (by decide +kernel)) ⟨by decide, by decide⟩ rfl rfl (Nat.le_of_ble_eq_true rfl) dL_law_1237 rfl (kX9_middle hf) ?_
  refine V_aload_n C 1 dL_law_1240 rfl rfl rfl ?_
  refine V_sarg C Z (k := 1) rfl rfl dL_law_1241 dL_law_1242 dL_law_1243 dL_law_1244 dL_law_1245 rfl hin.2.1 rfl ?_
  refine V_cVi C (b := 116) (As := [.int (xs (i + 1).toNatClampNeg)]) (st := [.int x]) cf10 rfl M_X10_middle (show Cond.methodLink "CarryFairLaw" 136 yX10_middle ∈ BW from bw 1482 (by decide +kernel) (by decide +kernel)) ⟨by decide, by decide⟩ rfl rfl (Nat.le_of_ble_eq_true rfl) dL_law_1246 rfl (kX10_middle hg) ?_
  exact V_icmp_eq C dL_law_1249 (tgt := 1771) rfl rfl (fun _ => hgo _ hI2) (fun z => absurd rfl z)
theorem lw_c30 (C : Cx ad G X cL_law "CarryFairLaw" 13 480) (Z : Scr X b L xs) (hin : lwIn i L) (hI : Inv u) (hgo : ∀ u, Inv u → V shs ad G X 1771 (lwL b ad i) [] u) : V shs ad G X 1254 (lwL b ad i) [] u := by
  obtain ⟨x, u1, u2, hf, hg, hI2⟩ := s_heavy hI (xs (i + 1).toNatClampNeg) (xs (i + 2).toNatClampNeg)
  refine V_aload_n C 2 dL_law_1254 rfl rfl rfl ?_
  refine V_sarg C Z (k := 1) rfl rfl dL_law_1255 dL_law_1256 dL_law_1257 dL_law_1258 dL_law_1259 rfl hin.2.1 rfl ?_
  refine V_sarg C Z (k := 2) rfl rfl dL_law_1260 dL_law_1261 dL_law_1262 dL_law_1263 dL_law_1264 rfl hin.2.2.1 rfl ?_
  refine V_cVi C (b := 0) (As := [.int (xs (i + 1).toNatClampNeg), .int (xs (i + 2).toNatClampNeg)]) (st := []) cf9 rfl M_X9_heavy (show Cond.methodLink "CarryFairLaw" 137 yX9_heavy ∈ BW from bw 804 (by decide +kernel) (by decide +kernel)) ⟨by decide, by decide⟩ rfl rfl (Nat.le_of_ble_eq_true rfl) dL_law_1265 rfl (kX9_heavy hf) ?_
  refine V_aload_n C 1 dL_law_1268 rfl rfl rfl ?_
  refine V_sarg C Z (k := 1) rfl rfl dL_law_1269 dL_law_1270 dL_law_1271 dL_law_1272 dL_law_1273 rfl hin.2.1 rfl ?_
  refine V_sarg C Z (k := 2) rfl rfl dL_law_1274 dL_law_1275 dL_law_1276 dL_law_1277 dL_law_1278 rfl hin.2.2.1 rfl ?_
  refine V_cVi C (b := 116) (As := [.int (xs (i + 1).toNatClampNeg), .int (xs (i + 2).toNatClampNeg)]) (st := [.int x]) cf10 rfl M_X10_heavy (show Cond.methodLink "CarryFairLaw" 140 yX10_heavy ∈ BW from bw 1486 (by decide +kernel) (by decide +kernel)) ⟨by decide, by decide⟩ rfl rfl (Nat.le_of_ble_eq_true rfl) dL_law_1279 rfl (kX10_heavy hg) ?_
  exact V_icmp_eq C dL_law_1282 (tgt := 1771) rfl rfl (fun _ => hgo _ hI2) (fun z => absurd rfl z)
theorem lw_c31 (C : Cx ad G X cL_law "CarryFairLaw" 13 480) (Z : Scr X b L xs) (hin : lwIn i L) (hI : Inv u) (hgo : ∀ u, Inv u → V shs ad G X 1771 (lwL b ad i) [] u) : V shs ad G X 1287 (lwL b ad i) [] u := by
  obtain ⟨x, u1, u2, hf, hg, hI2⟩ := s_day hI (xs (i + 1).toNatClampNeg)
  refine V_aload_n C 2 dL_law_1287 rfl rfl rfl ?_
  refine V_sarg C Z (k := 1) rfl rfl dL_law_1288 dL_law_1289 dL_law_1290 dL_law_1291 dL_law_1292 rfl hin.2.1 rfl ?_
  refine V_cVi C (b := 0) (As := [.int (xs (i + 1).toNatClampNeg)]) (st := []) cf9 rfl M_X9_day (show Cond.methodLink "CarryFairLaw" 141 yX9_day ∈ BW from bw 808 (by decide +kernel) (by decide +kernel)) ⟨by decide, by decide⟩ rfl rfl (Nat.le_of_ble_eq_true rfl) dL_law_1293 rfl (kX9_day hf) ?_
  refine V_aload_n C 1 dL_law_1296 rfl rfl rfl ?_
  refine V_sarg C Z (k := 1) rfl rfl dL_law_1297 dL_law_1298 dL_law_1299 dL_law_1300 dL_law_1301 rfl hin.2.1 rfl ?_
  refine V_cVi C (b := 116) (As := [.int (xs (i + 1).toNatClampNeg)]) (st := [.int x]) cf10 rfl M_X10_day (show Cond.methodLink "CarryFairLaw" 144 yX10_day ∈ BW from bw 1490 (by decide +kernel) (by decide +kernel)) ⟨by decide, by decide⟩ rfl rfl (Nat.le_of_ble_eq_true rfl) dL_law_1302 rfl (kX10_day hg) ?_
  exact V_icmp_eq C dL_law_1305 (tgt := 1771) rfl rfl (fun _ => hgo _ hI2) (fun z => absurd rfl z)
theorem lw_c32 (C : Cx ad G X cL_law "CarryFairLaw" 13 480) (Z : Scr X b L xs) (hin : lwIn i L) (hI : Inv u) (hgo : ∀ u, Inv u → V shs ad G X 1771 (lwL b ad i) [] u) : V shs ad G X 1310 (lwL b ad i) [] u := by
  obtain ⟨x, u1, u2, hf, hg, hI2⟩ := s_ahead hI (xs (i + 1).toNatClampNeg)
  refine V_aload_n C 2 dL_law_1310 rfl rfl rfl ?_
  refine V_sarg C Z (k := 1) rfl rfl dL_law_1311 dL_law_1312 dL_law_1313 dL_law_1314 dL_law_1315 rfl hin.2.1 rfl ?_
  refine V_cVi C (b := 0) (As := [.int (xs (i + 1).toNatClampNeg)]) (st := []) cf9 rfl M_X9_ahead (show Cond.methodLink "CarryFairLaw" 145 yX9_ahead ∈ BW from bw 838 (by decide +kernel) (by decide +kernel)) ⟨by decide, by decide⟩ rfl rfl (Nat.le_of_ble_eq_true rfl) dL_law_1316 rfl (kX9_ahead hf) ?_
  refine V_aload_n C 1 dL_law_1319 rfl rfl rfl ?_
  refine V_sarg C Z (k := 1) rfl rfl dL_law_1320 dL_law_1321 dL_law_1322 dL_law_1323 dL_law_1324 rfl hin.2.1 rfl ?_
  refine V_cVi C (b := 116) (As := [.int (xs (i + 1).toNatClampNeg)]) (st := [.int x]) cf10 rfl M_X10_ahead (show Cond.methodLink "CarryFairLaw" 148 yX10_ahead ∈ BW from bw 1511 (by decide +kernel) (by decide +kernel)) ⟨by decide, by decide⟩ rfl rfl (Nat.le_of_ble_eq_true rfl) dL_law_1325 rfl (kX10_ahead hg) ?_
  exact V_icmp_eq C dL_law_1328 (tgt := 1771) rfl rfl (fun _ => hgo _ hI2) (fun z => absurd rfl z)
theorem lw_c33 (C : Cx ad G X cL_law "CarryFairLaw" 13 480) (Z : Scr X b L xs) (hin : lwIn i L) (hI : Inv u) (hgo : ∀ u, Inv u → V shs ad G X 1771 (lwL b ad i) [] u) : V shs ad G X 1333 (lwL b ad i) [] u := by
  obtain ⟨x, u1, u2, hf, hg, hI2⟩ := s_seed hI (xs (i + 1).toNatClampNeg)
  refine V_aload_n C 2 dL_law_1333 rfl rfl rfl ?_
  refine V_sarg C Z (k := 1) rfl rfl dL_law_1334 dL_law_1335 dL_law_1336 dL_law_1337 dL_law_1338 rfl hin.2.1 rfl ?_
  refine V_cVi C (b := 0) (As := [.int (xs (i + 1).toNatClampNeg)]) (st := []) cf9 rfl M_X9_seed (show Cond.methodLink "CarryFairLaw" 149 yX9_seed ∈ BW from bw 842 (by decide +kernel) (by decide +kernel)) ⟨by decide, by decide⟩ rfl rfl (Nat.le_of_ble_eq_true rfl) dL_law_1339 rfl (kX9_seed (Option.some.inj hf)) ?_
  refine V_aload_n C 1 dL_law_1342 rfl rfl rfl ?_
  refine V_sarg C Z (k := 1) rfl rfl dL_law_1343 dL_law_1344 dL_law_1345 dL_law_1346 dL_law_1347 rfl hin.2.1 rfl ?_
  refine V_cVi C (b := 116) (As := [.int (xs (i + 1).toNatClampNeg)]) (st := [.int x]) cf10 rfl M_X10_seed (show Cond.methodLink "CarryFairLaw" 152 yX10_seed ∈ BW from bw 1522 (by decide +kernel) (by decide +kernel)) ⟨by decide, by decide⟩ rfl rfl (Nat.le_of_ble_eq_true rfl) dL_law_1348 rfl (kX10_seed hg) ?_
  exact V_icmp_eq C dL_law_1351 (tgt := 1771) rfl rfl (fun _ => hgo _ hI2) (fun z => absurd rfl z)
theorem lw_c34 (C : Cx ad G X cL_law "CarryFairLaw" 13 480) (Z : Scr X b L xs) (hin : lwIn i L) (hI : Inv u) (hgo : ∀ u, Inv u → V shs ad G X 1771 (lwL b ad i) [] u) : V shs ad G X 1356 (lwL b ad i) [] u := by
  obtain ⟨x, u1, u2, hf, hg, hI2⟩ := s_feed hI (xs (i + 1).toNatClampNeg) (xs (i + 2).toNatClampNeg)
  refine V_aload_n C 2 dL_law_1356 rfl rfl rfl ?_
  refine V_sarg C Z (k := 1) rfl rfl dL_law_1357 dL_law_1358 dL_law_1359 dL_law_1360 dL_law_1361 rfl hin.2.1 rfl ?_
  refine V_sarg C Z (k := 2) rfl rfl dL_law_1362 dL_law_1363 dL_law_1364 dL_law_1365 dL_law_1366 rfl hin.2.2.1 rfl ?_
  refine V_cVi C (b := 0) (As := [.int (xs (i + 1).toNatClampNeg), .int (xs (i + 2).toNatClampNeg)]) (st := []) cf9 rfl M_X9_feed (show Cond.methodLink "CarryFairLaw" 153 yX9_feed ∈ BW from bw 846 (by decide +kernel) (by decide +kernel)) ⟨by decide, by decide⟩ rfl rfl (Nat.le_of_ble_eq_true rfl) dL_law_1367 rfl (kX9_feed hf) ?_
  refine V_aload_n C 1 dL_law_1370 rfl rfl rfl ?_
  refine V_sarg C Z (k := 1) rfl rfl dL_law_1371 dL_law_1372 dL_law_1373 dL_law_1374 dL_law_1375 rfl hin.2.1 rfl ?_
  refine V_sarg C Z (k := 2) rfl rfl dL_law_1376 dL_law_1377 dL_law_1378 dL_law_1379 dL_law_1380 rfl hin.2.2.1 rfl ?_
  refine V_cVi C (b := 116) (As := [.int (xs (i + 1).toNatClampNeg), .int (xs (i + 2).toNatClampNeg)]) (st := [.int x]) cf10 rfl M_X10_feed (show Cond.methodLink "CarryFairLaw" 156 yX10_feed ∈ BW from bw 1526 (by decide +kernel) (by decide +kernel)) ⟨by decide, by decide⟩ rfl rfl (Nat.le_of_ble_eq_true rfl) dL_law_1381 rfl (kX10_feed hg) ?_
  exact V_icmp_eq C dL_law_1384 (tgt := 1771) rfl rfl (fun _ => hgo _ hI2) (fun z => absurd rfl z)
theorem lw_c35 (C : Cx ad G X cL_law "CarryFairLaw" 13 480) (Z : Scr X b L xs) (hin : lwIn i L) (hI : Inv u) (hgo : ∀ u, Inv u → V shs ad G X 1771 (lwL b ad i) [] u) : V shs ad G X 1389 (lwL b ad i) [] u := by
  obtain ⟨x, u1, u2, hf, hg, hI2⟩ := s_wipe hI
  refine V_aload_n C 2 dL_law_1389 rfl rfl rfl ?_
  refine V_cVi C (b := 0) (As := []) (st := []) cf9 rfl M_X9_wipe (show Cond.methodLink "CarryFairLaw" 157 yX9_wipe ∈ BW from bw 854 (by decide +kernel) (by decide +kernel)) ⟨by decide, by decide⟩ rfl rfl (Nat.le_of_ble_eq_true rfl) dL_law_1390 rfl (kX9_wipe (Option.some.inj hf)) ?_
  refine V_aload_n C 1 dL_law_1393 rfl rfl rfl ?_
  refine V_cVi C (b := 116) (As := []) (st := [.int x]) cf10 rfl M_X10_wipe (show Cond.methodLink "CarryFairLaw" 161 yX10_wipe ∈ BW from bw 1530 (by decide +kernel) (by decide +kernel)) ⟨by decide, by decide⟩ rfl rfl (Nat.le_of_ble_eq_true rfl) dL_law_1394 rfl (kX10_wipe (Option.some.inj hg)) ?_
  exact V_icmp_eq C dL_law_1397 (tgt := 1771) rfl rfl (fun _ => hgo _ hI2) (fun z => absurd rfl z)
theorem lw_c36 (C : Cx ad G X cL_law "CarryFairLaw" 13 480) (Z : Scr X b L xs) (hin : lwIn i L) (hI : Inv u) (hgo : ∀ u, Inv u → V shs ad G X 1771 (lwL b ad i) [] u) : V shs ad G X 1402 (lwL b ad i) [] u := by
  obtain ⟨x, u1, u2, hf, hg, hI2⟩ := s_text hI
  refine V_aload_n C 2 dL_law_1402 rfl rfl rfl ?_
  refine V_cVi C (b := 0) (As := []) (st := []) cf9 rfl M_X9_text (show Cond.methodLink "CarryFairLaw" 162 yX9_text ∈ BW from bw 858 (by decide +kernel) (by decide +kernel)) ⟨by decide, by decide⟩ rfl rfl (Nat.le_of_ble_eq_true rfl) dL_law_1403 rfl (kX9_text hf) ?_
  refine V_aload_n C 1 dL_law_1406 rfl rfl rfl ?_
  refine V_cVi C (b := 116) (As := []) (st := [.int x]) cf10 rfl M_X10_text (show Cond.methodLink "CarryFairLaw" 165 yX10_text ∈ BW from bw 1534 (by decide +kernel) (by decide +kernel)) ⟨by decide, by decide⟩ rfl rfl (Nat.le_of_ble_eq_true rfl) dL_law_1407 rfl (kX10_text hg) ?_
  exact V_icmp_eq C dL_law_1410 (tgt := 1771) rfl rfl (fun _ => hgo _ hI2) (fun z => absurd rfl z)
theorem lw_c37 (C : Cx ad G X cL_law "CarryFairLaw" 13 480) (Z : Scr X b L xs) (hin : lwIn i L) (hI : Inv u) (hgo : ∀ u, Inv u → V shs ad G X 1771 (lwL b ad i) [] u) : V shs ad G X 1415 (lwL b ad i) [] u := by
  obtain ⟨x, u1, u2, hf, hg, hI2⟩ := s_hold hI (xs (i + 1).toNatClampNeg) (xs (i + 2).toNatClampNeg)
  refine V_aload_n C 2 dL_law_1415 rfl rfl rfl ?_
  refine V_sarg C Z (k := 1) rfl rfl dL_law_1416 dL_law_1417 dL_law_1418 dL_law_1419 dL_law_1420 rfl hin.2.1 rfl ?_
  refine V_sarg C Z (k := 2) rfl rfl dL_law_1421 dL_law_1422 dL_law_1423 dL_law_1424 dL_law_1425 rfl hin.2.2.1 rfl ?_
  refine V_cVi C (b := 0) (As := [.int (xs (i + 1).toNatClampNeg), .int (xs (i + 2).toNatClampNeg)]) (st := []) cf9 rfl M_X9_hold (show Cond.methodLink "CarryFairLaw" 166 yX9_hold ∈ BW from bw 985 (by decide +kernel) (by decide +kernel)) ⟨by decide, by decide⟩ rfl rfl (Nat.le_of_ble_eq_true rfl) dL_law_1426 rfl (kX9_hold hf) ?_
  refine V_aload_n C 1 dL_law_1429 rfl rfl rfl ?_
  refine V_sarg C Z (k := 1) rfl rfl dL_law_1430 dL_law_1431 dL_law_1432 dL_law_1433 dL_law_1434 rfl hin.2.1 rfl ?_
  refine V_sarg C Z (k := 2) rfl rfl dL_law_1435 dL_law_1436 dL_law_1437 dL_law_1438 dL_law_1439 rfl hin.2.2.1 rfl ?_
  refine V_cVi C (b := 116) (As := [.int (xs (i + 1).toNatClampNeg), .int (xs (i + 2).toNatClampNeg)]) (st := [.int x]) cf10 rfl M_X10_hold (show Cond.methodLink "CarryFairLaw" 169 yX10_hold ∈ BW from bw 1593 (by decide +kernel) (by decide +kernel)) ⟨by decide, by decide⟩ rfl rfl (Nat.le_of_ble_eq_true rfl) dL_law_1440 rfl (kX10_hold hg) ?_
  exact V_icmp_eq C dL_law_1443 (tgt := 1771) rfl rfl (fun _ => hgo _ hI2) (fun z => absurd rfl z)
theorem lw_c38 (C : Cx ad G X cL_law "CarryFairLaw" 13 480) (Z : Scr X b L xs) (hin : lwIn i L) (hI : Inv u) (hgo : ∀ u, Inv u → V shs ad G X 1771 (lwL b ad i) [] u) : V shs ad G X 1448 (lwL b ad i) [] u := by
  obtain ⟨x, u1, u2, hf, hg, hI2⟩ := s_as hI (xs (i + 1).toNatClampNeg) (xs (i + 2).toNatClampNeg)
  refine V_aload_n C 2 dL_law_1448 rfl rfl rfl ?_
  refine V_sarg C Z (k := 1) rfl rfl dL_law_1449 dL_law_1450 dL_law_1451 dL_law_1452 dL_law_1453 rfl hin.2.1 rfl ?_
  refine V_sarg C Z (k := 2) rfl rfl dL_law_1454 dL_law_1455 dL_law_1456 dL_law_1457 dL_law_1458 rfl hin.2.2.1 rfl ?_
  refine V_cVi C (b := 0) (As := [.int (xs (i + 1).toNatClampNeg), .int (xs (i + 2).toNatClampNeg)]) (st := []) cf9 rfl M_X9_as (show Cond.methodLink "CarryFairLaw" 170 yX9_as ∈ BW from bw 989 (by decide +kernel) (by decide +kernel)) ⟨by decide, by decide⟩ rfl rfl (Nat.le_of_ble_eq_true rfl) dL_law_1459 rfl (kX9_as hf) ?_
  refine V_aload_n C 1 dL_law_1462 rfl rfl rfl ?_
  refine V_sarg C Z (k := 1) rfl rfl dL_law_1463 dL_law_1464 dL_law_1465 dL_law_1466 dL_law_1467 rfl hin.2.1 rfl ?_
  refine V_sarg C Z (k := 2) rfl rfl dL_law_1468 dL_law_1469 dL_law_1470 dL_law_1471 dL_law_1472 rfl hin.2.2.1 rfl ?_
  refine V_cVi C (b := 116) (As := [.int (xs (i + 1).toNatClampNeg), .int (xs (i + 2).toNatClampNeg)]) (st := [.int x]) cf10 rfl M_X10_as (show Cond.methodLink "CarryFairLaw" 173 yX10_as ∈ BW from bw 1600 (by decide +kernel) (by decide +kernel)) ⟨by decide, by decide⟩ rfl rfl (Nat.le_of_ble_eq_true rfl) dL_law_1473 rfl (kX10_as hg) ?_
  exact V_icmp_eq C dL_law_1476 (tgt := 1771) rfl rfl (fun _ => hgo _ hI2) (fun z => absurd rfl z)
theorem lw_c39 (C : Cx ad G X cL_law "CarryFairLaw" 13 480) (Z : Scr X b L xs) (hin : lwIn i L) (hI : Inv u) (hgo : ∀ u, Inv u → V shs ad G X 1771 (lwL b ad i) [] u) : V shs ad G X 1481 (lwL b ad i) [] u := by
  obtain ⟨x, u1, u2, hf, hg, hI2⟩ := s_sheet hI (xs (i + 1).toNatClampNeg) (xs (i + 2).toNatClampNeg) (xs (i + 3).toNatClampNeg)
  refine V_aload_n C 2 dL_law_1481 rfl rfl rfl ?_
  refine V_sarg C Z (k := 1) rfl rfl dL_law_1482 dL_law_1483 dL_law_1484 dL_law_1485 dL_law_1486 rfl hin.2.1 rfl ?_
  refine V_sarg C Z (k := 2) rfl rfl dL_law_1487 dL_law_1488 dL_law_1489 dL_law_1490 dL_law_1491 rfl hin.2.2.1 rfl ?_
  refine V_sarg C Z (k := 3) rfl rfl dL_law_1492 dL_law_1493 dL_law_1494 dL_law_1495 dL_law_1496 rfl hin.2.2.2.1 rfl ?_
  refine V_cVi C (b := 0) (As := [.int (xs (i + 1).toNatClampNeg), .int (xs (i + 2).toNatClampNeg), .int (xs (i + 3).toNatClampNeg)]) (st := []) cf9 rfl M_X9_sheet (show Cond.methodLink "CarryFairLaw" 174 yX9_sheet ∈ BW from bw 1000 (by decide +kernel) (by decide +kernel)) ⟨by decide, by decide⟩ rfl rfl (Nat.le_of_ble_eq_true rfl) dL_law_1497 rfl (kX9_sheet hf) ?_
  refine V_aload_n C 1 dL_law_1500 rfl rfl rfl ?_
  refine V_sarg C Z (k := 1) rfl rfl dL_law_1501 dL_law_1502 dL_law_1503 dL_law_1504 dL_law_1505 rfl hin.2.1 rfl ?_
  refine V_sarg C Z (k := 2) rfl rfl dL_law_1506 dL_law_1507 dL_law_1508 dL_law_1509 dL_law_1510 rfl hin.2.2.1 rfl ?_
  refine V_sarg C Z (k := 3) rfl rfl dL_law_1511 dL_law_1512 dL_law_1513 dL_law_1514 dL_law_1515 rfl hin.2.2.2.1 rfl ?_
  refine V_cVi C (b := 116) (As := [.int (xs (i + 1).toNatClampNeg), .int (xs (i + 2).toNatClampNeg), .int (xs (i + 3).toNatClampNeg)]) (st := [.int x]) cf10 rfl M_X10_sheet (show Cond.methodLink "CarryFairLaw" 177 yX10_sheet ∈ BW from bw 1606 (by decide +kernel) (by decide +kernel)) ⟨by decide, by decide⟩ rfl rfl (Nat.le_of_ble_eq_true rfl) dL_law_1516 rfl (kX10_sheet hg) ?_
  exact V_icmp_eq C dL_law_1519 (tgt := 1771) rfl rfl (fun _ => hgo _ hI2) (fun z => absurd rfl z)
theorem lw_c40 (C : Cx ad G X cL_law "CarryFairLaw" 13 480) (Z : Scr X b L xs) (hin : lwIn i L) (hI : Inv u) (hgo : ∀ u, Inv u → V shs ad G X 1771 (lwL b ad i) [] u) : V shs ad G X 1524 (lwL b ad i) [] u := by
  obtain ⟨x, u1, u2, hf, hg, hI2⟩ := s_write hI (xs (i + 1).toNatClampNeg) (xs (i + 2).toNatClampNeg) (xs (i + 3).toNatClampNeg)
  refine V_aload_n C 2 dL_law_1524 rfl rfl rfl ?_
  refine V_sarg C Z (k := 1) rfl rfl dL_law_1525 dL_law_1526 dL_law_1527 dL_law_1528 dL_law_1529 rfl hin.2.1 rfl ?_
  refine V_sarg C Z (k := 2) rfl rfl dL_law_1530 dL_law_1531 dL_law_1532 dL_law_1533 dL_law_1534 rfl hin.2.2.1 rfl ?_
  refine V_sarg C Z (k := 3) rfl rfl dL_law_1535 dL_law_1536 dL_law_1537 dL_law_1538 dL_law_1539 rfl hin.2.2.2.1 rfl ?_
  refine V_cVi C (b := 0) (As := [.int (xs (i + 1).toNatClampNeg), .int (xs (i + 2).toNatClampNeg), .int (xs (i + 3).toNatClampNeg)]) (st := []) cf9 rfl M_X9_write (show Cond.methodLink "CarryFairLaw" 178 yX9_write ∈ BW from bw 1012 (by decide +kernel) (by decide +kernel)) ⟨by decide, by decide⟩ rfl rfl (Nat.le_of_ble_eq_true rfl) dL_law_1540 rfl (kX9_write hf) ?_
  refine V_aload_n C 1 dL_law_1543 rfl rfl rfl ?_
  refine V_sarg C Z (k := 1) rfl rfl dL_law_1544 dL_law_1545 dL_law_1546 dL_law_1547 dL_law_1548 rfl hin.2.1 rfl ?_
  refine V_sarg C Z (k := 2) rfl rfl dL_law_1549 dL_law_1550 dL_law_1551 dL_law_1552 dL_law_1553 rfl hin.2.2.1 rfl ?_
  refine V_sarg C Z (k := 3) rfl rfl dL_law_1554 dL_law_1555 dL_law_1556 dL_law_1557 dL_law_1558 rfl hin.2.2.2.1 rfl ?_
  refine V_cVi C (b := 116) (As := [.int (xs (i + 1).toNatClampNeg), .int (xs (i + 2).toNatClampNeg), .int (xs (i + 3).toNatClampNeg)]) (st := [.int x]) cf10 rfl M_X10_write (show Cond.methodLink "CarryFairLaw" 181 yX10_write ∈ BW from bw 1614 (by decide +kernel) (by decide +kernel)) ⟨by decide, by decide⟩ rfl rfl (Nat.le_of_ble_eq_true rfl) dL_law_1559 rfl (kX10_write hg) ?_
  exact V_icmp_eq C dL_law_1562 (tgt := 1771) rfl rfl (fun _ => hgo _ hI2) (fun z => absurd rfl z)
theorem lw_c41 (C : Cx ad G X cL_law "CarryFairLaw" 13 480) (Z : Scr X b L xs) (hin : lwIn i L) (hI : Inv u) (hgo : ∀ u, Inv u → V shs ad G X 1771 (lwL b ad i) [] u) : V shs ad G X 1567 (lwL b ad i) [] u := by
  obtain ⟨x, u1, u2, hf, hg, hI2⟩ := s_copy hI (xs (i + 1).toNatClampNeg) (xs (i + 2).toNatClampNeg) (xs (i + 3).toNatClampNeg) (xs (i + 4).toNatClampNeg) (xs (i + 5).toNatClampNeg)
  refine V_aload_n C 2 dL_law_1567 rfl rfl rfl ?_
  refine V_sarg C Z (k := 1) rfl rfl dL_law_1568 dL_law_1569 dL_law_1570 dL_law_1571 dL_law_1572 rfl hin.2.1 rfl ?_
  refine V_sarg C Z (k := 2) rfl rfl dL_law_1573 dL_law_1574 dL_law_1575 dL_law_1576 dL_law_1577 rfl hin.2.2.1 rfl ?_
  refine V_sarg C Z (k := 3) rfl rfl dL_law_1578 dL_law_1579 dL_law_1580 dL_law_1581 dL_law_1582 rfl hin.2.2.2.1 rfl ?_
  refine V_sarg C Z (k := 4) rfl rfl dL_law_1583 dL_law_1584 dL_law_1585 dL_law_1586 dL_law_1587 rfl hin.2.2.2.2.1 rfl ?_
  refine V_sarg C Z (k := 5) rfl rfl dL_law_1588 dL_law_1589 dL_law_1590 dL_law_1591 dL_law_1592 rfl hin.2.2.2.2.2 rfl ?_
  refine V_cVi C (b := 0) (As := [.int (xs (i + 1).toNatClampNeg), .int (xs (i + 2).toNatClampNeg), .int (xs (i + 3).toNatClampNeg), .int (xs (i + 4).toNatClampNeg), .int (xs (i + 5).toNatClampNeg)]) (st := []) cf9 rfl M_X9_copy (show Cond.methodLink "CarryFairLaw" 182 yX9_copy ∈ BW from bw 1024 (by decide +kernel) (by decide +kernel)) ⟨by decide, by decide⟩ rfl rfl (Nat.le_of_ble_eq_true rfl) dL_law_1593 rfl (kX9_copy hf) ?_
  refine V_aload_n C 1 dL_law_1596 rfl rfl rfl ?_
  refine V_sarg C Z (k := 1) rfl rfl dL_law_1597 dL_law_1598 dL_law_1599 dL_law_1600 dL_law_1601 rfl hin.2.1 rfl ?_
  refine V_sarg C Z (k := 2) rfl rfl dL_law_1602 dL_law_1603 dL_law_1604 dL_law_1605 dL_law_1606 rfl hin.2.2.1 rfl ?_
  refine V_sarg C Z (k := 3) rfl rfl dL_law_1607 dL_law_1608 dL_law_1609 dL_law_1610 dL_law_1611 rfl hin.2.2.2.1 rfl ?_
  refine V_sarg C Z (k := 4) rfl rfl dL_law_1612 dL_law_1613 dL_law_1614 dL_law_1615 dL_law_1616 rfl hin.2.2.2.2.1 rfl ?_
  refine V_sarg C Z (k := 5) rfl rfl dL_law_1617 dL_law_1618 dL_law_1619 dL_law_1620 dL_law_1621 rfl hin.2.2.2.2.2 rfl ?_
  refine V_cVi C (b := 116) (As := [.int (xs (i + 1).toNatClampNeg), .int (xs (i + 2).toNatClampNeg), .int (xs (i + 3).toNatClampNeg), .int (xs (i + 4).toNatClampNeg), .int (xs (i + 5).toNatClampNeg)]) (st := [.int x]) cf10 rfl M_X10_copy (show Cond.methodLink "CarryFairLaw" 186 yX10_copy ∈ BW from bw 1621 (by decide +kernel) (by decide +kernel)) ⟨by decide, by decide⟩ rfl rfl (Nat.le_of_ble_eq_true rfl) dL_law_1622 rfl (kX10_copy hg) ?_
  exact V_icmp_eq C dL_law_1625 (tgt := 1771) rfl rfl (fun _ => hgo _ hI2) (fun z => absurd rfl z)
theorem lw_c42 (C : Cx ad G X cL_law "CarryFairLaw" 13 480) (Z : Scr X b L xs) (hin : lwIn i L) (hI : Inv u) (hgo : ∀ u, Inv u → V shs ad G X 1771 (lwL b ad i) [] u) : V shs ad G X 1630 (lwL b ad i) [] u := by
  obtain ⟨x, u1, u2, hf, hg, hI2⟩ := s_load hI (xs (i + 1).toNatClampNeg)
  refine V_aload_n C 2 dL_law_1630 rfl rfl rfl ?_
  refine V_sarg C Z (k := 1) rfl rfl dL_law_1631 dL_law_1632 dL_law_1633 dL_law_1634 dL_law_1635 rfl hin.2.1 rfl ?_
  refine V_cVi C (b := 0) (As := [.int (xs (i + 1).toNatClampNeg)]) (st := []) cf9 rfl M_X9_load (show Cond.methodLink "CarryFairLaw" 187 yX9_load ∈ BW from bw 1034 (by decide +kernel) (by decide +kernel)) ⟨by decide, by decide⟩ rfl rfl (Nat.le_of_ble_eq_true rfl) dL_law_1636 rfl (kX9_load hf) ?_
  refine V_aload_n C 1 dL_law_1639 rfl rfl rfl ?_
  refine V_sarg C Z (k := 1) rfl rfl dL_law_1640 dL_law_1641 dL_law_1642 dL_law_1643 dL_law_1644 rfl hin.2.1 rfl ?_
  refine V_cVi C (b := 116) (As := [.int (xs (i + 1).toNatClampNeg)]) (st := [.int x]) cf10 rfl M_X10_load (show Cond.methodLink "CarryFairLaw" 190 yX10_load ∈ BW from bw 1625 (by decide +kernel) (by decide +kernel)) ⟨by decide, by decide⟩ rfl rfl (Nat.le_of_ble_eq_true rfl) dL_law_1645 rfl (kX10_load hg) ?_
  exact V_icmp_eq C dL_law_1648 (tgt := 1771) rfl rfl (fun _ => hgo _ hI2) (fun z => absurd rfl z)
theorem lw_c43 (C : Cx ad G X cL_law "CarryFairLaw" 13 480) (Z : Scr X b L xs) (hin : lwIn i L) (hI : Inv u) (hgo : ∀ u, Inv u → V shs ad G X 1771 (lwL b ad i) [] u) : V shs ad G X 1653 (lwL b ad i) [] u := by
  obtain ⟨x, u1, u2, hf, hg, hI2⟩ := s_judge hI (xs (i + 1).toNatClampNeg) (xs (i + 2).toNatClampNeg)
  refine V_aload_n C 2 dL_law_1653 rfl rfl rfl ?_
  refine V_sarg C Z (k := 1) rfl rfl dL_law_1654 dL_law_1655 dL_law_1656 dL_law_1657 dL_law_1658 rfl hin.2.1 rfl ?_
  refine V_sarg C Z (k := 2) rfl rfl dL_law_1659 dL_law_1660 dL_law_1661 dL_law_1662 dL_law_1663 rfl hin.2.2.1 rfl ?_
  refine V_cVi C (b := 0) (As := [.int (xs (i + 1).toNatClampNeg), .int (xs (i + 2).toNatClampNeg)]) (st := []) cf9 rfl M_X9_judge (show Cond.methodLink "CarryFairLaw" 191 yX9_judge ∈ BW from bw 1038 (by decide +kernel) (by decide +kernel)) ⟨by decide, by decide⟩ rfl rfl (Nat.le_of_ble_eq_true rfl) dL_law_1664 rfl (kX9_judge hf) ?_
  refine V_aload_n C 1 dL_law_1667 rfl rfl rfl ?_
  refine V_sarg C Z (k := 1) rfl rfl dL_law_1668 dL_law_1669 dL_law_1670 dL_law_1671 dL_law_1672 rfl hin.2.1 rfl ?_
  refine V_sarg C Z (k := 2) rfl rfl dL_law_1673 dL_law_1674 dL_law_1675 dL_law_1676 dL_law_1677 rfl hin.2.2.1 rfl ?_
  refine V_cVi C (b := 116) (As := [.int (xs (i + 1).toNatClampNeg), .int (xs (i + 2).toNatClampNeg)]) (st := [.int x]) cf10 rfl M_X10_judge (show Cond.methodLink "CarryFairLaw" 194 yX10_judge ∈ BW from bw 1629 (by decide +kernel) (by decide +kernel)) ⟨by decide, by decide⟩ rfl rfl (Nat.le_of_ble_eq_true rfl) dL_law_1678 rfl (kX10_judge hg) ?_
  exact V_icmp_eq C dL_law_1681 (tgt := 1771) rfl rfl (fun _ => hgo _ hI2) (fun z => absurd rfl z)
theorem lw_c44 (C : Cx ad G X cL_law "CarryFairLaw" 13 480) (Z : Scr X b L xs) (hin : lwIn i L) (hI : Inv u) (hgo : ∀ u, Inv u → V shs ad G X 1771 (lwL b ad i) [] u) : V shs ad G X 1686 (lwL b ad i) [] u := by
  obtain ⟨x, u1, u2, hf, hg, hI2⟩ := s_image hI
  refine V_aload_n C 2 dL_law_1686 rfl rfl rfl ?_
  refine V_cVi C (b := 0) (As := []) (st := []) cf9 rfl M_X9_image (show Cond.methodLink "CarryFairLaw" 195 yX9_image ∈ BW from bw 1043 (by decide +kernel) (by decide +kernel)) ⟨by decide, by decide⟩ rfl rfl (Nat.le_of_ble_eq_true rfl) dL_law_1687 rfl (kX9_image hf) ?_
  refine V_aload_n C 1 dL_law_1690 rfl rfl rfl ?_
  refine V_cVi C (b := 116) (As := []) (st := [.int x]) cf10 rfl M_X10_image (show Cond.methodLink "CarryFairLaw" 198 yX10_image ∈ BW from bw 1633 (by decide +kernel) (by decide +kernel)) ⟨by decide, by decide⟩ rfl rfl (Nat.le_of_ble_eq_true rfl) dL_law_1691 rfl (kX10_image hg) ?_
  exact V_icmp_eq C dL_law_1694 (tgt := 1771) rfl rfl (fun _ => hgo _ hI2) (fun z => absurd rfl z)
theorem lw_c45 (C : Cx ad G X cL_law "CarryFairLaw" 13 480) (Z : Scr X b L xs) (hin : lwIn i L) (hI : Inv u) (hgo : ∀ u, Inv u → V shs ad G X 1771 (lwL b ad i) [] u) : V shs ad G X 1699 (lwL b ad i) [] u := by
  obtain ⟨x, u1, u2, hf, hg, hI2⟩ := s_undo hI
  refine V_aload_n C 2 dL_law_1699 rfl rfl rfl ?_
  refine V_cVi C (b := 0) (As := []) (st := []) cf9 rfl M_X9_undo (show Cond.methodLink "CarryFairLaw" 199 yX9_undo ∈ BW from bw 1047 (by decide +kernel) (by decide +kernel)) ⟨by decide, by decide⟩ rfl rfl (Nat.le_of_ble_eq_true rfl) dL_law_1700 rfl (kX9_undo hf) ?_
  refine V_aload_n C 1 dL_law_1703 rfl rfl rfl ?_
  refine V_cVi C (b := 116) (As := []) (st := [.int x]) cf10 rfl M_X10_undo (show Cond.methodLink "CarryFairLaw" 202 yX10_undo ∈ BW from bw 1637 (by decide +kernel) (by decide +kernel)) ⟨by decide, by decide⟩ rfl rfl (Nat.le_of_ble_eq_true rfl) dL_law_1704 rfl (kX10_undo hg) ?_
  exact V_icmp_eq C dL_law_1707 (tgt := 1771) rfl rfl (fun _ => hgo _ hI2) (fun z => absurd rfl z)
theorem lw_c46 (C : Cx ad G X cL_law "CarryFairLaw" 13 480) (Z : Scr X b L xs) (hin : lwIn i L) (hI : Inv u) (hgo : ∀ u, Inv u → V shs ad G X 1771 (lwL b ad i) [] u) : V shs ad G X 1712 (lwL b ad i) [] u := by
  obtain ⟨x, u1, u2, hf, hg, hI2⟩ := s_tear hI
  refine V_aload_n C 2 dL_law_1712 rfl rfl rfl ?_
  refine V_cVi C (b := 0) (As := []) (st := []) cf9 rfl M_X9_tear (show Cond.methodLink "CarryFairLaw" 203 yX9_tear ∈ BW from bw 1051 (by decide +kernel) (by decide +kernel)) ⟨by decide, by decide⟩ rfl rfl (Nat.le_of_ble_eq_true rfl) dL_law_1713 rfl (kX9_tear (Option.some.inj hf)) ?_
  refine V_aload_n C 1 dL_law_1716 rfl rfl rfl ?_
  refine V_cVi C (b := 116) (As := []) (st := [.int x]) cf10 rfl M_X10_tear (show Cond.methodLink "CarryFairLaw" 206 yX10_tear ∈ BW from bw 1641 (by decide +kernel) (by decide +kernel)) ⟨by decide, by decide⟩ rfl rfl (Nat.le_of_ble_eq_true rfl) dL_law_1717 rfl (kX10_tear (Option.some.inj hg)) ?_
  exact V_icmp_eq C dL_law_1720 (tgt := 1771) rfl rfl (fun _ => hgo _ hI2) (fun z => absurd rfl z)
theorem lw_c47 (C : Cx ad G X cL_law "CarryFairLaw" 13 480) (Z : Scr X b L xs) (hin : lwIn i L) (hI : Inv u) (hgo : ∀ u, Inv u → V shs ad G X 1771 (lwL b ad i) [] u) : V shs ad G X 1725 (lwL b ad i) [] u := by
  obtain ⟨x, u1, u2, hf, hg, hI2⟩ := s_count hI (xs (i + 1).toNatClampNeg)
  refine V_aload_n C 2 dL_law_1725 rfl rfl rfl ?_
  refine V_sarg C Z (k := 1) rfl rfl dL_law_1726 dL_law_1727 dL_law_1728 dL_law_1729 dL_law_1730 rfl hin.2.1 rfl ?_
  refine V_cVi C (b := 0) (As := [.int (xs (i + 1).toNatClampNeg)]) (st := []) cf9 rfl M_X9_count (show Cond.methodLink "CarryFairLaw" 207 yX9_count ∈ BW from bw 1055 (by decide +kernel) (by decide +kernel)) ⟨by decide, by decide⟩ rfl rfl (Nat.le_of_ble_eq_true rfl) dL_law_1731 rfl (kX9_count hf) ?_
  refine V_aload_n C 1 dL_law_1734 rfl rfl rfl ?_
  refine V_sarg C Z (k := 1) rfl rfl dL_law_1735 dL_law_1736 dL_law_1737 dL_law_1738 dL_law_1739 rfl hin.2.1 rfl ?_
  refine V_cVi C (b := 116) (As := [.int (xs (i + 1).toNatClampNeg)]) (st := [.int x]) cf10 rfl M_X10_count (show Cond.methodLink "CarryFairLaw" 210 yX10_count ∈ BW from bw 1645 (by decide +kernel) (by decide +kernel)) ⟨by decide, by decide⟩ rfl rfl (Nat.le_of_ble_eq_true rfl) dL_law_1740 rfl (kX10_count hg) ?_
  exact V_icmp_eq C dL_law_1743 (tgt := 1771) rfl rfl (fun _ => hgo _ hI2) (fun z => absurd rfl z)
theorem lw_c48 (C : Cx ad G X cL_law "CarryFairLaw" 13 480) (Z : Scr X b L xs) (hin : lwIn i L) (hI : Inv u) (hgo : ∀ u, Inv u → V shs ad G X 1771 (lwL b ad i) [] u) : V shs ad G X 1748 (lwL b ad i) [] u := by
  obtain ⟨x, u1, u2, hf, hg, hI2⟩ := s_status hI (xs (i + 1).toNatClampNeg)
  refine V_aload_n C 2 dL_law_1748 rfl rfl rfl ?_
  refine V_sarg C Z (k := 1) rfl rfl dL_law_1749 dL_law_1750 dL_law_1751 dL_law_1752 dL_law_1753 rfl hin.2.1 rfl ?_
  refine V_cVi C (b := 0) (As := [.int (xs (i + 1).toNatClampNeg)]) (st := []) cf9 rfl M_X9_status (show Cond.methodLink "CarryFairLaw" 211 yX9_status ∈ BW from bw 1063 (by decide +kernel) (by decide +kernel)) ⟨by decide, by decide⟩ rfl rfl (Nat.le_of_ble_eq_true rfl) dL_law_1754 rfl (kX9_status hf) ?_
  refine V_aload_n C 1 dL_law_1757 rfl rfl rfl ?_
  refine V_sarg C Z (k := 1) rfl rfl dL_law_1758 dL_law_1759 dL_law_1760 dL_law_1761 dL_law_1762 rfl hin.2.1 rfl ?_
  refine V_cVi C (b := 116) (As := [.int (xs (i + 1).toNatClampNeg)]) (st := [.int x]) cf10 rfl M_X10_status (show Cond.methodLink "CarryFairLaw" 214 yX10_status ∈ BW from bw 1649 (by decide +kernel) (by decide +kernel)) ⟨by decide, by decide⟩ rfl rfl (Nat.le_of_ble_eq_true rfl) dL_law_1763 rfl (kX10_status hg) ?_
  exact V_icmp_eq C dL_law_1766 (tgt := 1771) rfl rfl (fun _ => hgo _ hI2) (fun z => absurd rfl z)
end LAW
