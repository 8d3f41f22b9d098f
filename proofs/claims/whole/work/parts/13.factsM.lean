theorem oi_RX10_1 : Cond.methodLink RX10 1 objectInit ∈ gtbl := gm 1176 (by decide +kernel) rfl
theorem oi_inst : Cond.instanceMethod objectInit ∈ gtbl := gm 94 (by decide +kernel) rfl
theorem oi_code : Cond.code objectInit ⟨#[0xb1]⟩ 1 none ∈ gtbl := gm 95 (by decide +kernel) rfl
theorem ac_int : Cond.arrayClass .int ∈ gtbl := gm 137 (by decide +kernel) rfl
theorem fp_RX10_7 : FP RX10 7 11 0 (.array .int) true := FP.of "RegisterGatewayModel" rfl (by decide) (gm 1178 (by decide +kernel) rfl) (Or.inl rfl) rfl (by decide +kernel) (fun _ => rfl)
theorem in_c11 : ∀ w ∈ u_ws RX10 TX10 19, w ∈ gtbl := by
  have e : u_ws RX10 TX10 19 = [.laysFinal RX10 "RegisterGatewayModel" "v" "[I", .laysFinal RX10 "RegisterGatewayModel" "aside" "[I", .lays RX10 "RegisterGatewayModel" "thrown" "I", .lays RX10 "RegisterGatewayModel" "members" "J", .lays RX10 "RegisterGatewayModel" "first" "I", .lays RX10 "RegisterGatewayModel" "low" "I", .lays RX10 "RegisterGatewayModel" "high" "I", .lays RX10 "RegisterGatewayModel" "isWrite" "Z", .lays RX10 "RegisterGatewayModel" "device" "I", .laysFinal RX10 "RegisterGatewayModel" "frame" "[I", .lays RX10 "RegisterGatewayModel" "length" "I", .laysFinal RX10 "RegisterGatewayModel" "written" "[I", .laysFinal RX10 "RegisterGatewayModel" "taken" "[I", .lays RX10 "RegisterGatewayModel" "hears" "I", .lays RX10 "RegisterGatewayModel" "isBroken" "Z", .lays RX10 "RegisterGatewayModel" "running" "I", .laysFinal RX10 "RegisterGatewayModel" "verdicts" "[I", .laysFinal RX10 "RegisterGatewayModel" "lengths" "[I", .lays RX10 "RegisterGatewayModel" "ended" "I"] := rfl
  rw [e]
  exact fallc (gm 1197 (by decide +kernel) rfl) (fallc (gm 1199 (by decide +kernel) rfl) (fallc (gm 1201 (by decide +kernel) rfl) (fallc (gm 1203 (by decide +kernel) rfl) (fallc (gm 1205 (by decide +kernel) rfl) (fallc (gm 1207 (by decide +kernel) rfl) (fallc (gm 1209 (by decide +kernel) rfl) (fallc (gm 1211 (by decide +kernel) rfl) (fallc (gm 1213 (by decide +kernel) rfl) (fallc (gm 1215 (by decide +kernel) rfl) (fallc (gm 1217 (by decide +kernel) rfl) (fallc (gm 1219 (by decide +kernel) rfl) (fallc (gm 1221 (by decide +kernel) rfl) (fallc (gm 1223 (by decide +kernel) rfl) (fallc (gm 1225 (by decide +kernel) rfl) (fallc (gm 1227 (by decide +kernel) rfl) (fallc (gm 1229 (by decide +kernel) rfl) (fallc (gm 1231 (by decide +kernel) rfl) (fallc (gm 1233 (by decide +kernel) rfl) (falln)))))))))))))))))))
theorem cw_11 : CW 11 := ⟨RX10, TX10, 19, tyX10, rfl, in_c11, tyX10_ok, nmX10, (gm 1172 (by decide +kernel) rfl), (gm 73 (by decide +kernel) rfl), fun j hj => by
    rcases (show j = 0 ∨ j = 1 ∨ j = 2 ∨ j = 3 ∨ j = 4 ∨ j = 5 ∨ j = 6 ∨ j = 7 ∨ j = 8 ∨ j = 9 ∨ j = 10 ∨ j = 11 ∨ j = 12 ∨ j = 13 ∨ j = 14 ∨ j = 15 ∨ j = 16 ∨ j = 17 ∨ j = 18 by omega) with rfl | rfl | rfl | rfl | rfl | rfl | rfl | rfl | rfl | rfl | rfl | rfl | rfl | rfl | rfl | rfl | rfl | rfl | rfl <;> rfl⟩
theorem fp_RX10_13 : FP RX10 13 11 1 (.array .int) true := FP.of "RegisterGatewayModel" rfl (by decide) (gm 1179 (by decide +kernel) rfl) (Or.inl rfl) rfl (by decide +kernel) (fun _ => rfl)
theorem fp_RX10_16 : FP RX10 16 11 9 (.array .int) true := FP.of "RegisterGatewayModel" rfl (by decide) (gm 1187 (by decide +kernel) rfl) (Or.inl rfl) rfl (by decide +kernel) (fun _ => rfl)
theorem fp_RX10_19 : FP RX10 19 11 11 (.array .int) true := FP.of "RegisterGatewayModel" rfl (by decide) (gm 1189 (by decide +kernel) rfl) (Or.inl rfl) rfl (by decide +kernel) (fun _ => rfl)
theorem fp_RX10_22 : FP RX10 22 11 12 (.array .int) true := FP.of "RegisterGatewayModel" rfl (by decide) (gm 1190 (by decide +kernel) rfl) (Or.inl rfl) rfl (by decide +kernel) (fun _ => rfl)
theorem kc_RX10_25 : Cond.constant RX10 25 (65535) ∈ gtbl := gm 1177 (by decide +kernel) rfl
theorem fp_RX10_26 : FP RX10 26 11 15 (.int) false := FP.of "RegisterGatewayModel" rfl (by decide) (gm 1193 (by decide +kernel) rfl) (Or.inl rfl) rfl (by decide +kernel) (fun h => by cases h)
theorem fp_RX10_30 : FP RX10 30 11 16 (.array .int) true := FP.of "RegisterGatewayModel" rfl (by decide) (gm 1194 (by decide +kernel) rfl) (Or.inl rfl) rfl (by decide +kernel) (fun _ => rfl)
theorem fp_RX10_33 : FP RX10 33 11 17 (.array .int) true := FP.of "RegisterGatewayModel" rfl (by decide) (gm 1195 (by decide +kernel) rfl) (Or.inl rfl) rfl (by decide +kernel) (fun _ => rfl)
theorem fw_RX10_7 : FW RX10 7 11 0 := FW.of "RegisterGatewayModel" rfl (by decide) in_c11 (gm 1178 (by decide +kernel) rfl) (Or.inl rfl)
theorem fw_RX10_36 : FW RX10 36 11 2 := FW.of "RegisterGatewayModel" rfl (by decide) in_c11 (gm 1180 (by decide +kernel) rfl) (Or.inl rfl)
theorem fp_RX10_36 : FP RX10 36 11 2 (.int) false := FP.of "RegisterGatewayModel" rfl (by decide) (gm 1180 (by decide +kernel) rfl) (Or.inl rfl) rfl (by decide +kernel) (fun h => by cases h)
theorem yw_X10_in : YW yX10_in cX10_in 3 (some (.boolean)) 3 := ⟨(gm 1246 (by decide +kernel) rfl), (gm 73 (by decide +kernel) rfl), by decide +kernel, by decide +kernel, by decide +kernel⟩
theorem sw_RX10_39 : SW RX10 39 yX10_in := ⟨(gm 1244 (by decide +kernel) rfl), (gm 1245 (by decide +kernel) rfl)⟩
theorem yw_X10_fails : YW yX10_fails cX10_fails 2 (some (.int)) 1 := ⟨(gm 1250 (by decide +kernel) rfl), (gm 73 (by decide +kernel) rfl), by decide +kernel, by decide +kernel, by decide +kernel⟩
theorem vw_RX10_43 : VW RX10 43 yX10_fails := ⟨(gm 1247 (by decide +kernel) rfl), (gm 1249 (by decide +kernel) rfl), (gm 22 (by decide +kernel) rfl)⟩
theorem yw_X10_sets : YW yX10_sets cX10_sets 4 (some (.int)) 2 := ⟨(gm 1254 (by decide +kernel) rfl), (gm 73 (by decide +kernel) rfl), by decide +kernel, by decide +kernel, by decide +kernel⟩
theorem vw_RX10_47 : VW RX10 47 yX10_sets := ⟨(gm 1251 (by decide +kernel) rfl), (gm 1253 (by decide +kernel) rfl), (gm 23 (by decide +kernel) rfl)⟩
theorem yw_X10_isRegister : YW yX10_isRegister cX10_isRegister 2 (some (.boolean)) 2 := ⟨(gm 1265 (by decide +kernel) rfl), (gm 73 (by decide +kernel) rfl), by decide +kernel, by decide +kernel, by decide +kernel⟩
theorem sw_RX10_51 : SW RX10 51 yX10_isRegister := ⟨(gm 1263 (by decide +kernel) rfl), (gm 1264 (by decide +kernel) rfl)⟩
theorem yw_X10_registerAt : YW yX10_registerAt cX10_registerAt 2 (some (.int)) 2 := ⟨(gm 1268 (by decide +kernel) rfl), (gm 73 (by decide +kernel) rfl), by decide +kernel, by decide +kernel, by decide +kernel⟩
theorem sw_RX10_55 : SW RX10 55 yX10_registerAt := ⟨(gm 1266 (by decide +kernel) rfl), (gm 1267 (by decide +kernel) rfl)⟩
theorem yw_X10_faults : YW yX10_faults cX10_faults 1 (some (.int)) 1 := ⟨(gm 1283 (by decide +kernel) rfl), (gm 73 (by decide +kernel) rfl), by decide +kernel, by decide +kernel, by decide +kernel⟩
theorem sw_RX10_58 : SW RX10 58 yX10_faults := ⟨(gm 1281 (by decide +kernel) rfl), (gm 1282 (by decide +kernel) rfl)⟩
theorem yw_X10_requestAt : YW yX10_requestAt cX10_requestAt 1 (some (.int)) 1 := ⟨(gm 1298 (by decide +kernel) rfl), (gm 73 (by decide +kernel) rfl), by decide +kernel, by decide +kernel, by decide +kernel⟩
theorem sw_RX10_61 : SW RX10 61 yX10_requestAt := ⟨(gm 1296 (by decide +kernel) rfl), (gm 1297 (by decide +kernel) rfl)⟩
theorem yw_X10_asks : YW yX10_asks cX10_asks 4 (some (.int)) 3 := ⟨(gm 1291 (by decide +kernel) rfl), (gm 73 (by decide +kernel) rfl), by decide +kernel, by decide +kernel, by decide +kernel⟩
theorem vw_RX10_64 : VW RX10 64 yX10_asks := ⟨(gm 1288 (by decide +kernel) rfl), (gm 1290 (by decide +kernel) rfl), (gm 24 (by decide +kernel) rfl)⟩
theorem yw_X10_makes : YW yX10_makes cX10_makes 8 (some (.int)) 6 := ⟨(gm 1295 (by decide +kernel) rfl), (gm 73 (by decide +kernel) rfl), by decide +kernel, by decide +kernel, by decide +kernel⟩
theorem vw_RX10_68 : VW RX10 68 yX10_makes := ⟨(gm 1292 (by decide +kernel) rfl), (gm 1294 (by decide +kernel) rfl), (gm 25 (by decide +kernel) rfl)⟩
theorem yw_X10_isRequest : YW yX10_isRequest cX10_isRequest 2 (some (.boolean)) 1 := ⟨(gm 1310 (by decide +kernel) rfl), (gm 73 (by decide +kernel) rfl), by decide +kernel, by decide +kernel, by decide +kernel⟩
theorem vw_RX10_72 : VW RX10 72 yX10_isRequest := ⟨(gm 1307 (by decide +kernel) rfl), (gm 1309 (by decide +kernel) rfl), (gm 26 (by decide +kernel) rfl)⟩
theorem yw_X10_countIn : YW yX10_countIn cX10_countIn 5 (some (.int)) 2 := ⟨(gm 1322 (by decide +kernel) rfl), (gm 73 (by decide +kernel) rfl), by decide +kernel, by decide +kernel, by decide +kernel⟩
theorem vw_RX10_76 : VW RX10 76 yX10_countIn := ⟨(gm 1319 (by decide +kernel) rfl), (gm 1321 (by decide +kernel) rfl), (gm 27 (by decide +kernel) rfl)⟩
theorem yw_X10_cacheAt : YW yX10_cacheAt cX10_cacheAt 2 (some (.int)) 2 := ⟨(gm 1353 (by decide +kernel) rfl), (gm 73 (by decide +kernel) rfl), by decide +kernel, by decide +kernel, by decide +kernel⟩
theorem sw_RX10_79 : SW RX10 79 yX10_cacheAt := ⟨(gm 1351 (by decide +kernel) rfl), (gm 1352 (by decide +kernel) rfl)⟩
theorem yw_X10_end : YW yX10_end cX10_end 2 (some (.int)) 1 := ⟨(gm 1369 (by decide +kernel) rfl), (gm 73 (by decide +kernel) rfl), by decide +kernel, by decide +kernel, by decide +kernel⟩
theorem vw_RX10_82 : VW RX10 82 yX10_end := ⟨(gm 1366 (by decide +kernel) rfl), (gm 1368 (by decide +kernel) rfl), (gm 36 (by decide +kernel) rfl)⟩
theorem yw_X10_isWaiting : YW yX10_isWaiting cX10_isWaiting 2 (some (.boolean)) 1 := ⟨(gm 1342 (by decide +kernel) rfl), (gm 73 (by decide +kernel) rfl), by decide +kernel, by decide +kernel, by decide +kernel⟩
theorem vw_RX10_85 : VW RX10 85 yX10_isWaiting := ⟨(gm 1339 (by decide +kernel) rfl), (gm 1341 (by decide +kernel) rfl), (gm 30 (by decide +kernel) rfl)⟩
theorem yw_X10_isFresh : YW yX10_isFresh cX10_isFresh 4 (some (.boolean)) 2 := ⟨(gm 1350 (by decide +kernel) rfl), (gm 73 (by decide +kernel) rfl), by decide +kernel, by decide +kernel, by decide +kernel⟩
theorem vw_RX10_88 : VW RX10 88 yX10_isFresh := ⟨(gm 1347 (by decide +kernel) rfl), (gm 1349 (by decide +kernel) rfl), (gm 32 (by decide +kernel) rfl)⟩
theorem fw_RX10_91 : FW RX10 91 11 8 := FW.of "RegisterGatewayModel" rfl (by decide) in_c11 (gm 1186 (by decide +kernel) rfl) (Or.inl rfl)
theorem fw_RX10_94 : FW RX10 94 11 3 := FW.of "RegisterGatewayModel" rfl (by decide) in_c11 (gm 1181 (by decide +kernel) rfl) (Or.inl rfl)
theorem fw_RX10_101 : FW RX10 101 11 7 := FW.of "RegisterGatewayModel" rfl (by decide) in_c11 (gm 1185 (by decide +kernel) rfl) (Or.inl rfl)
theorem yw_X10_overlap : YW yX10_overlap cX10_overlap 3 (some (.boolean)) 2 := ⟨(gm 1377 (by decide +kernel) rfl), (gm 73 (by decide +kernel) rfl), by decide +kernel, by decide +kernel, by decide +kernel⟩
theorem vw_RX10_98 : VW RX10 98 yX10_overlap := ⟨(gm 1374 (by decide +kernel) rfl), (gm 1376 (by decide +kernel) rfl), (gm 38 (by decide +kernel) rfl)⟩
theorem fp_RX10_105 : FP RX10 105 11 4 (.int) false := FP.of "RegisterGatewayModel" rfl (by decide) (gm 1182 (by decide +kernel) rfl) (Or.inl rfl) rfl (by decide +kernel) (fun h => by cases h)
theorem fp_RX10_94 : FP RX10 94 11 3 (.long) false := FP.of "RegisterGatewayModel" rfl (by decide) (gm 1181 (by decide +kernel) rfl) (Or.inl rfl) rfl (by decide +kernel) (fun h => by cases h)
theorem fp_RX10_91 : FP RX10 91 11 8 (.int) false := FP.of "RegisterGatewayModel" rfl (by decide) (gm 1186 (by decide +kernel) rfl) (Or.inl rfl) rfl (by decide +kernel) (fun h => by cases h)
theorem fp_RX10_108 : FP RX10 108 11 5 (.int) false := FP.of "RegisterGatewayModel" rfl (by decide) (gm 1183 (by decide +kernel) rfl) (Or.inl rfl) rfl (by decide +kernel) (fun h => by cases h)
theorem fp_RX10_111 : FP RX10 111 11 6 (.int) false := FP.of "RegisterGatewayModel" rfl (by decide) (gm 1184 (by decide +kernel) rfl) (Or.inl rfl) rfl (by decide +kernel) (fun h => by cases h)
theorem fp_RX10_101 : FP RX10 101 11 7 (.boolean) false := FP.of "RegisterGatewayModel" rfl (by decide) (gm 1185 (by decide +kernel) rfl) (Or.inl rfl) rfl (by decide +kernel) (fun h => by cases h)
theorem fw_RX10_111 : FW RX10 111 11 6 := FW.of "RegisterGatewayModel" rfl (by decide) in_c11 (gm 1184 (by decide +kernel) rfl) (Or.inl rfl)
theorem fw_RX10_108 : FW RX10 108 11 5 := FW.of "RegisterGatewayModel" rfl (by decide) in_c11 (gm 1183 (by decide +kernel) rfl) (Or.inl rfl)
theorem yw_X10_isHeldBack : YW yX10_isHeldBack cX10_isHeldBack 5 (some (.boolean)) 1 := ⟨(gm 1373 (by decide +kernel) rfl), (gm 73 (by decide +kernel) rfl), by decide +kernel, by decide +kernel, by decide +kernel⟩
theorem vw_RX10_114 : VW RX10 114 yX10_isHeldBack := ⟨(gm 1370 (by decide +kernel) rfl), (gm 1372 (by decide +kernel) rfl), (gm 37 (by decide +kernel) rfl)⟩
theorem kc_RX10_117 : Cond.constant RX10 117 (40961) ∈ gtbl := gm 1409 (by decide +kernel) rfl
theorem fw_RX10_16 : FW RX10 16 11 9 := FW.of "RegisterGatewayModel" rfl (by decide) in_c11 (gm 1187 (by decide +kernel) rfl) (Or.inl rfl)
theorem fw_RX10_118 : FW RX10 118 11 10 := FW.of "RegisterGatewayModel" rfl (by decide) in_c11 (gm 1188 (by decide +kernel) rfl) (Or.inl rfl)
theorem fp_RX10_118 : FP RX10 118 11 10 (.int) false := FP.of "RegisterGatewayModel" rfl (by decide) (gm 1188 (by decide +kernel) rfl) (Or.inl rfl) rfl (by decide +kernel) (fun h => by cases h)
theorem yw_X10_puts : YW yX10_puts cX10_puts 2 none 1 := ⟨(gm 1393 (by decide +kernel) rfl), (gm 73 (by decide +kernel) rfl), by decide +kernel, by decide +kernel, by decide +kernel⟩
theorem vw_RX10_121 : VW RX10 121 yX10_puts := ⟨(gm 1390 (by decide +kernel) rfl), (gm 1392 (by decide +kernel) rfl), (gm 42 (by decide +kernel) rfl)⟩
theorem yw_X10_stirred : YW yX10_stirred cX10_stirred 4 (some (.int)) 2 := ⟨(gm 1408 (by decide +kernel) rfl), (gm 73 (by decide +kernel) rfl), by decide +kernel, by decide +kernel, by decide +kernel⟩
theorem sw_RX10_125 : SW RX10 125 yX10_stirred := ⟨(gm 1406 (by decide +kernel) rfl), (gm 1407 (by decide +kernel) rfl)⟩
theorem fw_RX10_105 : FW RX10 105 11 4 := FW.of "RegisterGatewayModel" rfl (by decide) in_c11 (gm 1182 (by decide +kernel) rfl) (Or.inl rfl)
theorem fw_RX10_19 : FW RX10 19 11 11 := FW.of "RegisterGatewayModel" rfl (by decide) in_c11 (gm 1189 (by decide +kernel) rfl) (Or.inl rfl)
theorem yw_X10_seals : YW yX10_seals cX10_seals 3 none 0 := ⟨(gm 1405 (by decide +kernel) rfl), (gm 73 (by decide +kernel) rfl), by decide +kernel, by decide +kernel, by decide +kernel⟩
theorem vw_RX10_135 : VW RX10 135 yX10_seals := ⟨(gm 1402 (by decide +kernel) rfl), (gm 1404 (by decide +kernel) rfl), (gm 45 (by decide +kernel) rfl)⟩
theorem yw_X10_putsWord : YW yX10_putsWord cX10_putsWord 2 none 1 := ⟨(gm 1401 (by decide +kernel) rfl), (gm 73 (by decide +kernel) rfl), by decide +kernel, by decide +kernel, by decide +kernel⟩
theorem vw_RX10_132 : VW RX10 132 yX10_putsWord := ⟨(gm 1398 (by decide +kernel) rfl), (gm 1400 (by decide +kernel) rfl), (gm 44 (by decide +kernel) rfl)⟩
theorem yw_X10_function : YW yX10_function cX10_function 1 (some (.int)) 0 := ⟨(gm 1397 (by decide +kernel) rfl), (gm 73 (by decide +kernel) rfl), by decide +kernel, by decide +kernel, by decide +kernel⟩
theorem vw_RX10_128 : VW RX10 128 yX10_function := ⟨(gm 1394 (by decide +kernel) rfl), (gm 1396 (by decide +kernel) rfl), (gm 43 (by decide +kernel) rfl)⟩
theorem yw_X10_repliesWith : YW yX10_repliesWith cX10_repliesWith 3 none 1 := ⟨(gm 1425 (by decide +kernel) rfl), (gm 73 (by decide +kernel) rfl), by decide +kernel, by decide +kernel, by decide +kernel⟩
theorem vw_RX10_144 : VW RX10 144 yX10_repliesWith := ⟨(gm 1422 (by decide +kernel) rfl), (gm 1424 (by decide +kernel) rfl), (gm 49 (by decide +kernel) rfl)⟩
theorem yw_X10_does : YW yX10_does cX10_does 2 none 0 := ⟨(gm 1421 (by decide +kernel) rfl), (gm 73 (by decide +kernel) rfl), by decide +kernel, by decide +kernel, by decide +kernel⟩
theorem vw_RX10_141 : VW RX10 141 yX10_does := ⟨(gm 1418 (by decide +kernel) rfl), (gm 1420 (by decide +kernel) rfl), (gm 48 (by decide +kernel) rfl)⟩
theorem yw_X10_code : YW yX10_code cX10_code 4 (some (.int)) 0 := ⟨(gm 1417 (by decide +kernel) rfl), (gm 73 (by decide +kernel) rfl), by decide +kernel, by decide +kernel, by decide +kernel⟩
theorem vw_RX10_138 : VW RX10 138 yX10_code := ⟨(gm 1414 (by decide +kernel) rfl), (gm 1416 (by decide +kernel) rfl), (gm 47 (by decide +kernel) rfl)⟩
theorem fw_RX10_22 : FW RX10 22 11 12 := FW.of "RegisterGatewayModel" rfl (by decide) in_c11 (gm 1190 (by decide +kernel) rfl) (Or.inl rfl)
theorem yw_X10_goes : YW yX10_goes cX10_goes 3 none 1 := ⟨(gm 1429 (by decide +kernel) rfl), (gm 73 (by decide +kernel) rfl), by decide +kernel, by decide +kernel, by decide +kernel⟩
theorem vw_RX10_153 : VW RX10 153 yX10_goes := ⟨(gm 1426 (by decide +kernel) rfl), (gm 1428 (by decide +kernel) rfl), (gm 50 (by decide +kernel) rfl)⟩
theorem yw_X10_earliest : YW yX10_earliest cX10_earliest 6 (some (.int)) 2 := ⟨(gm 1433 (by decide +kernel) rfl), (gm 73 (by decide +kernel) rfl), by decide +kernel, by decide +kernel, by decide +kernel⟩
theorem vw_RX10_156 : VW RX10 156 yX10_earliest := ⟨(gm 1430 (by decide +kernel) rfl), (gm 1432 (by decide +kernel) rfl), (gm 51 (by decide +kernel) rfl)⟩
theorem yw_X10_fits : YW yX10_fits cX10_fits 6 (some (.boolean)) 1 := ⟨(gm 1437 (by decide +kernel) rfl), (gm 73 (by decide +kernel) rfl), by decide +kernel, by decide +kernel, by decide +kernel⟩
theorem vw_RX10_159 : VW RX10 159 yX10_fits := ⟨(gm 1434 (by decide +kernel) rfl), (gm 1436 (by decide +kernel) rfl), (gm 52 (by decide +kernel) rfl)⟩
theorem yw_X10_frames : YW yX10_frames cX10_frames 3 none 0 := ⟨(gm 1389 (by decide +kernel) rfl), (gm 73 (by decide +kernel) rfl), by decide +kernel, by decide +kernel, by decide +kernel⟩
theorem vw_RX10_147 : VW RX10 147 yX10_frames := ⟨(gm 1386 (by decide +kernel) rfl), (gm 1388 (by decide +kernel) rfl), (gm 41 (by decide +kernel) rfl)⟩
theorem yw_X10_gets : YW yX10_gets cX10_gets 7 none 0 := ⟨(gm 1413 (by decide +kernel) rfl), (gm 73 (by decide +kernel) rfl), by decide +kernel, by decide +kernel, by decide +kernel⟩
theorem vw_RX10_150 : VW RX10 150 yX10_gets := ⟨(gm 1410 (by decide +kernel) rfl), (gm 1412 (by decide +kernel) rfl), (gm 46 (by decide +kernel) rfl)⟩
theorem yw_X10_attempts : YW yX10_attempts cX10_attempts 5 (some (.boolean)) 0 := ⟨(gm 1385 (by decide +kernel) rfl), (gm 73 (by decide +kernel) rfl), by decide +kernel, by decide +kernel, by decide +kernel⟩
theorem vw_RX10_162 : VW RX10 162 yX10_attempts := ⟨(gm 1382 (by decide +kernel) rfl), (gm 1384 (by decide +kernel) rfl), (gm 40 (by decide +kernel) rfl)⟩
theorem yw_X10_ends : YW yX10_ends cX10_ends 4 none 3 := ⟨(gm 1361 (by decide +kernel) rfl), (gm 73 (by decide +kernel) rfl), by decide +kernel, by decide +kernel, by decide +kernel⟩
theorem vw_RX10_166 : VW RX10 166 yX10_ends := ⟨(gm 1358 (by decide +kernel) rfl), (gm 1360 (by decide +kernel) rfl), (gm 34 (by decide +kernel) rfl)⟩
theorem yw_X10_word : YW yX10_word cX10_word 2 (some (.int)) 1 := ⟨(gm 1445 (by decide +kernel) rfl), (gm 73 (by decide +kernel) rfl), by decide +kernel, by decide +kernel, by decide +kernel⟩
theorem vw_RX10_170 : VW RX10 170 yX10_word := ⟨(gm 1442 (by decide +kernel) rfl), (gm 1444 (by decide +kernel) rfl), (gm 54 (by decide +kernel) rfl)⟩
theorem yw_X10_caches : YW yX10_caches cX10_caches 3 none 2 := ⟨(gm 1449 (by decide +kernel) rfl), (gm 73 (by decide +kernel) rfl), by decide +kernel, by decide +kernel, by decide +kernel⟩
theorem vw_RX10_173 : VW RX10 173 yX10_caches := ⟨(gm 1446 (by decide +kernel) rfl), (gm 1448 (by decide +kernel) rfl), (gm 55 (by decide +kernel) rfl)⟩
theorem yw_X10_firstWaiting : YW yX10_firstWaiting cX10_firstWaiting 2 (some (.int)) 0 := ⟨(gm 1338 (by decide +kernel) rfl), (gm 73 (by decide +kernel) rfl), by decide +kernel, by decide +kernel, by decide +kernel⟩
theorem vw_RX10_177 : VW RX10 177 yX10_firstWaiting := ⟨(gm 1335 (by decide +kernel) rfl), (gm 1337 (by decide +kernel) rfl), (gm 29 (by decide +kernel) rfl)⟩
theorem yw_X10_isCached : YW yX10_isCached cX10_isCached 5 (some (.boolean)) 1 := ⟨(gm 1346 (by decide +kernel) rfl), (gm 73 (by decide +kernel) rfl), by decide +kernel, by decide +kernel, by decide +kernel⟩
theorem vw_RX10_180 : VW RX10 180 yX10_isCached := ⟨(gm 1343 (by decide +kernel) rfl), (gm 1345 (by decide +kernel) rfl), (gm 31 (by decide +kernel) rfl)⟩
theorem yw_X10_gathers : YW yX10_gathers cX10_gathers 8 none 1 := ⟨(gm 1365 (by decide +kernel) rfl), (gm 73 (by decide +kernel) rfl), by decide +kernel, by decide +kernel, by decide +kernel⟩
theorem vw_RX10_186 : VW RX10 186 yX10_gathers := ⟨(gm 1362 (by decide +kernel) rfl), (gm 1364 (by decide +kernel) rfl), (gm 35 (by decide +kernel) rfl)⟩
theorem yw_X10_tries : YW yX10_tries cX10_tries 3 (some (.boolean)) 0 := ⟨(gm 1381 (by decide +kernel) rfl), (gm 73 (by decide +kernel) rfl), by decide +kernel, by decide +kernel, by decide +kernel⟩
theorem vw_RX10_189 : VW RX10 189 yX10_tries := ⟨(gm 1378 (by decide +kernel) rfl), (gm 1380 (by decide +kernel) rfl), (gm 39 (by decide +kernel) rfl)⟩
theorem yw_X10_settles : YW yX10_settles cX10_settles 6 (some (.int)) 1 := ⟨(gm 1441 (by decide +kernel) rfl), (gm 73 (by decide +kernel) rfl), by decide +kernel, by decide +kernel, by decide +kernel⟩
theorem vw_RX10_192 : VW RX10 192 yX10_settles := ⟨(gm 1438 (by decide +kernel) rfl), (gm 1440 (by decide +kernel) rfl), (gm 53 (by decide +kernel) rfl)⟩
theorem yw_X10_byCache : YW yX10_byCache cX10_byCache 4 (some (.int)) 1 := ⟨(gm 1357 (by decide +kernel) rfl), (gm 73 (by decide +kernel) rfl), by decide +kernel, by decide +kernel, by decide +kernel⟩
theorem vw_RX10_183 : VW RX10 183 yX10_byCache := ⟨(gm 1354 (by decide +kernel) rfl), (gm 1356 (by decide +kernel) rfl), (gm 33 (by decide +kernel) rfl)⟩
theorem yw_X10_steps : YW yX10_steps cX10_steps 3 (some (.int)) 0 := ⟨(gm 1334 (by decide +kernel) rfl), (gm 73 (by decide +kernel) rfl), by decide +kernel, by decide +kernel, by decide +kernel⟩
theorem vw_RX10_195 : VW RX10 195 yX10_steps := ⟨(gm 1331 (by decide +kernel) rfl), (gm 1333 (by decide +kernel) rfl), (gm 28 (by decide +kernel) rfl)⟩
theorem yw_X10_stepsAll : YW yX10_stepsAll cX10_stepsAll 2 none 0 := ⟨(gm 1457 (by decide +kernel) rfl), (gm 73 (by decide +kernel) rfl), by decide +kernel, by decide +kernel, by decide +kernel⟩
theorem vw_RX10_198 : VW RX10 198 yX10_stepsAll := ⟨(gm 1454 (by decide +kernel) rfl), (gm 1456 (by decide +kernel) rfl), (gm 56 (by decide +kernel) rfl)⟩
theorem kc_RX10_201 : Cond.constant RX10 201 (10000000) ∈ gtbl := gm 1462 (by decide +kernel) rfl
theorem yw_X10_cachedAt : YW yX10_cachedAt cX10_cachedAt 4 (some (.int)) 2 := ⟨(gm 1486 (by decide +kernel) rfl), (gm 73 (by decide +kernel) rfl), by decide +kernel, by decide +kernel, by decide +kernel⟩
theorem vw_RX10_202 : VW RX10 202 yX10_cachedAt := ⟨(gm 1483 (by decide +kernel) rfl), (gm 1485 (by decide +kernel) rfl), (gm 57 (by decide +kernel) rfl)⟩
theorem fw_RX10_13 : FW RX10 13 11 1 := FW.of "RegisterGatewayModel" rfl (by decide) in_c11 (gm 1179 (by decide +kernel) rfl) (Or.inl rfl)
theorem yw_X10_copies : YW yX10_copies cX10_copies 3 none 2 := ⟨(gm 1501 (by decide +kernel) rfl), (gm 73 (by decide +kernel) rfl), by decide +kernel, by decide +kernel, by decide +kernel⟩
theorem sw_RX10_205 : SW RX10 205 yX10_copies := ⟨(gm 1499 (by decide +kernel) rfl), (gm 1500 (by decide +kernel) rfl)⟩
theorem fw_RX10_209 : FW RX10 209 11 13 := FW.of "RegisterGatewayModel" rfl (by decide) in_c11 (gm 1191 (by decide +kernel) rfl) (Or.inl rfl)
theorem fw_RX10_30 : FW RX10 30 11 16 := FW.of "RegisterGatewayModel" rfl (by decide) in_c11 (gm 1194 (by decide +kernel) rfl) (Or.inl rfl)
theorem fw_RX10_215 : FW RX10 215 11 18 := FW.of "RegisterGatewayModel" rfl (by decide) in_c11 (gm 1196 (by decide +kernel) rfl) (Or.inl rfl)
theorem fw_RX10_33 : FW RX10 33 11 17 := FW.of "RegisterGatewayModel" rfl (by decide) in_c11 (gm 1195 (by decide +kernel) rfl) (Or.inl rfl)
theorem fp_RX10_215 : FP RX10 215 11 18 (.int) false := FP.of "RegisterGatewayModel" rfl (by decide) (gm 1196 (by decide +kernel) rfl) (Or.inl rfl) rfl (by decide +kernel) (fun h => by cases h)
theorem fp_RX10_209 : FP RX10 209 11 13 (.int) false := FP.of "RegisterGatewayModel" rfl (by decide) (gm 1191 (by decide +kernel) rfl) (Or.inl rfl) rfl (by decide +kernel) (fun h => by cases h)
theorem fp_RX10_212 : FP RX10 212 11 14 (.boolean) false := FP.of "RegisterGatewayModel" rfl (by decide) (gm 1192 (by decide +kernel) rfl) (Or.inl rfl) rfl (by decide +kernel) (fun h => by cases h)
theorem fw_RX10_212 : FW RX10 212 11 14 := FW.of "RegisterGatewayModel" rfl (by decide) in_c11 (gm 1192 (by decide +kernel) rfl) (Or.inl rfl)
theorem fw_RX10_26 : FW RX10 26 11 15 := FW.of "RegisterGatewayModel" rfl (by decide) in_c11 (gm 1193 (by decide +kernel) rfl) (Or.inl rfl)
theorem yw_X10_endsFrame : YW yX10_endsFrame cX10_endsFrame 2 none 0 := ⟨(gm 1509 (by decide +kernel) rfl), (gm 73 (by decide +kernel) rfl), by decide +kernel, by decide +kernel, by decide +kernel⟩
theorem vw_RX10_218 : VW RX10 218 yX10_endsFrame := ⟨(gm 1506 (by decide +kernel) rfl), (gm 1508 (by decide +kernel) rfl), (gm 58 (by decide +kernel) rfl)⟩
theorem yw_X10_isKept : YW yX10_isKept cX10_isKept 2 (some (.boolean)) 1 := ⟨(gm 1521 (by decide +kernel) rfl), (gm 73 (by decide +kernel) rfl), by decide +kernel, by decide +kernel, by decide +kernel⟩
theorem vw_RX10_221 : VW RX10 221 yX10_isKept := ⟨(gm 1518 (by decide +kernel) rfl), (gm 1520 (by decide +kernel) rfl), (gm 59 (by decide +kernel) rfl)⟩
theorem kl_RX10_224 : Cond.constantLong RX10 224 (2263) ∈ gtbl := gm 1534 (by decide +kernel) rfl
theorem kl_RX10_226 : Cond.constantLong RX10 226 (31) ∈ gtbl := gm 1535 (by decide +kernel) rfl
