theorem in_c11 : ∀ w ∈ u_ws RX10 TX10 19, w ∈ gtbl := by
  have e : u_ws RX10 TX10 19 = [.laysFinal RX10 "RegisterGatewayModel" "v" "[I", .laysFinal RX10 "RegisterGatewayModel" "aside" "[I", .lays RX10 "RegisterGatewayModel" "thrown" "I", .lays RX10 "RegisterGatewayModel" "members" "J", .lays RX10 "RegisterGatewayModel" "first" "I", .lays RX10 "RegisterGatewayModel" "low" "I", .lays RX10 "RegisterGatewayModel" "high" "I", .lays RX10 "RegisterGatewayModel" "isWrite" "Z", .lays RX10 "RegisterGatewayModel" "device" "I", .laysFinal RX10 "RegisterGatewayModel" "frame" "[I", .lays RX10 "RegisterGatewayModel" "length" "I", .laysFinal RX10 "RegisterGatewayModel" "written" "[I", .laysFinal RX10 "RegisterGatewayModel" "taken" "[I", .lays RX10 "RegisterGatewayModel" "hears" "I", .lays RX10 "RegisterGatewayModel" "isBroken" "Z", .lays RX10 "RegisterGatewayModel" "running" "I", .laysFinal RX10 "RegisterGatewayModel" "verdicts" "[I", .laysFinal RX10 "RegisterGatewayModel" "lengths" "[I", .lays RX10 "RegisterGatewayModel" "ended" "I"] := rfl
  rw [e]
  exact fallc (gm 1197 (by decide +kernel) rfl) (fallc (gm 1199 (by decide +kernel) rfl) (fallc (gm 1201 (by decide +kernel) rfl) (fallc (gm 1203 (by decide +kernel) rfl) (fallc (gm 1205 (by decide +kernel) rfl) (fallc (gm 1207 (by decide +kernel) rfl) (fallc (gm 1209 (by decide +kernel) rfl) (fallc (gm 1211 (by decide +kernel) rfl) (fallc (gm 1213 (by decide +kernel) rfl) (fallc (gm 1215 (by decide +kernel) rfl) (fallc (gm 1217 (by decide +kernel) rfl) (fallc (gm 1219 (by decide +kernel) rfl) (fallc (gm 1221 (by decide +kernel) rfl) (fallc (gm 1223 (by decide +kernel) rfl) (fallc (gm 1225 (by decide +kernel) rfl) (fallc (gm 1227 (by decide +kernel) rfl) (fallc (gm 1229 (by decide +kernel) rfl) (fallc (gm 1231 (by decide +kernel) rfl) (fallc (gm 1233 (by decide +kernel) rfl) (falln)))))))))))))))))))
theorem fw_RX10_36 : FW RX10 36 11 2 := FW.of "RegisterGatewayModel" rfl (by decide) in_c11 (gm 1180 (by decide +kernel) rfl) (Or.inl rfl)
theorem fp_RX10_36 : FP RX10 36 11 2 (.int) false := FP.of "RegisterGatewayModel" rfl (by decide) (gm 1180 (by decide +kernel) rfl) (Or.inl rfl) rfl (by decide +kernel) (fun h => by cases h)
theorem cw_11 : CW 11 := ⟨RX10, TX10, 19, tyX10, rfl, in_c11, tyX10_ok, nmX10, (gm 1172 (by decide +kernel) rfl), (gm 73 (by decide +kernel) rfl), fun j hj => by
    rcases (show j = 0 ∨ j = 1 ∨ j = 2 ∨ j = 3 ∨ j = 4 ∨ j = 5 ∨ j = 6 ∨ j = 7 ∨ j = 8 ∨ j = 9 ∨ j = 10 ∨ j = 11 ∨ j = 12 ∨ j = 13 ∨ j = 14 ∨ j = 15 ∨ j = 16 ∨ j = 17 ∨ j = 18 by omega) with rfl | rfl | rfl | rfl | rfl | rfl | rfl | rfl | rfl | rfl | rfl | rfl | rfl | rfl | rfl | rfl | rfl | rfl | rfl <;> rfl⟩
theorem fw_RX10_7 : FW RX10 7 11 0 := FW.of "RegisterGatewayModel" rfl (by decide) in_c11 (gm 1178 (by decide +kernel) rfl) (Or.inl rfl)
theorem yw_X10_in : YW yX10_in cX10_in 3 (some (.boolean)) 3 := ⟨(gm 1246 (by decide +kernel) rfl), (gm 73 (by decide +kernel) rfl), by decide +kernel, by decide +kernel, by decide +kernel⟩
theorem sw_RX10_39 : SW RX10 39 yX10_in := ⟨(gm 1244 (by decide +kernel) rfl), (gm 1245 (by decide +kernel) rfl)⟩
theorem yw_X10_fails : YW yX10_fails cX10_fails 2 (some (.int)) 1 := ⟨(gm 1250 (by decide +kernel) rfl), (gm 73 (by decide +kernel) rfl), by decide +kernel, by decide +kernel, by decide +kernel⟩
theorem vw_RX10_43 : VW RX10 43 yX10_fails := ⟨(gm 1247 (by decide +kernel) rfl), (gm 1249 (by decide +kernel) rfl), (gm 22 (by decide +kernel) rfl)⟩
theorem yw_X10_sets : YW yX10_sets cX10_sets 4 (some (.int)) 2 := ⟨(gm 1254 (by decide +kernel) rfl), (gm 73 (by decide +kernel) rfl), by decide +kernel, by decide +kernel, by decide +kernel⟩
theorem vw_RX10_47 : VW RX10 47 yX10_sets := ⟨(gm 1251 (by decide +kernel) rfl), (gm 1253 (by decide +kernel) rfl), (gm 23 (by decide +kernel) rfl)⟩
theorem kc_RX10_25 : Cond.constant RX10 25 (65535) ∈ gtbl := gm 1177 (by decide +kernel) rfl
theorem yw_X10_isRegister : YW yX10_isRegister cX10_isRegister 2 (some (.boolean)) 2 := ⟨(gm 1265 (by decide +kernel) rfl), (gm 73 (by decide +kernel) rfl), by decide +kernel, by decide +kernel, by decide +kernel⟩
theorem sw_RX10_51 : SW RX10 51 yX10_isRegister := ⟨(gm 1263 (by decide +kernel) rfl), (gm 1264 (by decide +kernel) rfl)⟩
theorem yw_X10_registerAt : YW yX10_registerAt cX10_registerAt 2 (some (.int)) 2 := ⟨(gm 1268 (by decide +kernel) rfl), (gm 73 (by decide +kernel) rfl), by decide +kernel, by decide +kernel, by decide +kernel⟩
theorem sw_RX10_55 : SW RX10 55 yX10_registerAt := ⟨(gm 1266 (by decide +kernel) rfl), (gm 1267 (by decide +kernel) rfl)⟩
theorem yw_X10_faults : YW yX10_faults cX10_faults 1 (some (.int)) 1 := ⟨(gm 1283 (by decide +kernel) rfl), (gm 73 (by decide +kernel) rfl), by decide +kernel, by decide +kernel, by decide +kernel⟩
theorem sw_RX10_58 : SW RX10 58 yX10_faults := ⟨(gm 1281 (by decide +kernel) rfl), (gm 1282 (by decide +kernel) rfl)⟩
theorem yw_X10_requestAt : YW yX10_requestAt cX10_requestAt 1 (some (.int)) 1 := ⟨(gm 1298 (by decide +kernel) rfl), (gm 73 (by decide +kernel) rfl), by decide +kernel, by decide +kernel, by decide +kernel⟩
theorem sw_RX10_61 : SW RX10 61 yX10_requestAt := ⟨(gm 1296 (by decide +kernel) rfl), (gm 1297 (by decide +kernel) rfl)⟩
theorem yw_X10_end : YW yX10_end cX10_end 2 (some (.int)) 1 := ⟨(gm 1369 (by decide +kernel) rfl), (gm 73 (by decide +kernel) rfl), by decide +kernel, by decide +kernel, by decide +kernel⟩
theorem vw_RX10_82 : VW RX10 82 yX10_end := ⟨(gm 1366 (by decide +kernel) rfl), (gm 1368 (by decide +kernel) rfl), (gm 36 (by decide +kernel) rfl)⟩
theorem fw_RX10_91 : FW RX10 91 11 8 := FW.of "RegisterGatewayModel" rfl (by decide) in_c11 (gm 1186 (by decide +kernel) rfl) (Or.inl rfl)
theorem fw_RX10_94 : FW RX10 94 11 3 := FW.of "RegisterGatewayModel" rfl (by decide) in_c11 (gm 1181 (by decide +kernel) rfl) (Or.inl rfl)
theorem fw_RX10_101 : FW RX10 101 11 7 := FW.of "RegisterGatewayModel" rfl (by decide) in_c11 (gm 1185 (by decide +kernel) rfl) (Or.inl rfl)
theorem yw_X10_isWaiting : YW yX10_isWaiting cX10_isWaiting 2 (some (.boolean)) 1 := ⟨(gm 1342 (by decide +kernel) rfl), (gm 73 (by decide +kernel) rfl), by decide +kernel, by decide +kernel, by decide +kernel⟩
theorem vw_RX10_85 : VW RX10 85 yX10_isWaiting := ⟨(gm 1339 (by decide +kernel) rfl), (gm 1341 (by decide +kernel) rfl), (gm 30 (by decide +kernel) rfl)⟩
theorem yw_X10_overlap : YW yX10_overlap cX10_overlap 3 (some (.boolean)) 2 := ⟨(gm 1377 (by decide +kernel) rfl), (gm 73 (by decide +kernel) rfl), by decide +kernel, by decide +kernel, by decide +kernel⟩
theorem vw_RX10_98 : VW RX10 98 yX10_overlap := ⟨(gm 1374 (by decide +kernel) rfl), (gm 1376 (by decide +kernel) rfl), (gm 38 (by decide +kernel) rfl)⟩
theorem fp_RX10_105 : FP RX10 105 11 4 (.int) false := FP.of "RegisterGatewayModel" rfl (by decide) (gm 1182 (by decide +kernel) rfl) (Or.inl rfl) rfl (by decide +kernel) (fun h => by cases h)
theorem fp_RX10_94 : FP RX10 94 11 3 (.long) false := FP.of "RegisterGatewayModel" rfl (by decide) (gm 1181 (by decide +kernel) rfl) (Or.inl rfl) rfl (by decide +kernel) (fun h => by cases h)
theorem fp_RX10_91 : FP RX10 91 11 8 (.int) false := FP.of "RegisterGatewayModel" rfl (by decide) (gm 1186 (by decide +kernel) rfl) (Or.inl rfl) rfl (by decide +kernel) (fun h => by cases h)
theorem fp_RX10_108 : FP RX10 108 11 5 (.int) false := FP.of "RegisterGatewayModel" rfl (by decide) (gm 1183 (by decide +kernel) rfl) (Or.inl rfl) rfl (by decide +kernel) (fun h => by cases h)
theorem fp_RX10_111 : FP RX10 111 11 6 (.int) false := FP.of "RegisterGatewayModel" rfl (by decide) (gm 1184 (by decide +kernel) rfl) (Or.inl rfl) rfl (by decide +kernel) (fun h => by cases h)
theorem fp_RX10_101 : FP RX10 101 11 7 (.boolean) false := FP.of "RegisterGatewayModel" rfl (by decide) (gm 1185 (by decide +kernel) rfl) (Or.inl rfl) rfl (by decide +kernel) (fun h => by cases h)
theorem fw_RX10_111 : FW RX10 111 11 6 := FW.of "RegisterGatewayModel" rfl (by decide) in_c11 (gm 1184 (by decide +kernel) rfl) (Or.inl rfl)
theorem fw_RX10_108 : FW RX10 108 11 5 := FW.of "RegisterGatewayModel" rfl (by decide) in_c11 (gm 1183 (by decide +kernel) rfl) (Or.inl rfl)
theorem yw_X10_isHeldBack : YW yX10_isHeldBack cX10_isHeldBack 5 (some (.boolean)) 1 := ⟨(gm 1373 (by decide +kernel) rfl), (gm 73 (by decide +kernel) rfl), by decide +kernel, by decide +kernel, by decide +kernel⟩
theorem vw_RX10_114 : VW RX10 114 yX10_isHeldBack := ⟨(gm 1370 (by decide +kernel) rfl), (gm 1372 (by decide +kernel) rfl), (gm 37 (by decide +kernel) rfl)⟩
