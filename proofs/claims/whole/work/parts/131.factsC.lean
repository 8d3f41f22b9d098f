theorem oi_RX0_3 : Cond.methodLink RX0 3 objectInit ∈ gtbl := gm 143 (by decide +kernel) rfl
theorem fp_RX0_9 : FP RX0 9 1 0 (.array .int) true := FP.of "RegisterGateway$Cache" rfl (by decide) (gm 147 (by decide +kernel) rfl) (Or.inl rfl) rfl (by decide +kernel) (fun _ => rfl)
theorem in_c1 : ∀ w ∈ u_ws RX0 TX0 2, w ∈ gtbl := by
  have e : u_ws RX0 TX0 2 = [.laysFinal RX0 "RegisterGateway$Cache" "values" "[I", .laysFinal RX0 "RegisterGateway$Cache" "times" "[I"] := rfl
  rw [e]
  exact fallc (gm 149 (by decide +kernel) rfl) (fallc (gm 151 (by decide +kernel) rfl) (falln))
theorem cw_1 : CW 1 := ⟨RX0, TX0, 2, tyX0, rfl, in_c1, tyX0_ok, nmX0, (gm 139 (by decide +kernel) rfl), (gm 64 (by decide +kernel) rfl), fun j hj => by
    rcases (show j = 0 ∨ j = 1 by omega) with rfl | rfl <;> rfl⟩
theorem fp_RX0_15 : FP RX0 15 1 1 (.array .int) true := FP.of "RegisterGateway$Cache" rfl (by decide) (gm 148 (by decide +kernel) rfl) (Or.inl rfl) rfl (by decide +kernel) (fun _ => rfl)
theorem fw_RX0_9 : FW RX0 9 1 0 := FW.of "RegisterGateway$Cache" rfl (by decide) in_c1 (gm 147 (by decide +kernel) rfl) (Or.inl rfl)
theorem yw_J7_fill_53178 : YW yJ7_fill_53178 cJ7_fill_53178 4 none 2 := ⟨(gm 146 (by decide +kernel) rfl), (gm 65 (by decide +kernel) rfl), by decide +kernel, by decide +kernel, by decide +kernel⟩
theorem sw_RX0_18 : SW RX0 18 yJ7_fill_53178 := ⟨(gm 144 (by decide +kernel) rfl), (gm 145 (by decide +kernel) rfl)⟩
theorem fw_RX0_15 : FW RX0 15 1 1 := FW.of "RegisterGateway$Cache" rfl (by decide) in_c1 (gm 148 (by decide +kernel) rfl) (Or.inl rfl)
theorem ac_RX0_24 : ACw RX0 24 := ⟨(gm 1112 (by decide +kernel) rfl), (gm 486 (by decide +kernel) rfl), (gm 485 (by decide +kernel) rfl), (gm 83 (by decide +kernel) rfl)⟩
theorem yw_X0_placeOf : YW yX0_placeOf cX0_placeOf 2 (some (.int)) 2 := ⟨(gm 380 (by decide +kernel) rfl), (gm 64 (by decide +kernel) rfl), by decide +kernel, by decide +kernel, by decide +kernel⟩
theorem sw_RX0_30 : SW RX0 30 yX0_placeOf := ⟨(gm 378 (by decide +kernel) rfl), (gm 379 (by decide +kernel) rfl)⟩
theorem yw_X0_ageOf : YW yX0_ageOf cX0_ageOf 5 (some (.int)) 3 := ⟨(gm 377 (by decide +kernel) rfl), (gm 64 (by decide +kernel) rfl), by decide +kernel, by decide +kernel, by decide +kernel⟩
theorem vw_RX0_34 : VW RX0 34 yX0_ageOf := ⟨(gm 374 (by decide +kernel) rfl), (gm 375 (by decide +kernel) rfl), (gm 376 (by decide +kernel) rfl)⟩
theorem yw_X0_put : YW yX0_put cX0_put 6 none 4 := ⟨(gm 663 (by decide +kernel) rfl), (gm 64 (by decide +kernel) rfl), by decide +kernel, by decide +kernel, by decide +kernel⟩
theorem vw_RX0_38 : VW RX0 38 yX0_put := ⟨(gm 660 (by decide +kernel) rfl), (gm 661 (by decide +kernel) rfl), (gm 662 (by decide +kernel) rfl)⟩
theorem oi_RX2_3 : Cond.methodLink RX2 3 objectInit ∈ gtbl := gm 108 (by decide +kernel) rfl
theorem fp_RX2_9 : FP RX2 9 3 0 (.array .int) true := FP.of "RegisterGateway$Device" rfl (by decide) (gm 110 (by decide +kernel) rfl) (Or.inl rfl) rfl (by decide +kernel) (fun _ => rfl)
theorem in_c3 : ∀ w ∈ u_ws RX2 TX2 7, w ∈ gtbl := by
  have e : u_ws RX2 TX2 7 = [.laysFinal RX2 "RegisterGateway$Device" "registers" "[I", .laysFinal RX2 "RegisterGateway$Device" "faultKinds" "[I", .laysFinal RX2 "RegisterGateway$Device" "faultNumbers" "[I", .lays RX2 "RegisterGateway$Device" "faults" "I", .lays RX2 "RegisterGateway$Device" "readOnly" "I", .lays RX2 "RegisterGateway$Device" "greatest" "I", .lays RX2 "RegisterGateway$Device" "delay" "I"] := rfl
  rw [e]
  exact fallc (gm 122 (by decide +kernel) rfl) (fallc (gm 124 (by decide +kernel) rfl) (fallc (gm 126 (by decide +kernel) rfl) (fallc (gm 128 (by decide +kernel) rfl) (fallc (gm 130 (by decide +kernel) rfl) (fallc (gm 132 (by decide +kernel) rfl) (fallc (gm 134 (by decide +kernel) rfl) (falln)))))))
theorem cw_3 : CW 3 := ⟨RX2, TX2, 7, tyX2, rfl, in_c3, tyX2_ok, nmX2, (gm 104 (by decide +kernel) rfl), (gm 63 (by decide +kernel) rfl), fun j hj => by
    rcases (show j = 0 ∨ j = 1 ∨ j = 2 ∨ j = 3 ∨ j = 4 ∨ j = 5 ∨ j = 6 by omega) with rfl | rfl | rfl | rfl | rfl | rfl | rfl <;> rfl⟩
theorem fp_RX2_15 : FP RX2 15 3 1 (.array .int) true := FP.of "RegisterGateway$Device" rfl (by decide) (gm 112 (by decide +kernel) rfl) (Or.inl rfl) rfl (by decide +kernel) (fun _ => rfl)
theorem fp_RX2_18 : FP RX2 18 3 2 (.array .int) true := FP.of "RegisterGateway$Device" rfl (by decide) (gm 113 (by decide +kernel) rfl) (Or.inl rfl) rfl (by decide +kernel) (fun _ => rfl)
theorem fp_RX2_21 : FP RX2 21 3 3 (.int) false := FP.of "RegisterGateway$Device" rfl (by decide) (gm 114 (by decide +kernel) rfl) (Or.inl rfl) rfl (by decide +kernel) (fun h => by cases h)
theorem fp_RX2_25 : FP RX2 25 3 4 (.int) false := FP.of "RegisterGateway$Device" rfl (by decide) (gm 116 (by decide +kernel) rfl) (Or.inl rfl) rfl (by decide +kernel) (fun h => by cases h)
theorem kc_RX2_28 : Cond.constant RX2 28 (65535) ∈ gtbl := gm 109 (by decide +kernel) rfl
theorem fp_RX2_29 : FP RX2 29 3 5 (.int) false := FP.of "RegisterGateway$Device" rfl (by decide) (gm 118 (by decide +kernel) rfl) (Or.inl rfl) rfl (by decide +kernel) (fun h => by cases h)
theorem fp_RX2_32 : FP RX2 32 3 6 (.int) false := FP.of "RegisterGateway$Device" rfl (by decide) (gm 120 (by decide +kernel) rfl) (Or.inl rfl) rfl (by decide +kernel) (fun h => by cases h)
theorem oi_RJxa1e45_1 : Cond.methodLink RJxa1e45 1 objectInit ∈ gtbl := gm 171 (by decide +kernel) rfl
theorem fp_RJxc12de_7 : FP RJxc12de 7 0 0 (.int) false := FP.of "java/util/AbstractList" rfl (by decide) (gm 176 (by decide +kernel) rfl) (Or.inl rfl) rfl (by decide +kernel) (fun h => by cases h)
theorem in_c0 : ∀ w ∈ u_ws RJx4a65c TJx4a65c 3, w ∈ gtbl := by
  have e : u_ws RJx4a65c TJx4a65c 3 = [.lays RJx4a65c "java/util/AbstractList" "modCount" "I", .lays RJx4a65c "java/util/ArrayList" "elementData" "[Ljava/lang/Object;", .lays RJx4a65c "java/util/ArrayList" "size" "I"] := rfl
  rw [e]
  exact fallc (gm 183 (by decide +kernel) rfl) (fallc (gm 179 (by decide +kernel) rfl) (fallc (gm 181 (by decide +kernel) rfl) (falln)))
theorem cw_0 : CW 0 := ⟨RJx4a65c, TJx4a65c, 3, tyJx4a65c, rfl, in_c0, tyJx4a65c_ok, nmJx4a65c, (gm 161 (by decide +kernel) rfl), (gm 69 (by decide +kernel) rfl), fun j hj => by
    rcases (show j = 0 ∨ j = 1 ∨ j = 2 by omega) with rfl | rfl | rfl <;> rfl⟩
theorem yw_Jxa1e45_init_da8c8 : YW yJxa1e45_init_da8c8 cJxa1e45_init_da8c8 1 none 0 := ⟨(gm 170 (by decide +kernel) rfl), (gm 67 (by decide +kernel) rfl), by decide +kernel, by decide +kernel, by decide +kernel⟩
theorem iw_RJxc12de_1 : IW RJxc12de 1 yJxa1e45_init_da8c8 := ⟨(gm 168 (by decide +kernel) rfl), (gm 169 (by decide +kernel) rfl), rfl⟩
theorem sl_RJx4a65c_39 : Cond.fieldLink RJx4a65c 39 RJx4a65c "DEFAULTCAPACITY_EMPTY_ELEMENTDATA" "[Ljava/lang/Object;" ∈ gtbl := gm 172 (by decide +kernel) rfl
theorem fp_RJx4a65c_9 : FP RJx4a65c 9 0 1 (.array (.object "java/lang/Object")) false := FP.of "java/util/ArrayList" rfl (by decide) (gm 174 (by decide +kernel) rfl) (Or.inl rfl) rfl (by decide +kernel) (fun h => by cases h)
theorem yw_Jxc12de_init_da8c8 : YW yJxc12de_init_da8c8 cJxc12de_init_da8c8 1 none 0 := ⟨(gm 167 (by decide +kernel) rfl), (gm 68 (by decide +kernel) rfl), by decide +kernel, by decide +kernel, by decide +kernel⟩
theorem iw_RJx4a65c_1 : IW RJx4a65c 1 yJxc12de_init_da8c8 := ⟨(gm 165 (by decide +kernel) rfl), (gm 166 (by decide +kernel) rfl), rfl⟩
theorem oi_RX6_3 : Cond.methodLink RX6 3 objectInit ∈ gtbl := gm 159 (by decide +kernel) rfl
theorem cl_RX6_9 : Cond.classLink RX6 9 RJx4a65c ∈ gtbl := gm 160 (by decide +kernel) rfl
theorem fp_RX6_12 : FP RX6 12 7 0 (.object "java/util/ArrayList") true := FP.of "RegisterGateway$Queue" rfl (by decide) (gm 186 (by decide +kernel) rfl) (Or.inl rfl) rfl (by decide +kernel) (fun _ => rfl)
theorem in_c7 : ∀ w ∈ u_ws RX6 TX6 7, w ∈ gtbl := by
  have e : u_ws RX6 TX6 7 = [.laysFinal RX6 "RegisterGateway$Queue" "requests" "Ljava/util/ArrayList;", .lays RX6 "RegisterGateway$Queue" "members" "J", .lays RX6 "RegisterGateway$Queue" "first" "I", .lays RX6 "RegisterGateway$Queue" "device" "I", .lays RX6 "RegisterGateway$Queue" "isWrite" "Z", .lays RX6 "RegisterGateway$Queue" "start" "I", .lays RX6 "RegisterGateway$Queue" "end" "I"] := rfl
  rw [e]
  exact fallc (gm 202 (by decide +kernel) rfl) (fallc (gm 204 (by decide +kernel) rfl) (fallc (gm 206 (by decide +kernel) rfl) (fallc (gm 208 (by decide +kernel) rfl) (fallc (gm 210 (by decide +kernel) rfl) (fallc (gm 212 (by decide +kernel) rfl) (fallc (gm 214 (by decide +kernel) rfl) (falln)))))))
theorem cw_7 : CW 7 := ⟨RX6, TX6, 7, tyX6, rfl, in_c7, tyX6_ok, nmX6, (gm 155 (by decide +kernel) rfl), (gm 66 (by decide +kernel) rfl), fun j hj => by
    rcases (show j = 0 ∨ j = 1 ∨ j = 2 ∨ j = 3 ∨ j = 4 ∨ j = 5 ∨ j = 6 by omega) with rfl | rfl | rfl | rfl | rfl | rfl | rfl <;> rfl⟩
theorem fp_RX6_18 : FP RX6 18 7 1 (.long) false := FP.of "RegisterGateway$Queue" rfl (by decide) (gm 189 (by decide +kernel) rfl) (Or.inl rfl) rfl (by decide +kernel) (fun h => by cases h)
theorem fp_RX6_22 : FP RX6 22 7 2 (.int) false := FP.of "RegisterGateway$Queue" rfl (by decide) (gm 192 (by decide +kernel) rfl) (Or.inl rfl) rfl (by decide +kernel) (fun h => by cases h)
theorem fp_RX6_26 : FP RX6 26 7 3 (.int) false := FP.of "RegisterGateway$Queue" rfl (by decide) (gm 194 (by decide +kernel) rfl) (Or.inl rfl) rfl (by decide +kernel) (fun h => by cases h)
theorem fp_RX6_29 : FP RX6 29 7 4 (.boolean) false := FP.of "RegisterGateway$Queue" rfl (by decide) (gm 196 (by decide +kernel) rfl) (Or.inl rfl) rfl (by decide +kernel) (fun h => by cases h)
theorem fp_RX6_33 : FP RX6 33 7 5 (.int) false := FP.of "RegisterGateway$Queue" rfl (by decide) (gm 198 (by decide +kernel) rfl) (Or.inl rfl) rfl (by decide +kernel) (fun h => by cases h)
theorem fp_RX6_36 : FP RX6 36 7 6 (.int) false := FP.of "RegisterGateway$Queue" rfl (by decide) (gm 200 (by decide +kernel) rfl) (Or.inl rfl) rfl (by decide +kernel) (fun h => by cases h)
theorem yw_Jx4a65c_init_da8c8 : YW yJx4a65c_init_da8c8 cJx4a65c_init_da8c8 1 none 0 := ⟨(gm 164 (by decide +kernel) rfl), (gm 69 (by decide +kernel) rfl), by decide +kernel, by decide +kernel, by decide +kernel⟩
theorem iw_RX6_11 : IW RX6 11 yJx4a65c_init_da8c8 := ⟨(gm 162 (by decide +kernel) rfl), (gm 163 (by decide +kernel) rfl), rfl⟩
theorem oi_RX4_1 : Cond.methodLink RX4 1 objectInit ∈ gtbl := gm 222 (by decide +kernel) rfl
theorem cl_RX4_7 : Cond.classLink RX4 7 RJx4a65c ∈ gtbl := gm 223 (by decide +kernel) rfl
theorem fp_RX4_10 : FP RX4 10 5 0 (.object "java/util/ArrayList") true := FP.of "RegisterGateway$Line" rfl (by decide) (gm 225 (by decide +kernel) rfl) (Or.inl rfl) rfl (by decide +kernel) (fun _ => rfl)
theorem in_c5 : ∀ w ∈ u_ws RX4 TX4 2, w ∈ gtbl := by
  have e : u_ws RX4 TX4 2 = [.laysFinal RX4 "RegisterGateway$Line" "replies" "Ljava/util/ArrayList;", .laysFinal RX4 "RegisterGateway$Line" "spare" "Ljava/util/ArrayList;"] := rfl
  rw [e]
  exact fallc (gm 228 (by decide +kernel) rfl) (fallc (gm 230 (by decide +kernel) rfl) (falln))
theorem cw_5 : CW 5 := ⟨RX4, TX4, 2, tyX4, rfl, in_c5, tyX4_ok, nmX4, (gm 218 (by decide +kernel) rfl), (gm 70 (by decide +kernel) rfl), fun j hj => by
    rcases (show j = 0 ∨ j = 1 by omega) with rfl | rfl <;> rfl⟩
theorem fp_RX4_16 : FP RX4 16 5 1 (.object "java/util/ArrayList") true := FP.of "RegisterGateway$Line" rfl (by decide) (gm 227 (by decide +kernel) rfl) (Or.inl rfl) rfl (by decide +kernel) (fun _ => rfl)
theorem iw_RX4_9 : IW RX4 9 yJx4a65c_init_da8c8 := ⟨(gm 224 (by decide +kernel) rfl), (gm 163 (by decide +kernel) rfl), rfl⟩
theorem oi_RX3_3 : Cond.methodLink RX3 3 objectInit ∈ gtbl := gm 238 (by decide +kernel) rfl
theorem fp_RX3_9 : FP RX3 9 4 0 (.array .int) true := FP.of "RegisterGateway$Frame" rfl (by decide) (gm 239 (by decide +kernel) rfl) (Or.inl rfl) rfl (by decide +kernel) (fun _ => rfl)
theorem in_c4 : ∀ w ∈ u_ws RX3 TX3 2, w ∈ gtbl := by
  have e : u_ws RX3 TX3 2 = [.laysFinal RX3 "RegisterGateway$Frame" "bytes" "[I", .lays RX3 "RegisterGateway$Frame" "size" "I"] := rfl
  rw [e]
  exact fallc (gm 243 (by decide +kernel) rfl) (fallc (gm 245 (by decide +kernel) rfl) (falln))
theorem cw_4 : CW 4 := ⟨RX3, TX3, 2, tyX3, rfl, in_c4, tyX3_ok, nmX3, (gm 234 (by decide +kernel) rfl), (gm 71 (by decide +kernel) rfl), fun j hj => by
    rcases (show j = 0 ∨ j = 1 by omega) with rfl | rfl <;> rfl⟩
theorem fp_RX3_15 : FP RX3 15 4 1 (.int) false := FP.of "RegisterGateway$Frame" rfl (by decide) (gm 240 (by decide +kernel) rfl) (Or.inl rfl) rfl (by decide +kernel) (fun h => by cases h)
theorem oi_RX1_3 : Cond.methodLink RX1 3 objectInit ∈ gtbl := gm 101 (by decide +kernel) rfl
theorem fp_RX1_9 : FP RX1 9 2 0 (.array .int) true := FP.of "RegisterGateway$Core" rfl (by decide) (gm 248 (by decide +kernel) rfl) (Or.inl rfl) rfl (by decide +kernel) (fun _ => rfl)
theorem in_c2 : ∀ w ∈ u_ws RX1 TX1 11, w ∈ gtbl := by
  have e : u_ws RX1 TX1 11 = [.laysFinal RX1 "RegisterGateway$Core" "settings" "[I", .laysFinal RX1 "RegisterGateway$Core" "counts" "[I", .laysFinal RX1 "RegisterGateway$Core" "devices" "[LRegisterGateway$Device;", .laysFinal RX1 "RegisterGateway$Core" "cache" "LRegisterGateway$Cache;", .laysFinal RX1 "RegisterGateway$Core" "queue" "LRegisterGateway$Queue;", .laysFinal RX1 "RegisterGateway$Core" "line" "LRegisterGateway$Line;", .laysFinal RX1 "RegisterGateway$Core" "frame" "LRegisterGateway$Frame;", .lays RX1 "RegisterGateway$Core" "now" "I", .lays RX1 "RegisterGateway$Core" "tried" "I", .lays RX1 "RegisterGateway$Core" "latestMissed" "Z", .lays RX1 "RegisterGateway$Core" "tookFalseReply" "Z"] := rfl
  rw [e]
  exact fallc (gm 267 (by decide +kernel) rfl) (fallc (gm 269 (by decide +kernel) rfl) (fallc (gm 271 (by decide +kernel) rfl) (fallc (gm 273 (by decide +kernel) rfl) (fallc (gm 275 (by decide +kernel) rfl) (fallc (gm 277 (by decide +kernel) rfl) (fallc (gm 279 (by decide +kernel) rfl) (fallc (gm 281 (by decide +kernel) rfl) (fallc (gm 283 (by decide +kernel) rfl) (fallc (gm 285 (by decide +kernel) rfl) (fallc (gm 287 (by decide +kernel) rfl) (falln)))))))))))
theorem cw_2 : CW 2 := ⟨RX1, TX1, 11, tyX1, rfl, in_c2, tyX1_ok, nmX1, (gm 97 (by decide +kernel) rfl), (gm 62 (by decide +kernel) rfl), fun j hj => by
    rcases (show j = 0 ∨ j = 1 ∨ j = 2 ∨ j = 3 ∨ j = 4 ∨ j = 5 ∨ j = 6 ∨ j = 7 ∨ j = 8 ∨ j = 9 ∨ j = 10 by omega) with rfl | rfl | rfl | rfl | rfl | rfl | rfl | rfl | rfl | rfl | rfl <;> rfl⟩
theorem fp_RX1_15 : FP RX1 15 2 1 (.array .int) true := FP.of "RegisterGateway$Core" rfl (by decide) (gm 250 (by decide +kernel) rfl) (Or.inl rfl) rfl (by decide +kernel) (fun _ => rfl)
theorem cl_RX1_18 : Cond.classLink RX1 18 "RegisterGateway$Device" ∈ gtbl := gm 102 (by decide +kernel) rfl
theorem fp_RX1_21 : FP RX1 21 2 2 (.array (.object "RegisterGateway$Device")) true := FP.of "RegisterGateway$Core" rfl (by decide) (gm 252 (by decide +kernel) rfl) (Or.inl rfl) rfl (by decide +kernel) (fun _ => rfl)
theorem cl_RX1_25 : Cond.classLink RX1 25 RX0 ∈ gtbl := gm 138 (by decide +kernel) rfl
theorem fp_RX1_28 : FP RX1 28 2 3 (.object "RegisterGateway$Cache") true := FP.of "RegisterGateway$Core" rfl (by decide) (gm 254 (by decide +kernel) rfl) (Or.inl rfl) rfl (by decide +kernel) (fun _ => rfl)
theorem cl_RX1_32 : Cond.classLink RX1 32 RX6 ∈ gtbl := gm 154 (by decide +kernel) rfl
theorem fp_RX1_35 : FP RX1 35 2 4 (.object "RegisterGateway$Queue") true := FP.of "RegisterGateway$Core" rfl (by decide) (gm 256 (by decide +kernel) rfl) (Or.inl rfl) rfl (by decide +kernel) (fun _ => rfl)
theorem cl_RX1_39 : Cond.classLink RX1 39 RX4 ∈ gtbl := gm 217 (by decide +kernel) rfl
theorem fp_RX1_42 : FP RX1 42 2 5 (.object "RegisterGateway$Line") true := FP.of "RegisterGateway$Core" rfl (by decide) (gm 258 (by decide +kernel) rfl) (Or.inl rfl) rfl (by decide +kernel) (fun _ => rfl)
theorem cl_RX1_46 : Cond.classLink RX1 46 RX3 ∈ gtbl := gm 233 (by decide +kernel) rfl
theorem fp_RX1_49 : FP RX1 49 2 6 (.object "RegisterGateway$Frame") true := FP.of "RegisterGateway$Core" rfl (by decide) (gm 259 (by decide +kernel) rfl) (Or.inl rfl) rfl (by decide +kernel) (fun _ => rfl)
theorem fp_RX1_53 : FP RX1 53 2 7 (.int) false := FP.of "RegisterGateway$Core" rfl (by decide) (gm 261 (by decide +kernel) rfl) (Or.inl rfl) rfl (by decide +kernel) (fun h => by cases h)
theorem fp_RX1_57 : FP RX1 57 2 8 (.int) false := FP.of "RegisterGateway$Core" rfl (by decide) (gm 263 (by decide +kernel) rfl) (Or.inl rfl) rfl (by decide +kernel) (fun h => by cases h)
theorem fp_RX1_60 : FP RX1 60 2 9 (.boolean) false := FP.of "RegisterGateway$Core" rfl (by decide) (gm 264 (by decide +kernel) rfl) (Or.inl rfl) rfl (by decide +kernel) (fun h => by cases h)
theorem fp_RX1_64 : FP RX1 64 2 10 (.boolean) false := FP.of "RegisterGateway$Core" rfl (by decide) (gm 265 (by decide +kernel) rfl) (Or.inl rfl) rfl (by decide +kernel) (fun h => by cases h)
theorem yw_X2_init : YW yX2_init cX2_init 1 none 0 := ⟨(gm 107 (by decide +kernel) rfl), (gm 63 (by decide +kernel) rfl), by decide +kernel, by decide +kernel, by decide +kernel⟩
theorem ni_RX1_20 : NI RX1 20 yX2_init := ⟨⟨"RegisterGateway", List.mem_of_getElem? (i := 105) (by decide +kernel)⟩, (gm 106 (by decide +kernel) rfl), rfl⟩
theorem yw_X0_init : YW yX0_init cX0_init 1 none 0 := ⟨(gm 142 (by decide +kernel) rfl), (gm 64 (by decide +kernel) rfl), by decide +kernel, by decide +kernel, by decide +kernel⟩
theorem iw_RX1_27 : IW RX1 27 yX0_init := ⟨(gm 140 (by decide +kernel) rfl), (gm 141 (by decide +kernel) rfl), rfl⟩
theorem yw_X6_init : YW yX6_init cX6_init 1 none 0 := ⟨(gm 158 (by decide +kernel) rfl), (gm 66 (by decide +kernel) rfl), by decide +kernel, by decide +kernel, by decide +kernel⟩
theorem ni_RX1_34 : NI RX1 34 yX6_init := ⟨⟨"RegisterGateway", List.mem_of_getElem? (i := 156) (by decide +kernel)⟩, (gm 157 (by decide +kernel) rfl), rfl⟩
theorem yw_X4_init : YW yX4_init cX4_init 1 none 0 := ⟨(gm 221 (by decide +kernel) rfl), (gm 70 (by decide +kernel) rfl), by decide +kernel, by decide +kernel, by decide +kernel⟩
theorem ni_RX1_41 : NI RX1 41 yX4_init := ⟨⟨"RegisterGateway", List.mem_of_getElem? (i := 219) (by decide +kernel)⟩, (gm 220 (by decide +kernel) rfl), rfl⟩
theorem yw_X3_init : YW yX3_init cX3_init 1 none 0 := ⟨(gm 237 (by decide +kernel) rfl), (gm 71 (by decide +kernel) rfl), by decide +kernel, by decide +kernel, by decide +kernel⟩
theorem ni_RX1_48 : NI RX1 48 yX3_init := ⟨⟨"RegisterGateway", List.mem_of_getElem? (i := 235) (by decide +kernel)⟩, (gm 236 (by decide +kernel) rfl), rfl⟩
theorem fw_RX2_9 : FW RX2 9 3 0 := FW.of "RegisterGateway$Device" rfl (by decide) in_c3 (gm 110 (by decide +kernel) rfl) (Or.inl rfl)
theorem fw_RX2_15 : FW RX2 15 3 1 := FW.of "RegisterGateway$Device" rfl (by decide) in_c3 (gm 112 (by decide +kernel) rfl) (Or.inl rfl)
theorem fw_RX2_18 : FW RX2 18 3 2 := FW.of "RegisterGateway$Device" rfl (by decide) in_c3 (gm 113 (by decide +kernel) rfl) (Or.inl rfl)
theorem fw_RX2_21 : FW RX2 21 3 3 := FW.of "RegisterGateway$Device" rfl (by decide) in_c3 (gm 114 (by decide +kernel) rfl) (Or.inl rfl)
theorem fw_RX2_25 : FW RX2 25 3 4 := FW.of "RegisterGateway$Device" rfl (by decide) in_c3 (gm 116 (by decide +kernel) rfl) (Or.inl rfl)
theorem fw_RX2_29 : FW RX2 29 3 5 := FW.of "RegisterGateway$Device" rfl (by decide) in_c3 (gm 118 (by decide +kernel) rfl) (Or.inl rfl)
theorem fw_RX2_32 : FW RX2 32 3 6 := FW.of "RegisterGateway$Device" rfl (by decide) in_c3 (gm 120 (by decide +kernel) rfl) (Or.inl rfl)
theorem ac_RX2_35 : ACw RX2 35 := ⟨(gm 1107 (by decide +kernel) rfl), (gm 486 (by decide +kernel) rfl), (gm 485 (by decide +kernel) rfl), (gm 83 (by decide +kernel) rfl)⟩
theorem fw_RJx4a65c_48 : FW RJx4a65c 48 0 2 := FW.of "java/util/ArrayList" rfl (by decide) in_c0 (gm 175 (by decide +kernel) rfl) (Or.inl rfl)
theorem yw_J3_checkIndex_8e157 : YW yJ3_checkIndex_8e157 cJ3_checkIndex_8e157 3 (some (.int)) 3 := ⟨(gm 360 (by decide +kernel) rfl), (gm 85 (by decide +kernel) rfl), by decide +kernel, by decide +kernel, by decide +kernel⟩
theorem sw_RJ15_105 : SW RJ15 105 yJ3_checkIndex_8e157 := ⟨(gm 358 (by decide +kernel) rfl), (gm 359 (by decide +kernel) rfl)⟩
theorem fw_RJx4a65c_9 : FW RJx4a65c 9 0 1 := FW.of "java/util/ArrayList" rfl (by decide) in_c0 (gm 174 (by decide +kernel) rfl) (Or.inl rfl)
theorem yw_J15_checkIndex_7cf53 : YW yJ15_checkIndex_7cf53 cJ15_checkIndex_7cf53 2 (some (.int)) 2 := ⟨(gm 357 (by decide +kernel) rfl), (gm 84 (by decide +kernel) rfl), by decide +kernel, by decide +kernel, by decide +kernel⟩
theorem sw_RJx4a65c_118 : SW RJx4a65c 118 yJ15_checkIndex_7cf53 := ⟨(gm 355 (by decide +kernel) rfl), (gm 356 (by decide +kernel) rfl)⟩
theorem yw_Jx4a65c_elementData_915e3 : YW yJx4a65c_elementData_915e3 cJx4a65c_elementData_915e3 2 (some (.object "java/lang/Object")) 1 := ⟨(gm 364 (by decide +kernel) rfl), (gm 69 (by decide +kernel) rfl), by decide +kernel, by decide +kernel, by decide +kernel⟩
theorem vw_RJx4a65c_123 : VW RJx4a65c 123 yJx4a65c_elementData_915e3 := ⟨(gm 361 (by decide +kernel) rfl), (gm 362 (by decide +kernel) rfl), (gm 363 (by decide +kernel) rfl)⟩
theorem oi_RX8_3 : Cond.methodLink RX8 3 objectInit ∈ gtbl := gm 945 (by decide +kernel) rfl
theorem fp_RX8_9 : FP RX8 9 9 7 (.int) false := FP.of "RegisterGateway$Request" rfl (by decide) (gm 974 (by decide +kernel) rfl) (Or.inl rfl) rfl (by decide +kernel) (fun h => by cases h)
theorem in_c9 : ∀ w ∈ u_ws RX8 TX8 11, w ∈ gtbl := by
  have e : u_ws RX8 TX8 11 = [.laysFinal RX8 "RegisterGateway$Request" "client" "I", .laysFinal RX8 "RegisterGateway$Request" "device" "I", .laysFinal RX8 "RegisterGateway$Request" "start" "I", .laysFinal RX8 "RegisterGateway$Request" "count" "I", .laysFinal RX8 "RegisterGateway$Request" "end" "I", .laysFinal RX8 "RegisterGateway$Request" "isWrite" "Z", .laysFinal RX8 "RegisterGateway$Request" "values" "[I", .lays RX8 "RegisterGateway$Request" "state" "I", .lays RX8 "RegisterGateway$Request" "code" "I", .lays RX8 "RegisterGateway$Request" "endTime" "I", .lays RX8 "RegisterGateway$Request" "fromCache" "Z"] := rfl
  rw [e]
  exact fallc (gm 986 (by decide +kernel) rfl) (fallc (gm 988 (by decide +kernel) rfl) (fallc (gm 990 (by decide +kernel) rfl) (fallc (gm 992 (by decide +kernel) rfl) (fallc (gm 994 (by decide +kernel) rfl) (fallc (gm 996 (by decide +kernel) rfl) (fallc (gm 998 (by decide +kernel) rfl) (fallc (gm 1000 (by decide +kernel) rfl) (fallc (gm 1002 (by decide +kernel) rfl) (fallc (gm 1004 (by decide +kernel) rfl) (fallc (gm 1006 (by decide +kernel) rfl) (falln)))))))))))
theorem cw_9 : CW 9 := ⟨RX8, TX8, 11, tyX8, rfl, in_c9, tyX8_ok, nmX8, (gm 941 (by decide +kernel) rfl), (gm 80 (by decide +kernel) rfl), fun j hj => by
    rcases (show j = 0 ∨ j = 1 ∨ j = 2 ∨ j = 3 ∨ j = 4 ∨ j = 5 ∨ j = 6 ∨ j = 7 ∨ j = 8 ∨ j = 9 ∨ j = 10 by omega) with rfl | rfl | rfl | rfl | rfl | rfl | rfl | rfl | rfl | rfl | rfl <;> rfl⟩
theorem fp_RX8_15 : FP RX8 15 9 8 (.int) false := FP.of "RegisterGateway$Request" rfl (by decide) (gm 977 (by decide +kernel) rfl) (Or.inl rfl) rfl (by decide +kernel) (fun h => by cases h)
theorem fp_RX8_18 : FP RX8 18 9 9 (.int) false := FP.of "RegisterGateway$Request" rfl (by decide) (gm 980 (by decide +kernel) rfl) (Or.inl rfl) rfl (by decide +kernel) (fun h => by cases h)
theorem fp_RX8_21 : FP RX8 21 9 10 (.boolean) false := FP.of "RegisterGateway$Request" rfl (by decide) (gm 983 (by decide +kernel) rfl) (Or.inl rfl) rfl (by decide +kernel) (fun h => by cases h)
theorem fp_RX8_25 : FP RX8 25 9 0 (.int) true := FP.of "RegisterGateway$Request" rfl (by decide) (gm 948 (by decide +kernel) rfl) (Or.inl rfl) rfl (by decide +kernel) (fun _ => rfl)
theorem fp_RX8_28 : FP RX8 28 9 1 (.int) true := FP.of "RegisterGateway$Request" rfl (by decide) (gm 951 (by decide +kernel) rfl) (Or.inl rfl) rfl (by decide +kernel) (fun _ => rfl)
theorem fp_RX8_31 : FP RX8 31 9 2 (.int) true := FP.of "RegisterGateway$Request" rfl (by decide) (gm 955 (by decide +kernel) rfl) (Or.inl rfl) rfl (by decide +kernel) (fun _ => rfl)
theorem fp_RX8_34 : FP RX8 34 9 3 (.int) true := FP.of "RegisterGateway$Request" rfl (by decide) (gm 959 (by decide +kernel) rfl) (Or.inl rfl) rfl (by decide +kernel) (fun _ => rfl)
theorem fp_RX8_37 : FP RX8 37 9 4 (.int) true := FP.of "RegisterGateway$Request" rfl (by decide) (gm 963 (by decide +kernel) rfl) (Or.inl rfl) rfl (by decide +kernel) (fun _ => rfl)
theorem fp_RX8_40 : FP RX8 40 9 5 (.boolean) true := FP.of "RegisterGateway$Request" rfl (by decide) (gm 966 (by decide +kernel) rfl) (Or.inl rfl) rfl (by decide +kernel) (fun _ => rfl)
theorem fp_RX8_52 : FP RX8 52 9 6 (.array .int) true := FP.of "RegisterGateway$Request" rfl (by decide) (gm 970 (by decide +kernel) rfl) (Or.inl rfl) rfl (by decide +kernel) (fun _ => rfl)
theorem yw_J9_min_7cf53 : YW yJ9_min_7cf53 cJ9_min_7cf53 2 (some (.int)) 2 := ⟨(gm 394 (by decide +kernel) rfl), (gm 81 (by decide +kernel) rfl), by decide +kernel, by decide +kernel, by decide +kernel⟩
theorem sw_RX8_43 : SW RX8 43 yJ9_min_7cf53 := ⟨(gm 946 (by decide +kernel) rfl), (gm 393 (by decide +kernel) rfl)⟩
theorem yw_J9_max_7cf53 : YW yJ9_max_7cf53 cJ9_max_7cf53 2 (some (.int)) 2 := ⟨(gm 391 (by decide +kernel) rfl), (gm 81 (by decide +kernel) rfl), by decide +kernel, by decide +kernel, by decide +kernel⟩
theorem sw_RX8_49 : SW RX8 49 yJ9_max_7cf53 := ⟨(gm 947 (by decide +kernel) rfl), (gm 390 (by decide +kernel) rfl)⟩
theorem kc_RJ8_200 : Cond.constant RJ8 200 (2147483639) ∈ gtbl := gm 511 (by decide +kernel) rfl
theorem sw_RJ8_194 : SW RJ8 194 yJ9_max_7cf53 := ⟨(gm 510 (by decide +kernel) rfl), (gm 390 (by decide +kernel) rfl)⟩
theorem cl_RJ7_110 : Cond.classLink RJ7 110 "[Ljava/lang/Object;" ∈ gtbl := gm 540 (by decide +kernel) rfl
theorem cl_RJ7_2 : Cond.classLink RJ7 2 "java/lang/Object" ∈ gtbl := gm 542 (by decide +kernel) rfl
theorem sw_RJ7_304 : SW RJ7 304 yJ9_min_7cf53 := ⟨(gm 543 (by decide +kernel) rfl), (gm 393 (by decide +kernel) rfl)⟩
theorem ac_RJ7_150 : ACw RJ7 150 := ⟨(gm 544 (by decide +kernel) rfl), (gm 486 (by decide +kernel) rfl), (gm 485 (by decide +kernel) rfl), (gm 83 (by decide +kernel) rfl)⟩
theorem gc_RJ7_86 : Cond.methodLink RJ7 86 ⟨"java/lang/Object", "getClass", "()Ljava/lang/Class;"⟩ ∈ gtbl := gm 518 (by decide +kernel) rfl
theorem gc_sel : Cond.selects "[Ljava/lang/Object;" ⟨"java/lang/Object", "getClass", "()Ljava/lang/Class;"⟩ ⟨"java/lang/Object", "getClass", "()Ljava/lang/Class;"⟩ ∈ gtbl := gm 1556 (by decide +kernel) rfl
theorem gc_inst : Cond.instanceMethod ⟨"java/lang/Object", "getClass", "()Ljava/lang/Class;"⟩ ∈ gtbl := gm 519 (by decide +kernel) rfl
theorem gc_nat : Cond.native ⟨"java/lang/Object", "getClass", "()Ljava/lang/Class;"⟩ ∈ gtbl := gm 536 (by decide +kernel) rfl
theorem yw_J7_copyOf_6403c : YW yJ7_copyOf_6403c cJ7_copyOf_6403c 4 (some (.array (.object "java/lang/Object"))) 3 := ⟨(gm 539 (by decide +kernel) rfl), (gm 65 (by decide +kernel) rfl), by decide +kernel, by decide +kernel, by decide +kernel⟩
theorem sw_RJ7_300 : SW RJ7 300 yJ7_copyOf_6403c := ⟨(gm 537 (by decide +kernel) rfl), (gm 538 (by decide +kernel) rfl)⟩
theorem cl_RJx4a65c_7 : Cond.classLink RJx4a65c 7 "java/lang/Object" ∈ gtbl := gm 546 (by decide +kernel) rfl
theorem yw_J8_newLength_cabcc : YW yJ8_newLength_cabcc cJ8_newLength_cabcc 4 (some (.int)) 3 := ⟨(gm 509 (by decide +kernel) rfl), (gm 82 (by decide +kernel) rfl), by decide +kernel, by decide +kernel, by decide +kernel⟩
theorem sw_RJx4a65c_73 : SW RJx4a65c 73 yJ8_newLength_cabcc := ⟨(gm 507 (by decide +kernel) rfl), (gm 508 (by decide +kernel) rfl)⟩
theorem yw_J7_copyOf_1904c : YW yJ7_copyOf_1904c cJ7_copyOf_1904c 2 (some (.array (.object "java/lang/Object"))) 2 := ⟨(gm 517 (by decide +kernel) rfl), (gm 65 (by decide +kernel) rfl), by decide +kernel, by decide +kernel, by decide +kernel⟩
theorem sw_RJx4a65c_66 : SW RJx4a65c 66 yJ7_copyOf_1904c := ⟨(gm 515 (by decide +kernel) rfl), (gm 516 (by decide +kernel) rfl)⟩
theorem sw_RJx4a65c_79 : SW RJx4a65c 79 yJ9_max_7cf53 := ⟨(gm 545 (by decide +kernel) rfl), (gm 390 (by decide +kernel) rfl)⟩
theorem yw_Jx4a65c_grow_92f84 : YW yJx4a65c_grow_92f84 cJx4a65c_grow_92f84 4 (some (.array (.object "java/lang/Object"))) 1 := ⟨(gm 506 (by decide +kernel) rfl), (gm 69 (by decide +kernel) rfl), by decide +kernel, by decide +kernel, by decide +kernel⟩
theorem vw_RJx4a65c_69 : VW RJx4a65c 69 yJx4a65c_grow_92f84 := ⟨(gm 503 (by decide +kernel) rfl), (gm 505 (by decide +kernel) rfl), (gm 10 (by decide +kernel) rfl)⟩
theorem fp_RJx4a65c_48 : FP RJx4a65c 48 0 2 (.int) false := FP.of "java/util/ArrayList" rfl (by decide) (gm 175 (by decide +kernel) rfl) (Or.inl rfl) rfl (by decide +kernel) (fun h => by cases h)
theorem yw_Jx4a65c_grow_d5877 : YW yJx4a65c_grow_d5877 cJx4a65c_grow_d5877 1 (some (.array (.object "java/lang/Object"))) 0 := ⟨(gm 502 (by decide +kernel) rfl), (gm 69 (by decide +kernel) rfl), by decide +kernel, by decide +kernel, by decide +kernel⟩
theorem vw_RJx4a65c_129 : VW RJx4a65c 129 yJx4a65c_grow_d5877 := ⟨(gm 499 (by decide +kernel) rfl), (gm 501 (by decide +kernel) rfl), (gm 9 (by decide +kernel) rfl)⟩
theorem fw_RJx4a65c_63 : FW RJx4a65c 63 0 0 := FW.of "java/util/ArrayList" rfl (by decide) in_c0 (gm 177 (by decide +kernel) rfl) (Or.inr (gm 178 (by decide +kernel) rfl))
theorem fp_RJx4a65c_63 : FP RJx4a65c 63 0 0 (.int) false := FP.of "java/util/ArrayList" rfl (by decide) (gm 177 (by decide +kernel) rfl) (Or.inr (gm 178 (by decide +kernel) rfl)) rfl (by decide +kernel) (fun h => by cases h)
theorem yw_Jx4a65c_add_72be8 : YW yJx4a65c_add_72be8 cJx4a65c_add_72be8 4 none 3 := ⟨(gm 498 (by decide +kernel) rfl), (gm 69 (by decide +kernel) rfl), by decide +kernel, by decide +kernel, by decide +kernel⟩
theorem vw_RJx4a65c_131 : VW RJx4a65c 131 yJx4a65c_add_72be8 := ⟨(gm 495 (by decide +kernel) rfl), (gm 497 (by decide +kernel) rfl), (gm 8 (by decide +kernel) rfl)⟩
theorem fw_RX6_12 : FW RX6 12 7 0 := FW.of "RegisterGateway$Queue" rfl (by decide) in_c7 (gm 186 (by decide +kernel) rfl) (Or.inl rfl)
theorem cl_RX6_47 : Cond.classLink RX6 47 RX8 ∈ gtbl := gm 365 (by decide +kernel) rfl
theorem fw_RX6_49 : FW RX6 49 9 0 := FW.of "RegisterGateway$Request" rfl (by decide) in_c9 (gm 949 (by decide +kernel) rfl) (Or.inl rfl)
theorem fw_RX6_52 : FW RX6 52 9 1 := FW.of "RegisterGateway$Request" rfl (by decide) in_c9 (gm 952 (by decide +kernel) rfl) (Or.inl rfl)
theorem fw_RX6_53 : FW RX6 53 9 2 := FW.of "RegisterGateway$Request" rfl (by decide) in_c9 (gm 956 (by decide +kernel) rfl) (Or.inl rfl)
theorem fw_RX6_54 : FW RX6 54 9 3 := FW.of "RegisterGateway$Request" rfl (by decide) in_c9 (gm 960 (by decide +kernel) rfl) (Or.inl rfl)
theorem fw_RX6_57 : FW RX6 57 9 5 := FW.of "RegisterGateway$Request" rfl (by decide) in_c9 (gm 967 (by decide +kernel) rfl) (Or.inl rfl)
theorem fw_RX6_65 : FW RX6 65 9 7 := FW.of "RegisterGateway$Request" rfl (by decide) in_c9 (gm 975 (by decide +kernel) rfl) (Or.inl rfl)
theorem fw_RX6_68 : FW RX6 68 9 8 := FW.of "RegisterGateway$Request" rfl (by decide) in_c9 (gm 978 (by decide +kernel) rfl) (Or.inl rfl)
theorem fw_RX6_71 : FW RX6 71 9 9 := FW.of "RegisterGateway$Request" rfl (by decide) in_c9 (gm 981 (by decide +kernel) rfl) (Or.inl rfl)
theorem fw_RX6_78 : FW RX6 78 9 6 := FW.of "RegisterGateway$Request" rfl (by decide) in_c9 (gm 971 (by decide +kernel) rfl) (Or.inl rfl)
theorem yw_Jx4a65c_get_915e3 : YW yJx4a65c_get_915e3 cJx4a65c_get_915e3 2 (some (.object "java/lang/Object")) 1 := ⟨(gm 354 (by decide +kernel) rfl), (gm 69 (by decide +kernel) rfl), by decide +kernel, by decide +kernel, by decide +kernel⟩
theorem vw_RX6_43 : VW RX6 43 yJx4a65c_get_915e3 := ⟨(gm 351 (by decide +kernel) rfl), (gm 352 (by decide +kernel) rfl), (gm 353 (by decide +kernel) rfl)⟩
theorem yw_X8_settle : YW yX8_settle cX8_settle 4 none 3 := ⟨(gm 464 (by decide +kernel) rfl), (gm 80 (by decide +kernel) rfl), by decide +kernel, by decide +kernel, by decide +kernel⟩
theorem vw_RX6_74 : VW RX6 74 yX8_settle := ⟨(gm 1118 (by decide +kernel) rfl), (gm 462 (by decide +kernel) rfl), (gm 463 (by decide +kernel) rfl)⟩
theorem yw_Jx4a65c_size_8abf5 : YW yJx4a65c_size_8abf5 cJx4a65c_size_8abf5 1 (some (.int)) 0 := ⟨(gm 350 (by decide +kernel) rfl), (gm 69 (by decide +kernel) rfl), by decide +kernel, by decide +kernel, by decide +kernel⟩
theorem vw_RX6_39 : VW RX6 39 yJx4a65c_size_8abf5 := ⟨(gm 347 (by decide +kernel) rfl), (gm 348 (by decide +kernel) rfl), (gm 349 (by decide +kernel) rfl)⟩
theorem yw_X8_init : YW yX8_init cX8_init 6 none 5 := ⟨(gm 944 (by decide +kernel) rfl), (gm 80 (by decide +kernel) rfl), by decide +kernel, by decide +kernel, by decide +kernel⟩
theorem iw_RX6_58 : IW RX6 58 yX8_init := ⟨(gm 1117 (by decide +kernel) rfl), (gm 943 (by decide +kernel) rfl), rfl⟩
theorem yw_Jx4a65c_add_9ea2d : YW yJx4a65c_add_9ea2d cJx4a65c_add_9ea2d 2 (some (.boolean)) 1 := ⟨(gm 494 (by decide +kernel) rfl), (gm 69 (by decide +kernel) rfl), by decide +kernel, by decide +kernel, by decide +kernel⟩
theorem vw_RX6_61 : VW RX6 61 yJx4a65c_add_9ea2d := ⟨(gm 1013 (by decide +kernel) rfl), (gm 492 (by decide +kernel) rfl), (gm 493 (by decide +kernel) rfl)⟩
theorem ac_RJx4a65c_112 : ACw RJx4a65c 112 := ⟨(gm 484 (by decide +kernel) rfl), (gm 486 (by decide +kernel) rfl), (gm 485 (by decide +kernel) rfl), (gm 83 (by decide +kernel) rfl)⟩
theorem yw_Jx4a65c_fastRemove_b59b0 : YW yJx4a65c_fastRemove_b59b0 cJx4a65c_fastRemove_b59b0 4 none 2 := ⟨(gm 483 (by decide +kernel) rfl), (gm 69 (by decide +kernel) rfl), by decide +kernel, by decide +kernel, by decide +kernel⟩
theorem vw_RJx4a65c_144 : VW RJx4a65c 144 yJx4a65c_fastRemove_b59b0 := ⟨(gm 480 (by decide +kernel) rfl), (gm 482 (by decide +kernel) rfl), (gm 7 (by decide +kernel) rfl)⟩
theorem fw_RX4_16 : FW RX4 16 5 1 := FW.of "RegisterGateway$Line" rfl (by decide) in_c5 (gm 227 (by decide +kernel) rfl) (Or.inl rfl)
theorem vw_RX4_43 : VW RX4 43 yJx4a65c_add_9ea2d := ⟨(gm 491 (by decide +kernel) rfl), (gm 492 (by decide +kernel) rfl), (gm 493 (by decide +kernel) rfl)⟩
theorem oi_RX7_1 : Cond.methodLink RX7 1 objectInit ∈ gtbl := gm 559 (by decide +kernel) rfl
theorem cl_RX7_7 : Cond.classLink RX7 7 RX3 ∈ gtbl := gm 560 (by decide +kernel) rfl
theorem fp_RX7_10 : FP RX7 10 8 0 (.object "RegisterGateway$Frame") true := FP.of "RegisterGateway$Reply" rfl (by decide) (gm 562 (by decide +kernel) rfl) (Or.inl rfl) rfl (by decide +kernel) (fun _ => rfl)
theorem in_c8 : ∀ w ∈ u_ws RX7 TX7 3, w ∈ gtbl := by
  have e : u_ws RX7 TX7 3 = [.laysFinal RX7 "RegisterGateway$Reply" "frame" "LRegisterGateway$Frame;", .lays RX7 "RegisterGateway$Reply" "begin" "I", .lays RX7 "RegisterGateway$Reply" "cause" "I"] := rfl
  rw [e]
  exact fallc (gm 572 (by decide +kernel) rfl) (fallc (gm 574 (by decide +kernel) rfl) (fallc (gm 576 (by decide +kernel) rfl) (falln)))
theorem cw_8 : CW 8 := ⟨RX7, TX7, 3, tyX7, rfl, in_c8, tyX7_ok, nmX7, (gm 555 (by decide +kernel) rfl), (gm 87 (by decide +kernel) rfl), fun j hj => by
    rcases (show j = 0 ∨ j = 1 ∨ j = 2 by omega) with rfl | rfl | rfl <;> rfl⟩
theorem fp_RX7_16 : FP RX7 16 8 1 (.int) false := FP.of "RegisterGateway$Reply" rfl (by decide) (gm 566 (by decide +kernel) rfl) (Or.inl rfl) rfl (by decide +kernel) (fun h => by cases h)
theorem fp_RX7_20 : FP RX7 20 8 2 (.int) false := FP.of "RegisterGateway$Reply" rfl (by decide) (gm 570 (by decide +kernel) rfl) (Or.inl rfl) rfl (by decide +kernel) (fun h => by cases h)
theorem ni_RX7_9 : NI RX7 9 yX3_init := ⟨⟨"RegisterGateway", List.mem_of_getElem? (i := 561) (by decide +kernel)⟩, (gm 236 (by decide +kernel) rfl), rfl⟩
theorem cl_RX4_27 : Cond.classLink RX4 27 RX7 ∈ gtbl := gm 475 (by decide +kernel) rfl
theorem yw_Jx4a65c_isEmpty_aae02 : YW yJx4a65c_isEmpty_aae02 cJx4a65c_isEmpty_aae02 1 (some (.boolean)) 0 := ⟨(gm 554 (by decide +kernel) rfl), (gm 69 (by decide +kernel) rfl), by decide +kernel, by decide +kernel, by decide +kernel⟩
theorem vw_RX4_47 : VW RX4 47 yJx4a65c_isEmpty_aae02 := ⟨(gm 551 (by decide +kernel) rfl), (gm 552 (by decide +kernel) rfl), (gm 553 (by decide +kernel) rfl)⟩
theorem vw_RX4_19 : VW RX4 19 yJx4a65c_size_8abf5 := ⟨(gm 473 (by decide +kernel) rfl), (gm 348 (by decide +kernel) rfl), (gm 349 (by decide +kernel) rfl)⟩
theorem yw_Jx4a65c_remove_915e3 : YW yJx4a65c_remove_915e3 cJx4a65c_remove_915e3 4 (some (.object "java/lang/Object")) 1 := ⟨(gm 479 (by decide +kernel) rfl), (gm 69 (by decide +kernel) rfl), by decide +kernel, by decide +kernel, by decide +kernel⟩
theorem vw_RX4_23 : VW RX4 23 yJx4a65c_remove_915e3 := ⟨(gm 476 (by decide +kernel) rfl), (gm 477 (by decide +kernel) rfl), (gm 478 (by decide +kernel) rfl)⟩
theorem yw_X7_init : YW yX7_init cX7_init 1 none 0 := ⟨(gm 558 (by decide +kernel) rfl), (gm 87 (by decide +kernel) rfl), by decide +kernel, by decide +kernel, by decide +kernel⟩
theorem ni_RX4_51 : NI RX4 51 yX7_init := ⟨⟨"RegisterGateway", List.mem_of_getElem? (i := 556) (by decide +kernel)⟩, (gm 557 (by decide +kernel) rfl), rfl⟩
theorem fw_RX3_9 : FW RX3 9 4 0 := FW.of "RegisterGateway$Frame" rfl (by decide) in_c4 (gm 239 (by decide +kernel) rfl) (Or.inl rfl)
theorem fw_RX3_15 : FW RX3 15 4 1 := FW.of "RegisterGateway$Frame" rfl (by decide) in_c4 (gm 240 (by decide +kernel) rfl) (Or.inl rfl)
theorem ac_RX3_19 : ACw RX3 19 := ⟨(gm 1132 (by decide +kernel) rfl), (gm 486 (by decide +kernel) rfl), (gm 485 (by decide +kernel) rfl), (gm 83 (by decide +kernel) rfl)⟩
theorem fw_RX7_10 : FW RX7 10 8 0 := FW.of "RegisterGateway$Reply" rfl (by decide) in_c8 (gm 562 (by decide +kernel) rfl) (Or.inl rfl)
theorem fw_RX7_16 : FW RX7 16 8 1 := FW.of "RegisterGateway$Reply" rfl (by decide) in_c8 (gm 566 (by decide +kernel) rfl) (Or.inl rfl)
theorem fw_RX7_20 : FW RX7 20 8 2 := FW.of "RegisterGateway$Reply" rfl (by decide) in_c8 (gm 570 (by decide +kernel) rfl) (Or.inl rfl)
theorem yw_X3_copyFrom : YW yX3_copyFrom cX3_copyFrom 2 none 1 := ⟨(gm 1131 (by decide +kernel) rfl), (gm 71 (by decide +kernel) rfl), by decide +kernel, by decide +kernel, by decide +kernel⟩
theorem vw_RX7_23 : VW RX7 23 yX3_copyFrom := ⟨(gm 1128 (by decide +kernel) rfl), (gm 1129 (by decide +kernel) rfl), (gm 1130 (by decide +kernel) rfl)⟩
theorem fw_RX4_10 : FW RX4 10 5 0 := FW.of "RegisterGateway$Line" rfl (by decide) in_c5 (gm 225 (by decide +kernel) rfl) (Or.inl rfl)
theorem yw_X4_freeReply : YW yX4_freeReply cX4_freeReply 1 (some (.object "RegisterGateway$Reply")) 0 := ⟨(gm 550 (by decide +kernel) rfl), (gm 70 (by decide +kernel) rfl), by decide +kernel, by decide +kernel, by decide +kernel⟩
theorem vw_RX4_33 : VW RX4 33 yX4_freeReply := ⟨(gm 1123 (by decide +kernel) rfl), (gm 548 (by decide +kernel) rfl), (gm 549 (by decide +kernel) rfl)⟩
theorem vw_RX4_37 : VW RX4 37 yJx4a65c_get_915e3 := ⟨(gm 474 (by decide +kernel) rfl), (gm 352 (by decide +kernel) rfl), (gm 353 (by decide +kernel) rfl)⟩
theorem yw_X7_copyFrom : YW yX7_copyFrom cX7_copyFrom 2 none 1 := ⟨(gm 1127 (by decide +kernel) rfl), (gm 87 (by decide +kernel) rfl), by decide +kernel, by decide +kernel, by decide +kernel⟩
theorem vw_RX4_40 : VW RX4 40 yX7_copyFrom := ⟨(gm 1124 (by decide +kernel) rfl), (gm 1125 (by decide +kernel) rfl), (gm 1126 (by decide +kernel) rfl)⟩
theorem yw_X4_recycle : YW yX4_recycle cX4_recycle 2 none 1 := ⟨(gm 490 (by decide +kernel) rfl), (gm 70 (by decide +kernel) rfl), by decide +kernel, by decide +kernel, by decide +kernel⟩
theorem vw_RX4_29 : VW RX4 29 yX4_recycle := ⟨(gm 487 (by decide +kernel) rfl), (gm 488 (by decide +kernel) rfl), (gm 489 (by decide +kernel) rfl)⟩
theorem fw_RX1_9 : FW RX1 9 2 0 := FW.of "RegisterGateway$Core" rfl (by decide) in_c2 (gm 248 (by decide +kernel) rfl) (Or.inl rfl)
theorem fw_RX1_15 : FW RX1 15 2 1 := FW.of "RegisterGateway$Core" rfl (by decide) in_c2 (gm 250 (by decide +kernel) rfl) (Or.inl rfl)
theorem fw_RX1_21 : FW RX1 21 2 2 := FW.of "RegisterGateway$Core" rfl (by decide) in_c2 (gm 252 (by decide +kernel) rfl) (Or.inl rfl)
theorem fw_RX1_28 : FW RX1 28 2 3 := FW.of "RegisterGateway$Core" rfl (by decide) in_c2 (gm 254 (by decide +kernel) rfl) (Or.inl rfl)
theorem fw_RX1_35 : FW RX1 35 2 4 := FW.of "RegisterGateway$Core" rfl (by decide) in_c2 (gm 256 (by decide +kernel) rfl) (Or.inl rfl)
theorem fw_RX1_42 : FW RX1 42 2 5 := FW.of "RegisterGateway$Core" rfl (by decide) in_c2 (gm 258 (by decide +kernel) rfl) (Or.inl rfl)
theorem fw_RX1_53 : FW RX1 53 2 7 := FW.of "RegisterGateway$Core" rfl (by decide) in_c2 (gm 261 (by decide +kernel) rfl) (Or.inl rfl)
theorem fw_RX1_57 : FW RX1 57 2 8 := FW.of "RegisterGateway$Core" rfl (by decide) in_c2 (gm 263 (by decide +kernel) rfl) (Or.inl rfl)
theorem fw_RX1_60 : FW RX1 60 2 9 := FW.of "RegisterGateway$Core" rfl (by decide) in_c2 (gm 264 (by decide +kernel) rfl) (Or.inl rfl)
theorem yw_X0_copyFrom : YW yX0_copyFrom cX0_copyFrom 2 none 1 := ⟨(gm 1111 (by decide +kernel) rfl), (gm 64 (by decide +kernel) rfl), by decide +kernel, by decide +kernel, by decide +kernel⟩
theorem vw_RX1_77 : VW RX1 77 yX0_copyFrom := ⟨(gm 1108 (by decide +kernel) rfl), (gm 1109 (by decide +kernel) rfl), (gm 1110 (by decide +kernel) rfl)⟩
theorem yw_X6_copyFrom : YW yX6_copyFrom cX6_copyFrom 5 none 1 := ⟨(gm 1116 (by decide +kernel) rfl), (gm 66 (by decide +kernel) rfl), by decide +kernel, by decide +kernel, by decide +kernel⟩
theorem vw_RX1_80 : VW RX1 80 yX6_copyFrom := ⟨(gm 1113 (by decide +kernel) rfl), (gm 1114 (by decide +kernel) rfl), (gm 1115 (by decide +kernel) rfl)⟩
theorem yw_X4_copyFrom : YW yX4_copyFrom cX4_copyFrom 4 none 1 := ⟨(gm 1122 (by decide +kernel) rfl), (gm 70 (by decide +kernel) rfl), by decide +kernel, by decide +kernel, by decide +kernel⟩
theorem vw_RX1_83 : VW RX1 83 yX4_copyFrom := ⟨(gm 1119 (by decide +kernel) rfl), (gm 1120 (by decide +kernel) rfl), (gm 1121 (by decide +kernel) rfl)⟩
theorem yw_X2_copyFrom : YW yX2_copyFrom cX2_copyFrom 2 none 1 := ⟨(gm 1106 (by decide +kernel) rfl), (gm 63 (by decide +kernel) rfl), by decide +kernel, by decide +kernel, by decide +kernel⟩
theorem vw_RX1_73 : VW RX1 73 yX2_copyFrom := ⟨(gm 1103 (by decide +kernel) rfl), (gm 1104 (by decide +kernel) rfl), (gm 1105 (by decide +kernel) rfl)⟩
theorem ac_RX1_67 : ACw RX1 67 := ⟨(gm 1102 (by decide +kernel) rfl), (gm 486 (by decide +kernel) rfl), (gm 485 (by decide +kernel) rfl), (gm 83 (by decide +kernel) rfl)⟩
theorem fw_RX6_82 : FW RX6 82 9 4 := FW.of "RegisterGateway$Request" rfl (by decide) in_c9 (gm 965 (by decide +kernel) rfl) (Or.inl rfl)
theorem fw_RX1_127 : FW RX1 127 9 5 := FW.of "RegisterGateway$Request" rfl (by decide) in_c9 (gm 968 (by decide +kernel) rfl) (Or.inl rfl)
theorem fw_RX1_130 : FW RX1 130 9 2 := FW.of "RegisterGateway$Request" rfl (by decide) in_c9 (gm 957 (by decide +kernel) rfl) (Or.inl rfl)
theorem fw_RX1_131 : FW RX1 131 9 4 := FW.of "RegisterGateway$Request" rfl (by decide) in_c9 (gm 964 (by decide +kernel) rfl) (Or.inl rfl)
theorem fw_RX1_134 : FW RX1 134 9 1 := FW.of "RegisterGateway$Request" rfl (by decide) in_c9 (gm 953 (by decide +kernel) rfl) (Or.inl rfl)
theorem yw_X0_isFresh : YW yX0_isFresh cX0_isFresh 6 (some (.boolean)) 4 := ⟨(gm 373 (by decide +kernel) rfl), (gm 64 (by decide +kernel) rfl), by decide +kernel, by decide +kernel, by decide +kernel⟩
theorem vw_RX1_135 : VW RX1 135 yX0_isFresh := ⟨(gm 370 (by decide +kernel) rfl), (gm 371 (by decide +kernel) rfl), (gm 372 (by decide +kernel) rfl)⟩
theorem fw_RX6_26 : FW RX6 26 7 3 := FW.of "RegisterGateway$Queue" rfl (by decide) in_c7 (gm 194 (by decide +kernel) rfl) (Or.inl rfl)
theorem fw_RX6_29 : FW RX6 29 7 4 := FW.of "RegisterGateway$Queue" rfl (by decide) in_c7 (gm 196 (by decide +kernel) rfl) (Or.inl rfl)
theorem fw_RX6_36 : FW RX6 36 7 6 := FW.of "RegisterGateway$Queue" rfl (by decide) in_c7 (gm 200 (by decide +kernel) rfl) (Or.inl rfl)
theorem fw_RX6_33 : FW RX6 33 7 5 := FW.of "RegisterGateway$Queue" rfl (by decide) in_c7 (gm 198 (by decide +kernel) rfl) (Or.inl rfl)
theorem sw_RX6_97 : SW RX6 97 yJ9_max_7cf53 := ⟨(gm 389 (by decide +kernel) rfl), (gm 390 (by decide +kernel) rfl)⟩
theorem sw_RX6_91 : SW RX6 91 yJ9_min_7cf53 := ⟨(gm 392 (by decide +kernel) rfl), (gm 393 (by decide +kernel) rfl)⟩
theorem fw_RX6_18 : FW RX6 18 7 1 := FW.of "RegisterGateway$Queue" rfl (by decide) in_c7 (gm 189 (by decide +kernel) rfl) (Or.inl rfl)
theorem fw_RX8_31 : FW RX8 31 9 2 := FW.of "RegisterGateway$Request" rfl (by decide) in_c9 (gm 955 (by decide +kernel) rfl) (Or.inl rfl)
theorem fw_RX8_37 : FW RX8 37 9 4 := FW.of "RegisterGateway$Request" rfl (by decide) in_c9 (gm 963 (by decide +kernel) rfl) (Or.inl rfl)
theorem yw_X6_isMember : YW yX6_isMember cX6_isMember 2 (some (.boolean)) 1 := ⟨(gm 402 (by decide +kernel) rfl), (gm 66 (by decide +kernel) rfl), by decide +kernel, by decide +kernel, by decide +kernel⟩
theorem vw_RX6_100 : VW RX6 100 yX6_isMember := ⟨(gm 399 (by decide +kernel) rfl), (gm 400 (by decide +kernel) rfl), (gm 401 (by decide +kernel) rfl)⟩
theorem yw_X8_overlaps : YW yX8_overlaps cX8_overlaps 2 (some (.boolean)) 1 := ⟨(gm 406 (by decide +kernel) rfl), (gm 80 (by decide +kernel) rfl), by decide +kernel, by decide +kernel, by decide +kernel⟩
theorem vw_RX6_104 : VW RX6 104 yX8_overlaps := ⟨(gm 403 (by decide +kernel) rfl), (gm 404 (by decide +kernel) rfl), (gm 405 (by decide +kernel) rfl)⟩
theorem fw_RX6_22 : FW RX6 22 7 2 := FW.of "RegisterGateway$Queue" rfl (by decide) in_c7 (gm 192 (by decide +kernel) rfl) (Or.inl rfl)
theorem yw_X6_fitsBeside : YW yX6_fitsBeside cX6_fitsBeside 3 (some (.boolean)) 1 := ⟨(gm 388 (by decide +kernel) rfl), (gm 66 (by decide +kernel) rfl), by decide +kernel, by decide +kernel, by decide +kernel⟩
theorem vw_RX6_83 : VW RX6 83 yX6_fitsBeside := ⟨(gm 385 (by decide +kernel) rfl), (gm 387 (by decide +kernel) rfl), (gm 1 (by decide +kernel) rfl)⟩
theorem yw_X6_isBarred : YW yX6_isBarred cX6_isBarred 5 (some (.boolean)) 2 := ⟨(gm 398 (by decide +kernel) rfl), (gm 66 (by decide +kernel) rfl), by decide +kernel, by decide +kernel, by decide +kernel⟩
theorem vw_RX6_87 : VW RX6 87 yX6_isBarred := ⟨(gm 395 (by decide +kernel) rfl), (gm 397 (by decide +kernel) rfl), (gm 2 (by decide +kernel) rfl)⟩
theorem yw_X3_putByte : YW yX3_putByte cX3_putByte 2 none 1 := ⟨(gm 422 (by decide +kernel) rfl), (gm 71 (by decide +kernel) rfl), by decide +kernel, by decide +kernel, by decide +kernel⟩
theorem vw_RX3_25 : VW RX3 25 yX3_putByte := ⟨(gm 419 (by decide +kernel) rfl), (gm 420 (by decide +kernel) rfl), (gm 421 (by decide +kernel) rfl)⟩
theorem fw_RX1_49 : FW RX1 49 2 6 := FW.of "RegisterGateway$Core" rfl (by decide) in_c2 (gm 259 (by decide +kernel) rfl) (Or.inl rfl)
theorem fw_RX1_106 : FW RX1 106 7 3 := FW.of "RegisterGateway$Queue" rfl (by decide) in_c7 (gm 195 (by decide +kernel) rfl) (Or.inl rfl)
theorem fw_RX1_113 : FW RX1 113 7 5 := FW.of "RegisterGateway$Queue" rfl (by decide) in_c7 (gm 199 (by decide +kernel) rfl) (Or.inl rfl)
theorem fw_RX1_142 : FW RX1 142 7 6 := FW.of "RegisterGateway$Queue" rfl (by decide) in_c7 (gm 201 (by decide +kernel) rfl) (Or.inl rfl)
theorem yw_X6_valueToWrite : YW yX6_valueToWrite cX6_valueToWrite 4 (some (.int)) 1 := ⟨(gm 431 (by decide +kernel) rfl), (gm 66 (by decide +kernel) rfl), by decide +kernel, by decide +kernel, by decide +kernel⟩
theorem vw_RX1_143 : VW RX1 143 yX6_valueToWrite := ⟨(gm 428 (by decide +kernel) rfl), (gm 429 (by decide +kernel) rfl), (gm 430 (by decide +kernel) rfl)⟩
theorem yw_X3_putWord : YW yX3_putWord cX3_putWord 2 none 1 := ⟨(gm 426 (by decide +kernel) rfl), (gm 71 (by decide +kernel) rfl), by decide +kernel, by decide +kernel, by decide +kernel⟩
theorem vw_RX1_116 : VW RX1 116 yX3_putWord := ⟨(gm 423 (by decide +kernel) rfl), (gm 424 (by decide +kernel) rfl), (gm 425 (by decide +kernel) rfl)⟩
theorem yw_X3_open : YW yX3_open cX3_open 3 none 2 := ⟨(gm 418 (by decide +kernel) rfl), (gm 71 (by decide +kernel) rfl), by decide +kernel, by decide +kernel, by decide +kernel⟩
theorem vw_RX1_109 : VW RX1 109 yX3_open := ⟨(gm 415 (by decide +kernel) rfl), (gm 416 (by decide +kernel) rfl), (gm 417 (by decide +kernel) rfl)⟩
theorem vw_RX1_139 : VW RX1 139 yX3_putByte := ⟨(gm 427 (by decide +kernel) rfl), (gm 420 (by decide +kernel) rfl), (gm 421 (by decide +kernel) rfl)⟩
theorem yw_X6_width : YW yX6_width cX6_width 1 (some (.int)) 0 := ⟨(gm 414 (by decide +kernel) rfl), (gm 66 (by decide +kernel) rfl), by decide +kernel, by decide +kernel, by decide +kernel⟩
theorem vw_RX1_120 : VW RX1 120 yX6_width := ⟨(gm 411 (by decide +kernel) rfl), (gm 412 (by decide +kernel) rfl), (gm 413 (by decide +kernel) rfl)⟩
theorem kc_RX9_298 : Cond.constant RX9 298 (40961) ∈ gtbl := gm 444 (by decide +kernel) rfl
theorem kc_RX3_33 : Cond.constant RX3 33 (65535) ∈ gtbl := gm 440 (by decide +kernel) rfl
theorem yw_X9_nextSum : YW yX9_nextSum cX9_nextSum 4 (some (.int)) 2 := ⟨(gm 443 (by decide +kernel) rfl), (gm 61 (by decide +kernel) rfl), by decide +kernel, by decide +kernel, by decide +kernel⟩
theorem ns_RX3_34 : NS RX3 34 yX9_nextSum := ⟨⟨"RegisterGateway", List.mem_of_getElem? (i := 441) (by decide +kernel)⟩, (gm 442 (by decide +kernel) rfl)⟩
theorem yw_X3_sumOf : YW yX3_sumOf cX3_sumOf 4 (some (.int)) 1 := ⟨(gm 439 (by decide +kernel) rfl), (gm 71 (by decide +kernel) rfl), by decide +kernel, by decide +kernel, by decide +kernel⟩
theorem vw_RX3_29 : VW RX3 29 yX3_sumOf := ⟨(gm 436 (by decide +kernel) rfl), (gm 438 (by decide +kernel) rfl), (gm 4 (by decide +kernel) rfl)⟩
theorem fp_RX1_86 : FP RX1 86 4 1 (.int) false := FP.of "RegisterGateway$Frame" rfl (by decide) (gm 241 (by decide +kernel) rfl) (Or.inl rfl) rfl (by decide +kernel) (fun h => by cases h)
theorem fw_RX1_100 : FW RX1 100 7 4 := FW.of "RegisterGateway$Queue" rfl (by decide) in_c7 (gm 197 (by decide +kernel) rfl) (Or.inl rfl)
theorem yw_X3_seal : YW yX3_seal cX3_seal 2 none 0 := ⟨(gm 435 (by decide +kernel) rfl), (gm 71 (by decide +kernel) rfl), by decide +kernel, by decide +kernel, by decide +kernel⟩
theorem vw_RX1_124 : VW RX1 124 yX3_seal := ⟨(gm 432 (by decide +kernel) rfl), (gm 433 (by decide +kernel) rfl), (gm 434 (by decide +kernel) rfl)⟩
theorem yw_X1_buildWriteFrame : YW yX1_buildWriteFrame cX1_buildWriteFrame 3 none 0 := ⟨(gm 410 (by decide +kernel) rfl), (gm 62 (by decide +kernel) rfl), by decide +kernel, by decide +kernel, by decide +kernel⟩
theorem vw_RX1_103 : VW RX1 103 yX1_buildWriteFrame := ⟨(gm 407 (by decide +kernel) rfl), (gm 409 (by decide +kernel) rfl), (gm 3 (by decide +kernel) rfl)⟩
theorem yw_X6_openGroup : YW yX6_openGroup cX6_openGroup 3 (some (.object "RegisterGateway$Request")) 0 := ⟨(gm 346 (by decide +kernel) rfl), (gm 66 (by decide +kernel) rfl), by decide +kernel, by decide +kernel, by decide +kernel⟩
theorem vw_RX1_89 : VW RX1 89 yX6_openGroup := ⟨(gm 343 (by decide +kernel) rfl), (gm 344 (by decide +kernel) rfl), (gm 345 (by decide +kernel) rfl)⟩
theorem yw_X1_cacheAnswers : YW yX1_cacheAnswers cX1_cacheAnswers 3 (some (.boolean)) 1 := ⟨(gm 369 (by decide +kernel) rfl), (gm 62 (by decide +kernel) rfl), by decide +kernel, by decide +kernel, by decide +kernel⟩
theorem vw_RX1_93 : VW RX1 93 yX1_cacheAnswers := ⟨(gm 366 (by decide +kernel) rfl), (gm 368 (by decide +kernel) rfl), (gm 0 (by decide +kernel) rfl)⟩
theorem yw_X6_gather : YW yX6_gather cX6_gather 3 none 0 := ⟨(gm 384 (by decide +kernel) rfl), (gm 66 (by decide +kernel) rfl), by decide +kernel, by decide +kernel, by decide +kernel⟩
theorem vw_RX1_97 : VW RX1 97 yX6_gather := ⟨(gm 381 (by decide +kernel) rfl), (gm 382 (by decide +kernel) rfl), (gm 383 (by decide +kernel) rfl)⟩
theorem kl_RJ13_314 : Cond.constantLong RJ13 314 (6148914691236517205) ∈ gtbl := gm 448 (by decide +kernel) rfl
theorem kl_RJ13_316 : Cond.constantLong RJ13 316 (3689348814741910323) ∈ gtbl := gm 449 (by decide +kernel) rfl
theorem kl_RJ13_318 : Cond.constantLong RJ13 318 (1085102592571150095) ∈ gtbl := gm 450 (by decide +kernel) rfl
theorem fw_RX1_202 : FW RX1 202 9 3 := FW.of "RegisterGateway$Request" rfl (by decide) in_c9 (gm 961 (by decide +kernel) rfl) (Or.inl rfl)
theorem fw_RX1_205 : FW RX1 205 9 6 := FW.of "RegisterGateway$Request" rfl (by decide) in_c9 (gm 972 (by decide +kernel) rfl) (Or.inl rfl)
theorem fp_RX1_212 : FP RX1 212 9 10 (.boolean) false := FP.of "RegisterGateway$Request" rfl (by decide) (gm 984 (by decide +kernel) rfl) (Or.inl rfl) rfl (by decide +kernel) (fun h => by cases h)
theorem vw_RX1_215 : VW RX1 215 yX8_settle := ⟨(gm 461 (by decide +kernel) rfl), (gm 462 (by decide +kernel) rfl), (gm 463 (by decide +kernel) rfl)⟩
theorem yw_X0_valueOf : YW yX0_valueOf cX0_valueOf 4 (some (.int)) 2 := ⟨(gm 460 (by decide +kernel) rfl), (gm 64 (by decide +kernel) rfl), by decide +kernel, by decide +kernel, by decide +kernel⟩
theorem vw_RX1_208 : VW RX1 208 yX0_valueOf := ⟨(gm 457 (by decide +kernel) rfl), (gm 458 (by decide +kernel) rfl), (gm 459 (by decide +kernel) rfl)⟩
theorem fw_RX4_52 : FW RX4 52 8 1 := FW.of "RegisterGateway$Reply" rfl (by decide) in_c8 (gm 567 (by decide +kernel) rfl) (Or.inl rfl)
theorem yw_X3_wordAt : YW yX3_wordAt cX3_wordAt 2 (some (.int)) 1 := ⟨(gm 598 (by decide +kernel) rfl), (gm 71 (by decide +kernel) rfl), by decide +kernel, by decide +kernel, by decide +kernel⟩
theorem vw_RX3_43 : VW RX3 43 yX3_wordAt := ⟨(gm 595 (by decide +kernel) rfl), (gm 596 (by decide +kernel) rfl), (gm 597 (by decide +kernel) rfl)⟩
theorem yw_X3_byteAt : YW yX3_byteAt cX3_byteAt 2 (some (.int)) 1 := ⟨(gm 606 (by decide +kernel) rfl), (gm 71 (by decide +kernel) rfl), by decide +kernel, by decide +kernel, by decide +kernel⟩
theorem vw_RX3_46 : VW RX3 46 yX3_byteAt := ⟨(gm 603 (by decide +kernel) rfl), (gm 604 (by decide +kernel) rfl), (gm 605 (by decide +kernel) rfl)⟩
theorem yw_X2_isReadOnly : YW yX2_isReadOnly cX2_isReadOnly 2 (some (.boolean)) 1 := ⟨(gm 611 (by decide +kernel) rfl), (gm 63 (by decide +kernel) rfl), by decide +kernel, by decide +kernel, by decide +kernel⟩
theorem vw_RX2_88 : VW RX2 88 yX2_isReadOnly := ⟨(gm 608 (by decide +kernel) rfl), (gm 609 (by decide +kernel) rfl), (gm 610 (by decide +kernel) rfl)⟩
theorem yw_X3_writtenValue : YW yX3_writtenValue cX3_writtenValue 2 (some (.int)) 1 := ⟨(gm 615 (by decide +kernel) rfl), (gm 71 (by decide +kernel) rfl), by decide +kernel, by decide +kernel, by decide +kernel⟩
theorem vw_RX2_92 : VW RX2 92 yX3_writtenValue := ⟨(gm 612 (by decide +kernel) rfl), (gm 613 (by decide +kernel) rfl), (gm 614 (by decide +kernel) rfl)⟩
theorem yw_X3_startRegister : YW yX3_startRegister cX3_startRegister 1 (some (.int)) 0 := ⟨(gm 594 (by decide +kernel) rfl), (gm 71 (by decide +kernel) rfl), by decide +kernel, by decide +kernel, by decide +kernel⟩
theorem vw_RX2_81 : VW RX2 81 yX3_startRegister := ⟨(gm 591 (by decide +kernel) rfl), (gm 592 (by decide +kernel) rfl), (gm 593 (by decide +kernel) rfl)⟩
theorem yw_X3_registerCount : YW yX3_registerCount cX3_registerCount 1 (some (.int)) 0 := ⟨(gm 602 (by decide +kernel) rfl), (gm 71 (by decide +kernel) rfl), by decide +kernel, by decide +kernel, by decide +kernel⟩
theorem vw_RX2_85 : VW RX2 85 yX3_registerCount := ⟨(gm 599 (by decide +kernel) rfl), (gm 600 (by decide +kernel) rfl), (gm 601 (by decide +kernel) rfl)⟩
theorem vw_RX2_58 : VW RX2 58 yX3_byteAt := ⟨(gm 607 (by decide +kernel) rfl), (gm 604 (by decide +kernel) rfl), (gm 605 (by decide +kernel) rfl)⟩
theorem vw_RX2_95 : VW RX2 95 yX3_putWord := ⟨(gm 622 (by decide +kernel) rfl), (gm 424 (by decide +kernel) rfl), (gm 425 (by decide +kernel) rfl)⟩
theorem vw_RX2_64 : VW RX2 64 yX3_open := ⟨(gm 620 (by decide +kernel) rfl), (gm 416 (by decide +kernel) rfl), (gm 417 (by decide +kernel) rfl)⟩
theorem vw_RX2_98 : VW RX2 98 yX3_wordAt := ⟨(gm 623 (by decide +kernel) rfl), (gm 596 (by decide +kernel) rfl), (gm 597 (by decide +kernel) rfl)⟩
theorem vw_RX2_68 : VW RX2 68 yX3_putByte := ⟨(gm 621 (by decide +kernel) rfl), (gm 420 (by decide +kernel) rfl), (gm 421 (by decide +kernel) rfl)⟩
theorem yw_J9_floorMod_7cf53 : YW yJ9_floorMod_7cf53 cJ9_floorMod_7cf53 3 (some (.int)) 2 := ⟨(gm 631 (by decide +kernel) rfl), (gm 81 (by decide +kernel) rfl), by decide +kernel, by decide +kernel, by decide +kernel⟩
theorem sw_RX3_38 : SW RX3 38 yJ9_floorMod_7cf53 := ⟨(gm 629 (by decide +kernel) rfl), (gm 630 (by decide +kernel) rfl)⟩
theorem fw_RX2_48 : FW RX2 48 8 0 := FW.of "RegisterGateway$Reply" rfl (by decide) in_c8 (gm 564 (by decide +kernel) rfl) (Or.inl rfl)
theorem fp_RX2_78 : FP RX2 78 8 1 (.int) false := FP.of "RegisterGateway$Reply" rfl (by decide) (gm 568 (by decide +kernel) rfl) (Or.inl rfl) rfl (by decide +kernel) (fun h => by cases h)
theorem vw_RX2_72 : VW RX2 72 yX3_seal := ⟨(gm 624 (by decide +kernel) rfl), (gm 433 (by decide +kernel) rfl), (gm 434 (by decide +kernel) rfl)⟩
theorem yw_X3_invertLowestBit : YW yX3_invertLowestBit cX3_invertLowestBit 2 none 1 := ⟨(gm 628 (by decide +kernel) rfl), (gm 71 (by decide +kernel) rfl), by decide +kernel, by decide +kernel, by decide +kernel⟩
theorem vw_RX2_75 : VW RX2 75 yX3_invertLowestBit := ⟨(gm 625 (by decide +kernel) rfl), (gm 626 (by decide +kernel) rfl), (gm 627 (by decide +kernel) rfl)⟩
theorem yw_X2_obey : YW yX2_obey cX2_obey 7 none 2 := ⟨(gm 619 (by decide +kernel) rfl), (gm 63 (by decide +kernel) rfl), by decide +kernel, by decide +kernel, by decide +kernel⟩
theorem vw_RX2_54 : VW RX2 54 yX2_obey := ⟨(gm 616 (by decide +kernel) rfl), (gm 618 (by decide +kernel) rfl), (gm 13 (by decide +kernel) rfl)⟩
theorem yw_X2_refusalOf : YW yX2_refusalOf cX2_refusalOf 6 (some (.int)) 1 := ⟨(gm 590 (by decide +kernel) rfl), (gm 63 (by decide +kernel) rfl), by decide +kernel, by decide +kernel, by decide +kernel⟩
theorem vw_RX2_44 : VW RX2 44 yX2_refusalOf := ⟨(gm 587 (by decide +kernel) rfl), (gm 589 (by decide +kernel) rfl), (gm 12 (by decide +kernel) rfl)⟩
theorem yw_X2_dropFirstFault : YW yX2_dropFirstFault cX2_dropFirstFault 2 none 0 := ⟨(gm 586 (by decide +kernel) rfl), (gm 63 (by decide +kernel) rfl), by decide +kernel, by decide +kernel, by decide +kernel⟩
theorem vw_RX2_41 : VW RX2 41 yX2_dropFirstFault := ⟨(gm 583 (by decide +kernel) rfl), (gm 585 (by decide +kernel) rfl), (gm 11 (by decide +kernel) rfl)⟩
theorem fw_RX4_60 : FW RX4 60 8 0 := FW.of "RegisterGateway$Reply" rfl (by decide) in_c8 (gm 563 (by decide +kernel) rfl) (Or.inl rfl)
theorem yw_X4_earliest : YW yX4_earliest cX4_earliest 5 (some (.int)) 1 := ⟨(gm 641 (by decide +kernel) rfl), (gm 70 (by decide +kernel) rfl), by decide +kernel, by decide +kernel, by decide +kernel⟩
theorem vw_RX4_56 : VW RX4 56 yX4_earliest := ⟨(gm 638 (by decide +kernel) rfl), (gm 640 (by decide +kernel) rfl), (gm 14 (by decide +kernel) rfl)⟩
theorem yw_X3_isReplyTo : YW yX3_isReplyTo cX3_isReplyTo 4 (some (.boolean)) 1 := ⟨(gm 645 (by decide +kernel) rfl), (gm 71 (by decide +kernel) rfl), by decide +kernel, by decide +kernel, by decide +kernel⟩
theorem vw_RX4_64 : VW RX4 64 yX3_isReplyTo := ⟨(gm 642 (by decide +kernel) rfl), (gm 643 (by decide +kernel) rfl), (gm 644 (by decide +kernel) rfl)⟩
theorem fw_RX1_247 : FW RX1 247 8 1 := FW.of "RegisterGateway$Reply" rfl (by decide) in_c8 (gm 569 (by decide +kernel) rfl) (Or.inl rfl)
theorem fw_RX1_184 : FW RX1 184 8 0 := FW.of "RegisterGateway$Reply" rfl (by decide) in_c8 (gm 565 (by decide +kernel) rfl) (Or.inl rfl)
theorem fw_RX1_86 : FW RX1 86 4 1 := FW.of "RegisterGateway$Frame" rfl (by decide) in_c4 (gm 241 (by decide +kernel) rfl) (Or.inl rfl)
theorem fw_RX1_226 : FW RX1 226 8 2 := FW.of "RegisterGateway$Reply" rfl (by decide) in_c8 (gm 571 (by decide +kernel) rfl) (Or.inl rfl)
theorem fp_RX1_226 : FP RX1 226 8 2 (.int) false := FP.of "RegisterGateway$Reply" rfl (by decide) (gm 571 (by decide +kernel) rfl) (Or.inl rfl) rfl (by decide +kernel) (fun h => by cases h)
theorem fw_RX1_233 : FW RX1 233 5 0 := FW.of "RegisterGateway$Line" rfl (by decide) in_c5 (gm 226 (by decide +kernel) rfl) (Or.inl rfl)
theorem yw_X1_noteTaken : YW yX1_noteTaken cX1_noteTaken 2 none 1 := ⟨(gm 649 (by decide +kernel) rfl), (gm 62 (by decide +kernel) rfl), by decide +kernel, by decide +kernel, by decide +kernel⟩
theorem vw_RX1_244 : VW RX1 244 yX1_noteTaken := ⟨(gm 646 (by decide +kernel) rfl), (gm 648 (by decide +kernel) rfl), (gm 15 (by decide +kernel) rfl)⟩
theorem yw_X4_take : YW yX4_take cX4_take 7 (some (.object "RegisterGateway$Reply")) 2 := ⟨(gm 637 (by decide +kernel) rfl), (gm 70 (by decide +kernel) rfl), by decide +kernel, by decide +kernel, by decide +kernel⟩
theorem vw_RX1_240 : VW RX1 240 yX4_take := ⟨(gm 634 (by decide +kernel) rfl), (gm 635 (by decide +kernel) rfl), (gm 636 (by decide +kernel) rfl)⟩
theorem yw_X4_dropBefore : YW yX4_dropBefore cX4_dropBefore 3 none 1 := ⟨(gm 472 (by decide +kernel) rfl), (gm 70 (by decide +kernel) rfl), by decide +kernel, by decide +kernel, by decide +kernel⟩
theorem vw_RX1_219 : VW RX1 219 yX4_dropBefore := ⟨(gm 469 (by decide +kernel) rfl), (gm 470 (by decide +kernel) rfl), (gm 471 (by decide +kernel) rfl)⟩
theorem vw_RX1_222 : VW RX1 222 yX4_freeReply := ⟨(gm 547 (by decide +kernel) rfl), (gm 548 (by decide +kernel) rfl), (gm 549 (by decide +kernel) rfl)⟩
theorem yw_X2_answer : YW yX2_answer cX2_answer 7 (some (.boolean)) 3 := ⟨(gm 582 (by decide +kernel) rfl), (gm 63 (by decide +kernel) rfl), by decide +kernel, by decide +kernel, by decide +kernel⟩
theorem vw_RX1_229 : VW RX1 229 yX2_answer := ⟨(gm 579 (by decide +kernel) rfl), (gm 580 (by decide +kernel) rfl), (gm 581 (by decide +kernel) rfl)⟩
theorem vw_RX1_198 : VW RX1 198 yX4_recycle := ⟨(gm 633 (by decide +kernel) rfl), (gm 488 (by decide +kernel) rfl), (gm 489 (by decide +kernel) rfl)⟩
theorem vw_RX1_236 : VW RX1 236 yJx4a65c_add_9ea2d := ⟨(gm 632 (by decide +kernel) rfl), (gm 492 (by decide +kernel) rfl), (gm 493 (by decide +kernel) rfl)⟩
theorem fw_RX1_164 : FW RX1 164 7 2 := FW.of "RegisterGateway$Queue" rfl (by decide) in_c7 (gm 193 (by decide +kernel) rfl) (Or.inl rfl)
theorem fw_RX1_160 : FW RX1 160 7 0 := FW.of "RegisterGateway$Queue" rfl (by decide) in_c7 (gm 187 (by decide +kernel) rfl) (Or.inl rfl)
theorem cl_RX1_128 : Cond.classLink RX1 128 RX8 ∈ gtbl := gm 452 (by decide +kernel) rfl
theorem yw_X0_forget : YW yX0_forget cX0_forget 3 none 2 := ⟨(gm 659 (by decide +kernel) rfl), (gm 64 (by decide +kernel) rfl), by decide +kernel, by decide +kernel, by decide +kernel⟩
theorem vw_RX1_256 : VW RX1 256 yX0_forget := ⟨(gm 656 (by decide +kernel) rfl), (gm 657 (by decide +kernel) rfl), (gm 658 (by decide +kernel) rfl)⟩
theorem vw_RX1_250 : VW RX1 250 yJx4a65c_size_8abf5 := ⟨(gm 654 (by decide +kernel) rfl), (gm 348 (by decide +kernel) rfl), (gm 349 (by decide +kernel) rfl)⟩
theorem vw_RX1_252 : VW RX1 252 yX6_isMember := ⟨(gm 655 (by decide +kernel) rfl), (gm 400 (by decide +kernel) rfl), (gm 401 (by decide +kernel) rfl)⟩
theorem vw_RX1_167 : VW RX1 167 yJx4a65c_get_915e3 := ⟨(gm 451 (by decide +kernel) rfl), (gm 352 (by decide +kernel) rfl), (gm 353 (by decide +kernel) rfl)⟩
theorem fw_RX8_34 : FW RX8 34 9 3 := FW.of "RegisterGateway$Request" rfl (by decide) in_c9 (gm 959 (by decide +kernel) rfl) (Or.inl rfl)
theorem fw_RX8_52 : FW RX8 52 9 6 := FW.of "RegisterGateway$Request" rfl (by decide) in_c9 (gm 970 (by decide +kernel) rfl) (Or.inl rfl)
theorem yw_X3_readValue : YW yX3_readValue cX3_readValue 2 (some (.int)) 1 := ⟨(gm 676 (by decide +kernel) rfl), (gm 71 (by decide +kernel) rfl), by decide +kernel, by decide +kernel, by decide +kernel⟩
theorem vw_RX8_56 : VW RX8 56 yX3_readValue := ⟨(gm 682 (by decide +kernel) rfl), (gm 674 (by decide +kernel) rfl), (gm 675 (by decide +kernel) rfl)⟩
theorem yw_X8_takeValues : YW yX8_takeValues cX8_takeValues 4 none 2 := ⟨(gm 681 (by decide +kernel) rfl), (gm 80 (by decide +kernel) rfl), by decide +kernel, by decide +kernel, by decide +kernel⟩
theorem vw_RX1_266 : VW RX1 266 yX8_takeValues := ⟨(gm 678 (by decide +kernel) rfl), (gm 679 (by decide +kernel) rfl), (gm 680 (by decide +kernel) rfl)⟩
theorem vw_RX1_262 : VW RX1 262 yX0_put := ⟨(gm 677 (by decide +kernel) rfl), (gm 661 (by decide +kernel) rfl), (gm 662 (by decide +kernel) rfl)⟩
theorem vw_RX1_259 : VW RX1 259 yX3_readValue := ⟨(gm 673 (by decide +kernel) rfl), (gm 674 (by decide +kernel) rfl), (gm 675 (by decide +kernel) rfl)⟩
theorem fw_RX1_150 : FW RX1 150 7 1 := FW.of "RegisterGateway$Queue" rfl (by decide) in_c7 (gm 190 (by decide +kernel) rfl) (Or.inl rfl)
theorem yw_X1_plan : YW yX1_plan cX1_plan 2 none 0 := ⟨(gm 342 (by decide +kernel) rfl), (gm 62 (by decide +kernel) rfl), by decide +kernel, by decide +kernel, by decide +kernel⟩
theorem vw_RX1_147 : VW RX1 147 yX1_plan := ⟨(gm 339 (by decide +kernel) rfl), (gm 340 (by decide +kernel) rfl), (gm 341 (by decide +kernel) rfl)⟩
theorem yw_J13_bitCount_95d88 : YW yJ13_bitCount_95d88 cJ13_bitCount_95d88 2 (some (.int)) 1 := ⟨(gm 447 (by decide +kernel) rfl), (gm 86 (by decide +kernel) rfl), by decide +kernel, by decide +kernel, by decide +kernel⟩
theorem sw_RX1_154 : SW RX1 154 yJ13_bitCount_95d88 := ⟨(gm 445 (by decide +kernel) rfl), (gm 446 (by decide +kernel) rfl)⟩
theorem yw_X1_tryFrame : YW yX1_tryFrame cX1_tryFrame 5 (some (.object "RegisterGateway$Reply")) 1 := ⟨(gm 468 (by decide +kernel) rfl), (gm 62 (by decide +kernel) rfl), by decide +kernel, by decide +kernel, by decide +kernel⟩
theorem vw_RX1_177 : VW RX1 177 yX1_tryFrame := ⟨(gm 465 (by decide +kernel) rfl), (gm 467 (by decide +kernel) rfl), (gm 6 (by decide +kernel) rfl)⟩
theorem yw_X3_isException : YW yX3_isException cX3_isException 1 (some (.boolean)) 0 := ⟨(gm 667 (by decide +kernel) rfl), (gm 71 (by decide +kernel) rfl), by decide +kernel, by decide +kernel, by decide +kernel⟩
theorem vw_RX1_187 : VW RX1 187 yX3_isException := ⟨(gm 664 (by decide +kernel) rfl), (gm 665 (by decide +kernel) rfl), (gm 666 (by decide +kernel) rfl)⟩
theorem yw_X1_finishGroup : YW yX1_finishGroup cX1_finishGroup 4 none 1 := ⟨(gm 672 (by decide +kernel) rfl), (gm 62 (by decide +kernel) rfl), by decide +kernel, by decide +kernel, by decide +kernel⟩
theorem vw_RX1_194 : VW RX1 194 yX1_finishGroup := ⟨(gm 669 (by decide +kernel) rfl), (gm 671 (by decide +kernel) rfl), (gm 17 (by decide +kernel) rfl)⟩
theorem vw_RX1_191 : VW RX1 191 yX3_byteAt := ⟨(gm 668 (by decide +kernel) rfl), (gm 604 (by decide +kernel) rfl), (gm 605 (by decide +kernel) rfl)⟩
theorem yw_X1_failGroup : YW yX1_failGroup cX1_failGroup 3 none 1 := ⟨(gm 653 (by decide +kernel) rfl), (gm 62 (by decide +kernel) rfl), by decide +kernel, by decide +kernel, by decide +kernel⟩
theorem vw_RX1_181 : VW RX1 181 yX1_failGroup := ⟨(gm 650 (by decide +kernel) rfl), (gm 652 (by decide +kernel) rfl), (gm 16 (by decide +kernel) rfl)⟩
theorem yw_X1_endFromCache : YW yX1_endFromCache cX1_endFromCache 3 none 1 := ⟨(gm 456 (by decide +kernel) rfl), (gm 62 (by decide +kernel) rfl), by decide +kernel, by decide +kernel, by decide +kernel⟩
theorem vw_RX1_173 : VW RX1 173 yX1_endFromCache := ⟨(gm 453 (by decide +kernel) rfl), (gm 455 (by decide +kernel) rfl), (gm 5 (by decide +kernel) rfl)⟩
theorem oi_RX5_3 : Cond.methodLink RX5 3 objectInit ∈ gtbl := gm 295 (by decide +kernel) rfl
theorem fp_RX5_9 : FP RX5 9 6 0 (.array .int) true := FP.of "RegisterGateway$Listener" rfl (by decide) (gm 297 (by decide +kernel) rfl) (Or.inl rfl) rfl (by decide +kernel) (fun _ => rfl)
theorem in_c6 : ∀ w ∈ u_ws RX5 TX5 6, w ∈ gtbl := by
  have e : u_ws RX5 TX5 6 = [.laysFinal RX5 "RegisterGateway$Listener" "verdicts" "[I", .laysFinal RX5 "RegisterGateway$Listener" "sizes" "[I", .lays RX5 "RegisterGateway$Listener" "ended" "I", .lays RX5 "RegisterGateway$Listener" "size" "I", .lays RX5 "RegisterGateway$Listener" "sum" "I", .lays RX5 "RegisterGateway$Listener" "broken" "Z"] := rfl
  rw [e]
  exact fallc (gm 308 (by decide +kernel) rfl) (fallc (gm 310 (by decide +kernel) rfl) (fallc (gm 312 (by decide +kernel) rfl) (fallc (gm 314 (by decide +kernel) rfl) (fallc (gm 316 (by decide +kernel) rfl) (fallc (gm 318 (by decide +kernel) rfl) (falln))))))
theorem cw_6 : CW 6 := ⟨RX5, TX5, 6, tyX5, rfl, in_c6, tyX5_ok, nmX5, (gm 291 (by decide +kernel) rfl), (gm 72 (by decide +kernel) rfl), fun j hj => by
    rcases (show j = 0 ∨ j = 1 ∨ j = 2 ∨ j = 3 ∨ j = 4 ∨ j = 5 by omega) with rfl | rfl | rfl | rfl | rfl | rfl <;> rfl⟩
theorem fp_RX5_15 : FP RX5 15 6 1 (.array .int) true := FP.of "RegisterGateway$Listener" rfl (by decide) (gm 299 (by decide +kernel) rfl) (Or.inl rfl) rfl (by decide +kernel) (fun _ => rfl)
theorem fp_RX5_18 : FP RX5 18 6 2 (.int) false := FP.of "RegisterGateway$Listener" rfl (by decide) (gm 301 (by decide +kernel) rfl) (Or.inl rfl) rfl (by decide +kernel) (fun h => by cases h)
theorem fp_RX5_22 : FP RX5 22 6 3 (.int) false := FP.of "RegisterGateway$Listener" rfl (by decide) (gm 303 (by decide +kernel) rfl) (Or.inl rfl) rfl (by decide +kernel) (fun h => by cases h)
theorem kc_RX5_25 : Cond.constant RX5 25 (65535) ∈ gtbl := gm 296 (by decide +kernel) rfl
theorem fp_RX5_26 : FP RX5 26 6 4 (.int) false := FP.of "RegisterGateway$Listener" rfl (by decide) (gm 305 (by decide +kernel) rfl) (Or.inl rfl) rfl (by decide +kernel) (fun h => by cases h)
theorem fp_RX5_29 : FP RX5 29 6 5 (.boolean) false := FP.of "RegisterGateway$Listener" rfl (by decide) (gm 307 (by decide +kernel) rfl) (Or.inl rfl) rfl (by decide +kernel) (fun h => by cases h)
theorem fw_RX5_22 : FW RX5 22 6 3 := FW.of "RegisterGateway$Listener" rfl (by decide) in_c6 (gm 303 (by decide +kernel) rfl) (Or.inl rfl)
theorem fw_RX5_29 : FW RX5 29 6 5 := FW.of "RegisterGateway$Listener" rfl (by decide) in_c6 (gm 307 (by decide +kernel) rfl) (Or.inl rfl)
theorem fw_RX5_26 : FW RX5 26 6 4 := FW.of "RegisterGateway$Listener" rfl (by decide) in_c6 (gm 305 (by decide +kernel) rfl) (Or.inl rfl)
theorem fw_RX5_18 : FW RX5 18 6 2 := FW.of "RegisterGateway$Listener" rfl (by decide) in_c6 (gm 301 (by decide +kernel) rfl) (Or.inl rfl)
theorem fw_RX5_9 : FW RX5 9 6 0 := FW.of "RegisterGateway$Listener" rfl (by decide) in_c6 (gm 297 (by decide +kernel) rfl) (Or.inl rfl)
theorem fw_RX5_15 : FW RX5 15 6 1 := FW.of "RegisterGateway$Listener" rfl (by decide) in_c6 (gm 299 (by decide +kernel) rfl) (Or.inl rfl)
theorem sw_RX5_40 : SW RX5 40 yJ9_floorMod_7cf53 := ⟨(gm 712 (by decide +kernel) rfl), (gm 630 (by decide +kernel) rfl)⟩
theorem yw_X5_judge : YW yX5_judge cX5_judge 1 (some (.int)) 0 := ⟨(gm 716 (by decide +kernel) rfl), (gm 72 (by decide +kernel) rfl), by decide +kernel, by decide +kernel, by decide +kernel⟩
theorem vw_RX5_45 : VW RX5 45 yX5_judge := ⟨(gm 713 (by decide +kernel) rfl), (gm 715 (by decide +kernel) rfl), (gm 18 (by decide +kernel) rfl)⟩
theorem ns_RX5_36 : NS RX5 36 yX9_nextSum := ⟨⟨"RegisterGateway", List.mem_of_getElem? (i := 1145) (by decide +kernel)⟩, (gm 442 (by decide +kernel) rfl)⟩
theorem yw_X5_close : YW yX5_close cX5_close 2 none 0 := ⟨(gm 711 (by decide +kernel) rfl), (gm 72 (by decide +kernel) rfl), by decide +kernel, by decide +kernel, by decide +kernel⟩
theorem vw_RX5_33 : VW RX5 33 yX5_close := ⟨(gm 1144 (by decide +kernel) rfl), (gm 709 (by decide +kernel) rfl), (gm 710 (by decide +kernel) rfl)⟩
theorem fw_RX8_40 : FW RX8 40 9 5 := FW.of "RegisterGateway$Request" rfl (by decide) in_c9 (gm 966 (by decide +kernel) rfl) (Or.inl rfl)
theorem fw_RX8_9 : FW RX8 9 9 7 := FW.of "RegisterGateway$Request" rfl (by decide) in_c9 (gm 974 (by decide +kernel) rfl) (Or.inl rfl)
theorem oi_RX9_1 : Cond.methodLink RX9 1 objectInit ∈ gtbl := gm 93 (by decide +kernel) rfl
theorem cl_RX9_7 : Cond.classLink RX9 7 RX1 ∈ gtbl := gm 96 (by decide +kernel) rfl
theorem fp_RX9_10 : FP RX9 10 10 0 (.object "RegisterGateway$Core") true := FP.of "RegisterGateway" rfl (by decide) (gm 321 (by decide +kernel) rfl) (Or.inl rfl) rfl (by decide +kernel) (fun _ => rfl)
theorem in_c10 : ∀ w ∈ u_ws RX9 TX9 3, w ∈ gtbl := by
  have e : u_ws RX9 TX9 3 = [.laysFinal RX9 "RegisterGateway" "core" "LRegisterGateway$Core;", .laysFinal RX9 "RegisterGateway" "listener" "LRegisterGateway$Listener;", .lays RX9 "RegisterGateway" "trial" "LRegisterGateway$Core;"] := rfl
  rw [e]
  exact fallc (gm 324 (by decide +kernel) rfl) (fallc (gm 326 (by decide +kernel) rfl) (fallc (gm 328 (by decide +kernel) rfl) (falln)))
theorem cw_10 : CW 10 := ⟨RX9, TX9, 3, tyX9, rfl, in_c10, tyX9_ok, nmX9, (gm 89 (by decide +kernel) rfl), (gm 61 (by decide +kernel) rfl), fun j hj => by
    rcases (show j = 0 ∨ j = 1 ∨ j = 2 by omega) with rfl | rfl | rfl <;> rfl⟩
theorem cl_RX9_16 : Cond.classLink RX9 16 RX5 ∈ gtbl := gm 290 (by decide +kernel) rfl
theorem fp_RX9_19 : FP RX9 19 10 1 (.object "RegisterGateway$Listener") true := FP.of "RegisterGateway" rfl (by decide) (gm 322 (by decide +kernel) rfl) (Or.inl rfl) rfl (by decide +kernel) (fun _ => rfl)
theorem yw_X1_init : YW yX1_init cX1_init 1 none 0 := ⟨(gm 100 (by decide +kernel) rfl), (gm 62 (by decide +kernel) rfl), by decide +kernel, by decide +kernel, by decide +kernel⟩
theorem ni_RX9_9 : NI RX9 9 yX1_init := ⟨⟨"RegisterGateway", List.mem_of_getElem? (i := 98) (by decide +kernel)⟩, (gm 99 (by decide +kernel) rfl), rfl⟩
theorem yw_X5_init : YW yX5_init cX5_init 1 none 0 := ⟨(gm 294 (by decide +kernel) rfl), (gm 72 (by decide +kernel) rfl), by decide +kernel, by decide +kernel, by decide +kernel⟩
theorem ni_RX9_18 : NI RX9 18 yX5_init := ⟨⟨"RegisterGateway", List.mem_of_getElem? (i := 292) (by decide +kernel)⟩, (gm 293 (by decide +kernel) rfl), rfl⟩
theorem th_RX9_281_285 : TH RX9 281 285 "java/lang/IllegalArgumentException" := th_of (by decide +kernel) (gm 842 (by decide +kernel) rfl) (gm 78 (by decide +kernel) rfl) (by decide +kernel) (by decide +kernel)
theorem st_RX9_283 : Cond.stringRef RX9 283 "a number out of its range" ∈ lw_tbl := List.mem_of_getElem? (i := 851) (by decide +kernel)
theorem sl_RX9_30 : Cond.fieldLink RX9 30 RX9 "LEAST_SETTING" "[I" ∈ gtbl := gm 835 (by decide +kernel) rfl
theorem sl_RX9_34 : Cond.fieldLink RX9 34 RX9 "GREATEST_SETTING" "[I" ∈ gtbl := gm 837 (by decide +kernel) rfl
theorem fw_RX9_10 : FW RX9 10 10 0 := FW.of "RegisterGateway" rfl (by decide) in_c10 (gm 321 (by decide +kernel) rfl) (Or.inl rfl)
theorem fw_RX9_41 : FW RX9 41 2 0 := FW.of "RegisterGateway$Core" rfl (by decide) in_c2 (gm 249 (by decide +kernel) rfl) (Or.inl rfl)
theorem th_RX9_23_27 : TH RX9 23 27 "java/lang/IndexOutOfBoundsException" := th_of (by decide +kernel) (gm 734 (by decide +kernel) rfl) (gm 77 (by decide +kernel) rfl) (by decide +kernel) (by decide +kernel)
theorem st_RX9_25 : Cond.stringRef RX9 25 "no such setting" ∈ lw_tbl := List.mem_of_getElem? (i := 834) (by decide +kernel)
theorem yw_X9_needInRange : YW yX9_needInRange cX9_needInRange 3 none 3 := ⟨(gm 841 (by decide +kernel) rfl), (gm 61 (by decide +kernel) rfl), by decide +kernel, by decide +kernel, by decide +kernel⟩
theorem sw_RX9_37 : SW RX9 37 yX9_needInRange := ⟨(gm 839 (by decide +kernel) rfl), (gm 840 (by decide +kernel) rfl)⟩
theorem st_RX9_288 : Cond.stringRef RX9 288 "no such device" ∈ lw_tbl := List.mem_of_getElem? (i := 868) (by decide +kernel)
theorem fw_RX9_51 : FW RX9 51 2 2 := FW.of "RegisterGateway$Core" rfl (by decide) in_c2 (gm 253 (by decide +kernel) rfl) (Or.inl rfl)
theorem fw_RX9_55 : FW RX9 55 3 6 := FW.of "RegisterGateway$Device" rfl (by decide) in_c3 (gm 121 (by decide +kernel) rfl) (Or.inl rfl)
theorem fp_RX9_55 : FP RX9 55 3 6 (.int) false := FP.of "RegisterGateway$Device" rfl (by decide) (gm 121 (by decide +kernel) rfl) (Or.inl rfl) rfl (by decide +kernel) (fun h => by cases h)
theorem fp_RX9_61 : FP RX9 61 3 5 (.int) false := FP.of "RegisterGateway$Device" rfl (by decide) (gm 119 (by decide +kernel) rfl) (Or.inl rfl) rfl (by decide +kernel) (fun h => by cases h)
theorem fw_RX9_61 : FW RX9 61 3 5 := FW.of "RegisterGateway$Device" rfl (by decide) in_c3 (gm 119 (by decide +kernel) rfl) (Or.inl rfl)
theorem kc_RX9_50 : Cond.constant RX9 50 (65535) ∈ gtbl := gm 870 (by decide +kernel) rfl
theorem yw_X9_needDevice : YW yX9_needDevice cX9_needDevice 1 none 1 := ⟨(gm 867 (by decide +kernel) rfl), (gm 61 (by decide +kernel) rfl), by decide +kernel, by decide +kernel, by decide +kernel⟩
theorem sw_RX9_44 : SW RX9 44 yX9_needDevice := ⟨(gm 865 (by decide +kernel) rfl), (gm 866 (by decide +kernel) rfl)⟩
theorem st_RX9_48 : Cond.stringRef RX9 48 "no such property" ∈ lw_tbl := List.mem_of_getElem? (i := 869) (by decide +kernel)
theorem st_RX9_290 : Cond.stringRef RX9 290 "no such register" ∈ lw_tbl := List.mem_of_getElem? (i := 881) (by decide +kernel)
theorem fw_RX9_68 : FW RX9 68 3 0 := FW.of "RegisterGateway$Device" rfl (by decide) in_c3 (gm 111 (by decide +kernel) rfl) (Or.inl rfl)
theorem yw_X9_needRegister : YW yX9_needRegister cX9_needRegister 2 none 2 := ⟨(gm 880 (by decide +kernel) rfl), (gm 61 (by decide +kernel) rfl), by decide +kernel, by decide +kernel, by decide +kernel⟩
theorem sw_RX9_64 : SW RX9 64 yX9_needRegister := ⟨(gm 878 (by decide +kernel) rfl), (gm 879 (by decide +kernel) rfl)⟩
theorem fw_RX9_75 : FW RX9 75 3 4 := FW.of "RegisterGateway$Device" rfl (by decide) in_c3 (gm 117 (by decide +kernel) rfl) (Or.inl rfl)
theorem fp_RX9_75 : FP RX9 75 3 4 (.int) false := FP.of "RegisterGateway$Device" rfl (by decide) (gm 117 (by decide +kernel) rfl) (Or.inl rfl) rfl (by decide +kernel) (fun h => by cases h)
theorem vw_RX9_71 : VW RX9 71 yX2_isReadOnly := ⟨(gm 896 (by decide +kernel) rfl), (gm 609 (by decide +kernel) rfl), (gm 610 (by decide +kernel) rfl)⟩
theorem fw_RX9_78 : FW RX9 78 3 3 := FW.of "RegisterGateway$Device" rfl (by decide) in_c3 (gm 115 (by decide +kernel) rfl) (Or.inl rfl)
theorem yw_X2_appendFault : YW yX2_appendFault cX2_appendFault 3 none 2 := ⟨(gm 924 (by decide +kernel) rfl), (gm 63 (by decide +kernel) rfl), by decide +kernel, by decide +kernel, by decide +kernel⟩
theorem vw_RX9_86 : VW RX9 86 yX2_appendFault := ⟨(gm 921 (by decide +kernel) rfl), (gm 922 (by decide +kernel) rfl), (gm 923 (by decide +kernel) rfl)⟩
theorem th_RX9_81_85 : TH RX9 81 85 "java/lang/IllegalStateException" := th_of (by decide +kernel) (gm 905 (by decide +kernel) rfl) (gm 79 (by decide +kernel) rfl) (by decide +kernel) (by decide +kernel)
theorem st_RX9_83 : Cond.stringRef RX9 83 "the device has all the faults it can have" ∈ lw_tbl := List.mem_of_getElem? (i := 914) (by decide +kernel)
theorem st_RX9_286 : Cond.stringRef RX9 286 "no such client" ∈ lw_tbl := List.mem_of_getElem? (i := 935) (by decide +kernel)
theorem fw_RX9_95 : FW RX9 95 2 4 := FW.of "RegisterGateway$Core" rfl (by decide) in_c2 (gm 257 (by decide +kernel) rfl) (Or.inl rfl)
theorem fw_RX9_264 : FW RX9 264 7 0 := FW.of "RegisterGateway$Queue" rfl (by decide) in_c7 (gm 188 (by decide +kernel) rfl) (Or.inl rfl)
theorem vw_RX9_267 : VW RX9 267 yJx4a65c_size_8abf5 := ⟨(gm 814 (by decide +kernel) rfl), (gm 348 (by decide +kernel) rfl), (gm 349 (by decide +kernel) rfl)⟩
theorem st_RX9_294 : Cond.stringRef RX9 294 "no more requests can be made" ∈ lw_tbl := List.mem_of_getElem? (i := 940) (by decide +kernel)
theorem cl_RX9_99 : Cond.classLink RX9 99 RX8 ∈ gtbl := gm 816 (by decide +kernel) rfl
theorem yw_X9_needClient : YW yX9_needClient cX9_needClient 1 none 1 := ⟨(gm 934 (by decide +kernel) rfl), (gm 61 (by decide +kernel) rfl), by decide +kernel, by decide +kernel, by decide +kernel⟩
theorem sw_RX9_89 : SW RX9 89 yX9_needClient := ⟨(gm 932 (by decide +kernel) rfl), (gm 933 (by decide +kernel) rfl)⟩
theorem yw_X9_needRoomForRequest : YW yX9_needRoomForRequest cX9_needRoomForRequest 1 none 0 := ⟨(gm 939 (by decide +kernel) rfl), (gm 61 (by decide +kernel) rfl), by decide +kernel, by decide +kernel, by decide +kernel⟩
theorem vw_RX9_92 : VW RX9 92 yX9_needRoomForRequest := ⟨(gm 936 (by decide +kernel) rfl), (gm 938 (by decide +kernel) rfl), (gm 20 (by decide +kernel) rfl)⟩
theorem iw_RX9_101 : IW RX9 101 yX8_init := ⟨(gm 942 (by decide +kernel) rfl), (gm 943 (by decide +kernel) rfl), rfl⟩
theorem yw_X6_append : YW yX6_append cX6_append 2 (some (.int)) 1 := ⟨(gm 1012 (by decide +kernel) rfl), (gm 66 (by decide +kernel) rfl), by decide +kernel, by decide +kernel, by decide +kernel⟩
theorem vw_RX9_104 : VW RX9 104 yX6_append := ⟨(gm 1009 (by decide +kernel) rfl), (gm 1010 (by decide +kernel) rfl), (gm 1011 (by decide +kernel) rfl)⟩
theorem fw_RX9_110 : FW RX9 110 9 6 := FW.of "RegisterGateway$Request" rfl (by decide) in_c9 (gm 973 (by decide +kernel) rfl) (Or.inl rfl)
theorem st_RX9_296 : Cond.stringRef RX9 296 "no such request" ∈ lw_tbl := List.mem_of_getElem? (i := 1032) (by decide +kernel)
theorem vw_RX9_271 : VW RX9 271 yJx4a65c_get_915e3 := ⟨(gm 815 (by decide +kernel) rfl), (gm 352 (by decide +kernel) rfl), (gm 353 (by decide +kernel) rfl)⟩
theorem fw_RX9_142 : FW RX9 142 9 10 := FW.of "RegisterGateway$Request" rfl (by decide) in_c9 (gm 985 (by decide +kernel) rfl) (Or.inl rfl)
theorem fw_RX9_139 : FW RX9 139 9 9 := FW.of "RegisterGateway$Request" rfl (by decide) in_c9 (gm 982 (by decide +kernel) rfl) (Or.inl rfl)
theorem fw_RX9_136 : FW RX9 136 9 8 := FW.of "RegisterGateway$Request" rfl (by decide) in_c9 (gm 979 (by decide +kernel) rfl) (Or.inl rfl)
theorem fw_RX9_133 : FW RX9 133 9 7 := FW.of "RegisterGateway$Request" rfl (by decide) in_c9 (gm 976 (by decide +kernel) rfl) (Or.inl rfl)
theorem fw_RX9_129 : FW RX9 129 9 5 := FW.of "RegisterGateway$Request" rfl (by decide) in_c9 (gm 969 (by decide +kernel) rfl) (Or.inl rfl)
theorem fw_RX9_126 : FW RX9 126 9 3 := FW.of "RegisterGateway$Request" rfl (by decide) in_c9 (gm 962 (by decide +kernel) rfl) (Or.inl rfl)
theorem fw_RX9_123 : FW RX9 123 9 2 := FW.of "RegisterGateway$Request" rfl (by decide) in_c9 (gm 958 (by decide +kernel) rfl) (Or.inl rfl)
theorem fw_RX9_120 : FW RX9 120 9 1 := FW.of "RegisterGateway$Request" rfl (by decide) in_c9 (gm 954 (by decide +kernel) rfl) (Or.inl rfl)
theorem fw_RX9_117 : FW RX9 117 9 0 := FW.of "RegisterGateway$Request" rfl (by decide) in_c9 (gm 950 (by decide +kernel) rfl) (Or.inl rfl)
theorem yw_X9_neededRequest : YW yX9_neededRequest cX9_neededRequest 2 (some (.object "RegisterGateway$Request")) 1 := ⟨(gm 1031 (by decide +kernel) rfl), (gm 61 (by decide +kernel) rfl), by decide +kernel, by decide +kernel, by decide +kernel⟩
theorem vw_RX9_113 : VW RX9 113 yX9_neededRequest := ⟨(gm 1028 (by decide +kernel) rfl), (gm 1030 (by decide +kernel) rfl), (gm 21 (by decide +kernel) rfl)⟩
theorem st_RX9_145 : Cond.stringRef RX9 145 "nothing of this number is known of a request" ∈ lw_tbl := List.mem_of_getElem? (i := 1033) (by decide +kernel)
theorem st_RX9_147 : Cond.stringRef RX9 147 "the request has no such value" ∈ lw_tbl := List.mem_of_getElem? (i := 1041) (by decide +kernel)
theorem yw_X8_isReadDone : YW yX8_isReadDone cX8_isReadDone 1 (some (.boolean)) 0 := ⟨(gm 823 (by decide +kernel) rfl), (gm 80 (by decide +kernel) rfl), by decide +kernel, by decide +kernel, by decide +kernel⟩
theorem vw_RX9_149 : VW RX9 149 yX8_isReadDone := ⟨(gm 820 (by decide +kernel) rfl), (gm 821 (by decide +kernel) rfl), (gm 822 (by decide +kernel) rfl)⟩
theorem st_RX9_153 : Cond.stringRef RX9 153 "the request is no read that is done" ∈ lw_tbl := List.mem_of_getElem? (i := 1042) (by decide +kernel)
theorem st_RX9_292 : Cond.stringRef RX9 292 "no such state" ∈ lw_tbl := List.mem_of_getElem? (i := 809) (by decide +kernel)
theorem yw_X6_countOf : YW yX6_countOf cX6_countOf 6 (some (.int)) 2 := ⟨(gm 813 (by decide +kernel) rfl), (gm 66 (by decide +kernel) rfl), by decide +kernel, by decide +kernel, by decide +kernel⟩
theorem vw_RX9_158 : VW RX9 158 yX6_countOf := ⟨(gm 810 (by decide +kernel) rfl), (gm 811 (by decide +kernel) rfl), (gm 812 (by decide +kernel) rfl)⟩
theorem yw_X9_needState : YW yX9_needState cX9_needState 1 none 1 := ⟨(gm 808 (by decide +kernel) rfl), (gm 61 (by decide +kernel) rfl), by decide +kernel, by decide +kernel, by decide +kernel⟩
theorem sw_RX9_155 : SW RX9 155 yX9_needState := ⟨(gm 806 (by decide +kernel) rfl), (gm 807 (by decide +kernel) rfl)⟩
theorem yw_X1_takeStep : YW yX1_takeStep cX1_takeStep 3 (some (.int)) 0 := ⟨(gm 338 (by decide +kernel) rfl), (gm 62 (by decide +kernel) rfl), by decide +kernel, by decide +kernel, by decide +kernel⟩
theorem vw_RX9_162 : VW RX9 162 yX1_takeStep := ⟨(gm 335 (by decide +kernel) rfl), (gm 336 (by decide +kernel) rfl), (gm 337 (by decide +kernel) rfl)⟩
theorem fw_RX9_166 : FW RX9 166 2 7 := FW.of "RegisterGateway$Core" rfl (by decide) in_c2 (gm 262 (by decide +kernel) rfl) (Or.inl rfl)
theorem kc_RX9_169 : Cond.constant RX9 169 (10000000) ∈ gtbl := gm 1061 (by decide +kernel) rfl
theorem fp_RX9_166 : FP RX9 166 2 7 (.int) false := FP.of "RegisterGateway$Core" rfl (by decide) (gm 262 (by decide +kernel) rfl) (Or.inl rfl) rfl (by decide +kernel) (fun h => by cases h)
theorem st_RX9_170 : Cond.stringRef RX9 170 "the time would become too great" ∈ lw_tbl := List.mem_of_getElem? (i := 1062) (by decide +kernel)
theorem fw_RX9_175 : FW RX9 175 7 1 := FW.of "RegisterGateway$Queue" rfl (by decide) in_c7 (gm 191 (by decide +kernel) rfl) (Or.inl rfl)
theorem vw_RX9_172 : VW RX9 172 yX1_plan := ⟨(gm 695 (by decide +kernel) rfl), (gm 340 (by decide +kernel) rfl), (gm 341 (by decide +kernel) rfl)⟩
theorem fw_RX9_181 : FW RX9 181 2 6 := FW.of "RegisterGateway$Core" rfl (by decide) in_c2 (gm 260 (by decide +kernel) rfl) (Or.inl rfl)
theorem fw_RX9_185 : FW RX9 185 4 1 := FW.of "RegisterGateway$Frame" rfl (by decide) in_c4 (gm 242 (by decide +kernel) rfl) (Or.inl rfl)
theorem vw_RX9_190 : VW RX9 190 yX3_byteAt := ⟨(gm 1071 (by decide +kernel) rfl), (gm 604 (by decide +kernel) rfl), (gm 605 (by decide +kernel) rfl)⟩
theorem st_RX9_179 : Cond.stringRef RX9 179 "a negative index" ∈ lw_tbl := List.mem_of_getElem? (i := 1070) (by decide +kernel)
theorem fw_RX9_194 : FW RX9 194 2 3 := FW.of "RegisterGateway$Core" rfl (by decide) in_c2 (gm 255 (by decide +kernel) rfl) (Or.inl rfl)
theorem vw_RX9_198 : VW RX9 198 yX0_ageOf := ⟨(gm 1079 (by decide +kernel) rfl), (gm 375 (by decide +kernel) rfl), (gm 376 (by decide +kernel) rfl)⟩
theorem vw_RX9_204 : VW RX9 204 yX0_valueOf := ⟨(gm 824 (by decide +kernel) rfl), (gm 458 (by decide +kernel) rfl), (gm 459 (by decide +kernel) rfl)⟩
theorem yw_X0_empty : YW yX0_empty cX0_empty 3 (some (.int)) 0 := ⟨(gm 703 (by decide +kernel) rfl), (gm 64 (by decide +kernel) rfl), by decide +kernel, by decide +kernel, by decide +kernel⟩
theorem vw_RX9_207 : VW RX9 207 yX0_empty := ⟨(gm 700 (by decide +kernel) rfl), (gm 701 (by decide +kernel) rfl), (gm 702 (by decide +kernel) rfl)⟩
theorem fw_RX9_212 : FW RX9 212 2 1 := FW.of "RegisterGateway$Core" rfl (by decide) in_c2 (gm 251 (by decide +kernel) rfl) (Or.inl rfl)
theorem st_RX9_210 : Cond.stringRef RX9 210 "nothing of this number is counted" ∈ lw_tbl := List.mem_of_getElem? (i := 775) (by decide +kernel)
theorem fw_RX9_215 : FW RX9 215 10 2 := FW.of "RegisterGateway" rfl (by decide) in_c10 (gm 323 (by decide +kernel) rfl) (Or.inl rfl)
theorem fp_RX9_215 : FP RX9 215 10 2 (.object "RegisterGateway$Core") false := FP.of "RegisterGateway" rfl (by decide) (gm 323 (by decide +kernel) rfl) (Or.inl rfl) rfl (by decide +kernel) (fun h => by cases h)
theorem fw_RX9_222 : FW RX9 222 2 10 := FW.of "RegisterGateway$Core" rfl (by decide) in_c2 (gm 266 (by decide +kernel) rfl) (Or.inl rfl)
theorem yw_X1_copyFrom : YW yX1_copyFrom cX1_copyFrom 3 none 1 := ⟨(gm 1101 (by decide +kernel) rfl), (gm 62 (by decide +kernel) rfl), by decide +kernel, by decide +kernel, by decide +kernel⟩
theorem vw_RX9_218 : VW RX9 218 yX1_copyFrom := ⟨(gm 1098 (by decide +kernel) rfl), (gm 1099 (by decide +kernel) rfl), (gm 1100 (by decide +kernel) rfl)⟩
theorem fw_RX9_19 : FW RX9 19 10 1 := FW.of "RegisterGateway" rfl (by decide) in_c10 (gm 322 (by decide +kernel) rfl) (Or.inl rfl)
theorem fw_RX9_228 : FW RX9 228 6 3 := FW.of "RegisterGateway$Listener" rfl (by decide) in_c6 (gm 304 (by decide +kernel) rfl) (Or.inl rfl)
theorem yw_X5_hear : YW yX5_hear cX5_hear 3 none 2 := ⟨(gm 1143 (by decide +kernel) rfl), (gm 72 (by decide +kernel) rfl), by decide +kernel, by decide +kernel, by decide +kernel⟩
theorem vw_RX9_225 : VW RX9 225 yX5_hear := ⟨(gm 1140 (by decide +kernel) rfl), (gm 1141 (by decide +kernel) rfl), (gm 1142 (by decide +kernel) rfl)⟩
theorem fw_RX9_232 : FW RX9 232 6 2 := FW.of "RegisterGateway$Listener" rfl (by decide) in_c6 (gm 302 (by decide +kernel) rfl) (Or.inl rfl)
theorem vw_RX9_229 : VW RX9 229 yX5_close := ⟨(gm 708 (by decide +kernel) rfl), (gm 709 (by decide +kernel) rfl), (gm 710 (by decide +kernel) rfl)⟩
theorem fw_RX9_241 : FW RX9 241 6 0 := FW.of "RegisterGateway$Listener" rfl (by decide) in_c6 (gm 298 (by decide +kernel) rfl) (Or.inl rfl)
theorem yw_X9_needHeardIndex : YW yX9_needHeardIndex cX9_needHeardIndex 1 none 1 := ⟨(gm 1155 (by decide +kernel) rfl), (gm 61 (by decide +kernel) rfl), by decide +kernel, by decide +kernel, by decide +kernel⟩
theorem sw_RX9_235 : SW RX9 235 yX9_needHeardIndex := ⟨(gm 1153 (by decide +kernel) rfl), (gm 1154 (by decide +kernel) rfl)⟩
theorem yw_X5_isKept : YW yX5_isKept cX5_isKept 2 (some (.boolean)) 1 := ⟨(gm 1159 (by decide +kernel) rfl), (gm 72 (by decide +kernel) rfl), by decide +kernel, by decide +kernel, by decide +kernel⟩
theorem vw_RX9_238 : VW RX9 238 yX5_isKept := ⟨(gm 1156 (by decide +kernel) rfl), (gm 1157 (by decide +kernel) rfl), (gm 1158 (by decide +kernel) rfl)⟩
theorem yw_X5_placeOf : YW yX5_placeOf cX5_placeOf 2 (some (.int)) 1 := ⟨(gm 1163 (by decide +kernel) rfl), (gm 72 (by decide +kernel) rfl), by decide +kernel, by decide +kernel, by decide +kernel⟩
theorem vw_RX9_244 : VW RX9 244 yX5_placeOf := ⟨(gm 1160 (by decide +kernel) rfl), (gm 1161 (by decide +kernel) rfl), (gm 1162 (by decide +kernel) rfl)⟩
theorem fw_RX9_247 : FW RX9 247 6 1 := FW.of "RegisterGateway$Listener" rfl (by decide) in_c6 (gm 300 (by decide +kernel) rfl) (Or.inl rfl)
theorem fw_RX9_250 : FW RX9 250 6 4 := FW.of "RegisterGateway$Listener" rfl (by decide) in_c6 (gm 306 (by decide +kernel) rfl) (Or.inl rfl)
theorem kl_RX9_279 : Cond.constantLong RX9 279 (31) ∈ gtbl := gm 729 (by decide +kernel) rfl
theorem yw_X9_mix : YW yX9_mix cX9_mix 3 (some (.long)) 2 := ⟨(gm 728 (by decide +kernel) rfl), (gm 61 (by decide +kernel) rfl), by decide +kernel, by decide +kernel, by decide +kernel⟩
theorem sw_RX9_255 : SW RX9 255 yX9_mix := ⟨(gm 726 (by decide +kernel) rfl), (gm 727 (by decide +kernel) rfl)⟩
theorem kl_RX9_253 : Cond.constantLong RX9 253 (73) ∈ gtbl := gm 725 (by decide +kernel) rfl
theorem yw_X9_mixRequest : YW yX9_mixRequest cX9_mixRequest 6 (some (.long)) 2 := ⟨(gm 819 (by decide +kernel) rfl), (gm 61 (by decide +kernel) rfl), by decide +kernel, by decide +kernel, by decide +kernel⟩
theorem sw_RX9_275 : SW RX9 275 yX9_mixRequest := ⟨(gm 817 (by decide +kernel) rfl), (gm 818 (by decide +kernel) rfl)⟩
theorem yw_X9_requests : YW yX9_requests cX9_requests 4 (some (.int)) 1 := ⟨(gm 805 (by decide +kernel) rfl), (gm 61 (by decide +kernel) rfl), by decide +kernel, by decide +kernel, by decide +kernel⟩
theorem vw_RX9_261 : VW RX9 261 yX9_requests := ⟨(gm 802 (by decide +kernel) rfl), (gm 803 (by decide +kernel) rfl), (gm 804 (by decide +kernel) rfl)⟩
theorem yw_X9_count : YW yX9_count cX9_count 2 (some (.int)) 1 := ⟨(gm 733 (by decide +kernel) rfl), (gm 61 (by decide +kernel) rfl), by decide +kernel, by decide +kernel, by decide +kernel⟩
theorem vw_RX9_259 : VW RX9 259 yX9_count := ⟨(gm 730 (by decide +kernel) rfl), (gm 731 (by decide +kernel) rfl), (gm 732 (by decide +kernel) rfl)⟩
