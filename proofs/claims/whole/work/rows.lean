section
-- ===== PART A: goes FIRST, ahead of the names: the tables' words, and 'selects' of the private methods out of them =====
/-- a private method of a class that the tables say can be made, by its rows of tables_1 -/
def lw_okq (q : MethodName × Nat) : Prop := (q.1.cls ≠ "java/lang/invoke/MethodHandle" ∧ q.1.cls ≠ "java/lang/invoke/VarHandle") ∧ Cond.instantiable q.1.cls q.2 ∈ tables_1 ∧ Cond.privateMethod q.1 ∈ tables_1 ∧ Cond.instanceMethod q.1 ∈ tables_1
theorem lw_p0 : lw_okq (⟨"RegisterGateway$Core", "cacheAnswers", "(LRegisterGateway$Request;)Z"⟩, 11) := ⟨⟨by decide +kernel, by decide +kernel⟩, List.mem_of_getElem? (i := 37) (by decide +kernel), List.mem_of_getElem? (i := 307) (by decide +kernel), List.mem_of_getElem? (i := 308) (by decide +kernel)⟩
theorem lw_p1 : lw_okq (⟨"RegisterGateway$Queue", "fitsBeside", "(LRegisterGateway$Request;)Z"⟩, 7) := ⟨⟨by decide +kernel, by decide +kernel⟩, List.mem_of_getElem? (i := 95) (by decide +kernel), List.mem_of_getElem? (i := 326) (by decide +kernel), List.mem_of_getElem? (i := 327) (by decide +kernel)⟩
theorem lw_p2 : lw_okq (⟨"RegisterGateway$Queue", "isBarred", "(ILRegisterGateway$Request;)Z"⟩, 7) := ⟨⟨by decide +kernel, by decide +kernel⟩, List.mem_of_getElem? (i := 95) (by decide +kernel), List.mem_of_getElem? (i := 336) (by decide +kernel), List.mem_of_getElem? (i := 337) (by decide +kernel)⟩
theorem lw_p3 : lw_okq (⟨"RegisterGateway$Core", "buildWriteFrame", "()V"⟩, 11) := ⟨⟨by decide +kernel, by decide +kernel⟩, List.mem_of_getElem? (i := 37) (by decide +kernel), List.mem_of_getElem? (i := 348) (by decide +kernel), List.mem_of_getElem? (i := 349) (by decide +kernel)⟩
theorem lw_p4 : lw_okq (⟨"RegisterGateway$Frame", "sumOf", "(I)I"⟩, 2) := ⟨⟨by decide +kernel, by decide +kernel⟩, List.mem_of_getElem? (i := 174) (by decide +kernel), List.mem_of_getElem? (i := 377) (by decide +kernel), List.mem_of_getElem? (i := 378) (by decide +kernel)⟩
theorem lw_p5 : lw_okq (⟨"RegisterGateway$Core", "endFromCache", "(LRegisterGateway$Request;)V"⟩, 11) := ⟨⟨by decide +kernel, by decide +kernel⟩, List.mem_of_getElem? (i := 37) (by decide +kernel), List.mem_of_getElem? (i := 394) (by decide +kernel), List.mem_of_getElem? (i := 395) (by decide +kernel)⟩
theorem lw_p6 : lw_okq (⟨"RegisterGateway$Core", "tryFrame", "(LRegisterGateway$Device;)LRegisterGateway$Reply;"⟩, 11) := ⟨⟨by decide +kernel, by decide +kernel⟩, List.mem_of_getElem? (i := 37) (by decide +kernel), List.mem_of_getElem? (i := 406) (by decide +kernel), List.mem_of_getElem? (i := 407) (by decide +kernel)⟩
theorem lw_p7 : lw_okq (⟨"java/util/ArrayList", "fastRemove", "([Ljava/lang/Object;I)V"⟩, 3) := ⟨⟨by decide +kernel, by decide +kernel⟩, List.mem_of_getElem? (i := 101) (by decide +kernel), List.mem_of_getElem? (i := 421) (by decide +kernel), List.mem_of_getElem? (i := 422) (by decide +kernel)⟩
theorem lw_p8 : lw_okq (⟨"java/util/ArrayList", "add", "(Ljava/lang/Object;[Ljava/lang/Object;I)V"⟩, 3) := ⟨⟨by decide +kernel, by decide +kernel⟩, List.mem_of_getElem? (i := 101) (by decide +kernel), List.mem_of_getElem? (i := 436) (by decide +kernel), List.mem_of_getElem? (i := 437) (by decide +kernel)⟩
theorem lw_p9 : lw_okq (⟨"java/util/ArrayList", "grow", "()[Ljava/lang/Object;"⟩, 3) := ⟨⟨by decide +kernel, by decide +kernel⟩, List.mem_of_getElem? (i := 101) (by decide +kernel), List.mem_of_getElem? (i := 440) (by decide +kernel), List.mem_of_getElem? (i := 441) (by decide +kernel)⟩
theorem lw_p10 : lw_okq (⟨"java/util/ArrayList", "grow", "(I)[Ljava/lang/Object;"⟩, 3) := ⟨⟨by decide +kernel, by decide +kernel⟩, List.mem_of_getElem? (i := 101) (by decide +kernel), List.mem_of_getElem? (i := 444) (by decide +kernel), List.mem_of_getElem? (i := 445) (by decide +kernel)⟩
theorem lw_p11 : lw_okq (⟨"RegisterGateway$Device", "dropFirstFault", "()V"⟩, 7) := ⟨⟨by decide +kernel, by decide +kernel⟩, List.mem_of_getElem? (i := 44) (by decide +kernel), List.mem_of_getElem? (i := 524) (by decide +kernel), List.mem_of_getElem? (i := 525) (by decide +kernel)⟩
theorem lw_p12 : lw_okq (⟨"RegisterGateway$Device", "refusalOf", "(LRegisterGateway$Frame;)I"⟩, 7) := ⟨⟨by decide +kernel, by decide +kernel⟩, List.mem_of_getElem? (i := 44) (by decide +kernel), List.mem_of_getElem? (i := 528) (by decide +kernel), List.mem_of_getElem? (i := 529) (by decide +kernel)⟩
theorem lw_p13 : lw_okq (⟨"RegisterGateway$Device", "obey", "(LRegisterGateway$Frame;LRegisterGateway$Frame;)V"⟩, 7) := ⟨⟨by decide +kernel, by decide +kernel⟩, List.mem_of_getElem? (i := 44) (by decide +kernel), List.mem_of_getElem? (i := 557) (by decide +kernel), List.mem_of_getElem? (i := 558) (by decide +kernel)⟩
theorem lw_p14 : lw_okq (⟨"RegisterGateway$Line", "earliest", "(I)I"⟩, 2) := ⟨⟨by decide +kernel, by decide +kernel⟩, List.mem_of_getElem? (i := 158) (by decide +kernel), List.mem_of_getElem? (i := 579) (by decide +kernel), List.mem_of_getElem? (i := 580) (by decide +kernel)⟩
theorem lw_p15 : lw_okq (⟨"RegisterGateway$Core", "noteTaken", "(LRegisterGateway$Reply;)V"⟩, 11) := ⟨⟨by decide +kernel, by decide +kernel⟩, List.mem_of_getElem? (i := 37) (by decide +kernel), List.mem_of_getElem? (i := 587) (by decide +kernel), List.mem_of_getElem? (i := 588) (by decide +kernel)⟩
def lw_privs_1 : List (MethodName × Nat) := [(⟨"RegisterGateway$Core", "cacheAnswers", "(LRegisterGateway$Request;)Z"⟩, 11), (⟨"RegisterGateway$Queue", "fitsBeside", "(LRegisterGateway$Request;)Z"⟩, 7), (⟨"RegisterGateway$Queue", "isBarred", "(ILRegisterGateway$Request;)Z"⟩, 7), (⟨"RegisterGateway$Core", "buildWriteFrame", "()V"⟩, 11), (⟨"RegisterGateway$Frame", "sumOf", "(I)I"⟩, 2), (⟨"RegisterGateway$Core", "endFromCache", "(LRegisterGateway$Request;)V"⟩, 11), (⟨"RegisterGateway$Core", "tryFrame", "(LRegisterGateway$Device;)LRegisterGateway$Reply;"⟩, 11), (⟨"java/util/ArrayList", "fastRemove", "([Ljava/lang/Object;I)V"⟩, 3), (⟨"java/util/ArrayList", "add", "(Ljava/lang/Object;[Ljava/lang/Object;I)V"⟩, 3), (⟨"java/util/ArrayList", "grow", "()[Ljava/lang/Object;"⟩, 3), (⟨"java/util/ArrayList", "grow", "(I)[Ljava/lang/Object;"⟩, 3), (⟨"RegisterGateway$Device", "dropFirstFault", "()V"⟩, 7), (⟨"RegisterGateway$Device", "refusalOf", "(LRegisterGateway$Frame;)I"⟩, 7), (⟨"RegisterGateway$Device", "obey", "(LRegisterGateway$Frame;LRegisterGateway$Frame;)V"⟩, 7), (⟨"RegisterGateway$Line", "earliest", "(I)I"⟩, 2), (⟨"RegisterGateway$Core", "noteTaken", "(LRegisterGateway$Reply;)V"⟩, 11)]
theorem lw_r1 : ∀ q ∈ lw_privs_1, lw_okq q := List.forall_mem_cons.mpr ⟨lw_p0, List.forall_mem_cons.mpr ⟨lw_p1, List.forall_mem_cons.mpr ⟨lw_p2, List.forall_mem_cons.mpr ⟨lw_p3, List.forall_mem_cons.mpr ⟨lw_p4, List.forall_mem_cons.mpr ⟨lw_p5, List.forall_mem_cons.mpr ⟨lw_p6, List.forall_mem_cons.mpr ⟨lw_p7, List.forall_mem_cons.mpr ⟨lw_p8, List.forall_mem_cons.mpr ⟨lw_p9, List.forall_mem_cons.mpr ⟨lw_p10, List.forall_mem_cons.mpr ⟨lw_p11, List.forall_mem_cons.mpr ⟨lw_p12, List.forall_mem_cons.mpr ⟨lw_p13, List.forall_mem_cons.mpr ⟨lw_p14, List.forall_mem_cons.mpr ⟨lw_p15, fun _ h => absurd h List.not_mem_nil⟩⟩⟩⟩⟩⟩⟩⟩⟩⟩⟩⟩⟩⟩⟩⟩
theorem lw_p16 : lw_okq (⟨"RegisterGateway$Core", "failGroup", "(I)V"⟩, 11) := ⟨⟨by decide +kernel, by decide +kernel⟩, List.mem_of_getElem? (i := 37) (by decide +kernel), List.mem_of_getElem? (i := 591) (by decide +kernel), List.mem_of_getElem? (i := 592) (by decide +kernel)⟩
theorem lw_p17 : lw_okq (⟨"RegisterGateway$Core", "finishGroup", "(LRegisterGateway$Frame;)V"⟩, 11) := ⟨⟨by decide +kernel, by decide +kernel⟩, List.mem_of_getElem? (i := 37) (by decide +kernel), List.mem_of_getElem? (i := 610) (by decide +kernel), List.mem_of_getElem? (i := 611) (by decide +kernel)⟩
theorem lw_p18 : lw_okq (⟨"RegisterGateway$Listener", "judge", "()I"⟩, 6) := ⟨⟨by decide +kernel, by decide +kernel⟩, List.mem_of_getElem? (i := 231) (by decide +kernel), List.mem_of_getElem? (i := 654) (by decide +kernel), List.mem_of_getElem? (i := 655) (by decide +kernel)⟩
theorem lw_p19 : lw_okq (⟨"java/lang/Throwable", "fillInStackTrace", "(I)Ljava/lang/Throwable;"⟩, 6) := ⟨⟨by decide +kernel, by decide +kernel⟩, List.mem_of_getElem? (i := 713) (by decide +kernel), List.mem_of_getElem? (i := 711) (by decide +kernel), List.mem_of_getElem? (i := 712) (by decide +kernel)⟩
theorem lw_p20 : lw_okq (⟨"RegisterGateway", "needRoomForRequest", "()V"⟩, 3) := ⟨⟨by decide +kernel, by decide +kernel⟩, List.mem_of_getElem? (i := 29) (by decide +kernel), List.mem_of_getElem? (i := 877) (by decide +kernel), List.mem_of_getElem? (i := 878) (by decide +kernel)⟩
theorem lw_p21 : lw_okq (⟨"RegisterGateway", "neededRequest", "(I)LRegisterGateway$Request;"⟩, 3) := ⟨⟨by decide +kernel, by decide +kernel⟩, List.mem_of_getElem? (i := 29) (by decide +kernel), List.mem_of_getElem? (i := 969) (by decide +kernel), List.mem_of_getElem? (i := 970) (by decide +kernel)⟩
theorem lw_p22 : lw_okq (⟨"RegisterGatewayModel", "fails", "(I)I"⟩, 19) := ⟨⟨by decide +kernel, by decide +kernel⟩, List.mem_of_getElem? (i := 1112) (by decide +kernel), List.mem_of_getElem? (i := 1188) (by decide +kernel), List.mem_of_getElem? (i := 1189) (by decide +kernel)⟩
theorem lw_p23 : lw_okq (⟨"RegisterGatewayModel", "sets", "(II)I"⟩, 19) := ⟨⟨by decide +kernel, by decide +kernel⟩, List.mem_of_getElem? (i := 1112) (by decide +kernel), List.mem_of_getElem? (i := 1192) (by decide +kernel), List.mem_of_getElem? (i := 1193) (by decide +kernel)⟩
theorem lw_p24 : lw_okq (⟨"RegisterGatewayModel", "asks", "(IIZ)I"⟩, 19) := ⟨⟨by decide +kernel, by decide +kernel⟩, List.mem_of_getElem? (i := 1112) (by decide +kernel), List.mem_of_getElem? (i := 1229) (by decide +kernel), List.mem_of_getElem? (i := 1230) (by decide +kernel)⟩
theorem lw_p25 : lw_okq (⟨"RegisterGatewayModel", "makes", "(IIIIZI)I"⟩, 19) := ⟨⟨by decide +kernel, by decide +kernel⟩, List.mem_of_getElem? (i := 1112) (by decide +kernel), List.mem_of_getElem? (i := 1233) (by decide +kernel), List.mem_of_getElem? (i := 1234) (by decide +kernel)⟩
theorem lw_p26 : lw_okq (⟨"RegisterGatewayModel", "isRequest", "(I)Z"⟩, 19) := ⟨⟨by decide +kernel, by decide +kernel⟩, List.mem_of_getElem? (i := 1112) (by decide +kernel), List.mem_of_getElem? (i := 1248) (by decide +kernel), List.mem_of_getElem? (i := 1249) (by decide +kernel)⟩
theorem lw_p27 : lw_okq (⟨"RegisterGatewayModel", "countIn", "(II)I"⟩, 19) := ⟨⟨by decide +kernel, by decide +kernel⟩, List.mem_of_getElem? (i := 1112) (by decide +kernel), List.mem_of_getElem? (i := 1260) (by decide +kernel), List.mem_of_getElem? (i := 1261) (by decide +kernel)⟩
theorem lw_p28 : lw_okq (⟨"RegisterGatewayModel", "steps", "()I"⟩, 19) := ⟨⟨by decide +kernel, by decide +kernel⟩, List.mem_of_getElem? (i := 1112) (by decide +kernel), List.mem_of_getElem? (i := 1272) (by decide +kernel), List.mem_of_getElem? (i := 1273) (by decide +kernel)⟩
theorem lw_p29 : lw_okq (⟨"RegisterGatewayModel", "firstWaiting", "()I"⟩, 19) := ⟨⟨by decide +kernel, by decide +kernel⟩, List.mem_of_getElem? (i := 1112) (by decide +kernel), List.mem_of_getElem? (i := 1276) (by decide +kernel), List.mem_of_getElem? (i := 1277) (by decide +kernel)⟩
theorem lw_p30 : lw_okq (⟨"RegisterGatewayModel", "isWaiting", "(I)Z"⟩, 19) := ⟨⟨by decide +kernel, by decide +kernel⟩, List.mem_of_getElem? (i := 1112) (by decide +kernel), List.mem_of_getElem? (i := 1280) (by decide +kernel), List.mem_of_getElem? (i := 1281) (by decide +kernel)⟩
theorem lw_p31 : lw_okq (⟨"RegisterGatewayModel", "isCached", "(I)Z"⟩, 19) := ⟨⟨by decide +kernel, by decide +kernel⟩, List.mem_of_getElem? (i := 1112) (by decide +kernel), List.mem_of_getElem? (i := 1284) (by decide +kernel), List.mem_of_getElem? (i := 1285) (by decide +kernel)⟩
def lw_privs_2 : List (MethodName × Nat) := [(⟨"RegisterGateway$Core", "failGroup", "(I)V"⟩, 11), (⟨"RegisterGateway$Core", "finishGroup", "(LRegisterGateway$Frame;)V"⟩, 11), (⟨"RegisterGateway$Listener", "judge", "()I"⟩, 6), (⟨"java/lang/Throwable", "fillInStackTrace", "(I)Ljava/lang/Throwable;"⟩, 6), (⟨"RegisterGateway", "needRoomForRequest", "()V"⟩, 3), (⟨"RegisterGateway", "neededRequest", "(I)LRegisterGateway$Request;"⟩, 3), (⟨"RegisterGatewayModel", "fails", "(I)I"⟩, 19), (⟨"RegisterGatewayModel", "sets", "(II)I"⟩, 19), (⟨"RegisterGatewayModel", "asks", "(IIZ)I"⟩, 19), (⟨"RegisterGatewayModel", "makes", "(IIIIZI)I"⟩, 19), (⟨"RegisterGatewayModel", "isRequest", "(I)Z"⟩, 19), (⟨"RegisterGatewayModel", "countIn", "(II)I"⟩, 19), (⟨"RegisterGatewayModel", "steps", "()I"⟩, 19), (⟨"RegisterGatewayModel", "firstWaiting", "()I"⟩, 19), (⟨"RegisterGatewayModel", "isWaiting", "(I)Z"⟩, 19), (⟨"RegisterGatewayModel", "isCached", "(I)Z"⟩, 19)]
theorem lw_r2 : ∀ q ∈ lw_privs_2, lw_okq q := List.forall_mem_cons.mpr ⟨lw_p16, List.forall_mem_cons.mpr ⟨lw_p17, List.forall_mem_cons.mpr ⟨lw_p18, List.forall_mem_cons.mpr ⟨lw_p19, List.forall_mem_cons.mpr ⟨lw_p20, List.forall_mem_cons.mpr ⟨lw_p21, List.forall_mem_cons.mpr ⟨lw_p22, List.forall_mem_cons.mpr ⟨lw_p23, List.forall_mem_cons.mpr ⟨lw_p24, List.forall_mem_cons.mpr ⟨lw_p25, List.forall_mem_cons.mpr ⟨lw_p26, List.forall_mem_cons.mpr ⟨lw_p27, List.forall_mem_cons.mpr ⟨lw_p28, List.forall_mem_cons.mpr ⟨lw_p29, List.forall_mem_cons.mpr ⟨lw_p30, List.forall_mem_cons.mpr ⟨lw_p31, fun _ h => absurd h List.not_mem_nil⟩⟩⟩⟩⟩⟩⟩⟩⟩⟩⟩⟩⟩⟩⟩⟩
theorem lw_p32 : lw_okq (⟨"RegisterGatewayModel", "isFresh", "(II)Z"⟩, 19) := ⟨⟨by decide +kernel, by decide +kernel⟩, List.mem_of_getElem? (i := 1112) (by decide +kernel), List.mem_of_getElem? (i := 1288) (by decide +kernel), List.mem_of_getElem? (i := 1289) (by decide +kernel)⟩
theorem lw_p33 : lw_okq (⟨"RegisterGatewayModel", "byCache", "(I)I"⟩, 19) := ⟨⟨by decide +kernel, by decide +kernel⟩, List.mem_of_getElem? (i := 1112) (by decide +kernel), List.mem_of_getElem? (i := 1295) (by decide +kernel), List.mem_of_getElem? (i := 1296) (by decide +kernel)⟩
theorem lw_p34 : lw_okq (⟨"RegisterGatewayModel", "ends", "(III)V"⟩, 19) := ⟨⟨by decide +kernel, by decide +kernel⟩, List.mem_of_getElem? (i := 1112) (by decide +kernel), List.mem_of_getElem? (i := 1299) (by decide +kernel), List.mem_of_getElem? (i := 1300) (by decide +kernel)⟩
theorem lw_p35 : lw_okq (⟨"RegisterGatewayModel", "gathers", "(I)V"⟩, 19) := ⟨⟨by decide +kernel, by decide +kernel⟩, List.mem_of_getElem? (i := 1112) (by decide +kernel), List.mem_of_getElem? (i := 1303) (by decide +kernel), List.mem_of_getElem? (i := 1304) (by decide +kernel)⟩
theorem lw_p36 : lw_okq (⟨"RegisterGatewayModel", "end", "(I)I"⟩, 19) := ⟨⟨by decide +kernel, by decide +kernel⟩, List.mem_of_getElem? (i := 1112) (by decide +kernel), List.mem_of_getElem? (i := 1307) (by decide +kernel), List.mem_of_getElem? (i := 1308) (by decide +kernel)⟩
theorem lw_p37 : lw_okq (⟨"RegisterGatewayModel", "isHeldBack", "(I)Z"⟩, 19) := ⟨⟨by decide +kernel, by decide +kernel⟩, List.mem_of_getElem? (i := 1112) (by decide +kernel), List.mem_of_getElem? (i := 1311) (by decide +kernel), List.mem_of_getElem? (i := 1312) (by decide +kernel)⟩
theorem lw_p38 : lw_okq (⟨"RegisterGatewayModel", "overlap", "(II)Z"⟩, 19) := ⟨⟨by decide +kernel, by decide +kernel⟩, List.mem_of_getElem? (i := 1112) (by decide +kernel), List.mem_of_getElem? (i := 1315) (by decide +kernel), List.mem_of_getElem? (i := 1316) (by decide +kernel)⟩
theorem lw_p39 : lw_okq (⟨"RegisterGatewayModel", "tries", "()Z"⟩, 19) := ⟨⟨by decide +kernel, by decide +kernel⟩, List.mem_of_getElem? (i := 1112) (by decide +kernel), List.mem_of_getElem? (i := 1319) (by decide +kernel), List.mem_of_getElem? (i := 1320) (by decide +kernel)⟩
theorem lw_p40 : lw_okq (⟨"RegisterGatewayModel", "attempts", "()Z"⟩, 19) := ⟨⟨by decide +kernel, by decide +kernel⟩, List.mem_of_getElem? (i := 1112) (by decide +kernel), List.mem_of_getElem? (i := 1323) (by decide +kernel), List.mem_of_getElem? (i := 1324) (by decide +kernel)⟩
theorem lw_p41 : lw_okq (⟨"RegisterGatewayModel", "frames", "()V"⟩, 19) := ⟨⟨by decide +kernel, by decide +kernel⟩, List.mem_of_getElem? (i := 1112) (by decide +kernel), List.mem_of_getElem? (i := 1327) (by decide +kernel), List.mem_of_getElem? (i := 1328) (by decide +kernel)⟩
theorem lw_p42 : lw_okq (⟨"RegisterGatewayModel", "puts", "(I)V"⟩, 19) := ⟨⟨by decide +kernel, by decide +kernel⟩, List.mem_of_getElem? (i := 1112) (by decide +kernel), List.mem_of_getElem? (i := 1331) (by decide +kernel), List.mem_of_getElem? (i := 1332) (by decide +kernel)⟩
theorem lw_p43 : lw_okq (⟨"RegisterGatewayModel", "function", "()I"⟩, 19) := ⟨⟨by decide +kernel, by decide +kernel⟩, List.mem_of_getElem? (i := 1112) (by decide +kernel), List.mem_of_getElem? (i := 1335) (by decide +kernel), List.mem_of_getElem? (i := 1336) (by decide +kernel)⟩
theorem lw_p44 : lw_okq (⟨"RegisterGatewayModel", "putsWord", "(I)V"⟩, 19) := ⟨⟨by decide +kernel, by decide +kernel⟩, List.mem_of_getElem? (i := 1112) (by decide +kernel), List.mem_of_getElem? (i := 1339) (by decide +kernel), List.mem_of_getElem? (i := 1340) (by decide +kernel)⟩
theorem lw_p45 : lw_okq (⟨"RegisterGatewayModel", "seals", "()V"⟩, 19) := ⟨⟨by decide +kernel, by decide +kernel⟩, List.mem_of_getElem? (i := 1112) (by decide +kernel), List.mem_of_getElem? (i := 1343) (by decide +kernel), List.mem_of_getElem? (i := 1344) (by decide +kernel)⟩
theorem lw_p46 : lw_okq (⟨"RegisterGatewayModel", "gets", "()V"⟩, 19) := ⟨⟨by decide +kernel, by decide +kernel⟩, List.mem_of_getElem? (i := 1112) (by decide +kernel), List.mem_of_getElem? (i := 1351) (by decide +kernel), List.mem_of_getElem? (i := 1352) (by decide +kernel)⟩
theorem lw_p47 : lw_okq (⟨"RegisterGatewayModel", "code", "()I"⟩, 19) := ⟨⟨by decide +kernel, by decide +kernel⟩, List.mem_of_getElem? (i := 1112) (by decide +kernel), List.mem_of_getElem? (i := 1355) (by decide +kernel), List.mem_of_getElem? (i := 1356) (by decide +kernel)⟩
def lw_privs_3 : List (MethodName × Nat) := [(⟨"RegisterGatewayModel", "isFresh", "(II)Z"⟩, 19), (⟨"RegisterGatewayModel", "byCache", "(I)I"⟩, 19), (⟨"RegisterGatewayModel", "ends", "(III)V"⟩, 19), (⟨"RegisterGatewayModel", "gathers", "(I)V"⟩, 19), (⟨"RegisterGatewayModel", "end", "(I)I"⟩, 19), (⟨"RegisterGatewayModel", "isHeldBack", "(I)Z"⟩, 19), (⟨"RegisterGatewayModel", "overlap", "(II)Z"⟩, 19), (⟨"RegisterGatewayModel", "tries", "()Z"⟩, 19), (⟨"RegisterGatewayModel", "attempts", "()Z"⟩, 19), (⟨"RegisterGatewayModel", "frames", "()V"⟩, 19), (⟨"RegisterGatewayModel", "puts", "(I)V"⟩, 19), (⟨"RegisterGatewayModel", "function", "()I"⟩, 19), (⟨"RegisterGatewayModel", "putsWord", "(I)V"⟩, 19), (⟨"RegisterGatewayModel", "seals", "()V"⟩, 19), (⟨"RegisterGatewayModel", "gets", "()V"⟩, 19), (⟨"RegisterGatewayModel", "code", "()I"⟩, 19)]
theorem lw_r3 : ∀ q ∈ lw_privs_3, lw_okq q := List.forall_mem_cons.mpr ⟨lw_p32, List.forall_mem_cons.mpr ⟨lw_p33, List.forall_mem_cons.mpr ⟨lw_p34, List.forall_mem_cons.mpr ⟨lw_p35, List.forall_mem_cons.mpr ⟨lw_p36, List.forall_mem_cons.mpr ⟨lw_p37, List.forall_mem_cons.mpr ⟨lw_p38, List.forall_mem_cons.mpr ⟨lw_p39, List.forall_mem_cons.mpr ⟨lw_p40, List.forall_mem_cons.mpr ⟨lw_p41, List.forall_mem_cons.mpr ⟨lw_p42, List.forall_mem_cons.mpr ⟨lw_p43, List.forall_mem_cons.mpr ⟨lw_p44, List.forall_mem_cons.mpr ⟨lw_p45, List.forall_mem_cons.mpr ⟨lw_p46, List.forall_mem_cons.mpr ⟨lw_p47, fun _ h => absurd h List.not_mem_nil⟩⟩⟩⟩⟩⟩⟩⟩⟩⟩⟩⟩⟩⟩⟩⟩
theorem lw_p48 : lw_okq (⟨"RegisterGatewayModel", "does", "()V"⟩, 19) := ⟨⟨by decide +kernel, by decide +kernel⟩, List.mem_of_getElem? (i := 1112) (by decide +kernel), List.mem_of_getElem? (i := 1359) (by decide +kernel), List.mem_of_getElem? (i := 1360) (by decide +kernel)⟩
theorem lw_p49 : lw_okq (⟨"RegisterGatewayModel", "repliesWith", "(I)V"⟩, 19) := ⟨⟨by decide +kernel, by decide +kernel⟩, List.mem_of_getElem? (i := 1112) (by decide +kernel), List.mem_of_getElem? (i := 1363) (by decide +kernel), List.mem_of_getElem? (i := 1364) (by decide +kernel)⟩
theorem lw_p50 : lw_okq (⟨"RegisterGatewayModel", "goes", "(I)V"⟩, 19) := ⟨⟨by decide +kernel, by decide +kernel⟩, List.mem_of_getElem? (i := 1112) (by decide +kernel), List.mem_of_getElem? (i := 1367) (by decide +kernel), List.mem_of_getElem? (i := 1368) (by decide +kernel)⟩
theorem lw_p51 : lw_okq (⟨"RegisterGatewayModel", "earliest", "(II)I"⟩, 19) := ⟨⟨by decide +kernel, by decide +kernel⟩, List.mem_of_getElem? (i := 1112) (by decide +kernel), List.mem_of_getElem? (i := 1371) (by decide +kernel), List.mem_of_getElem? (i := 1372) (by decide +kernel)⟩
theorem lw_p52 : lw_okq (⟨"RegisterGatewayModel", "fits", "(I)Z"⟩, 19) := ⟨⟨by decide +kernel, by decide +kernel⟩, List.mem_of_getElem? (i := 1112) (by decide +kernel), List.mem_of_getElem? (i := 1375) (by decide +kernel), List.mem_of_getElem? (i := 1376) (by decide +kernel)⟩
theorem lw_p53 : lw_okq (⟨"RegisterGatewayModel", "settles", "(I)I"⟩, 19) := ⟨⟨by decide +kernel, by decide +kernel⟩, List.mem_of_getElem? (i := 1112) (by decide +kernel), List.mem_of_getElem? (i := 1379) (by decide +kernel), List.mem_of_getElem? (i := 1380) (by decide +kernel)⟩
theorem lw_p54 : lw_okq (⟨"RegisterGatewayModel", "word", "(I)I"⟩, 19) := ⟨⟨by decide +kernel, by decide +kernel⟩, List.mem_of_getElem? (i := 1112) (by decide +kernel), List.mem_of_getElem? (i := 1383) (by decide +kernel), List.mem_of_getElem? (i := 1384) (by decide +kernel)⟩
theorem lw_p55 : lw_okq (⟨"RegisterGatewayModel", "caches", "(II)V"⟩, 19) := ⟨⟨by decide +kernel, by decide +kernel⟩, List.mem_of_getElem? (i := 1112) (by decide +kernel), List.mem_of_getElem? (i := 1387) (by decide +kernel), List.mem_of_getElem? (i := 1388) (by decide +kernel)⟩
theorem lw_p56 : lw_okq (⟨"RegisterGatewayModel", "stepsAll", "()V"⟩, 19) := ⟨⟨by decide +kernel, by decide +kernel⟩, List.mem_of_getElem? (i := 1112) (by decide +kernel), List.mem_of_getElem? (i := 1395) (by decide +kernel), List.mem_of_getElem? (i := 1396) (by decide +kernel)⟩
theorem lw_p57 : lw_okq (⟨"RegisterGatewayModel", "cachedAt", "(II)I"⟩, 19) := ⟨⟨by decide +kernel, by decide +kernel⟩, List.mem_of_getElem? (i := 1112) (by decide +kernel), List.mem_of_getElem? (i := 1424) (by decide +kernel), List.mem_of_getElem? (i := 1425) (by decide +kernel)⟩
theorem lw_p58 : lw_okq (⟨"RegisterGatewayModel", "endsFrame", "()V"⟩, 19) := ⟨⟨by decide +kernel, by decide +kernel⟩, List.mem_of_getElem? (i := 1112) (by decide +kernel), List.mem_of_getElem? (i := 1447) (by decide +kernel), List.mem_of_getElem? (i := 1448) (by decide +kernel)⟩
theorem lw_p59 : lw_okq (⟨"RegisterGatewayModel", "isKept", "(I)Z"⟩, 19) := ⟨⟨by decide +kernel, by decide +kernel⟩, List.mem_of_getElem? (i := 1112) (by decide +kernel), List.mem_of_getElem? (i := 1459) (by decide +kernel), List.mem_of_getElem? (i := 1460) (by decide +kernel)⟩
def lw_privs_4 : List (MethodName × Nat) := [(⟨"RegisterGatewayModel", "does", "()V"⟩, 19), (⟨"RegisterGatewayModel", "repliesWith", "(I)V"⟩, 19), (⟨"RegisterGatewayModel", "goes", "(I)V"⟩, 19), (⟨"RegisterGatewayModel", "earliest", "(II)I"⟩, 19), (⟨"RegisterGatewayModel", "fits", "(I)Z"⟩, 19), (⟨"RegisterGatewayModel", "settles", "(I)I"⟩, 19), (⟨"RegisterGatewayModel", "word", "(I)I"⟩, 19), (⟨"RegisterGatewayModel", "caches", "(II)V"⟩, 19), (⟨"RegisterGatewayModel", "stepsAll", "()V"⟩, 19), (⟨"RegisterGatewayModel", "cachedAt", "(II)I"⟩, 19), (⟨"RegisterGatewayModel", "endsFrame", "()V"⟩, 19), (⟨"RegisterGatewayModel", "isKept", "(I)Z"⟩, 19)]
theorem lw_r4 : ∀ q ∈ lw_privs_4, lw_okq q := List.forall_mem_cons.mpr ⟨lw_p48, List.forall_mem_cons.mpr ⟨lw_p49, List.forall_mem_cons.mpr ⟨lw_p50, List.forall_mem_cons.mpr ⟨lw_p51, List.forall_mem_cons.mpr ⟨lw_p52, List.forall_mem_cons.mpr ⟨lw_p53, List.forall_mem_cons.mpr ⟨lw_p54, List.forall_mem_cons.mpr ⟨lw_p55, List.forall_mem_cons.mpr ⟨lw_p56, List.forall_mem_cons.mpr ⟨lw_p57, List.forall_mem_cons.mpr ⟨lw_p58, List.forall_mem_cons.mpr ⟨lw_p59, fun _ h => absurd h List.not_mem_nil⟩⟩⟩⟩⟩⟩⟩⟩⟩⟩⟩⟩
def lw_privs : List (MethodName × Nat) := lw_privs_1 ++ (lw_privs_2 ++ (lw_privs_3 ++ (lw_privs_4)))
def lw_tbl : List Cond := k2_sels lw_privs ++ tables_1
theorem lw_privs_ok : ∀ q ∈ lw_privs, lw_okq q := by
  show ∀ q ∈ lw_privs_1 ++ (lw_privs_2 ++ (lw_privs_3 ++ (lw_privs_4))), lw_okq q
  exact List.forall_mem_append.mpr ⟨lw_r1, List.forall_mem_append.mpr ⟨lw_r2, List.forall_mem_append.mpr ⟨lw_r3, lw_r4⟩⟩⟩
end
section
/-! ===== BEGIN words of one list among another's, by their places ===== -/
theorem goodIn_r {big : List Cond} (ws : List Cond) (ps : List Nat) (hp : ws = ps.filterMap (fun i => big[i]?)) (h : ws.all goodWord = true) : GoodIn big ws := by
  intro w hw
  have h1 := List.all_eq_true.mp h w hw
  rw [hp] at hw
  obtain ⟨i, -, hi⟩ := List.mem_filterMap.mp hw
  have hm : w ∈ big := by first | exact List.mem_of_getElem? hi | exact List.getElem?_mem hi
  exact ⟨hm, good_of_word h1⟩
theorem goodIn_app {big a b : List Cond} (ha : GoodIn big a) (hb : GoodIn big b) : GoodIn big (a ++ b) := fun w h => (List.mem_append.mp h).elim (ha w) (hb w)
theorem goodIn_ca {big a b : List Cond} {c : Cond} (ha : GoodIn big (c :: a)) (hb : GoodIn big b) : GoodIn big (c :: (a ++ b)) := fun w h => (List.mem_cons.mp h).elim (fun e => ha w (List.mem_cons.mpr (Or.inl e))) (fun h => (List.mem_append.mp h).elim (fun h => ha w (List.mem_cons.mpr (Or.inr h))) (hb w))
theorem goodIn_sub {big ws : List Cond} (hm : ∀ w ∈ ws, w ∈ big) (h : ws.all goodWord = true) : GoodIn big ws := fun w hw => ⟨hm w hw, good_of_word (List.all_eq_true.mp h w hw)⟩
/-! ===== END ===== -/

/-! ===== BEGIN exceptions that leave a method, and their catching by the caller (launches without stack traces) ===== -/
section VXA
/-! The laws vx_back, vx_callV, vx_callS, vx_callSW, vx_throw0, vx_throwS follow proofs of the library, with one case more: JvmDerived/Free/Laws.lean (Back.of_free), Shelf42/LK1.lean (callV, callS), Shelf/KitTraced.lean (throwNew0V, throwNewS). -/
/-- where a method has thrown q: the class by its name, the cell, what was written, the world -/
def vx_T (XC : String → State → State → Prop) (st : State) (q : Addr) (t : State) (mc ms : Nat) (free : Addr → Prop) : Prop :=
  ∃ (E : String) (ce : Cell) (L : List Loc), XC E st t ∧ t.heap[q]? = some ce ∧ ce.vm = .none ∧ st.vm.findClass E = some ce.cls ∧ st.WarmedH t.vm ∧ st.sameButNew ({ t with vm := st.vm } : State) L mc ms ∧ ∀ z ∈ L, free z.base
def vx_Q (Qc : Array Value → State → Outcome → State → Prop) (XC : String → State → State → Prop) (mc ms : Nat) (free : Addr → Prop) : Array Value → State → Outcome → State → Prop := fun a st o t =>
  (Qc a st o t ∧ ∃ L, FrameEnd st o t L mc ms ∧ ∀ q ∈ L, free q.base) ∨ ∃ q, o = .threw q ∧ vx_T XC st q t mc ms free
/-- a callee that returns or throws -/
def vx_Met (l : Launch) (y : MethodName) (ws : List Cond) (rm : Room) (Pc : Array Value → State → Prop) (Qc : Array Value → State → Outcome → State → Prop) (XC : String → State → State → Prop) (mc ms : Nat) (free : Addr → Prop) : Prop :=
  MetFree l y (headSpec ws rm) Pc (fun _ _ _ _ _ => True) (vx_Q Qc XC mc ms free)
def vx_Post (XC : String → State → State → Prop) (mc ms : Nat) (free : Addr → Prop) : Pt → Array Value → Addr → Pt → Prop := fun A a q B =>
  ∃ (g : JFrame) (mk : MethodId) (t : State) (L : List Loc) (E : String) (ce : Cell), B.U.heap = t.heap ∧ B.U.vm = t.vm ∧ XC E (A.U.calling g mk a) t ∧ t.heap[q]? = some ce ∧ ce.vm = .none ∧ A.U.vm.findClass E = some ce.cls ∧ B.locs = A.locs ++ L ∧ (∀ z ∈ L, free z.base) ∧ B.cells = A.cells + mc ∧ B.slots = A.slots + ms
def vx_Back (l : Launch) (R : Room) (p : Program) (e : Env) (below : List Frame) (s : State) (sargs : Array Value) (y : MethodName) (len W9 : Nat)
    (Pre : Pt → Array Value → Prop) (Post : Pt → Array Value → Option Value → Pt → Prop) (PostX : Pt → Array Value → Addr → Pt → Prop) : Prop :=
  ∀ (m : MethodId) (meth : Method) (c : Code) (A : Pt) (g : JFrame) (ig : Instr) (mk : MethodId) (a : Array Value),
    Stand p l e R s m sargs below meth c A.U A.locs A.cells A.slots → g.method = m → g.locals.size = c.maxLocals → decode c.code g.pc = .ok (ig, len) →
    2 * g.monitorRoom + (g.stack.map fun v => v.category).sum ≤ W9 → A.U.methodNamed? y = some mk → Pre A a →
    (∃ (v : Option Value) (B : Pt), Stand p l e R s m sargs below meth c B.U B.locs B.cells B.slots ∧ Post A a v B ∧
      Steps p.tables e below (doInvoke e (A.U.setTop g) [] mk a).1 (B.U.setTop { g with pc := g.pc + len, stack := v.toList ++ g.stack })) ∨
    (∃ (q : Addr) (B : Pt), Stand p l e R s m sargs below meth c B.U B.locs B.cells B.slots ∧ PostX A a q B ∧
      Steps p.tables e below (doInvoke e (A.U.setTop g) [] mk a).1 ((B.U.setTop g).pushFrame (.throwing q)))
section Payer
variable {l : Launch} {R : Room} {p : Program} {e : Env} {below : List Frame} {s : State} {sargs : Array Value} {y : MethodName} {len W9 : Nat}
theorem vx_back {ws : List Cond} {rm : Room} {Pc : Array Value → State → Prop} {Qc : Array Value → State → Outcome → State → Prop} {XC : String → State → State → Prop} {mc ms : Nat} {free : Addr → Prop} {bytes : ByteArray} {maxL : Nat} {ret : Option FieldType}
    (hM : vx_Met l y ws rm Pc Qc XC mc ms free) (hblind : FrameBlind Pc) (hrc : rm.cells = mc) (hrs : rm.slots = ms)
    (hframes : rm.frames + 1 ≤ R.frames) (hlocals : W9 + (maxL + 11) + rm.locals ≤ R.locals)
    (hws : ∀ w ∈ ws, ∀ a' U, s.WarmedH U.vm → w.before a' U = true) (hcode : Cond.code y bytes maxL ret ∈ ws) (hinit : ∀ a' U, s.WarmedH U.vm → (Cond.initialized y.cls).before a' U = true) :
    vx_Back l R p e below s sargs y len W9 (PreOf R mc ms Pc) (PostOf Qc mc ms free) (vx_Post XC mc ms free) := by
  intro m meth c A g ig mk a X hg hsize hdg hW hn hp
  have h1 : (headSpec ws rm).pre.before a A.U = true := atoms_intro fun w hw => hws w hw _ _ X.warmed
  have h2 : (Cond.code y bytes maxL ret).before a A.U = true := hws _ hcode _ _ X.warmed
  have h3 : (Cond.initialized y.cls).before a A.U = true := hinit _ _ X.warmed
  have h4 : A.cells + (headSpec ws rm).room.cells ≤ R.cells := by rw [show (headSpec ws rm).room.cells = mc from hrc]; exact hp.1
  have h5 : A.slots + (headSpec ws rm).room.slots ≤ R.slots := by rw [show (headSpec ws rm).room.slots = ms from hrs]; exact hp.2.1
  have hPc : Pc a (A.U.calling g mk a) := hblind _ _ _ _ hp.2.2
  obtain ⟨U, Ls, c0, s0⟩ := A
  dsimp only [Pt.U, Pt.locs, Pt.cells, Pt.slots] at h1 h2 h3 h4 h5 X hn hPc ⊢
  obtain ⟨methY, cY, hmY, hcY, -, hlY, -, -, -, -⟩ := Cond.code_spec hn h2
  obtain ⟨kY, hkY, -⟩ := className_of_methodNamed hn
  have hinitY : kY.init = .initialized := Cond.initialized_spec (findClass_of_methodNamed hn) hkY h3
  have h : At U g.method c below := by rw [hg]; exact X.here
  have hlocals9 : W9 + (maxL + 11) + (headSpec ws rm).room.locals ≤ R.locals := hlocals
  have happ : (headSpec ws rm).appliesLoose y e.platform (U.calling g mk a) = true :=
    Spec.appliesLoose_calling (g := g) h hdg hn hkY hinitY
      (X.room_calling (g := g) (R' := (headSpec ws rm).room) hsize hmY hcY hframes (by rw [hlY]; omega) h4 h5) h1
  obtain ⟨mid, hmid⟩ := h.above
  have hfr : (U.setTop g).frames = (.java g :: mid) ++ below := by rw [State.frames_setTop' g h.top, hmid]; rfl
  obtain ⟨o, s₂, hsteps, -, hend, hq⟩ := Steps.callFree hM p X.admits X.cas X.clock (acts := []) hfr happ hPc trivial
  have hq' : vx_Q Qc XC mc ms free a (U.calling g mk a) o s₂ := hq
  rw [State.frames_setTop' g h.top] at hend
  obtain ⟨g₀, hg0⟩ := Option.isSome_iff_exists.mp h.top
  obtain ⟨r, hr⟩ := State.topJava?_eq_some.mp hg0
  have hr' : (({ U with heap := s₂.heap, slotsUsed := s₂.slotsUsed } : State).setVm s₂.vm).frames = .java g₀ :: r := hr
  rcases hq' with ⟨hqc, L, hfe, hL⟩ | ⟨q, rfl, E, ce, L, hx, hce, hcv, hcl, hW₂, hsm, hL⟩
  · obtain ⟨⟨v, rfl⟩, hW₂, e2, q2, q3, q4, q5, q6⟩ := id hfe
    have e3 : s₂ = ({ (U.calling g mk a).setFrames s₂.frames with heap := s₂.heap, slotsUsed := s₂.slotsUsed } : State).setVm s₂.vm := by
      have : s₂ = ({ s₂ with vm := (U.calling g mk a).vm } : State).setVm s₂.vm := rfl
      rw [e2] at this
      exact this
    obtain ⟨c₂, i₂, len₂, hc₂, hd₂, hf₂⟩ := hend
    have hW' : U.WarmedH s₂.vm := hW₂
    have hcc : c₂ = c := by
      have h1 : s₂.code? g.method = U.code? g.method := by
        rw [State.code?_eq, State.code?_eq, hW'.alike.method?]
      exact Option.some.inj (hc₂.symm.trans (h1.trans h.code))
    subst hcc
    have hlen : len₂ = len := by rw [hdg] at hd₂; cases hd₂; rfl
    subst hlen
    have hs₂ : s₂ = (({ U with heap := s₂.heap, slotsUsed := s₂.slotsUsed } : State).setVm s₂.vm).setTop { g with pc := g.pc + len₂, stack := v.toList ++ g.stack } := by
      refine e3.trans ?_
      rw [hf₂, State.calling_eq h.top, State.setFrames_setFrames, State.setTop_of_frames _ hr', hr]
      rfl
    have hsame : U.sameButNew ({ U with heap := s₂.heap, slotsUsed := s₂.slotsUsed } : State) L mc ms := by
      refine ⟨?_, q2, q3, q4, q5, q6⟩
      obtain ⟨t, ht, -⟩ := State.frames_cons hr
      show ({ U with heap := s₂.heap, slotsUsed := s₂.slotsUsed } : State) = { U.setFrames U.frames with heap := s₂.heap, slotsUsed := s₂.slotsUsed }
      rw [State.setFrames_self ht]
    subst hg
    refine Or.inl ⟨v, ⟨(({ U with heap := s₂.heap, slotsUsed := s₂.slotsUsed } : State).setVm s₂.vm), Ls ++ L, c0 + mc, s0 + ms⟩,
      ⟨X.admits, X.cas, X.clock, X.frames, X.room, X.hears, X.method, X.code, (X.here.setHeapUsed s₂.heap s₂.slotsUsed).setVm hW'.alike, X.tail, State.WarmedH.trans X.warmed hW', X.limits, X.bytes, X.same.trans (hsame.setVm s.vm)⟩,
      ⟨g, mk, s₂, L, rfl, rfl, hqc, rfl, hL, rfl, rfl⟩, ?_⟩
    show Steps p.tables e below _ ((({ U with heap := s₂.heap, slotsUsed := s₂.slotsUsed } : State).setVm s₂.vm).setTop { g with pc := g.pc + len₂, stack := v.toList ++ g.stack })
    rw [← hs₂]
    exact hsteps
  · obtain ⟨e2, q2, q3, q4, q5, q6⟩ := id hsm
    have e3 : s₂ = ({ (U.calling g mk a).setFrames s₂.frames with heap := s₂.heap, slotsUsed := s₂.slotsUsed } : State).setVm s₂.vm := by
      have : s₂ = ({ s₂ with vm := (U.calling g mk a).vm } : State).setVm s₂.vm := rfl
      rw [e2] at this
      exact this
    have hf₂ : s₂.frames = .throwing q :: .java g :: U.frames.tail := hend
    have hW' : U.WarmedH s₂.vm := hW₂
    have hs₂ : s₂ = ((({ U with heap := s₂.heap, slotsUsed := s₂.slotsUsed } : State).setVm s₂.vm).setTop g).pushFrame (.throwing q) := by
      refine e3.trans ?_
      rw [hf₂, State.calling_eq h.top, State.setFrames_setFrames, State.pushFrame, State.frames_setTop _ hr', State.setTop_of_frames _ hr', State.setFrames_setFrames, hr]
      rfl
    have hsame : U.sameButNew ({ U with heap := s₂.heap, slotsUsed := s₂.slotsUsed } : State) L mc ms := by
      refine ⟨?_, q2, q3, q4, q5, q6⟩
      obtain ⟨t, ht, -⟩ := State.frames_cons hr
      show ({ U with heap := s₂.heap, slotsUsed := s₂.slotsUsed } : State) = { U.setFrames U.frames with heap := s₂.heap, slotsUsed := s₂.slotsUsed }
      rw [State.setFrames_self ht]
    subst hg
    refine Or.inr ⟨q, ⟨(({ U with heap := s₂.heap, slotsUsed := s₂.slotsUsed } : State).setVm s₂.vm), Ls ++ L, c0 + mc, s0 + ms⟩,
      ⟨X.admits, X.cas, X.clock, X.frames, X.room, X.hears, X.method, X.code, (X.here.setHeapUsed s₂.heap s₂.slotsUsed).setVm hW'.alike, X.tail, State.WarmedH.trans X.warmed hW', X.limits, X.bytes, X.same.trans (hsame.setVm s.vm)⟩,
      ⟨g, mk, s₂, L, E, ce, rfl, rfl, hx, hce, hcv, hcl, rfl, hL, rfl, rfl⟩, ?_⟩
    show Steps p.tables e below _ (((({ U with heap := s₂.heap, slotsUsed := s₂.slotsUsed } : State).setVm s₂.vm).setTop g).pushFrame (.throwing q))
    rw [← hs₂]
    exact hsteps
end Payer
section Calls
variable {p : Program} {l : Launch} {e : Env} {R : Room} {s : State} {m : MethodId} {args : Array Value} {below : List Frame} {meth : Method} {c : Code} {T : State} {locs : List Loc} {cells slots : Nat}
theorem vx_callV (X : Stand p l e R s m args below meth c T locs cells slots) (hexec : p.tables.exec = Jvm.exec) {own C : String} {index : Nat} {y : MethodName} {bytes : ByteArray} {maxL : Nat} {ret : Option FieldType}
    (hown : s.vm.findClass own = some m.cls) (hlink : (Cond.methodLink own index y).before args s = true) (hinst : (Cond.instanceMethod y).before args s = true) (hsel : (Cond.selects C y y).before args s = true)
    (hcode : (Cond.code y bytes maxL ret).before args s = true) (hy : y.cls ≠ "java/lang/invoke/MethodHandle" ∧ y.cls ≠ "java/lang/invoke/VarHandle")
    {W9 : Nat} {Pre : Pt → Array Value → Prop} {Post : Pt → Array Value → Option Value → Pt → Prop} {PostX : Pt → Array Value → Addr → Pt → Prop} (hK : vx_Back l R p e below s args y 3 W9 Pre Post PostX)
    {b : Addr} {cellB : Cell} (hcell : T.heap[b]? = some cellB) (hobj : cellB.vm.isStatics = false) (hcls : s.vm.findClass C = some cellB.cls)
    {g : JFrame} (hg : g.method = m) (hsize : g.locals.size = c.maxLocals) {argsL rest : List Value} (hlen : ∀ sig, parseMethodDescriptor y.desc = some sig → argsL.length = sig.parameters.length)
    (hstack : g.stack = argsL.reverse ++ .ref b :: rest) (hW : 2 * g.monitorRoom + (rest.map fun v => v.category).sum ≤ W9) (hdg : decode c.code g.pc = .ok (.invokevirtual index, 3))
    (hpre : ∀ vm₁, s.WarmedH vm₁ → Pre ⟨T.setVm vm₁, locs, cells, slots⟩ (Value.ref b :: argsL).toArray) :
    (∃ (v : Option Value) (vm₁ : Vm) (B : Pt), s.WarmedH vm₁ ∧ Stand p l e R s m args below meth c B.U B.locs B.cells B.slots ∧ Post ⟨T.setVm vm₁, locs, cells, slots⟩ (Value.ref b :: argsL).toArray v B ∧
      ∀ target, Steps p.tables e below (B.U.setTop { g with pc := g.pc + 3, stack := v.toList ++ rest }) target → Steps p.tables e below (T.setTop g) target) ∨
    (∃ (q : Addr) (vm₁ : Vm) (B : Pt), s.WarmedH vm₁ ∧ Stand p l e R s m args below meth c B.U B.locs B.cells B.slots ∧ PostX ⟨T.setVm vm₁, locs, cells, slots⟩ (Value.ref b :: argsL).toArray q B ∧
      Steps p.tables e below (T.setTop g) ((B.U.setTop { g with stack := rest }).pushFrame (.throwing q))) := by
  obtain ⟨mk, methM, hnamed, hmethM, hstM, habM⟩ := Cond.instanceMethod_spec hinst
  obtain ⟨methM', cM, hmethM', -, -, -, -, -, -, hsigM⟩ := Cond.code_spec hnamed hcode
  cases hmethM.symm.trans hmethM'
  obtain ⟨c2, r2, m2, q1, q2, q3, q4, kP, hkP, hkPi⟩ := Cond.selects_spec hsel
  cases hcls.symm.trans q1
  cases (State.methodFound?_of_named hnamed hy).symm.trans q2
  cases hnamed.symm.trans q3
  have hselP : selectMethod e.platform s.vm cellB.cls mk = .method mk := by rw [Launch.admits_selectMethod X.admits]; exact q4
  obtain ⟨vm₁, X₁, hstep₁⟩ := X.invokevirtual hexec hown hlink hnamed hmethM hstM hkP hkPi hy (a := b) (cell := cellB) hcell
    (fun z h => by rw [h] at hobj; cases hobj) hselP hmethM habM hkP hkPi (g := g) hg (argsL := argsL) (rest := rest) (hlen _ hsigM) hstack hdg
  rcases hK m meth c ⟨T.setVm vm₁, locs, cells, slots⟩ { g with stack := rest } (.invokevirtual index) mk (Value.ref b :: argsL).toArray X₁ hg hsize hdg hW (X₁.named hnamed) (hpre vm₁ X₁.warmed) with ⟨v, B, X', hpost, hsteps⟩ | ⟨q, B, X', hpost, hsteps⟩
  · exact Or.inl ⟨v, vm₁, B, X₁.warmed, X', hpost, fun target h => hstep₁ _ fun acts => by rw [doInvoke_state]; exact hsteps.trans h⟩
  · exact Or.inr ⟨q, vm₁, B, X₁.warmed, X', hpost, hstep₁ _ fun acts => by rw [doInvoke_state]; exact hsteps⟩
theorem vx_callS (X : Stand p l e R s m args below meth c T locs cells slots) (hexec : p.tables.exec = Jvm.exec) {own : String} {index : Nat} {y : MethodName} {bytes : ByteArray} {maxL : Nat} {ret : Option FieldType}
    (hown : s.vm.findClass own = some m.cls) (hlink : (Cond.methodLink own index y).before args s = true) (hstat : (Cond.static y).before args s = true) (hinit : (Cond.initialized y.cls).before args s = true)
    (hcode : (Cond.code y bytes maxL ret).before args s = true) (hy : y.cls ≠ "java/lang/invoke/MethodHandle" ∧ y.cls ≠ "java/lang/invoke/VarHandle")
    {W9 : Nat} {Pre : Pt → Array Value → Prop} {Post : Pt → Array Value → Option Value → Pt → Prop} {PostX : Pt → Array Value → Addr → Pt → Prop} (hK : vx_Back l R p e below s args y 3 W9 Pre Post PostX)
    {g : JFrame} (hg : g.method = m) (hsize : g.locals.size = c.maxLocals) {argsL rest : List Value} (hlen : ∀ sig, parseMethodDescriptor y.desc = some sig → argsL.length = sig.parameters.length)
    (hstack : g.stack = argsL.reverse ++ rest) (hW : 2 * g.monitorRoom + (rest.map fun v => v.category).sum ≤ W9) (hdg : decode c.code g.pc = .ok (.invokestatic index, 3))
    (hpre : ∀ vm₁, s.WarmedH vm₁ → Pre ⟨T.setVm vm₁, locs, cells, slots⟩ argsL.toArray) :
    (∃ (v : Option Value) (vm₁ : Vm) (B : Pt), s.WarmedH vm₁ ∧ Stand p l e R s m args below meth c B.U B.locs B.cells B.slots ∧ Post ⟨T.setVm vm₁, locs, cells, slots⟩ argsL.toArray v B ∧
      ∀ target, Steps p.tables e below (B.U.setTop { g with pc := g.pc + 3, stack := v.toList ++ rest }) target → Steps p.tables e below (T.setTop g) target) ∨
    (∃ (q : Addr) (vm₁ : Vm) (B : Pt), s.WarmedH vm₁ ∧ Stand p l e R s m args below meth c B.U B.locs B.cells B.slots ∧ PostX ⟨T.setVm vm₁, locs, cells, slots⟩ argsL.toArray q B ∧
      Steps p.tables e below (T.setTop g) ((B.U.setTop { g with stack := rest }).pushFrame (.throwing q))) := by
  obtain ⟨mk, hnamed⟩ := Cond.code_named hcode
  obtain ⟨methM, cM, hmethM, -, -, -, -, -, -, hsigM⟩ := Cond.code_spec hnamed hcode
  have hstatic : methM.isStatic = true := Cond.static_spec hnamed hmethM hstat
  obtain ⟨kP, hkP, -⟩ := className_of_methodNamed hnamed
  have hinitP : kP.init = .initialized := Cond.initialized_spec (findClass_of_methodNamed hnamed) hkP hinit
  obtain ⟨vm₁, X₁, hstep₁⟩ := X.invokestatic hexec hown hlink hnamed hmethM hstatic hkP hinitP hy (g := g) hg (argsL := argsL) (rest := rest) (hlen _ hsigM) hstack hdg
  rcases hK m meth c ⟨T.setVm vm₁, locs, cells, slots⟩ { g with stack := rest } (.invokestatic index) mk argsL.toArray X₁ hg hsize hdg hW (X₁.named hnamed) (hpre vm₁ X₁.warmed) with ⟨v, B, X', hpost, hsteps⟩ | ⟨q, B, X', hpost, hsteps⟩
  · exact Or.inl ⟨v, vm₁, B, X₁.warmed, X', hpost, fun target h => hstep₁ _ fun acts => by rw [doInvoke_state]; exact hsteps.trans h⟩
  · exact Or.inr ⟨q, vm₁, B, X₁.warmed, X', hpost, hstep₁ _ fun acts => by rw [doInvoke_state]; exact hsteps⟩
end Calls
theorem vx_cls {s : State} {T : State} {vm₁ : Vm} {E : String} {k : ClassId} (hW : s.WarmedH vm₁) (h : (T.setVm vm₁).vm.findClass E = some k) : s.vm.findClass E = some k := by
  have h1 : vm₁.findClass E = some k := h
  rw [hW.alike.findClass] at h1
  exact h1
/-- the method's frame g, with q thrown over it -/
def vx_W (p : Program) (l : Launch) (e : Env) (R : Room) (s : State) (m : MethodId) (args : Array Value) (below : List Frame) (meth : Method) (c : Code) (H : Heap) (locs : List Loc) (cells slots : Nat) (Q : State → Prop) (g : JFrame) (q : Addr) : Prop :=
  ∀ T : State, T.heap = H → Stand p l e R s m args below meth c T locs cells slots → ∃ t, Steps p.tables e below ((T.setTop g).pushFrame (.throwing q)) t ∧ Q t
def vx_Run (p : Program) (l : Launch) (e : Env) (R : Room) (s : State) (m : MethodId) (args : Array Value) (below : List Frame) (meth : Method) (c : Code) (H : Heap) (locs : List Loc) (cells slots mc ms : Nat) (g : JFrame) (rest : List Value) (Qa : State → Outcome → State → Prop) (XC : String → State → State → Prop) (free : Addr → Prop) : Prop :=
  ∀ T : State, T.heap = H → Stand p l e R s m args below meth c T locs cells slots →
    (∃ (v : Option Value) (st₀ t T' : State) (L : List Loc), st₀.heap = H ∧ Stand p l e R s m args below meth c T' (locs ++ L) (cells + mc) (slots + ms) ∧ (∀ q ∈ L, free q.base) ∧ T'.heap = t.heap ∧ T'.vm = t.vm ∧ Qa st₀ (.returned v) t ∧
      Goes p e below T g T' { g with pc := g.pc + 3, stack := v.toList ++ rest }) ∨
    (∃ (q : Addr) (st₀ t T' : State) (L : List Loc) (E : String) (ce : Cell), st₀.heap = H ∧ Stand p l e R s m args below meth c T' (locs ++ L) (cells + mc) (slots + ms) ∧ (∀ z ∈ L, free z.base) ∧ T'.heap = t.heap ∧ T'.vm = t.vm ∧ XC E st₀ t ∧ t.heap[q]? = some ce ∧ ce.vm = .none ∧ s.vm.findClass E = some ce.cls ∧
      Steps p.tables e below (T.setTop g) ((T'.setTop { g with stack := rest }).pushFrame (.throwing q)))
def vx_X {S : Type} (px : S → Prop) (B : String → S → State → Prop) (A : Nat → Prop) : String → State → State → Prop := fun E st t => ∃ u : S, px u ∧ B E u t ∧ va_F A st t
section Runs
variable {p : Program} {l : Launch} {e : Env} {R : Room} {s : State} {m : MethodId} {args : Array Value} {below : List Frame} {meth : Method} {c : Code} {H : Heap} {locs : List Loc} {cells slots : Nat}
variable {y : MethodName} {bytes cc : ByteArray} {maxL nL mc ms n index : Nat} {ret : Option FieldType} {ws : List Cond} {rm : Room} {Pc : Array Value → State → Prop} {Qc : Array Value → State → Outcome → State → Prop} {XC : String → State → State → Prop} {free : Addr → Prop} {Ts : List Cond} {own C : String} {b : Addr} {As rest : List Value} {g : JFrame}
theorem vx_callBack (cb : CallB R s args own index y bytes maxL ret ws rm mc ms n) (hM : vx_Met l y ws rm Pc Qc XC mc ms free) (hbl : FrameBlind Pc) : vx_Back l R p e below s args y 3 8 (PreOf R mc ms Pc) (PostOf Qc mc ms free) (vx_Post XC mc ms free) := by
  obtain ⟨hrc, hrs, hfr, hlo, hws, hcw, -, hini, -⟩ := cb
  exact vx_back (bytes := bytes) (maxL := maxL) (ret := ret) hM hbl hrc hrs hfr hlo hws hcw (fun a' U hW => word_at hW (Or.inl (by first | rfl | simp [Cond.onTables, Cond.keeps, Cond.steady])) hini)
theorem vx_runV (S : CallFix p m c cc nL s args Ts own) (hM : vx_Met l y ws rm Pc Qc XC mc ms free) (cw : CallW R s args own C index y bytes maxL ret ws rm mc ms n) (hp : PreV s H C b Pc As)
    (hg : g.method = m) (hn : As.length = n) (hsize : g.locals.size = nL) (hstack : g.stack = As.reverse ++ .ref b :: rest) (hW : 2 * g.monitorRoom + (rest.map fun v => v.category).sum ≤ 8) (hdg : decode cc g.pc = .ok (.invokevirtual index, 3)) (hf : cells + mc ≤ R.cells ∧ slots + ms ≤ R.slots) :
    vx_Run p l e R s m args below meth c H locs cells slots mc ms g rest (Qc (Value.ref b :: As).toArray) XC free := by
  have hK : vx_Back l R p e below s args y 3 8 (PreOf R mc ms Pc) (PostOf Qc mc ms free) (vx_Post XC mc ms free) := vx_callBack cw.1 hM hp.1
  obtain ⟨⟨-, -, -, -, -, -, hcode, -, hy, hlen, hl⟩, hin, hse⟩ := cw
  obtain ⟨hx, hb, hml, ho, -⟩ := S
  obtain ⟨-, ⟨cellB, hcB, hoB, hclB⟩, hPc⟩ := hp
  intro T hT X
  rcases vx_callV X hx (C := C) (bytes := bytes) (maxL := maxL) (ret := ret) ho hl hin hse hcode hy hK (by rw [hT]; exact hcB) hoB hclB hg (hsize.trans hml.symm) (argsL := As) (rest := rest) (fun sig h => hn.trans (hlen sig h)) hstack hW (by rw [hb]; exact hdg)
    (fun vm₁ hW₁ => ⟨hf.1, hf.2, hPc (T.setVm vm₁) hT hW₁⟩) with ⟨v, vm₁, ⟨U', l2, c2, s2⟩, hW₁, X', ⟨g', mk, t, L, e1, e2, hq, h1, hL, h2, h3⟩, st⟩ | ⟨q, vm₁, ⟨U', l2, c2, s2⟩, hW₁, X', ⟨g', mk, t, L, E, ce, e1, e2, hq, hce, hcv, hcl, h1, hL, h2, h3⟩, st⟩
  · dsimp only [Pt.U, Pt.locs, Pt.cells, Pt.slots] at X' e1 e2 h1 h2 h3 st
    subst h1; subst h2; subst h3
    exact Or.inl ⟨v, (T.setVm vm₁).calling g' mk (Value.ref b :: As).toArray, t, U', L, hT, X', hL, e1, e2, hq, st⟩
  · dsimp only [Pt.U, Pt.locs, Pt.cells, Pt.slots] at X' e1 e2 h1 h2 h3 st hcl
    subst h1; subst h2; subst h3
    exact Or.inr ⟨q, (T.setVm vm₁).calling g' mk (Value.ref b :: As).toArray, t, U', L, E, ce, hT, X', hL, e1, e2, hq, hce, hcv, vx_cls hW₁ hcl, st⟩
theorem vx_runS (S : CallFix p m c cc nL s args Ts own) (hM : vx_Met l y ws rm Pc Qc XC mc ms free) (cw : CallB R s args own index y bytes maxL ret ws rm mc ms n ∧ (Cond.static y).before args s = true) (hp : PreS s H Pc As)
    (hg : g.method = m) (hn : As.length = n) (hsize : g.locals.size = nL) (hstack : g.stack = As.reverse ++ rest) (hW : 2 * g.monitorRoom + (rest.map fun v => v.category).sum ≤ 8) (hdg : decode cc g.pc = .ok (.invokestatic index, 3)) (hf : cells + mc ≤ R.cells ∧ slots + ms ≤ R.slots) :
    vx_Run p l e R s m args below meth c H locs cells slots mc ms g rest (Qc As.toArray) XC free := by
  have hK : vx_Back l R p e below s args y 3 8 (PreOf R mc ms Pc) (PostOf Qc mc ms free) (vx_Post XC mc ms free) := vx_callBack cw.1 hM hp.1
  obtain ⟨⟨-, -, -, -, -, -, hcode, hini, hy, hlen, hl⟩, hstt⟩ := cw
  obtain ⟨hx, hb, hml, ho, -⟩ := S
  intro T hT X
  rcases vx_callS X hx (bytes := bytes) (maxL := maxL) (ret := ret) ho hl hstt hini hcode hy hK hg (hsize.trans hml.symm) (argsL := As) (rest := rest) (fun sig h => hn.trans (hlen sig h)) hstack hW (by rw [hb]; exact hdg)
    (fun vm₁ hW₁ => ⟨hf.1, hf.2, hp.2 (T.setVm vm₁) hT hW₁⟩) with ⟨v, vm₁, ⟨U', l2, c2, s2⟩, hW₁, X', ⟨g', mk, t, L, e1, e2, hq, h1, hL, h2, h3⟩, st⟩ | ⟨q, vm₁, ⟨U', l2, c2, s2⟩, hW₁, X', ⟨g', mk, t, L, E, ce, e1, e2, hq, hce, hcv, hcl, h1, hL, h2, h3⟩, st⟩
  · dsimp only [Pt.U, Pt.locs, Pt.cells, Pt.slots] at X' e1 e2 h1 h2 h3 st
    subst h1; subst h2; subst h3
    exact Or.inl ⟨v, (T.setVm vm₁).calling g' mk As.toArray, t, U', L, hT, X', hL, e1, e2, hq, st⟩
  · dsimp only [Pt.U, Pt.locs, Pt.cells, Pt.slots] at X' e1 e2 h1 h2 h3 st hcl
    subst h1; subst h2; subst h3
    exact Or.inr ⟨q, (T.setVm vm₁).calling g' mk As.toArray, t, U', L, E, ce, hT, X', hL, e1, e2, hq, hce, hcv, vx_cls hW₁ hcl, st⟩
end Runs
section Rows
variable {p : Program} {l : Launch} {e : Env} {R : Room} {s : State} {m : MethodId} {args : Array Value} {below : List Frame} {meth : Method} {c : Code} {H : Heap} {locs : List Loc} {cells slots : Nat} {Q : State → Prop}
variable {mc ms : Nat} {free : Addr → Prop} {A0 A1 : Nat → Prop} {H0 : Heap} {a : Array Value} {pc : Nat} {ls : Array Slot} {st0 rest : List Value}
theorem vx_keep {st₀ t T' : State} {L : List Loc} (h0 : st₀.heap = H) (e1 : T'.heap = t.heap) (hS : va_S A0 H0 H locs) (hA : ∀ q, q < H.size → A1 q → A0 q) (hf : ∀ q, free q → A0 q) (hL : ∀ q ∈ L, free q.base) (hF : va_F A1 st₀ t) :
    H.size ≤ T'.heap.size ∧ (∀ q : Nat, q < H.size → ¬ A1 q → T'.heap[q]? = H[q]?) ∧ va_S A0 H0 T'.heap (locs ++ L) := by
  obtain ⟨hz, hk⟩ := hF
  rw [h0] at hz hk
  exact ⟨by rw [e1]; exact hz, fun q h1 h2 => by rw [e1]; exact hk q h1 h2,
    ⟨Nat.le_trans hS.1 (by rw [e1]; exact hz), fun q h1 h2 => by rw [e1, hk q (Nat.lt_of_lt_of_le h1 hS.1) (fun z => h2 (hA q (Nat.lt_of_lt_of_le h1 hS.1) z))]; exact hS.2.1 q h1 h2, fun q hq => by
      rcases List.mem_append.mp hq with h | h
      · exact hS.2.2 q h
      · exact hf _ (hL q h)⟩⟩
theorem vx_calli {S SX : Type} {post : Int32 → S → Prop} {px : SX → Prop} {B : S → State → Prop} {BX : String → SX → State → Prop} {AX : Nat → Prop} (hr : vx_Run p l e R s m args below meth c H locs cells slots mc ms (F0 m pc ls st0) rest (va_Qi post B A1 a) (vx_X px BX AX) free) (hS : va_S A0 H0 H locs) (hA : ∀ q, q < H.size → A1 q → A0 q) (hf : ∀ q, free q → A0 q) (hAX : ∀ q, q < H.size → AX q → A0 q)
    (kx : ∀ (E : String) (ce : Cell) (q9 : Addr) (u : SX) (t : State) (H1 : Heap) (locs1 : List Loc), t.heap = H1 → s.vm.Alike t.vm → px u → BX E u t → H.size ≤ H1.size → (∀ q : Nat, q < H.size → ¬ AX q → H1[q]? = H[q]?) → va_S A0 H0 H1 locs1 → H1[q9]? = some ce → ce.vm = .none → s.vm.findClass E = some ce.cls → vx_W p l e R s m args below meth c H1 locs1 (cells + mc) (slots + ms) Q (F0 m pc ls rest) q9)
    (kk : ∀ (r : Int32) (u : S) (t : State) (H1 : Heap) (locs1 : List Loc), t.heap = H1 → s.vm.Alike t.vm → post r u → B u t → H.size ≤ H1.size → (∀ q : Nat, q < H.size → ¬ A1 q → H1[q]? = H[q]?) → va_S A0 H0 H1 locs1 → W p l e R s m args below meth c H1 locs1 (cells + mc) (slots + ms) Q (F0 m (pc + 3) ls (.int r :: rest))) : W p l e R s m args below meth c H locs cells slots Q (F0 m pc ls st0) := by
  intro T hT X
  rcases hr T hT X with ⟨v, st₀, t, T', L, h0, X', hL, e1, e2, ⟨⟨r, u, hv, hp, hb⟩, hF⟩, st⟩ | ⟨q, st₀, t, T', L, E, ce, h0, X', hL, e1, e2, ⟨u, hp, hb, hF⟩, hce, hcv, hcl, st⟩
  · cases hv
    obtain ⟨k1, k2, k3⟩ := vx_keep h0 e1 hS hA hf hL hF
    obtain ⟨t2, a1, b1⟩ := kk r u t T'.heap (locs ++ L) e1.symm (by rw [← e2]; exact X'.warmed.alike) hp hb k1 k2 k3 T' rfl X'
    exact ⟨t2, st t2 a1, b1⟩
  · obtain ⟨k1, k2, k3⟩ := vx_keep h0 e1 hS hAX hf hL hF
    obtain ⟨t2, a1, b1⟩ := kx E ce q u t T'.heap (locs ++ L) e1.symm (by rw [← e2]; exact X'.warmed.alike) hp hb k1 k2 k3 (by rw [e1]; exact hce) hcv hcl T' rfl X'
    exact ⟨t2, st.trans a1, b1⟩
theorem vx_calll {S SX : Type} {post : Int64 → S → Prop} {px : SX → Prop} {B : S → State → Prop} {BX : String → SX → State → Prop} {AX : Nat → Prop} (hr : vx_Run p l e R s m args below meth c H locs cells slots mc ms (F0 m pc ls st0) rest (va_Ql post B A1 a) (vx_X px BX AX) free) (hS : va_S A0 H0 H locs) (hA : ∀ q, q < H.size → A1 q → A0 q) (hf : ∀ q, free q → A0 q) (hAX : ∀ q, q < H.size → AX q → A0 q)
    (kx : ∀ (E : String) (ce : Cell) (q9 : Addr) (u : SX) (t : State) (H1 : Heap) (locs1 : List Loc), t.heap = H1 → s.vm.Alike t.vm → px u → BX E u t → H.size ≤ H1.size → (∀ q : Nat, q < H.size → ¬ AX q → H1[q]? = H[q]?) → va_S A0 H0 H1 locs1 → H1[q9]? = some ce → ce.vm = .none → s.vm.findClass E = some ce.cls → vx_W p l e R s m args below meth c H1 locs1 (cells + mc) (slots + ms) Q (F0 m pc ls rest) q9)
    (kk : ∀ (r : Int64) (u : S) (t : State) (H1 : Heap) (locs1 : List Loc), t.heap = H1 → s.vm.Alike t.vm → post r u → B u t → H.size ≤ H1.size → (∀ q : Nat, q < H.size → ¬ A1 q → H1[q]? = H[q]?) → va_S A0 H0 H1 locs1 → W p l e R s m args below meth c H1 locs1 (cells + mc) (slots + ms) Q (F0 m (pc + 3) ls (.long r :: rest))) : W p l e R s m args below meth c H locs cells slots Q (F0 m pc ls st0) := by
  intro T hT X
  rcases hr T hT X with ⟨v, st₀, t, T', L, h0, X', hL, e1, e2, ⟨⟨r, u, hv, hp, hb⟩, hF⟩, st⟩ | ⟨q, st₀, t, T', L, E, ce, h0, X', hL, e1, e2, ⟨u, hp, hb, hF⟩, hce, hcv, hcl, st⟩
  · cases hv
    obtain ⟨k1, k2, k3⟩ := vx_keep h0 e1 hS hA hf hL hF
    obtain ⟨t2, a1, b1⟩ := kk r u t T'.heap (locs ++ L) e1.symm (by rw [← e2]; exact X'.warmed.alike) hp hb k1 k2 k3 T' rfl X'
    exact ⟨t2, st t2 a1, b1⟩
  · obtain ⟨k1, k2, k3⟩ := vx_keep h0 e1 hS hAX hf hL hF
    obtain ⟨t2, a1, b1⟩ := kx E ce q u t T'.heap (locs ++ L) e1.symm (by rw [← e2]; exact X'.warmed.alike) hp hb k1 k2 k3 (by rw [e1]; exact hce) hcv hcl T' rfl X'
    exact ⟨t2, st.trans a1, b1⟩
theorem vx_callf {S SX : Type} {post : UInt32 → S → Prop} {px : SX → Prop} {B : S → State → Prop} {BX : String → SX → State → Prop} {AX : Nat → Prop} (hr : vx_Run p l e R s m args below meth c H locs cells slots mc ms (F0 m pc ls st0) rest (va_Qf post B A1 a) (vx_X px BX AX) free) (hS : va_S A0 H0 H locs) (hA : ∀ q, q < H.size → A1 q → A0 q) (hf : ∀ q, free q → A0 q) (hAX : ∀ q, q < H.size → AX q → A0 q)
    (kx : ∀ (E : String) (ce : Cell) (q9 : Addr) (u : SX) (t : State) (H1 : Heap) (locs1 : List Loc), t.heap = H1 → s.vm.Alike t.vm → px u → BX E u t → H.size ≤ H1.size → (∀ q : Nat, q < H.size → ¬ AX q → H1[q]? = H[q]?) → va_S A0 H0 H1 locs1 → H1[q9]? = some ce → ce.vm = .none → s.vm.findClass E = some ce.cls → vx_W p l e R s m args below meth c H1 locs1 (cells + mc) (slots + ms) Q (F0 m pc ls rest) q9)
    (kk : ∀ (r : UInt32) (u : S) (t : State) (H1 : Heap) (locs1 : List Loc), t.heap = H1 → s.vm.Alike t.vm → post r u → B u t → H.size ≤ H1.size → (∀ q : Nat, q < H.size → ¬ A1 q → H1[q]? = H[q]?) → va_S A0 H0 H1 locs1 → W p l e R s m args below meth c H1 locs1 (cells + mc) (slots + ms) Q (F0 m (pc + 3) ls (.float r :: rest))) : W p l e R s m args below meth c H locs cells slots Q (F0 m pc ls st0) := by
  intro T hT X
  rcases hr T hT X with ⟨v, st₀, t, T', L, h0, X', hL, e1, e2, ⟨⟨r, u, hv, hp, hb⟩, hF⟩, st⟩ | ⟨q, st₀, t, T', L, E, ce, h0, X', hL, e1, e2, ⟨u, hp, hb, hF⟩, hce, hcv, hcl, st⟩
  · cases hv
    obtain ⟨k1, k2, k3⟩ := vx_keep h0 e1 hS hA hf hL hF
    obtain ⟨t2, a1, b1⟩ := kk r u t T'.heap (locs ++ L) e1.symm (by rw [← e2]; exact X'.warmed.alike) hp hb k1 k2 k3 T' rfl X'
    exact ⟨t2, st t2 a1, b1⟩
  · obtain ⟨k1, k2, k3⟩ := vx_keep h0 e1 hS hAX hf hL hF
    obtain ⟨t2, a1, b1⟩ := kx E ce q u t T'.heap (locs ++ L) e1.symm (by rw [← e2]; exact X'.warmed.alike) hp hb k1 k2 k3 (by rw [e1]; exact hce) hcv hcl T' rfl X'
    exact ⟨t2, st.trans a1, b1⟩
theorem vx_calld {S SX : Type} {post : UInt64 → S → Prop} {px : SX → Prop} {B : S → State → Prop} {BX : String → SX → State → Prop} {AX : Nat → Prop} (hr : vx_Run p l e R s m args below meth c H locs cells slots mc ms (F0 m pc ls st0) rest (va_Qd post B A1 a) (vx_X px BX AX) free) (hS : va_S A0 H0 H locs) (hA : ∀ q, q < H.size → A1 q → A0 q) (hf : ∀ q, free q → A0 q) (hAX : ∀ q, q < H.size → AX q → A0 q)
    (kx : ∀ (E : String) (ce : Cell) (q9 : Addr) (u : SX) (t : State) (H1 : Heap) (locs1 : List Loc), t.heap = H1 → s.vm.Alike t.vm → px u → BX E u t → H.size ≤ H1.size → (∀ q : Nat, q < H.size → ¬ AX q → H1[q]? = H[q]?) → va_S A0 H0 H1 locs1 → H1[q9]? = some ce → ce.vm = .none → s.vm.findClass E = some ce.cls → vx_W p l e R s m args below meth c H1 locs1 (cells + mc) (slots + ms) Q (F0 m pc ls rest) q9)
    (kk : ∀ (r : UInt64) (u : S) (t : State) (H1 : Heap) (locs1 : List Loc), t.heap = H1 → s.vm.Alike t.vm → post r u → B u t → H.size ≤ H1.size → (∀ q : Nat, q < H.size → ¬ A1 q → H1[q]? = H[q]?) → va_S A0 H0 H1 locs1 → W p l e R s m args below meth c H1 locs1 (cells + mc) (slots + ms) Q (F0 m (pc + 3) ls (.double r :: rest))) : W p l e R s m args below meth c H locs cells slots Q (F0 m pc ls st0) := by
  intro T hT X
  rcases hr T hT X with ⟨v, st₀, t, T', L, h0, X', hL, e1, e2, ⟨⟨r, u, hv, hp, hb⟩, hF⟩, st⟩ | ⟨q, st₀, t, T', L, E, ce, h0, X', hL, e1, e2, ⟨u, hp, hb, hF⟩, hce, hcv, hcl, st⟩
  · cases hv
    obtain ⟨k1, k2, k3⟩ := vx_keep h0 e1 hS hA hf hL hF
    obtain ⟨t2, a1, b1⟩ := kk r u t T'.heap (locs ++ L) e1.symm (by rw [← e2]; exact X'.warmed.alike) hp hb k1 k2 k3 T' rfl X'
    exact ⟨t2, st t2 a1, b1⟩
  · obtain ⟨k1, k2, k3⟩ := vx_keep h0 e1 hS hAX hf hL hF
    obtain ⟨t2, a1, b1⟩ := kx E ce q u t T'.heap (locs ++ L) e1.symm (by rw [← e2]; exact X'.warmed.alike) hp hb k1 k2 k3 (by rw [e1]; exact hce) hcv hcl T' rfl X'
    exact ⟨t2, st.trans a1, b1⟩
theorem vx_callv {S SX : Type} {post : S → Prop} {px : SX → Prop} {B : S → State → Prop} {BX : String → SX → State → Prop} {AX : Nat → Prop} (hr : vx_Run p l e R s m args below meth c H locs cells slots mc ms (F0 m pc ls st0) rest (va_Qv post B A1 a) (vx_X px BX AX) free) (hS : va_S A0 H0 H locs) (hA : ∀ q, q < H.size → A1 q → A0 q) (hf : ∀ q, free q → A0 q) (hAX : ∀ q, q < H.size → AX q → A0 q)
    (kx : ∀ (E : String) (ce : Cell) (q9 : Addr) (u : SX) (t : State) (H1 : Heap) (locs1 : List Loc), t.heap = H1 → s.vm.Alike t.vm → px u → BX E u t → H.size ≤ H1.size → (∀ q : Nat, q < H.size → ¬ AX q → H1[q]? = H[q]?) → va_S A0 H0 H1 locs1 → H1[q9]? = some ce → ce.vm = .none → s.vm.findClass E = some ce.cls → vx_W p l e R s m args below meth c H1 locs1 (cells + mc) (slots + ms) Q (F0 m pc ls rest) q9)
    (kk : ∀ (u : S) (t : State) (H1 : Heap) (locs1 : List Loc), t.heap = H1 → s.vm.Alike t.vm → post u → B u t → H.size ≤ H1.size → (∀ q : Nat, q < H.size → ¬ A1 q → H1[q]? = H[q]?) → va_S A0 H0 H1 locs1 → W p l e R s m args below meth c H1 locs1 (cells + mc) (slots + ms) Q (F0 m (pc + 3) ls (rest))) : W p l e R s m args below meth c H locs cells slots Q (F0 m pc ls st0) := by
  intro T hT X
  rcases hr T hT X with ⟨v, st₀, t, T', L, h0, X', hL, e1, e2, ⟨⟨u, hv, hp, hb⟩, hF⟩, st⟩ | ⟨q, st₀, t, T', L, E, ce, h0, X', hL, e1, e2, ⟨u, hp, hb, hF⟩, hce, hcv, hcl, st⟩
  · cases hv
    obtain ⟨k1, k2, k3⟩ := vx_keep h0 e1 hS hA hf hL hF
    obtain ⟨t2, a1, b1⟩ := kk u t T'.heap (locs ++ L) e1.symm (by rw [← e2]; exact X'.warmed.alike) hp hb k1 k2 k3 T' rfl X'
    exact ⟨t2, st t2 a1, b1⟩
  · obtain ⟨k1, k2, k3⟩ := vx_keep h0 e1 hS hAX hf hL hF
    obtain ⟨t2, a1, b1⟩ := kx E ce q u t T'.heap (locs ++ L) e1.symm (by rw [← e2]; exact X'.warmed.alike) hp hb k1 k2 k3 (by rw [e1]; exact hce) hcv hcl T' rfl X'
    exact ⟨t2, st.trans a1, b1⟩
/-- caught by the row x of this method's table; the rows ahead don't take it -/
theorem vx_catch {own name : String} {E : String} {ce : Cell} {q : Addr} (hown : s.vm.findClass own = some m.cls) (pre : List ExceptionTableEntry) (x : ExceptionTableEntry) (suf : List ExceptionTableEntry) (hsplit : c.exceptionTable.toList = pre ++ x :: suf)
    (hpass : ∀ z ∈ pre, covers z pc = false ∨ (z.catchType ≠ 0 ∧ ∃ nm : String, (Cond.classLink own z.catchType nm).before args s = true ∧ va_Nc E nm s)) (hx : covers x pc = true) (h0 : x.catchType ≠ 0)
    (hlink : (Cond.classLink own x.catchType name).before args s = true) (hcast : (Cond.castable E name).before args s = true) (hcell : H[q]? = some ce) (hv : ce.vm = .none) (hcl : s.vm.findClass E = some ce.cls)
    (kk : W p l e R s m args below meth c H locs cells slots Q (F0 m x.handlerPc ls [.ref q])) : vx_W p l e R s m args below meth c H locs cells slots Q (F0 m pc ls rest) q := by
  intro T hT X
  have hpl : e.platform.magicAccessors = ({} : Platform).magicAccessors := by rw [X.admits.platform]
  obtain ⟨c3, c4, hc3, hc4, hasg⟩ := Cond.castable_spec hcast
  cases Option.some.inj (hc3.symm.trans hcl)
  obtain ⟨c5, hc5, hcl5⟩ := Cond.classLink_spec hown hlink e.platform hpl
  cases Option.some.inj (hc4.symm.trans hc5)
  obtain ⟨vm', X', st⟩ := X.thenCaughtThrough q (g := F0 m pc ls rest) rfl (Steps.refl _) (by rw [hT]; exact hcell) (by rw [hv]; rfl) (by obtain ⟨k9, h9, -⟩ := Vm.findClass_spec hcl; exact ⟨k9, h9⟩) pre x suf hsplit
    (fun z hz => by
      rcases hpass z hz with h | ⟨hz0, nm, hl1, hn1⟩
      · exact Or.inl h
      · obtain ⟨c6, hc6, hcl6⟩ := Cond.classLink_spec hown hl1 e.platform hpl
        obtain ⟨a8, b8, h1, h2, h3⟩ := hn1
        cases Option.some.inj (h1.symm.trans hcl)
        cases Option.some.inj (h2.symm.trans hc6)
        exact Or.inr ⟨hz0, _, hcl6, h3⟩) hx (Or.inr ⟨h0, c4, hcl5, hasg⟩)
  obtain ⟨t, a1, b1⟩ := kk (T.setVm vm') hT X'
  exact ⟨t, st.trans a1, b1⟩
end Rows
section Ends
variable {p : Program} {l : Launch} {e : Env} {R : Room} {s : State} {m : MethodId} {args : Array Value} {below : List Frame} {meth : Method} {c : Code} {H : Heap} {locs : List Loc} {cells slots : Nat} {Q : State → Prop}
variable {mc ms : Nat} {free : Addr → Prop} {A0 A1 : Nat → Prop} {H0 : Heap} {a : Array Value} {ls : Array Slot} {st0 rest : List Value}
variable {Qc : Array Value → State → Outcome → State → Prop} {XC : String → State → State → Prop}
/-- what a body that may throw owes at its end -/
def vx_MQ (below : List Frame) (Qc : Array Value → State → Outcome → State → Prop) (XC : String → State → State → Prop) (a : Array Value) (s : State) (mc ms : Nat) (free : Addr → Prop) : State → Prop := fun t =>
  ∃ o, t.status = .running ∧ Ended t below o ∧ vx_Q Qc XC mc ms free a s o t
theorem vx_ret {g : JFrame} {mc ms : Nat} (k : W p l e R s m args below meth c H locs cells slots (MQ below Qc args s mc ms free) g) : W p l e R s m args below meth c H locs cells slots (vx_MQ below Qc XC args s mc ms free) g := by
  intro T hT X
  obtain ⟨t, a1, o, b1, b2, b3, b4⟩ := k T hT X
  exact ⟨t, a1, o, b1, b2, Or.inl ⟨b3, b4⟩⟩
/-- not caught here: it goes on to the caller -/
theorem vx_widen {g : JFrame} {q : Addr} {k n : Nat} (h1 : cells ≤ k) (h2 : slots ≤ n) (kk : vx_W p l e R s m args below meth c H locs k n Q g q) : vx_W p l e R s m args below meth c H locs cells slots Q g q := fun T hT X => kk T hT (stand_widen X h1 h2)
theorem vx_out {pc : Nat} {E : String} {ce : Cell} {q : Addr} {mc ms : Nat} (hout : ∀ x ∈ c.exceptionTable.toList, covers x pc = false) (hlocks : meth.locks = false) (hcell : H[q]? = some ce) (hv : ce.vm = .none) (hcl : s.vm.findClass E = some ce.cls)
    (hx : ∀ t : State, t.heap = H → s.vm.Alike t.vm → XC E s t) (hf : ∀ z ∈ locs, free z.base) (hc : cells ≤ mc) (hs : slots ≤ ms) :
    vx_W p l e R s m args below meth c H locs cells slots (vx_MQ below Qc XC args s mc ms free) (F0 m pc ls rest) q := by
  intro T hT X
  obtain ⟨st1, hrun, hend, hW, hsm⟩ := X.leaveThrown q (g := F0 m pc ls rest) rfl rfl rfl hout hlocks
  have hcell9 : (T.setFrames (.throwing q :: below)).heap[q]? = some ce := by
    show T.heap[q]? = some ce
    rw [hT]; exact hcell
  exact ⟨_, st1, .threw q, hrun, hend, Or.inr ⟨q, rfl, E, ce, locs, hx _ hT hW.alike, hcell9, hv, hcl, hW, hsm.mono hc hs, hf⟩⟩
theorem vx_frame {U : State} {k n : Nat} (h : s.sameButNew ({ U with vm := s.vm } : State) locs k n) : s.heap.size ≤ U.heap.size ∧ ∀ q : Nat, q < s.heap.size → (∀ z ∈ locs, z.base ≠ q) → U.heap[q]? = s.heap[q]? := by
  obtain ⟨-, h2, -, -, -, h6⟩ := h
  refine ⟨h2, fun q hq hz => ?_⟩
  obtain ⟨c9, e1, e2, e3, e4⟩ := h6 q _ (Array.getElem?_eq_getElem hq)
  have hs : c9.slots = (s.heap[q]).slots := Array.ext_getElem? fun i => e4 i fun hm => hz _ hm rfl
  have h9 : c9 = s.heap[q] := by
    rw [hs] at e2
    exact e2
  have e5 : U.heap[q]? = some c9 := e1
  rw [e5, h9, Array.getElem?_eq_getElem hq]
/-- the words of a throw but the four that speak of the heap -/
def vx_no (w : Cond) : Bool := decide (w ≠ .isRef (.static Bundle.tN "UNASSIGNED_STACK" Bundle.steD)) && decide (w ≠ .isRef (.static Bundle.tN "SUPPRESSED_SENTINEL" Bundle.listD)) && decide (w ≠ .laysStatic Bundle.tN "UNASSIGNED_STACK" Bundle.steD) && decide (w ≠ .laysStatic Bundle.tN "SUPPRESSED_SENTINEL" Bundle.listD)
def vx_at0 (own : String) (ic : Nat) (X : String) (names : List String) : List Cond := (Bundle.ownAtoms0 own ic X names).filter vx_no
def vx_atS (own : String) (ic : Nat) (X : String) (names : List String) : List Cond := (Bundle.ownAtoms own ic X names).filter vx_no
/-- a word that the tables alone decide, or a good one -/
def vx_ot (w : Cond) : Bool := w.onTables || goodWord w
theorem vx_ot_at {args a' : Array Value} {s U : State} {w : Cond} (hW : s.WarmedH U.vm) (hvm : s.vm = U.vm) (hg : vx_ot w = true) (h : w.before args s = true) : w.before a' U = true := by
  simp only [vx_ot, Bool.or_eq_true] at hg
  rcases hg with hg | hg
  · exact va_tabs hg hvm h
  · exact word_at hW (good_of_word hg) h
/-- a list's words: the good ones out of the method's own list, the others by premises of their own -/
theorem vx_hat {args : Array Value} {s : State} {L B : List Cond} (h1 : ∀ w ∈ L.filter goodWord, w.before args s = true) (h2 : ∀ w ∈ L.filter (fun w => !goodWord w), w ∈ B) (h3 : ∀ w ∈ B, w.before args s = true) : ∀ w ∈ L, w.before args s = true := by
  intro w hw
  by_cases g : goodWord w = true
  · exact h1 w (List.mem_filter.mpr ⟨hw, g⟩)
  · refine h3 w (h2 w (List.mem_filter.mpr ⟨hw, ?_⟩))
    show (!goodWord w) = true
    cases hgw : goodWord w
    · rfl
    · exact absurd hgw g
theorem vx_c {args : Array Value} {s : State} {w : Cond} {B : List Cond} (h : w.before args s = true) (t : ∀ w ∈ B, w.before args s = true) : ∀ w' ∈ w :: B, w'.before args s = true := fun w' h' => (List.mem_cons.mp h').elim (fun e => by rw [e]; exact h) (t w')
theorem vx_n {args : Array Value} {s : State} : ∀ w ∈ ([] : List Cond), w.before args s = true := fun _ h => nomatch h
theorem vx_own {args : Array Value} {s : State} {L : List Cond} (h1 : ∀ w ∈ L.filter vx_no, w.before args s = true)
    (hU : (Cond.isRef (.static Bundle.tN "UNASSIGNED_STACK" Bundle.steD)).before args s = true) (hN : (Cond.isRef (.static Bundle.tN "SUPPRESSED_SENTINEL" Bundle.listD)).before args s = true)
    (lU : (Cond.laysStatic Bundle.tN "UNASSIGNED_STACK" Bundle.steD).before args s = true) (lN : (Cond.laysStatic Bundle.tN "SUPPRESSED_SENTINEL" Bundle.listD).before args s = true) : ∀ w ∈ L, w.before args s = true := by
  intro w hw
  by_cases e1 : w = .isRef (.static Bundle.tN "UNASSIGNED_STACK" Bundle.steD)
  · rw [e1]; exact hU
  · by_cases e2 : w = .isRef (.static Bundle.tN "SUPPRESSED_SENTINEL" Bundle.listD)
    · rw [e2]; exact hN
    · by_cases e3 : w = .laysStatic Bundle.tN "UNASSIGNED_STACK" Bundle.steD
      · rw [e3]; exact lU
      · by_cases e4 : w = .laysStatic Bundle.tN "SUPPRESSED_SENTINEL" Bundle.listD
        · rw [e4]; exact lN
        · exact h1 w (List.mem_filter.mpr ⟨hw, by unfold vx_no; rw [decide_eq_true e1, decide_eq_true e2, decide_eq_true e3, decide_eq_true e4]; rfl⟩)
/-- where a static field lies, its class's statics cell in H -/
def vx_L (C n d : String) (A : Nat → Prop) (U : State) (H : Heap) : Prop := ∃ (c : ClassId) (k : Class) (i : Nat) (f : Field) (a : Nat) (cell : Cell), U.vm.findClass C = some c ∧ U.fieldFound? C n d = some (c, k, i, f) ∧ f.isStatic = true ∧ k.statics = some a ∧ H[a]? = some cell ∧ cell.vm.isStatics = true ∧ cell.cls = c ∧ f.slot < cell.slots.size ∧ k.staticTypes[f.slot]? = some f.type ∧ ¬ A a
theorem vx_L.moved {C n d : String} {A : Nat → Prop} {u U : State} {H : Heap} (hvm : u.vm.Alike U.vm) (h : vx_L C n d A u H) : vx_L C n d A U H := by
  obtain ⟨c, k, i, f, a, cell, h1, h2, h3, h4, h5, h6, h7, h8, h9, h10⟩ := h
  obtain ⟨k', hi', he⟩ := State.fieldFound?_setVm hvm h2
  exact ⟨c, k', i, f, a, cell, by rw [hvm.findClass]; exact h1, hi', h3, by rw [he]; exact h4, h5, h6, h7, h8, by rw [he]; exact h9, h10⟩
theorem vx_L.kept {C n d : String} {A : Nat → Prop} {U : State} {H H1 : Heap} (h : vx_L C n d A U H) (hq : ∀ a : Nat, a < H.size → ¬ A a → H1[a]? = H[a]?) : vx_L C n d A U H1 := by
  obtain ⟨c, k, i, f, a, cell, h1, h2, h3, h4, h5, h6, h7, h8, h9, h10⟩ := h
  exact ⟨c, k, i, f, a, cell, h1, h2, h3, h4, by rw [hq a (Array.getElem?_eq_some_iff.mp h5).1 h10]; exact h5, h6, h7, h8, h9, h10⟩
theorem vx_L.narrow {C n d : String} {A B : Nat → Prop} {U : State} {H : Heap} (h : vx_L C n d A U H) (hAB : ∀ q, B q → A q) : vx_L C n d B U H := by
  obtain ⟨c, k, i, f, a, cell, h1, h2, h3, h4, h5, h6, h7, h8, h9, h10⟩ := h
  exact ⟨c, k, i, f, a, cell, h1, h2, h3, h4, h5, h6, h7, h8, h9, fun z => h10 (hAB _ z)⟩
theorem vx_L.word {C n d : String} {A : Nat → Prop} {s : State} {args : Array Value} (h : vx_L C n d A s s.heap) : (Cond.laysStatic C n d).before args s = true := by
  obtain ⟨c, k, i, f, a, cell, h1, h2, h3, h4, h5, h6, h7, h8, h9, -⟩ := h
  show (Cond.laysStatic C n d).holds args s none s [] = true
  exact Cond.laysStatic_of h1 h2 h3 h4 h5 h6 h7 h8 h9
/-- .. and what it holds: null or some reference -/
def vx_Zq (C n d : String) (A : Nat → Prop) (U : State) (H : Heap) : Prop := va_Zq C n d A U H ∧ vx_L C n d A U H
theorem vx_Zq.moved {C n d : String} {A : Nat → Prop} {u U : State} {H : Heap} (hvm : u.vm.Alike U.vm) (h : vx_Zq C n d A u H) : vx_Zq C n d A U H := ⟨va_Zq.moved hvm h.1, vx_L.moved hvm h.2⟩
theorem vx_Zq.kept {C n d : String} {A : Nat → Prop} {U : State} {H H1 : Heap} (h : vx_Zq C n d A U H) (hq : ∀ a : Nat, a < H.size → ¬ A a → H1[a]? = H[a]?) : vx_Zq C n d A U H1 := ⟨va_Zq.kept h.1 hq, vx_L.kept h.2 hq⟩
theorem vx_Zq.narrow {C n d : String} {A B : Nat → Prop} {U : State} {H : Heap} (h : vx_Zq C n d A U H) (hAB : ∀ q, B q → A q) : vx_Zq C n d B U H := ⟨va_Zq.narrow h.1 hAB, vx_L.narrow h.2 hAB⟩
theorem vx_Zqof {args : Array Value} {s : State} {C n d : String} {A : Nat → Prop} (hl : (Cond.laysStatic C n d).before args s = true) (hini : (Cond.initialized C).before args s = true) (h : (Cond.isRef (.static C n d)).before args s = true) (hA : ∀ a : Nat, a < s.heap.size → ¬ A a) : vx_Zq C n d A s s.heap := by
  refine ⟨va_Zqof hl hini h hA, ?_⟩
  obtain ⟨c, k, i, f, a, cell, h1, h2, h3, h4, h5, h6, h7, h8, h9⟩ := Cond.laysStatic_spec hl
  exact ⟨c, k, i, f, a, cell, h1, h2, h3, h4, h5, h6, h7, h8, h9, hA a (Array.getElem?_eq_some_iff.mp h5).1⟩
theorem vx_isRef {C n d : String} {v : Value} {A : Nat → Prop} {s : State} {args : Array Value} (h : va_Z C n d v A s s.heap) (hv : v.isRef = true) : (Cond.isRef (.static C n d)).before args s = true := by
  obtain ⟨cf, kf, fi, f, a, cell, h1, h2, h3, h4, h5, h6, h7, -⟩ := h
  have he : (Term.static C n d).eval args s none [] s = some v := by
    simp [Term.eval, State.fieldNamed?, h1, h2, h4, h5, h6, h7]
  simp only [Cond.before, Cond.holds, Cond.value, he]
  cases v <;> simp_all [Value.isRef]
theorem vx_isRefq {C n d : String} {A : Nat → Prop} {s : State} {args : Array Value} (h : va_Zq C n d A s s.heap) : (Cond.isRef (.static C n d)).before args s = true := by
  rcases h with h | ⟨t, h⟩
  · exact vx_isRef h rfl
  · exact vx_isRef h rfl
/-- the same frame, seen from here: as if the method were called anew in this heap -/
theorem vx_rebase {T : State} (X : Stand p l e R s m args below meth c T locs cells slots) {R' : Room} (hf : R'.frames ≤ R.frames) (hl : R'.locals ≤ R.locals) (hc : cells + R'.cells ≤ R.cells) (hs : slots + R'.slots ≤ R.slots) :
    Stand p l e R' ((T.setVm s.vm).setFrames (.invoking m args :: below)) m args below meth c T [] 0 0 := by
  have htop : (T.setVm s.vm).topJava?.isSome := X.here.top
  have hF : ((T.setVm s.vm).setFrames (.invoking m args :: below)).frames = .invoking m args :: below := State.frames_setFrames _ (State.cur_lt_of_top htop)
  obtain ⟨g₀, hg0⟩ := Option.isSome_iff_exists.mp htop
  obtain ⟨r, hr⟩ := State.topJava?_eq_some.mp hg0
  have hl9 : e.platform.stackLimits (T.setVm s.vm).me = e.platform.stackLimits s.me := X.limits
  have hb9 : (T.setVm s.vm).me.stackBytes = s.me.stackBytes := X.bytes
  refine ⟨X.admits, X.cas, X.clock, hF, ?_, X.hears, X.method, X.code, X.here, X.tail, X.warmed, ?_, ?_, ?_⟩
  · have h := X.room
    have hU : ((T.setVm s.vm).setFrames (.invoking m args :: below)).localsInUse = s.localsInUse := by
      rw [State.localsInUse_invoking hF (meth := meth) (c := c) X.method X.code, State.localsInUse_invoking X.frames X.method X.code]
    simp only [State.hasRoom, Bool.and_eq_true, decide_eq_true_eq] at h ⊢
    obtain ⟨⟨⟨⟨h1, h2, h3, h4, h5, h6⟩, h7⟩, h8⟩, h9⟩ := h
    rw [X.frames, List.length_cons] at h2 h3
    have q1 := X.heapSize
    have q2 := X.used
    simp only [hF, hU, List.length_cons, State.stackLimits_setFrames, State.stackBytes_setFrames, hl9, hb9]
    refine ⟨⟨⟨⟨by omega, by omega, by omega, by omega, by omega, h6⟩, ?_⟩, ?_⟩, X.book⟩
    · show T.heap.size + R'.cells ≤ e.platform.maxCells
      omega
    · show T.slotsUsed + R'.slots ≤ e.platform.maxSlots
      omega
  · rw [State.stackLimits_setFrames]; rfl
  · rw [State.stackBytes_setFrames]; rfl
  · refine ⟨?_, Nat.le_refl _, Nat.le_refl _, ?_, ?_, fun a c9 h9 => ⟨c9, h9, rfl, rfl, fun _ _ => rfl⟩⟩
    · obtain ⟨t, ht, -⟩ := State.frames_cons hr
      show T.setVm s.vm = { ((T.setVm s.vm).setFrames (.invoking m args :: below)).setFrames (T.setVm s.vm).frames with heap := T.heap, slotsUsed := T.slotsUsed }
      rw [State.setFrames_setFrames, State.setFrames_self ht]
      rfl
    · show T.slotsUsed = T.slotsUsed + ((T.heap.toList.drop T.heap.size).map (·.slots.size)).sum
      rw [List.drop_eq_nil_of_le (Nat.le_of_eq Array.length_toList)]
      rfl
    · show ((T.heap.toList.drop T.heap.size).map (·.slots.size)).sum ≤ 0
      rw [List.drop_eq_nil_of_le (Nat.le_of_eq Array.length_toList)]
      exact Nat.le_refl _
/-- 'throw new E()': new; dup; invokespecial; athrow -/
theorem vx_throw0 {cc : ByteArray} {pc : Nat} (hexec : p.tables.exec = Jvm.exec) (hb : c.code = cc) (hl : l.stackTraces = false) {own cls : String} {names : List String} {ik ic mc ms : Nat} {A : Nat → Prop}
    (hown : s.vm.findClass own = some m.cls) (hcls : Bundle.fit cls = true) (hnames : ∀ n ∈ names, Bundle.fit n = true)
    (hk : (Cond.classLink own ik cls).before args s = true) (hini : (Cond.initialized cls).before args s = true) (hat : ∀ w ∈ vx_at0 own ic cls names, w.before args s = true)
    (hgood : ∀ w ∈ Cond.classLink own ik cls :: Cond.initialized cls :: vx_at0 own ic cls names, vx_ot w = true)
    (hU : vx_Zq Bundle.tN "UNASSIGNED_STACK" Bundle.steD A s s.heap) (hN : vx_Zq Bundle.tN "SUPPRESSED_SENTINEL" Bundle.listD A s s.heap) (hS : va_S A s.heap H locs) (hsize : ls.size = c.maxLocals)
    (d0 : decode cc pc = .ok (.new ik, 3)) (d3 : decode cc (pc + 3) = .ok (.dup, 1)) (d4 : decode cc (pc + 4) = .ok (.invokespecial ic, 3)) (d7 : decode cc (pc + 7) = .ok (.athrow, 1))
    (hout : ∀ x ∈ c.exceptionTable.toList, covers x (pc + 7) = false)
    (hRframes : names.length + 3 < R.frames) (hRlocals : (rest.map fun v => v.category).sum + (13 * (names.length + 1) + 42) ≤ R.locals) (hRcells : cells + 1 ≤ R.cells) (hRslots : slots + 6 ≤ R.slots) (hlocks : meth.locks = false)
    (hx : ∀ t : State, s.vm.Alike t.vm → H.size ≤ t.heap.size → (∀ q : Nat, q < H.size → t.heap[q]? = H[q]?) → XC cls s t)
    (hf : ∀ z ∈ locs, free z.base) (hc : cells + 1 ≤ mc) (hs : slots + 6 ≤ ms) :
    W p l e R s m args below meth c H locs cells slots (vx_MQ below Qc XC args s mc ms free) (F0 m pc ls rest) := by
  intro T hT X
  have htr : e.platform.stackTraces = false := (show e.platform.stackTraces = l.stackTraces by rw [X.admits.platform]).trans hl
  have Y := vx_rebase X (R' := { frames := R.frames, locals := R.locals, cells := 1, slots := 6 }) (Nat.le_refl _) (Nat.le_refl _) hRcells hRslots
  obtain ⟨s', hA⟩ : ∃ z, z = (T.setVm s.vm).setFrames (.invoking m args :: below) := ⟨_, rfl⟩
  rw [← hA] at Y
  have hvm : s'.vm = s.vm := by rw [hA]; rfl
  have hhp : s'.heap = H := by rw [hA]; exact hT
  have hW0 : s.WarmedH s'.vm := by rw [hvm]; exact State.WarmedH.refl s
  have hat' : ∀ w ∈ vx_at0 own ic cls names, w.before args s' = true := fun w hw => vx_ot_at hW0 hvm.symm (hgood w (List.mem_cons_of_mem _ (List.mem_cons_of_mem _ hw))) (hat w hw)
  have hk' : (Cond.classLink own ik cls).before args s' = true := vx_ot_at hW0 hvm.symm (hgood _ List.mem_cons_self) hk
  have hini' : (Cond.initialized cls).before args s' = true := vx_ot_at hW0 hvm.symm (hgood _ (List.mem_cons_of_mem _ List.mem_cons_self)) hini
  have hU' : vx_Zq Bundle.tN "UNASSIGNED_STACK" Bundle.steD A s' s'.heap := by rw [hhp]; exact vx_Zq.moved hW0.alike (hU.kept hS.2.1)
  have hN' : vx_Zq Bundle.tN "SUPPRESSED_SENTINEL" Bundle.listD A s' s'.heap := by rw [hhp]; exact vx_Zq.moved hW0.alike (hN.kept hS.2.1)
  have h : ∀ w ∈ Bundle.ownAtoms0 own ic cls names, w.before args s' = true := vx_own hat' (vx_isRefq hU'.1) (vx_isRefq hN'.1) hU'.2.word hN'.2.word
  have hown' : s'.vm.findClass own = some m.cls := by rw [hvm]; exact hown
  have hins : (Cond.instantiable cls 6).before args s' = true := h _ (by simp [Bundle.ownAtoms0])
  obtain ⟨vm₁, cX, kX, hfX, hkX, -, -, X₁, st1⟩ := Y.newCold hexec (own := own) (C := cls) (index := ik) (n := 6) hown' hk' hins hini'
    (g := F0 m pc ls rest) rfl (by rw [hb]; exact d0) (Nat.le_refl _) (Nat.le_refl _)
  generalize hT1 : (T.setVm vm₁).pushCell { cls := cX, slots := kX.instanceTypes.map defaultValue, vm := .none } = T1 at X₁ st1
  have hcat : (Value.ref T.heap.size).category = 1 := rfl
  have hcellA : T1.heap[T.heap.size]? = some (freshCell cX kX) := by rw [← hT1]; exact State.heap_pushCell_size _ _
  have d3' : decode c.code (pc + 3) = .ok (.dup, 1) := by rw [hb]; exact d3
  obtain ⟨U, hsteps, hrun, hend, hW, hsame, ce, hce, hO⟩ := X₁.ctorThrow0 hexec htr (own := own) (cls := cls) (names := names) (ic := ic) hown' hcls hnames h (fun x hx => nomatch hx) hfX hkX hcellA (by rw [hhp, hT]; exact Nat.le_refl _)
    (g := { method := m, pc := pc + 4, locals := ls, stack := .ref T.heap.size :: .ref T.heap.size :: rest, locked := none }) rfl hsize rfl rfl (rest := rest) rfl
    (by rw [hb]; exact d4) (by rw [hb]; exact d7) hout hRframes (by simp only [List.map_cons, List.sum_cons, hcat]; omega) hlocks
  obtain ⟨f1, f2⟩ := vx_frame hsame
  rw [hhp] at f1 f2
  have hWs : s.WarmedH U.vm := State.WarmedH.trans hW0 hW
  have hcl : s.vm.findClass cls = some ce.cls := by
    have h9 := hO.cls
    rw [hvm] at h9
    exact h9
  have hall : s.sameButNew ({ U with vm := s.vm } : State) locs mc ms := by
    subst hA
    obtain ⟨e1, e2⟩ := hsame
    rw [State.setFrames_setFrames] at e1
    have h2 : (T.setVm s.vm).sameButNew ({ U with vm := s.vm } : State) [] (0 + 1) (0 + 6) := ⟨e1, e2⟩
    have h3 := X.same.trans h2
    rw [List.append_nil] at h3
    exact h3.mono hc hs
  refine ⟨U, ?_, .threw T.heap.size, hrun, hend, Or.inr ⟨T.heap.size, rfl, cls, ce, locs, hx U hWs.alike f1 (fun q hq => f2 q hq (fun z hz => nomatch hz)), hce, hO.vm, hcl, hWs, hall, hf⟩⟩
  refine st1 _ ?_
  show Steps p.tables e below (T1.setTop { method := m, pc := pc + 3, locals := ls, stack := .ref T.heap.size :: rest, locked := none }) _
  jvm_step X₁.here [X₁.here.top, hexec, d3', Value.category]
  exact hsteps
/-- 'throw new E("text")': new; dup; ldc; invokespecial; athrow -/
theorem vx_throwS {cc : ByteArray} {pc : Nat} (hexec : p.tables.exec = Jvm.exec) (hb : c.code = cc) (hl : l.stackTraces = false) {own cls text : String} {names : List String} {ik is ic mc ms sa : Nat} {A : Nat → Prop}
    (hown : s.vm.findClass own = some m.cls) (hcls : Bundle.fit cls = true) (hnames : ∀ n ∈ names, Bundle.fit n = true)
    (hk : (Cond.classLink own ik cls).before args s = true) (hini : (Cond.initialized cls).before args s = true) (hstr : vk_R own is text sa s) (hat : ∀ w ∈ vx_atS own ic cls names, w.before args s = true)
    (hgood : ∀ w ∈ Cond.classLink own ik cls :: Cond.initialized cls :: vx_atS own ic cls names, vx_ot w = true)
    (hU : vx_Zq Bundle.tN "UNASSIGNED_STACK" Bundle.steD A s s.heap) (hN : vx_Zq Bundle.tN "SUPPRESSED_SENTINEL" Bundle.listD A s s.heap) (hS : va_S A s.heap H locs) (hsize : ls.size = c.maxLocals)
    (d0 : decode cc pc = .ok (.new ik, 3)) (d3 : decode cc (pc + 3) = .ok (.dup, 1)) (d4 : decode cc (pc + 4) = .ok (.ldc is, 2)) (d6 : decode cc (pc + 6) = .ok (.invokespecial ic, 3)) (d9 : decode cc (pc + 9) = .ok (.athrow, 1))
    (hout : ∀ x ∈ c.exceptionTable.toList, covers x (pc + 9) = false)
    (hRframes : names.length + 3 < R.frames) (hRlocals : (rest.map fun v => v.category).sum + (13 * (names.length + 1) + 43) ≤ R.locals) (hRcells : cells + 1 ≤ R.cells) (hRslots : slots + 6 ≤ R.slots) (hlocks : meth.locks = false)
    (hx : ∀ t : State, s.vm.Alike t.vm → H.size ≤ t.heap.size → (∀ q : Nat, q < H.size → t.heap[q]? = H[q]?) → XC cls s t)
    (hf : ∀ z ∈ locs, free z.base) (hc : cells + 1 ≤ mc) (hs : slots + 6 ≤ ms) :
    W p l e R s m args below meth c H locs cells slots (vx_MQ below Qc XC args s mc ms free) (F0 m pc ls rest) := by
  intro T hT X
  have htr : e.platform.stackTraces = false := (show e.platform.stackTraces = l.stackTraces by rw [X.admits.platform]).trans hl
  have Y := vx_rebase X (R' := { frames := R.frames, locals := R.locals, cells := 1, slots := 6 }) (Nat.le_refl _) (Nat.le_refl _) hRcells hRslots
  obtain ⟨s', hA⟩ : ∃ z, z = (T.setVm s.vm).setFrames (.invoking m args :: below) := ⟨_, rfl⟩
  rw [← hA] at Y
  have hvm : s'.vm = s.vm := by rw [hA]; rfl
  have hhp : s'.heap = H := by rw [hA]; exact hT
  have hW0 : s.WarmedH s'.vm := by rw [hvm]; exact State.WarmedH.refl s
  have hat' : ∀ w ∈ vx_atS own ic cls names, w.before args s' = true := fun w hw => vx_ot_at hW0 hvm.symm (hgood w (List.mem_cons_of_mem _ (List.mem_cons_of_mem _ hw))) (hat w hw)
  have hk' : (Cond.classLink own ik cls).before args s' = true := vx_ot_at hW0 hvm.symm (hgood _ List.mem_cons_self) hk
  have hini' : (Cond.initialized cls).before args s' = true := vx_ot_at hW0 hvm.symm (hgood _ (List.mem_cons_of_mem _ List.mem_cons_self)) hini
  have hU' : vx_Zq Bundle.tN "UNASSIGNED_STACK" Bundle.steD A s' s'.heap := by rw [hhp]; exact vx_Zq.moved hW0.alike (hU.kept hS.2.1)
  have hN' : vx_Zq Bundle.tN "SUPPRESSED_SENTINEL" Bundle.listD A s' s'.heap := by rw [hhp]; exact vx_Zq.moved hW0.alike (hN.kept hS.2.1)
  have h : ∀ w ∈ Bundle.ownAtoms own ic cls names, w.before args s' = true := vx_own hat' (vx_isRefq hU'.1) (vx_isRefq hN'.1) hU'.2.word hN'.2.word
  have hown' : s'.vm.findClass own = some m.cls := by rw [hvm]; exact hown
  have hins : (Cond.instantiable cls 6).before args s' = true := h _ (by simp [Bundle.ownAtoms])
  obtain ⟨vm₁, cX, kX, hfX, hkX, -, -, X₁, st1⟩ := Y.newCold hexec (own := own) (C := cls) (index := ik) (n := 6) hown' hk' hins hini'
    (g := F0 m pc ls rest) rfl (by rw [hb]; exact d0) (Nat.le_refl _) (Nat.le_refl _)
  generalize hT1 : (T.setVm vm₁).pushCell { cls := cX, slots := kX.instanceTypes.map defaultValue, vm := .none } = T1 at X₁ st1
  have hcat : (Value.ref T.heap.size).category = 1 := rfl
  have hcellA : T1.heap[T.heap.size]? = some (freshCell cX kX) := by rw [← hT1]; exact State.heap_pushCell_size _ _
  have d3' : decode c.code (pc + 3) = .ok (.dup, 1) := by rw [hb]; exact d3
  have d4' : decode c.code (pc + 4) = .ok (.ldc is, 2) := by rw [hb]; exact d4
  have hstr' : vk_R own is text sa s' := vk_R.warm hW0 hstr
  obtain ⟨U, hsteps, hrun, hend, hW, hsame, ce, hce, hO⟩ := X₁.ctorThrowS hexec htr (own := own) (cls := cls) (names := names) (ic := ic) hown' hcls hnames h (fun x hx => nomatch hx) hfX hkX hcellA (by rw [hhp, hT]; exact Nat.le_refl _) (msg := .ref sa) rfl
    (g := { method := m, pc := pc + 6, locals := ls, stack := .ref sa :: .ref T.heap.size :: .ref T.heap.size :: rest, locked := none }) rfl hsize rfl rfl (rest := rest) rfl
    (by rw [hb]; exact d6) (by rw [hb]; exact d9) hout hRframes (by simp only [List.map_cons, List.sum_cons, hcat]; omega) hlocks
  obtain ⟨f1, f2⟩ := vx_frame hsame
  rw [hhp] at f1 f2
  have hWs : s.WarmedH U.vm := State.WarmedH.trans hW0 hW
  have hcl : s.vm.findClass cls = some ce.cls := by
    have h9 := hO.cls
    rw [hvm] at h9
    exact h9
  have hall : s.sameButNew ({ U with vm := s.vm } : State) locs mc ms := by
    subst hA
    obtain ⟨e1, e2⟩ := hsame
    rw [State.setFrames_setFrames] at e1
    have h2 : (T.setVm s.vm).sameButNew ({ U with vm := s.vm } : State) [] (0 + 1) (0 + 6) := ⟨e1, e2⟩
    have h3 := X.same.trans h2
    rw [List.append_nil] at h3
    exact h3.mono hc hs
  refine ⟨U, ?_, .threw T.heap.size, hrun, hend, Or.inr ⟨T.heap.size, rfl, cls, ce, locs, hx U hWs.alike f1 (fun q hq => f2 q hq (fun z hz => nomatch hz)), hce, hO.vm, hcl, hWs, hall, hf⟩⟩
  refine st1 _ ?_
  show Steps p.tables e below (T1.setTop { method := m, pc := pc + 3, locals := ls, stack := .ref T.heap.size :: rest, locked := none }) _
  jvm_step X₁.here [X₁.here.top, hexec, d3', Value.category]
  exact X₁.ldcString hexec (own := own) (text := text) (index := is) (a := sa) hown' hstr'.1 hstr'.2
    (g := { method := m, pc := pc + 4, locals := ls, stack := .ref T.heap.size :: .ref T.heap.size :: rest, locked := none }) rfl d4' _ hsteps
/-- 'throw new E("text")', the text by a wide index -/
theorem vx_throwSW {cc : ByteArray} {pc : Nat} (hexec : p.tables.exec = Jvm.exec) (hb : c.code = cc) (hl : l.stackTraces = false) {own cls text : String} {names : List String} {ik is ic mc ms sa : Nat} {A : Nat → Prop}
    (hown : s.vm.findClass own = some m.cls) (hcls : Bundle.fit cls = true) (hnames : ∀ n ∈ names, Bundle.fit n = true)
    (hk : (Cond.classLink own ik cls).before args s = true) (hini : (Cond.initialized cls).before args s = true) (hstr : vk_R own is text sa s) (hat : ∀ w ∈ vx_atS own ic cls names, w.before args s = true)
    (hgood : ∀ w ∈ Cond.classLink own ik cls :: Cond.initialized cls :: vx_atS own ic cls names, vx_ot w = true)
    (hU : vx_Zq Bundle.tN "UNASSIGNED_STACK" Bundle.steD A s s.heap) (hN : vx_Zq Bundle.tN "SUPPRESSED_SENTINEL" Bundle.listD A s s.heap) (hS : va_S A s.heap H locs) (hsize : ls.size = c.maxLocals)
    (d0 : decode cc pc = .ok (.new ik, 3)) (d3 : decode cc (pc + 3) = .ok (.dup, 1)) (d4 : decode cc (pc + 4) = .ok (.ldc_w is, 3)) (d7 : decode cc (pc + 7) = .ok (.invokespecial ic, 3)) (d10 : decode cc (pc + 10) = .ok (.athrow, 1))
    (hout : ∀ x ∈ c.exceptionTable.toList, covers x (pc + 10) = false)
    (hRframes : names.length + 3 < R.frames) (hRlocals : (rest.map fun v => v.category).sum + (13 * (names.length + 1) + 43) ≤ R.locals) (hRcells : cells + 1 ≤ R.cells) (hRslots : slots + 6 ≤ R.slots) (hlocks : meth.locks = false)
    (hx : ∀ t : State, s.vm.Alike t.vm → H.size ≤ t.heap.size → (∀ q : Nat, q < H.size → t.heap[q]? = H[q]?) → XC cls s t)
    (hf : ∀ z ∈ locs, free z.base) (hc : cells + 1 ≤ mc) (hs : slots + 6 ≤ ms) :
    W p l e R s m args below meth c H locs cells slots (vx_MQ below Qc XC args s mc ms free) (F0 m pc ls rest) := by
  intro T hT X
  have htr : e.platform.stackTraces = false := (show e.platform.stackTraces = l.stackTraces by rw [X.admits.platform]).trans hl
  have Y := vx_rebase X (R' := { frames := R.frames, locals := R.locals, cells := 1, slots := 6 }) (Nat.le_refl _) (Nat.le_refl _) hRcells hRslots
  obtain ⟨s', hA⟩ : ∃ z, z = (T.setVm s.vm).setFrames (.invoking m args :: below) := ⟨_, rfl⟩
  rw [← hA] at Y
  have hvm : s'.vm = s.vm := by rw [hA]; rfl
  have hhp : s'.heap = H := by rw [hA]; exact hT
  have hW0 : s.WarmedH s'.vm := by rw [hvm]; exact State.WarmedH.refl s
  have hat' : ∀ w ∈ vx_atS own ic cls names, w.before args s' = true := fun w hw => vx_ot_at hW0 hvm.symm (hgood w (List.mem_cons_of_mem _ (List.mem_cons_of_mem _ hw))) (hat w hw)
  have hk' : (Cond.classLink own ik cls).before args s' = true := vx_ot_at hW0 hvm.symm (hgood _ List.mem_cons_self) hk
  have hini' : (Cond.initialized cls).before args s' = true := vx_ot_at hW0 hvm.symm (hgood _ (List.mem_cons_of_mem _ List.mem_cons_self)) hini
  have hU' : vx_Zq Bundle.tN "UNASSIGNED_STACK" Bundle.steD A s' s'.heap := by rw [hhp]; exact vx_Zq.moved hW0.alike (hU.kept hS.2.1)
  have hN' : vx_Zq Bundle.tN "SUPPRESSED_SENTINEL" Bundle.listD A s' s'.heap := by rw [hhp]; exact vx_Zq.moved hW0.alike (hN.kept hS.2.1)
  have h : ∀ w ∈ Bundle.ownAtoms own ic cls names, w.before args s' = true := vx_own hat' (vx_isRefq hU'.1) (vx_isRefq hN'.1) hU'.2.word hN'.2.word
  have hown' : s'.vm.findClass own = some m.cls := by rw [hvm]; exact hown
  have hins : (Cond.instantiable cls 6).before args s' = true := h _ (by simp [Bundle.ownAtoms])
  obtain ⟨vm₁, cX, kX, hfX, hkX, -, -, X₁, st1⟩ := Y.newCold hexec (own := own) (C := cls) (index := ik) (n := 6) hown' hk' hins hini'
    (g := F0 m pc ls rest) rfl (by rw [hb]; exact d0) (Nat.le_refl _) (Nat.le_refl _)
  generalize hT1 : (T.setVm vm₁).pushCell { cls := cX, slots := kX.instanceTypes.map defaultValue, vm := .none } = T1 at X₁ st1
  have hcat : (Value.ref T.heap.size).category = 1 := rfl
  have hcellA : T1.heap[T.heap.size]? = some (freshCell cX kX) := by rw [← hT1]; exact State.heap_pushCell_size _ _
  have d3' : decode c.code (pc + 3) = .ok (.dup, 1) := by rw [hb]; exact d3
  have d4' : decode c.code (pc + 4) = .ok (.ldc_w is, 3) := by rw [hb]; exact d4
  have hstr' : vk_R own is text sa s' := vk_R.warm hW0 hstr
  obtain ⟨U, hsteps, hrun, hend, hW, hsame, ce, hce, hO⟩ := X₁.ctorThrowS hexec htr (own := own) (cls := cls) (names := names) (ic := ic) hown' hcls hnames h (fun x hx => nomatch hx) hfX hkX hcellA (by rw [hhp, hT]; exact Nat.le_refl _) (msg := .ref sa) rfl
    (g := { method := m, pc := pc + 7, locals := ls, stack := .ref sa :: .ref T.heap.size :: .ref T.heap.size :: rest, locked := none }) rfl hsize rfl rfl (rest := rest) rfl
    (by rw [hb]; exact d7) (by rw [hb]; exact d10) hout hRframes (by simp only [List.map_cons, List.sum_cons, hcat]; omega) hlocks
  obtain ⟨f1, f2⟩ := vx_frame hsame
  rw [hhp] at f1 f2
  have hWs : s.WarmedH U.vm := State.WarmedH.trans hW0 hW
  have hcl : s.vm.findClass cls = some ce.cls := by
    have h9 := hO.cls
    rw [hvm] at h9
    exact h9
  have hall : s.sameButNew ({ U with vm := s.vm } : State) locs mc ms := by
    subst hA
    obtain ⟨e1, e2⟩ := hsame
    rw [State.setFrames_setFrames] at e1
    have h2 : (T.setVm s.vm).sameButNew ({ U with vm := s.vm } : State) [] (0 + 1) (0 + 6) := ⟨e1, e2⟩
    have h3 := X.same.trans h2
    rw [List.append_nil] at h3
    exact h3.mono hc hs
  refine ⟨U, ?_, .threw T.heap.size, hrun, hend, Or.inr ⟨T.heap.size, rfl, cls, ce, locs, hx U hWs.alike f1 (fun q hq => f2 q hq (fun z hz => nomatch hz)), hce, hO.vm, hcl, hWs, hall, hf⟩⟩
  refine st1 _ ?_
  show Steps p.tables e below (T1.setTop { method := m, pc := pc + 3, locals := ls, stack := .ref T.heap.size :: rest, locked := none }) _
  jvm_step X₁.here [X₁.here.top, hexec, d3', Value.category]
  exact X₁.ldcStringW hexec (own := own) (text := text) (index := is) (a := sa) hown' hstr'.1 hstr'.2
    (g := { method := m, pc := pc + 4, locals := ls, stack := .ref T.heap.size :: .ref T.heap.size :: rest, locked := none }) rfl d4' _ hsteps
end Ends
section Bodies
variable {l : Launch}
theorem vx_ofW {y : MethodName} {ws ws' : List Cond} {rm : Room} {Pc : Array Value → State → Prop} {Qc : Array Value → State → Outcome → State → Prop} {XC : String → State → State → Prop} {mc ms : Nat} {free : Addr → Prop} {cc : ByteArray} {maxL : Nat} {ret : Option FieldType}
    (hy : plainName y.cls = true) (hw : ws = Cond.code y cc maxL ret :: ws')
    (body : ∀ p e s m args below meth c s₁, BodyLoose p l y (headSpec ws rm) cc maxL ret e s m args below meth c s₁ → c.maxLocals = maxL → (∀ x ∈ c.exceptionTable.toList, False) → Pc args s →
      W p l e (headSpec ws rm).room s m args below meth c s.heap [] 0 0 (vx_MQ below Qc XC args s mc ms free) (entryFrame m args maxL)) : vx_Met l y ws rm Pc Qc XC mc ms free := by
  refine MetFree.of_bodyS (code := cc) (maxLocals := maxL) (ret := ret) hy ?_ ?_
  · intro args s m h hn
    obtain ⟨meth, c, h1, h2, h3, h4, h5, h6, -, -⟩ := Cond.code_spec hn (atoms_spec (ws := ws) h _ (by rw [hw]; exact List.mem_cons_self))
    exact ⟨meth, c, h1, h2, h3, h4, h5, h6⟩
  · intro p e s m args below meth c s₁ B hml hP _
    have hh0 : s₁.heap = s.heap := by rw [B.state]; rfl
    have ht : ∀ x ∈ c.exceptionTable.toList, False := by
      obtain ⟨meth9, c9, h1, h2, -, -, -, -, h7, -⟩ := Cond.code_spec B.named (atoms_spec (ws := ws) B.pre _ (by rw [hw]; exact List.mem_cons_self))
      cases Option.some.inj (h1.symm.trans B.method)
      cases Option.some.inj (h2.symm.trans (Stand.of_body B).code)
      intro x hx
      rw [Array.isEmpty_iff.mp h7] at hx
      cases hx
    obtain ⟨t, a1, o, b1, b2, b3⟩ := body p e s m args below meth c s₁ B hml ht hP s₁ hh0 (Stand.of_body B)
    exact ⟨t, o, a1, b1, b2, b3⟩
/-- the table of a body with handlers -/
theorem vx_table {p : Program} {x y : MethodName} {S : Spec} {cc bytes : ByteArray} {maxL maxL' : Nat} {ret ret' : Option FieldType} {e : Env} {s s₁ : State} {m : MethodId} {args : Array Value} {below : List Frame} {meth : Method} {c : Code} {hh : List (Nat × Nat × Nat × Nat)}
    (B : BodyLoose p l y S cc maxL ret e s m args below meth c s₁) (h : (Cond.codeWith y bytes maxL' ret' hh).before args s = true) : c.exceptionTable.toList = tableOf hh := by
  obtain ⟨m9, meth9, c9, hn9, h1, h2, -, -, h6, -⟩ := Cond.codeWith_spec h
  cases Option.some.inj (hn9.symm.trans B.named)
  cases Option.some.inj (h1.symm.trans B.method)
  cases Option.some.inj (h2.symm.trans (Stand.of_body B).code)
  rw [← h6, table_eq]
end Bodies
end VXA
/-! ===== END ===== -/
/-! ===== BEGIN a static call of a method with an exception table ===== -/
section VXS
variable {p : Program} {l : Launch} {e : Env} {R : Room} {s : State} {m : MethodId} {args : Array Value} {below : List Frame} {meth : Method} {c : Code} {T : State} {H : Heap} {locs : List Loc} {cells slots : Nat}
abbrev vx_CSW (R : Room) (s : State) (args : Array Value) (own : String) (index : Nat) (y : MethodName) (bytes : ByteArray) (maxL : Nat) (ret : Option FieldType) (hh : List (Nat × Nat × Nat × Nat)) (ws : List Cond) (rm : Room) (mc ms n : Nat) : Prop :=
  (rm.cells = mc ∧ rm.slots = ms ∧ rm.frames + 1 ≤ R.frames ∧ 8 + (maxL + 11) + rm.locals ≤ R.locals ∧ (∀ w ∈ ws, ∀ (a' : Array Value) (U : State), s.WarmedH U.vm → w.before a' U = true) ∧ Cond.codeWith y bytes maxL ret hh ∈ ws) ∧
  (Cond.codeWith y bytes maxL ret hh).before args s = true ∧ (Cond.initialized y.cls).before args s = true ∧ (y.cls ≠ "java/lang/invoke/MethodHandle" ∧ y.cls ≠ "java/lang/invoke/VarHandle") ∧
  (∀ sig, parseMethodDescriptor y.desc = some sig → n = sig.parameters.length) ∧ (Cond.methodLink own index y).before args s = true ∧ (Cond.static y).before args s = true
theorem vx_cwSW {own : String} {index maxL mc ms : Nat} {y : MethodName} {bytes : ByteArray} {ret : Option FieldType} {hh : List (Nat × Nat × Nat × Nat)} {Ts ws ws' : List Cond} {rm : Room} (n : Nat) (ht : ∀ w ∈ Ts, w.before args s = true) (hT : GoodIn Ts (va_wsS own index y ws)) (hw : ws = Cond.codeWith y bytes maxL ret hh :: ws') (hrc : rm.cells = mc) (hrs : rm.slots = ms)
    (hd : y.cls ≠ "java/lang/invoke/MethodHandle" ∧ y.cls ≠ "java/lang/invoke/VarHandle" ∧ (parseMethodDescriptor y.desc).map (fun d => d.parameters.length) = some n) (hR : rm.frames + 1 ≤ R.frames ∧ 8 + (maxL + 11) + rm.locals ≤ R.locals) :
    vx_CSW R s args own index y bytes maxL ret hh ws rm mc ms n := by
  have ok : ∀ w ∈ va_wsS own index y ws, w.before args s = true := fun w h => ht w (hT w h).1
  have hG : GoodIn Ts ws := fun w h => hT w (by unfold va_wsS; exact List.mem_append_right _ h)
  have hc : Cond.codeWith y bytes maxL ret hh ∈ ws := by rw [hw]; exact List.mem_cons_self
  refine ⟨⟨hrc, hrs, hR.1, hR.2, pay_in ht hG, hc⟩, ht _ (hG _ hc).1, ok _ (by simp [va_wsS]), ⟨hd.1, hd.2.1⟩, fun sig h => ?_, ok _ (by simp [va_wsS]), ok _ (by simp [va_wsS])⟩
  have h2 := hd.2.2
  rw [h] at h2
  exact (Option.some.inj h2).symm
theorem vx_callSW (X : Stand p l e R s m args below meth c T locs cells slots) (hexec : p.tables.exec = Jvm.exec) {own : String} {index : Nat} {y : MethodName} {bytes : ByteArray} {maxL : Nat} {ret : Option FieldType} {hh : List (Nat × Nat × Nat × Nat)}
    (hown : s.vm.findClass own = some m.cls) (hlink : (Cond.methodLink own index y).before args s = true) (hstat : (Cond.static y).before args s = true) (hinit : (Cond.initialized y.cls).before args s = true)
    (hcode : (Cond.codeWith y bytes maxL ret hh).before args s = true) (hy : y.cls ≠ "java/lang/invoke/MethodHandle" ∧ y.cls ≠ "java/lang/invoke/VarHandle")
    {W9 : Nat} {Pre : Pt → Array Value → Prop} {Post : Pt → Array Value → Option Value → Pt → Prop} (hK : Back l R p e below s args y 3 W9 Pre Post)
    {g : JFrame} (hg : g.method = m) (hsize : g.locals.size = c.maxLocals) {argsL rest : List Value} (hlen : ∀ sig, parseMethodDescriptor y.desc = some sig → argsL.length = sig.parameters.length)
    (hstack : g.stack = argsL.reverse ++ rest) (hW : 2 * g.monitorRoom + (rest.map fun v => v.category).sum ≤ W9) (hdg : decode c.code g.pc = .ok (.invokestatic index, 3))
    (hpre : ∀ vm₁, s.WarmedH vm₁ → Pre ⟨T.setVm vm₁, locs, cells, slots⟩ argsL.toArray) :
    ∃ (v : Option Value) (vm₁ : Vm) (B : Pt), s.WarmedH vm₁ ∧ Stand p l e R s m args below meth c B.U B.locs B.cells B.slots ∧ Post ⟨T.setVm vm₁, locs, cells, slots⟩ argsL.toArray v B ∧
      ∀ target, Steps p.tables e below (B.U.setTop { g with pc := g.pc + 3, stack := v.toList ++ rest }) target → Steps p.tables e below (T.setTop g) target := by
  obtain ⟨mk, methM, cM, hnamed, hmethM, -, -, -, -, -, -, hsigM⟩ := Cond.codeWith_spec hcode
  have hstatic : methM.isStatic = true := Cond.static_spec hnamed hmethM hstat
  obtain ⟨kP, hkP, -⟩ := className_of_methodNamed hnamed
  have hinitP : kP.init = .initialized := Cond.initialized_spec (findClass_of_methodNamed hnamed) hkP hinit
  obtain ⟨vm₁, X₁, hstep₁⟩ := X.invokestatic hexec hown hlink hnamed hmethM hstatic hkP hinitP hy (g := g) hg (argsL := argsL) (rest := rest) (hlen _ hsigM) hstack hdg
  obtain ⟨v, B, X', hpost, hsteps⟩ := hK m meth c ⟨T.setVm vm₁, locs, cells, slots⟩ { g with stack := rest } (.invokestatic index) mk argsL.toArray X₁ hg hsize hdg hW (X₁.named hnamed) (hpre vm₁ X₁.warmed)
  exact ⟨v, vm₁, B, X₁.warmed, X', hpost, fun target h => hstep₁ _ fun acts => by rw [doInvoke_state]; exact hsteps.trans h⟩
theorem vx_runSW {y : MethodName} {bytes cc : ByteArray} {maxL nL mc ms n index : Nat} {ret : Option FieldType} {hh : List (Nat × Nat × Nat × Nat)} {ws : List Cond} {rm : Room} {Pc : Array Value → State → Prop} {Qc : Array Value → State → Outcome → State → Prop} {free : Addr → Prop} {Ts : List Cond} {own : String} {As rest : List Value} {g : JFrame}
    (S : CallFix p m c cc nL s args Ts own) (hM : Met l y ws rm Pc Qc mc ms free) (cw : vx_CSW R s args own index y bytes maxL ret hh ws rm mc ms n) (hp : PreS s H Pc As)
    (hg : g.method = m) (hn : As.length = n) (hsize : g.locals.size = nL) (hstack : g.stack = As.reverse ++ rest) (hW : 2 * g.monitorRoom + (rest.map fun v => v.category).sum ≤ 8) (hdg : decode cc g.pc = .ok (.invokestatic index, 3)) (hf : cells + mc ≤ R.cells ∧ slots + ms ≤ R.slots) :
    va_Run p l e R s m args below meth c H locs cells slots mc ms g rest (Qc As.toArray) (free) := by
  obtain ⟨⟨hrc, hrs, hfr, hlo, hws, hcw⟩, hcode, hini, hy, hlen, hl, hstt⟩ := cw
  have hK : Back l R p e below s args y 3 8 (PreOf R mc ms Pc) (PostOf Qc mc ms free) := va_backW (hh := hh) (bytes := bytes) (maxL := maxL) (ret := ret) hM hp.1 hrc hrs hfr hlo hws hcw (fun a' U hW => word_at hW (Or.inl (by first | rfl | simp [Cond.onTables, Cond.keeps, Cond.steady])) hini)
  obtain ⟨hx, hb, hml, ho, -⟩ := S
  intro T hT X
  obtain ⟨v, vm₁, ⟨U', l2, c2, s2⟩, hW₁, X', ⟨g', mk, t, L, e1, e2, hq, h1, hL, h2, h3⟩, st⟩ := vx_callSW X hx (hh := hh) (bytes := bytes) (maxL := maxL) (ret := ret) ho hl hstt hini hcode hy hK hg (hsize.trans hml.symm) (argsL := As) (rest := rest) (fun sig h => hn.trans (hlen sig h)) hstack hW (by rw [hb]; exact hdg)
    (fun vm₁ hW₁ => ⟨hf.1, hf.2, hp.2 (T.setVm vm₁) hT hW₁⟩)
  dsimp only [Pt.U, Pt.locs, Pt.cells, Pt.slots] at X' e1 e2 h1 h2 h3 st
  subst h1; subst h2; subst h3
  exact ⟨v, (T.setVm vm₁).calling g' mk As.toArray, t, U', L, hT, X', hL, e1, e2, hq, st⟩
/-- not caught here, past rows that name other classes: it goes on to the caller -/
theorem vx_outP {p : Program} {l : Launch} {e : Env} {R : Room} {s : State} {m : MethodId} {args : Array Value} {below : List Frame} {meth : Method} {c : Code} {H : Heap} {locs : List Loc} {cells slots : Nat} {free : Addr → Prop} {ls : Array Slot} {rest : List Value} {Qc : Array Value → State → Outcome → State → Prop} {XC : String → State → State → Prop}
    {pc : Nat} {own E : String} {ce : Cell} {q : Addr} {mc ms : Nat} (hown : s.vm.findClass own = some m.cls) (hlocks : meth.locks = false)
    (hpass : ∀ z ∈ c.exceptionTable.toList, covers z pc = false ∨ (z.catchType ≠ 0 ∧ ∃ nm : String, (Cond.classLink own z.catchType nm).before args s = true ∧ va_Nc E nm s)) (hcell : H[q]? = some ce) (hv : ce.vm = .none) (hcl : s.vm.findClass E = some ce.cls)
    (hx : ∀ t : State, t.heap = H → s.vm.Alike t.vm → XC E s t) (hf : ∀ z ∈ locs, free z.base) (hc : cells ≤ mc) (hs : slots ≤ ms) :
    vx_W p l e R s m args below meth c H locs cells slots (vx_MQ below Qc XC args s mc ms free) (F0 m pc ls rest) q := by
  intro T hT X
  have hpl : e.platform.magicAccessors = ({} : Platform).magicAccessors := by rw [X.admits.platform]
  obtain ⟨vm', hW', X', st⟩ := X.outThrough hlocks q (g := F0 m pc ls rest) rfl rfl rfl (cell := ce) (by rw [hT]; exact hcell) (by rw [hv]; rfl)
    (by obtain ⟨k9, h9, -⟩ := Vm.findClass_spec hcl; exact ⟨k9, h9⟩) (fun z hz => by
      rcases hpass z hz with h | ⟨hz0, nm, hl1, hn1⟩
      · exact Or.inl h
      · obtain ⟨c6, hc6, hcl6⟩ := Cond.classLink_spec hown hl1 e.platform hpl
        obtain ⟨a8, b8, h1, h2, h3⟩ := hn1
        cases Option.some.inj (h1.symm.trans hcl)
        cases Option.some.inj (h2.symm.trans hc6)
        exact Or.inr ⟨hz0, _, hcl6, h3⟩)
  obtain ⟨g₀, hfr⟩ := X'.frames_eq
  have hcell9 : ((T.setVm vm').setFrames (.throwing q :: below)).heap[q]? = some ce := by
    show T.heap[q]? = some ce
    rw [hT]; exact hcell
  have hend : Ended ((T.setVm vm').setFrames (.throwing q :: below)) below (.threw q) := State.frames_setFrames _ (State.cur_lt_of_frames hfr)
  refine ⟨(T.setVm vm').setFrames (.throwing q :: below), ?_, .threw q, X'.here.running, hend, Or.inr ⟨q, rfl, E, ce, locs, hx _ hT (X'.ends _).1.alike, hcell9, hv, hcl, (X'.ends _).1, (X'.ends _).2.mono hc hs, hf⟩⟩
  rw [X.pushThrowing_eq]
  exact st
/-- a thing of a world lies in the heap -/
theorem vx_lt {D : va_G} {cl : List vw_C} {ws : va_W} {H1 : Heap} (h : va_P D cl ws H1) {k : Nat} {q : Nat × va_E} (hk : ws[k]? = some q) : q.1 < H1.size := (h k q hk).lt
end VXS
/-! ===== END ===== -/
/-! ===== BEGIN methods with a table of their own: called by a name, returning or throwing ===== -/
section VXH
/-! vx_backW, vx_callVX, vx_callSX, vx_callVW, vx_runVW, vx_runVX, vx_runSX, vx_ofWH follow the same proofs as their sisters above (Free/Laws.lean, Shelf42/LK1.lean); vx_outP calls Shelf42/NT130.lean (outThrough). -/
section
variable {l : Launch} {R : Room} {p : Program} {e : Env} {below : List Frame} {s : State} {sargs : Array Value} {y : MethodName} {len W9 : Nat}
theorem vx_backW {ws : List Cond} {rm : Room} {Pc : Array Value → State → Prop} {Qc : Array Value → State → Outcome → State → Prop} {XC : String → State → State → Prop} {mc ms : Nat} {free : Addr → Prop} {bytes : ByteArray} {maxL : Nat} {ret : Option FieldType} {hh : List (Nat × Nat × Nat × Nat)}
    (hM : vx_Met l y ws rm Pc Qc XC mc ms free) (hblind : FrameBlind Pc) (hrc : rm.cells = mc) (hrs : rm.slots = ms)
    (hframes : rm.frames + 1 ≤ R.frames) (hlocals : W9 + (maxL + 11) + rm.locals ≤ R.locals)
    (hws : ∀ w ∈ ws, ∀ a' U, s.WarmedH U.vm → w.before a' U = true) (hcode : Cond.codeWith y bytes maxL ret hh ∈ ws) (hinit : ∀ a' U, s.WarmedH U.vm → (Cond.initialized y.cls).before a' U = true) :
    vx_Back l R p e below s sargs y len W9 (PreOf R mc ms Pc) (PostOf Qc mc ms free) (vx_Post XC mc ms free) := by
  intro m meth c A g ig mk a X hg hsize hdg hW hn hp
  have h1 : (headSpec ws rm).pre.before a A.U = true := atoms_intro fun w hw => hws w hw _ _ X.warmed
  have h2 : (Cond.codeWith y bytes maxL ret hh).before a A.U = true := hws _ hcode _ _ X.warmed
  have h3 : (Cond.initialized y.cls).before a A.U = true := hinit _ _ X.warmed
  have h4 : A.cells + (headSpec ws rm).room.cells ≤ R.cells := by rw [show (headSpec ws rm).room.cells = mc from hrc]; exact hp.1
  have h5 : A.slots + (headSpec ws rm).room.slots ≤ R.slots := by rw [show (headSpec ws rm).room.slots = ms from hrs]; exact hp.2.1
  have hPc : Pc a (A.U.calling g mk a) := hblind _ _ _ _ hp.2.2
  obtain ⟨U, Ls, c0, s0⟩ := A
  dsimp only [Pt.U, Pt.locs, Pt.cells, Pt.slots] at h1 h2 h3 h4 h5 X hn hPc ⊢
  obtain ⟨m9, methY, cY, hn9, hmY, hcY, -, hlY, -⟩ := Cond.codeWith_spec h2
  cases Option.some.inj (hn9.symm.trans hn)
  obtain ⟨kY, hkY, -⟩ := className_of_methodNamed hn
  have hinitY : kY.init = .initialized := Cond.initialized_spec (findClass_of_methodNamed hn) hkY h3
  have h : At U g.method c below := by rw [hg]; exact X.here
  have hlocals9 : W9 + (maxL + 11) + (headSpec ws rm).room.locals ≤ R.locals := hlocals
  have happ : (headSpec ws rm).appliesLoose y e.platform (U.calling g mk a) = true :=
    Spec.appliesLoose_calling (g := g) h hdg hn hkY hinitY
      (X.room_calling (g := g) (R' := (headSpec ws rm).room) hsize hmY hcY hframes (by rw [hlY]; omega) h4 h5) h1
  obtain ⟨mid, hmid⟩ := h.above
  have hfr : (U.setTop g).frames = (.java g :: mid) ++ below := by rw [State.frames_setTop' g h.top, hmid]; rfl
  obtain ⟨o, s₂, hsteps, -, hend, hq⟩ := Steps.callFree hM p X.admits X.cas X.clock (acts := []) hfr happ hPc trivial
  have hq' : vx_Q Qc XC mc ms free a (U.calling g mk a) o s₂ := hq
  rw [State.frames_setTop' g h.top] at hend
  obtain ⟨g₀, hg0⟩ := Option.isSome_iff_exists.mp h.top
  obtain ⟨r, hr⟩ := State.topJava?_eq_some.mp hg0
  have hr' : (({ U with heap := s₂.heap, slotsUsed := s₂.slotsUsed } : State).setVm s₂.vm).frames = .java g₀ :: r := hr
  rcases hq' with ⟨hqc, L, hfe, hL⟩ | ⟨q, rfl, E, ce, L, hx, hce, hcv, hcl, hW₂, hsm, hL⟩
  · obtain ⟨⟨v, rfl⟩, hW₂, e2, q2, q3, q4, q5, q6⟩ := id hfe
    have e3 : s₂ = ({ (U.calling g mk a).setFrames s₂.frames with heap := s₂.heap, slotsUsed := s₂.slotsUsed } : State).setVm s₂.vm := by
      have : s₂ = ({ s₂ with vm := (U.calling g mk a).vm } : State).setVm s₂.vm := rfl
      rw [e2] at this
      exact this
    obtain ⟨c₂, i₂, len₂, hc₂, hd₂, hf₂⟩ := hend
    have hW' : U.WarmedH s₂.vm := hW₂
    have hcc : c₂ = c := by
      have h1 : s₂.code? g.method = U.code? g.method := by
        rw [State.code?_eq, State.code?_eq, hW'.alike.method?]
      exact Option.some.inj (hc₂.symm.trans (h1.trans h.code))
    subst hcc
    have hlen : len₂ = len := by rw [hdg] at hd₂; cases hd₂; rfl
    subst hlen
    have hs₂ : s₂ = (({ U with heap := s₂.heap, slotsUsed := s₂.slotsUsed } : State).setVm s₂.vm).setTop { g with pc := g.pc + len₂, stack := v.toList ++ g.stack } := by
      refine e3.trans ?_
      rw [hf₂, State.calling_eq h.top, State.setFrames_setFrames, State.setTop_of_frames _ hr', hr]
      rfl
    have hsame : U.sameButNew ({ U with heap := s₂.heap, slotsUsed := s₂.slotsUsed } : State) L mc ms := by
      refine ⟨?_, q2, q3, q4, q5, q6⟩
      obtain ⟨t, ht, -⟩ := State.frames_cons hr
      show ({ U with heap := s₂.heap, slotsUsed := s₂.slotsUsed } : State) = { U.setFrames U.frames with heap := s₂.heap, slotsUsed := s₂.slotsUsed }
      rw [State.setFrames_self ht]
    subst hg
    refine Or.inl ⟨v, ⟨(({ U with heap := s₂.heap, slotsUsed := s₂.slotsUsed } : State).setVm s₂.vm), Ls ++ L, c0 + mc, s0 + ms⟩,
      ⟨X.admits, X.cas, X.clock, X.frames, X.room, X.hears, X.method, X.code, (X.here.setHeapUsed s₂.heap s₂.slotsUsed).setVm hW'.alike, X.tail, State.WarmedH.trans X.warmed hW', X.limits, X.bytes, X.same.trans (hsame.setVm s.vm)⟩,
      ⟨g, mk, s₂, L, rfl, rfl, hqc, rfl, hL, rfl, rfl⟩, ?_⟩
    show Steps p.tables e below _ ((({ U with heap := s₂.heap, slotsUsed := s₂.slotsUsed } : State).setVm s₂.vm).setTop { g with pc := g.pc + len₂, stack := v.toList ++ g.stack })
    rw [← hs₂]
    exact hsteps
  · obtain ⟨e2, q2, q3, q4, q5, q6⟩ := id hsm
    have e3 : s₂ = ({ (U.calling g mk a).setFrames s₂.frames with heap := s₂.heap, slotsUsed := s₂.slotsUsed } : State).setVm s₂.vm := by
      have : s₂ = ({ s₂ with vm := (U.calling g mk a).vm } : State).setVm s₂.vm := rfl
      rw [e2] at this
      exact this
    have hf₂ : s₂.frames = .throwing q :: .java g :: U.frames.tail := hend
    have hW' : U.WarmedH s₂.vm := hW₂
    have hs₂ : s₂ = ((({ U with heap := s₂.heap, slotsUsed := s₂.slotsUsed } : State).setVm s₂.vm).setTop g).pushFrame (.throwing q) := by
      refine e3.trans ?_
      rw [hf₂, State.calling_eq h.top, State.setFrames_setFrames, State.pushFrame, State.frames_setTop _ hr', State.setTop_of_frames _ hr', State.setFrames_setFrames, hr]
      rfl
    have hsame : U.sameButNew ({ U with heap := s₂.heap, slotsUsed := s₂.slotsUsed } : State) L mc ms := by
      refine ⟨?_, q2, q3, q4, q5, q6⟩
      obtain ⟨t, ht, -⟩ := State.frames_cons hr
      show ({ U with heap := s₂.heap, slotsUsed := s₂.slotsUsed } : State) = { U.setFrames U.frames with heap := s₂.heap, slotsUsed := s₂.slotsUsed }
      rw [State.setFrames_self ht]
    subst hg
    refine Or.inr ⟨q, ⟨(({ U with heap := s₂.heap, slotsUsed := s₂.slotsUsed } : State).setVm s₂.vm), Ls ++ L, c0 + mc, s0 + ms⟩,
      ⟨X.admits, X.cas, X.clock, X.frames, X.room, X.hears, X.method, X.code, (X.here.setHeapUsed s₂.heap s₂.slotsUsed).setVm hW'.alike, X.tail, State.WarmedH.trans X.warmed hW', X.limits, X.bytes, X.same.trans (hsame.setVm s.vm)⟩,
      ⟨g, mk, s₂, L, E, ce, rfl, rfl, hx, hce, hcv, hcl, rfl, hL, rfl, rfl⟩, ?_⟩
    show Steps p.tables e below _ (((({ U with heap := s₂.heap, slotsUsed := s₂.slotsUsed } : State).setVm s₂.vm).setTop g).pushFrame (.throwing q))
    rw [← hs₂]
    exact hsteps
end
variable {p : Program} {l : Launch} {e : Env} {R : Room} {s : State} {m : MethodId} {args : Array Value} {below : List Frame} {meth : Method} {c : Code} {T : State} {H : Heap} {locs : List Loc} {cells slots : Nat}
theorem vx_callVX (X : Stand p l e R s m args below meth c T locs cells slots) (hexec : p.tables.exec = Jvm.exec) {own C : String} {index : Nat} {y : MethodName} {bytes : ByteArray} {maxL : Nat} {ret : Option FieldType} {hh : List (Nat × Nat × Nat × Nat)}
    (hown : s.vm.findClass own = some m.cls) (hlink : (Cond.methodLink own index y).before args s = true) (hinst : (Cond.instanceMethod y).before args s = true) (hsel : (Cond.selects C y y).before args s = true)
    (hcode : (Cond.codeWith y bytes maxL ret hh).before args s = true) (hy : y.cls ≠ "java/lang/invoke/MethodHandle" ∧ y.cls ≠ "java/lang/invoke/VarHandle")
    {W9 : Nat} {Pre : Pt → Array Value → Prop} {Post : Pt → Array Value → Option Value → Pt → Prop} {PostX : Pt → Array Value → Addr → Pt → Prop} (hK : vx_Back l R p e below s args y 3 W9 Pre Post PostX)
    {b : Addr} {cellB : Cell} (hcell : T.heap[b]? = some cellB) (hobj : cellB.vm.isStatics = false) (hcls : s.vm.findClass C = some cellB.cls)
    {g : JFrame} (hg : g.method = m) (hsize : g.locals.size = c.maxLocals) {argsL rest : List Value} (hlen : ∀ sig, parseMethodDescriptor y.desc = some sig → argsL.length = sig.parameters.length)
    (hstack : g.stack = argsL.reverse ++ .ref b :: rest) (hW : 2 * g.monitorRoom + (rest.map fun v => v.category).sum ≤ W9) (hdg : decode c.code g.pc = .ok (.invokevirtual index, 3))
    (hpre : ∀ vm₁, s.WarmedH vm₁ → Pre ⟨T.setVm vm₁, locs, cells, slots⟩ (Value.ref b :: argsL).toArray) :
    (∃ (v : Option Value) (vm₁ : Vm) (B : Pt), s.WarmedH vm₁ ∧ Stand p l e R s m args below meth c B.U B.locs B.cells B.slots ∧ Post ⟨T.setVm vm₁, locs, cells, slots⟩ (Value.ref b :: argsL).toArray v B ∧
      ∀ target, Steps p.tables e below (B.U.setTop { g with pc := g.pc + 3, stack := v.toList ++ rest }) target → Steps p.tables e below (T.setTop g) target) ∨
    (∃ (q : Addr) (vm₁ : Vm) (B : Pt), s.WarmedH vm₁ ∧ Stand p l e R s m args below meth c B.U B.locs B.cells B.slots ∧ PostX ⟨T.setVm vm₁, locs, cells, slots⟩ (Value.ref b :: argsL).toArray q B ∧
      Steps p.tables e below (T.setTop g) ((B.U.setTop { g with stack := rest }).pushFrame (.throwing q))) := by
  obtain ⟨mk, methM, hnamed, hmethM, hstM, habM⟩ := Cond.instanceMethod_spec hinst
  obtain ⟨m8, methM', cM, hn8, hmethM', -, -, -, -, -, -, hsigM⟩ := Cond.codeWith_spec hcode
  cases Option.some.inj (hn8.symm.trans hnamed)
  cases hmethM.symm.trans hmethM'
  obtain ⟨c2, r2, m2, q1, q2, q3, q4, kP, hkP, hkPi⟩ := Cond.selects_spec hsel
  cases hcls.symm.trans q1
  cases (State.methodFound?_of_named hnamed hy).symm.trans q2
  cases hnamed.symm.trans q3
  have hselP : selectMethod e.platform s.vm cellB.cls mk = .method mk := by rw [Launch.admits_selectMethod X.admits]; exact q4
  obtain ⟨vm₁, X₁, hstep₁⟩ := X.invokevirtual hexec hown hlink hnamed hmethM hstM hkP hkPi hy (a := b) (cell := cellB) hcell
    (fun z h => by rw [h] at hobj; cases hobj) hselP hmethM habM hkP hkPi (g := g) hg (argsL := argsL) (rest := rest) (hlen _ hsigM) hstack hdg
  rcases hK m meth c ⟨T.setVm vm₁, locs, cells, slots⟩ { g with stack := rest } (.invokevirtual index) mk (Value.ref b :: argsL).toArray X₁ hg hsize hdg hW (X₁.named hnamed) (hpre vm₁ X₁.warmed) with ⟨v, B, X', hpost, hsteps⟩ | ⟨q, B, X', hpost, hsteps⟩
  · exact Or.inl ⟨v, vm₁, B, X₁.warmed, X', hpost, fun target h => hstep₁ _ fun acts => by rw [doInvoke_state]; exact hsteps.trans h⟩
  · exact Or.inr ⟨q, vm₁, B, X₁.warmed, X', hpost, hstep₁ _ fun acts => by rw [doInvoke_state]; exact hsteps⟩
theorem vx_callSX (X : Stand p l e R s m args below meth c T locs cells slots) (hexec : p.tables.exec = Jvm.exec) {own : String} {index : Nat} {y : MethodName} {bytes : ByteArray} {maxL : Nat} {ret : Option FieldType} {hh : List (Nat × Nat × Nat × Nat)}
    (hown : s.vm.findClass own = some m.cls) (hlink : (Cond.methodLink own index y).before args s = true) (hstat : (Cond.static y).before args s = true) (hinit : (Cond.initialized y.cls).before args s = true)
    (hcode : (Cond.codeWith y bytes maxL ret hh).before args s = true) (hy : y.cls ≠ "java/lang/invoke/MethodHandle" ∧ y.cls ≠ "java/lang/invoke/VarHandle")
    {W9 : Nat} {Pre : Pt → Array Value → Prop} {Post : Pt → Array Value → Option Value → Pt → Prop} {PostX : Pt → Array Value → Addr → Pt → Prop} (hK : vx_Back l R p e below s args y 3 W9 Pre Post PostX)
    {g : JFrame} (hg : g.method = m) (hsize : g.locals.size = c.maxLocals) {argsL rest : List Value} (hlen : ∀ sig, parseMethodDescriptor y.desc = some sig → argsL.length = sig.parameters.length)
    (hstack : g.stack = argsL.reverse ++ rest) (hW : 2 * g.monitorRoom + (rest.map fun v => v.category).sum ≤ W9) (hdg : decode c.code g.pc = .ok (.invokestatic index, 3))
    (hpre : ∀ vm₁, s.WarmedH vm₁ → Pre ⟨T.setVm vm₁, locs, cells, slots⟩ argsL.toArray) :
    (∃ (v : Option Value) (vm₁ : Vm) (B : Pt), s.WarmedH vm₁ ∧ Stand p l e R s m args below meth c B.U B.locs B.cells B.slots ∧ Post ⟨T.setVm vm₁, locs, cells, slots⟩ argsL.toArray v B ∧
      ∀ target, Steps p.tables e below (B.U.setTop { g with pc := g.pc + 3, stack := v.toList ++ rest }) target → Steps p.tables e below (T.setTop g) target) ∨
    (∃ (q : Addr) (vm₁ : Vm) (B : Pt), s.WarmedH vm₁ ∧ Stand p l e R s m args below meth c B.U B.locs B.cells B.slots ∧ PostX ⟨T.setVm vm₁, locs, cells, slots⟩ argsL.toArray q B ∧
      Steps p.tables e below (T.setTop g) ((B.U.setTop { g with stack := rest }).pushFrame (.throwing q))) := by
  obtain ⟨mk, methM, cM, hnamed, hmethM, -, -, -, -, -, -, hsigM⟩ := Cond.codeWith_spec hcode
  have hstatic : methM.isStatic = true := Cond.static_spec hnamed hmethM hstat
  obtain ⟨kP, hkP, -⟩ := className_of_methodNamed hnamed
  have hinitP : kP.init = .initialized := Cond.initialized_spec (findClass_of_methodNamed hnamed) hkP hinit
  obtain ⟨vm₁, X₁, hstep₁⟩ := X.invokestatic hexec hown hlink hnamed hmethM hstatic hkP hinitP hy (g := g) hg (argsL := argsL) (rest := rest) (hlen _ hsigM) hstack hdg
  rcases hK m meth c ⟨T.setVm vm₁, locs, cells, slots⟩ { g with stack := rest } (.invokestatic index) mk argsL.toArray X₁ hg hsize hdg hW (X₁.named hnamed) (hpre vm₁ X₁.warmed) with ⟨v, B, X', hpost, hsteps⟩ | ⟨q, B, X', hpost, hsteps⟩
  · exact Or.inl ⟨v, vm₁, B, X₁.warmed, X', hpost, fun target h => hstep₁ _ fun acts => by rw [doInvoke_state]; exact hsteps.trans h⟩
  · exact Or.inr ⟨q, vm₁, B, X₁.warmed, X', hpost, hstep₁ _ fun acts => by rw [doInvoke_state]; exact hsteps⟩
theorem vx_callVW (X : Stand p l e R s m args below meth c T locs cells slots) (hexec : p.tables.exec = Jvm.exec) {own C : String} {index : Nat} {y : MethodName} {bytes : ByteArray} {maxL : Nat} {ret : Option FieldType} {hh : List (Nat × Nat × Nat × Nat)}
    (hown : s.vm.findClass own = some m.cls) (hlink : (Cond.methodLink own index y).before args s = true) (hinst : (Cond.instanceMethod y).before args s = true) (hsel : (Cond.selects C y y).before args s = true)
    (hcode : (Cond.codeWith y bytes maxL ret hh).before args s = true) (hy : y.cls ≠ "java/lang/invoke/MethodHandle" ∧ y.cls ≠ "java/lang/invoke/VarHandle")
    {W9 : Nat} {Pre : Pt → Array Value → Prop} {Post : Pt → Array Value → Option Value → Pt → Prop} (hK : Back l R p e below s args y 3 W9 Pre Post)
    {b : Addr} {cellB : Cell} (hcell : T.heap[b]? = some cellB) (hobj : cellB.vm.isStatics = false) (hcls : s.vm.findClass C = some cellB.cls)
    {g : JFrame} (hg : g.method = m) (hsize : g.locals.size = c.maxLocals) {argsL rest : List Value} (hlen : ∀ sig, parseMethodDescriptor y.desc = some sig → argsL.length = sig.parameters.length)
    (hstack : g.stack = argsL.reverse ++ .ref b :: rest) (hW : 2 * g.monitorRoom + (rest.map fun v => v.category).sum ≤ W9) (hdg : decode c.code g.pc = .ok (.invokevirtual index, 3))
    (hpre : ∀ vm₁, s.WarmedH vm₁ → Pre ⟨T.setVm vm₁, locs, cells, slots⟩ (Value.ref b :: argsL).toArray) :
    ∃ (v : Option Value) (vm₁ : Vm) (B : Pt), s.WarmedH vm₁ ∧ Stand p l e R s m args below meth c B.U B.locs B.cells B.slots ∧ Post ⟨T.setVm vm₁, locs, cells, slots⟩ (Value.ref b :: argsL).toArray v B ∧
      ∀ target, Steps p.tables e below (B.U.setTop { g with pc := g.pc + 3, stack := v.toList ++ rest }) target → Steps p.tables e below (T.setTop g) target := by
  obtain ⟨mk, methM, hnamed, hmethM, hstM, habM⟩ := Cond.instanceMethod_spec hinst
  obtain ⟨m8, methM', cM, hn8, hmethM', -, -, -, -, -, -, hsigM⟩ := Cond.codeWith_spec hcode
  cases Option.some.inj (hn8.symm.trans hnamed)
  cases hmethM.symm.trans hmethM'
  obtain ⟨c2, r2, m2, q1, q2, q3, q4, kP, hkP, hkPi⟩ := Cond.selects_spec hsel
  cases hcls.symm.trans q1
  cases (State.methodFound?_of_named hnamed hy).symm.trans q2
  cases hnamed.symm.trans q3
  have hselP : selectMethod e.platform s.vm cellB.cls mk = .method mk := by rw [Launch.admits_selectMethod X.admits]; exact q4
  obtain ⟨vm₁, X₁, hstep₁⟩ := X.invokevirtual hexec hown hlink hnamed hmethM hstM hkP hkPi hy (a := b) (cell := cellB) hcell
    (fun z h => by rw [h] at hobj; cases hobj) hselP hmethM habM hkP hkPi (g := g) hg (argsL := argsL) (rest := rest) (hlen _ hsigM) hstack hdg
  obtain ⟨v, B, X', hpost, hsteps⟩ := hK m meth c ⟨T.setVm vm₁, locs, cells, slots⟩ { g with stack := rest } (.invokevirtual index) mk (Value.ref b :: argsL).toArray X₁ hg hsize hdg hW (X₁.named hnamed) (hpre vm₁ X₁.warmed)
  exact ⟨v, vm₁, B, X₁.warmed, X', hpost, fun target h => hstep₁ _ fun acts => by rw [doInvoke_state]; exact hsteps.trans h⟩
abbrev vx_CVW (R : Room) (s : State) (args : Array Value) (own C : String) (index : Nat) (y : MethodName) (bytes : ByteArray) (maxL : Nat) (ret : Option FieldType) (hh : List (Nat × Nat × Nat × Nat)) (ws : List Cond) (rm : Room) (mc ms n : Nat) : Prop :=
  (rm.cells = mc ∧ rm.slots = ms ∧ rm.frames + 1 ≤ R.frames ∧ 8 + (maxL + 11) + rm.locals ≤ R.locals ∧ (∀ w ∈ ws, ∀ (a' : Array Value) (U : State), s.WarmedH U.vm → w.before a' U = true) ∧ Cond.codeWith y bytes maxL ret hh ∈ ws) ∧
  (Cond.codeWith y bytes maxL ret hh).before args s = true ∧ (Cond.initialized y.cls).before args s = true ∧ (y.cls ≠ "java/lang/invoke/MethodHandle" ∧ y.cls ≠ "java/lang/invoke/VarHandle") ∧
  (∀ sig, parseMethodDescriptor y.desc = some sig → n = sig.parameters.length) ∧ (Cond.methodLink own index y).before args s = true ∧ (Cond.instanceMethod y).before args s = true ∧ (Cond.selects C y y).before args s = true
theorem vx_cwVW {own C : String} {index maxL mc ms : Nat} {y : MethodName} {bytes : ByteArray} {ret : Option FieldType} {hh : List (Nat × Nat × Nat × Nat)} {Ts ws ws' : List Cond} {rm : Room} (n : Nat) (ht : ∀ w ∈ Ts, w.before args s = true) (hT : GoodIn Ts (wsV own index C y ws)) (hw : ws = Cond.codeWith y bytes maxL ret hh :: ws') (hrc : rm.cells = mc) (hrs : rm.slots = ms)
    (hd : y.cls = C ∧ y.cls ≠ "java/lang/invoke/MethodHandle" ∧ y.cls ≠ "java/lang/invoke/VarHandle" ∧ (parseMethodDescriptor y.desc).map (fun d => d.parameters.length) = some n) (hR : rm.frames + 1 ≤ R.frames ∧ 8 + (maxL + 11) + rm.locals ≤ R.locals) :
    vx_CVW R s args own C index y bytes maxL ret hh ws rm mc ms n := by
  obtain ⟨hC, hd⟩ := hd
  subst hC
  have ok : ∀ w ∈ wsV own index y.cls y ws, w.before args s = true := fun w h => ht w (hT w h).1
  have hG : GoodIn Ts ws := fun w h => hT w (by unfold wsV; exact List.mem_append_right _ h)
  have hc : Cond.codeWith y bytes maxL ret hh ∈ ws := by rw [hw]; exact List.mem_cons_self
  refine ⟨⟨hrc, hrs, hR.1, hR.2, pay_in ht hG, hc⟩, ht _ (hG _ hc).1, ok _ (by simp [wsV]), ⟨hd.1, hd.2.1⟩, fun sig h => ?_, ok _ (by simp [wsV]), ok _ (by simp [wsV]), ok _ (by simp [wsV])⟩
  have h2 := hd.2.2
  rw [h] at h2
  exact (Option.some.inj h2).symm
theorem vx_runVW {y : MethodName} {bytes cc : ByteArray} {maxL nL mc ms n index : Nat} {ret : Option FieldType} {hh : List (Nat × Nat × Nat × Nat)} {ws : List Cond} {rm : Room} {Pc : Array Value → State → Prop} {Qc : Array Value → State → Outcome → State → Prop} {free : Addr → Prop} {Ts : List Cond} {own C : String} {b : Addr} {As rest : List Value} {g : JFrame}
    (S : CallFix p m c cc nL s args Ts own) (hM : Met l y ws rm Pc Qc mc ms free) (cw : vx_CVW R s args own C index y bytes maxL ret hh ws rm mc ms n) (hp : PreV s H C b Pc As)
    (hg : g.method = m) (hn : As.length = n) (hsize : g.locals.size = nL) (hstack : g.stack = As.reverse ++ .ref b :: rest) (hW : 2 * g.monitorRoom + (rest.map fun v => v.category).sum ≤ 8) (hdg : decode cc g.pc = .ok (.invokevirtual index, 3)) (hf : cells + mc ≤ R.cells ∧ slots + ms ≤ R.slots) :
    va_Run p l e R s m args below meth c H locs cells slots mc ms g rest (Qc (Value.ref b :: As).toArray) free := by
  obtain ⟨⟨hrc, hrs, hfr, hlo, hws, hcw⟩, hcode, hini, hy, hlen, hl, hin, hse⟩ := cw
  have hK : Back l R p e below s args y 3 8 (PreOf R mc ms Pc) (PostOf Qc mc ms free) := va_backW (hh := hh) (bytes := bytes) (maxL := maxL) (ret := ret) hM hp.1 hrc hrs hfr hlo hws hcw (fun a' U hW => word_at hW (Or.inl (by first | rfl | simp [Cond.onTables, Cond.keeps, Cond.steady])) hini)
  obtain ⟨hx, hb, hml, ho, -⟩ := S
  obtain ⟨-, ⟨cellB, hcB, hoB, hclB⟩, hPc⟩ := hp
  intro T hT X
  obtain ⟨v, vm₁, ⟨U', l2, c2, s2⟩, hW₁, X', ⟨g', mk, t, L, e1, e2, hq, h1, hL, h2, h3⟩, st⟩ := vx_callVW X hx (C := C) (hh := hh) (bytes := bytes) (maxL := maxL) (ret := ret) ho hl hin hse hcode hy hK (by rw [hT]; exact hcB) hoB hclB hg (hsize.trans hml.symm) (argsL := As) (rest := rest) (fun sig h => hn.trans (hlen sig h)) hstack hW (by rw [hb]; exact hdg)
    (fun vm₁ hW₁ => ⟨hf.1, hf.2, hPc (T.setVm vm₁) hT hW₁⟩)
  dsimp only [Pt.U, Pt.locs, Pt.cells, Pt.slots] at X' e1 e2 h1 h2 h3 st
  subst h1; subst h2; subst h3
  exact ⟨v, (T.setVm vm₁).calling g' mk (Value.ref b :: As).toArray, t, U', L, hT, X', hL, e1, e2, hq, st⟩
section
variable {y : MethodName} {bytes cc : ByteArray} {maxL nL mc ms n index : Nat} {ret : Option FieldType} {ws : List Cond} {rm : Room} {Pc : Array Value → State → Prop} {Qc : Array Value → State → Outcome → State → Prop} {XC : String → State → State → Prop} {free : Addr → Prop} {Ts : List Cond} {own C : String} {b : Addr} {As rest : List Value} {g : JFrame}
theorem vx_runVX {hh : List (Nat × Nat × Nat × Nat)} (S : CallFix p m c cc nL s args Ts own) (hM : vx_Met l y ws rm Pc Qc XC mc ms free) (cw : vx_CVW R s args own C index y bytes maxL ret hh ws rm mc ms n) (hp : PreV s H C b Pc As)
    (hg : g.method = m) (hn : As.length = n) (hsize : g.locals.size = nL) (hstack : g.stack = As.reverse ++ .ref b :: rest) (hW : 2 * g.monitorRoom + (rest.map fun v => v.category).sum ≤ 8) (hdg : decode cc g.pc = .ok (.invokevirtual index, 3)) (hf : cells + mc ≤ R.cells ∧ slots + ms ≤ R.slots) :
    vx_Run p l e R s m args below meth c H locs cells slots mc ms g rest (Qc (Value.ref b :: As).toArray) XC free := by
  obtain ⟨⟨hrc, hrs, hfr, hlo, hws, hcw⟩, hcode, hini, hy, hlen, hl, hin, hse⟩ := cw
  have hK : vx_Back l R p e below s args y 3 8 (PreOf R mc ms Pc) (PostOf Qc mc ms free) (vx_Post XC mc ms free) := vx_backW (hh := hh) (bytes := bytes) (maxL := maxL) (ret := ret) hM hp.1 hrc hrs hfr hlo hws hcw (fun a' U hW => word_at hW (Or.inl (by first | rfl | simp [Cond.onTables, Cond.keeps, Cond.steady])) hini)
  obtain ⟨hx, hb, hml, ho, -⟩ := S
  obtain ⟨-, ⟨cellB, hcB, hoB, hclB⟩, hPc⟩ := hp
  intro T hT X
  rcases vx_callVX X hx (C := C) (hh := hh) (bytes := bytes) (maxL := maxL) (ret := ret) ho hl hin hse hcode hy hK (by rw [hT]; exact hcB) hoB hclB hg (hsize.trans hml.symm) (argsL := As) (rest := rest) (fun sig h => hn.trans (hlen sig h)) hstack hW (by rw [hb]; exact hdg)
    (fun vm₁ hW₁ => ⟨hf.1, hf.2, hPc (T.setVm vm₁) hT hW₁⟩) with ⟨v, vm₁, ⟨U', l2, c2, s2⟩, hW₁, X', ⟨g', mk, t, L, e1, e2, hq, h1, hL, h2, h3⟩, st⟩ | ⟨q, vm₁, ⟨U', l2, c2, s2⟩, hW₁, X', ⟨g', mk, t, L, E, ce, e1, e2, hq, hce, hcv, hcl, h1, hL, h2, h3⟩, st⟩
  · dsimp only [Pt.U, Pt.locs, Pt.cells, Pt.slots] at X' e1 e2 h1 h2 h3 st
    subst h1; subst h2; subst h3
    exact Or.inl ⟨v, (T.setVm vm₁).calling g' mk (Value.ref b :: As).toArray, t, U', L, hT, X', hL, e1, e2, hq, st⟩
  · dsimp only [Pt.U, Pt.locs, Pt.cells, Pt.slots] at X' e1 e2 h1 h2 h3 st hcl
    subst h1; subst h2; subst h3
    exact Or.inr ⟨q, (T.setVm vm₁).calling g' mk (Value.ref b :: As).toArray, t, U', L, E, ce, hT, X', hL, e1, e2, hq, hce, hcv, vx_cls hW₁ hcl, st⟩
theorem vx_runSX {hh : List (Nat × Nat × Nat × Nat)} (S : CallFix p m c cc nL s args Ts own) (hM : vx_Met l y ws rm Pc Qc XC mc ms free) (cw : vx_CSW R s args own index y bytes maxL ret hh ws rm mc ms n) (hp : PreS s H Pc As)
    (hg : g.method = m) (hn : As.length = n) (hsize : g.locals.size = nL) (hstack : g.stack = As.reverse ++ rest) (hW : 2 * g.monitorRoom + (rest.map fun v => v.category).sum ≤ 8) (hdg : decode cc g.pc = .ok (.invokestatic index, 3)) (hf : cells + mc ≤ R.cells ∧ slots + ms ≤ R.slots) :
    vx_Run p l e R s m args below meth c H locs cells slots mc ms g rest (Qc As.toArray) XC free := by
  obtain ⟨⟨hrc, hrs, hfr, hlo, hws, hcw⟩, hcode, hini, hy, hlen, hl, hstt⟩ := cw
  have hK : vx_Back l R p e below s args y 3 8 (PreOf R mc ms Pc) (PostOf Qc mc ms free) (vx_Post XC mc ms free) := vx_backW (hh := hh) (bytes := bytes) (maxL := maxL) (ret := ret) hM hp.1 hrc hrs hfr hlo hws hcw (fun a' U hW => word_at hW (Or.inl (by first | rfl | simp [Cond.onTables, Cond.keeps, Cond.steady])) hini)
  obtain ⟨hx, hb, hml, ho, -⟩ := S
  intro T hT X
  rcases vx_callSX X hx (hh := hh) (bytes := bytes) (maxL := maxL) (ret := ret) ho hl hstt hini hcode hy hK hg (hsize.trans hml.symm) (argsL := As) (rest := rest) (fun sig h => hn.trans (hlen sig h)) hstack hW (by rw [hb]; exact hdg)
    (fun vm₁ hW₁ => ⟨hf.1, hf.2, hp.2 (T.setVm vm₁) hT hW₁⟩) with ⟨v, vm₁, ⟨U', l2, c2, s2⟩, hW₁, X', ⟨g', mk, t, L, e1, e2, hq, h1, hL, h2, h3⟩, st⟩ | ⟨q, vm₁, ⟨U', l2, c2, s2⟩, hW₁, X', ⟨g', mk, t, L, E, ce, e1, e2, hq, hce, hcv, hcl, h1, hL, h2, h3⟩, st⟩
  · dsimp only [Pt.U, Pt.locs, Pt.cells, Pt.slots] at X' e1 e2 h1 h2 h3 st
    subst h1; subst h2; subst h3
    exact Or.inl ⟨v, (T.setVm vm₁).calling g' mk As.toArray, t, U', L, hT, X', hL, e1, e2, hq, st⟩
  · dsimp only [Pt.U, Pt.locs, Pt.cells, Pt.slots] at X' e1 e2 h1 h2 h3 st hcl
    subst h1; subst h2; subst h3
    exact Or.inr ⟨q, (T.setVm vm₁).calling g' mk As.toArray, t, U', L, E, ce, hT, X', hL, e1, e2, hq, hce, hcv, vx_cls hW₁ hcl, st⟩
end
end VXH
theorem vx_ofWH {l : Launch} {y : MethodName} {ws ws' : List Cond} {rm : Room} {Pc : Array Value → State → Prop} {Qc : Array Value → State → Outcome → State → Prop} {XC : String → State → State → Prop} {mc ms : Nat} {free : Addr → Prop} {cc : ByteArray} {maxL : Nat} {ret : Option FieldType} {hh : List (Nat × Nat × Nat × Nat)}
    (hy : plainName y.cls = true) (hw : ws = Cond.codeWith y cc maxL ret hh :: ws')
    (body : ∀ p e s m args below meth c s₁, BodyLoose p l y (headSpec ws rm) cc maxL ret e s m args below meth c s₁ → c.maxLocals = maxL → Pc args s →
      W p l e (headSpec ws rm).room s m args below meth c s.heap [] 0 0 (vx_MQ below Qc XC args s mc ms free) (entryFrame m args maxL)) : vx_Met l y ws rm Pc Qc XC mc ms free := by
  refine MetFree.of_bodyS (code := cc) (maxLocals := maxL) (ret := ret) hy ?_ ?_
  · intro args s m h hn
    obtain ⟨m9, meth, c, hn9, h1, h2, h3, h4, -, h5, h6, -⟩ := Cond.codeWith_spec (atoms_spec (ws := ws) h _ (by rw [hw]; exact List.mem_cons_self))
    cases hn.symm.trans hn9
    exact ⟨meth, c, h1, h2, h3, h4, h5, h6⟩
  · intro p e s m args below meth c s₁ B hml hP _
    have hh0 : s₁.heap = s.heap := by rw [B.state]; rfl
    obtain ⟨t, a1, o, b1, b2, b3⟩ := body p e s m args below meth c s₁ B hml hP s₁ hh0 (Stand.of_body B)
    exact ⟨t, o, a1, b1, b2, b3⟩
/-! ===== END ===== -/
end
section
/-! ===== BEGIN printed: names, fields, word lists, decode rows ===== -/
def RX0 : String := "RegisterGateway$Cache"
def TX0 : u_T := fun k => match k with
  | 0 => ("RegisterGateway$Cache", "values", "[I", true)
  | _ => ("RegisterGateway$Cache", "times", "[I", true)
def tyX0 : Nat → FieldType := fun k => match k with
  | 0 => .array .int
  | _ => .array .int
abbrev wsX00 : List Cond := u_ws RX0 TX0 2
theorem nmX0 : ∀ a, a < 2 → ∀ b, b < 2 → a ≠ b → (TX0 a).2.1 ≠ (TX0 b).2.1 := by decide +kernel
theorem tyX0_ok : ∀ k, k < 2 → parseFieldDescriptor (TX0 k).2.2.1 = some (tyX0 k) := by decide +kernel
abbrev cX0_init : ByteArray := prog_2_method_1_code
def yX0_init : MethodName := ⟨RX0, "<init>", "()V"⟩
abbrev cX0_copyFrom : ByteArray := prog_2_method_2_code
def yX0_copyFrom : MethodName := ⟨RX0, "copyFrom", "(LRegisterGateway$Cache;)V"⟩
abbrev cX0_placeOf : ByteArray := prog_2_method_3_code
def yX0_placeOf : MethodName := ⟨RX0, "placeOf", "(II)I"⟩
abbrev cX0_valueOf : ByteArray := prog_2_method_4_code
def yX0_valueOf : MethodName := ⟨RX0, "valueOf", "(II)I"⟩
abbrev cX0_ageOf : ByteArray := prog_2_method_5_code
def yX0_ageOf : MethodName := ⟨RX0, "ageOf", "(III)I"⟩
abbrev cX0_isFresh : ByteArray := prog_2_method_6_code
def yX0_isFresh : MethodName := ⟨RX0, "isFresh", "(IIII)Z"⟩
abbrev cX0_put : ByteArray := prog_2_method_7_code
def yX0_put : MethodName := ⟨RX0, "put", "(IIII)V"⟩
abbrev cX0_forget : ByteArray := prog_2_method_8_code
def yX0_forget : MethodName := ⟨RX0, "forget", "(II)V"⟩
abbrev cX0_empty : ByteArray := prog_2_method_9_code
def yX0_empty : MethodName := ⟨RX0, "empty", "()I"⟩
def RX1 : String := "RegisterGateway$Core"
def TX1 : u_T := fun k => match k with
  | 0 => ("RegisterGateway$Core", "settings", "[I", true)
  | 1 => ("RegisterGateway$Core", "counts", "[I", true)
  | 2 => ("RegisterGateway$Core", "devices", "[LRegisterGateway$Device;", true)
  | 3 => ("RegisterGateway$Core", "cache", "LRegisterGateway$Cache;", true)
  | 4 => ("RegisterGateway$Core", "queue", "LRegisterGateway$Queue;", true)
  | 5 => ("RegisterGateway$Core", "line", "LRegisterGateway$Line;", true)
  | 6 => ("RegisterGateway$Core", "frame", "LRegisterGateway$Frame;", true)
  | 7 => ("RegisterGateway$Core", "now", "I", false)
  | 8 => ("RegisterGateway$Core", "tried", "I", false)
  | 9 => ("RegisterGateway$Core", "latestMissed", "Z", false)
  | _ => ("RegisterGateway$Core", "tookFalseReply", "Z", false)
def tyX1 : Nat → FieldType := fun k => match k with
  | 0 => .array .int
  | 1 => .array .int
  | 2 => .array (.object "RegisterGateway$Device")
  | 3 => .object "RegisterGateway$Cache"
  | 4 => .object "RegisterGateway$Queue"
  | 5 => .object "RegisterGateway$Line"
  | 6 => .object "RegisterGateway$Frame"
  | 7 => .int
  | 8 => .int
  | 9 => .boolean
  | _ => .boolean
abbrev wsX10 : List Cond := u_ws RX1 TX1 11
theorem nmX1 : ∀ a, a < 11 → ∀ b, b < 11 → a ≠ b → (TX1 a).2.1 ≠ (TX1 b).2.1 := by decide +kernel
theorem tyX1_ok : ∀ k, k < 11 → parseFieldDescriptor (TX1 k).2.2.1 = some (tyX1 k) := by decide +kernel
abbrev cX1_init : ByteArray := prog_3_method_1_code
def yX1_init : MethodName := ⟨RX1, "<init>", "()V"⟩
abbrev cX1_copyFrom : ByteArray := prog_3_method_2_code
def yX1_copyFrom : MethodName := ⟨RX1, "copyFrom", "(LRegisterGateway$Core;)V"⟩
abbrev cX1_plan : ByteArray := prog_3_method_3_code
def yX1_plan : MethodName := ⟨RX1, "plan", "()V"⟩
abbrev cX1_cacheAnswers : ByteArray := prog_3_method_4_code
def yX1_cacheAnswers : MethodName := ⟨RX1, "cacheAnswers", "(LRegisterGateway$Request;)Z"⟩
abbrev cX1_buildWriteFrame : ByteArray := prog_3_method_5_code
def yX1_buildWriteFrame : MethodName := ⟨RX1, "buildWriteFrame", "()V"⟩
abbrev cX1_takeStep : ByteArray := prog_3_method_6_code
def yX1_takeStep : MethodName := ⟨RX1, "takeStep", "()I"⟩
abbrev cX1_endFromCache : ByteArray := prog_3_method_7_code
def yX1_endFromCache : MethodName := ⟨RX1, "endFromCache", "(LRegisterGateway$Request;)V"⟩
abbrev cX1_tryFrame : ByteArray := prog_3_method_8_code
def yX1_tryFrame : MethodName := ⟨RX1, "tryFrame", "(LRegisterGateway$Device;)LRegisterGateway$Reply;"⟩
abbrev cX1_noteTaken : ByteArray := prog_3_method_9_code
def yX1_noteTaken : MethodName := ⟨RX1, "noteTaken", "(LRegisterGateway$Reply;)V"⟩
abbrev cX1_failGroup : ByteArray := prog_3_method_10_code
def yX1_failGroup : MethodName := ⟨RX1, "failGroup", "(I)V"⟩
abbrev cX1_finishGroup : ByteArray := prog_3_method_11_code
def yX1_finishGroup : MethodName := ⟨RX1, "finishGroup", "(LRegisterGateway$Frame;)V"⟩
def RX2 : String := "RegisterGateway$Device"
def TX2 : u_T := fun k => match k with
  | 0 => ("RegisterGateway$Device", "registers", "[I", true)
  | 1 => ("RegisterGateway$Device", "faultKinds", "[I", true)
  | 2 => ("RegisterGateway$Device", "faultNumbers", "[I", true)
  | 3 => ("RegisterGateway$Device", "faults", "I", false)
  | 4 => ("RegisterGateway$Device", "readOnly", "I", false)
  | 5 => ("RegisterGateway$Device", "greatest", "I", false)
  | _ => ("RegisterGateway$Device", "delay", "I", false)
def tyX2 : Nat → FieldType := fun k => match k with
  | 0 => .array .int
  | 1 => .array .int
  | 2 => .array .int
  | 3 => .int
  | 4 => .int
  | 5 => .int
  | _ => .int
abbrev wsX20 : List Cond := u_ws RX2 TX2 7
theorem nmX2 : ∀ a, a < 7 → ∀ b, b < 7 → a ≠ b → (TX2 a).2.1 ≠ (TX2 b).2.1 := by decide +kernel
theorem tyX2_ok : ∀ k, k < 7 → parseFieldDescriptor (TX2 k).2.2.1 = some (tyX2 k) := by decide +kernel
abbrev cX2_init : ByteArray := prog_4_method_1_code
def yX2_init : MethodName := ⟨RX2, "<init>", "()V"⟩
abbrev cX2_copyFrom : ByteArray := prog_4_method_2_code
def yX2_copyFrom : MethodName := ⟨RX2, "copyFrom", "(LRegisterGateway$Device;)V"⟩
abbrev cX2_isReadOnly : ByteArray := prog_4_method_3_code
def yX2_isReadOnly : MethodName := ⟨RX2, "isReadOnly", "(I)Z"⟩
abbrev cX2_appendFault : ByteArray := prog_4_method_4_code
def yX2_appendFault : MethodName := ⟨RX2, "appendFault", "(II)V"⟩
abbrev cX2_dropFirstFault : ByteArray := prog_4_method_5_code
def yX2_dropFirstFault : MethodName := ⟨RX2, "dropFirstFault", "()V"⟩
abbrev cX2_answer : ByteArray := prog_4_method_6_code
def yX2_answer : MethodName := ⟨RX2, "answer", "(LRegisterGateway$Frame;ILRegisterGateway$Reply;)Z"⟩
abbrev cX2_refusalOf : ByteArray := prog_4_method_7_code
def yX2_refusalOf : MethodName := ⟨RX2, "refusalOf", "(LRegisterGateway$Frame;)I"⟩
abbrev cX2_obey : ByteArray := prog_4_method_8_code
def yX2_obey : MethodName := ⟨RX2, "obey", "(LRegisterGateway$Frame;LRegisterGateway$Frame;)V"⟩
def RX3 : String := "RegisterGateway$Frame"
def TX3 : u_T := fun k => match k with
  | 0 => ("RegisterGateway$Frame", "bytes", "[I", true)
  | _ => ("RegisterGateway$Frame", "size", "I", false)
def tyX3 : Nat → FieldType := fun k => match k with
  | 0 => .array .int
  | _ => .int
abbrev wsX30 : List Cond := u_ws RX3 TX3 2
theorem nmX3 : ∀ a, a < 2 → ∀ b, b < 2 → a ≠ b → (TX3 a).2.1 ≠ (TX3 b).2.1 := by decide +kernel
theorem tyX3_ok : ∀ k, k < 2 → parseFieldDescriptor (TX3 k).2.2.1 = some (tyX3 k) := by decide +kernel
abbrev cX3_init : ByteArray := prog_5_method_1_code
def yX3_init : MethodName := ⟨RX3, "<init>", "()V"⟩
abbrev cX3_copyFrom : ByteArray := prog_5_method_2_code
def yX3_copyFrom : MethodName := ⟨RX3, "copyFrom", "(LRegisterGateway$Frame;)V"⟩
abbrev cX3_open : ByteArray := prog_5_method_3_code
def yX3_open : MethodName := ⟨RX3, "open", "(II)V"⟩
abbrev cX3_putByte : ByteArray := prog_5_method_4_code
def yX3_putByte : MethodName := ⟨RX3, "putByte", "(I)V"⟩
abbrev cX3_putWord : ByteArray := prog_5_method_5_code
def yX3_putWord : MethodName := ⟨RX3, "putWord", "(I)V"⟩
abbrev cX3_seal : ByteArray := prog_5_method_6_code
def yX3_seal : MethodName := ⟨RX3, "seal", "()V"⟩
abbrev cX3_sumOf : ByteArray := prog_5_method_7_code
def yX3_sumOf : MethodName := ⟨RX3, "sumOf", "(I)I"⟩
abbrev cX3_invertLowestBit : ByteArray := prog_5_method_8_code
def yX3_invertLowestBit : MethodName := ⟨RX3, "invertLowestBit", "(I)V"⟩
abbrev cX3_byteAt : ByteArray := prog_5_method_9_code
def yX3_byteAt : MethodName := ⟨RX3, "byteAt", "(I)I"⟩
abbrev cX3_wordAt : ByteArray := prog_5_method_10_code
def yX3_wordAt : MethodName := ⟨RX3, "wordAt", "(I)I"⟩
abbrev cX3_startRegister : ByteArray := prog_5_method_11_code
def yX3_startRegister : MethodName := ⟨RX3, "startRegister", "()I"⟩
abbrev cX3_registerCount : ByteArray := prog_5_method_12_code
def yX3_registerCount : MethodName := ⟨RX3, "registerCount", "()I"⟩
abbrev cX3_writtenValue : ByteArray := prog_5_method_13_code
def yX3_writtenValue : MethodName := ⟨RX3, "writtenValue", "(I)I"⟩
abbrev cX3_readValue : ByteArray := prog_5_method_14_code
def yX3_readValue : MethodName := ⟨RX3, "readValue", "(I)I"⟩
abbrev cX3_isException : ByteArray := prog_5_method_15_code
def yX3_isException : MethodName := ⟨RX3, "isException", "()Z"⟩
abbrev cX3_isReplyTo : ByteArray := prog_5_method_16_code
def yX3_isReplyTo : MethodName := ⟨RX3, "isReplyTo", "(LRegisterGateway$Frame;)Z"⟩
def RX4 : String := "RegisterGateway$Line"
def TX4 : u_T := fun k => match k with
  | 0 => ("RegisterGateway$Line", "replies", "Ljava/util/ArrayList;", true)
  | _ => ("RegisterGateway$Line", "spare", "Ljava/util/ArrayList;", true)
def tyX4 : Nat → FieldType := fun k => match k with
  | 0 => .object "java/util/ArrayList"
  | _ => .object "java/util/ArrayList"
abbrev wsX40 : List Cond := u_ws RX4 TX4 2
theorem nmX4 : ∀ a, a < 2 → ∀ b, b < 2 → a ≠ b → (TX4 a).2.1 ≠ (TX4 b).2.1 := by decide +kernel
theorem tyX4_ok : ∀ k, k < 2 → parseFieldDescriptor (TX4 k).2.2.1 = some (tyX4 k) := by decide +kernel
abbrev cX4_init : ByteArray := prog_6_method_1_code
def yX4_init : MethodName := ⟨RX4, "<init>", "()V"⟩
abbrev cX4_copyFrom : ByteArray := prog_6_method_2_code
def yX4_copyFrom : MethodName := ⟨RX4, "copyFrom", "(LRegisterGateway$Line;)V"⟩
abbrev cX4_recycle : ByteArray := prog_6_method_3_code
def yX4_recycle : MethodName := ⟨RX4, "recycle", "(LRegisterGateway$Reply;)V"⟩
abbrev cX4_freeReply : ByteArray := prog_6_method_4_code
def yX4_freeReply : MethodName := ⟨RX4, "freeReply", "()LRegisterGateway$Reply;"⟩
abbrev cX4_dropBefore : ByteArray := prog_6_method_5_code
def yX4_dropBefore : MethodName := ⟨RX4, "dropBefore", "(I)V"⟩
abbrev cX4_take : ByteArray := prog_6_method_6_code
def yX4_take : MethodName := ⟨RX4, "take", "(LRegisterGateway$Frame;I)LRegisterGateway$Reply;"⟩
abbrev cX4_earliest : ByteArray := prog_6_method_7_code
def yX4_earliest : MethodName := ⟨RX4, "earliest", "(I)I"⟩
def RX5 : String := "RegisterGateway$Listener"
def TX5 : u_T := fun k => match k with
  | 0 => ("RegisterGateway$Listener", "verdicts", "[I", true)
  | 1 => ("RegisterGateway$Listener", "sizes", "[I", true)
  | 2 => ("RegisterGateway$Listener", "ended", "I", false)
  | 3 => ("RegisterGateway$Listener", "size", "I", false)
  | 4 => ("RegisterGateway$Listener", "sum", "I", false)
  | _ => ("RegisterGateway$Listener", "broken", "Z", false)
def tyX5 : Nat → FieldType := fun k => match k with
  | 0 => .array .int
  | 1 => .array .int
  | 2 => .int
  | 3 => .int
  | 4 => .int
  | _ => .boolean
abbrev wsX50 : List Cond := u_ws RX5 TX5 6
theorem nmX5 : ∀ a, a < 6 → ∀ b, b < 6 → a ≠ b → (TX5 a).2.1 ≠ (TX5 b).2.1 := by decide +kernel
theorem tyX5_ok : ∀ k, k < 6 → parseFieldDescriptor (TX5 k).2.2.1 = some (tyX5 k) := by decide +kernel
abbrev cX5_init : ByteArray := prog_7_method_1_code
def yX5_init : MethodName := ⟨RX5, "<init>", "()V"⟩
abbrev cX5_hear : ByteArray := prog_7_method_2_code
def yX5_hear : MethodName := ⟨RX5, "hear", "(II)V"⟩
abbrev cX5_close : ByteArray := prog_7_method_3_code
def yX5_close : MethodName := ⟨RX5, "close", "()V"⟩
abbrev cX5_judge : ByteArray := prog_7_method_4_code
def yX5_judge : MethodName := ⟨RX5, "judge", "()I"⟩
abbrev cX5_isKept : ByteArray := prog_7_method_5_code
def yX5_isKept : MethodName := ⟨RX5, "isKept", "(I)Z"⟩
abbrev cX5_placeOf : ByteArray := prog_7_method_6_code
def yX5_placeOf : MethodName := ⟨RX5, "placeOf", "(I)I"⟩
def RX6 : String := "RegisterGateway$Queue"
def TX6 : u_T := fun k => match k with
  | 0 => ("RegisterGateway$Queue", "requests", "Ljava/util/ArrayList;", true)
  | 1 => ("RegisterGateway$Queue", "members", "J", false)
  | 2 => ("RegisterGateway$Queue", "first", "I", false)
  | 3 => ("RegisterGateway$Queue", "device", "I", false)
  | 4 => ("RegisterGateway$Queue", "isWrite", "Z", false)
  | 5 => ("RegisterGateway$Queue", "start", "I", false)
  | _ => ("RegisterGateway$Queue", "end", "I", false)
def tyX6 : Nat → FieldType := fun k => match k with
  | 0 => .object "java/util/ArrayList"
  | 1 => .long
  | 2 => .int
  | 3 => .int
  | 4 => .boolean
  | 5 => .int
  | _ => .int
abbrev wsX60 : List Cond := u_ws RX6 TX6 7
theorem nmX6 : ∀ a, a < 7 → ∀ b, b < 7 → a ≠ b → (TX6 a).2.1 ≠ (TX6 b).2.1 := by decide +kernel
theorem tyX6_ok : ∀ k, k < 7 → parseFieldDescriptor (TX6 k).2.2.1 = some (tyX6 k) := by decide +kernel
abbrev cX6_init : ByteArray := prog_8_method_1_code
def yX6_init : MethodName := ⟨RX6, "<init>", "()V"⟩
abbrev cX6_copyFrom : ByteArray := prog_8_method_2_code
def yX6_copyFrom : MethodName := ⟨RX6, "copyFrom", "(LRegisterGateway$Queue;)V"⟩
abbrev cX6_append : ByteArray := prog_8_method_3_code
def yX6_append : MethodName := ⟨RX6, "append", "(LRegisterGateway$Request;)I"⟩
abbrev cX6_countOf : ByteArray := prog_8_method_4_code
def yX6_countOf : MethodName := ⟨RX6, "countOf", "(II)I"⟩
abbrev cX6_isMember : ByteArray := prog_8_method_5_code
def yX6_isMember : MethodName := ⟨RX6, "isMember", "(I)Z"⟩
abbrev cX6_width : ByteArray := prog_8_method_6_code
def yX6_width : MethodName := ⟨RX6, "width", "()I"⟩
abbrev cX6_openGroup : ByteArray := prog_8_method_7_code
def yX6_openGroup : MethodName := ⟨RX6, "openGroup", "()LRegisterGateway$Request;"⟩
abbrev cX6_gather : ByteArray := prog_8_method_8_code
def yX6_gather : MethodName := ⟨RX6, "gather", "()V"⟩
abbrev cX6_fitsBeside : ByteArray := prog_8_method_9_code
def yX6_fitsBeside : MethodName := ⟨RX6, "fitsBeside", "(LRegisterGateway$Request;)Z"⟩
abbrev cX6_isBarred : ByteArray := prog_8_method_10_code
def yX6_isBarred : MethodName := ⟨RX6, "isBarred", "(ILRegisterGateway$Request;)Z"⟩
abbrev cX6_valueToWrite : ByteArray := prog_8_method_11_code
def yX6_valueToWrite : MethodName := ⟨RX6, "valueToWrite", "(I)I"⟩
def RX7 : String := "RegisterGateway$Reply"
def TX7 : u_T := fun k => match k with
  | 0 => ("RegisterGateway$Reply", "frame", "LRegisterGateway$Frame;", true)
  | 1 => ("RegisterGateway$Reply", "begin", "I", false)
  | _ => ("RegisterGateway$Reply", "cause", "I", false)
def tyX7 : Nat → FieldType := fun k => match k with
  | 0 => .object "RegisterGateway$Frame"
  | 1 => .int
  | _ => .int
abbrev wsX70 : List Cond := u_ws RX7 TX7 3
theorem nmX7 : ∀ a, a < 3 → ∀ b, b < 3 → a ≠ b → (TX7 a).2.1 ≠ (TX7 b).2.1 := by decide +kernel
theorem tyX7_ok : ∀ k, k < 3 → parseFieldDescriptor (TX7 k).2.2.1 = some (tyX7 k) := by decide +kernel
abbrev cX7_init : ByteArray := prog_9_method_1_code
def yX7_init : MethodName := ⟨RX7, "<init>", "()V"⟩
abbrev cX7_copyFrom : ByteArray := prog_9_method_2_code
def yX7_copyFrom : MethodName := ⟨RX7, "copyFrom", "(LRegisterGateway$Reply;)V"⟩
def RX8 : String := "RegisterGateway$Request"
def TX8 : u_T := fun k => match k with
  | 0 => ("RegisterGateway$Request", "client", "I", true)
  | 1 => ("RegisterGateway$Request", "device", "I", true)
  | 2 => ("RegisterGateway$Request", "start", "I", true)
  | 3 => ("RegisterGateway$Request", "count", "I", true)
  | 4 => ("RegisterGateway$Request", "end", "I", true)
  | 5 => ("RegisterGateway$Request", "isWrite", "Z", true)
  | 6 => ("RegisterGateway$Request", "values", "[I", true)
  | 7 => ("RegisterGateway$Request", "state", "I", false)
  | 8 => ("RegisterGateway$Request", "code", "I", false)
  | 9 => ("RegisterGateway$Request", "endTime", "I", false)
  | _ => ("RegisterGateway$Request", "fromCache", "Z", false)
def tyX8 : Nat → FieldType := fun k => match k with
  | 0 => .int
  | 1 => .int
  | 2 => .int
  | 3 => .int
  | 4 => .int
  | 5 => .boolean
  | 6 => .array .int
  | 7 => .int
  | 8 => .int
  | 9 => .int
  | _ => .boolean
abbrev wsX80 : List Cond := u_ws RX8 TX8 11
theorem nmX8 : ∀ a, a < 11 → ∀ b, b < 11 → a ≠ b → (TX8 a).2.1 ≠ (TX8 b).2.1 := by decide +kernel
theorem tyX8_ok : ∀ k, k < 11 → parseFieldDescriptor (TX8 k).2.2.1 = some (tyX8 k) := by decide +kernel
abbrev cX8_init : ByteArray := prog_10_method_1_code
def yX8_init : MethodName := ⟨RX8, "<init>", "(IIIIZ)V"⟩
abbrev cX8_isReadDone : ByteArray := prog_10_method_2_code
def yX8_isReadDone : MethodName := ⟨RX8, "isReadDone", "()Z"⟩
abbrev cX8_overlaps : ByteArray := prog_10_method_3_code
def yX8_overlaps : MethodName := ⟨RX8, "overlaps", "(LRegisterGateway$Request;)Z"⟩
abbrev cX8_settle : ByteArray := prog_10_method_4_code
def yX8_settle : MethodName := ⟨RX8, "settle", "(III)V"⟩
abbrev cX8_takeValues : ByteArray := prog_10_method_5_code
def yX8_takeValues : MethodName := ⟨RX8, "takeValues", "(LRegisterGateway$Frame;I)V"⟩
def RX9 : String := "RegisterGateway"
def TX9 : u_T := fun k => match k with
  | 0 => ("RegisterGateway", "core", "LRegisterGateway$Core;", true)
  | 1 => ("RegisterGateway", "listener", "LRegisterGateway$Listener;", true)
  | _ => ("RegisterGateway", "trial", "LRegisterGateway$Core;", false)
def tyX9 : Nat → FieldType := fun k => match k with
  | 0 => .object "RegisterGateway$Core"
  | 1 => .object "RegisterGateway$Listener"
  | _ => .object "RegisterGateway$Core"
abbrev wsX90 : List Cond := u_ws RX9 TX9 3
theorem nmX9 : ∀ a, a < 3 → ∀ b, b < 3 → a ≠ b → (TX9 a).2.1 ≠ (TX9 b).2.1 := by decide +kernel
theorem tyX9_ok : ∀ k, k < 3 → parseFieldDescriptor (TX9 k).2.2.1 = some (tyX9 k) := by decide +kernel
abbrev cX9_init : ByteArray := prog_1_method_1_code
def yX9_init : MethodName := ⟨RX9, "<init>", "()V"⟩
abbrev cX9_set : ByteArray := prog_1_method_2_code
def yX9_set : MethodName := ⟨RX9, "set", "(II)I"⟩
abbrev cX9_setDevice : ByteArray := prog_1_method_3_code
def yX9_setDevice : MethodName := ⟨RX9, "setDevice", "(III)I"⟩
abbrev cX9_poke : ByteArray := prog_1_method_4_code
def yX9_poke : MethodName := ⟨RX9, "poke", "(III)I"⟩
abbrev cX9_peek : ByteArray := prog_1_method_5_code
def yX9_peek : MethodName := ⟨RX9, "peek", "(II)I"⟩
abbrev cX9_protect : ByteArray := prog_1_method_6_code
def yX9_protect : MethodName := ⟨RX9, "protect", "(IIZ)Z"⟩
abbrev cX9_fault : ByteArray := prog_1_method_7_code
def yX9_fault : MethodName := ⟨RX9, "fault", "(III)I"⟩
abbrev cX9_read : ByteArray := prog_1_method_8_code
def yX9_read : MethodName := ⟨RX9, "read", "(IIII)I"⟩
abbrev cX9_write : ByteArray := prog_1_method_9_code
def yX9_write : MethodName := ⟨RX9, "write", "(IIII)I"⟩
abbrev cX9_request : ByteArray := prog_1_method_10_code
def yX9_request : MethodName := ⟨RX9, "request", "(II)I"⟩
abbrev cX9_value : ByteArray := prog_1_method_11_code
def yX9_value : MethodName := ⟨RX9, "value", "(II)I"⟩
abbrev cX9_requests : ByteArray := prog_1_method_12_code
def yX9_requests : MethodName := ⟨RX9, "requests", "(I)I"⟩
abbrev cX9_requestsOf : ByteArray := prog_1_method_13_code
def yX9_requestsOf : MethodName := ⟨RX9, "requestsOf", "(II)I"⟩
abbrev cX9_step : ByteArray := prog_1_method_14_code
def yX9_step : MethodName := ⟨RX9, "step", "()I"⟩
abbrev cX9_finish : ByteArray := prog_1_method_15_code
def yX9_finish : MethodName := ⟨RX9, "finish", "()I"⟩
abbrev cX9_pass : ByteArray := prog_1_method_16_code
def yX9_pass : MethodName := ⟨RX9, "pass", "(I)I"⟩
abbrev cX9_time : ByteArray := prog_1_method_17_code
def yX9_time : MethodName := ⟨RX9, "time", "()I"⟩
abbrev cX9_group : ByteArray := prog_1_method_18_code
def yX9_group : MethodName := ⟨RX9, "group", "()J"⟩
abbrev cX9_frameByte : ByteArray := prog_1_method_19_code
def yX9_frameByte : MethodName := ⟨RX9, "frameByte", "(I)I"⟩
abbrev cX9_cacheAge : ByteArray := prog_1_method_20_code
def yX9_cacheAge : MethodName := ⟨RX9, "cacheAge", "(II)I"⟩
abbrev cX9_cached : ByteArray := prog_1_method_21_code
def yX9_cached : MethodName := ⟨RX9, "cached", "(II)I"⟩
abbrev cX9_clearCache : ByteArray := prog_1_method_22_code
def yX9_clearCache : MethodName := ⟨RX9, "clearCache", "()I"⟩
abbrev cX9_count : ByteArray := prog_1_method_23_code
def yX9_count : MethodName := ⟨RX9, "count", "(I)I"⟩
abbrev cX9_leastDrain : ByteArray := prog_1_method_24_code
def yX9_leastDrain : MethodName := ⟨RX9, "leastDrain", "(I)I"⟩
abbrev cX9_feed : ByteArray := prog_1_method_25_code
def yX9_feed : MethodName := ⟨RX9, "feed", "(II)I"⟩
abbrev cX9_endFrame : ByteArray := prog_1_method_26_code
def yX9_endFrame : MethodName := ⟨RX9, "endFrame", "()I"⟩
abbrev cX9_verdict : ByteArray := prog_1_method_27_code
def yX9_verdict : MethodName := ⟨RX9, "verdict", "(I)I"⟩
abbrev cX9_length : ByteArray := prog_1_method_28_code
def yX9_length : MethodName := ⟨RX9, "length", "(I)I"⟩
abbrev cX9_checksum : ByteArray := prog_1_method_29_code
def yX9_checksum : MethodName := ⟨RX9, "checksum", "()I"⟩
abbrev cX9_fingerprint : ByteArray := prog_1_method_30_code
def yX9_fingerprint : MethodName := ⟨RX9, "fingerprint", "()J"⟩
abbrev cX9_mix : ByteArray := prog_1_method_31_code
def yX9_mix : MethodName := ⟨RX9, "mix", "(JI)J"⟩
abbrev cX9_mixRequest : ByteArray := prog_1_method_32_code
def yX9_mixRequest : MethodName := ⟨RX9, "mixRequest", "(JLRegisterGateway$Request;)J"⟩
abbrev cX9_needInRange : ByteArray := prog_1_method_33_code
def yX9_needInRange : MethodName := ⟨RX9, "needInRange", "(III)V"⟩
abbrev cX9_needClient : ByteArray := prog_1_method_34_code
def yX9_needClient : MethodName := ⟨RX9, "needClient", "(I)V"⟩
abbrev cX9_needDevice : ByteArray := prog_1_method_35_code
def yX9_needDevice : MethodName := ⟨RX9, "needDevice", "(I)V"⟩
abbrev cX9_needRegister : ByteArray := prog_1_method_36_code
def yX9_needRegister : MethodName := ⟨RX9, "needRegister", "(II)V"⟩
abbrev cX9_needState : ByteArray := prog_1_method_37_code
def yX9_needState : MethodName := ⟨RX9, "needState", "(I)V"⟩
abbrev cX9_needHeardIndex : ByteArray := prog_1_method_38_code
def yX9_needHeardIndex : MethodName := ⟨RX9, "needHeardIndex", "(I)V"⟩
abbrev cX9_needRoomForRequest : ByteArray := prog_1_method_39_code
def yX9_needRoomForRequest : MethodName := ⟨RX9, "needRoomForRequest", "()V"⟩
abbrev cX9_neededRequest : ByteArray := prog_1_method_40_code
def yX9_neededRequest : MethodName := ⟨RX9, "neededRequest", "(I)LRegisterGateway$Request;"⟩
abbrev cX9_nextSum : ByteArray := prog_1_method_41_code
def yX9_nextSum : MethodName := ⟨RX9, "nextSum", "(II)I"⟩
def RX10 : String := "RegisterGatewayModel"
def TX10 : u_T := fun k => match k with
  | 0 => ("RegisterGatewayModel", "v", "[I", true)
  | 1 => ("RegisterGatewayModel", "aside", "[I", true)
  | 2 => ("RegisterGatewayModel", "thrown", "I", false)
  | 3 => ("RegisterGatewayModel", "members", "J", false)
  | 4 => ("RegisterGatewayModel", "first", "I", false)
  | 5 => ("RegisterGatewayModel", "low", "I", false)
  | 6 => ("RegisterGatewayModel", "high", "I", false)
  | 7 => ("RegisterGatewayModel", "isWrite", "Z", false)
  | 8 => ("RegisterGatewayModel", "device", "I", false)
  | 9 => ("RegisterGatewayModel", "frame", "[I", true)
  | 10 => ("RegisterGatewayModel", "length", "I", false)
  | 11 => ("RegisterGatewayModel", "written", "[I", true)
  | 12 => ("RegisterGatewayModel", "taken", "[I", true)
  | 13 => ("RegisterGatewayModel", "hears", "I", false)
  | 14 => ("RegisterGatewayModel", "isBroken", "Z", false)
  | 15 => ("RegisterGatewayModel", "running", "I", false)
  | 16 => ("RegisterGatewayModel", "verdicts", "[I", true)
  | 17 => ("RegisterGatewayModel", "lengths", "[I", true)
  | _ => ("RegisterGatewayModel", "ended", "I", false)
def tyX10 : Nat → FieldType := fun k => match k with
  | 0 => .array .int
  | 1 => .array .int
  | 2 => .int
  | 3 => .long
  | 4 => .int
  | 5 => .int
  | 6 => .int
  | 7 => .boolean
  | 8 => .int
  | 9 => .array .int
  | 10 => .int
  | 11 => .array .int
  | 12 => .array .int
  | 13 => .int
  | 14 => .boolean
  | 15 => .int
  | 16 => .array .int
  | 17 => .array .int
  | _ => .int
abbrev wsX100 : List Cond := u_ws RX10 TX10 19
theorem nmX10 : ∀ a, a < 19 → ∀ b, b < 19 → a ≠ b → (TX10 a).2.1 ≠ (TX10 b).2.1 := by decide +kernel
theorem tyX10_ok : ∀ k, k < 19 → parseFieldDescriptor (TX10 k).2.2.1 = some (tyX10 k) := by decide +kernel
abbrev cX10_init : ByteArray := prog_12_method_1_code
def yX10_init : MethodName := ⟨RX10, "<init>", "()V"⟩
abbrev cX10_thrown : ByteArray := prog_12_method_2_code
def yX10_thrown : MethodName := ⟨RX10, "thrown", "()I"⟩
abbrev cX10_in : ByteArray := prog_12_method_3_code
def yX10_in : MethodName := ⟨RX10, "in", "(III)Z"⟩
abbrev cX10_fails : ByteArray := prog_12_method_4_code
def yX10_fails : MethodName := ⟨RX10, "fails", "(I)I"⟩
abbrev cX10_sets : ByteArray := prog_12_method_5_code
def yX10_sets : MethodName := ⟨RX10, "sets", "(II)I"⟩
abbrev cX10_registerAt : ByteArray := prog_12_method_6_code
def yX10_registerAt : MethodName := ⟨RX10, "registerAt", "(II)I"⟩
abbrev cX10_isRegister : ByteArray := prog_12_method_7_code
def yX10_isRegister : MethodName := ⟨RX10, "isRegister", "(II)Z"⟩
abbrev cX10_set : ByteArray := prog_12_method_8_code
def yX10_set : MethodName := ⟨RX10, "set", "(II)I"⟩
abbrev cX10_setDevice : ByteArray := prog_12_method_9_code
def yX10_setDevice : MethodName := ⟨RX10, "setDevice", "(III)I"⟩
abbrev cX10_poke : ByteArray := prog_12_method_10_code
def yX10_poke : MethodName := ⟨RX10, "poke", "(III)I"⟩
abbrev cX10_peek : ByteArray := prog_12_method_11_code
def yX10_peek : MethodName := ⟨RX10, "peek", "(II)I"⟩
abbrev cX10_protect : ByteArray := prog_12_method_12_code
def yX10_protect : MethodName := ⟨RX10, "protect", "(IIZ)Z"⟩
abbrev cX10_faults : ByteArray := prog_12_method_13_code
def yX10_faults : MethodName := ⟨RX10, "faults", "(I)I"⟩
abbrev cX10_fault : ByteArray := prog_12_method_14_code
def yX10_fault : MethodName := ⟨RX10, "fault", "(III)I"⟩
abbrev cX10_requestAt : ByteArray := prog_12_method_15_code
def yX10_requestAt : MethodName := ⟨RX10, "requestAt", "(I)I"⟩
abbrev cX10_isRequest : ByteArray := prog_12_method_16_code
def yX10_isRequest : MethodName := ⟨RX10, "isRequest", "(I)Z"⟩
abbrev cX10_makes : ByteArray := prog_12_method_17_code
def yX10_makes : MethodName := ⟨RX10, "makes", "(IIIIZI)I"⟩
abbrev cX10_asks : ByteArray := prog_12_method_18_code
def yX10_asks : MethodName := ⟨RX10, "asks", "(IIZ)I"⟩
abbrev cX10_read : ByteArray := prog_12_method_19_code
def yX10_read : MethodName := ⟨RX10, "read", "(IIII)I"⟩
abbrev cX10_write : ByteArray := prog_12_method_20_code
def yX10_write : MethodName := ⟨RX10, "write", "(IIII)I"⟩
abbrev cX10_request : ByteArray := prog_12_method_21_code
def yX10_request : MethodName := ⟨RX10, "request", "(II)I"⟩
abbrev cX10_value : ByteArray := prog_12_method_22_code
def yX10_value : MethodName := ⟨RX10, "value", "(II)I"⟩
abbrev cX10_countIn : ByteArray := prog_12_method_23_code
def yX10_countIn : MethodName := ⟨RX10, "countIn", "(II)I"⟩
abbrev cX10_requests : ByteArray := prog_12_method_24_code
def yX10_requests : MethodName := ⟨RX10, "requests", "(I)I"⟩
abbrev cX10_requestsOf : ByteArray := prog_12_method_25_code
def yX10_requestsOf : MethodName := ⟨RX10, "requestsOf", "(II)I"⟩
abbrev cX10_cacheAt : ByteArray := prog_12_method_26_code
def yX10_cacheAt : MethodName := ⟨RX10, "cacheAt", "(II)I"⟩
abbrev cX10_isFresh : ByteArray := prog_12_method_27_code
def yX10_isFresh : MethodName := ⟨RX10, "isFresh", "(II)Z"⟩
abbrev cX10_isWaiting : ByteArray := prog_12_method_28_code
def yX10_isWaiting : MethodName := ⟨RX10, "isWaiting", "(I)Z"⟩
abbrev cX10_end : ByteArray := prog_12_method_29_code
def yX10_end : MethodName := ⟨RX10, "end", "(I)I"⟩
abbrev cX10_overlap : ByteArray := prog_12_method_30_code
def yX10_overlap : MethodName := ⟨RX10, "overlap", "(II)Z"⟩
abbrev cX10_firstWaiting : ByteArray := prog_12_method_31_code
def yX10_firstWaiting : MethodName := ⟨RX10, "firstWaiting", "()I"⟩
abbrev cX10_isCached : ByteArray := prog_12_method_32_code
def yX10_isCached : MethodName := ⟨RX10, "isCached", "(I)Z"⟩
abbrev cX10_isHeldBack : ByteArray := prog_12_method_33_code
def yX10_isHeldBack : MethodName := ⟨RX10, "isHeldBack", "(I)Z"⟩
abbrev cX10_gathers : ByteArray := prog_12_method_34_code
def yX10_gathers : MethodName := ⟨RX10, "gathers", "(I)V"⟩
abbrev cX10_stirred : ByteArray := prog_12_method_35_code
def yX10_stirred : MethodName := ⟨RX10, "stirred", "(II)I"⟩
abbrev cX10_puts : ByteArray := prog_12_method_36_code
def yX10_puts : MethodName := ⟨RX10, "puts", "(I)V"⟩
abbrev cX10_putsWord : ByteArray := prog_12_method_37_code
def yX10_putsWord : MethodName := ⟨RX10, "putsWord", "(I)V"⟩
abbrev cX10_seals : ByteArray := prog_12_method_38_code
def yX10_seals : MethodName := ⟨RX10, "seals", "()V"⟩
abbrev cX10_function : ByteArray := prog_12_method_39_code
def yX10_function : MethodName := ⟨RX10, "function", "()I"⟩
abbrev cX10_frames : ByteArray := prog_12_method_40_code
def yX10_frames : MethodName := ⟨RX10, "frames", "()V"⟩
abbrev cX10_code : ByteArray := prog_12_method_41_code
def yX10_code : MethodName := ⟨RX10, "code", "()I"⟩
abbrev cX10_repliesWith : ByteArray := prog_12_method_42_code
def yX10_repliesWith : MethodName := ⟨RX10, "repliesWith", "(I)V"⟩
abbrev cX10_does : ByteArray := prog_12_method_43_code
def yX10_does : MethodName := ⟨RX10, "does", "()V"⟩
abbrev cX10_gets : ByteArray := prog_12_method_44_code
def yX10_gets : MethodName := ⟨RX10, "gets", "()V"⟩
abbrev cX10_goes : ByteArray := prog_12_method_45_code
def yX10_goes : MethodName := ⟨RX10, "goes", "(I)V"⟩
abbrev cX10_earliest : ByteArray := prog_12_method_46_code
def yX10_earliest : MethodName := ⟨RX10, "earliest", "(II)I"⟩
abbrev cX10_fits : ByteArray := prog_12_method_47_code
def yX10_fits : MethodName := ⟨RX10, "fits", "(I)Z"⟩
abbrev cX10_attempts : ByteArray := prog_12_method_48_code
def yX10_attempts : MethodName := ⟨RX10, "attempts", "()Z"⟩
abbrev cX10_tries : ByteArray := prog_12_method_49_code
def yX10_tries : MethodName := ⟨RX10, "tries", "()Z"⟩
abbrev cX10_caches : ByteArray := prog_12_method_50_code
def yX10_caches : MethodName := ⟨RX10, "caches", "(II)V"⟩
abbrev cX10_ends : ByteArray := prog_12_method_51_code
def yX10_ends : MethodName := ⟨RX10, "ends", "(III)V"⟩
abbrev cX10_byCache : ByteArray := prog_12_method_52_code
def yX10_byCache : MethodName := ⟨RX10, "byCache", "(I)I"⟩
abbrev cX10_word : ByteArray := prog_12_method_53_code
def yX10_word : MethodName := ⟨RX10, "word", "(I)I"⟩
abbrev cX10_settles : ByteArray := prog_12_method_54_code
def yX10_settles : MethodName := ⟨RX10, "settles", "(I)I"⟩
abbrev cX10_steps : ByteArray := prog_12_method_55_code
def yX10_steps : MethodName := ⟨RX10, "steps", "()I"⟩
abbrev cX10_step : ByteArray := prog_12_method_56_code
def yX10_step : MethodName := ⟨RX10, "step", "()I"⟩
abbrev cX10_stepsAll : ByteArray := prog_12_method_57_code
def yX10_stepsAll : MethodName := ⟨RX10, "stepsAll", "()V"⟩
abbrev cX10_finish : ByteArray := prog_12_method_58_code
def yX10_finish : MethodName := ⟨RX10, "finish", "()I"⟩
abbrev cX10_pass : ByteArray := prog_12_method_59_code
def yX10_pass : MethodName := ⟨RX10, "pass", "(I)I"⟩
abbrev cX10_time : ByteArray := prog_12_method_60_code
def yX10_time : MethodName := ⟨RX10, "time", "()I"⟩
abbrev cX10_group : ByteArray := prog_12_method_61_code
def yX10_group : MethodName := ⟨RX10, "group", "()J"⟩
abbrev cX10_frameByte : ByteArray := prog_12_method_62_code
def yX10_frameByte : MethodName := ⟨RX10, "frameByte", "(I)I"⟩
abbrev cX10_cacheAge : ByteArray := prog_12_method_63_code
def yX10_cacheAge : MethodName := ⟨RX10, "cacheAge", "(II)I"⟩
abbrev cX10_cachedAt : ByteArray := prog_12_method_64_code
def yX10_cachedAt : MethodName := ⟨RX10, "cachedAt", "(II)I"⟩
abbrev cX10_cached : ByteArray := prog_12_method_65_code
def yX10_cached : MethodName := ⟨RX10, "cached", "(II)I"⟩
abbrev cX10_clearCache : ByteArray := prog_12_method_66_code
def yX10_clearCache : MethodName := ⟨RX10, "clearCache", "()I"⟩
abbrev cX10_count : ByteArray := prog_12_method_67_code
def yX10_count : MethodName := ⟨RX10, "count", "(I)I"⟩
abbrev cX10_copies : ByteArray := prog_12_method_68_code
def yX10_copies : MethodName := ⟨RX10, "copies", "([I[I)V"⟩
abbrev cX10_leastDrain : ByteArray := prog_12_method_69_code
def yX10_leastDrain : MethodName := ⟨RX10, "leastDrain", "(I)I"⟩
abbrev cX10_endsFrame : ByteArray := prog_12_method_70_code
def yX10_endsFrame : MethodName := ⟨RX10, "endsFrame", "()V"⟩
abbrev cX10_feed : ByteArray := prog_12_method_71_code
def yX10_feed : MethodName := ⟨RX10, "feed", "(II)I"⟩
abbrev cX10_endFrame : ByteArray := prog_12_method_72_code
def yX10_endFrame : MethodName := ⟨RX10, "endFrame", "()I"⟩
abbrev cX10_isKept : ByteArray := prog_12_method_73_code
def yX10_isKept : MethodName := ⟨RX10, "isKept", "(I)Z"⟩
abbrev cX10_verdict : ByteArray := prog_12_method_74_code
def yX10_verdict : MethodName := ⟨RX10, "verdict", "(I)I"⟩
abbrev cX10_length : ByteArray := prog_12_method_75_code
def yX10_length : MethodName := ⟨RX10, "length", "(I)I"⟩
abbrev cX10_checksum : ByteArray := prog_12_method_76_code
def yX10_checksum : MethodName := ⟨RX10, "checksum", "()I"⟩
abbrev cX10_fingerprint : ByteArray := prog_12_method_77_code
def yX10_fingerprint : MethodName := ⟨RX10, "fingerprint", "()J"⟩
def RJx145de : String := "java/io/Serializable"
def TJx145de : u_T := fun k => match k with
  | _ => ("", "", "", false)
def tyJx145de : Nat → FieldType := fun k => match k with
  | _ => .int
abbrev wsJx145de0 : List Cond := u_ws RJx145de TJx145de 0
theorem nmJx145de : ∀ a, a < 0 → ∀ b, b < 0 → a ≠ b → (TJx145de a).2.1 ≠ (TJx145de b).2.1 := by decide +kernel
theorem tyJx145de_ok : ∀ k, k < 0 → parseFieldDescriptor (TJx145de k).2.2.1 = some (tyJx145de k) := by decide +kernel
def RJx8e188 : String := "java/lang/Cloneable"
def TJx8e188 : u_T := fun k => match k with
  | _ => ("", "", "", false)
def tyJx8e188 : Nat → FieldType := fun k => match k with
  | _ => .int
abbrev wsJx8e1880 : List Cond := u_ws RJx8e188 TJx8e188 0
theorem nmJx8e188 : ∀ a, a < 0 → ∀ b, b < 0 → a ≠ b → (TJx8e188 a).2.1 ≠ (TJx8e188 b).2.1 := by decide +kernel
theorem tyJx8e188_ok : ∀ k, k < 0 → parseFieldDescriptor (TJx8e188 k).2.2.1 = some (tyJx8e188 k) := by decide +kernel
def RJxab1ab : String := "java/lang/Iterable"
def TJxab1ab : u_T := fun k => match k with
  | _ => ("", "", "", false)
def tyJxab1ab : Nat → FieldType := fun k => match k with
  | _ => .int
abbrev wsJxab1ab0 : List Cond := u_ws RJxab1ab TJxab1ab 0
theorem nmJxab1ab : ∀ a, a < 0 → ∀ b, b < 0 → a ≠ b → (TJxab1ab a).2.1 ≠ (TJxab1ab b).2.1 := by decide +kernel
theorem tyJxab1ab_ok : ∀ k, k < 0 → parseFieldDescriptor (TJxab1ab k).2.2.1 = some (tyJxab1ab k) := by decide +kernel
def RJ13 : String := "java/lang/Long"
def TJ13 : u_T := fun k => match k with
  | _ => ("", "", "", false)
def tyJ13 : Nat → FieldType := fun k => match k with
  | _ => .int
abbrev wsJ130 : List Cond := u_ws RJ13 TJ13 0
theorem nmJ13 : ∀ a, a < 0 → ∀ b, b < 0 → a ≠ b → (TJ13 a).2.1 ≠ (TJ13 b).2.1 := by decide +kernel
theorem tyJ13_ok : ∀ k, k < 0 → parseFieldDescriptor (TJ13 k).2.2.1 = some (tyJ13 k) := by decide +kernel
abbrev cJ13_bitCount_95d88 : ByteArray := prog_20_method_50_code
def yJ13_bitCount_95d88 : MethodName := ⟨RJ13, "bitCount", "(J)I"⟩
def RJ9 : String := "java/lang/Math"
def TJ9 : u_T := fun k => match k with
  | _ => ("", "", "", false)
def tyJ9 : Nat → FieldType := fun k => match k with
  | _ => .int
abbrev wsJ90 : List Cond := u_ws RJ9 TJ9 0
theorem nmJ9 : ∀ a, a < 0 → ∀ b, b < 0 → a ≠ b → (TJ9 a).2.1 ≠ (TJ9 b).2.1 := by decide +kernel
theorem tyJ9_ok : ∀ k, k < 0 → parseFieldDescriptor (TJ9 k).2.2.1 = some (tyJ9 k) := by decide +kernel
abbrev cJ9_floorMod_7cf53 : ByteArray := prog_21_method_50_code
def yJ9_floorMod_7cf53 : MethodName := ⟨RJ9, "floorMod", "(II)I"⟩
abbrev cJ9_max_7cf53 : ByteArray := prog_21_method_65_code
def yJ9_max_7cf53 : MethodName := ⟨RJ9, "max", "(II)I"⟩
abbrev cJ9_min_7cf53 : ByteArray := prog_21_method_69_code
def yJ9_min_7cf53 : MethodName := ⟨RJ9, "min", "(II)I"⟩
def RJ0 : String := "java/lang/String"
def TJ0 : u_T := fun k => match k with
  | _ => ("", "", "", false)
def tyJ0 : Nat → FieldType := fun k => match k with
  | _ => .int
abbrev wsJ00 : List Cond := u_ws RJ0 TJ0 0
theorem nmJ0 : ∀ a, a < 0 → ∀ b, b < 0 → a ≠ b → (TJ0 a).2.1 ≠ (TJ0 b).2.1 := by decide +kernel
theorem tyJ0_ok : ∀ k, k < 0 → parseFieldDescriptor (TJ0 k).2.2.1 = some (tyJ0 k) := by decide +kernel
def RJ10 : String := "java/lang/System"
def TJ10 : u_T := fun k => match k with
  | _ => ("", "", "", false)
def tyJ10 : Nat → FieldType := fun k => match k with
  | _ => .int
abbrev wsJ100 : List Cond := u_ws RJ10 TJ10 0
theorem nmJ10 : ∀ a, a < 0 → ∀ b, b < 0 → a ≠ b → (TJ10 a).2.1 ≠ (TJ10 b).2.1 := by decide +kernel
theorem tyJ10_ok : ∀ k, k < 0 → parseFieldDescriptor (TJ10 k).2.2.1 = some (tyJ10 k) := by decide +kernel
def RJxa1e45 : String := "java/util/AbstractCollection"
def TJxa1e45 : u_T := fun k => match k with
  | _ => ("", "", "", false)
def tyJxa1e45 : Nat → FieldType := fun k => match k with
  | _ => .int
abbrev wsJxa1e450 : List Cond := u_ws RJxa1e45 TJxa1e45 0
theorem nmJxa1e45 : ∀ a, a < 0 → ∀ b, b < 0 → a ≠ b → (TJxa1e45 a).2.1 ≠ (TJxa1e45 b).2.1 := by decide +kernel
theorem tyJxa1e45_ok : ∀ k, k < 0 → parseFieldDescriptor (TJxa1e45 k).2.2.1 = some (tyJxa1e45 k) := by decide +kernel
abbrev cJxa1e45_init_da8c8 : ByteArray := prog_26_method_1_code
def yJxa1e45_init_da8c8 : MethodName := ⟨RJxa1e45, "<init>", "()V"⟩
def RJxc12de : String := "java/util/AbstractList"
def TJxc12de : u_T := fun k => match k with
  | _ => ("", "", "", false)
def tyJxc12de : Nat → FieldType := fun k => match k with
  | _ => .int
abbrev wsJxc12de0 : List Cond := u_ws RJxc12de TJxc12de 0
theorem nmJxc12de : ∀ a, a < 0 → ∀ b, b < 0 → a ≠ b → (TJxc12de a).2.1 ≠ (TJxc12de b).2.1 := by decide +kernel
theorem tyJxc12de_ok : ∀ k, k < 0 → parseFieldDescriptor (TJxc12de k).2.2.1 = some (tyJxc12de k) := by decide +kernel
abbrev cJxc12de_init_da8c8 : ByteArray := prog_27_method_1_code
def yJxc12de_init_da8c8 : MethodName := ⟨RJxc12de, "<init>", "()V"⟩
def RJx4a65c : String := "java/util/ArrayList"
def TJx4a65c : u_T := fun k => match k with
  | 0 => ("java/util/AbstractList", "modCount", "I", false)
  | 1 => ("java/util/ArrayList", "elementData", "[Ljava/lang/Object;", false)
  | _ => ("java/util/ArrayList", "size", "I", false)
def tyJx4a65c : Nat → FieldType := fun k => match k with
  | 0 => .int
  | 1 => .array (.object "java/lang/Object")
  | _ => .int
abbrev wsJx4a65c0 : List Cond := u_ws RJx4a65c TJx4a65c 3
theorem nmJx4a65c : ∀ a, a < 3 → ∀ b, b < 3 → a ≠ b → (TJx4a65c a).2.1 ≠ (TJx4a65c b).2.1 := by decide +kernel
theorem tyJx4a65c_ok : ∀ k, k < 3 → parseFieldDescriptor (TJx4a65c k).2.2.1 = some (tyJx4a65c k) := by decide +kernel
abbrev cJx4a65c_init_da8c8 : ByteArray := prog_28_method_2_code
def yJx4a65c_init_da8c8 : MethodName := ⟨RJx4a65c, "<init>", "()V"⟩
abbrev cJx4a65c_grow_92f84 : ByteArray := prog_28_method_6_code
def yJx4a65c_grow_92f84 : MethodName := ⟨RJx4a65c, "grow", "(I)[Ljava/lang/Object;"⟩
abbrev cJx4a65c_grow_d5877 : ByteArray := prog_28_method_7_code
def yJx4a65c_grow_d5877 : MethodName := ⟨RJx4a65c, "grow", "()[Ljava/lang/Object;"⟩
abbrev cJx4a65c_size_8abf5 : ByteArray := prog_28_method_8_code
def yJx4a65c_size_8abf5 : MethodName := ⟨RJx4a65c, "size", "()I"⟩
abbrev cJx4a65c_isEmpty_aae02 : ByteArray := prog_28_method_9_code
def yJx4a65c_isEmpty_aae02 : MethodName := ⟨RJx4a65c, "isEmpty", "()Z"⟩
abbrev cJx4a65c_elementData_915e3 : ByteArray := prog_28_method_18_code
def yJx4a65c_elementData_915e3 : MethodName := ⟨RJx4a65c, "elementData", "(I)Ljava/lang/Object;"⟩
abbrev cJx4a65c_get_915e3 : ByteArray := prog_28_method_20_code
def yJx4a65c_get_915e3 : MethodName := ⟨RJx4a65c, "get", "(I)Ljava/lang/Object;"⟩
abbrev cJx4a65c_add_72be8 : ByteArray := prog_28_method_24_code
def yJx4a65c_add_72be8 : MethodName := ⟨RJx4a65c, "add", "(Ljava/lang/Object;[Ljava/lang/Object;I)V"⟩
abbrev cJx4a65c_add_9ea2d : ByteArray := prog_28_method_25_code
def yJx4a65c_add_9ea2d : MethodName := ⟨RJx4a65c, "add", "(Ljava/lang/Object;)Z"⟩
abbrev cJx4a65c_remove_915e3 : ByteArray := prog_28_method_29_code
def yJx4a65c_remove_915e3 : MethodName := ⟨RJx4a65c, "remove", "(I)Ljava/lang/Object;"⟩
abbrev cJx4a65c_fastRemove_b59b0 : ByteArray := prog_28_method_39_code
def yJx4a65c_fastRemove_b59b0 : MethodName := ⟨RJx4a65c, "fastRemove", "([Ljava/lang/Object;I)V"⟩
def RJ7 : String := "java/util/Arrays"
def TJ7 : u_T := fun k => match k with
  | _ => ("", "", "", false)
def tyJ7 : Nat → FieldType := fun k => match k with
  | _ => .int
abbrev wsJ70 : List Cond := u_ws RJ7 TJ7 0
theorem nmJ7 : ∀ a, a < 0 → ∀ b, b < 0 → a ≠ b → (TJ7 a).2.1 ≠ (TJ7 b).2.1 := by decide +kernel
theorem tyJ7_ok : ∀ k, k < 0 → parseFieldDescriptor (TJ7 k).2.2.1 = some (tyJ7 k) := by decide +kernel
abbrev cJ7_fill_53178 : ByteArray := prog_29_method_103_code
def yJ7_fill_53178 : MethodName := ⟨RJ7, "fill", "([II)V"⟩
abbrev cJ7_copyOf_1904c : ByteArray := prog_29_method_119_code
def yJ7_copyOf_1904c : MethodName := ⟨RJ7, "copyOf", "([Ljava/lang/Object;I)[Ljava/lang/Object;"⟩
abbrev cJ7_copyOf_6403c : ByteArray := prog_29_method_120_code
def yJ7_copyOf_6403c : MethodName := ⟨RJ7, "copyOf", "([Ljava/lang/Object;ILjava/lang/Class;)[Ljava/lang/Object;"⟩
def RJx5ef63 : String := "java/util/Collection"
def TJx5ef63 : u_T := fun k => match k with
  | _ => ("", "", "", false)
def tyJx5ef63 : Nat → FieldType := fun k => match k with
  | _ => .int
abbrev wsJx5ef630 : List Cond := u_ws RJx5ef63 TJx5ef63 0
theorem nmJx5ef63 : ∀ a, a < 0 → ∀ b, b < 0 → a ≠ b → (TJx5ef63 a).2.1 ≠ (TJx5ef63 b).2.1 := by decide +kernel
theorem tyJx5ef63_ok : ∀ k, k < 0 → parseFieldDescriptor (TJx5ef63 k).2.2.1 = some (tyJx5ef63 k) := by decide +kernel
def RJxbd725 : String := "java/util/List"
def TJxbd725 : u_T := fun k => match k with
  | _ => ("", "", "", false)
def tyJxbd725 : Nat → FieldType := fun k => match k with
  | _ => .int
abbrev wsJxbd7250 : List Cond := u_ws RJxbd725 TJxbd725 0
theorem nmJxbd725 : ∀ a, a < 0 → ∀ b, b < 0 → a ≠ b → (TJxbd725 a).2.1 ≠ (TJxbd725 b).2.1 := by decide +kernel
theorem tyJxbd725_ok : ∀ k, k < 0 → parseFieldDescriptor (TJxbd725 k).2.2.1 = some (tyJxbd725 k) := by decide +kernel
def RJ15 : String := "java/util/Objects"
def TJ15 : u_T := fun k => match k with
  | _ => ("", "", "", false)
def tyJ15 : Nat → FieldType := fun k => match k with
  | _ => .int
abbrev wsJ150 : List Cond := u_ws RJ15 TJ15 0
theorem nmJ15 : ∀ a, a < 0 → ∀ b, b < 0 → a ≠ b → (TJ15 a).2.1 ≠ (TJ15 b).2.1 := by decide +kernel
theorem tyJ15_ok : ∀ k, k < 0 → parseFieldDescriptor (TJ15 k).2.2.1 = some (tyJ15 k) := by decide +kernel
abbrev cJ15_checkIndex_7cf53 : ByteArray := prog_32_method_17_code
def yJ15_checkIndex_7cf53 : MethodName := ⟨RJ15, "checkIndex", "(II)I"⟩
def RJxf0a74 : String := "java/util/RandomAccess"
def TJxf0a74 : u_T := fun k => match k with
  | _ => ("", "", "", false)
def tyJxf0a74 : Nat → FieldType := fun k => match k with
  | _ => .int
abbrev wsJxf0a740 : List Cond := u_ws RJxf0a74 TJxf0a74 0
theorem nmJxf0a74 : ∀ a, a < 0 → ∀ b, b < 0 → a ≠ b → (TJxf0a74 a).2.1 ≠ (TJxf0a74 b).2.1 := by decide +kernel
theorem tyJxf0a74_ok : ∀ k, k < 0 → parseFieldDescriptor (TJxf0a74 k).2.2.1 = some (tyJxf0a74 k) := by decide +kernel
def RJxa66e6 : String := "java/util/SequencedCollection"
def TJxa66e6 : u_T := fun k => match k with
  | _ => ("", "", "", false)
def tyJxa66e6 : Nat → FieldType := fun k => match k with
  | _ => .int
abbrev wsJxa66e60 : List Cond := u_ws RJxa66e6 TJxa66e6 0
theorem nmJxa66e6 : ∀ a, a < 0 → ∀ b, b < 0 → a ≠ b → (TJxa66e6 a).2.1 ≠ (TJxa66e6 b).2.1 := by decide +kernel
theorem tyJxa66e6_ok : ∀ k, k < 0 → parseFieldDescriptor (TJxa66e6 k).2.2.1 = some (tyJxa66e6 k) := by decide +kernel
def RJ8 : String := "jdk/internal/util/ArraysSupport"
def TJ8 : u_T := fun k => match k with
  | _ => ("", "", "", false)
def tyJ8 : Nat → FieldType := fun k => match k with
  | _ => .int
abbrev wsJ80 : List Cond := u_ws RJ8 TJ8 0
theorem nmJ8 : ∀ a, a < 0 → ∀ b, b < 0 → a ≠ b → (TJ8 a).2.1 ≠ (TJ8 b).2.1 := by decide +kernel
theorem tyJ8_ok : ∀ k, k < 0 → parseFieldDescriptor (TJ8 k).2.2.1 = some (tyJ8 k) := by decide +kernel
abbrev cJ8_newLength_cabcc : ByteArray := prog_35_method_27_code
def yJ8_newLength_cabcc : MethodName := ⟨RJ8, "newLength", "(III)I"⟩
abbrev cJ8_hugeLength_7cf53 : ByteArray := prog_35_method_28_code
def yJ8_hugeLength_7cf53 : MethodName := ⟨RJ8, "hugeLength", "(II)I"⟩
def RJ3 : String := "jdk/internal/util/Preconditions"
def TJ3 : u_T := fun k => match k with
  | _ => ("", "", "", false)
def tyJ3 : Nat → FieldType := fun k => match k with
  | _ => .int
abbrev wsJ30 : List Cond := u_ws RJ3 TJ3 0
theorem nmJ3 : ∀ a, a < 0 → ∀ b, b < 0 → a ≠ b → (TJ3 a).2.1 ≠ (TJ3 b).2.1 := by decide +kernel
theorem tyJ3_ok : ∀ k, k < 0 → parseFieldDescriptor (TJ3 k).2.2.1 = some (tyJ3 k) := by decide +kernel
abbrev cJ3_checkIndex_8e157 : ByteArray := prog_36_method_11_code
def yJ3_checkIndex_8e157 : MethodName := ⟨RJ3, "checkIndex", "(IILjava/util/function/BiFunction;)I"⟩
def RL : String := "RegisterGatewayLaw"
abbrev cL_set : ByteArray := method_3_code
def yL_set : MethodName := ⟨RL, "set", "(LRegisterGateway;II[J)I"⟩
abbrev cL_setDevice : ByteArray := method_4_code
def yL_setDevice : MethodName := ⟨RL, "setDevice", "(LRegisterGateway;III[J)I"⟩
abbrev cL_poke : ByteArray := method_5_code
def yL_poke : MethodName := ⟨RL, "poke", "(LRegisterGateway;III[J)I"⟩
abbrev cL_peek : ByteArray := method_6_code
def yL_peek : MethodName := ⟨RL, "peek", "(LRegisterGateway;II[J)I"⟩
abbrev cL_protect : ByteArray := method_7_code
def yL_protect : MethodName := ⟨RL, "protect", "(LRegisterGateway;IIZ[J)I"⟩
abbrev cL_fault : ByteArray := method_8_code
def yL_fault : MethodName := ⟨RL, "fault", "(LRegisterGateway;III[J)I"⟩
abbrev cL_read : ByteArray := method_9_code
def yL_read : MethodName := ⟨RL, "read", "(LRegisterGateway;IIII[J)I"⟩
abbrev cL_write : ByteArray := method_10_code
def yL_write : MethodName := ⟨RL, "write", "(LRegisterGateway;IIII[J)I"⟩
abbrev cL_request : ByteArray := method_11_code
def yL_request : MethodName := ⟨RL, "request", "(LRegisterGateway;II[J)I"⟩
abbrev cL_value : ByteArray := method_12_code
def yL_value : MethodName := ⟨RL, "value", "(LRegisterGateway;II[J)I"⟩
abbrev cL_requests : ByteArray := method_13_code
def yL_requests : MethodName := ⟨RL, "requests", "(LRegisterGateway;I[J)I"⟩
abbrev cL_requestsOf : ByteArray := method_14_code
def yL_requestsOf : MethodName := ⟨RL, "requestsOf", "(LRegisterGateway;II[J)I"⟩
abbrev cL_pass : ByteArray := method_15_code
def yL_pass : MethodName := ⟨RL, "pass", "(LRegisterGateway;I[J)I"⟩
abbrev cL_frameByte : ByteArray := method_16_code
def yL_frameByte : MethodName := ⟨RL, "frameByte", "(LRegisterGateway;I[J)I"⟩
abbrev cL_cacheAge : ByteArray := method_17_code
def yL_cacheAge : MethodName := ⟨RL, "cacheAge", "(LRegisterGateway;II[J)I"⟩
abbrev cL_cached : ByteArray := method_18_code
def yL_cached : MethodName := ⟨RL, "cached", "(LRegisterGateway;II[J)I"⟩
abbrev cL_count : ByteArray := method_19_code
def yL_count : MethodName := ⟨RL, "count", "(LRegisterGateway;I[J)I"⟩
abbrev cL_leastDrain : ByteArray := method_20_code
def yL_leastDrain : MethodName := ⟨RL, "leastDrain", "(LRegisterGateway;I[J)I"⟩
abbrev cL_feed : ByteArray := method_21_code
def yL_feed : MethodName := ⟨RL, "feed", "(LRegisterGateway;II[J)I"⟩
abbrev cL_verdict : ByteArray := method_22_code
def yL_verdict : MethodName := ⟨RL, "verdict", "(LRegisterGateway;I[J)I"⟩
abbrev cL_length : ByteArray := method_23_code
def yL_length : MethodName := ⟨RL, "length", "(LRegisterGateway;I[J)I"⟩
abbrev cL_law : ByteArray := code
def yL_law : MethodName := ⟨RL, "law", "([I)Z"⟩
abbrev vwCl : List vw_C := [(RJx4a65c, TJx4a65c, 3), (RX0, TX0, 2), (RX1, TX1, 11), (RX2, TX2, 7), (RX3, TX3, 2), (RX4, TX4, 2), (RX5, TX5, 6), (RX6, TX6, 7), (RX7, TX7, 3), (RX8, TX8, 11), (RX9, TX9, 3), (RX10, TX10, 19)]
end
section
theorem dX0_init_0 : decode cX0_init 0 = .ok (.aload_n 0, 1) := by decide +kernel
theorem dX0_init_1 : decode cX0_init 1 = .ok (.invokespecial 3, 3) := by decide +kernel
theorem dX0_init_4 : decode cX0_init 4 = .ok (.aload_n 0, 1) := by decide +kernel
theorem dX0_init_5 : decode cX0_init 5 = .ok (.bipush 96, 2) := by decide +kernel
theorem dX0_init_7 : decode cX0_init 7 = .ok (.newarray .int, 2) := by decide +kernel
theorem dX0_init_9 : decode cX0_init 9 = .ok (.putfield 9, 3) := by decide +kernel
theorem dX0_init_12 : decode cX0_init 12 = .ok (.aload_n 0, 1) := by decide +kernel
theorem dX0_init_13 : decode cX0_init 13 = .ok (.bipush 96, 2) := by decide +kernel
theorem dX0_init_15 : decode cX0_init 15 = .ok (.newarray .int, 2) := by decide +kernel
theorem dX0_init_17 : decode cX0_init 17 = .ok (.putfield 15, 3) := by decide +kernel
theorem dX0_init_20 : decode cX0_init 20 = .ok (.aload_n 0, 1) := by decide +kernel
theorem dX0_init_21 : decode cX0_init 21 = .ok (.getfield 9, 3) := by decide +kernel
theorem dX0_init_24 : decode cX0_init 24 = .ok (.iconst (-1), 1) := by decide +kernel
theorem dX0_init_25 : decode cX0_init 25 = .ok (.invokestatic 18, 3) := by decide +kernel
theorem dX0_init_28 : decode cX0_init 28 = .ok (.return_, 1) := by decide +kernel
theorem dX0_copyFrom_0 : decode cX0_copyFrom 0 = .ok (.aload_n 1, 1) := by decide +kernel
theorem dX0_copyFrom_1 : decode cX0_copyFrom 1 = .ok (.getfield 9, 3) := by decide +kernel
theorem dX0_copyFrom_4 : decode cX0_copyFrom 4 = .ok (.iconst 0, 1) := by decide +kernel
theorem dX0_copyFrom_5 : decode cX0_copyFrom 5 = .ok (.aload_n 0, 1) := by decide +kernel
theorem dX0_copyFrom_6 : decode cX0_copyFrom 6 = .ok (.getfield 9, 3) := by decide +kernel
theorem dX0_copyFrom_9 : decode cX0_copyFrom 9 = .ok (.iconst 0, 1) := by decide +kernel
theorem dX0_copyFrom_10 : decode cX0_copyFrom 10 = .ok (.bipush 96, 2) := by decide +kernel
theorem dX0_copyFrom_12 : decode cX0_copyFrom 12 = .ok (.invokestatic 24, 3) := by decide +kernel
theorem dX0_copyFrom_15 : decode cX0_copyFrom 15 = .ok (.aload_n 1, 1) := by decide +kernel
theorem dX0_copyFrom_16 : decode cX0_copyFrom 16 = .ok (.getfield 15, 3) := by decide +kernel
theorem dX0_copyFrom_19 : decode cX0_copyFrom 19 = .ok (.iconst 0, 1) := by decide +kernel
theorem dX0_copyFrom_20 : decode cX0_copyFrom 20 = .ok (.aload_n 0, 1) := by decide +kernel
theorem dX0_copyFrom_21 : decode cX0_copyFrom 21 = .ok (.getfield 15, 3) := by decide +kernel
theorem dX0_copyFrom_24 : decode cX0_copyFrom 24 = .ok (.iconst 0, 1) := by decide +kernel
theorem dX0_copyFrom_25 : decode cX0_copyFrom 25 = .ok (.bipush 96, 2) := by decide +kernel
theorem dX0_copyFrom_27 : decode cX0_copyFrom 27 = .ok (.invokestatic 24, 3) := by decide +kernel
theorem dX0_copyFrom_30 : decode cX0_copyFrom 30 = .ok (.return_, 1) := by decide +kernel
theorem dX0_placeOf_0 : decode cX0_placeOf 0 = .ok (.iload_n 0, 1) := by decide +kernel
theorem dX0_placeOf_1 : decode cX0_placeOf 1 = .ok (.iconst 1, 1) := by decide +kernel
theorem dX0_placeOf_2 : decode cX0_placeOf 2 = .ok (.if_icmp .lt 18, 3) := by decide +kernel
theorem dX0_placeOf_5 : decode cX0_placeOf 5 = .ok (.iload_n 0, 1) := by decide +kernel
theorem dX0_placeOf_6 : decode cX0_placeOf 6 = .ok (.iconst 3, 1) := by decide +kernel
theorem dX0_placeOf_7 : decode cX0_placeOf 7 = .ok (.if_icmp .gt 13, 3) := by decide +kernel
theorem dX0_placeOf_10 : decode cX0_placeOf 10 = .ok (.iload_n 1, 1) := by decide +kernel
theorem dX0_placeOf_11 : decode cX0_placeOf 11 = .ok (.ifCond .lt 9, 3) := by decide +kernel
theorem dX0_placeOf_14 : decode cX0_placeOf 14 = .ok (.iload_n 1, 1) := by decide +kernel
theorem dX0_placeOf_15 : decode cX0_placeOf 15 = .ok (.bipush 32, 2) := by decide +kernel
theorem dX0_placeOf_17 : decode cX0_placeOf 17 = .ok (.if_icmp .lt 5, 3) := by decide +kernel
theorem dX0_placeOf_20 : decode cX0_placeOf 20 = .ok (.iconst (-1), 1) := by decide +kernel
theorem dX0_placeOf_21 : decode cX0_placeOf 21 = .ok (.ireturn, 1) := by decide +kernel
theorem dX0_placeOf_22 : decode cX0_placeOf 22 = .ok (.iload_n 0, 1) := by decide +kernel
theorem dX0_placeOf_23 : decode cX0_placeOf 23 = .ok (.iconst 1, 1) := by decide +kernel
theorem dX0_placeOf_24 : decode cX0_placeOf 24 = .ok (.isub, 1) := by decide +kernel
theorem dX0_placeOf_25 : decode cX0_placeOf 25 = .ok (.bipush 32, 2) := by decide +kernel
theorem dX0_placeOf_27 : decode cX0_placeOf 27 = .ok (.imul, 1) := by decide +kernel
theorem dX0_placeOf_28 : decode cX0_placeOf 28 = .ok (.iload_n 1, 1) := by decide +kernel
theorem dX0_placeOf_29 : decode cX0_placeOf 29 = .ok (.iadd, 1) := by decide +kernel
theorem dX0_placeOf_30 : decode cX0_placeOf 30 = .ok (.ireturn, 1) := by decide +kernel
theorem dX0_valueOf_0 : decode cX0_valueOf 0 = .ok (.iload_n 1, 1) := by decide +kernel
theorem dX0_valueOf_1 : decode cX0_valueOf 1 = .ok (.iload_n 2, 1) := by decide +kernel
theorem dX0_valueOf_2 : decode cX0_valueOf 2 = .ok (.invokestatic 30, 3) := by decide +kernel
theorem dX0_valueOf_5 : decode cX0_valueOf 5 = .ok (.istore_n 3, 1) := by decide +kernel
theorem dX0_valueOf_6 : decode cX0_valueOf 6 = .ok (.iload_n 3, 1) := by decide +kernel
theorem dX0_valueOf_7 : decode cX0_valueOf 7 = .ok (.ifCond .ge 7, 3) := by decide +kernel
theorem dX0_valueOf_10 : decode cX0_valueOf 10 = .ok (.iconst (-1), 1) := by decide +kernel
theorem dX0_valueOf_11 : decode cX0_valueOf 11 = .ok (.goto 9, 3) := by decide +kernel
theorem dX0_valueOf_14 : decode cX0_valueOf 14 = .ok (.aload_n 0, 1) := by decide +kernel
theorem dX0_valueOf_15 : decode cX0_valueOf 15 = .ok (.getfield 9, 3) := by decide +kernel
theorem dX0_valueOf_18 : decode cX0_valueOf 18 = .ok (.iload_n 3, 1) := by decide +kernel
theorem dX0_valueOf_19 : decode cX0_valueOf 19 = .ok (.iaload, 1) := by decide +kernel
theorem dX0_valueOf_20 : decode cX0_valueOf 20 = .ok (.ireturn, 1) := by decide +kernel
theorem dX0_ageOf_0 : decode cX0_ageOf 0 = .ok (.iload_n 1, 1) := by decide +kernel
theorem dX0_ageOf_1 : decode cX0_ageOf 1 = .ok (.iload_n 2, 1) := by decide +kernel
theorem dX0_ageOf_2 : decode cX0_ageOf 2 = .ok (.invokestatic 30, 3) := by decide +kernel
theorem dX0_ageOf_5 : decode cX0_ageOf 5 = .ok (.istore 4, 2) := by decide +kernel
theorem dX0_ageOf_7 : decode cX0_ageOf 7 = .ok (.iload 4, 2) := by decide +kernel
theorem dX0_ageOf_9 : decode cX0_ageOf 9 = .ok (.ifCond .lt 13, 3) := by decide +kernel
theorem dX0_ageOf_12 : decode cX0_ageOf 12 = .ok (.aload_n 0, 1) := by decide +kernel
theorem dX0_ageOf_13 : decode cX0_ageOf 13 = .ok (.getfield 9, 3) := by decide +kernel
theorem dX0_ageOf_16 : decode cX0_ageOf 16 = .ok (.iload 4, 2) := by decide +kernel
theorem dX0_ageOf_18 : decode cX0_ageOf 18 = .ok (.iaload, 1) := by decide +kernel
theorem dX0_ageOf_19 : decode cX0_ageOf 19 = .ok (.ifCond .ge 7, 3) := by decide +kernel
theorem dX0_ageOf_22 : decode cX0_ageOf 22 = .ok (.iconst (-1), 1) := by decide +kernel
theorem dX0_ageOf_23 : decode cX0_ageOf 23 = .ok (.goto 12, 3) := by decide +kernel
theorem dX0_ageOf_26 : decode cX0_ageOf 26 = .ok (.iload_n 3, 1) := by decide +kernel
theorem dX0_ageOf_27 : decode cX0_ageOf 27 = .ok (.aload_n 0, 1) := by decide +kernel
theorem dX0_ageOf_28 : decode cX0_ageOf 28 = .ok (.getfield 15, 3) := by decide +kernel
theorem dX0_ageOf_31 : decode cX0_ageOf 31 = .ok (.iload 4, 2) := by decide +kernel
theorem dX0_ageOf_33 : decode cX0_ageOf 33 = .ok (.iaload, 1) := by decide +kernel
theorem dX0_ageOf_34 : decode cX0_ageOf 34 = .ok (.isub, 1) := by decide +kernel
theorem dX0_ageOf_35 : decode cX0_ageOf 35 = .ok (.ireturn, 1) := by decide +kernel
theorem dX0_isFresh_0 : decode cX0_isFresh 0 = .ok (.aload_n 0, 1) := by decide +kernel
theorem dX0_isFresh_1 : decode cX0_isFresh 1 = .ok (.iload_n 1, 1) := by decide +kernel
theorem dX0_isFresh_2 : decode cX0_isFresh 2 = .ok (.iload_n 2, 1) := by decide +kernel
theorem dX0_isFresh_3 : decode cX0_isFresh 3 = .ok (.iload_n 3, 1) := by decide +kernel
theorem dX0_isFresh_4 : decode cX0_isFresh 4 = .ok (.invokevirtual 34, 3) := by decide +kernel
theorem dX0_isFresh_7 : decode cX0_isFresh 7 = .ok (.istore 5, 2) := by decide +kernel
theorem dX0_isFresh_9 : decode cX0_isFresh 9 = .ok (.iload 5, 2) := by decide +kernel
theorem dX0_isFresh_11 : decode cX0_isFresh 11 = .ok (.ifCond .lt 14, 3) := by decide +kernel
theorem dX0_isFresh_14 : decode cX0_isFresh 14 = .ok (.iload 5, 2) := by decide +kernel
theorem dX0_isFresh_16 : decode cX0_isFresh 16 = .ok (.iload 4, 2) := by decide +kernel
theorem dX0_isFresh_18 : decode cX0_isFresh 18 = .ok (.if_icmp .gt 7, 3) := by decide +kernel
theorem dX0_isFresh_21 : decode cX0_isFresh 21 = .ok (.iconst 1, 1) := by decide +kernel
theorem dX0_isFresh_22 : decode cX0_isFresh 22 = .ok (.goto 4, 3) := by decide +kernel
theorem dX0_isFresh_25 : decode cX0_isFresh 25 = .ok (.iconst 0, 1) := by decide +kernel
theorem dX0_isFresh_26 : decode cX0_isFresh 26 = .ok (.ireturn, 1) := by decide +kernel
theorem dX0_put_0 : decode cX0_put 0 = .ok (.iload_n 1, 1) := by decide +kernel
theorem dX0_put_1 : decode cX0_put 1 = .ok (.iload_n 2, 1) := by decide +kernel
theorem dX0_put_2 : decode cX0_put 2 = .ok (.invokestatic 30, 3) := by decide +kernel
theorem dX0_put_5 : decode cX0_put 5 = .ok (.istore 5, 2) := by decide +kernel
theorem dX0_put_7 : decode cX0_put 7 = .ok (.iload 5, 2) := by decide +kernel
theorem dX0_put_9 : decode cX0_put 9 = .ok (.ifCond .lt 20, 3) := by decide +kernel
theorem dX0_put_12 : decode cX0_put 12 = .ok (.aload_n 0, 1) := by decide +kernel
theorem dX0_put_13 : decode cX0_put 13 = .ok (.getfield 9, 3) := by decide +kernel
theorem dX0_put_16 : decode cX0_put 16 = .ok (.iload 5, 2) := by decide +kernel
theorem dX0_put_18 : decode cX0_put 18 = .ok (.iload_n 3, 1) := by decide +kernel
theorem dX0_put_19 : decode cX0_put 19 = .ok (.iastore, 1) := by decide +kernel
theorem dX0_put_20 : decode cX0_put 20 = .ok (.aload_n 0, 1) := by decide +kernel
theorem dX0_put_21 : decode cX0_put 21 = .ok (.getfield 15, 3) := by decide +kernel
theorem dX0_put_24 : decode cX0_put 24 = .ok (.iload 5, 2) := by decide +kernel
theorem dX0_put_26 : decode cX0_put 26 = .ok (.iload 4, 2) := by decide +kernel
theorem dX0_put_28 : decode cX0_put 28 = .ok (.iastore, 1) := by decide +kernel
theorem dX0_put_29 : decode cX0_put 29 = .ok (.return_, 1) := by decide +kernel
theorem dX0_forget_0 : decode cX0_forget 0 = .ok (.aload_n 0, 1) := by decide +kernel
theorem dX0_forget_1 : decode cX0_forget 1 = .ok (.iload_n 1, 1) := by decide +kernel
theorem dX0_forget_2 : decode cX0_forget 2 = .ok (.iload_n 2, 1) := by decide +kernel
theorem dX0_forget_3 : decode cX0_forget 3 = .ok (.iconst (-1), 1) := by decide +kernel
theorem dX0_forget_4 : decode cX0_forget 4 = .ok (.iconst 0, 1) := by decide +kernel
theorem dX0_forget_5 : decode cX0_forget 5 = .ok (.invokevirtual 38, 3) := by decide +kernel
theorem dX0_forget_8 : decode cX0_forget 8 = .ok (.return_, 1) := by decide +kernel
theorem dX0_empty_0 : decode cX0_empty 0 = .ok (.iconst 0, 1) := by decide +kernel
theorem dX0_empty_1 : decode cX0_empty 1 = .ok (.istore_n 1, 1) := by decide +kernel
theorem dX0_empty_2 : decode cX0_empty 2 = .ok (.iconst 0, 1) := by decide +kernel
theorem dX0_empty_3 : decode cX0_empty 3 = .ok (.istore_n 2, 1) := by decide +kernel
theorem dX0_empty_4 : decode cX0_empty 4 = .ok (.iload_n 2, 1) := by decide +kernel
theorem dX0_empty_5 : decode cX0_empty 5 = .ok (.aload_n 0, 1) := by decide +kernel
theorem dX0_empty_6 : decode cX0_empty 6 = .ok (.getfield 9, 3) := by decide +kernel
theorem dX0_empty_9 : decode cX0_empty 9 = .ok (.arraylength, 1) := by decide +kernel
theorem dX0_empty_10 : decode cX0_empty 10 = .ok (.if_icmp .ge 28, 3) := by decide +kernel
theorem dX0_empty_13 : decode cX0_empty 13 = .ok (.aload_n 0, 1) := by decide +kernel
theorem dX0_empty_14 : decode cX0_empty 14 = .ok (.getfield 9, 3) := by decide +kernel
theorem dX0_empty_17 : decode cX0_empty 17 = .ok (.iload_n 2, 1) := by decide +kernel
theorem dX0_empty_18 : decode cX0_empty 18 = .ok (.iaload, 1) := by decide +kernel
theorem dX0_empty_19 : decode cX0_empty 19 = .ok (.ifCond .lt 6, 3) := by decide +kernel
theorem dX0_empty_22 : decode cX0_empty 22 = .ok (.iinc 1 1, 3) := by decide +kernel
theorem dX0_empty_25 : decode cX0_empty 25 = .ok (.aload_n 0, 1) := by decide +kernel
theorem dX0_empty_26 : decode cX0_empty 26 = .ok (.getfield 9, 3) := by decide +kernel
theorem dX0_empty_29 : decode cX0_empty 29 = .ok (.iload_n 2, 1) := by decide +kernel
theorem dX0_empty_30 : decode cX0_empty 30 = .ok (.iconst (-1), 1) := by decide +kernel
theorem dX0_empty_31 : decode cX0_empty 31 = .ok (.iastore, 1) := by decide +kernel
theorem dX0_empty_32 : decode cX0_empty 32 = .ok (.iinc 2 1, 3) := by decide +kernel
theorem dX0_empty_35 : decode cX0_empty 35 = .ok (.goto (-31), 3) := by decide +kernel
theorem dX0_empty_38 : decode cX0_empty 38 = .ok (.iload_n 1, 1) := by decide +kernel
theorem dX0_empty_39 : decode cX0_empty 39 = .ok (.ireturn, 1) := by decide +kernel
theorem dX1_init_0 : decode cX1_init 0 = .ok (.aload_n 0, 1) := by decide +kernel
theorem dX1_init_1 : decode cX1_init 1 = .ok (.invokespecial 3, 3) := by decide +kernel
theorem dX1_init_4 : decode cX1_init 4 = .ok (.aload_n 0, 1) := by decide +kernel
theorem dX1_init_5 : decode cX1_init 5 = .ok (.iconst 5, 1) := by decide +kernel
theorem dX1_init_6 : decode cX1_init 6 = .ok (.newarray .int, 2) := by decide +kernel
theorem dX1_init_8 : decode cX1_init 8 = .ok (.dup, 1) := by decide +kernel
theorem dX1_init_9 : decode cX1_init 9 = .ok (.iconst 0, 1) := by decide +kernel
theorem dX1_init_10 : decode cX1_init 10 = .ok (.bipush 50, 2) := by decide +kernel
theorem dX1_init_12 : decode cX1_init 12 = .ok (.iastore, 1) := by decide +kernel
theorem dX1_init_13 : decode cX1_init 13 = .ok (.dup, 1) := by decide +kernel
theorem dX1_init_14 : decode cX1_init 14 = .ok (.iconst 1, 1) := by decide +kernel
theorem dX1_init_15 : decode cX1_init 15 = .ok (.bipush 30, 2) := by decide +kernel
theorem dX1_init_17 : decode cX1_init 17 = .ok (.iastore, 1) := by decide +kernel
theorem dX1_init_18 : decode cX1_init 18 = .ok (.dup, 1) := by decide +kernel
theorem dX1_init_19 : decode cX1_init 19 = .ok (.iconst 2, 1) := by decide +kernel
theorem dX1_init_20 : decode cX1_init 20 = .ok (.iconst 1, 1) := by decide +kernel
theorem dX1_init_21 : decode cX1_init 21 = .ok (.iastore, 1) := by decide +kernel
theorem dX1_init_22 : decode cX1_init 22 = .ok (.dup, 1) := by decide +kernel
theorem dX1_init_23 : decode cX1_init 23 = .ok (.iconst 3, 1) := by decide +kernel
theorem dX1_init_24 : decode cX1_init 24 = .ok (.iconst 0, 1) := by decide +kernel
theorem dX1_init_25 : decode cX1_init 25 = .ok (.iastore, 1) := by decide +kernel
theorem dX1_init_26 : decode cX1_init 26 = .ok (.dup, 1) := by decide +kernel
theorem dX1_init_27 : decode cX1_init 27 = .ok (.iconst 4, 1) := by decide +kernel
theorem dX1_init_28 : decode cX1_init 28 = .ok (.iconst 1, 1) := by decide +kernel
theorem dX1_init_29 : decode cX1_init 29 = .ok (.iastore, 1) := by decide +kernel
theorem dX1_init_30 : decode cX1_init 30 = .ok (.putfield 9, 3) := by decide +kernel
theorem dX1_init_33 : decode cX1_init 33 = .ok (.aload_n 0, 1) := by decide +kernel
theorem dX1_init_34 : decode cX1_init 34 = .ok (.bipush 6, 2) := by decide +kernel
theorem dX1_init_36 : decode cX1_init 36 = .ok (.newarray .int, 2) := by decide +kernel
theorem dX1_init_38 : decode cX1_init 38 = .ok (.putfield 15, 3) := by decide +kernel
theorem dX1_init_41 : decode cX1_init 41 = .ok (.aload_n 0, 1) := by decide +kernel
theorem dX1_init_42 : decode cX1_init 42 = .ok (.iconst 3, 1) := by decide +kernel
theorem dX1_init_43 : decode cX1_init 43 = .ok (.anewarray 18, 3) := by decide +kernel
theorem dX1_init_46 : decode cX1_init 46 = .ok (.dup, 1) := by decide +kernel
theorem dX1_init_47 : decode cX1_init 47 = .ok (.iconst 0, 1) := by decide +kernel
theorem dX1_init_48 : decode cX1_init 48 = .ok (.new 18, 3) := by decide +kernel
theorem dX1_init_51 : decode cX1_init 51 = .ok (.dup, 1) := by decide +kernel
theorem dX1_init_52 : decode cX1_init 52 = .ok (.invokespecial 20, 3) := by decide +kernel
theorem dX1_init_55 : decode cX1_init 55 = .ok (.aastore, 1) := by decide +kernel
theorem dX1_init_56 : decode cX1_init 56 = .ok (.dup, 1) := by decide +kernel
theorem dX1_init_57 : decode cX1_init 57 = .ok (.iconst 1, 1) := by decide +kernel
theorem dX1_init_58 : decode cX1_init 58 = .ok (.new 18, 3) := by decide +kernel
theorem dX1_init_61 : decode cX1_init 61 = .ok (.dup, 1) := by decide +kernel
theorem dX1_init_62 : decode cX1_init 62 = .ok (.invokespecial 20, 3) := by decide +kernel
theorem dX1_init_65 : decode cX1_init 65 = .ok (.aastore, 1) := by decide +kernel
theorem dX1_init_66 : decode cX1_init 66 = .ok (.dup, 1) := by decide +kernel
theorem dX1_init_67 : decode cX1_init 67 = .ok (.iconst 2, 1) := by decide +kernel
theorem dX1_init_68 : decode cX1_init 68 = .ok (.new 18, 3) := by decide +kernel
theorem dX1_init_71 : decode cX1_init 71 = .ok (.dup, 1) := by decide +kernel
theorem dX1_init_72 : decode cX1_init 72 = .ok (.invokespecial 20, 3) := by decide +kernel
theorem dX1_init_75 : decode cX1_init 75 = .ok (.aastore, 1) := by decide +kernel
theorem dX1_init_76 : decode cX1_init 76 = .ok (.putfield 21, 3) := by decide +kernel
theorem dX1_init_79 : decode cX1_init 79 = .ok (.aload_n 0, 1) := by decide +kernel
theorem dX1_init_80 : decode cX1_init 80 = .ok (.new 25, 3) := by decide +kernel
theorem dX1_init_83 : decode cX1_init 83 = .ok (.dup, 1) := by decide +kernel
theorem dX1_init_84 : decode cX1_init 84 = .ok (.invokespecial 27, 3) := by decide +kernel
theorem dX1_init_87 : decode cX1_init 87 = .ok (.putfield 28, 3) := by decide +kernel
theorem dX1_init_90 : decode cX1_init 90 = .ok (.aload_n 0, 1) := by decide +kernel
theorem dX1_init_91 : decode cX1_init 91 = .ok (.new 32, 3) := by decide +kernel
theorem dX1_init_94 : decode cX1_init 94 = .ok (.dup, 1) := by decide +kernel
theorem dX1_init_95 : decode cX1_init 95 = .ok (.invokespecial 34, 3) := by decide +kernel
theorem dX1_init_98 : decode cX1_init 98 = .ok (.putfield 35, 3) := by decide +kernel
theorem dX1_init_101 : decode cX1_init 101 = .ok (.aload_n 0, 1) := by decide +kernel
theorem dX1_init_102 : decode cX1_init 102 = .ok (.new 39, 3) := by decide +kernel
theorem dX1_init_105 : decode cX1_init 105 = .ok (.dup, 1) := by decide +kernel
theorem dX1_init_106 : decode cX1_init 106 = .ok (.invokespecial 41, 3) := by decide +kernel
theorem dX1_init_109 : decode cX1_init 109 = .ok (.putfield 42, 3) := by decide +kernel
theorem dX1_init_112 : decode cX1_init 112 = .ok (.aload_n 0, 1) := by decide +kernel
theorem dX1_init_113 : decode cX1_init 113 = .ok (.new 46, 3) := by decide +kernel
theorem dX1_init_116 : decode cX1_init 116 = .ok (.dup, 1) := by decide +kernel
theorem dX1_init_117 : decode cX1_init 117 = .ok (.invokespecial 48, 3) := by decide +kernel
theorem dX1_init_120 : decode cX1_init 120 = .ok (.putfield 49, 3) := by decide +kernel
theorem dX1_init_123 : decode cX1_init 123 = .ok (.aload_n 0, 1) := by decide +kernel
theorem dX1_init_124 : decode cX1_init 124 = .ok (.iconst 0, 1) := by decide +kernel
theorem dX1_init_125 : decode cX1_init 125 = .ok (.putfield 53, 3) := by decide +kernel
theorem dX1_init_128 : decode cX1_init 128 = .ok (.aload_n 0, 1) := by decide +kernel
theorem dX1_init_129 : decode cX1_init 129 = .ok (.iconst 0, 1) := by decide +kernel
theorem dX1_init_130 : decode cX1_init 130 = .ok (.putfield 57, 3) := by decide +kernel
theorem dX1_init_133 : decode cX1_init 133 = .ok (.aload_n 0, 1) := by decide +kernel
theorem dX1_init_134 : decode cX1_init 134 = .ok (.iconst 0, 1) := by decide +kernel
theorem dX1_init_135 : decode cX1_init 135 = .ok (.putfield 60, 3) := by decide +kernel
theorem dX1_init_138 : decode cX1_init 138 = .ok (.aload_n 0, 1) := by decide +kernel
theorem dX1_init_139 : decode cX1_init 139 = .ok (.iconst 0, 1) := by decide +kernel
theorem dX1_init_140 : decode cX1_init 140 = .ok (.putfield 64, 3) := by decide +kernel
theorem dX1_init_143 : decode cX1_init 143 = .ok (.return_, 1) := by decide +kernel
theorem dX1_copyFrom_0 : decode cX1_copyFrom 0 = .ok (.aload_n 1, 1) := by decide +kernel
theorem dX1_copyFrom_1 : decode cX1_copyFrom 1 = .ok (.getfield 9, 3) := by decide +kernel
theorem dX1_copyFrom_4 : decode cX1_copyFrom 4 = .ok (.iconst 0, 1) := by decide +kernel
theorem dX1_copyFrom_5 : decode cX1_copyFrom 5 = .ok (.aload_n 0, 1) := by decide +kernel
theorem dX1_copyFrom_6 : decode cX1_copyFrom 6 = .ok (.getfield 9, 3) := by decide +kernel
theorem dX1_copyFrom_9 : decode cX1_copyFrom 9 = .ok (.iconst 0, 1) := by decide +kernel
theorem dX1_copyFrom_10 : decode cX1_copyFrom 10 = .ok (.iconst 5, 1) := by decide +kernel
theorem dX1_copyFrom_11 : decode cX1_copyFrom 11 = .ok (.invokestatic 67, 3) := by decide +kernel
theorem dX1_copyFrom_14 : decode cX1_copyFrom 14 = .ok (.aload_n 1, 1) := by decide +kernel
theorem dX1_copyFrom_15 : decode cX1_copyFrom 15 = .ok (.getfield 15, 3) := by decide +kernel
theorem dX1_copyFrom_18 : decode cX1_copyFrom 18 = .ok (.iconst 0, 1) := by decide +kernel
theorem dX1_copyFrom_19 : decode cX1_copyFrom 19 = .ok (.aload_n 0, 1) := by decide +kernel
theorem dX1_copyFrom_20 : decode cX1_copyFrom 20 = .ok (.getfield 15, 3) := by decide +kernel
theorem dX1_copyFrom_23 : decode cX1_copyFrom 23 = .ok (.iconst 0, 1) := by decide +kernel
theorem dX1_copyFrom_24 : decode cX1_copyFrom 24 = .ok (.bipush 6, 2) := by decide +kernel
theorem dX1_copyFrom_26 : decode cX1_copyFrom 26 = .ok (.invokestatic 67, 3) := by decide +kernel
theorem dX1_copyFrom_29 : decode cX1_copyFrom 29 = .ok (.iconst 0, 1) := by decide +kernel
theorem dX1_copyFrom_30 : decode cX1_copyFrom 30 = .ok (.istore_n 2, 1) := by decide +kernel
theorem dX1_copyFrom_31 : decode cX1_copyFrom 31 = .ok (.iload_n 2, 1) := by decide +kernel
theorem dX1_copyFrom_32 : decode cX1_copyFrom 32 = .ok (.iconst 3, 1) := by decide +kernel
theorem dX1_copyFrom_33 : decode cX1_copyFrom 33 = .ok (.if_icmp .ge 24, 3) := by decide +kernel
theorem dX1_copyFrom_36 : decode cX1_copyFrom 36 = .ok (.aload_n 0, 1) := by decide +kernel
theorem dX1_copyFrom_37 : decode cX1_copyFrom 37 = .ok (.getfield 21, 3) := by decide +kernel
theorem dX1_copyFrom_40 : decode cX1_copyFrom 40 = .ok (.iload_n 2, 1) := by decide +kernel
theorem dX1_copyFrom_41 : decode cX1_copyFrom 41 = .ok (.aaload, 1) := by decide +kernel
theorem dX1_copyFrom_42 : decode cX1_copyFrom 42 = .ok (.aload_n 1, 1) := by decide +kernel
theorem dX1_copyFrom_43 : decode cX1_copyFrom 43 = .ok (.getfield 21, 3) := by decide +kernel
theorem dX1_copyFrom_46 : decode cX1_copyFrom 46 = .ok (.iload_n 2, 1) := by decide +kernel
theorem dX1_copyFrom_47 : decode cX1_copyFrom 47 = .ok (.aaload, 1) := by decide +kernel
theorem dX1_copyFrom_48 : decode cX1_copyFrom 48 = .ok (.invokevirtual 73, 3) := by decide +kernel
theorem dX1_copyFrom_51 : decode cX1_copyFrom 51 = .ok (.iinc 2 1, 3) := by decide +kernel
theorem dX1_copyFrom_54 : decode cX1_copyFrom 54 = .ok (.goto (-23), 3) := by decide +kernel
theorem dX1_copyFrom_57 : decode cX1_copyFrom 57 = .ok (.aload_n 0, 1) := by decide +kernel
theorem dX1_copyFrom_58 : decode cX1_copyFrom 58 = .ok (.getfield 28, 3) := by decide +kernel
theorem dX1_copyFrom_61 : decode cX1_copyFrom 61 = .ok (.aload_n 1, 1) := by decide +kernel
theorem dX1_copyFrom_62 : decode cX1_copyFrom 62 = .ok (.getfield 28, 3) := by decide +kernel
theorem dX1_copyFrom_65 : decode cX1_copyFrom 65 = .ok (.invokevirtual 77, 3) := by decide +kernel
theorem dX1_copyFrom_68 : decode cX1_copyFrom 68 = .ok (.aload_n 0, 1) := by decide +kernel
theorem dX1_copyFrom_69 : decode cX1_copyFrom 69 = .ok (.getfield 35, 3) := by decide +kernel
theorem dX1_copyFrom_72 : decode cX1_copyFrom 72 = .ok (.aload_n 1, 1) := by decide +kernel
theorem dX1_copyFrom_73 : decode cX1_copyFrom 73 = .ok (.getfield 35, 3) := by decide +kernel
theorem dX1_copyFrom_76 : decode cX1_copyFrom 76 = .ok (.invokevirtual 80, 3) := by decide +kernel
theorem dX1_copyFrom_79 : decode cX1_copyFrom 79 = .ok (.aload_n 0, 1) := by decide +kernel
theorem dX1_copyFrom_80 : decode cX1_copyFrom 80 = .ok (.getfield 42, 3) := by decide +kernel
theorem dX1_copyFrom_83 : decode cX1_copyFrom 83 = .ok (.aload_n 1, 1) := by decide +kernel
theorem dX1_copyFrom_84 : decode cX1_copyFrom 84 = .ok (.getfield 42, 3) := by decide +kernel
theorem dX1_copyFrom_87 : decode cX1_copyFrom 87 = .ok (.invokevirtual 83, 3) := by decide +kernel
theorem dX1_copyFrom_90 : decode cX1_copyFrom 90 = .ok (.aload_n 0, 1) := by decide +kernel
theorem dX1_copyFrom_91 : decode cX1_copyFrom 91 = .ok (.aload_n 1, 1) := by decide +kernel
theorem dX1_copyFrom_92 : decode cX1_copyFrom 92 = .ok (.getfield 53, 3) := by decide +kernel
theorem dX1_copyFrom_95 : decode cX1_copyFrom 95 = .ok (.putfield 53, 3) := by decide +kernel
theorem dX1_copyFrom_98 : decode cX1_copyFrom 98 = .ok (.aload_n 0, 1) := by decide +kernel
theorem dX1_copyFrom_99 : decode cX1_copyFrom 99 = .ok (.aload_n 1, 1) := by decide +kernel
theorem dX1_copyFrom_100 : decode cX1_copyFrom 100 = .ok (.getfield 57, 3) := by decide +kernel
theorem dX1_copyFrom_103 : decode cX1_copyFrom 103 = .ok (.putfield 57, 3) := by decide +kernel
theorem dX1_copyFrom_106 : decode cX1_copyFrom 106 = .ok (.aload_n 0, 1) := by decide +kernel
theorem dX1_copyFrom_107 : decode cX1_copyFrom 107 = .ok (.aload_n 1, 1) := by decide +kernel
theorem dX1_copyFrom_108 : decode cX1_copyFrom 108 = .ok (.getfield 60, 3) := by decide +kernel
theorem dX1_copyFrom_111 : decode cX1_copyFrom 111 = .ok (.putfield 60, 3) := by decide +kernel
theorem dX1_copyFrom_114 : decode cX1_copyFrom 114 = .ok (.aload_n 0, 1) := by decide +kernel
theorem dX1_copyFrom_115 : decode cX1_copyFrom 115 = .ok (.iconst 0, 1) := by decide +kernel
theorem dX1_copyFrom_116 : decode cX1_copyFrom 116 = .ok (.putfield 64, 3) := by decide +kernel
theorem dX1_copyFrom_119 : decode cX1_copyFrom 119 = .ok (.return_, 1) := by decide +kernel
theorem dX1_plan_0 : decode cX1_plan 0 = .ok (.aload_n 0, 1) := by decide +kernel
theorem dX1_plan_1 : decode cX1_plan 1 = .ok (.getfield 49, 3) := by decide +kernel
theorem dX1_plan_4 : decode cX1_plan 4 = .ok (.iconst 0, 1) := by decide +kernel
theorem dX1_plan_5 : decode cX1_plan 5 = .ok (.putfield 86, 3) := by decide +kernel
theorem dX1_plan_8 : decode cX1_plan 8 = .ok (.aload_n 0, 1) := by decide +kernel
theorem dX1_plan_9 : decode cX1_plan 9 = .ok (.getfield 35, 3) := by decide +kernel
theorem dX1_plan_12 : decode cX1_plan 12 = .ok (.invokevirtual 89, 3) := by decide +kernel
theorem dX1_plan_15 : decode cX1_plan 15 = .ok (.astore_n 1, 1) := by decide +kernel
theorem dX1_plan_16 : decode cX1_plan 16 = .ok (.aload_n 1, 1) := by decide +kernel
theorem dX1_plan_17 : decode cX1_plan 17 = .ok (.ifnull 11, 3) := by decide +kernel
theorem dX1_plan_20 : decode cX1_plan 20 = .ok (.aload_n 0, 1) := by decide +kernel
theorem dX1_plan_21 : decode cX1_plan 21 = .ok (.aload_n 1, 1) := by decide +kernel
theorem dX1_plan_22 : decode cX1_plan 22 = .ok (.invokevirtual 93, 3) := by decide +kernel
theorem dX1_plan_25 : decode cX1_plan 25 = .ok (.ifCond .eq 4, 3) := by decide +kernel
theorem dX1_plan_28 : decode cX1_plan 28 = .ok (.return_, 1) := by decide +kernel
theorem dX1_plan_29 : decode cX1_plan 29 = .ok (.aload_n 0, 1) := by decide +kernel
theorem dX1_plan_30 : decode cX1_plan 30 = .ok (.getfield 9, 3) := by decide +kernel
theorem dX1_plan_33 : decode cX1_plan 33 = .ok (.iconst 4, 1) := by decide +kernel
theorem dX1_plan_34 : decode cX1_plan 34 = .ok (.iaload, 1) := by decide +kernel
theorem dX1_plan_35 : decode cX1_plan 35 = .ok (.iconst 1, 1) := by decide +kernel
theorem dX1_plan_36 : decode cX1_plan 36 = .ok (.if_icmp .ne 10, 3) := by decide +kernel
theorem dX1_plan_39 : decode cX1_plan 39 = .ok (.aload_n 0, 1) := by decide +kernel
theorem dX1_plan_40 : decode cX1_plan 40 = .ok (.getfield 35, 3) := by decide +kernel
theorem dX1_plan_43 : decode cX1_plan 43 = .ok (.invokevirtual 97, 3) := by decide +kernel
theorem dX1_plan_46 : decode cX1_plan 46 = .ok (.aload_n 0, 1) := by decide +kernel
theorem dX1_plan_47 : decode cX1_plan 47 = .ok (.getfield 35, 3) := by decide +kernel
theorem dX1_plan_50 : decode cX1_plan 50 = .ok (.getfield 100, 3) := by decide +kernel
theorem dX1_plan_53 : decode cX1_plan 53 = .ok (.ifCond .eq 10, 3) := by decide +kernel
theorem dX1_plan_56 : decode cX1_plan 56 = .ok (.aload_n 0, 1) := by decide +kernel
theorem dX1_plan_57 : decode cX1_plan 57 = .ok (.invokevirtual 103, 3) := by decide +kernel
theorem dX1_plan_60 : decode cX1_plan 60 = .ok (.goto 46, 3) := by decide +kernel
theorem dX1_plan_63 : decode cX1_plan 63 = .ok (.aload_n 0, 1) := by decide +kernel
theorem dX1_plan_64 : decode cX1_plan 64 = .ok (.getfield 49, 3) := by decide +kernel
theorem dX1_plan_67 : decode cX1_plan 67 = .ok (.aload_n 0, 1) := by decide +kernel
theorem dX1_plan_68 : decode cX1_plan 68 = .ok (.getfield 35, 3) := by decide +kernel
theorem dX1_plan_71 : decode cX1_plan 71 = .ok (.getfield 106, 3) := by decide +kernel
theorem dX1_plan_74 : decode cX1_plan 74 = .ok (.iconst 3, 1) := by decide +kernel
theorem dX1_plan_75 : decode cX1_plan 75 = .ok (.invokevirtual 109, 3) := by decide +kernel
theorem dX1_plan_78 : decode cX1_plan 78 = .ok (.aload_n 0, 1) := by decide +kernel
theorem dX1_plan_79 : decode cX1_plan 79 = .ok (.getfield 49, 3) := by decide +kernel
theorem dX1_plan_82 : decode cX1_plan 82 = .ok (.aload_n 0, 1) := by decide +kernel
theorem dX1_plan_83 : decode cX1_plan 83 = .ok (.getfield 35, 3) := by decide +kernel
theorem dX1_plan_86 : decode cX1_plan 86 = .ok (.getfield 113, 3) := by decide +kernel
theorem dX1_plan_89 : decode cX1_plan 89 = .ok (.invokevirtual 116, 3) := by decide +kernel
theorem dX1_plan_92 : decode cX1_plan 92 = .ok (.aload_n 0, 1) := by decide +kernel
theorem dX1_plan_93 : decode cX1_plan 93 = .ok (.getfield 49, 3) := by decide +kernel
theorem dX1_plan_96 : decode cX1_plan 96 = .ok (.aload_n 0, 1) := by decide +kernel
theorem dX1_plan_97 : decode cX1_plan 97 = .ok (.getfield 35, 3) := by decide +kernel
theorem dX1_plan_100 : decode cX1_plan 100 = .ok (.invokevirtual 120, 3) := by decide +kernel
theorem dX1_plan_103 : decode cX1_plan 103 = .ok (.invokevirtual 116, 3) := by decide +kernel
theorem dX1_plan_106 : decode cX1_plan 106 = .ok (.aload_n 0, 1) := by decide +kernel
theorem dX1_plan_107 : decode cX1_plan 107 = .ok (.getfield 49, 3) := by decide +kernel
theorem dX1_plan_110 : decode cX1_plan 110 = .ok (.invokevirtual 124, 3) := by decide +kernel
theorem dX1_plan_113 : decode cX1_plan 113 = .ok (.return_, 1) := by decide +kernel
theorem dX1_cacheAnswers_0 : decode cX1_cacheAnswers 0 = .ok (.aload_n 1, 1) := by decide +kernel
theorem dX1_cacheAnswers_1 : decode cX1_cacheAnswers 1 = .ok (.getfield 127, 3) := by decide +kernel
theorem dX1_cacheAnswers_4 : decode cX1_cacheAnswers 4 = .ok (.ifCond .eq 5, 3) := by decide +kernel
theorem dX1_cacheAnswers_7 : decode cX1_cacheAnswers 7 = .ok (.iconst 0, 1) := by decide +kernel
theorem dX1_cacheAnswers_8 : decode cX1_cacheAnswers 8 = .ok (.ireturn, 1) := by decide +kernel
theorem dX1_cacheAnswers_9 : decode cX1_cacheAnswers 9 = .ok (.aload_n 1, 1) := by decide +kernel
theorem dX1_cacheAnswers_10 : decode cX1_cacheAnswers 10 = .ok (.getfield 130, 3) := by decide +kernel
theorem dX1_cacheAnswers_13 : decode cX1_cacheAnswers 13 = .ok (.istore_n 2, 1) := by decide +kernel
theorem dX1_cacheAnswers_14 : decode cX1_cacheAnswers 14 = .ok (.iload_n 2, 1) := by decide +kernel
theorem dX1_cacheAnswers_15 : decode cX1_cacheAnswers 15 = .ok (.aload_n 1, 1) := by decide +kernel
theorem dX1_cacheAnswers_16 : decode cX1_cacheAnswers 16 = .ok (.getfield 131, 3) := by decide +kernel
theorem dX1_cacheAnswers_19 : decode cX1_cacheAnswers 19 = .ok (.if_icmp .ge 36, 3) := by decide +kernel
theorem dX1_cacheAnswers_22 : decode cX1_cacheAnswers 22 = .ok (.aload_n 0, 1) := by decide +kernel
theorem dX1_cacheAnswers_23 : decode cX1_cacheAnswers 23 = .ok (.getfield 28, 3) := by decide +kernel
theorem dX1_cacheAnswers_26 : decode cX1_cacheAnswers 26 = .ok (.aload_n 1, 1) := by decide +kernel
theorem dX1_cacheAnswers_27 : decode cX1_cacheAnswers 27 = .ok (.getfield 134, 3) := by decide +kernel
theorem dX1_cacheAnswers_30 : decode cX1_cacheAnswers 30 = .ok (.iload_n 2, 1) := by decide +kernel
theorem dX1_cacheAnswers_31 : decode cX1_cacheAnswers 31 = .ok (.aload_n 0, 1) := by decide +kernel
theorem dX1_cacheAnswers_32 : decode cX1_cacheAnswers 32 = .ok (.getfield 53, 3) := by decide +kernel
theorem dX1_cacheAnswers_35 : decode cX1_cacheAnswers 35 = .ok (.aload_n 0, 1) := by decide +kernel
theorem dX1_cacheAnswers_36 : decode cX1_cacheAnswers 36 = .ok (.getfield 9, 3) := by decide +kernel
theorem dX1_cacheAnswers_39 : decode cX1_cacheAnswers 39 = .ok (.iconst 0, 1) := by decide +kernel
theorem dX1_cacheAnswers_40 : decode cX1_cacheAnswers 40 = .ok (.iaload, 1) := by decide +kernel
theorem dX1_cacheAnswers_41 : decode cX1_cacheAnswers 41 = .ok (.invokevirtual 135, 3) := by decide +kernel
theorem dX1_cacheAnswers_44 : decode cX1_cacheAnswers 44 = .ok (.ifCond .ne 5, 3) := by decide +kernel
theorem dX1_cacheAnswers_47 : decode cX1_cacheAnswers 47 = .ok (.iconst 0, 1) := by decide +kernel
theorem dX1_cacheAnswers_48 : decode cX1_cacheAnswers 48 = .ok (.ireturn, 1) := by decide +kernel
theorem dX1_cacheAnswers_49 : decode cX1_cacheAnswers 49 = .ok (.iinc 2 1, 3) := by decide +kernel
theorem dX1_cacheAnswers_52 : decode cX1_cacheAnswers 52 = .ok (.goto (-38), 3) := by decide +kernel
theorem dX1_cacheAnswers_55 : decode cX1_cacheAnswers 55 = .ok (.iconst 1, 1) := by decide +kernel
theorem dX1_cacheAnswers_56 : decode cX1_cacheAnswers 56 = .ok (.ireturn, 1) := by decide +kernel
theorem dX1_buildWriteFrame_0 : decode cX1_buildWriteFrame 0 = .ok (.aload_n 0, 1) := by decide +kernel
theorem dX1_buildWriteFrame_1 : decode cX1_buildWriteFrame 1 = .ok (.getfield 35, 3) := by decide +kernel
theorem dX1_buildWriteFrame_4 : decode cX1_buildWriteFrame 4 = .ok (.invokevirtual 120, 3) := by decide +kernel
theorem dX1_buildWriteFrame_7 : decode cX1_buildWriteFrame 7 = .ok (.istore_n 1, 1) := by decide +kernel
theorem dX1_buildWriteFrame_8 : decode cX1_buildWriteFrame 8 = .ok (.aload_n 0, 1) := by decide +kernel
theorem dX1_buildWriteFrame_9 : decode cX1_buildWriteFrame 9 = .ok (.getfield 49, 3) := by decide +kernel
theorem dX1_buildWriteFrame_12 : decode cX1_buildWriteFrame 12 = .ok (.aload_n 0, 1) := by decide +kernel
theorem dX1_buildWriteFrame_13 : decode cX1_buildWriteFrame 13 = .ok (.getfield 35, 3) := by decide +kernel
theorem dX1_buildWriteFrame_16 : decode cX1_buildWriteFrame 16 = .ok (.getfield 106, 3) := by decide +kernel
theorem dX1_buildWriteFrame_19 : decode cX1_buildWriteFrame 19 = .ok (.iload_n 1, 1) := by decide +kernel
theorem dX1_buildWriteFrame_20 : decode cX1_buildWriteFrame 20 = .ok (.iconst 1, 1) := by decide +kernel
theorem dX1_buildWriteFrame_21 : decode cX1_buildWriteFrame 21 = .ok (.if_icmp .ne 8, 3) := by decide +kernel
theorem dX1_buildWriteFrame_24 : decode cX1_buildWriteFrame 24 = .ok (.bipush 6, 2) := by decide +kernel
theorem dX1_buildWriteFrame_26 : decode cX1_buildWriteFrame 26 = .ok (.goto 5, 3) := by decide +kernel
theorem dX1_buildWriteFrame_29 : decode cX1_buildWriteFrame 29 = .ok (.bipush 16, 2) := by decide +kernel
theorem dX1_buildWriteFrame_31 : decode cX1_buildWriteFrame 31 = .ok (.invokevirtual 109, 3) := by decide +kernel
theorem dX1_buildWriteFrame_34 : decode cX1_buildWriteFrame 34 = .ok (.aload_n 0, 1) := by decide +kernel
theorem dX1_buildWriteFrame_35 : decode cX1_buildWriteFrame 35 = .ok (.getfield 49, 3) := by decide +kernel
theorem dX1_buildWriteFrame_38 : decode cX1_buildWriteFrame 38 = .ok (.aload_n 0, 1) := by decide +kernel
theorem dX1_buildWriteFrame_39 : decode cX1_buildWriteFrame 39 = .ok (.getfield 35, 3) := by decide +kernel
theorem dX1_buildWriteFrame_42 : decode cX1_buildWriteFrame 42 = .ok (.getfield 113, 3) := by decide +kernel
theorem dX1_buildWriteFrame_45 : decode cX1_buildWriteFrame 45 = .ok (.invokevirtual 116, 3) := by decide +kernel
theorem dX1_buildWriteFrame_48 : decode cX1_buildWriteFrame 48 = .ok (.iload_n 1, 1) := by decide +kernel
theorem dX1_buildWriteFrame_49 : decode cX1_buildWriteFrame 49 = .ok (.iconst 1, 1) := by decide +kernel
theorem dX1_buildWriteFrame_50 : decode cX1_buildWriteFrame 50 = .ok (.if_icmp .le 21, 3) := by decide +kernel
theorem dX1_buildWriteFrame_53 : decode cX1_buildWriteFrame 53 = .ok (.aload_n 0, 1) := by decide +kernel
theorem dX1_buildWriteFrame_54 : decode cX1_buildWriteFrame 54 = .ok (.getfield 49, 3) := by decide +kernel
theorem dX1_buildWriteFrame_57 : decode cX1_buildWriteFrame 57 = .ok (.iload_n 1, 1) := by decide +kernel
theorem dX1_buildWriteFrame_58 : decode cX1_buildWriteFrame 58 = .ok (.invokevirtual 116, 3) := by decide +kernel
theorem dX1_buildWriteFrame_61 : decode cX1_buildWriteFrame 61 = .ok (.aload_n 0, 1) := by decide +kernel
theorem dX1_buildWriteFrame_62 : decode cX1_buildWriteFrame 62 = .ok (.getfield 49, 3) := by decide +kernel
theorem dX1_buildWriteFrame_65 : decode cX1_buildWriteFrame 65 = .ok (.iconst 2, 1) := by decide +kernel
theorem dX1_buildWriteFrame_66 : decode cX1_buildWriteFrame 66 = .ok (.iload_n 1, 1) := by decide +kernel
theorem dX1_buildWriteFrame_67 : decode cX1_buildWriteFrame 67 = .ok (.imul, 1) := by decide +kernel
theorem dX1_buildWriteFrame_68 : decode cX1_buildWriteFrame 68 = .ok (.invokevirtual 139, 3) := by decide +kernel
theorem dX1_buildWriteFrame_71 : decode cX1_buildWriteFrame 71 = .ok (.aload_n 0, 1) := by decide +kernel
theorem dX1_buildWriteFrame_72 : decode cX1_buildWriteFrame 72 = .ok (.getfield 35, 3) := by decide +kernel
theorem dX1_buildWriteFrame_75 : decode cX1_buildWriteFrame 75 = .ok (.getfield 113, 3) := by decide +kernel
theorem dX1_buildWriteFrame_78 : decode cX1_buildWriteFrame 78 = .ok (.istore_n 2, 1) := by decide +kernel
theorem dX1_buildWriteFrame_79 : decode cX1_buildWriteFrame 79 = .ok (.iload_n 2, 1) := by decide +kernel
theorem dX1_buildWriteFrame_80 : decode cX1_buildWriteFrame 80 = .ok (.aload_n 0, 1) := by decide +kernel
theorem dX1_buildWriteFrame_81 : decode cX1_buildWriteFrame 81 = .ok (.getfield 35, 3) := by decide +kernel
theorem dX1_buildWriteFrame_84 : decode cX1_buildWriteFrame 84 = .ok (.getfield 142, 3) := by decide +kernel
theorem dX1_buildWriteFrame_87 : decode cX1_buildWriteFrame 87 = .ok (.if_icmp .ge 24, 3) := by decide +kernel
theorem dX1_buildWriteFrame_90 : decode cX1_buildWriteFrame 90 = .ok (.aload_n 0, 1) := by decide +kernel
theorem dX1_buildWriteFrame_91 : decode cX1_buildWriteFrame 91 = .ok (.getfield 49, 3) := by decide +kernel
theorem dX1_buildWriteFrame_94 : decode cX1_buildWriteFrame 94 = .ok (.aload_n 0, 1) := by decide +kernel
theorem dX1_buildWriteFrame_95 : decode cX1_buildWriteFrame 95 = .ok (.getfield 35, 3) := by decide +kernel
theorem dX1_buildWriteFrame_98 : decode cX1_buildWriteFrame 98 = .ok (.iload_n 2, 1) := by decide +kernel
theorem dX1_buildWriteFrame_99 : decode cX1_buildWriteFrame 99 = .ok (.invokevirtual 143, 3) := by decide +kernel
theorem dX1_buildWriteFrame_102 : decode cX1_buildWriteFrame 102 = .ok (.invokevirtual 116, 3) := by decide +kernel
theorem dX1_buildWriteFrame_105 : decode cX1_buildWriteFrame 105 = .ok (.iinc 2 1, 3) := by decide +kernel
theorem dX1_buildWriteFrame_108 : decode cX1_buildWriteFrame 108 = .ok (.goto (-29), 3) := by decide +kernel
theorem dX1_buildWriteFrame_111 : decode cX1_buildWriteFrame 111 = .ok (.return_, 1) := by decide +kernel
theorem dX1_takeStep_0 : decode cX1_takeStep 0 = .ok (.aload_n 0, 1) := by decide +kernel
theorem dX1_takeStep_1 : decode cX1_takeStep 1 = .ok (.invokevirtual 147, 3) := by decide +kernel
theorem dX1_takeStep_4 : decode cX1_takeStep 4 = .ok (.aload_n 0, 1) := by decide +kernel
theorem dX1_takeStep_5 : decode cX1_takeStep 5 = .ok (.getfield 35, 3) := by decide +kernel
theorem dX1_takeStep_8 : decode cX1_takeStep 8 = .ok (.getfield 150, 3) := by decide +kernel
theorem dX1_takeStep_11 : decode cX1_takeStep 11 = .ok (.invokestatic 154, 3) := by decide +kernel
theorem dX1_takeStep_14 : decode cX1_takeStep 14 = .ok (.istore_n 1, 1) := by decide +kernel
theorem dX1_takeStep_15 : decode cX1_takeStep 15 = .ok (.iload_n 1, 1) := by decide +kernel
theorem dX1_takeStep_16 : decode cX1_takeStep 16 = .ok (.ifCond .ne 5, 3) := by decide +kernel
theorem dX1_takeStep_19 : decode cX1_takeStep 19 = .ok (.iconst 0, 1) := by decide +kernel
theorem dX1_takeStep_20 : decode cX1_takeStep 20 = .ok (.ireturn, 1) := by decide +kernel
theorem dX1_takeStep_21 : decode cX1_takeStep 21 = .ok (.aload_n 0, 1) := by decide +kernel
theorem dX1_takeStep_22 : decode cX1_takeStep 22 = .ok (.getfield 49, 3) := by decide +kernel
theorem dX1_takeStep_25 : decode cX1_takeStep 25 = .ok (.getfield 86, 3) := by decide +kernel
theorem dX1_takeStep_28 : decode cX1_takeStep 28 = .ok (.ifCond .ne 39, 3) := by decide +kernel
theorem dX1_takeStep_31 : decode cX1_takeStep 31 = .ok (.aload_n 0, 1) := by decide +kernel
theorem dX1_takeStep_32 : decode cX1_takeStep 32 = .ok (.getfield 15, 3) := by decide +kernel
theorem dX1_takeStep_35 : decode cX1_takeStep 35 = .ok (.iconst 4, 1) := by decide +kernel
theorem dX1_takeStep_36 : decode cX1_takeStep 36 = .ok (.dup2, 1) := by decide +kernel
theorem dX1_takeStep_37 : decode cX1_takeStep 37 = .ok (.iaload, 1) := by decide +kernel
theorem dX1_takeStep_38 : decode cX1_takeStep 38 = .ok (.iconst 1, 1) := by decide +kernel
theorem dX1_takeStep_39 : decode cX1_takeStep 39 = .ok (.iadd, 1) := by decide +kernel
theorem dX1_takeStep_40 : decode cX1_takeStep 40 = .ok (.iastore, 1) := by decide +kernel
theorem dX1_takeStep_41 : decode cX1_takeStep 41 = .ok (.aload_n 0, 1) := by decide +kernel
theorem dX1_takeStep_42 : decode cX1_takeStep 42 = .ok (.aload_n 0, 1) := by decide +kernel
theorem dX1_takeStep_43 : decode cX1_takeStep 43 = .ok (.getfield 35, 3) := by decide +kernel
theorem dX1_takeStep_46 : decode cX1_takeStep 46 = .ok (.getfield 160, 3) := by decide +kernel
theorem dX1_takeStep_49 : decode cX1_takeStep 49 = .ok (.aload_n 0, 1) := by decide +kernel
theorem dX1_takeStep_50 : decode cX1_takeStep 50 = .ok (.getfield 35, 3) := by decide +kernel
theorem dX1_takeStep_53 : decode cX1_takeStep 53 = .ok (.getfield 164, 3) := by decide +kernel
theorem dX1_takeStep_56 : decode cX1_takeStep 56 = .ok (.invokevirtual 167, 3) := by decide +kernel
theorem dX1_takeStep_59 : decode cX1_takeStep 59 = .ok (.checkcast 128, 3) := by decide +kernel
theorem dX1_takeStep_62 : decode cX1_takeStep 62 = .ok (.invokevirtual 173, 3) := by decide +kernel
theorem dX1_takeStep_65 : decode cX1_takeStep 65 = .ok (.iload_n 1, 1) := by decide +kernel
theorem dX1_takeStep_66 : decode cX1_takeStep 66 = .ok (.ireturn, 1) := by decide +kernel
theorem dX1_takeStep_67 : decode cX1_takeStep 67 = .ok (.aload_n 0, 1) := by decide +kernel
theorem dX1_takeStep_68 : decode cX1_takeStep 68 = .ok (.getfield 15, 3) := by decide +kernel
theorem dX1_takeStep_71 : decode cX1_takeStep 71 = .ok (.iconst 5, 1) := by decide +kernel
theorem dX1_takeStep_72 : decode cX1_takeStep 72 = .ok (.dup2, 1) := by decide +kernel
theorem dX1_takeStep_73 : decode cX1_takeStep 73 = .ok (.iaload, 1) := by decide +kernel
theorem dX1_takeStep_74 : decode cX1_takeStep 74 = .ok (.iload_n 1, 1) := by decide +kernel
theorem dX1_takeStep_75 : decode cX1_takeStep 75 = .ok (.iconst 1, 1) := by decide +kernel
theorem dX1_takeStep_76 : decode cX1_takeStep 76 = .ok (.isub, 1) := by decide +kernel
theorem dX1_takeStep_77 : decode cX1_takeStep 77 = .ok (.iadd, 1) := by decide +kernel
theorem dX1_takeStep_78 : decode cX1_takeStep 78 = .ok (.iastore, 1) := by decide +kernel
theorem dX1_takeStep_79 : decode cX1_takeStep 79 = .ok (.aload_n 0, 1) := by decide +kernel
theorem dX1_takeStep_80 : decode cX1_takeStep 80 = .ok (.aload_n 0, 1) := by decide +kernel
theorem dX1_takeStep_81 : decode cX1_takeStep 81 = .ok (.getfield 21, 3) := by decide +kernel
theorem dX1_takeStep_84 : decode cX1_takeStep 84 = .ok (.aload_n 0, 1) := by decide +kernel
theorem dX1_takeStep_85 : decode cX1_takeStep 85 = .ok (.getfield 35, 3) := by decide +kernel
theorem dX1_takeStep_88 : decode cX1_takeStep 88 = .ok (.getfield 106, 3) := by decide +kernel
theorem dX1_takeStep_91 : decode cX1_takeStep 91 = .ok (.iconst 1, 1) := by decide +kernel
theorem dX1_takeStep_92 : decode cX1_takeStep 92 = .ok (.isub, 1) := by decide +kernel
theorem dX1_takeStep_93 : decode cX1_takeStep 93 = .ok (.aaload, 1) := by decide +kernel
theorem dX1_takeStep_94 : decode cX1_takeStep 94 = .ok (.invokevirtual 177, 3) := by decide +kernel
theorem dX1_takeStep_97 : decode cX1_takeStep 97 = .ok (.astore_n 2, 1) := by decide +kernel
theorem dX1_takeStep_98 : decode cX1_takeStep 98 = .ok (.aload_n 2, 1) := by decide +kernel
theorem dX1_takeStep_99 : decode cX1_takeStep 99 = .ok (.ifnonnull 11, 3) := by decide +kernel
theorem dX1_takeStep_102 : decode cX1_takeStep 102 = .ok (.aload_n 0, 1) := by decide +kernel
theorem dX1_takeStep_103 : decode cX1_takeStep 103 = .ok (.bipush 11, 2) := by decide +kernel
theorem dX1_takeStep_105 : decode cX1_takeStep 105 = .ok (.invokevirtual 181, 3) := by decide +kernel
theorem dX1_takeStep_108 : decode cX1_takeStep 108 = .ok (.iload_n 1, 1) := by decide +kernel
theorem dX1_takeStep_109 : decode cX1_takeStep 109 = .ok (.ireturn, 1) := by decide +kernel
theorem dX1_takeStep_110 : decode cX1_takeStep 110 = .ok (.aload_n 2, 1) := by decide +kernel
theorem dX1_takeStep_111 : decode cX1_takeStep 111 = .ok (.getfield 184, 3) := by decide +kernel
theorem dX1_takeStep_114 : decode cX1_takeStep 114 = .ok (.invokevirtual 187, 3) := by decide +kernel
theorem dX1_takeStep_117 : decode cX1_takeStep 117 = .ok (.ifCond .eq 18, 3) := by decide +kernel
theorem dX1_takeStep_120 : decode cX1_takeStep 120 = .ok (.aload_n 0, 1) := by decide +kernel
theorem dX1_takeStep_121 : decode cX1_takeStep 121 = .ok (.aload_n 2, 1) := by decide +kernel
theorem dX1_takeStep_122 : decode cX1_takeStep 122 = .ok (.getfield 184, 3) := by decide +kernel
theorem dX1_takeStep_125 : decode cX1_takeStep 125 = .ok (.iconst 2, 1) := by decide +kernel
theorem dX1_takeStep_126 : decode cX1_takeStep 126 = .ok (.invokevirtual 191, 3) := by decide +kernel
theorem dX1_takeStep_129 : decode cX1_takeStep 129 = .ok (.invokevirtual 181, 3) := by decide +kernel
theorem dX1_takeStep_132 : decode cX1_takeStep 132 = .ok (.goto 11, 3) := by decide +kernel
theorem dX1_takeStep_135 : decode cX1_takeStep 135 = .ok (.aload_n 0, 1) := by decide +kernel
theorem dX1_takeStep_136 : decode cX1_takeStep 136 = .ok (.aload_n 2, 1) := by decide +kernel
theorem dX1_takeStep_137 : decode cX1_takeStep 137 = .ok (.getfield 184, 3) := by decide +kernel
theorem dX1_takeStep_140 : decode cX1_takeStep 140 = .ok (.invokevirtual 194, 3) := by decide +kernel
theorem dX1_takeStep_143 : decode cX1_takeStep 143 = .ok (.aload_n 0, 1) := by decide +kernel
theorem dX1_takeStep_144 : decode cX1_takeStep 144 = .ok (.getfield 42, 3) := by decide +kernel
theorem dX1_takeStep_147 : decode cX1_takeStep 147 = .ok (.aload_n 2, 1) := by decide +kernel
theorem dX1_takeStep_148 : decode cX1_takeStep 148 = .ok (.invokevirtual 198, 3) := by decide +kernel
theorem dX1_takeStep_151 : decode cX1_takeStep 151 = .ok (.iload_n 1, 1) := by decide +kernel
theorem dX1_takeStep_152 : decode cX1_takeStep 152 = .ok (.ireturn, 1) := by decide +kernel
theorem dX1_endFromCache_0 : decode cX1_endFromCache 0 = .ok (.iconst 0, 1) := by decide +kernel
theorem dX1_endFromCache_1 : decode cX1_endFromCache 1 = .ok (.istore_n 2, 1) := by decide +kernel
theorem dX1_endFromCache_2 : decode cX1_endFromCache 2 = .ok (.iload_n 2, 1) := by decide +kernel
theorem dX1_endFromCache_3 : decode cX1_endFromCache 3 = .ok (.aload_n 1, 1) := by decide +kernel
theorem dX1_endFromCache_4 : decode cX1_endFromCache 4 = .ok (.getfield 202, 3) := by decide +kernel
theorem dX1_endFromCache_7 : decode cX1_endFromCache 7 = .ok (.if_icmp .ge 32, 3) := by decide +kernel
theorem dX1_endFromCache_10 : decode cX1_endFromCache 10 = .ok (.aload_n 1, 1) := by decide +kernel
theorem dX1_endFromCache_11 : decode cX1_endFromCache 11 = .ok (.getfield 205, 3) := by decide +kernel
theorem dX1_endFromCache_14 : decode cX1_endFromCache 14 = .ok (.iload_n 2, 1) := by decide +kernel
theorem dX1_endFromCache_15 : decode cX1_endFromCache 15 = .ok (.aload_n 0, 1) := by decide +kernel
theorem dX1_endFromCache_16 : decode cX1_endFromCache 16 = .ok (.getfield 28, 3) := by decide +kernel
theorem dX1_endFromCache_19 : decode cX1_endFromCache 19 = .ok (.aload_n 1, 1) := by decide +kernel
theorem dX1_endFromCache_20 : decode cX1_endFromCache 20 = .ok (.getfield 134, 3) := by decide +kernel
theorem dX1_endFromCache_23 : decode cX1_endFromCache 23 = .ok (.aload_n 1, 1) := by decide +kernel
theorem dX1_endFromCache_24 : decode cX1_endFromCache 24 = .ok (.getfield 130, 3) := by decide +kernel
theorem dX1_endFromCache_27 : decode cX1_endFromCache 27 = .ok (.iload_n 2, 1) := by decide +kernel
theorem dX1_endFromCache_28 : decode cX1_endFromCache 28 = .ok (.iadd, 1) := by decide +kernel
theorem dX1_endFromCache_29 : decode cX1_endFromCache 29 = .ok (.invokevirtual 208, 3) := by decide +kernel
theorem dX1_endFromCache_32 : decode cX1_endFromCache 32 = .ok (.iastore, 1) := by decide +kernel
theorem dX1_endFromCache_33 : decode cX1_endFromCache 33 = .ok (.iinc 2 1, 3) := by decide +kernel
theorem dX1_endFromCache_36 : decode cX1_endFromCache 36 = .ok (.goto (-34), 3) := by decide +kernel
theorem dX1_endFromCache_39 : decode cX1_endFromCache 39 = .ok (.aload_n 1, 1) := by decide +kernel
theorem dX1_endFromCache_40 : decode cX1_endFromCache 40 = .ok (.iconst 1, 1) := by decide +kernel
theorem dX1_endFromCache_41 : decode cX1_endFromCache 41 = .ok (.putfield 212, 3) := by decide +kernel
theorem dX1_endFromCache_44 : decode cX1_endFromCache 44 = .ok (.aload_n 1, 1) := by decide +kernel
theorem dX1_endFromCache_45 : decode cX1_endFromCache 45 = .ok (.iconst 1, 1) := by decide +kernel
theorem dX1_endFromCache_46 : decode cX1_endFromCache 46 = .ok (.iconst 0, 1) := by decide +kernel
theorem dX1_endFromCache_47 : decode cX1_endFromCache 47 = .ok (.aload_n 0, 1) := by decide +kernel
theorem dX1_endFromCache_48 : decode cX1_endFromCache 48 = .ok (.getfield 53, 3) := by decide +kernel
theorem dX1_endFromCache_51 : decode cX1_endFromCache 51 = .ok (.invokevirtual 215, 3) := by decide +kernel
theorem dX1_endFromCache_54 : decode cX1_endFromCache 54 = .ok (.return_, 1) := by decide +kernel
theorem dX1_tryFrame_0 : decode cX1_tryFrame 0 = .ok (.aload_n 0, 1) := by decide +kernel
theorem dX1_tryFrame_1 : decode cX1_tryFrame 1 = .ok (.getfield 60, 3) := by decide +kernel
theorem dX1_tryFrame_4 : decode cX1_tryFrame 4 = .ok (.ifCond .eq 18, 3) := by decide +kernel
theorem dX1_tryFrame_7 : decode cX1_tryFrame 7 = .ok (.aload_n 0, 1) := by decide +kernel
theorem dX1_tryFrame_8 : decode cX1_tryFrame 8 = .ok (.dup, 1) := by decide +kernel
theorem dX1_tryFrame_9 : decode cX1_tryFrame 9 = .ok (.getfield 53, 3) := by decide +kernel
theorem dX1_tryFrame_12 : decode cX1_tryFrame 12 = .ok (.aload_n 0, 1) := by decide +kernel
theorem dX1_tryFrame_13 : decode cX1_tryFrame 13 = .ok (.getfield 9, 3) := by decide +kernel
theorem dX1_tryFrame_16 : decode cX1_tryFrame 16 = .ok (.iconst 3, 1) := by decide +kernel
theorem dX1_tryFrame_17 : decode cX1_tryFrame 17 = .ok (.iaload, 1) := by decide +kernel
theorem dX1_tryFrame_18 : decode cX1_tryFrame 18 = .ok (.iadd, 1) := by decide +kernel
theorem dX1_tryFrame_19 : decode cX1_tryFrame 19 = .ok (.putfield 53, 3) := by decide +kernel
theorem dX1_tryFrame_22 : decode cX1_tryFrame 22 = .ok (.aload_n 0, 1) := by decide +kernel
theorem dX1_tryFrame_23 : decode cX1_tryFrame 23 = .ok (.dup, 1) := by decide +kernel
theorem dX1_tryFrame_24 : decode cX1_tryFrame 24 = .ok (.getfield 57, 3) := by decide +kernel
theorem dX1_tryFrame_27 : decode cX1_tryFrame 27 = .ok (.iconst 1, 1) := by decide +kernel
theorem dX1_tryFrame_28 : decode cX1_tryFrame 28 = .ok (.iadd, 1) := by decide +kernel
theorem dX1_tryFrame_29 : decode cX1_tryFrame 29 = .ok (.putfield 57, 3) := by decide +kernel
theorem dX1_tryFrame_32 : decode cX1_tryFrame 32 = .ok (.iconst 0, 1) := by decide +kernel
theorem dX1_tryFrame_33 : decode cX1_tryFrame 33 = .ok (.istore_n 2, 1) := by decide +kernel
theorem dX1_tryFrame_34 : decode cX1_tryFrame 34 = .ok (.iload_n 2, 1) := by decide +kernel
theorem dX1_tryFrame_35 : decode cX1_tryFrame 35 = .ok (.aload_n 0, 1) := by decide +kernel
theorem dX1_tryFrame_36 : decode cX1_tryFrame 36 = .ok (.getfield 9, 3) := by decide +kernel
theorem dX1_tryFrame_39 : decode cX1_tryFrame 39 = .ok (.iconst 2, 1) := by decide +kernel
theorem dX1_tryFrame_40 : decode cX1_tryFrame 40 = .ok (.iaload, 1) := by decide +kernel
theorem dX1_tryFrame_41 : decode cX1_tryFrame 41 = .ok (.if_icmp .gt 180, 3) := by decide +kernel
theorem dX1_tryFrame_44 : decode cX1_tryFrame 44 = .ok (.aload_n 0, 1) := by decide +kernel
theorem dX1_tryFrame_45 : decode cX1_tryFrame 45 = .ok (.dup, 1) := by decide +kernel
theorem dX1_tryFrame_46 : decode cX1_tryFrame 46 = .ok (.getfield 53, 3) := by decide +kernel
theorem dX1_tryFrame_49 : decode cX1_tryFrame 49 = .ok (.iconst 4, 1) := by decide +kernel
theorem dX1_tryFrame_50 : decode cX1_tryFrame 50 = .ok (.aload_n 0, 1) := by decide +kernel
theorem dX1_tryFrame_51 : decode cX1_tryFrame 51 = .ok (.getfield 49, 3) := by decide +kernel
theorem dX1_tryFrame_54 : decode cX1_tryFrame 54 = .ok (.getfield 86, 3) := by decide +kernel
theorem dX1_tryFrame_57 : decode cX1_tryFrame 57 = .ok (.iadd, 1) := by decide +kernel
theorem dX1_tryFrame_58 : decode cX1_tryFrame 58 = .ok (.iadd, 1) := by decide +kernel
theorem dX1_tryFrame_59 : decode cX1_tryFrame 59 = .ok (.putfield 53, 3) := by decide +kernel
theorem dX1_tryFrame_62 : decode cX1_tryFrame 62 = .ok (.aload_n 0, 1) := by decide +kernel
theorem dX1_tryFrame_63 : decode cX1_tryFrame 63 = .ok (.getfield 15, 3) := by decide +kernel
theorem dX1_tryFrame_66 : decode cX1_tryFrame 66 = .ok (.iconst 0, 1) := by decide +kernel
theorem dX1_tryFrame_67 : decode cX1_tryFrame 67 = .ok (.dup2, 1) := by decide +kernel
theorem dX1_tryFrame_68 : decode cX1_tryFrame 68 = .ok (.iaload, 1) := by decide +kernel
theorem dX1_tryFrame_69 : decode cX1_tryFrame 69 = .ok (.iconst 1, 1) := by decide +kernel
theorem dX1_tryFrame_70 : decode cX1_tryFrame 70 = .ok (.iadd, 1) := by decide +kernel
theorem dX1_tryFrame_71 : decode cX1_tryFrame 71 = .ok (.iastore, 1) := by decide +kernel
theorem dX1_tryFrame_72 : decode cX1_tryFrame 72 = .ok (.aload_n 0, 1) := by decide +kernel
theorem dX1_tryFrame_73 : decode cX1_tryFrame 73 = .ok (.getfield 42, 3) := by decide +kernel
theorem dX1_tryFrame_76 : decode cX1_tryFrame 76 = .ok (.aload_n 0, 1) := by decide +kernel
theorem dX1_tryFrame_77 : decode cX1_tryFrame 77 = .ok (.getfield 53, 3) := by decide +kernel
theorem dX1_tryFrame_80 : decode cX1_tryFrame 80 = .ok (.invokevirtual 219, 3) := by decide +kernel
theorem dX1_tryFrame_83 : decode cX1_tryFrame 83 = .ok (.aload_n 0, 1) := by decide +kernel
theorem dX1_tryFrame_84 : decode cX1_tryFrame 84 = .ok (.getfield 42, 3) := by decide +kernel
theorem dX1_tryFrame_87 : decode cX1_tryFrame 87 = .ok (.invokevirtual 222, 3) := by decide +kernel
theorem dX1_tryFrame_90 : decode cX1_tryFrame 90 = .ok (.astore_n 3, 1) := by decide +kernel
theorem dX1_tryFrame_91 : decode cX1_tryFrame 91 = .ok (.aload_n 3, 1) := by decide +kernel
theorem dX1_tryFrame_92 : decode cX1_tryFrame 92 = .ok (.aload_n 0, 1) := by decide +kernel
theorem dX1_tryFrame_93 : decode cX1_tryFrame 93 = .ok (.getfield 57, 3) := by decide +kernel
theorem dX1_tryFrame_96 : decode cX1_tryFrame 96 = .ok (.putfield 226, 3) := by decide +kernel
theorem dX1_tryFrame_99 : decode cX1_tryFrame 99 = .ok (.aload_n 1, 1) := by decide +kernel
theorem dX1_tryFrame_100 : decode cX1_tryFrame 100 = .ok (.aload_n 0, 1) := by decide +kernel
theorem dX1_tryFrame_101 : decode cX1_tryFrame 101 = .ok (.getfield 49, 3) := by decide +kernel
theorem dX1_tryFrame_104 : decode cX1_tryFrame 104 = .ok (.aload_n 0, 1) := by decide +kernel
theorem dX1_tryFrame_105 : decode cX1_tryFrame 105 = .ok (.getfield 53, 3) := by decide +kernel
theorem dX1_tryFrame_108 : decode cX1_tryFrame 108 = .ok (.aload_n 3, 1) := by decide +kernel
theorem dX1_tryFrame_109 : decode cX1_tryFrame 109 = .ok (.invokevirtual 229, 3) := by decide +kernel
theorem dX1_tryFrame_112 : decode cX1_tryFrame 112 = .ok (.ifCond .eq 18, 3) := by decide +kernel
theorem dX1_tryFrame_115 : decode cX1_tryFrame 115 = .ok (.aload_n 0, 1) := by decide +kernel
theorem dX1_tryFrame_116 : decode cX1_tryFrame 116 = .ok (.getfield 42, 3) := by decide +kernel
theorem dX1_tryFrame_119 : decode cX1_tryFrame 119 = .ok (.getfield 233, 3) := by decide +kernel
theorem dX1_tryFrame_122 : decode cX1_tryFrame 122 = .ok (.aload_n 3, 1) := by decide +kernel
theorem dX1_tryFrame_123 : decode cX1_tryFrame 123 = .ok (.invokevirtual 236, 3) := by decide +kernel
theorem dX1_tryFrame_126 : decode cX1_tryFrame 126 = .ok (.pop, 1) := by decide +kernel
theorem dX1_tryFrame_127 : decode cX1_tryFrame 127 = .ok (.goto 11, 3) := by decide +kernel
theorem dX1_tryFrame_130 : decode cX1_tryFrame 130 = .ok (.aload_n 0, 1) := by decide +kernel
theorem dX1_tryFrame_131 : decode cX1_tryFrame 131 = .ok (.getfield 42, 3) := by decide +kernel
theorem dX1_tryFrame_134 : decode cX1_tryFrame 134 = .ok (.aload_n 3, 1) := by decide +kernel
theorem dX1_tryFrame_135 : decode cX1_tryFrame 135 = .ok (.invokevirtual 198, 3) := by decide +kernel
theorem dX1_tryFrame_138 : decode cX1_tryFrame 138 = .ok (.aload_n 0, 1) := by decide +kernel
theorem dX1_tryFrame_139 : decode cX1_tryFrame 139 = .ok (.getfield 42, 3) := by decide +kernel
theorem dX1_tryFrame_142 : decode cX1_tryFrame 142 = .ok (.aload_n 0, 1) := by decide +kernel
theorem dX1_tryFrame_143 : decode cX1_tryFrame 143 = .ok (.getfield 49, 3) := by decide +kernel
theorem dX1_tryFrame_146 : decode cX1_tryFrame 146 = .ok (.aload_n 0, 1) := by decide +kernel
theorem dX1_tryFrame_147 : decode cX1_tryFrame 147 = .ok (.getfield 53, 3) := by decide +kernel
theorem dX1_tryFrame_150 : decode cX1_tryFrame 150 = .ok (.aload_n 0, 1) := by decide +kernel
theorem dX1_tryFrame_151 : decode cX1_tryFrame 151 = .ok (.getfield 9, 3) := by decide +kernel
theorem dX1_tryFrame_154 : decode cX1_tryFrame 154 = .ok (.iconst 1, 1) := by decide +kernel
theorem dX1_tryFrame_155 : decode cX1_tryFrame 155 = .ok (.iaload, 1) := by decide +kernel
theorem dX1_tryFrame_156 : decode cX1_tryFrame 156 = .ok (.iadd, 1) := by decide +kernel
theorem dX1_tryFrame_157 : decode cX1_tryFrame 157 = .ok (.invokevirtual 240, 3) := by decide +kernel
theorem dX1_tryFrame_160 : decode cX1_tryFrame 160 = .ok (.astore 4, 2) := by decide +kernel
theorem dX1_tryFrame_162 : decode cX1_tryFrame 162 = .ok (.aload_n 0, 1) := by decide +kernel
theorem dX1_tryFrame_163 : decode cX1_tryFrame 163 = .ok (.aload 4, 2) := by decide +kernel
theorem dX1_tryFrame_165 : decode cX1_tryFrame 165 = .ok (.ifnonnull 7, 3) := by decide +kernel
theorem dX1_tryFrame_168 : decode cX1_tryFrame 168 = .ok (.iconst 1, 1) := by decide +kernel
theorem dX1_tryFrame_169 : decode cX1_tryFrame 169 = .ok (.goto 4, 3) := by decide +kernel
theorem dX1_tryFrame_172 : decode cX1_tryFrame 172 = .ok (.iconst 0, 1) := by decide +kernel
theorem dX1_tryFrame_173 : decode cX1_tryFrame 173 = .ok (.putfield 60, 3) := by decide +kernel
theorem dX1_tryFrame_176 : decode cX1_tryFrame 176 = .ok (.aload 4, 2) := by decide +kernel
theorem dX1_tryFrame_178 : decode cX1_tryFrame 178 = .ok (.ifnull 12, 3) := by decide +kernel
theorem dX1_tryFrame_181 : decode cX1_tryFrame 181 = .ok (.aload_n 0, 1) := by decide +kernel
theorem dX1_tryFrame_182 : decode cX1_tryFrame 182 = .ok (.aload 4, 2) := by decide +kernel
theorem dX1_tryFrame_184 : decode cX1_tryFrame 184 = .ok (.invokevirtual 244, 3) := by decide +kernel
theorem dX1_tryFrame_187 : decode cX1_tryFrame 187 = .ok (.aload 4, 2) := by decide +kernel
theorem dX1_tryFrame_189 : decode cX1_tryFrame 189 = .ok (.areturn, 1) := by decide +kernel
theorem dX1_tryFrame_190 : decode cX1_tryFrame 190 = .ok (.aload_n 0, 1) := by decide +kernel
theorem dX1_tryFrame_191 : decode cX1_tryFrame 191 = .ok (.dup, 1) := by decide +kernel
theorem dX1_tryFrame_192 : decode cX1_tryFrame 192 = .ok (.getfield 53, 3) := by decide +kernel
theorem dX1_tryFrame_195 : decode cX1_tryFrame 195 = .ok (.aload_n 0, 1) := by decide +kernel
theorem dX1_tryFrame_196 : decode cX1_tryFrame 196 = .ok (.getfield 9, 3) := by decide +kernel
theorem dX1_tryFrame_199 : decode cX1_tryFrame 199 = .ok (.iconst 1, 1) := by decide +kernel
theorem dX1_tryFrame_200 : decode cX1_tryFrame 200 = .ok (.iaload, 1) := by decide +kernel
theorem dX1_tryFrame_201 : decode cX1_tryFrame 201 = .ok (.iadd, 1) := by decide +kernel
theorem dX1_tryFrame_202 : decode cX1_tryFrame 202 = .ok (.putfield 53, 3) := by decide +kernel
theorem dX1_tryFrame_205 : decode cX1_tryFrame 205 = .ok (.aload_n 0, 1) := by decide +kernel
theorem dX1_tryFrame_206 : decode cX1_tryFrame 206 = .ok (.getfield 15, 3) := by decide +kernel
theorem dX1_tryFrame_209 : decode cX1_tryFrame 209 = .ok (.iconst 3, 1) := by decide +kernel
theorem dX1_tryFrame_210 : decode cX1_tryFrame 210 = .ok (.dup2, 1) := by decide +kernel
theorem dX1_tryFrame_211 : decode cX1_tryFrame 211 = .ok (.iaload, 1) := by decide +kernel
theorem dX1_tryFrame_212 : decode cX1_tryFrame 212 = .ok (.iconst 1, 1) := by decide +kernel
theorem dX1_tryFrame_213 : decode cX1_tryFrame 213 = .ok (.iadd, 1) := by decide +kernel
theorem dX1_tryFrame_214 : decode cX1_tryFrame 214 = .ok (.iastore, 1) := by decide +kernel
theorem dX1_tryFrame_215 : decode cX1_tryFrame 215 = .ok (.iinc 2 1, 3) := by decide +kernel
theorem dX1_tryFrame_218 : decode cX1_tryFrame 218 = .ok (.goto (-184), 3) := by decide +kernel
theorem dX1_tryFrame_221 : decode cX1_tryFrame 221 = .ok (.aconst_null, 1) := by decide +kernel
theorem dX1_tryFrame_222 : decode cX1_tryFrame 222 = .ok (.areturn, 1) := by decide +kernel
theorem dX1_noteTaken_0 : decode cX1_noteTaken 0 = .ok (.aload_n 0, 1) := by decide +kernel
theorem dX1_noteTaken_1 : decode cX1_noteTaken 1 = .ok (.aload_n 1, 1) := by decide +kernel
theorem dX1_noteTaken_2 : decode cX1_noteTaken 2 = .ok (.getfield 247, 3) := by decide +kernel
theorem dX1_noteTaken_5 : decode cX1_noteTaken 5 = .ok (.aload_n 1, 1) := by decide +kernel
theorem dX1_noteTaken_6 : decode cX1_noteTaken 6 = .ok (.getfield 184, 3) := by decide +kernel
theorem dX1_noteTaken_9 : decode cX1_noteTaken 9 = .ok (.getfield 86, 3) := by decide +kernel
theorem dX1_noteTaken_12 : decode cX1_noteTaken 12 = .ok (.iadd, 1) := by decide +kernel
theorem dX1_noteTaken_13 : decode cX1_noteTaken 13 = .ok (.putfield 53, 3) := by decide +kernel
theorem dX1_noteTaken_16 : decode cX1_noteTaken 16 = .ok (.aload_n 0, 1) := by decide +kernel
theorem dX1_noteTaken_17 : decode cX1_noteTaken 17 = .ok (.getfield 15, 3) := by decide +kernel
theorem dX1_noteTaken_20 : decode cX1_noteTaken 20 = .ok (.iconst 1, 1) := by decide +kernel
theorem dX1_noteTaken_21 : decode cX1_noteTaken 21 = .ok (.dup2, 1) := by decide +kernel
theorem dX1_noteTaken_22 : decode cX1_noteTaken 22 = .ok (.iaload, 1) := by decide +kernel
theorem dX1_noteTaken_23 : decode cX1_noteTaken 23 = .ok (.iconst 1, 1) := by decide +kernel
theorem dX1_noteTaken_24 : decode cX1_noteTaken 24 = .ok (.iadd, 1) := by decide +kernel
theorem dX1_noteTaken_25 : decode cX1_noteTaken 25 = .ok (.iastore, 1) := by decide +kernel
theorem dX1_noteTaken_26 : decode cX1_noteTaken 26 = .ok (.aload_n 1, 1) := by decide +kernel
theorem dX1_noteTaken_27 : decode cX1_noteTaken 27 = .ok (.getfield 226, 3) := by decide +kernel
theorem dX1_noteTaken_30 : decode cX1_noteTaken 30 = .ok (.aload_n 0, 1) := by decide +kernel
theorem dX1_noteTaken_31 : decode cX1_noteTaken 31 = .ok (.getfield 57, 3) := by decide +kernel
theorem dX1_noteTaken_34 : decode cX1_noteTaken 34 = .ok (.if_icmp .eq 18, 3) := by decide +kernel
theorem dX1_noteTaken_37 : decode cX1_noteTaken 37 = .ok (.aload_n 0, 1) := by decide +kernel
theorem dX1_noteTaken_38 : decode cX1_noteTaken 38 = .ok (.getfield 15, 3) := by decide +kernel
theorem dX1_noteTaken_41 : decode cX1_noteTaken 41 = .ok (.iconst 2, 1) := by decide +kernel
theorem dX1_noteTaken_42 : decode cX1_noteTaken 42 = .ok (.dup2, 1) := by decide +kernel
theorem dX1_noteTaken_43 : decode cX1_noteTaken 43 = .ok (.iaload, 1) := by decide +kernel
theorem dX1_noteTaken_44 : decode cX1_noteTaken 44 = .ok (.iconst 1, 1) := by decide +kernel
theorem dX1_noteTaken_45 : decode cX1_noteTaken 45 = .ok (.iadd, 1) := by decide +kernel
theorem dX1_noteTaken_46 : decode cX1_noteTaken 46 = .ok (.iastore, 1) := by decide +kernel
theorem dX1_noteTaken_47 : decode cX1_noteTaken 47 = .ok (.aload_n 0, 1) := by decide +kernel
theorem dX1_noteTaken_48 : decode cX1_noteTaken 48 = .ok (.iconst 1, 1) := by decide +kernel
theorem dX1_noteTaken_49 : decode cX1_noteTaken 49 = .ok (.putfield 64, 3) := by decide +kernel
theorem dX1_noteTaken_52 : decode cX1_noteTaken 52 = .ok (.return_, 1) := by decide +kernel
theorem dX1_failGroup_0 : decode cX1_failGroup 0 = .ok (.aload_n 0, 1) := by decide +kernel
theorem dX1_failGroup_1 : decode cX1_failGroup 1 = .ok (.getfield 35, 3) := by decide +kernel
theorem dX1_failGroup_4 : decode cX1_failGroup 4 = .ok (.getfield 164, 3) := by decide +kernel
theorem dX1_failGroup_7 : decode cX1_failGroup 7 = .ok (.istore_n 2, 1) := by decide +kernel
theorem dX1_failGroup_8 : decode cX1_failGroup 8 = .ok (.iload_n 2, 1) := by decide +kernel
theorem dX1_failGroup_9 : decode cX1_failGroup 9 = .ok (.aload_n 0, 1) := by decide +kernel
theorem dX1_failGroup_10 : decode cX1_failGroup 10 = .ok (.getfield 35, 3) := by decide +kernel
theorem dX1_failGroup_13 : decode cX1_failGroup 13 = .ok (.getfield 160, 3) := by decide +kernel
theorem dX1_failGroup_16 : decode cX1_failGroup 16 = .ok (.invokevirtual 250, 3) := by decide +kernel
theorem dX1_failGroup_19 : decode cX1_failGroup 19 = .ok (.if_icmp .ge 43, 3) := by decide +kernel
theorem dX1_failGroup_22 : decode cX1_failGroup 22 = .ok (.aload_n 0, 1) := by decide +kernel
theorem dX1_failGroup_23 : decode cX1_failGroup 23 = .ok (.getfield 35, 3) := by decide +kernel
theorem dX1_failGroup_26 : decode cX1_failGroup 26 = .ok (.iload_n 2, 1) := by decide +kernel
theorem dX1_failGroup_27 : decode cX1_failGroup 27 = .ok (.invokevirtual 252, 3) := by decide +kernel
theorem dX1_failGroup_30 : decode cX1_failGroup 30 = .ok (.ifCond .eq 26, 3) := by decide +kernel
theorem dX1_failGroup_33 : decode cX1_failGroup 33 = .ok (.aload_n 0, 1) := by decide +kernel
theorem dX1_failGroup_34 : decode cX1_failGroup 34 = .ok (.getfield 35, 3) := by decide +kernel
theorem dX1_failGroup_37 : decode cX1_failGroup 37 = .ok (.getfield 160, 3) := by decide +kernel
theorem dX1_failGroup_40 : decode cX1_failGroup 40 = .ok (.iload_n 2, 1) := by decide +kernel
theorem dX1_failGroup_41 : decode cX1_failGroup 41 = .ok (.invokevirtual 167, 3) := by decide +kernel
theorem dX1_failGroup_44 : decode cX1_failGroup 44 = .ok (.checkcast 128, 3) := by decide +kernel
theorem dX1_failGroup_47 : decode cX1_failGroup 47 = .ok (.iconst 2, 1) := by decide +kernel
theorem dX1_failGroup_48 : decode cX1_failGroup 48 = .ok (.iload_n 1, 1) := by decide +kernel
theorem dX1_failGroup_49 : decode cX1_failGroup 49 = .ok (.aload_n 0, 1) := by decide +kernel
theorem dX1_failGroup_50 : decode cX1_failGroup 50 = .ok (.getfield 53, 3) := by decide +kernel
theorem dX1_failGroup_53 : decode cX1_failGroup 53 = .ok (.invokevirtual 215, 3) := by decide +kernel
theorem dX1_failGroup_56 : decode cX1_failGroup 56 = .ok (.iinc 2 1, 3) := by decide +kernel
theorem dX1_failGroup_59 : decode cX1_failGroup 59 = .ok (.goto (-51), 3) := by decide +kernel
theorem dX1_failGroup_62 : decode cX1_failGroup 62 = .ok (.aload_n 0, 1) := by decide +kernel
theorem dX1_failGroup_63 : decode cX1_failGroup 63 = .ok (.getfield 35, 3) := by decide +kernel
theorem dX1_failGroup_66 : decode cX1_failGroup 66 = .ok (.getfield 100, 3) := by decide +kernel
theorem dX1_failGroup_69 : decode cX1_failGroup 69 = .ok (.ifCond .eq 43, 3) := by decide +kernel
theorem dX1_failGroup_72 : decode cX1_failGroup 72 = .ok (.aload_n 0, 1) := by decide +kernel
theorem dX1_failGroup_73 : decode cX1_failGroup 73 = .ok (.getfield 35, 3) := by decide +kernel
theorem dX1_failGroup_76 : decode cX1_failGroup 76 = .ok (.getfield 113, 3) := by decide +kernel
theorem dX1_failGroup_79 : decode cX1_failGroup 79 = .ok (.istore_n 2, 1) := by decide +kernel
theorem dX1_failGroup_80 : decode cX1_failGroup 80 = .ok (.iload_n 2, 1) := by decide +kernel
theorem dX1_failGroup_81 : decode cX1_failGroup 81 = .ok (.aload_n 0, 1) := by decide +kernel
theorem dX1_failGroup_82 : decode cX1_failGroup 82 = .ok (.getfield 35, 3) := by decide +kernel
theorem dX1_failGroup_85 : decode cX1_failGroup 85 = .ok (.getfield 142, 3) := by decide +kernel
theorem dX1_failGroup_88 : decode cX1_failGroup 88 = .ok (.if_icmp .ge 24, 3) := by decide +kernel
theorem dX1_failGroup_91 : decode cX1_failGroup 91 = .ok (.aload_n 0, 1) := by decide +kernel
theorem dX1_failGroup_92 : decode cX1_failGroup 92 = .ok (.getfield 28, 3) := by decide +kernel
theorem dX1_failGroup_95 : decode cX1_failGroup 95 = .ok (.aload_n 0, 1) := by decide +kernel
theorem dX1_failGroup_96 : decode cX1_failGroup 96 = .ok (.getfield 35, 3) := by decide +kernel
theorem dX1_failGroup_99 : decode cX1_failGroup 99 = .ok (.getfield 106, 3) := by decide +kernel
theorem dX1_failGroup_102 : decode cX1_failGroup 102 = .ok (.iload_n 2, 1) := by decide +kernel
theorem dX1_failGroup_103 : decode cX1_failGroup 103 = .ok (.invokevirtual 256, 3) := by decide +kernel
theorem dX1_failGroup_106 : decode cX1_failGroup 106 = .ok (.iinc 2 1, 3) := by decide +kernel
theorem dX1_failGroup_109 : decode cX1_failGroup 109 = .ok (.goto (-29), 3) := by decide +kernel
theorem dX1_failGroup_112 : decode cX1_failGroup 112 = .ok (.return_, 1) := by decide +kernel
theorem dX1_finishGroup_0 : decode cX1_finishGroup 0 = .ok (.aload_n 0, 1) := by decide +kernel
theorem dX1_finishGroup_1 : decode cX1_finishGroup 1 = .ok (.getfield 35, 3) := by decide +kernel
theorem dX1_finishGroup_4 : decode cX1_finishGroup 4 = .ok (.getfield 113, 3) := by decide +kernel
theorem dX1_finishGroup_7 : decode cX1_finishGroup 7 = .ok (.istore_n 2, 1) := by decide +kernel
theorem dX1_finishGroup_8 : decode cX1_finishGroup 8 = .ok (.iload_n 2, 1) := by decide +kernel
theorem dX1_finishGroup_9 : decode cX1_finishGroup 9 = .ok (.aload_n 0, 1) := by decide +kernel
theorem dX1_finishGroup_10 : decode cX1_finishGroup 10 = .ok (.getfield 35, 3) := by decide +kernel
theorem dX1_finishGroup_13 : decode cX1_finishGroup 13 = .ok (.getfield 142, 3) := by decide +kernel
theorem dX1_finishGroup_16 : decode cX1_finishGroup 16 = .ok (.if_icmp .ge 64, 3) := by decide +kernel
theorem dX1_finishGroup_19 : decode cX1_finishGroup 19 = .ok (.aload_n 0, 1) := by decide +kernel
theorem dX1_finishGroup_20 : decode cX1_finishGroup 20 = .ok (.getfield 35, 3) := by decide +kernel
theorem dX1_finishGroup_23 : decode cX1_finishGroup 23 = .ok (.getfield 100, 3) := by decide +kernel
theorem dX1_finishGroup_26 : decode cX1_finishGroup 26 = .ok (.ifCond .eq 14, 3) := by decide +kernel
theorem dX1_finishGroup_29 : decode cX1_finishGroup 29 = .ok (.aload_n 0, 1) := by decide +kernel
theorem dX1_finishGroup_30 : decode cX1_finishGroup 30 = .ok (.getfield 35, 3) := by decide +kernel
theorem dX1_finishGroup_33 : decode cX1_finishGroup 33 = .ok (.iload_n 2, 1) := by decide +kernel
theorem dX1_finishGroup_34 : decode cX1_finishGroup 34 = .ok (.invokevirtual 143, 3) := by decide +kernel
theorem dX1_finishGroup_37 : decode cX1_finishGroup 37 = .ok (.goto 16, 3) := by decide +kernel
theorem dX1_finishGroup_40 : decode cX1_finishGroup 40 = .ok (.aload_n 1, 1) := by decide +kernel
theorem dX1_finishGroup_41 : decode cX1_finishGroup 41 = .ok (.iload_n 2, 1) := by decide +kernel
theorem dX1_finishGroup_42 : decode cX1_finishGroup 42 = .ok (.aload_n 0, 1) := by decide +kernel
theorem dX1_finishGroup_43 : decode cX1_finishGroup 43 = .ok (.getfield 35, 3) := by decide +kernel
theorem dX1_finishGroup_46 : decode cX1_finishGroup 46 = .ok (.getfield 113, 3) := by decide +kernel
theorem dX1_finishGroup_49 : decode cX1_finishGroup 49 = .ok (.isub, 1) := by decide +kernel
theorem dX1_finishGroup_50 : decode cX1_finishGroup 50 = .ok (.invokevirtual 259, 3) := by decide +kernel
theorem dX1_finishGroup_53 : decode cX1_finishGroup 53 = .ok (.istore_n 3, 1) := by decide +kernel
theorem dX1_finishGroup_54 : decode cX1_finishGroup 54 = .ok (.aload_n 0, 1) := by decide +kernel
theorem dX1_finishGroup_55 : decode cX1_finishGroup 55 = .ok (.getfield 28, 3) := by decide +kernel
theorem dX1_finishGroup_58 : decode cX1_finishGroup 58 = .ok (.aload_n 0, 1) := by decide +kernel
theorem dX1_finishGroup_59 : decode cX1_finishGroup 59 = .ok (.getfield 35, 3) := by decide +kernel
theorem dX1_finishGroup_62 : decode cX1_finishGroup 62 = .ok (.getfield 106, 3) := by decide +kernel
theorem dX1_finishGroup_65 : decode cX1_finishGroup 65 = .ok (.iload_n 2, 1) := by decide +kernel
theorem dX1_finishGroup_66 : decode cX1_finishGroup 66 = .ok (.iload_n 3, 1) := by decide +kernel
theorem dX1_finishGroup_67 : decode cX1_finishGroup 67 = .ok (.aload_n 0, 1) := by decide +kernel
theorem dX1_finishGroup_68 : decode cX1_finishGroup 68 = .ok (.getfield 53, 3) := by decide +kernel
theorem dX1_finishGroup_71 : decode cX1_finishGroup 71 = .ok (.invokevirtual 262, 3) := by decide +kernel
theorem dX1_finishGroup_74 : decode cX1_finishGroup 74 = .ok (.iinc 2 1, 3) := by decide +kernel
theorem dX1_finishGroup_77 : decode cX1_finishGroup 77 = .ok (.goto (-69), 3) := by decide +kernel
theorem dX1_finishGroup_80 : decode cX1_finishGroup 80 = .ok (.aload_n 0, 1) := by decide +kernel
theorem dX1_finishGroup_81 : decode cX1_finishGroup 81 = .ok (.getfield 35, 3) := by decide +kernel
theorem dX1_finishGroup_84 : decode cX1_finishGroup 84 = .ok (.getfield 164, 3) := by decide +kernel
theorem dX1_finishGroup_87 : decode cX1_finishGroup 87 = .ok (.istore_n 2, 1) := by decide +kernel
theorem dX1_finishGroup_88 : decode cX1_finishGroup 88 = .ok (.iload_n 2, 1) := by decide +kernel
theorem dX1_finishGroup_89 : decode cX1_finishGroup 89 = .ok (.aload_n 0, 1) := by decide +kernel
theorem dX1_finishGroup_90 : decode cX1_finishGroup 90 = .ok (.getfield 35, 3) := by decide +kernel
theorem dX1_finishGroup_93 : decode cX1_finishGroup 93 = .ok (.getfield 160, 3) := by decide +kernel
theorem dX1_finishGroup_96 : decode cX1_finishGroup 96 = .ok (.invokevirtual 250, 3) := by decide +kernel
theorem dX1_finishGroup_99 : decode cX1_finishGroup 99 = .ok (.if_icmp .ge 69, 3) := by decide +kernel
theorem dX1_finishGroup_102 : decode cX1_finishGroup 102 = .ok (.aload_n 0, 1) := by decide +kernel
theorem dX1_finishGroup_103 : decode cX1_finishGroup 103 = .ok (.getfield 35, 3) := by decide +kernel
theorem dX1_finishGroup_106 : decode cX1_finishGroup 106 = .ok (.iload_n 2, 1) := by decide +kernel
theorem dX1_finishGroup_107 : decode cX1_finishGroup 107 = .ok (.invokevirtual 252, 3) := by decide +kernel
theorem dX1_finishGroup_110 : decode cX1_finishGroup 110 = .ok (.ifCond .eq 52, 3) := by decide +kernel
theorem dX1_finishGroup_113 : decode cX1_finishGroup 113 = .ok (.aload_n 0, 1) := by decide +kernel
theorem dX1_finishGroup_114 : decode cX1_finishGroup 114 = .ok (.getfield 35, 3) := by decide +kernel
theorem dX1_finishGroup_117 : decode cX1_finishGroup 117 = .ok (.getfield 160, 3) := by decide +kernel
theorem dX1_finishGroup_120 : decode cX1_finishGroup 120 = .ok (.iload_n 2, 1) := by decide +kernel
theorem dX1_finishGroup_121 : decode cX1_finishGroup 121 = .ok (.invokevirtual 167, 3) := by decide +kernel
theorem dX1_finishGroup_124 : decode cX1_finishGroup 124 = .ok (.checkcast 128, 3) := by decide +kernel
theorem dX1_finishGroup_127 : decode cX1_finishGroup 127 = .ok (.astore_n 3, 1) := by decide +kernel
theorem dX1_finishGroup_128 : decode cX1_finishGroup 128 = .ok (.aload_n 3, 1) := by decide +kernel
theorem dX1_finishGroup_129 : decode cX1_finishGroup 129 = .ok (.getfield 127, 3) := by decide +kernel
theorem dX1_finishGroup_132 : decode cX1_finishGroup 132 = .ok (.ifCond .ne 20, 3) := by decide +kernel
theorem dX1_finishGroup_135 : decode cX1_finishGroup 135 = .ok (.aload_n 3, 1) := by decide +kernel
theorem dX1_finishGroup_136 : decode cX1_finishGroup 136 = .ok (.aload_n 1, 1) := by decide +kernel
theorem dX1_finishGroup_137 : decode cX1_finishGroup 137 = .ok (.aload_n 3, 1) := by decide +kernel
theorem dX1_finishGroup_138 : decode cX1_finishGroup 138 = .ok (.getfield 130, 3) := by decide +kernel
theorem dX1_finishGroup_141 : decode cX1_finishGroup 141 = .ok (.aload_n 0, 1) := by decide +kernel
theorem dX1_finishGroup_142 : decode cX1_finishGroup 142 = .ok (.getfield 35, 3) := by decide +kernel
theorem dX1_finishGroup_145 : decode cX1_finishGroup 145 = .ok (.getfield 113, 3) := by decide +kernel
theorem dX1_finishGroup_148 : decode cX1_finishGroup 148 = .ok (.isub, 1) := by decide +kernel
theorem dX1_finishGroup_149 : decode cX1_finishGroup 149 = .ok (.invokevirtual 266, 3) := by decide +kernel
theorem dX1_finishGroup_152 : decode cX1_finishGroup 152 = .ok (.aload_n 3, 1) := by decide +kernel
theorem dX1_finishGroup_153 : decode cX1_finishGroup 153 = .ok (.iconst 1, 1) := by decide +kernel
theorem dX1_finishGroup_154 : decode cX1_finishGroup 154 = .ok (.iconst 0, 1) := by decide +kernel
theorem dX1_finishGroup_155 : decode cX1_finishGroup 155 = .ok (.aload_n 0, 1) := by decide +kernel
theorem dX1_finishGroup_156 : decode cX1_finishGroup 156 = .ok (.getfield 53, 3) := by decide +kernel
theorem dX1_finishGroup_159 : decode cX1_finishGroup 159 = .ok (.invokevirtual 215, 3) := by decide +kernel
theorem dX1_finishGroup_162 : decode cX1_finishGroup 162 = .ok (.iinc 2 1, 3) := by decide +kernel
theorem dX1_finishGroup_165 : decode cX1_finishGroup 165 = .ok (.goto (-77), 3) := by decide +kernel
theorem dX1_finishGroup_168 : decode cX1_finishGroup 168 = .ok (.return_, 1) := by decide +kernel
theorem dX2_init_0 : decode cX2_init 0 = .ok (.aload_n 0, 1) := by decide +kernel
theorem dX2_init_1 : decode cX2_init 1 = .ok (.invokespecial 3, 3) := by decide +kernel
theorem dX2_init_4 : decode cX2_init 4 = .ok (.aload_n 0, 1) := by decide +kernel
theorem dX2_init_5 : decode cX2_init 5 = .ok (.bipush 32, 2) := by decide +kernel
theorem dX2_init_7 : decode cX2_init 7 = .ok (.newarray .int, 2) := by decide +kernel
theorem dX2_init_9 : decode cX2_init 9 = .ok (.putfield 9, 3) := by decide +kernel
theorem dX2_init_12 : decode cX2_init 12 = .ok (.aload_n 0, 1) := by decide +kernel
theorem dX2_init_13 : decode cX2_init 13 = .ok (.bipush 6, 2) := by decide +kernel
theorem dX2_init_15 : decode cX2_init 15 = .ok (.newarray .int, 2) := by decide +kernel
theorem dX2_init_17 : decode cX2_init 17 = .ok (.putfield 15, 3) := by decide +kernel
theorem dX2_init_20 : decode cX2_init 20 = .ok (.aload_n 0, 1) := by decide +kernel
theorem dX2_init_21 : decode cX2_init 21 = .ok (.bipush 6, 2) := by decide +kernel
theorem dX2_init_23 : decode cX2_init 23 = .ok (.newarray .int, 2) := by decide +kernel
theorem dX2_init_25 : decode cX2_init 25 = .ok (.putfield 18, 3) := by decide +kernel
theorem dX2_init_28 : decode cX2_init 28 = .ok (.aload_n 0, 1) := by decide +kernel
theorem dX2_init_29 : decode cX2_init 29 = .ok (.iconst 0, 1) := by decide +kernel
theorem dX2_init_30 : decode cX2_init 30 = .ok (.putfield 21, 3) := by decide +kernel
theorem dX2_init_33 : decode cX2_init 33 = .ok (.aload_n 0, 1) := by decide +kernel
theorem dX2_init_34 : decode cX2_init 34 = .ok (.iconst 0, 1) := by decide +kernel
theorem dX2_init_35 : decode cX2_init 35 = .ok (.putfield 25, 3) := by decide +kernel
theorem dX2_init_38 : decode cX2_init 38 = .ok (.aload_n 0, 1) := by decide +kernel
theorem dX2_init_39 : decode cX2_init 39 = .ok (.ldc 28, 2) := by decide +kernel
theorem dX2_init_41 : decode cX2_init 41 = .ok (.putfield 29, 3) := by decide +kernel
theorem dX2_init_44 : decode cX2_init 44 = .ok (.aload_n 0, 1) := by decide +kernel
theorem dX2_init_45 : decode cX2_init 45 = .ok (.iconst 5, 1) := by decide +kernel
theorem dX2_init_46 : decode cX2_init 46 = .ok (.putfield 32, 3) := by decide +kernel
theorem dX2_init_49 : decode cX2_init 49 = .ok (.return_, 1) := by decide +kernel
theorem dX2_copyFrom_0 : decode cX2_copyFrom 0 = .ok (.aload_n 1, 1) := by decide +kernel
theorem dX2_copyFrom_1 : decode cX2_copyFrom 1 = .ok (.getfield 9, 3) := by decide +kernel
theorem dX2_copyFrom_4 : decode cX2_copyFrom 4 = .ok (.iconst 0, 1) := by decide +kernel
theorem dX2_copyFrom_5 : decode cX2_copyFrom 5 = .ok (.aload_n 0, 1) := by decide +kernel
theorem dX2_copyFrom_6 : decode cX2_copyFrom 6 = .ok (.getfield 9, 3) := by decide +kernel
theorem dX2_copyFrom_9 : decode cX2_copyFrom 9 = .ok (.iconst 0, 1) := by decide +kernel
theorem dX2_copyFrom_10 : decode cX2_copyFrom 10 = .ok (.bipush 32, 2) := by decide +kernel
theorem dX2_copyFrom_12 : decode cX2_copyFrom 12 = .ok (.invokestatic 35, 3) := by decide +kernel
theorem dX2_copyFrom_15 : decode cX2_copyFrom 15 = .ok (.aload_n 1, 1) := by decide +kernel
theorem dX2_copyFrom_16 : decode cX2_copyFrom 16 = .ok (.getfield 15, 3) := by decide +kernel
theorem dX2_copyFrom_19 : decode cX2_copyFrom 19 = .ok (.iconst 0, 1) := by decide +kernel
theorem dX2_copyFrom_20 : decode cX2_copyFrom 20 = .ok (.aload_n 0, 1) := by decide +kernel
theorem dX2_copyFrom_21 : decode cX2_copyFrom 21 = .ok (.getfield 15, 3) := by decide +kernel
theorem dX2_copyFrom_24 : decode cX2_copyFrom 24 = .ok (.iconst 0, 1) := by decide +kernel
theorem dX2_copyFrom_25 : decode cX2_copyFrom 25 = .ok (.bipush 6, 2) := by decide +kernel
theorem dX2_copyFrom_27 : decode cX2_copyFrom 27 = .ok (.invokestatic 35, 3) := by decide +kernel
theorem dX2_copyFrom_30 : decode cX2_copyFrom 30 = .ok (.aload_n 1, 1) := by decide +kernel
theorem dX2_copyFrom_31 : decode cX2_copyFrom 31 = .ok (.getfield 18, 3) := by decide +kernel
theorem dX2_copyFrom_34 : decode cX2_copyFrom 34 = .ok (.iconst 0, 1) := by decide +kernel
theorem dX2_copyFrom_35 : decode cX2_copyFrom 35 = .ok (.aload_n 0, 1) := by decide +kernel
theorem dX2_copyFrom_36 : decode cX2_copyFrom 36 = .ok (.getfield 18, 3) := by decide +kernel
theorem dX2_copyFrom_39 : decode cX2_copyFrom 39 = .ok (.iconst 0, 1) := by decide +kernel
theorem dX2_copyFrom_40 : decode cX2_copyFrom 40 = .ok (.bipush 6, 2) := by decide +kernel
theorem dX2_copyFrom_42 : decode cX2_copyFrom 42 = .ok (.invokestatic 35, 3) := by decide +kernel
theorem dX2_copyFrom_45 : decode cX2_copyFrom 45 = .ok (.aload_n 0, 1) := by decide +kernel
theorem dX2_copyFrom_46 : decode cX2_copyFrom 46 = .ok (.aload_n 1, 1) := by decide +kernel
theorem dX2_copyFrom_47 : decode cX2_copyFrom 47 = .ok (.getfield 21, 3) := by decide +kernel
theorem dX2_copyFrom_50 : decode cX2_copyFrom 50 = .ok (.putfield 21, 3) := by decide +kernel
theorem dX2_copyFrom_53 : decode cX2_copyFrom 53 = .ok (.aload_n 0, 1) := by decide +kernel
theorem dX2_copyFrom_54 : decode cX2_copyFrom 54 = .ok (.aload_n 1, 1) := by decide +kernel
theorem dX2_copyFrom_55 : decode cX2_copyFrom 55 = .ok (.getfield 25, 3) := by decide +kernel
theorem dX2_copyFrom_58 : decode cX2_copyFrom 58 = .ok (.putfield 25, 3) := by decide +kernel
theorem dX2_copyFrom_61 : decode cX2_copyFrom 61 = .ok (.aload_n 0, 1) := by decide +kernel
theorem dX2_copyFrom_62 : decode cX2_copyFrom 62 = .ok (.aload_n 1, 1) := by decide +kernel
theorem dX2_copyFrom_63 : decode cX2_copyFrom 63 = .ok (.getfield 29, 3) := by decide +kernel
theorem dX2_copyFrom_66 : decode cX2_copyFrom 66 = .ok (.putfield 29, 3) := by decide +kernel
theorem dX2_copyFrom_69 : decode cX2_copyFrom 69 = .ok (.aload_n 0, 1) := by decide +kernel
theorem dX2_copyFrom_70 : decode cX2_copyFrom 70 = .ok (.aload_n 1, 1) := by decide +kernel
theorem dX2_copyFrom_71 : decode cX2_copyFrom 71 = .ok (.getfield 32, 3) := by decide +kernel
theorem dX2_copyFrom_74 : decode cX2_copyFrom 74 = .ok (.putfield 32, 3) := by decide +kernel
theorem dX2_copyFrom_77 : decode cX2_copyFrom 77 = .ok (.return_, 1) := by decide +kernel
theorem dX2_isReadOnly_0 : decode cX2_isReadOnly 0 = .ok (.aload_n 0, 1) := by decide +kernel
theorem dX2_isReadOnly_1 : decode cX2_isReadOnly 1 = .ok (.getfield 25, 3) := by decide +kernel
theorem dX2_isReadOnly_4 : decode cX2_isReadOnly 4 = .ok (.iload_n 1, 1) := by decide +kernel
theorem dX2_isReadOnly_5 : decode cX2_isReadOnly 5 = .ok (.iushr, 1) := by decide +kernel
theorem dX2_isReadOnly_6 : decode cX2_isReadOnly 6 = .ok (.iconst 1, 1) := by decide +kernel
theorem dX2_isReadOnly_7 : decode cX2_isReadOnly 7 = .ok (.iand, 1) := by decide +kernel
theorem dX2_isReadOnly_8 : decode cX2_isReadOnly 8 = .ok (.iconst 1, 1) := by decide +kernel
theorem dX2_isReadOnly_9 : decode cX2_isReadOnly 9 = .ok (.if_icmp .ne 7, 3) := by decide +kernel
theorem dX2_isReadOnly_12 : decode cX2_isReadOnly 12 = .ok (.iconst 1, 1) := by decide +kernel
theorem dX2_isReadOnly_13 : decode cX2_isReadOnly 13 = .ok (.goto 4, 3) := by decide +kernel
theorem dX2_isReadOnly_16 : decode cX2_isReadOnly 16 = .ok (.iconst 0, 1) := by decide +kernel
theorem dX2_isReadOnly_17 : decode cX2_isReadOnly 17 = .ok (.ireturn, 1) := by decide +kernel
theorem dX2_appendFault_0 : decode cX2_appendFault 0 = .ok (.aload_n 0, 1) := by decide +kernel
theorem dX2_appendFault_1 : decode cX2_appendFault 1 = .ok (.getfield 21, 3) := by decide +kernel
theorem dX2_appendFault_4 : decode cX2_appendFault 4 = .ok (.bipush 6, 2) := by decide +kernel
theorem dX2_appendFault_6 : decode cX2_appendFault 6 = .ok (.if_icmp .ge 33, 3) := by decide +kernel
theorem dX2_appendFault_9 : decode cX2_appendFault 9 = .ok (.aload_n 0, 1) := by decide +kernel
theorem dX2_appendFault_10 : decode cX2_appendFault 10 = .ok (.getfield 15, 3) := by decide +kernel
theorem dX2_appendFault_13 : decode cX2_appendFault 13 = .ok (.aload_n 0, 1) := by decide +kernel
theorem dX2_appendFault_14 : decode cX2_appendFault 14 = .ok (.getfield 21, 3) := by decide +kernel
theorem dX2_appendFault_17 : decode cX2_appendFault 17 = .ok (.iload_n 1, 1) := by decide +kernel
theorem dX2_appendFault_18 : decode cX2_appendFault 18 = .ok (.iastore, 1) := by decide +kernel
theorem dX2_appendFault_19 : decode cX2_appendFault 19 = .ok (.aload_n 0, 1) := by decide +kernel
theorem dX2_appendFault_20 : decode cX2_appendFault 20 = .ok (.getfield 18, 3) := by decide +kernel
theorem dX2_appendFault_23 : decode cX2_appendFault 23 = .ok (.aload_n 0, 1) := by decide +kernel
theorem dX2_appendFault_24 : decode cX2_appendFault 24 = .ok (.getfield 21, 3) := by decide +kernel
theorem dX2_appendFault_27 : decode cX2_appendFault 27 = .ok (.iload_n 2, 1) := by decide +kernel
theorem dX2_appendFault_28 : decode cX2_appendFault 28 = .ok (.iastore, 1) := by decide +kernel
theorem dX2_appendFault_29 : decode cX2_appendFault 29 = .ok (.aload_n 0, 1) := by decide +kernel
theorem dX2_appendFault_30 : decode cX2_appendFault 30 = .ok (.dup, 1) := by decide +kernel
theorem dX2_appendFault_31 : decode cX2_appendFault 31 = .ok (.getfield 21, 3) := by decide +kernel
theorem dX2_appendFault_34 : decode cX2_appendFault 34 = .ok (.iconst 1, 1) := by decide +kernel
theorem dX2_appendFault_35 : decode cX2_appendFault 35 = .ok (.iadd, 1) := by decide +kernel
theorem dX2_appendFault_36 : decode cX2_appendFault 36 = .ok (.putfield 21, 3) := by decide +kernel
theorem dX2_appendFault_39 : decode cX2_appendFault 39 = .ok (.return_, 1) := by decide +kernel
theorem dX2_dropFirstFault_0 : decode cX2_dropFirstFault 0 = .ok (.iconst 1, 1) := by decide +kernel
theorem dX2_dropFirstFault_1 : decode cX2_dropFirstFault 1 = .ok (.istore_n 1, 1) := by decide +kernel
theorem dX2_dropFirstFault_2 : decode cX2_dropFirstFault 2 = .ok (.iload_n 1, 1) := by decide +kernel
theorem dX2_dropFirstFault_3 : decode cX2_dropFirstFault 3 = .ok (.aload_n 0, 1) := by decide +kernel
theorem dX2_dropFirstFault_4 : decode cX2_dropFirstFault 4 = .ok (.getfield 21, 3) := by decide +kernel
theorem dX2_dropFirstFault_7 : decode cX2_dropFirstFault 7 = .ok (.if_icmp .ge 37, 3) := by decide +kernel
theorem dX2_dropFirstFault_10 : decode cX2_dropFirstFault 10 = .ok (.aload_n 0, 1) := by decide +kernel
theorem dX2_dropFirstFault_11 : decode cX2_dropFirstFault 11 = .ok (.getfield 15, 3) := by decide +kernel
theorem dX2_dropFirstFault_14 : decode cX2_dropFirstFault 14 = .ok (.iload_n 1, 1) := by decide +kernel
theorem dX2_dropFirstFault_15 : decode cX2_dropFirstFault 15 = .ok (.iconst 1, 1) := by decide +kernel
theorem dX2_dropFirstFault_16 : decode cX2_dropFirstFault 16 = .ok (.isub, 1) := by decide +kernel
theorem dX2_dropFirstFault_17 : decode cX2_dropFirstFault 17 = .ok (.aload_n 0, 1) := by decide +kernel
theorem dX2_dropFirstFault_18 : decode cX2_dropFirstFault 18 = .ok (.getfield 15, 3) := by decide +kernel
theorem dX2_dropFirstFault_21 : decode cX2_dropFirstFault 21 = .ok (.iload_n 1, 1) := by decide +kernel
theorem dX2_dropFirstFault_22 : decode cX2_dropFirstFault 22 = .ok (.iaload, 1) := by decide +kernel
theorem dX2_dropFirstFault_23 : decode cX2_dropFirstFault 23 = .ok (.iastore, 1) := by decide +kernel
theorem dX2_dropFirstFault_24 : decode cX2_dropFirstFault 24 = .ok (.aload_n 0, 1) := by decide +kernel
theorem dX2_dropFirstFault_25 : decode cX2_dropFirstFault 25 = .ok (.getfield 18, 3) := by decide +kernel
theorem dX2_dropFirstFault_28 : decode cX2_dropFirstFault 28 = .ok (.iload_n 1, 1) := by decide +kernel
theorem dX2_dropFirstFault_29 : decode cX2_dropFirstFault 29 = .ok (.iconst 1, 1) := by decide +kernel
theorem dX2_dropFirstFault_30 : decode cX2_dropFirstFault 30 = .ok (.isub, 1) := by decide +kernel
theorem dX2_dropFirstFault_31 : decode cX2_dropFirstFault 31 = .ok (.aload_n 0, 1) := by decide +kernel
theorem dX2_dropFirstFault_32 : decode cX2_dropFirstFault 32 = .ok (.getfield 18, 3) := by decide +kernel
theorem dX2_dropFirstFault_35 : decode cX2_dropFirstFault 35 = .ok (.iload_n 1, 1) := by decide +kernel
theorem dX2_dropFirstFault_36 : decode cX2_dropFirstFault 36 = .ok (.iaload, 1) := by decide +kernel
theorem dX2_dropFirstFault_37 : decode cX2_dropFirstFault 37 = .ok (.iastore, 1) := by decide +kernel
theorem dX2_dropFirstFault_38 : decode cX2_dropFirstFault 38 = .ok (.iinc 1 1, 3) := by decide +kernel
theorem dX2_dropFirstFault_41 : decode cX2_dropFirstFault 41 = .ok (.goto (-39), 3) := by decide +kernel
theorem dX2_dropFirstFault_44 : decode cX2_dropFirstFault 44 = .ok (.aload_n 0, 1) := by decide +kernel
theorem dX2_dropFirstFault_45 : decode cX2_dropFirstFault 45 = .ok (.dup, 1) := by decide +kernel
theorem dX2_dropFirstFault_46 : decode cX2_dropFirstFault 46 = .ok (.getfield 21, 3) := by decide +kernel
theorem dX2_dropFirstFault_49 : decode cX2_dropFirstFault 49 = .ok (.iconst 1, 1) := by decide +kernel
theorem dX2_dropFirstFault_50 : decode cX2_dropFirstFault 50 = .ok (.isub, 1) := by decide +kernel
theorem dX2_dropFirstFault_51 : decode cX2_dropFirstFault 51 = .ok (.putfield 21, 3) := by decide +kernel
theorem dX2_dropFirstFault_54 : decode cX2_dropFirstFault 54 = .ok (.return_, 1) := by decide +kernel
theorem dX2_answer_0 : decode cX2_answer 0 = .ok (.iconst 0, 1) := by decide +kernel
theorem dX2_answer_1 : decode cX2_answer 1 = .ok (.istore 4, 2) := by decide +kernel
theorem dX2_answer_3 : decode cX2_answer 3 = .ok (.iconst 0, 1) := by decide +kernel
theorem dX2_answer_4 : decode cX2_answer 4 = .ok (.istore 5, 2) := by decide +kernel
theorem dX2_answer_6 : decode cX2_answer 6 = .ok (.aload_n 0, 1) := by decide +kernel
theorem dX2_answer_7 : decode cX2_answer 7 = .ok (.getfield 21, 3) := by decide +kernel
theorem dX2_answer_10 : decode cX2_answer 10 = .ok (.ifCond .le 23, 3) := by decide +kernel
theorem dX2_answer_13 : decode cX2_answer 13 = .ok (.aload_n 0, 1) := by decide +kernel
theorem dX2_answer_14 : decode cX2_answer 14 = .ok (.getfield 15, 3) := by decide +kernel
theorem dX2_answer_17 : decode cX2_answer 17 = .ok (.iconst 0, 1) := by decide +kernel
theorem dX2_answer_18 : decode cX2_answer 18 = .ok (.iaload, 1) := by decide +kernel
theorem dX2_answer_19 : decode cX2_answer 19 = .ok (.istore 4, 2) := by decide +kernel
theorem dX2_answer_21 : decode cX2_answer 21 = .ok (.aload_n 0, 1) := by decide +kernel
theorem dX2_answer_22 : decode cX2_answer 22 = .ok (.getfield 18, 3) := by decide +kernel
theorem dX2_answer_25 : decode cX2_answer 25 = .ok (.iconst 0, 1) := by decide +kernel
theorem dX2_answer_26 : decode cX2_answer 26 = .ok (.iaload, 1) := by decide +kernel
theorem dX2_answer_27 : decode cX2_answer 27 = .ok (.istore 5, 2) := by decide +kernel
theorem dX2_answer_29 : decode cX2_answer 29 = .ok (.aload_n 0, 1) := by decide +kernel
theorem dX2_answer_30 : decode cX2_answer 30 = .ok (.invokevirtual 41, 3) := by decide +kernel
theorem dX2_answer_33 : decode cX2_answer 33 = .ok (.iload 4, 2) := by decide +kernel
theorem dX2_answer_35 : decode cX2_answer 35 = .ok (.iconst 4, 1) := by decide +kernel
theorem dX2_answer_36 : decode cX2_answer 36 = .ok (.if_icmp .ne 8, 3) := by decide +kernel
theorem dX2_answer_39 : decode cX2_answer 39 = .ok (.bipush 6, 2) := by decide +kernel
theorem dX2_answer_41 : decode cX2_answer 41 = .ok (.goto 8, 3) := by decide +kernel
theorem dX2_answer_44 : decode cX2_answer 44 = .ok (.aload_n 0, 1) := by decide +kernel
theorem dX2_answer_45 : decode cX2_answer 45 = .ok (.aload_n 1, 1) := by decide +kernel
theorem dX2_answer_46 : decode cX2_answer 46 = .ok (.invokevirtual 44, 3) := by decide +kernel
theorem dX2_answer_49 : decode cX2_answer 49 = .ok (.istore 6, 2) := by decide +kernel
theorem dX2_answer_51 : decode cX2_answer 51 = .ok (.iload 6, 2) := by decide +kernel
theorem dX2_answer_53 : decode cX2_answer 53 = .ok (.ifCond .ne 15, 3) := by decide +kernel
theorem dX2_answer_56 : decode cX2_answer 56 = .ok (.aload_n 0, 1) := by decide +kernel
theorem dX2_answer_57 : decode cX2_answer 57 = .ok (.aload_n 1, 1) := by decide +kernel
theorem dX2_answer_58 : decode cX2_answer 58 = .ok (.aload_n 3, 1) := by decide +kernel
theorem dX2_answer_59 : decode cX2_answer 59 = .ok (.getfield 48, 3) := by decide +kernel
theorem dX2_answer_62 : decode cX2_answer 62 = .ok (.invokevirtual 54, 3) := by decide +kernel
theorem dX2_answer_65 : decode cX2_answer 65 = .ok (.goto 33, 3) := by decide +kernel
theorem dX2_answer_68 : decode cX2_answer 68 = .ok (.aload_n 3, 1) := by decide +kernel
theorem dX2_answer_69 : decode cX2_answer 69 = .ok (.getfield 48, 3) := by decide +kernel
theorem dX2_answer_72 : decode cX2_answer 72 = .ok (.aload_n 1, 1) := by decide +kernel
theorem dX2_answer_73 : decode cX2_answer 73 = .ok (.iconst 0, 1) := by decide +kernel
theorem dX2_answer_74 : decode cX2_answer 74 = .ok (.invokevirtual 58, 3) := by decide +kernel
theorem dX2_answer_77 : decode cX2_answer 77 = .ok (.aload_n 1, 1) := by decide +kernel
theorem dX2_answer_78 : decode cX2_answer 78 = .ok (.iconst 1, 1) := by decide +kernel
theorem dX2_answer_79 : decode cX2_answer 79 = .ok (.invokevirtual 58, 3) := by decide +kernel
theorem dX2_answer_82 : decode cX2_answer 82 = .ok (.sipush 128, 3) := by decide +kernel
theorem dX2_answer_85 : decode cX2_answer 85 = .ok (.iadd, 1) := by decide +kernel
theorem dX2_answer_86 : decode cX2_answer 86 = .ok (.invokevirtual 64, 3) := by decide +kernel
theorem dX2_answer_89 : decode cX2_answer 89 = .ok (.aload_n 3, 1) := by decide +kernel
theorem dX2_answer_90 : decode cX2_answer 90 = .ok (.getfield 48, 3) := by decide +kernel
theorem dX2_answer_93 : decode cX2_answer 93 = .ok (.iload 6, 2) := by decide +kernel
theorem dX2_answer_95 : decode cX2_answer 95 = .ok (.invokevirtual 68, 3) := by decide +kernel
theorem dX2_answer_98 : decode cX2_answer 98 = .ok (.aload_n 3, 1) := by decide +kernel
theorem dX2_answer_99 : decode cX2_answer 99 = .ok (.getfield 48, 3) := by decide +kernel
theorem dX2_answer_102 : decode cX2_answer 102 = .ok (.invokevirtual 72, 3) := by decide +kernel
theorem dX2_answer_105 : decode cX2_answer 105 = .ok (.iload 4, 2) := by decide +kernel
theorem dX2_answer_107 : decode cX2_answer 107 = .ok (.iconst 2, 1) := by decide +kernel
theorem dX2_answer_108 : decode cX2_answer 108 = .ok (.if_icmp .ne 12, 3) := by decide +kernel
theorem dX2_answer_111 : decode cX2_answer 111 = .ok (.aload_n 3, 1) := by decide +kernel
theorem dX2_answer_112 : decode cX2_answer 112 = .ok (.getfield 48, 3) := by decide +kernel
theorem dX2_answer_115 : decode cX2_answer 115 = .ok (.iload 5, 2) := by decide +kernel
theorem dX2_answer_117 : decode cX2_answer 117 = .ok (.invokevirtual 75, 3) := by decide +kernel
theorem dX2_answer_120 : decode cX2_answer 120 = .ok (.aload_n 3, 1) := by decide +kernel
theorem dX2_answer_121 : decode cX2_answer 121 = .ok (.iload_n 2, 1) := by decide +kernel
theorem dX2_answer_122 : decode cX2_answer 122 = .ok (.aload_n 0, 1) := by decide +kernel
theorem dX2_answer_123 : decode cX2_answer 123 = .ok (.getfield 32, 3) := by decide +kernel
theorem dX2_answer_126 : decode cX2_answer 126 = .ok (.iadd, 1) := by decide +kernel
theorem dX2_answer_127 : decode cX2_answer 127 = .ok (.iload 4, 2) := by decide +kernel
theorem dX2_answer_129 : decode cX2_answer 129 = .ok (.iconst 3, 1) := by decide +kernel
theorem dX2_answer_130 : decode cX2_answer 130 = .ok (.if_icmp .ne 8, 3) := by decide +kernel
theorem dX2_answer_133 : decode cX2_answer 133 = .ok (.iload 5, 2) := by decide +kernel
theorem dX2_answer_135 : decode cX2_answer 135 = .ok (.goto 4, 3) := by decide +kernel
theorem dX2_answer_138 : decode cX2_answer 138 = .ok (.iconst 0, 1) := by decide +kernel
theorem dX2_answer_139 : decode cX2_answer 139 = .ok (.iadd, 1) := by decide +kernel
theorem dX2_answer_140 : decode cX2_answer 140 = .ok (.putfield 78, 3) := by decide +kernel
theorem dX2_answer_143 : decode cX2_answer 143 = .ok (.iload 4, 2) := by decide +kernel
theorem dX2_answer_145 : decode cX2_answer 145 = .ok (.iconst 1, 1) := by decide +kernel
theorem dX2_answer_146 : decode cX2_answer 146 = .ok (.if_icmp .eq 7, 3) := by decide +kernel
theorem dX2_answer_149 : decode cX2_answer 149 = .ok (.iconst 1, 1) := by decide +kernel
theorem dX2_answer_150 : decode cX2_answer 150 = .ok (.goto 4, 3) := by decide +kernel
theorem dX2_answer_153 : decode cX2_answer 153 = .ok (.iconst 0, 1) := by decide +kernel
theorem dX2_answer_154 : decode cX2_answer 154 = .ok (.ireturn, 1) := by decide +kernel
theorem dX2_refusalOf_0 : decode cX2_refusalOf 0 = .ok (.aload_n 1, 1) := by decide +kernel
theorem dX2_refusalOf_1 : decode cX2_refusalOf 1 = .ok (.invokevirtual 81, 3) := by decide +kernel
theorem dX2_refusalOf_4 : decode cX2_refusalOf 4 = .ok (.istore_n 2, 1) := by decide +kernel
theorem dX2_refusalOf_5 : decode cX2_refusalOf 5 = .ok (.aload_n 1, 1) := by decide +kernel
theorem dX2_refusalOf_6 : decode cX2_refusalOf 6 = .ok (.invokevirtual 85, 3) := by decide +kernel
theorem dX2_refusalOf_9 : decode cX2_refusalOf 9 = .ok (.istore_n 3, 1) := by decide +kernel
theorem dX2_refusalOf_10 : decode cX2_refusalOf 10 = .ok (.iload_n 2, 1) := by decide +kernel
theorem dX2_refusalOf_11 : decode cX2_refusalOf 11 = .ok (.ifCond .lt 11, 3) := by decide +kernel
theorem dX2_refusalOf_14 : decode cX2_refusalOf 14 = .ok (.iload_n 2, 1) := by decide +kernel
theorem dX2_refusalOf_15 : decode cX2_refusalOf 15 = .ok (.iload_n 3, 1) := by decide +kernel
theorem dX2_refusalOf_16 : decode cX2_refusalOf 16 = .ok (.iadd, 1) := by decide +kernel
theorem dX2_refusalOf_17 : decode cX2_refusalOf 17 = .ok (.bipush 32, 2) := by decide +kernel
theorem dX2_refusalOf_19 : decode cX2_refusalOf 19 = .ok (.if_icmp .le 5, 3) := by decide +kernel
theorem dX2_refusalOf_22 : decode cX2_refusalOf 22 = .ok (.iconst 2, 1) := by decide +kernel
theorem dX2_refusalOf_23 : decode cX2_refusalOf 23 = .ok (.ireturn, 1) := by decide +kernel
theorem dX2_refusalOf_24 : decode cX2_refusalOf 24 = .ok (.aload_n 1, 1) := by decide +kernel
theorem dX2_refusalOf_25 : decode cX2_refusalOf 25 = .ok (.iconst 1, 1) := by decide +kernel
theorem dX2_refusalOf_26 : decode cX2_refusalOf 26 = .ok (.invokevirtual 58, 3) := by decide +kernel
theorem dX2_refusalOf_29 : decode cX2_refusalOf 29 = .ok (.iconst 3, 1) := by decide +kernel
theorem dX2_refusalOf_30 : decode cX2_refusalOf 30 = .ok (.if_icmp .ne 5, 3) := by decide +kernel
theorem dX2_refusalOf_33 : decode cX2_refusalOf 33 = .ok (.iconst 0, 1) := by decide +kernel
theorem dX2_refusalOf_34 : decode cX2_refusalOf 34 = .ok (.ireturn, 1) := by decide +kernel
theorem dX2_refusalOf_35 : decode cX2_refusalOf 35 = .ok (.iconst 0, 1) := by decide +kernel
theorem dX2_refusalOf_36 : decode cX2_refusalOf 36 = .ok (.istore 4, 2) := by decide +kernel
theorem dX2_refusalOf_38 : decode cX2_refusalOf 38 = .ok (.iconst 0, 1) := by decide +kernel
theorem dX2_refusalOf_39 : decode cX2_refusalOf 39 = .ok (.istore 5, 2) := by decide +kernel
theorem dX2_refusalOf_41 : decode cX2_refusalOf 41 = .ok (.iload 5, 2) := by decide +kernel
theorem dX2_refusalOf_43 : decode cX2_refusalOf 43 = .ok (.iload_n 3, 1) := by decide +kernel
theorem dX2_refusalOf_44 : decode cX2_refusalOf 44 = .ok (.if_icmp .ge 47, 3) := by decide +kernel
theorem dX2_refusalOf_47 : decode cX2_refusalOf 47 = .ok (.aload_n 0, 1) := by decide +kernel
theorem dX2_refusalOf_48 : decode cX2_refusalOf 48 = .ok (.iload_n 2, 1) := by decide +kernel
theorem dX2_refusalOf_49 : decode cX2_refusalOf 49 = .ok (.iload 5, 2) := by decide +kernel
theorem dX2_refusalOf_51 : decode cX2_refusalOf 51 = .ok (.iadd, 1) := by decide +kernel
theorem dX2_refusalOf_52 : decode cX2_refusalOf 52 = .ok (.invokevirtual 88, 3) := by decide +kernel
theorem dX2_refusalOf_55 : decode cX2_refusalOf 55 = .ok (.ifCond .eq 5, 3) := by decide +kernel
theorem dX2_refusalOf_58 : decode cX2_refusalOf 58 = .ok (.iconst 2, 1) := by decide +kernel
theorem dX2_refusalOf_59 : decode cX2_refusalOf 59 = .ok (.ireturn, 1) := by decide +kernel
theorem dX2_refusalOf_60 : decode cX2_refusalOf 60 = .ok (.iload 4, 2) := by decide +kernel
theorem dX2_refusalOf_62 : decode cX2_refusalOf 62 = .ok (.ifCond .ne 16, 3) := by decide +kernel
theorem dX2_refusalOf_65 : decode cX2_refusalOf 65 = .ok (.aload_n 1, 1) := by decide +kernel
theorem dX2_refusalOf_66 : decode cX2_refusalOf 66 = .ok (.iload 5, 2) := by decide +kernel
theorem dX2_refusalOf_68 : decode cX2_refusalOf 68 = .ok (.invokevirtual 92, 3) := by decide +kernel
theorem dX2_refusalOf_71 : decode cX2_refusalOf 71 = .ok (.aload_n 0, 1) := by decide +kernel
theorem dX2_refusalOf_72 : decode cX2_refusalOf 72 = .ok (.getfield 29, 3) := by decide +kernel
theorem dX2_refusalOf_75 : decode cX2_refusalOf 75 = .ok (.if_icmp .le 7, 3) := by decide +kernel
theorem dX2_refusalOf_78 : decode cX2_refusalOf 78 = .ok (.iconst 1, 1) := by decide +kernel
theorem dX2_refusalOf_79 : decode cX2_refusalOf 79 = .ok (.goto 4, 3) := by decide +kernel
theorem dX2_refusalOf_82 : decode cX2_refusalOf 82 = .ok (.iconst 0, 1) := by decide +kernel
theorem dX2_refusalOf_83 : decode cX2_refusalOf 83 = .ok (.istore 4, 2) := by decide +kernel
theorem dX2_refusalOf_85 : decode cX2_refusalOf 85 = .ok (.iinc 5 1, 3) := by decide +kernel
theorem dX2_refusalOf_88 : decode cX2_refusalOf 88 = .ok (.goto (-47), 3) := by decide +kernel
theorem dX2_refusalOf_91 : decode cX2_refusalOf 91 = .ok (.iload 4, 2) := by decide +kernel
theorem dX2_refusalOf_93 : decode cX2_refusalOf 93 = .ok (.ifCond .eq 7, 3) := by decide +kernel
theorem dX2_refusalOf_96 : decode cX2_refusalOf 96 = .ok (.iconst 3, 1) := by decide +kernel
theorem dX2_refusalOf_97 : decode cX2_refusalOf 97 = .ok (.goto 4, 3) := by decide +kernel
theorem dX2_refusalOf_100 : decode cX2_refusalOf 100 = .ok (.iconst 0, 1) := by decide +kernel
theorem dX2_refusalOf_101 : decode cX2_refusalOf 101 = .ok (.ireturn, 1) := by decide +kernel
theorem dX2_obey_0 : decode cX2_obey 0 = .ok (.aload_n 1, 1) := by decide +kernel
theorem dX2_obey_1 : decode cX2_obey 1 = .ok (.iconst 1, 1) := by decide +kernel
theorem dX2_obey_2 : decode cX2_obey 2 = .ok (.invokevirtual 58, 3) := by decide +kernel
theorem dX2_obey_5 : decode cX2_obey 5 = .ok (.istore_n 3, 1) := by decide +kernel
theorem dX2_obey_6 : decode cX2_obey 6 = .ok (.aload_n 1, 1) := by decide +kernel
theorem dX2_obey_7 : decode cX2_obey 7 = .ok (.invokevirtual 81, 3) := by decide +kernel
theorem dX2_obey_10 : decode cX2_obey 10 = .ok (.istore 4, 2) := by decide +kernel
theorem dX2_obey_12 : decode cX2_obey 12 = .ok (.aload_n 1, 1) := by decide +kernel
theorem dX2_obey_13 : decode cX2_obey 13 = .ok (.invokevirtual 85, 3) := by decide +kernel
theorem dX2_obey_16 : decode cX2_obey 16 = .ok (.istore 5, 2) := by decide +kernel
theorem dX2_obey_18 : decode cX2_obey 18 = .ok (.aload_n 2, 1) := by decide +kernel
theorem dX2_obey_19 : decode cX2_obey 19 = .ok (.aload_n 1, 1) := by decide +kernel
theorem dX2_obey_20 : decode cX2_obey 20 = .ok (.iconst 0, 1) := by decide +kernel
theorem dX2_obey_21 : decode cX2_obey 21 = .ok (.invokevirtual 58, 3) := by decide +kernel
theorem dX2_obey_24 : decode cX2_obey 24 = .ok (.iload_n 3, 1) := by decide +kernel
theorem dX2_obey_25 : decode cX2_obey 25 = .ok (.invokevirtual 64, 3) := by decide +kernel
theorem dX2_obey_28 : decode cX2_obey 28 = .ok (.iload_n 3, 1) := by decide +kernel
theorem dX2_obey_29 : decode cX2_obey 29 = .ok (.iconst 3, 1) := by decide +kernel
theorem dX2_obey_30 : decode cX2_obey 30 = .ok (.if_icmp .ne 14, 3) := by decide +kernel
theorem dX2_obey_33 : decode cX2_obey 33 = .ok (.aload_n 2, 1) := by decide +kernel
theorem dX2_obey_34 : decode cX2_obey 34 = .ok (.iconst 2, 1) := by decide +kernel
theorem dX2_obey_35 : decode cX2_obey 35 = .ok (.iload 5, 2) := by decide +kernel
theorem dX2_obey_37 : decode cX2_obey 37 = .ok (.imul, 1) := by decide +kernel
theorem dX2_obey_38 : decode cX2_obey 38 = .ok (.invokevirtual 68, 3) := by decide +kernel
theorem dX2_obey_41 : decode cX2_obey 41 = .ok (.goto 18, 3) := by decide +kernel
theorem dX2_obey_44 : decode cX2_obey 44 = .ok (.aload_n 2, 1) := by decide +kernel
theorem dX2_obey_45 : decode cX2_obey 45 = .ok (.iload 4, 2) := by decide +kernel
theorem dX2_obey_47 : decode cX2_obey 47 = .ok (.invokevirtual 95, 3) := by decide +kernel
theorem dX2_obey_50 : decode cX2_obey 50 = .ok (.aload_n 2, 1) := by decide +kernel
theorem dX2_obey_51 : decode cX2_obey 51 = .ok (.aload_n 1, 1) := by decide +kernel
theorem dX2_obey_52 : decode cX2_obey 52 = .ok (.iconst 4, 1) := by decide +kernel
theorem dX2_obey_53 : decode cX2_obey 53 = .ok (.invokevirtual 98, 3) := by decide +kernel
theorem dX2_obey_56 : decode cX2_obey 56 = .ok (.invokevirtual 95, 3) := by decide +kernel
theorem dX2_obey_59 : decode cX2_obey 59 = .ok (.iconst 0, 1) := by decide +kernel
theorem dX2_obey_60 : decode cX2_obey 60 = .ok (.istore 6, 2) := by decide +kernel
theorem dX2_obey_62 : decode cX2_obey 62 = .ok (.iload 6, 2) := by decide +kernel
theorem dX2_obey_64 : decode cX2_obey 64 = .ok (.iload 5, 2) := by decide +kernel
theorem dX2_obey_66 : decode cX2_obey 66 = .ok (.if_icmp .ge 57, 3) := by decide +kernel
theorem dX2_obey_69 : decode cX2_obey 69 = .ok (.iload 4, 2) := by decide +kernel
theorem dX2_obey_71 : decode cX2_obey 71 = .ok (.iload 6, 2) := by decide +kernel
theorem dX2_obey_73 : decode cX2_obey 73 = .ok (.iadd, 1) := by decide +kernel
theorem dX2_obey_74 : decode cX2_obey 74 = .ok (.bipush 32, 2) := by decide +kernel
theorem dX2_obey_76 : decode cX2_obey 76 = .ok (.if_icmp .ge 47, 3) := by decide +kernel
theorem dX2_obey_79 : decode cX2_obey 79 = .ok (.iload_n 3, 1) := by decide +kernel
theorem dX2_obey_80 : decode cX2_obey 80 = .ok (.iconst 3, 1) := by decide +kernel
theorem dX2_obey_81 : decode cX2_obey 81 = .ok (.if_icmp .ne 20, 3) := by decide +kernel
theorem dX2_obey_84 : decode cX2_obey 84 = .ok (.aload_n 2, 1) := by decide +kernel
theorem dX2_obey_85 : decode cX2_obey 85 = .ok (.aload_n 0, 1) := by decide +kernel
theorem dX2_obey_86 : decode cX2_obey 86 = .ok (.getfield 9, 3) := by decide +kernel
theorem dX2_obey_89 : decode cX2_obey 89 = .ok (.iload 4, 2) := by decide +kernel
theorem dX2_obey_91 : decode cX2_obey 91 = .ok (.iload 6, 2) := by decide +kernel
theorem dX2_obey_93 : decode cX2_obey 93 = .ok (.iadd, 1) := by decide +kernel
theorem dX2_obey_94 : decode cX2_obey 94 = .ok (.iaload, 1) := by decide +kernel
theorem dX2_obey_95 : decode cX2_obey 95 = .ok (.invokevirtual 95, 3) := by decide +kernel
theorem dX2_obey_98 : decode cX2_obey 98 = .ok (.goto 19, 3) := by decide +kernel
theorem dX2_obey_101 : decode cX2_obey 101 = .ok (.aload_n 0, 1) := by decide +kernel
theorem dX2_obey_102 : decode cX2_obey 102 = .ok (.getfield 9, 3) := by decide +kernel
theorem dX2_obey_105 : decode cX2_obey 105 = .ok (.iload 4, 2) := by decide +kernel
theorem dX2_obey_107 : decode cX2_obey 107 = .ok (.iload 6, 2) := by decide +kernel
theorem dX2_obey_109 : decode cX2_obey 109 = .ok (.iadd, 1) := by decide +kernel
theorem dX2_obey_110 : decode cX2_obey 110 = .ok (.aload_n 1, 1) := by decide +kernel
theorem dX2_obey_111 : decode cX2_obey 111 = .ok (.iload 6, 2) := by decide +kernel
theorem dX2_obey_113 : decode cX2_obey 113 = .ok (.invokevirtual 92, 3) := by decide +kernel
theorem dX2_obey_116 : decode cX2_obey 116 = .ok (.iastore, 1) := by decide +kernel
theorem dX2_obey_117 : decode cX2_obey 117 = .ok (.iinc 6 1, 3) := by decide +kernel
theorem dX2_obey_120 : decode cX2_obey 120 = .ok (.goto (-58), 3) := by decide +kernel
theorem dX2_obey_123 : decode cX2_obey 123 = .ok (.return_, 1) := by decide +kernel
theorem dX3_init_0 : decode cX3_init 0 = .ok (.aload_n 0, 1) := by decide +kernel
theorem dX3_init_1 : decode cX3_init 1 = .ok (.invokespecial 3, 3) := by decide +kernel
theorem dX3_init_4 : decode cX3_init 4 = .ok (.aload_n 0, 1) := by decide +kernel
theorem dX3_init_5 : decode cX3_init 5 = .ok (.bipush 37, 2) := by decide +kernel
theorem dX3_init_7 : decode cX3_init 7 = .ok (.newarray .int, 2) := by decide +kernel
theorem dX3_init_9 : decode cX3_init 9 = .ok (.putfield 9, 3) := by decide +kernel
theorem dX3_init_12 : decode cX3_init 12 = .ok (.aload_n 0, 1) := by decide +kernel
theorem dX3_init_13 : decode cX3_init 13 = .ok (.iconst 0, 1) := by decide +kernel
theorem dX3_init_14 : decode cX3_init 14 = .ok (.putfield 15, 3) := by decide +kernel
theorem dX3_init_17 : decode cX3_init 17 = .ok (.return_, 1) := by decide +kernel
theorem dX3_copyFrom_0 : decode cX3_copyFrom 0 = .ok (.aload_n 1, 1) := by decide +kernel
theorem dX3_copyFrom_1 : decode cX3_copyFrom 1 = .ok (.getfield 9, 3) := by decide +kernel
theorem dX3_copyFrom_4 : decode cX3_copyFrom 4 = .ok (.iconst 0, 1) := by decide +kernel
theorem dX3_copyFrom_5 : decode cX3_copyFrom 5 = .ok (.aload_n 0, 1) := by decide +kernel
theorem dX3_copyFrom_6 : decode cX3_copyFrom 6 = .ok (.getfield 9, 3) := by decide +kernel
theorem dX3_copyFrom_9 : decode cX3_copyFrom 9 = .ok (.iconst 0, 1) := by decide +kernel
theorem dX3_copyFrom_10 : decode cX3_copyFrom 10 = .ok (.bipush 37, 2) := by decide +kernel
theorem dX3_copyFrom_12 : decode cX3_copyFrom 12 = .ok (.invokestatic 19, 3) := by decide +kernel
theorem dX3_copyFrom_15 : decode cX3_copyFrom 15 = .ok (.aload_n 0, 1) := by decide +kernel
theorem dX3_copyFrom_16 : decode cX3_copyFrom 16 = .ok (.aload_n 1, 1) := by decide +kernel
theorem dX3_copyFrom_17 : decode cX3_copyFrom 17 = .ok (.getfield 15, 3) := by decide +kernel
theorem dX3_copyFrom_20 : decode cX3_copyFrom 20 = .ok (.putfield 15, 3) := by decide +kernel
theorem dX3_copyFrom_23 : decode cX3_copyFrom 23 = .ok (.return_, 1) := by decide +kernel
theorem dX3_open_0 : decode cX3_open 0 = .ok (.aload_n 0, 1) := by decide +kernel
theorem dX3_open_1 : decode cX3_open 1 = .ok (.iconst 0, 1) := by decide +kernel
theorem dX3_open_2 : decode cX3_open 2 = .ok (.putfield 15, 3) := by decide +kernel
theorem dX3_open_5 : decode cX3_open 5 = .ok (.aload_n 0, 1) := by decide +kernel
theorem dX3_open_6 : decode cX3_open 6 = .ok (.iload_n 1, 1) := by decide +kernel
theorem dX3_open_7 : decode cX3_open 7 = .ok (.invokevirtual 25, 3) := by decide +kernel
theorem dX3_open_10 : decode cX3_open 10 = .ok (.aload_n 0, 1) := by decide +kernel
theorem dX3_open_11 : decode cX3_open 11 = .ok (.iload_n 2, 1) := by decide +kernel
theorem dX3_open_12 : decode cX3_open 12 = .ok (.invokevirtual 25, 3) := by decide +kernel
theorem dX3_open_15 : decode cX3_open 15 = .ok (.return_, 1) := by decide +kernel
theorem dX3_putByte_0 : decode cX3_putByte 0 = .ok (.aload_n 0, 1) := by decide +kernel
theorem dX3_putByte_1 : decode cX3_putByte 1 = .ok (.getfield 15, 3) := by decide +kernel
theorem dX3_putByte_4 : decode cX3_putByte 4 = .ok (.bipush 37, 2) := by decide +kernel
theorem dX3_putByte_6 : decode cX3_putByte 6 = .ok (.if_icmp .ge 27, 3) := by decide +kernel
theorem dX3_putByte_9 : decode cX3_putByte 9 = .ok (.aload_n 0, 1) := by decide +kernel
theorem dX3_putByte_10 : decode cX3_putByte 10 = .ok (.getfield 9, 3) := by decide +kernel
theorem dX3_putByte_13 : decode cX3_putByte 13 = .ok (.aload_n 0, 1) := by decide +kernel
theorem dX3_putByte_14 : decode cX3_putByte 14 = .ok (.getfield 15, 3) := by decide +kernel
theorem dX3_putByte_17 : decode cX3_putByte 17 = .ok (.iload_n 1, 1) := by decide +kernel
theorem dX3_putByte_18 : decode cX3_putByte 18 = .ok (.sipush 255, 3) := by decide +kernel
theorem dX3_putByte_21 : decode cX3_putByte 21 = .ok (.iand, 1) := by decide +kernel
theorem dX3_putByte_22 : decode cX3_putByte 22 = .ok (.iastore, 1) := by decide +kernel
theorem dX3_putByte_23 : decode cX3_putByte 23 = .ok (.aload_n 0, 1) := by decide +kernel
theorem dX3_putByte_24 : decode cX3_putByte 24 = .ok (.dup, 1) := by decide +kernel
theorem dX3_putByte_25 : decode cX3_putByte 25 = .ok (.getfield 15, 3) := by decide +kernel
theorem dX3_putByte_28 : decode cX3_putByte 28 = .ok (.iconst 1, 1) := by decide +kernel
theorem dX3_putByte_29 : decode cX3_putByte 29 = .ok (.iadd, 1) := by decide +kernel
theorem dX3_putByte_30 : decode cX3_putByte 30 = .ok (.putfield 15, 3) := by decide +kernel
theorem dX3_putByte_33 : decode cX3_putByte 33 = .ok (.return_, 1) := by decide +kernel
theorem dX3_putWord_0 : decode cX3_putWord 0 = .ok (.aload_n 0, 1) := by decide +kernel
theorem dX3_putWord_1 : decode cX3_putWord 1 = .ok (.iload_n 1, 1) := by decide +kernel
theorem dX3_putWord_2 : decode cX3_putWord 2 = .ok (.bipush 8, 2) := by decide +kernel
theorem dX3_putWord_4 : decode cX3_putWord 4 = .ok (.ishr, 1) := by decide +kernel
theorem dX3_putWord_5 : decode cX3_putWord 5 = .ok (.invokevirtual 25, 3) := by decide +kernel
theorem dX3_putWord_8 : decode cX3_putWord 8 = .ok (.aload_n 0, 1) := by decide +kernel
theorem dX3_putWord_9 : decode cX3_putWord 9 = .ok (.iload_n 1, 1) := by decide +kernel
theorem dX3_putWord_10 : decode cX3_putWord 10 = .ok (.invokevirtual 25, 3) := by decide +kernel
theorem dX3_putWord_13 : decode cX3_putWord 13 = .ok (.return_, 1) := by decide +kernel
theorem dX3_seal_0 : decode cX3_seal 0 = .ok (.aload_n 0, 1) := by decide +kernel
theorem dX3_seal_1 : decode cX3_seal 1 = .ok (.aload_n 0, 1) := by decide +kernel
theorem dX3_seal_2 : decode cX3_seal 2 = .ok (.getfield 15, 3) := by decide +kernel
theorem dX3_seal_5 : decode cX3_seal 5 = .ok (.invokevirtual 29, 3) := by decide +kernel
theorem dX3_seal_8 : decode cX3_seal 8 = .ok (.istore_n 1, 1) := by decide +kernel
theorem dX3_seal_9 : decode cX3_seal 9 = .ok (.aload_n 0, 1) := by decide +kernel
theorem dX3_seal_10 : decode cX3_seal 10 = .ok (.iload_n 1, 1) := by decide +kernel
theorem dX3_seal_11 : decode cX3_seal 11 = .ok (.invokevirtual 25, 3) := by decide +kernel
theorem dX3_seal_14 : decode cX3_seal 14 = .ok (.aload_n 0, 1) := by decide +kernel
theorem dX3_seal_15 : decode cX3_seal 15 = .ok (.iload_n 1, 1) := by decide +kernel
theorem dX3_seal_16 : decode cX3_seal 16 = .ok (.bipush 8, 2) := by decide +kernel
theorem dX3_seal_18 : decode cX3_seal 18 = .ok (.ishr, 1) := by decide +kernel
theorem dX3_seal_19 : decode cX3_seal 19 = .ok (.invokevirtual 25, 3) := by decide +kernel
theorem dX3_seal_22 : decode cX3_seal 22 = .ok (.return_, 1) := by decide +kernel
theorem dX3_sumOf_0 : decode cX3_sumOf 0 = .ok (.ldc 33, 2) := by decide +kernel
theorem dX3_sumOf_2 : decode cX3_sumOf 2 = .ok (.istore_n 2, 1) := by decide +kernel
theorem dX3_sumOf_3 : decode cX3_sumOf 3 = .ok (.iconst 0, 1) := by decide +kernel
theorem dX3_sumOf_4 : decode cX3_sumOf 4 = .ok (.istore_n 3, 1) := by decide +kernel
theorem dX3_sumOf_5 : decode cX3_sumOf 5 = .ok (.iload_n 3, 1) := by decide +kernel
theorem dX3_sumOf_6 : decode cX3_sumOf 6 = .ok (.iload_n 1, 1) := by decide +kernel
theorem dX3_sumOf_7 : decode cX3_sumOf 7 = .ok (.if_icmp .ge 26, 3) := by decide +kernel
theorem dX3_sumOf_10 : decode cX3_sumOf 10 = .ok (.iload_n 3, 1) := by decide +kernel
theorem dX3_sumOf_11 : decode cX3_sumOf 11 = .ok (.bipush 37, 2) := by decide +kernel
theorem dX3_sumOf_13 : decode cX3_sumOf 13 = .ok (.if_icmp .ge 20, 3) := by decide +kernel
theorem dX3_sumOf_16 : decode cX3_sumOf 16 = .ok (.iload_n 2, 1) := by decide +kernel
theorem dX3_sumOf_17 : decode cX3_sumOf 17 = .ok (.aload_n 0, 1) := by decide +kernel
theorem dX3_sumOf_18 : decode cX3_sumOf 18 = .ok (.getfield 9, 3) := by decide +kernel
theorem dX3_sumOf_21 : decode cX3_sumOf 21 = .ok (.iload_n 3, 1) := by decide +kernel
theorem dX3_sumOf_22 : decode cX3_sumOf 22 = .ok (.iaload, 1) := by decide +kernel
theorem dX3_sumOf_23 : decode cX3_sumOf 23 = .ok (.invokestatic 34, 3) := by decide +kernel
theorem dX3_sumOf_26 : decode cX3_sumOf 26 = .ok (.istore_n 2, 1) := by decide +kernel
theorem dX3_sumOf_27 : decode cX3_sumOf 27 = .ok (.iinc 3 1, 3) := by decide +kernel
theorem dX3_sumOf_30 : decode cX3_sumOf 30 = .ok (.goto (-25), 3) := by decide +kernel
theorem dX3_sumOf_33 : decode cX3_sumOf 33 = .ok (.iload_n 2, 1) := by decide +kernel
theorem dX3_sumOf_34 : decode cX3_sumOf 34 = .ok (.ireturn, 1) := by decide +kernel
theorem dX3_invertLowestBit_0 : decode cX3_invertLowestBit 0 = .ok (.aload_n 0, 1) := by decide +kernel
theorem dX3_invertLowestBit_1 : decode cX3_invertLowestBit 1 = .ok (.getfield 15, 3) := by decide +kernel
theorem dX3_invertLowestBit_4 : decode cX3_invertLowestBit 4 = .ok (.ifCond .le 20, 3) := by decide +kernel
theorem dX3_invertLowestBit_7 : decode cX3_invertLowestBit 7 = .ok (.aload_n 0, 1) := by decide +kernel
theorem dX3_invertLowestBit_8 : decode cX3_invertLowestBit 8 = .ok (.getfield 9, 3) := by decide +kernel
theorem dX3_invertLowestBit_11 : decode cX3_invertLowestBit 11 = .ok (.iload_n 1, 1) := by decide +kernel
theorem dX3_invertLowestBit_12 : decode cX3_invertLowestBit 12 = .ok (.aload_n 0, 1) := by decide +kernel
theorem dX3_invertLowestBit_13 : decode cX3_invertLowestBit 13 = .ok (.getfield 15, 3) := by decide +kernel
theorem dX3_invertLowestBit_16 : decode cX3_invertLowestBit 16 = .ok (.invokestatic 38, 3) := by decide +kernel
theorem dX3_invertLowestBit_19 : decode cX3_invertLowestBit 19 = .ok (.dup2, 1) := by decide +kernel
theorem dX3_invertLowestBit_20 : decode cX3_invertLowestBit 20 = .ok (.iaload, 1) := by decide +kernel
theorem dX3_invertLowestBit_21 : decode cX3_invertLowestBit 21 = .ok (.iconst 1, 1) := by decide +kernel
theorem dX3_invertLowestBit_22 : decode cX3_invertLowestBit 22 = .ok (.ixor, 1) := by decide +kernel
theorem dX3_invertLowestBit_23 : decode cX3_invertLowestBit 23 = .ok (.iastore, 1) := by decide +kernel
theorem dX3_invertLowestBit_24 : decode cX3_invertLowestBit 24 = .ok (.return_, 1) := by decide +kernel
theorem dX3_byteAt_0 : decode cX3_byteAt 0 = .ok (.iload_n 1, 1) := by decide +kernel
theorem dX3_byteAt_1 : decode cX3_byteAt 1 = .ok (.ifCond .lt 20, 3) := by decide +kernel
theorem dX3_byteAt_4 : decode cX3_byteAt 4 = .ok (.iload_n 1, 1) := by decide +kernel
theorem dX3_byteAt_5 : decode cX3_byteAt 5 = .ok (.aload_n 0, 1) := by decide +kernel
theorem dX3_byteAt_6 : decode cX3_byteAt 6 = .ok (.getfield 15, 3) := by decide +kernel
theorem dX3_byteAt_9 : decode cX3_byteAt 9 = .ok (.if_icmp .ge 12, 3) := by decide +kernel
theorem dX3_byteAt_12 : decode cX3_byteAt 12 = .ok (.aload_n 0, 1) := by decide +kernel
theorem dX3_byteAt_13 : decode cX3_byteAt 13 = .ok (.getfield 9, 3) := by decide +kernel
theorem dX3_byteAt_16 : decode cX3_byteAt 16 = .ok (.iload_n 1, 1) := by decide +kernel
theorem dX3_byteAt_17 : decode cX3_byteAt 17 = .ok (.iaload, 1) := by decide +kernel
theorem dX3_byteAt_18 : decode cX3_byteAt 18 = .ok (.goto 4, 3) := by decide +kernel
theorem dX3_byteAt_21 : decode cX3_byteAt 21 = .ok (.iconst 0, 1) := by decide +kernel
theorem dX3_byteAt_22 : decode cX3_byteAt 22 = .ok (.ireturn, 1) := by decide +kernel
theorem dX3_wordAt_0 : decode cX3_wordAt 0 = .ok (.iload_n 1, 1) := by decide +kernel
theorem dX3_wordAt_1 : decode cX3_wordAt 1 = .ok (.ifCond .lt 34, 3) := by decide +kernel
theorem dX3_wordAt_4 : decode cX3_wordAt 4 = .ok (.iload_n 1, 1) := by decide +kernel
theorem dX3_wordAt_5 : decode cX3_wordAt 5 = .ok (.aload_n 0, 1) := by decide +kernel
theorem dX3_wordAt_6 : decode cX3_wordAt 6 = .ok (.getfield 15, 3) := by decide +kernel
theorem dX3_wordAt_9 : decode cX3_wordAt 9 = .ok (.iconst 1, 1) := by decide +kernel
theorem dX3_wordAt_10 : decode cX3_wordAt 10 = .ok (.isub, 1) := by decide +kernel
theorem dX3_wordAt_11 : decode cX3_wordAt 11 = .ok (.if_icmp .ge 24, 3) := by decide +kernel
theorem dX3_wordAt_14 : decode cX3_wordAt 14 = .ok (.aload_n 0, 1) := by decide +kernel
theorem dX3_wordAt_15 : decode cX3_wordAt 15 = .ok (.getfield 9, 3) := by decide +kernel
theorem dX3_wordAt_18 : decode cX3_wordAt 18 = .ok (.iload_n 1, 1) := by decide +kernel
theorem dX3_wordAt_19 : decode cX3_wordAt 19 = .ok (.iaload, 1) := by decide +kernel
theorem dX3_wordAt_20 : decode cX3_wordAt 20 = .ok (.bipush 8, 2) := by decide +kernel
theorem dX3_wordAt_22 : decode cX3_wordAt 22 = .ok (.ishl, 1) := by decide +kernel
theorem dX3_wordAt_23 : decode cX3_wordAt 23 = .ok (.aload_n 0, 1) := by decide +kernel
theorem dX3_wordAt_24 : decode cX3_wordAt 24 = .ok (.getfield 9, 3) := by decide +kernel
theorem dX3_wordAt_27 : decode cX3_wordAt 27 = .ok (.iload_n 1, 1) := by decide +kernel
theorem dX3_wordAt_28 : decode cX3_wordAt 28 = .ok (.iconst 1, 1) := by decide +kernel
theorem dX3_wordAt_29 : decode cX3_wordAt 29 = .ok (.iadd, 1) := by decide +kernel
theorem dX3_wordAt_30 : decode cX3_wordAt 30 = .ok (.iaload, 1) := by decide +kernel
theorem dX3_wordAt_31 : decode cX3_wordAt 31 = .ok (.ior, 1) := by decide +kernel
theorem dX3_wordAt_32 : decode cX3_wordAt 32 = .ok (.goto 4, 3) := by decide +kernel
theorem dX3_wordAt_35 : decode cX3_wordAt 35 = .ok (.iconst 0, 1) := by decide +kernel
theorem dX3_wordAt_36 : decode cX3_wordAt 36 = .ok (.ireturn, 1) := by decide +kernel
theorem dX3_startRegister_0 : decode cX3_startRegister 0 = .ok (.aload_n 0, 1) := by decide +kernel
theorem dX3_startRegister_1 : decode cX3_startRegister 1 = .ok (.iconst 2, 1) := by decide +kernel
theorem dX3_startRegister_2 : decode cX3_startRegister 2 = .ok (.invokevirtual 43, 3) := by decide +kernel
theorem dX3_startRegister_5 : decode cX3_startRegister 5 = .ok (.ireturn, 1) := by decide +kernel
theorem dX3_registerCount_0 : decode cX3_registerCount 0 = .ok (.aload_n 0, 1) := by decide +kernel
theorem dX3_registerCount_1 : decode cX3_registerCount 1 = .ok (.iconst 1, 1) := by decide +kernel
theorem dX3_registerCount_2 : decode cX3_registerCount 2 = .ok (.invokevirtual 46, 3) := by decide +kernel
theorem dX3_registerCount_5 : decode cX3_registerCount 5 = .ok (.bipush 6, 2) := by decide +kernel
theorem dX3_registerCount_7 : decode cX3_registerCount 7 = .ok (.if_icmp .ne 7, 3) := by decide +kernel
theorem dX3_registerCount_10 : decode cX3_registerCount 10 = .ok (.iconst 1, 1) := by decide +kernel
theorem dX3_registerCount_11 : decode cX3_registerCount 11 = .ok (.goto 8, 3) := by decide +kernel
theorem dX3_registerCount_14 : decode cX3_registerCount 14 = .ok (.aload_n 0, 1) := by decide +kernel
theorem dX3_registerCount_15 : decode cX3_registerCount 15 = .ok (.iconst 4, 1) := by decide +kernel
theorem dX3_registerCount_16 : decode cX3_registerCount 16 = .ok (.invokevirtual 43, 3) := by decide +kernel
theorem dX3_registerCount_19 : decode cX3_registerCount 19 = .ok (.ireturn, 1) := by decide +kernel
theorem dX3_writtenValue_0 : decode cX3_writtenValue 0 = .ok (.aload_n 0, 1) := by decide +kernel
theorem dX3_writtenValue_1 : decode cX3_writtenValue 1 = .ok (.iconst 1, 1) := by decide +kernel
theorem dX3_writtenValue_2 : decode cX3_writtenValue 2 = .ok (.invokevirtual 46, 3) := by decide +kernel
theorem dX3_writtenValue_5 : decode cX3_writtenValue 5 = .ok (.bipush 6, 2) := by decide +kernel
theorem dX3_writtenValue_7 : decode cX3_writtenValue 7 = .ok (.if_icmp .ne 11, 3) := by decide +kernel
theorem dX3_writtenValue_10 : decode cX3_writtenValue 10 = .ok (.aload_n 0, 1) := by decide +kernel
theorem dX3_writtenValue_11 : decode cX3_writtenValue 11 = .ok (.iconst 4, 1) := by decide +kernel
theorem dX3_writtenValue_12 : decode cX3_writtenValue 12 = .ok (.invokevirtual 43, 3) := by decide +kernel
theorem dX3_writtenValue_15 : decode cX3_writtenValue 15 = .ok (.goto 13, 3) := by decide +kernel
theorem dX3_writtenValue_18 : decode cX3_writtenValue 18 = .ok (.aload_n 0, 1) := by decide +kernel
theorem dX3_writtenValue_19 : decode cX3_writtenValue 19 = .ok (.bipush 7, 2) := by decide +kernel
theorem dX3_writtenValue_21 : decode cX3_writtenValue 21 = .ok (.iconst 2, 1) := by decide +kernel
theorem dX3_writtenValue_22 : decode cX3_writtenValue 22 = .ok (.iload_n 1, 1) := by decide +kernel
theorem dX3_writtenValue_23 : decode cX3_writtenValue 23 = .ok (.imul, 1) := by decide +kernel
theorem dX3_writtenValue_24 : decode cX3_writtenValue 24 = .ok (.iadd, 1) := by decide +kernel
theorem dX3_writtenValue_25 : decode cX3_writtenValue 25 = .ok (.invokevirtual 43, 3) := by decide +kernel
theorem dX3_writtenValue_28 : decode cX3_writtenValue 28 = .ok (.ireturn, 1) := by decide +kernel
theorem dX3_readValue_0 : decode cX3_readValue 0 = .ok (.aload_n 0, 1) := by decide +kernel
theorem dX3_readValue_1 : decode cX3_readValue 1 = .ok (.iconst 3, 1) := by decide +kernel
theorem dX3_readValue_2 : decode cX3_readValue 2 = .ok (.iconst 2, 1) := by decide +kernel
theorem dX3_readValue_3 : decode cX3_readValue 3 = .ok (.iload_n 1, 1) := by decide +kernel
theorem dX3_readValue_4 : decode cX3_readValue 4 = .ok (.imul, 1) := by decide +kernel
theorem dX3_readValue_5 : decode cX3_readValue 5 = .ok (.iadd, 1) := by decide +kernel
theorem dX3_readValue_6 : decode cX3_readValue 6 = .ok (.invokevirtual 43, 3) := by decide +kernel
theorem dX3_readValue_9 : decode cX3_readValue 9 = .ok (.ireturn, 1) := by decide +kernel
theorem dX3_isException_0 : decode cX3_isException 0 = .ok (.aload_n 0, 1) := by decide +kernel
theorem dX3_isException_1 : decode cX3_isException 1 = .ok (.iconst 1, 1) := by decide +kernel
theorem dX3_isException_2 : decode cX3_isException 2 = .ok (.invokevirtual 46, 3) := by decide +kernel
theorem dX3_isException_5 : decode cX3_isException 5 = .ok (.sipush 128, 3) := by decide +kernel
theorem dX3_isException_8 : decode cX3_isException 8 = .ok (.if_icmp .lt 7, 3) := by decide +kernel
theorem dX3_isException_11 : decode cX3_isException 11 = .ok (.iconst 1, 1) := by decide +kernel
theorem dX3_isException_12 : decode cX3_isException 12 = .ok (.goto 4, 3) := by decide +kernel
theorem dX3_isException_15 : decode cX3_isException 15 = .ok (.iconst 0, 1) := by decide +kernel
theorem dX3_isException_16 : decode cX3_isException 16 = .ok (.ireturn, 1) := by decide +kernel
theorem dX3_isReplyTo_0 : decode cX3_isReplyTo 0 = .ok (.aload_n 0, 1) := by decide +kernel
theorem dX3_isReplyTo_1 : decode cX3_isReplyTo 1 = .ok (.iconst 0, 1) := by decide +kernel
theorem dX3_isReplyTo_2 : decode cX3_isReplyTo 2 = .ok (.invokevirtual 46, 3) := by decide +kernel
theorem dX3_isReplyTo_5 : decode cX3_isReplyTo 5 = .ok (.aload_n 1, 1) := by decide +kernel
theorem dX3_isReplyTo_6 : decode cX3_isReplyTo 6 = .ok (.iconst 0, 1) := by decide +kernel
theorem dX3_isReplyTo_7 : decode cX3_isReplyTo 7 = .ok (.invokevirtual 46, 3) := by decide +kernel
theorem dX3_isReplyTo_10 : decode cX3_isReplyTo 10 = .ok (.if_icmp .eq 5, 3) := by decide +kernel
theorem dX3_isReplyTo_13 : decode cX3_isReplyTo 13 = .ok (.iconst 0, 1) := by decide +kernel
theorem dX3_isReplyTo_14 : decode cX3_isReplyTo 14 = .ok (.ireturn, 1) := by decide +kernel
theorem dX3_isReplyTo_15 : decode cX3_isReplyTo 15 = .ok (.aload_n 1, 1) := by decide +kernel
theorem dX3_isReplyTo_16 : decode cX3_isReplyTo 16 = .ok (.iconst 1, 1) := by decide +kernel
theorem dX3_isReplyTo_17 : decode cX3_isReplyTo 17 = .ok (.invokevirtual 46, 3) := by decide +kernel
theorem dX3_isReplyTo_20 : decode cX3_isReplyTo 20 = .ok (.istore_n 2, 1) := by decide +kernel
theorem dX3_isReplyTo_21 : decode cX3_isReplyTo 21 = .ok (.aload_n 0, 1) := by decide +kernel
theorem dX3_isReplyTo_22 : decode cX3_isReplyTo 22 = .ok (.iconst 1, 1) := by decide +kernel
theorem dX3_isReplyTo_23 : decode cX3_isReplyTo 23 = .ok (.invokevirtual 46, 3) := by decide +kernel
theorem dX3_isReplyTo_26 : decode cX3_isReplyTo 26 = .ok (.iload_n 2, 1) := by decide +kernel
theorem dX3_isReplyTo_27 : decode cX3_isReplyTo 27 = .ok (.sipush 128, 3) := by decide +kernel
theorem dX3_isReplyTo_30 : decode cX3_isReplyTo 30 = .ok (.iadd, 1) := by decide +kernel
theorem dX3_isReplyTo_31 : decode cX3_isReplyTo 31 = .ok (.if_icmp .eq 78, 3) := by decide +kernel
theorem dX3_isReplyTo_34 : decode cX3_isReplyTo 34 = .ok (.iload_n 2, 1) := by decide +kernel
theorem dX3_isReplyTo_35 : decode cX3_isReplyTo 35 = .ok (.iconst 3, 1) := by decide +kernel
theorem dX3_isReplyTo_36 : decode cX3_isReplyTo 36 = .ok (.if_icmp .ne 26, 3) := by decide +kernel
theorem dX3_isReplyTo_39 : decode cX3_isReplyTo 39 = .ok (.aload_n 0, 1) := by decide +kernel
theorem dX3_isReplyTo_40 : decode cX3_isReplyTo 40 = .ok (.iconst 2, 1) := by decide +kernel
theorem dX3_isReplyTo_41 : decode cX3_isReplyTo 41 = .ok (.invokevirtual 46, 3) := by decide +kernel
theorem dX3_isReplyTo_44 : decode cX3_isReplyTo 44 = .ok (.iconst 2, 1) := by decide +kernel
theorem dX3_isReplyTo_45 : decode cX3_isReplyTo 45 = .ok (.aload_n 1, 1) := by decide +kernel
theorem dX3_isReplyTo_46 : decode cX3_isReplyTo 46 = .ok (.iconst 4, 1) := by decide +kernel
theorem dX3_isReplyTo_47 : decode cX3_isReplyTo 47 = .ok (.invokevirtual 43, 3) := by decide +kernel
theorem dX3_isReplyTo_50 : decode cX3_isReplyTo 50 = .ok (.imul, 1) := by decide +kernel
theorem dX3_isReplyTo_51 : decode cX3_isReplyTo 51 = .ok (.if_icmp .ne 7, 3) := by decide +kernel
theorem dX3_isReplyTo_54 : decode cX3_isReplyTo 54 = .ok (.iconst 1, 1) := by decide +kernel
theorem dX3_isReplyTo_55 : decode cX3_isReplyTo 55 = .ok (.goto 38, 3) := by decide +kernel
theorem dX3_isReplyTo_58 : decode cX3_isReplyTo 58 = .ok (.iconst 0, 1) := by decide +kernel
theorem dX3_isReplyTo_59 : decode cX3_isReplyTo 59 = .ok (.goto 34, 3) := by decide +kernel
theorem dX3_isReplyTo_62 : decode cX3_isReplyTo 62 = .ok (.aload_n 0, 1) := by decide +kernel
theorem dX3_isReplyTo_63 : decode cX3_isReplyTo 63 = .ok (.iconst 2, 1) := by decide +kernel
theorem dX3_isReplyTo_64 : decode cX3_isReplyTo 64 = .ok (.invokevirtual 43, 3) := by decide +kernel
theorem dX3_isReplyTo_67 : decode cX3_isReplyTo 67 = .ok (.aload_n 1, 1) := by decide +kernel
theorem dX3_isReplyTo_68 : decode cX3_isReplyTo 68 = .ok (.iconst 2, 1) := by decide +kernel
theorem dX3_isReplyTo_69 : decode cX3_isReplyTo 69 = .ok (.invokevirtual 43, 3) := by decide +kernel
theorem dX3_isReplyTo_72 : decode cX3_isReplyTo 72 = .ok (.if_icmp .ne 20, 3) := by decide +kernel
theorem dX3_isReplyTo_75 : decode cX3_isReplyTo 75 = .ok (.aload_n 0, 1) := by decide +kernel
theorem dX3_isReplyTo_76 : decode cX3_isReplyTo 76 = .ok (.iconst 4, 1) := by decide +kernel
theorem dX3_isReplyTo_77 : decode cX3_isReplyTo 77 = .ok (.invokevirtual 43, 3) := by decide +kernel
theorem dX3_isReplyTo_80 : decode cX3_isReplyTo 80 = .ok (.aload_n 1, 1) := by decide +kernel
theorem dX3_isReplyTo_81 : decode cX3_isReplyTo 81 = .ok (.iconst 4, 1) := by decide +kernel
theorem dX3_isReplyTo_82 : decode cX3_isReplyTo 82 = .ok (.invokevirtual 43, 3) := by decide +kernel
theorem dX3_isReplyTo_85 : decode cX3_isReplyTo 85 = .ok (.if_icmp .ne 7, 3) := by decide +kernel
theorem dX3_isReplyTo_88 : decode cX3_isReplyTo 88 = .ok (.iconst 1, 1) := by decide +kernel
theorem dX3_isReplyTo_89 : decode cX3_isReplyTo 89 = .ok (.goto 4, 3) := by decide +kernel
theorem dX3_isReplyTo_92 : decode cX3_isReplyTo 92 = .ok (.iconst 0, 1) := by decide +kernel
theorem dX3_isReplyTo_93 : decode cX3_isReplyTo 93 = .ok (.istore_n 3, 1) := by decide +kernel
theorem dX3_isReplyTo_94 : decode cX3_isReplyTo 94 = .ok (.aload_n 0, 1) := by decide +kernel
theorem dX3_isReplyTo_95 : decode cX3_isReplyTo 95 = .ok (.iconst 1, 1) := by decide +kernel
theorem dX3_isReplyTo_96 : decode cX3_isReplyTo 96 = .ok (.invokevirtual 46, 3) := by decide +kernel
theorem dX3_isReplyTo_99 : decode cX3_isReplyTo 99 = .ok (.iload_n 2, 1) := by decide +kernel
theorem dX3_isReplyTo_100 : decode cX3_isReplyTo 100 = .ok (.if_icmp .ne 7, 3) := by decide +kernel
theorem dX3_isReplyTo_103 : decode cX3_isReplyTo 103 = .ok (.iload_n 3, 1) := by decide +kernel
theorem dX3_isReplyTo_104 : decode cX3_isReplyTo 104 = .ok (.ifCond .ne 5, 3) := by decide +kernel
theorem dX3_isReplyTo_107 : decode cX3_isReplyTo 107 = .ok (.iconst 0, 1) := by decide +kernel
theorem dX3_isReplyTo_108 : decode cX3_isReplyTo 108 = .ok (.ireturn, 1) := by decide +kernel
theorem dX3_isReplyTo_109 : decode cX3_isReplyTo 109 = .ok (.aload_n 0, 1) := by decide +kernel
theorem dX3_isReplyTo_110 : decode cX3_isReplyTo 110 = .ok (.getfield 15, 3) := by decide +kernel
theorem dX3_isReplyTo_113 : decode cX3_isReplyTo 113 = .ok (.iconst 2, 1) := by decide +kernel
theorem dX3_isReplyTo_114 : decode cX3_isReplyTo 114 = .ok (.isub, 1) := by decide +kernel
theorem dX3_isReplyTo_115 : decode cX3_isReplyTo 115 = .ok (.istore_n 3, 1) := by decide +kernel
theorem dX3_isReplyTo_116 : decode cX3_isReplyTo 116 = .ok (.aload_n 0, 1) := by decide +kernel
theorem dX3_isReplyTo_117 : decode cX3_isReplyTo 117 = .ok (.iload_n 3, 1) := by decide +kernel
theorem dX3_isReplyTo_118 : decode cX3_isReplyTo 118 = .ok (.invokevirtual 29, 3) := by decide +kernel
theorem dX3_isReplyTo_121 : decode cX3_isReplyTo 121 = .ok (.aload_n 0, 1) := by decide +kernel
theorem dX3_isReplyTo_122 : decode cX3_isReplyTo 122 = .ok (.iload_n 3, 1) := by decide +kernel
theorem dX3_isReplyTo_123 : decode cX3_isReplyTo 123 = .ok (.invokevirtual 46, 3) := by decide +kernel
theorem dX3_isReplyTo_126 : decode cX3_isReplyTo 126 = .ok (.aload_n 0, 1) := by decide +kernel
theorem dX3_isReplyTo_127 : decode cX3_isReplyTo 127 = .ok (.iload_n 3, 1) := by decide +kernel
theorem dX3_isReplyTo_128 : decode cX3_isReplyTo 128 = .ok (.iconst 1, 1) := by decide +kernel
theorem dX3_isReplyTo_129 : decode cX3_isReplyTo 129 = .ok (.iadd, 1) := by decide +kernel
theorem dX3_isReplyTo_130 : decode cX3_isReplyTo 130 = .ok (.invokevirtual 46, 3) := by decide +kernel
theorem dX3_isReplyTo_133 : decode cX3_isReplyTo 133 = .ok (.bipush 8, 2) := by decide +kernel
theorem dX3_isReplyTo_135 : decode cX3_isReplyTo 135 = .ok (.ishl, 1) := by decide +kernel
theorem dX3_isReplyTo_136 : decode cX3_isReplyTo 136 = .ok (.ior, 1) := by decide +kernel
theorem dX3_isReplyTo_137 : decode cX3_isReplyTo 137 = .ok (.if_icmp .ne 7, 3) := by decide +kernel
theorem dX3_isReplyTo_140 : decode cX3_isReplyTo 140 = .ok (.iconst 1, 1) := by decide +kernel
theorem dX3_isReplyTo_141 : decode cX3_isReplyTo 141 = .ok (.goto 4, 3) := by decide +kernel
theorem dX3_isReplyTo_144 : decode cX3_isReplyTo 144 = .ok (.iconst 0, 1) := by decide +kernel
theorem dX3_isReplyTo_145 : decode cX3_isReplyTo 145 = .ok (.ireturn, 1) := by decide +kernel
theorem dX4_init_0 : decode cX4_init 0 = .ok (.aload_n 0, 1) := by decide +kernel
theorem dX4_init_1 : decode cX4_init 1 = .ok (.invokespecial 1, 3) := by decide +kernel
theorem dX4_init_4 : decode cX4_init 4 = .ok (.aload_n 0, 1) := by decide +kernel
theorem dX4_init_5 : decode cX4_init 5 = .ok (.new 7, 3) := by decide +kernel
theorem dX4_init_8 : decode cX4_init 8 = .ok (.dup, 1) := by decide +kernel
theorem dX4_init_9 : decode cX4_init 9 = .ok (.invokespecial 9, 3) := by decide +kernel
theorem dX4_init_12 : decode cX4_init 12 = .ok (.putfield 10, 3) := by decide +kernel
theorem dX4_init_15 : decode cX4_init 15 = .ok (.aload_n 0, 1) := by decide +kernel
theorem dX4_init_16 : decode cX4_init 16 = .ok (.new 7, 3) := by decide +kernel
theorem dX4_init_19 : decode cX4_init 19 = .ok (.dup, 1) := by decide +kernel
theorem dX4_init_20 : decode cX4_init 20 = .ok (.invokespecial 9, 3) := by decide +kernel
theorem dX4_init_23 : decode cX4_init 23 = .ok (.putfield 16, 3) := by decide +kernel
theorem dX4_init_26 : decode cX4_init 26 = .ok (.return_, 1) := by decide +kernel
theorem dX4_copyFrom_0 : decode cX4_copyFrom 0 = .ok (.aload_n 0, 1) := by decide +kernel
theorem dX4_copyFrom_1 : decode cX4_copyFrom 1 = .ok (.getfield 10, 3) := by decide +kernel
theorem dX4_copyFrom_4 : decode cX4_copyFrom 4 = .ok (.invokevirtual 19, 3) := by decide +kernel
theorem dX4_copyFrom_7 : decode cX4_copyFrom 7 = .ok (.iconst 1, 1) := by decide +kernel
theorem dX4_copyFrom_8 : decode cX4_copyFrom 8 = .ok (.isub, 1) := by decide +kernel
theorem dX4_copyFrom_9 : decode cX4_copyFrom 9 = .ok (.istore_n 2, 1) := by decide +kernel
theorem dX4_copyFrom_10 : decode cX4_copyFrom 10 = .ok (.iload_n 2, 1) := by decide +kernel
theorem dX4_copyFrom_11 : decode cX4_copyFrom 11 = .ok (.ifCond .lt 24, 3) := by decide +kernel
theorem dX4_copyFrom_14 : decode cX4_copyFrom 14 = .ok (.aload_n 0, 1) := by decide +kernel
theorem dX4_copyFrom_15 : decode cX4_copyFrom 15 = .ok (.aload_n 0, 1) := by decide +kernel
theorem dX4_copyFrom_16 : decode cX4_copyFrom 16 = .ok (.getfield 10, 3) := by decide +kernel
theorem dX4_copyFrom_19 : decode cX4_copyFrom 19 = .ok (.iload_n 2, 1) := by decide +kernel
theorem dX4_copyFrom_20 : decode cX4_copyFrom 20 = .ok (.invokevirtual 23, 3) := by decide +kernel
theorem dX4_copyFrom_23 : decode cX4_copyFrom 23 = .ok (.checkcast 27, 3) := by decide +kernel
theorem dX4_copyFrom_26 : decode cX4_copyFrom 26 = .ok (.invokevirtual 29, 3) := by decide +kernel
theorem dX4_copyFrom_29 : decode cX4_copyFrom 29 = .ok (.iinc 2 (-1), 3) := by decide +kernel
theorem dX4_copyFrom_32 : decode cX4_copyFrom 32 = .ok (.goto (-22), 3) := by decide +kernel
theorem dX4_copyFrom_35 : decode cX4_copyFrom 35 = .ok (.iconst 0, 1) := by decide +kernel
theorem dX4_copyFrom_36 : decode cX4_copyFrom 36 = .ok (.istore_n 2, 1) := by decide +kernel
theorem dX4_copyFrom_37 : decode cX4_copyFrom 37 = .ok (.iload_n 2, 1) := by decide +kernel
theorem dX4_copyFrom_38 : decode cX4_copyFrom 38 = .ok (.aload_n 1, 1) := by decide +kernel
theorem dX4_copyFrom_39 : decode cX4_copyFrom 39 = .ok (.getfield 10, 3) := by decide +kernel
theorem dX4_copyFrom_42 : decode cX4_copyFrom 42 = .ok (.invokevirtual 19, 3) := by decide +kernel
theorem dX4_copyFrom_45 : decode cX4_copyFrom 45 = .ok (.if_icmp .ge 38, 3) := by decide +kernel
theorem dX4_copyFrom_48 : decode cX4_copyFrom 48 = .ok (.aload_n 0, 1) := by decide +kernel
theorem dX4_copyFrom_49 : decode cX4_copyFrom 49 = .ok (.invokevirtual 33, 3) := by decide +kernel
theorem dX4_copyFrom_52 : decode cX4_copyFrom 52 = .ok (.astore_n 3, 1) := by decide +kernel
theorem dX4_copyFrom_53 : decode cX4_copyFrom 53 = .ok (.aload_n 3, 1) := by decide +kernel
theorem dX4_copyFrom_54 : decode cX4_copyFrom 54 = .ok (.aload_n 1, 1) := by decide +kernel
theorem dX4_copyFrom_55 : decode cX4_copyFrom 55 = .ok (.getfield 10, 3) := by decide +kernel
theorem dX4_copyFrom_58 : decode cX4_copyFrom 58 = .ok (.iload_n 2, 1) := by decide +kernel
theorem dX4_copyFrom_59 : decode cX4_copyFrom 59 = .ok (.invokevirtual 37, 3) := by decide +kernel
theorem dX4_copyFrom_62 : decode cX4_copyFrom 62 = .ok (.checkcast 27, 3) := by decide +kernel
theorem dX4_copyFrom_65 : decode cX4_copyFrom 65 = .ok (.invokevirtual 40, 3) := by decide +kernel
theorem dX4_copyFrom_68 : decode cX4_copyFrom 68 = .ok (.aload_n 0, 1) := by decide +kernel
theorem dX4_copyFrom_69 : decode cX4_copyFrom 69 = .ok (.getfield 10, 3) := by decide +kernel
theorem dX4_copyFrom_72 : decode cX4_copyFrom 72 = .ok (.aload_n 3, 1) := by decide +kernel
theorem dX4_copyFrom_73 : decode cX4_copyFrom 73 = .ok (.invokevirtual 43, 3) := by decide +kernel
theorem dX4_copyFrom_76 : decode cX4_copyFrom 76 = .ok (.pop, 1) := by decide +kernel
theorem dX4_copyFrom_77 : decode cX4_copyFrom 77 = .ok (.iinc 2 1, 3) := by decide +kernel
theorem dX4_copyFrom_80 : decode cX4_copyFrom 80 = .ok (.goto (-43), 3) := by decide +kernel
theorem dX4_copyFrom_83 : decode cX4_copyFrom 83 = .ok (.return_, 1) := by decide +kernel
theorem dX4_recycle_0 : decode cX4_recycle 0 = .ok (.aload_n 0, 1) := by decide +kernel
theorem dX4_recycle_1 : decode cX4_recycle 1 = .ok (.getfield 16, 3) := by decide +kernel
theorem dX4_recycle_4 : decode cX4_recycle 4 = .ok (.aload_n 1, 1) := by decide +kernel
theorem dX4_recycle_5 : decode cX4_recycle 5 = .ok (.invokevirtual 43, 3) := by decide +kernel
theorem dX4_recycle_8 : decode cX4_recycle 8 = .ok (.pop, 1) := by decide +kernel
theorem dX4_recycle_9 : decode cX4_recycle 9 = .ok (.return_, 1) := by decide +kernel
theorem dX4_freeReply_0 : decode cX4_freeReply 0 = .ok (.aload_n 0, 1) := by decide +kernel
theorem dX4_freeReply_1 : decode cX4_freeReply 1 = .ok (.getfield 16, 3) := by decide +kernel
theorem dX4_freeReply_4 : decode cX4_freeReply 4 = .ok (.invokevirtual 47, 3) := by decide +kernel
theorem dX4_freeReply_7 : decode cX4_freeReply 7 = .ok (.ifCond .eq 13, 3) := by decide +kernel
theorem dX4_freeReply_10 : decode cX4_freeReply 10 = .ok (.new 27, 3) := by decide +kernel
theorem dX4_freeReply_13 : decode cX4_freeReply 13 = .ok (.dup, 1) := by decide +kernel
theorem dX4_freeReply_14 : decode cX4_freeReply 14 = .ok (.invokespecial 51, 3) := by decide +kernel
theorem dX4_freeReply_17 : decode cX4_freeReply 17 = .ok (.goto 22, 3) := by decide +kernel
theorem dX4_freeReply_20 : decode cX4_freeReply 20 = .ok (.aload_n 0, 1) := by decide +kernel
theorem dX4_freeReply_21 : decode cX4_freeReply 21 = .ok (.getfield 16, 3) := by decide +kernel
theorem dX4_freeReply_24 : decode cX4_freeReply 24 = .ok (.aload_n 0, 1) := by decide +kernel
theorem dX4_freeReply_25 : decode cX4_freeReply 25 = .ok (.getfield 16, 3) := by decide +kernel
theorem dX4_freeReply_28 : decode cX4_freeReply 28 = .ok (.invokevirtual 19, 3) := by decide +kernel
theorem dX4_freeReply_31 : decode cX4_freeReply 31 = .ok (.iconst 1, 1) := by decide +kernel
theorem dX4_freeReply_32 : decode cX4_freeReply 32 = .ok (.isub, 1) := by decide +kernel
theorem dX4_freeReply_33 : decode cX4_freeReply 33 = .ok (.invokevirtual 23, 3) := by decide +kernel
theorem dX4_freeReply_36 : decode cX4_freeReply 36 = .ok (.checkcast 27, 3) := by decide +kernel
theorem dX4_freeReply_39 : decode cX4_freeReply 39 = .ok (.areturn, 1) := by decide +kernel
theorem dX4_dropBefore_0 : decode cX4_dropBefore 0 = .ok (.aload_n 0, 1) := by decide +kernel
theorem dX4_dropBefore_1 : decode cX4_dropBefore 1 = .ok (.getfield 10, 3) := by decide +kernel
theorem dX4_dropBefore_4 : decode cX4_dropBefore 4 = .ok (.invokevirtual 19, 3) := by decide +kernel
theorem dX4_dropBefore_7 : decode cX4_dropBefore 7 = .ok (.iconst 1, 1) := by decide +kernel
theorem dX4_dropBefore_8 : decode cX4_dropBefore 8 = .ok (.isub, 1) := by decide +kernel
theorem dX4_dropBefore_9 : decode cX4_dropBefore 9 = .ok (.istore_n 2, 1) := by decide +kernel
theorem dX4_dropBefore_10 : decode cX4_dropBefore 10 = .ok (.iload_n 2, 1) := by decide +kernel
theorem dX4_dropBefore_11 : decode cX4_dropBefore 11 = .ok (.ifCond .lt 42, 3) := by decide +kernel
theorem dX4_dropBefore_14 : decode cX4_dropBefore 14 = .ok (.aload_n 0, 1) := by decide +kernel
theorem dX4_dropBefore_15 : decode cX4_dropBefore 15 = .ok (.getfield 10, 3) := by decide +kernel
theorem dX4_dropBefore_18 : decode cX4_dropBefore 18 = .ok (.iload_n 2, 1) := by decide +kernel
theorem dX4_dropBefore_19 : decode cX4_dropBefore 19 = .ok (.invokevirtual 37, 3) := by decide +kernel
theorem dX4_dropBefore_22 : decode cX4_dropBefore 22 = .ok (.checkcast 27, 3) := by decide +kernel
theorem dX4_dropBefore_25 : decode cX4_dropBefore 25 = .ok (.getfield 52, 3) := by decide +kernel
theorem dX4_dropBefore_28 : decode cX4_dropBefore 28 = .ok (.iload_n 1, 1) := by decide +kernel
theorem dX4_dropBefore_29 : decode cX4_dropBefore 29 = .ok (.if_icmp .ge 18, 3) := by decide +kernel
theorem dX4_dropBefore_32 : decode cX4_dropBefore 32 = .ok (.aload_n 0, 1) := by decide +kernel
theorem dX4_dropBefore_33 : decode cX4_dropBefore 33 = .ok (.aload_n 0, 1) := by decide +kernel
theorem dX4_dropBefore_34 : decode cX4_dropBefore 34 = .ok (.getfield 10, 3) := by decide +kernel
theorem dX4_dropBefore_37 : decode cX4_dropBefore 37 = .ok (.iload_n 2, 1) := by decide +kernel
theorem dX4_dropBefore_38 : decode cX4_dropBefore 38 = .ok (.invokevirtual 23, 3) := by decide +kernel
theorem dX4_dropBefore_41 : decode cX4_dropBefore 41 = .ok (.checkcast 27, 3) := by decide +kernel
theorem dX4_dropBefore_44 : decode cX4_dropBefore 44 = .ok (.invokevirtual 29, 3) := by decide +kernel
theorem dX4_dropBefore_47 : decode cX4_dropBefore 47 = .ok (.iinc 2 (-1), 3) := by decide +kernel
theorem dX4_dropBefore_50 : decode cX4_dropBefore 50 = .ok (.goto (-40), 3) := by decide +kernel
theorem dX4_dropBefore_53 : decode cX4_dropBefore 53 = .ok (.return_, 1) := by decide +kernel
theorem dX4_take_0 : decode cX4_take 0 = .ok (.aload_n 0, 1) := by decide +kernel
theorem dX4_take_1 : decode cX4_take 1 = .ok (.getfield 10, 3) := by decide +kernel
theorem dX4_take_4 : decode cX4_take 4 = .ok (.invokevirtual 19, 3) := by decide +kernel
theorem dX4_take_7 : decode cX4_take 7 = .ok (.istore_n 3, 1) := by decide +kernel
theorem dX4_take_8 : decode cX4_take 8 = .ok (.iconst 0, 1) := by decide +kernel
theorem dX4_take_9 : decode cX4_take 9 = .ok (.istore 4, 2) := by decide +kernel
theorem dX4_take_11 : decode cX4_take 11 = .ok (.iload 4, 2) := by decide +kernel
theorem dX4_take_13 : decode cX4_take 13 = .ok (.iload_n 3, 1) := by decide +kernel
theorem dX4_take_14 : decode cX4_take 14 = .ok (.if_icmp .ge 58, 3) := by decide +kernel
theorem dX4_take_17 : decode cX4_take 17 = .ok (.aload_n 0, 1) := by decide +kernel
theorem dX4_take_18 : decode cX4_take 18 = .ok (.iload_n 2, 1) := by decide +kernel
theorem dX4_take_19 : decode cX4_take 19 = .ok (.invokevirtual 56, 3) := by decide +kernel
theorem dX4_take_22 : decode cX4_take 22 = .ok (.istore 5, 2) := by decide +kernel
theorem dX4_take_24 : decode cX4_take 24 = .ok (.iload 5, 2) := by decide +kernel
theorem dX4_take_26 : decode cX4_take 26 = .ok (.ifCond .ge 5, 3) := by decide +kernel
theorem dX4_take_29 : decode cX4_take 29 = .ok (.aconst_null, 1) := by decide +kernel
theorem dX4_take_30 : decode cX4_take 30 = .ok (.areturn, 1) := by decide +kernel
theorem dX4_take_31 : decode cX4_take 31 = .ok (.aload_n 0, 1) := by decide +kernel
theorem dX4_take_32 : decode cX4_take 32 = .ok (.getfield 10, 3) := by decide +kernel
theorem dX4_take_35 : decode cX4_take 35 = .ok (.iload 5, 2) := by decide +kernel
theorem dX4_take_37 : decode cX4_take 37 = .ok (.invokevirtual 23, 3) := by decide +kernel
theorem dX4_take_40 : decode cX4_take 40 = .ok (.checkcast 27, 3) := by decide +kernel
theorem dX4_take_43 : decode cX4_take 43 = .ok (.astore 6, 2) := by decide +kernel
theorem dX4_take_45 : decode cX4_take 45 = .ok (.aload 6, 2) := by decide +kernel
theorem dX4_take_47 : decode cX4_take 47 = .ok (.getfield 60, 3) := by decide +kernel
theorem dX4_take_50 : decode cX4_take 50 = .ok (.aload_n 1, 1) := by decide +kernel
theorem dX4_take_51 : decode cX4_take 51 = .ok (.invokevirtual 64, 3) := by decide +kernel
theorem dX4_take_54 : decode cX4_take 54 = .ok (.ifCond .eq 6, 3) := by decide +kernel
theorem dX4_take_57 : decode cX4_take 57 = .ok (.aload 6, 2) := by decide +kernel
theorem dX4_take_59 : decode cX4_take 59 = .ok (.areturn, 1) := by decide +kernel
theorem dX4_take_60 : decode cX4_take 60 = .ok (.aload_n 0, 1) := by decide +kernel
theorem dX4_take_61 : decode cX4_take 61 = .ok (.aload 6, 2) := by decide +kernel
theorem dX4_take_63 : decode cX4_take 63 = .ok (.invokevirtual 29, 3) := by decide +kernel
theorem dX4_take_66 : decode cX4_take 66 = .ok (.iinc 4 1, 3) := by decide +kernel
theorem dX4_take_69 : decode cX4_take 69 = .ok (.goto (-58), 3) := by decide +kernel
theorem dX4_take_72 : decode cX4_take 72 = .ok (.aconst_null, 1) := by decide +kernel
theorem dX4_take_73 : decode cX4_take 73 = .ok (.areturn, 1) := by decide +kernel
theorem dX4_earliest_0 : decode cX4_earliest 0 = .ok (.iconst (-1), 1) := by decide +kernel
theorem dX4_earliest_1 : decode cX4_earliest 1 = .ok (.istore_n 2, 1) := by decide +kernel
theorem dX4_earliest_2 : decode cX4_earliest 2 = .ok (.iload_n 1, 1) := by decide +kernel
theorem dX4_earliest_3 : decode cX4_earliest 3 = .ok (.iconst 1, 1) := by decide +kernel
theorem dX4_earliest_4 : decode cX4_earliest 4 = .ok (.iadd, 1) := by decide +kernel
theorem dX4_earliest_5 : decode cX4_earliest 5 = .ok (.istore_n 3, 1) := by decide +kernel
theorem dX4_earliest_6 : decode cX4_earliest 6 = .ok (.iconst 0, 1) := by decide +kernel
theorem dX4_earliest_7 : decode cX4_earliest 7 = .ok (.istore 4, 2) := by decide +kernel
theorem dX4_earliest_9 : decode cX4_earliest 9 = .ok (.iload 4, 2) := by decide +kernel
theorem dX4_earliest_11 : decode cX4_earliest 11 = .ok (.aload_n 0, 1) := by decide +kernel
theorem dX4_earliest_12 : decode cX4_earliest 12 = .ok (.getfield 10, 3) := by decide +kernel
theorem dX4_earliest_15 : decode cX4_earliest 15 = .ok (.invokevirtual 19, 3) := by decide +kernel
theorem dX4_earliest_18 : decode cX4_earliest 18 = .ok (.if_icmp .ge 47, 3) := by decide +kernel
theorem dX4_earliest_21 : decode cX4_earliest 21 = .ok (.aload_n 0, 1) := by decide +kernel
theorem dX4_earliest_22 : decode cX4_earliest 22 = .ok (.getfield 10, 3) := by decide +kernel
theorem dX4_earliest_25 : decode cX4_earliest 25 = .ok (.iload 4, 2) := by decide +kernel
theorem dX4_earliest_27 : decode cX4_earliest 27 = .ok (.invokevirtual 37, 3) := by decide +kernel
theorem dX4_earliest_30 : decode cX4_earliest 30 = .ok (.checkcast 27, 3) := by decide +kernel
theorem dX4_earliest_33 : decode cX4_earliest 33 = .ok (.getfield 52, 3) := by decide +kernel
theorem dX4_earliest_36 : decode cX4_earliest 36 = .ok (.iload_n 3, 1) := by decide +kernel
theorem dX4_earliest_37 : decode cX4_earliest 37 = .ok (.if_icmp .ge 22, 3) := by decide +kernel
theorem dX4_earliest_40 : decode cX4_earliest 40 = .ok (.iload 4, 2) := by decide +kernel
theorem dX4_earliest_42 : decode cX4_earliest 42 = .ok (.istore_n 2, 1) := by decide +kernel
theorem dX4_earliest_43 : decode cX4_earliest 43 = .ok (.aload_n 0, 1) := by decide +kernel
theorem dX4_earliest_44 : decode cX4_earliest 44 = .ok (.getfield 10, 3) := by decide +kernel
theorem dX4_earliest_47 : decode cX4_earliest 47 = .ok (.iload 4, 2) := by decide +kernel
theorem dX4_earliest_49 : decode cX4_earliest 49 = .ok (.invokevirtual 37, 3) := by decide +kernel
theorem dX4_earliest_52 : decode cX4_earliest 52 = .ok (.checkcast 27, 3) := by decide +kernel
theorem dX4_earliest_55 : decode cX4_earliest 55 = .ok (.getfield 52, 3) := by decide +kernel
theorem dX4_earliest_58 : decode cX4_earliest 58 = .ok (.istore_n 3, 1) := by decide +kernel
theorem dX4_earliest_59 : decode cX4_earliest 59 = .ok (.iinc 4 1, 3) := by decide +kernel
theorem dX4_earliest_62 : decode cX4_earliest 62 = .ok (.goto (-53), 3) := by decide +kernel
theorem dX4_earliest_65 : decode cX4_earliest 65 = .ok (.iload_n 2, 1) := by decide +kernel
theorem dX4_earliest_66 : decode cX4_earliest 66 = .ok (.ireturn, 1) := by decide +kernel
theorem dX5_init_0 : decode cX5_init 0 = .ok (.aload_n 0, 1) := by decide +kernel
theorem dX5_init_1 : decode cX5_init 1 = .ok (.invokespecial 3, 3) := by decide +kernel
theorem dX5_init_4 : decode cX5_init 4 = .ok (.aload_n 0, 1) := by decide +kernel
theorem dX5_init_5 : decode cX5_init 5 = .ok (.bipush 10, 2) := by decide +kernel
theorem dX5_init_7 : decode cX5_init 7 = .ok (.newarray .int, 2) := by decide +kernel
theorem dX5_init_9 : decode cX5_init 9 = .ok (.putfield 9, 3) := by decide +kernel
theorem dX5_init_12 : decode cX5_init 12 = .ok (.aload_n 0, 1) := by decide +kernel
theorem dX5_init_13 : decode cX5_init 13 = .ok (.bipush 10, 2) := by decide +kernel
theorem dX5_init_15 : decode cX5_init 15 = .ok (.newarray .int, 2) := by decide +kernel
theorem dX5_init_17 : decode cX5_init 17 = .ok (.putfield 15, 3) := by decide +kernel
theorem dX5_init_20 : decode cX5_init 20 = .ok (.aload_n 0, 1) := by decide +kernel
theorem dX5_init_21 : decode cX5_init 21 = .ok (.iconst 0, 1) := by decide +kernel
theorem dX5_init_22 : decode cX5_init 22 = .ok (.putfield 18, 3) := by decide +kernel
theorem dX5_init_25 : decode cX5_init 25 = .ok (.aload_n 0, 1) := by decide +kernel
theorem dX5_init_26 : decode cX5_init 26 = .ok (.iconst 0, 1) := by decide +kernel
theorem dX5_init_27 : decode cX5_init 27 = .ok (.putfield 22, 3) := by decide +kernel
theorem dX5_init_30 : decode cX5_init 30 = .ok (.aload_n 0, 1) := by decide +kernel
theorem dX5_init_31 : decode cX5_init 31 = .ok (.ldc 25, 2) := by decide +kernel
theorem dX5_init_33 : decode cX5_init 33 = .ok (.putfield 26, 3) := by decide +kernel
theorem dX5_init_36 : decode cX5_init 36 = .ok (.aload_n 0, 1) := by decide +kernel
theorem dX5_init_37 : decode cX5_init 37 = .ok (.iconst 0, 1) := by decide +kernel
theorem dX5_init_38 : decode cX5_init 38 = .ok (.putfield 29, 3) := by decide +kernel
theorem dX5_init_41 : decode cX5_init 41 = .ok (.return_, 1) := by decide +kernel
theorem dX5_hear_0 : decode cX5_hear 0 = .ok (.iload_n 2, 1) := by decide +kernel
theorem dX5_hear_1 : decode cX5_hear 1 = .ok (.iconst 4, 1) := by decide +kernel
theorem dX5_hear_2 : decode cX5_hear 2 = .ok (.if_icmp .lt 10, 3) := by decide +kernel
theorem dX5_hear_5 : decode cX5_hear 5 = .ok (.aload_n 0, 1) := by decide +kernel
theorem dX5_hear_6 : decode cX5_hear 6 = .ok (.invokevirtual 33, 3) := by decide +kernel
theorem dX5_hear_9 : decode cX5_hear 9 = .ok (.goto 20, 3) := by decide +kernel
theorem dX5_hear_12 : decode cX5_hear 12 = .ok (.iload_n 2, 1) := by decide +kernel
theorem dX5_hear_13 : decode cX5_hear 13 = .ok (.iconst 2, 1) := by decide +kernel
theorem dX5_hear_14 : decode cX5_hear 14 = .ok (.if_icmp .lt 15, 3) := by decide +kernel
theorem dX5_hear_17 : decode cX5_hear 17 = .ok (.aload_n 0, 1) := by decide +kernel
theorem dX5_hear_18 : decode cX5_hear 18 = .ok (.getfield 22, 3) := by decide +kernel
theorem dX5_hear_21 : decode cX5_hear 21 = .ok (.ifCond .le 8, 3) := by decide +kernel
theorem dX5_hear_24 : decode cX5_hear 24 = .ok (.aload_n 0, 1) := by decide +kernel
theorem dX5_hear_25 : decode cX5_hear 25 = .ok (.iconst 1, 1) := by decide +kernel
theorem dX5_hear_26 : decode cX5_hear 26 = .ok (.putfield 29, 3) := by decide +kernel
theorem dX5_hear_29 : decode cX5_hear 29 = .ok (.aload_n 0, 1) := by decide +kernel
theorem dX5_hear_30 : decode cX5_hear 30 = .ok (.aload_n 0, 1) := by decide +kernel
theorem dX5_hear_31 : decode cX5_hear 31 = .ok (.getfield 26, 3) := by decide +kernel
theorem dX5_hear_34 : decode cX5_hear 34 = .ok (.iload_n 1, 1) := by decide +kernel
theorem dX5_hear_35 : decode cX5_hear 35 = .ok (.invokestatic 36, 3) := by decide +kernel
theorem dX5_hear_38 : decode cX5_hear 38 = .ok (.putfield 26, 3) := by decide +kernel
theorem dX5_hear_41 : decode cX5_hear 41 = .ok (.aload_n 0, 1) := by decide +kernel
theorem dX5_hear_42 : decode cX5_hear 42 = .ok (.dup, 1) := by decide +kernel
theorem dX5_hear_43 : decode cX5_hear 43 = .ok (.getfield 22, 3) := by decide +kernel
theorem dX5_hear_46 : decode cX5_hear 46 = .ok (.iconst 1, 1) := by decide +kernel
theorem dX5_hear_47 : decode cX5_hear 47 = .ok (.iadd, 1) := by decide +kernel
theorem dX5_hear_48 : decode cX5_hear 48 = .ok (.putfield 22, 3) := by decide +kernel
theorem dX5_hear_51 : decode cX5_hear 51 = .ok (.return_, 1) := by decide +kernel
theorem dX5_close_0 : decode cX5_close 0 = .ok (.aload_n 0, 1) := by decide +kernel
theorem dX5_close_1 : decode cX5_close 1 = .ok (.getfield 22, 3) := by decide +kernel
theorem dX5_close_4 : decode cX5_close 4 = .ok (.ifCond .ne 4, 3) := by decide +kernel
theorem dX5_close_7 : decode cX5_close 7 = .ok (.return_, 1) := by decide +kernel
theorem dX5_close_8 : decode cX5_close 8 = .ok (.aload_n 0, 1) := by decide +kernel
theorem dX5_close_9 : decode cX5_close 9 = .ok (.getfield 18, 3) := by decide +kernel
theorem dX5_close_12 : decode cX5_close 12 = .ok (.bipush 10, 2) := by decide +kernel
theorem dX5_close_14 : decode cX5_close 14 = .ok (.invokestatic 40, 3) := by decide +kernel
theorem dX5_close_17 : decode cX5_close 17 = .ok (.istore_n 1, 1) := by decide +kernel
theorem dX5_close_18 : decode cX5_close 18 = .ok (.aload_n 0, 1) := by decide +kernel
theorem dX5_close_19 : decode cX5_close 19 = .ok (.getfield 9, 3) := by decide +kernel
theorem dX5_close_22 : decode cX5_close 22 = .ok (.iload_n 1, 1) := by decide +kernel
theorem dX5_close_23 : decode cX5_close 23 = .ok (.aload_n 0, 1) := by decide +kernel
theorem dX5_close_24 : decode cX5_close 24 = .ok (.invokevirtual 45, 3) := by decide +kernel
theorem dX5_close_27 : decode cX5_close 27 = .ok (.iastore, 1) := by decide +kernel
theorem dX5_close_28 : decode cX5_close 28 = .ok (.aload_n 0, 1) := by decide +kernel
theorem dX5_close_29 : decode cX5_close 29 = .ok (.getfield 15, 3) := by decide +kernel
theorem dX5_close_32 : decode cX5_close 32 = .ok (.iload_n 1, 1) := by decide +kernel
theorem dX5_close_33 : decode cX5_close 33 = .ok (.aload_n 0, 1) := by decide +kernel
theorem dX5_close_34 : decode cX5_close 34 = .ok (.getfield 22, 3) := by decide +kernel
theorem dX5_close_37 : decode cX5_close 37 = .ok (.iastore, 1) := by decide +kernel
theorem dX5_close_38 : decode cX5_close 38 = .ok (.aload_n 0, 1) := by decide +kernel
theorem dX5_close_39 : decode cX5_close 39 = .ok (.dup, 1) := by decide +kernel
theorem dX5_close_40 : decode cX5_close 40 = .ok (.getfield 18, 3) := by decide +kernel
theorem dX5_close_43 : decode cX5_close 43 = .ok (.iconst 1, 1) := by decide +kernel
theorem dX5_close_44 : decode cX5_close 44 = .ok (.iadd, 1) := by decide +kernel
theorem dX5_close_45 : decode cX5_close 45 = .ok (.putfield 18, 3) := by decide +kernel
theorem dX5_close_48 : decode cX5_close 48 = .ok (.aload_n 0, 1) := by decide +kernel
theorem dX5_close_49 : decode cX5_close 49 = .ok (.iconst 0, 1) := by decide +kernel
theorem dX5_close_50 : decode cX5_close 50 = .ok (.putfield 22, 3) := by decide +kernel
theorem dX5_close_53 : decode cX5_close 53 = .ok (.aload_n 0, 1) := by decide +kernel
theorem dX5_close_54 : decode cX5_close 54 = .ok (.ldc 25, 2) := by decide +kernel
theorem dX5_close_56 : decode cX5_close 56 = .ok (.putfield 26, 3) := by decide +kernel
theorem dX5_close_59 : decode cX5_close 59 = .ok (.aload_n 0, 1) := by decide +kernel
theorem dX5_close_60 : decode cX5_close 60 = .ok (.iconst 0, 1) := by decide +kernel
theorem dX5_close_61 : decode cX5_close 61 = .ok (.putfield 29, 3) := by decide +kernel
theorem dX5_close_64 : decode cX5_close 64 = .ok (.return_, 1) := by decide +kernel
theorem dX5_judge_0 : decode cX5_judge 0 = .ok (.aload_n 0, 1) := by decide +kernel
theorem dX5_judge_1 : decode cX5_judge 1 = .ok (.getfield 22, 3) := by decide +kernel
theorem dX5_judge_4 : decode cX5_judge 4 = .ok (.iconst 4, 1) := by decide +kernel
theorem dX5_judge_5 : decode cX5_judge 5 = .ok (.if_icmp .ge 5, 3) := by decide +kernel
theorem dX5_judge_8 : decode cX5_judge 8 = .ok (.iconst 1, 1) := by decide +kernel
theorem dX5_judge_9 : decode cX5_judge 9 = .ok (.ireturn, 1) := by decide +kernel
theorem dX5_judge_10 : decode cX5_judge 10 = .ok (.aload_n 0, 1) := by decide +kernel
theorem dX5_judge_11 : decode cX5_judge 11 = .ok (.getfield 22, 3) := by decide +kernel
theorem dX5_judge_14 : decode cX5_judge 14 = .ok (.bipush 30, 2) := by decide +kernel
theorem dX5_judge_16 : decode cX5_judge 16 = .ok (.if_icmp .le 5, 3) := by decide +kernel
theorem dX5_judge_19 : decode cX5_judge 19 = .ok (.iconst 2, 1) := by decide +kernel
theorem dX5_judge_20 : decode cX5_judge 20 = .ok (.ireturn, 1) := by decide +kernel
theorem dX5_judge_21 : decode cX5_judge 21 = .ok (.aload_n 0, 1) := by decide +kernel
theorem dX5_judge_22 : decode cX5_judge 22 = .ok (.getfield 29, 3) := by decide +kernel
theorem dX5_judge_25 : decode cX5_judge 25 = .ok (.ifCond .eq 5, 3) := by decide +kernel
theorem dX5_judge_28 : decode cX5_judge 28 = .ok (.iconst 3, 1) := by decide +kernel
theorem dX5_judge_29 : decode cX5_judge 29 = .ok (.ireturn, 1) := by decide +kernel
theorem dX5_judge_30 : decode cX5_judge 30 = .ok (.aload_n 0, 1) := by decide +kernel
theorem dX5_judge_31 : decode cX5_judge 31 = .ok (.getfield 26, 3) := by decide +kernel
theorem dX5_judge_34 : decode cX5_judge 34 = .ok (.ifCond .ne 7, 3) := by decide +kernel
theorem dX5_judge_37 : decode cX5_judge 37 = .ok (.iconst 0, 1) := by decide +kernel
theorem dX5_judge_38 : decode cX5_judge 38 = .ok (.goto 4, 3) := by decide +kernel
theorem dX5_judge_41 : decode cX5_judge 41 = .ok (.iconst 4, 1) := by decide +kernel
theorem dX5_judge_42 : decode cX5_judge 42 = .ok (.ireturn, 1) := by decide +kernel
theorem dX5_isKept_0 : decode cX5_isKept 0 = .ok (.iload_n 1, 1) := by decide +kernel
theorem dX5_isKept_1 : decode cX5_isKept 1 = .ok (.ifCond .lt 21, 3) := by decide +kernel
theorem dX5_isKept_4 : decode cX5_isKept 4 = .ok (.iload_n 1, 1) := by decide +kernel
theorem dX5_isKept_5 : decode cX5_isKept 5 = .ok (.bipush 10, 2) := by decide +kernel
theorem dX5_isKept_7 : decode cX5_isKept 7 = .ok (.if_icmp .ge 15, 3) := by decide +kernel
theorem dX5_isKept_10 : decode cX5_isKept 10 = .ok (.iload_n 1, 1) := by decide +kernel
theorem dX5_isKept_11 : decode cX5_isKept 11 = .ok (.aload_n 0, 1) := by decide +kernel
theorem dX5_isKept_12 : decode cX5_isKept 12 = .ok (.getfield 18, 3) := by decide +kernel
theorem dX5_isKept_15 : decode cX5_isKept 15 = .ok (.if_icmp .ge 7, 3) := by decide +kernel
theorem dX5_isKept_18 : decode cX5_isKept 18 = .ok (.iconst 1, 1) := by decide +kernel
theorem dX5_isKept_19 : decode cX5_isKept 19 = .ok (.goto 4, 3) := by decide +kernel
theorem dX5_isKept_22 : decode cX5_isKept 22 = .ok (.iconst 0, 1) := by decide +kernel
theorem dX5_isKept_23 : decode cX5_isKept 23 = .ok (.ireturn, 1) := by decide +kernel
theorem dX5_placeOf_0 : decode cX5_placeOf 0 = .ok (.aload_n 0, 1) := by decide +kernel
theorem dX5_placeOf_1 : decode cX5_placeOf 1 = .ok (.getfield 18, 3) := by decide +kernel
theorem dX5_placeOf_4 : decode cX5_placeOf 4 = .ok (.iconst 1, 1) := by decide +kernel
theorem dX5_placeOf_5 : decode cX5_placeOf 5 = .ok (.isub, 1) := by decide +kernel
theorem dX5_placeOf_6 : decode cX5_placeOf 6 = .ok (.iload_n 1, 1) := by decide +kernel
theorem dX5_placeOf_7 : decode cX5_placeOf 7 = .ok (.isub, 1) := by decide +kernel
theorem dX5_placeOf_8 : decode cX5_placeOf 8 = .ok (.bipush 10, 2) := by decide +kernel
theorem dX5_placeOf_10 : decode cX5_placeOf 10 = .ok (.invokestatic 40, 3) := by decide +kernel
theorem dX5_placeOf_13 : decode cX5_placeOf 13 = .ok (.ireturn, 1) := by decide +kernel
theorem dX6_init_0 : decode cX6_init 0 = .ok (.aload_n 0, 1) := by decide +kernel
theorem dX6_init_1 : decode cX6_init 1 = .ok (.invokespecial 3, 3) := by decide +kernel
theorem dX6_init_4 : decode cX6_init 4 = .ok (.aload_n 0, 1) := by decide +kernel
theorem dX6_init_5 : decode cX6_init 5 = .ok (.new 9, 3) := by decide +kernel
theorem dX6_init_8 : decode cX6_init 8 = .ok (.dup, 1) := by decide +kernel
theorem dX6_init_9 : decode cX6_init 9 = .ok (.invokespecial 11, 3) := by decide +kernel
theorem dX6_init_12 : decode cX6_init 12 = .ok (.putfield 12, 3) := by decide +kernel
theorem dX6_init_15 : decode cX6_init 15 = .ok (.aload_n 0, 1) := by decide +kernel
theorem dX6_init_16 : decode cX6_init 16 = .ok (.lconst 0, 1) := by decide +kernel
theorem dX6_init_17 : decode cX6_init 17 = .ok (.putfield 18, 3) := by decide +kernel
theorem dX6_init_20 : decode cX6_init 20 = .ok (.aload_n 0, 1) := by decide +kernel
theorem dX6_init_21 : decode cX6_init 21 = .ok (.iconst 0, 1) := by decide +kernel
theorem dX6_init_22 : decode cX6_init 22 = .ok (.putfield 22, 3) := by decide +kernel
theorem dX6_init_25 : decode cX6_init 25 = .ok (.aload_n 0, 1) := by decide +kernel
theorem dX6_init_26 : decode cX6_init 26 = .ok (.iconst 1, 1) := by decide +kernel
theorem dX6_init_27 : decode cX6_init 27 = .ok (.putfield 26, 3) := by decide +kernel
theorem dX6_init_30 : decode cX6_init 30 = .ok (.aload_n 0, 1) := by decide +kernel
theorem dX6_init_31 : decode cX6_init 31 = .ok (.iconst 0, 1) := by decide +kernel
theorem dX6_init_32 : decode cX6_init 32 = .ok (.putfield 29, 3) := by decide +kernel
theorem dX6_init_35 : decode cX6_init 35 = .ok (.aload_n 0, 1) := by decide +kernel
theorem dX6_init_36 : decode cX6_init 36 = .ok (.iconst 0, 1) := by decide +kernel
theorem dX6_init_37 : decode cX6_init 37 = .ok (.putfield 33, 3) := by decide +kernel
theorem dX6_init_40 : decode cX6_init 40 = .ok (.aload_n 0, 1) := by decide +kernel
theorem dX6_init_41 : decode cX6_init 41 = .ok (.iconst 0, 1) := by decide +kernel
theorem dX6_init_42 : decode cX6_init 42 = .ok (.putfield 36, 3) := by decide +kernel
theorem dX6_init_45 : decode cX6_init 45 = .ok (.return_, 1) := by decide +kernel
theorem dX6_copyFrom_0 : decode cX6_copyFrom 0 = .ok (.iconst 0, 1) := by decide +kernel
theorem dX6_copyFrom_1 : decode cX6_copyFrom 1 = .ok (.istore_n 2, 1) := by decide +kernel
theorem dX6_copyFrom_2 : decode cX6_copyFrom 2 = .ok (.iload_n 2, 1) := by decide +kernel
theorem dX6_copyFrom_3 : decode cX6_copyFrom 3 = .ok (.aload_n 1, 1) := by decide +kernel
theorem dX6_copyFrom_4 : decode cX6_copyFrom 4 = .ok (.getfield 12, 3) := by decide +kernel
theorem dX6_copyFrom_7 : decode cX6_copyFrom 7 = .ok (.invokevirtual 39, 3) := by decide +kernel
theorem dX6_copyFrom_10 : decode cX6_copyFrom 10 = .ok (.if_icmp .ge 117, 3) := by decide +kernel
theorem dX6_copyFrom_13 : decode cX6_copyFrom 13 = .ok (.aload_n 1, 1) := by decide +kernel
theorem dX6_copyFrom_14 : decode cX6_copyFrom 14 = .ok (.getfield 12, 3) := by decide +kernel
theorem dX6_copyFrom_17 : decode cX6_copyFrom 17 = .ok (.iload_n 2, 1) := by decide +kernel
theorem dX6_copyFrom_18 : decode cX6_copyFrom 18 = .ok (.invokevirtual 43, 3) := by decide +kernel
theorem dX6_copyFrom_21 : decode cX6_copyFrom 21 = .ok (.checkcast 47, 3) := by decide +kernel
theorem dX6_copyFrom_24 : decode cX6_copyFrom 24 = .ok (.astore_n 3, 1) := by decide +kernel
theorem dX6_copyFrom_25 : decode cX6_copyFrom 25 = .ok (.iload_n 2, 1) := by decide +kernel
theorem dX6_copyFrom_26 : decode cX6_copyFrom 26 = .ok (.aload_n 0, 1) := by decide +kernel
theorem dX6_copyFrom_27 : decode cX6_copyFrom 27 = .ok (.getfield 12, 3) := by decide +kernel
theorem dX6_copyFrom_30 : decode cX6_copyFrom 30 = .ok (.invokevirtual 39, 3) := by decide +kernel
theorem dX6_copyFrom_33 : decode cX6_copyFrom 33 = .ok (.if_icmp .lt 38, 3) := by decide +kernel
theorem dX6_copyFrom_36 : decode cX6_copyFrom 36 = .ok (.aload_n 0, 1) := by decide +kernel
theorem dX6_copyFrom_37 : decode cX6_copyFrom 37 = .ok (.getfield 12, 3) := by decide +kernel
theorem dX6_copyFrom_40 : decode cX6_copyFrom 40 = .ok (.new 47, 3) := by decide +kernel
theorem dX6_copyFrom_43 : decode cX6_copyFrom 43 = .ok (.dup, 1) := by decide +kernel
theorem dX6_copyFrom_44 : decode cX6_copyFrom 44 = .ok (.aload_n 3, 1) := by decide +kernel
theorem dX6_copyFrom_45 : decode cX6_copyFrom 45 = .ok (.getfield 49, 3) := by decide +kernel
theorem dX6_copyFrom_48 : decode cX6_copyFrom 48 = .ok (.aload_n 3, 1) := by decide +kernel
theorem dX6_copyFrom_49 : decode cX6_copyFrom 49 = .ok (.getfield 52, 3) := by decide +kernel
theorem dX6_copyFrom_52 : decode cX6_copyFrom 52 = .ok (.aload_n 3, 1) := by decide +kernel
theorem dX6_copyFrom_53 : decode cX6_copyFrom 53 = .ok (.getfield 53, 3) := by decide +kernel
theorem dX6_copyFrom_56 : decode cX6_copyFrom 56 = .ok (.aload_n 3, 1) := by decide +kernel
theorem dX6_copyFrom_57 : decode cX6_copyFrom 57 = .ok (.getfield 54, 3) := by decide +kernel
theorem dX6_copyFrom_60 : decode cX6_copyFrom 60 = .ok (.aload_n 3, 1) := by decide +kernel
theorem dX6_copyFrom_61 : decode cX6_copyFrom 61 = .ok (.getfield 57, 3) := by decide +kernel
theorem dX6_copyFrom_64 : decode cX6_copyFrom 64 = .ok (.invokespecial 58, 3) := by decide +kernel
theorem dX6_copyFrom_67 : decode cX6_copyFrom 67 = .ok (.invokevirtual 61, 3) := by decide +kernel
theorem dX6_copyFrom_70 : decode cX6_copyFrom 70 = .ok (.pop, 1) := by decide +kernel
theorem dX6_copyFrom_71 : decode cX6_copyFrom 71 = .ok (.aload_n 0, 1) := by decide +kernel
theorem dX6_copyFrom_72 : decode cX6_copyFrom 72 = .ok (.getfield 12, 3) := by decide +kernel
theorem dX6_copyFrom_75 : decode cX6_copyFrom 75 = .ok (.iload_n 2, 1) := by decide +kernel
theorem dX6_copyFrom_76 : decode cX6_copyFrom 76 = .ok (.invokevirtual 43, 3) := by decide +kernel
theorem dX6_copyFrom_79 : decode cX6_copyFrom 79 = .ok (.checkcast 47, 3) := by decide +kernel
theorem dX6_copyFrom_82 : decode cX6_copyFrom 82 = .ok (.astore 4, 2) := by decide +kernel
theorem dX6_copyFrom_84 : decode cX6_copyFrom 84 = .ok (.aload 4, 2) := by decide +kernel
theorem dX6_copyFrom_86 : decode cX6_copyFrom 86 = .ok (.aload_n 3, 1) := by decide +kernel
theorem dX6_copyFrom_87 : decode cX6_copyFrom 87 = .ok (.getfield 65, 3) := by decide +kernel
theorem dX6_copyFrom_90 : decode cX6_copyFrom 90 = .ok (.aload_n 3, 1) := by decide +kernel
theorem dX6_copyFrom_91 : decode cX6_copyFrom 91 = .ok (.getfield 68, 3) := by decide +kernel
theorem dX6_copyFrom_94 : decode cX6_copyFrom 94 = .ok (.aload_n 3, 1) := by decide +kernel
theorem dX6_copyFrom_95 : decode cX6_copyFrom 95 = .ok (.getfield 71, 3) := by decide +kernel
theorem dX6_copyFrom_98 : decode cX6_copyFrom 98 = .ok (.invokevirtual 74, 3) := by decide +kernel
theorem dX6_copyFrom_101 : decode cX6_copyFrom 101 = .ok (.aload_n 3, 1) := by decide +kernel
theorem dX6_copyFrom_102 : decode cX6_copyFrom 102 = .ok (.getfield 57, 3) := by decide +kernel
theorem dX6_copyFrom_105 : decode cX6_copyFrom 105 = .ok (.ifCond .eq 16, 3) := by decide +kernel
theorem dX6_copyFrom_108 : decode cX6_copyFrom 108 = .ok (.aload 4, 2) := by decide +kernel
theorem dX6_copyFrom_110 : decode cX6_copyFrom 110 = .ok (.getfield 78, 3) := by decide +kernel
theorem dX6_copyFrom_113 : decode cX6_copyFrom 113 = .ok (.iconst 0, 1) := by decide +kernel
theorem dX6_copyFrom_114 : decode cX6_copyFrom 114 = .ok (.aload_n 3, 1) := by decide +kernel
theorem dX6_copyFrom_115 : decode cX6_copyFrom 115 = .ok (.getfield 78, 3) := by decide +kernel
theorem dX6_copyFrom_118 : decode cX6_copyFrom 118 = .ok (.iconst 0, 1) := by decide +kernel
theorem dX6_copyFrom_119 : decode cX6_copyFrom 119 = .ok (.iaload, 1) := by decide +kernel
theorem dX6_copyFrom_120 : decode cX6_copyFrom 120 = .ok (.iastore, 1) := by decide +kernel
theorem dX6_copyFrom_121 : decode cX6_copyFrom 121 = .ok (.iinc 2 1, 3) := by decide +kernel
theorem dX6_copyFrom_124 : decode cX6_copyFrom 124 = .ok (.goto (-122), 3) := by decide +kernel
theorem dX6_copyFrom_127 : decode cX6_copyFrom 127 = .ok (.return_, 1) := by decide +kernel
theorem dX6_append_0 : decode cX6_append 0 = .ok (.aload_n 0, 1) := by decide +kernel
theorem dX6_append_1 : decode cX6_append 1 = .ok (.getfield 12, 3) := by decide +kernel
theorem dX6_append_4 : decode cX6_append 4 = .ok (.aload_n 1, 1) := by decide +kernel
theorem dX6_append_5 : decode cX6_append 5 = .ok (.invokevirtual 61, 3) := by decide +kernel
theorem dX6_append_8 : decode cX6_append 8 = .ok (.pop, 1) := by decide +kernel
theorem dX6_append_9 : decode cX6_append 9 = .ok (.aload_n 0, 1) := by decide +kernel
theorem dX6_append_10 : decode cX6_append 10 = .ok (.getfield 12, 3) := by decide +kernel
theorem dX6_append_13 : decode cX6_append 13 = .ok (.invokevirtual 39, 3) := by decide +kernel
theorem dX6_append_16 : decode cX6_append 16 = .ok (.iconst 1, 1) := by decide +kernel
theorem dX6_append_17 : decode cX6_append 17 = .ok (.isub, 1) := by decide +kernel
theorem dX6_append_18 : decode cX6_append 18 = .ok (.ireturn, 1) := by decide +kernel
theorem dX6_countOf_0 : decode cX6_countOf 0 = .ok (.iconst 0, 1) := by decide +kernel
theorem dX6_countOf_1 : decode cX6_countOf 1 = .ok (.istore_n 3, 1) := by decide +kernel
theorem dX6_countOf_2 : decode cX6_countOf 2 = .ok (.iconst 0, 1) := by decide +kernel
theorem dX6_countOf_3 : decode cX6_countOf 3 = .ok (.istore 4, 2) := by decide +kernel
theorem dX6_countOf_5 : decode cX6_countOf 5 = .ok (.iload 4, 2) := by decide +kernel
theorem dX6_countOf_7 : decode cX6_countOf 7 = .ok (.aload_n 0, 1) := by decide +kernel
theorem dX6_countOf_8 : decode cX6_countOf 8 = .ok (.getfield 12, 3) := by decide +kernel
theorem dX6_countOf_11 : decode cX6_countOf 11 = .ok (.invokevirtual 39, 3) := by decide +kernel
theorem dX6_countOf_14 : decode cX6_countOf 14 = .ok (.if_icmp .ge 44, 3) := by decide +kernel
theorem dX6_countOf_17 : decode cX6_countOf 17 = .ok (.aload_n 0, 1) := by decide +kernel
theorem dX6_countOf_18 : decode cX6_countOf 18 = .ok (.getfield 12, 3) := by decide +kernel
theorem dX6_countOf_21 : decode cX6_countOf 21 = .ok (.iload 4, 2) := by decide +kernel
theorem dX6_countOf_23 : decode cX6_countOf 23 = .ok (.invokevirtual 43, 3) := by decide +kernel
theorem dX6_countOf_26 : decode cX6_countOf 26 = .ok (.checkcast 47, 3) := by decide +kernel
theorem dX6_countOf_29 : decode cX6_countOf 29 = .ok (.astore 5, 2) := by decide +kernel
theorem dX6_countOf_31 : decode cX6_countOf 31 = .ok (.aload 5, 2) := by decide +kernel
theorem dX6_countOf_33 : decode cX6_countOf 33 = .ok (.getfield 49, 3) := by decide +kernel
theorem dX6_countOf_36 : decode cX6_countOf 36 = .ok (.iload_n 1, 1) := by decide +kernel
theorem dX6_countOf_37 : decode cX6_countOf 37 = .ok (.if_icmp .ne 15, 3) := by decide +kernel
theorem dX6_countOf_40 : decode cX6_countOf 40 = .ok (.aload 5, 2) := by decide +kernel
theorem dX6_countOf_42 : decode cX6_countOf 42 = .ok (.getfield 65, 3) := by decide +kernel
theorem dX6_countOf_45 : decode cX6_countOf 45 = .ok (.iload_n 2, 1) := by decide +kernel
theorem dX6_countOf_46 : decode cX6_countOf 46 = .ok (.if_icmp .ne 6, 3) := by decide +kernel
theorem dX6_countOf_49 : decode cX6_countOf 49 = .ok (.iinc 3 1, 3) := by decide +kernel
theorem dX6_countOf_52 : decode cX6_countOf 52 = .ok (.iinc 4 1, 3) := by decide +kernel
theorem dX6_countOf_55 : decode cX6_countOf 55 = .ok (.goto (-50), 3) := by decide +kernel
theorem dX6_countOf_58 : decode cX6_countOf 58 = .ok (.iload_n 3, 1) := by decide +kernel
theorem dX6_countOf_59 : decode cX6_countOf 59 = .ok (.ireturn, 1) := by decide +kernel
theorem dX6_isMember_0 : decode cX6_isMember 0 = .ok (.aload_n 0, 1) := by decide +kernel
theorem dX6_isMember_1 : decode cX6_isMember 1 = .ok (.getfield 18, 3) := by decide +kernel
theorem dX6_isMember_4 : decode cX6_isMember 4 = .ok (.iload_n 1, 1) := by decide +kernel
theorem dX6_isMember_5 : decode cX6_isMember 5 = .ok (.lushr, 1) := by decide +kernel
theorem dX6_isMember_6 : decode cX6_isMember 6 = .ok (.lconst 1, 1) := by decide +kernel
theorem dX6_isMember_7 : decode cX6_isMember 7 = .ok (.land, 1) := by decide +kernel
theorem dX6_isMember_8 : decode cX6_isMember 8 = .ok (.lconst 1, 1) := by decide +kernel
theorem dX6_isMember_9 : decode cX6_isMember 9 = .ok (.lcmp, 1) := by decide +kernel
theorem dX6_isMember_10 : decode cX6_isMember 10 = .ok (.ifCond .ne 7, 3) := by decide +kernel
theorem dX6_isMember_13 : decode cX6_isMember 13 = .ok (.iconst 1, 1) := by decide +kernel
theorem dX6_isMember_14 : decode cX6_isMember 14 = .ok (.goto 4, 3) := by decide +kernel
theorem dX6_isMember_17 : decode cX6_isMember 17 = .ok (.iconst 0, 1) := by decide +kernel
theorem dX6_isMember_18 : decode cX6_isMember 18 = .ok (.ireturn, 1) := by decide +kernel
theorem dX6_width_0 : decode cX6_width 0 = .ok (.aload_n 0, 1) := by decide +kernel
theorem dX6_width_1 : decode cX6_width 1 = .ok (.getfield 36, 3) := by decide +kernel
theorem dX6_width_4 : decode cX6_width 4 = .ok (.aload_n 0, 1) := by decide +kernel
theorem dX6_width_5 : decode cX6_width 5 = .ok (.getfield 33, 3) := by decide +kernel
theorem dX6_width_8 : decode cX6_width 8 = .ok (.isub, 1) := by decide +kernel
theorem dX6_width_9 : decode cX6_width 9 = .ok (.ireturn, 1) := by decide +kernel
theorem dX6_openGroup_0 : decode cX6_openGroup 0 = .ok (.aload_n 0, 1) := by decide +kernel
theorem dX6_openGroup_1 : decode cX6_openGroup 1 = .ok (.lconst 0, 1) := by decide +kernel
theorem dX6_openGroup_2 : decode cX6_openGroup 2 = .ok (.putfield 18, 3) := by decide +kernel
theorem dX6_openGroup_5 : decode cX6_openGroup 5 = .ok (.iconst 0, 1) := by decide +kernel
theorem dX6_openGroup_6 : decode cX6_openGroup 6 = .ok (.istore_n 1, 1) := by decide +kernel
theorem dX6_openGroup_7 : decode cX6_openGroup 7 = .ok (.iload_n 1, 1) := by decide +kernel
theorem dX6_openGroup_8 : decode cX6_openGroup 8 = .ok (.aload_n 0, 1) := by decide +kernel
theorem dX6_openGroup_9 : decode cX6_openGroup 9 = .ok (.getfield 12, 3) := by decide +kernel
theorem dX6_openGroup_12 : decode cX6_openGroup 12 = .ok (.invokevirtual 39, 3) := by decide +kernel
theorem dX6_openGroup_15 : decode cX6_openGroup 15 = .ok (.if_icmp .ge 74, 3) := by decide +kernel
theorem dX6_openGroup_18 : decode cX6_openGroup 18 = .ok (.aload_n 0, 1) := by decide +kernel
theorem dX6_openGroup_19 : decode cX6_openGroup 19 = .ok (.getfield 12, 3) := by decide +kernel
theorem dX6_openGroup_22 : decode cX6_openGroup 22 = .ok (.iload_n 1, 1) := by decide +kernel
theorem dX6_openGroup_23 : decode cX6_openGroup 23 = .ok (.invokevirtual 43, 3) := by decide +kernel
theorem dX6_openGroup_26 : decode cX6_openGroup 26 = .ok (.checkcast 47, 3) := by decide +kernel
theorem dX6_openGroup_29 : decode cX6_openGroup 29 = .ok (.astore_n 2, 1) := by decide +kernel
theorem dX6_openGroup_30 : decode cX6_openGroup 30 = .ok (.aload_n 2, 1) := by decide +kernel
theorem dX6_openGroup_31 : decode cX6_openGroup 31 = .ok (.getfield 65, 3) := by decide +kernel
theorem dX6_openGroup_34 : decode cX6_openGroup 34 = .ok (.ifCond .ne 49, 3) := by decide +kernel
theorem dX6_openGroup_37 : decode cX6_openGroup 37 = .ok (.aload_n 0, 1) := by decide +kernel
theorem dX6_openGroup_38 : decode cX6_openGroup 38 = .ok (.lconst 1, 1) := by decide +kernel
theorem dX6_openGroup_39 : decode cX6_openGroup 39 = .ok (.iload_n 1, 1) := by decide +kernel
theorem dX6_openGroup_40 : decode cX6_openGroup 40 = .ok (.lshl, 1) := by decide +kernel
theorem dX6_openGroup_41 : decode cX6_openGroup 41 = .ok (.putfield 18, 3) := by decide +kernel
theorem dX6_openGroup_44 : decode cX6_openGroup 44 = .ok (.aload_n 0, 1) := by decide +kernel
theorem dX6_openGroup_45 : decode cX6_openGroup 45 = .ok (.iload_n 1, 1) := by decide +kernel
theorem dX6_openGroup_46 : decode cX6_openGroup 46 = .ok (.putfield 22, 3) := by decide +kernel
theorem dX6_openGroup_49 : decode cX6_openGroup 49 = .ok (.aload_n 0, 1) := by decide +kernel
theorem dX6_openGroup_50 : decode cX6_openGroup 50 = .ok (.aload_n 2, 1) := by decide +kernel
theorem dX6_openGroup_51 : decode cX6_openGroup 51 = .ok (.getfield 52, 3) := by decide +kernel
theorem dX6_openGroup_54 : decode cX6_openGroup 54 = .ok (.putfield 26, 3) := by decide +kernel
theorem dX6_openGroup_57 : decode cX6_openGroup 57 = .ok (.aload_n 0, 1) := by decide +kernel
theorem dX6_openGroup_58 : decode cX6_openGroup 58 = .ok (.aload_n 2, 1) := by decide +kernel
theorem dX6_openGroup_59 : decode cX6_openGroup 59 = .ok (.getfield 57, 3) := by decide +kernel
theorem dX6_openGroup_62 : decode cX6_openGroup 62 = .ok (.putfield 29, 3) := by decide +kernel
theorem dX6_openGroup_65 : decode cX6_openGroup 65 = .ok (.aload_n 0, 1) := by decide +kernel
theorem dX6_openGroup_66 : decode cX6_openGroup 66 = .ok (.aload_n 2, 1) := by decide +kernel
theorem dX6_openGroup_67 : decode cX6_openGroup 67 = .ok (.getfield 53, 3) := by decide +kernel
theorem dX6_openGroup_70 : decode cX6_openGroup 70 = .ok (.putfield 33, 3) := by decide +kernel
theorem dX6_openGroup_73 : decode cX6_openGroup 73 = .ok (.aload_n 0, 1) := by decide +kernel
theorem dX6_openGroup_74 : decode cX6_openGroup 74 = .ok (.aload_n 2, 1) := by decide +kernel
theorem dX6_openGroup_75 : decode cX6_openGroup 75 = .ok (.getfield 82, 3) := by decide +kernel
theorem dX6_openGroup_78 : decode cX6_openGroup 78 = .ok (.putfield 36, 3) := by decide +kernel
theorem dX6_openGroup_81 : decode cX6_openGroup 81 = .ok (.aload_n 2, 1) := by decide +kernel
theorem dX6_openGroup_82 : decode cX6_openGroup 82 = .ok (.areturn, 1) := by decide +kernel
theorem dX6_openGroup_83 : decode cX6_openGroup 83 = .ok (.iinc 1 1, 3) := by decide +kernel
theorem dX6_openGroup_86 : decode cX6_openGroup 86 = .ok (.goto (-79), 3) := by decide +kernel
theorem dX6_openGroup_89 : decode cX6_openGroup 89 = .ok (.aconst_null, 1) := by decide +kernel
theorem dX6_openGroup_90 : decode cX6_openGroup 90 = .ok (.areturn, 1) := by decide +kernel
theorem dX6_gather_0 : decode cX6_gather 0 = .ok (.aload_n 0, 1) := by decide +kernel
theorem dX6_gather_1 : decode cX6_gather 1 = .ok (.getfield 22, 3) := by decide +kernel
theorem dX6_gather_4 : decode cX6_gather 4 = .ok (.iconst 1, 1) := by decide +kernel
theorem dX6_gather_5 : decode cX6_gather 5 = .ok (.iadd, 1) := by decide +kernel
theorem dX6_gather_6 : decode cX6_gather 6 = .ok (.istore_n 1, 1) := by decide +kernel
theorem dX6_gather_7 : decode cX6_gather 7 = .ok (.iload_n 1, 1) := by decide +kernel
theorem dX6_gather_8 : decode cX6_gather 8 = .ok (.aload_n 0, 1) := by decide +kernel
theorem dX6_gather_9 : decode cX6_gather 9 = .ok (.getfield 12, 3) := by decide +kernel
theorem dX6_gather_12 : decode cX6_gather 12 = .ok (.invokevirtual 39, 3) := by decide +kernel
theorem dX6_gather_15 : decode cX6_gather 15 = .ok (.if_icmp .ge 80, 3) := by decide +kernel
theorem dX6_gather_18 : decode cX6_gather 18 = .ok (.aload_n 0, 1) := by decide +kernel
theorem dX6_gather_19 : decode cX6_gather 19 = .ok (.getfield 12, 3) := by decide +kernel
theorem dX6_gather_22 : decode cX6_gather 22 = .ok (.iload_n 1, 1) := by decide +kernel
theorem dX6_gather_23 : decode cX6_gather 23 = .ok (.invokevirtual 43, 3) := by decide +kernel
theorem dX6_gather_26 : decode cX6_gather 26 = .ok (.checkcast 47, 3) := by decide +kernel
theorem dX6_gather_29 : decode cX6_gather 29 = .ok (.astore_n 2, 1) := by decide +kernel
theorem dX6_gather_30 : decode cX6_gather 30 = .ok (.aload_n 0, 1) := by decide +kernel
theorem dX6_gather_31 : decode cX6_gather 31 = .ok (.aload_n 2, 1) := by decide +kernel
theorem dX6_gather_32 : decode cX6_gather 32 = .ok (.invokevirtual 83, 3) := by decide +kernel
theorem dX6_gather_35 : decode cX6_gather 35 = .ok (.ifCond .eq 54, 3) := by decide +kernel
theorem dX6_gather_38 : decode cX6_gather 38 = .ok (.aload_n 0, 1) := by decide +kernel
theorem dX6_gather_39 : decode cX6_gather 39 = .ok (.iload_n 1, 1) := by decide +kernel
theorem dX6_gather_40 : decode cX6_gather 40 = .ok (.aload_n 2, 1) := by decide +kernel
theorem dX6_gather_41 : decode cX6_gather 41 = .ok (.invokevirtual 87, 3) := by decide +kernel
theorem dX6_gather_44 : decode cX6_gather 44 = .ok (.ifCond .ne 45, 3) := by decide +kernel
theorem dX6_gather_47 : decode cX6_gather 47 = .ok (.aload_n 0, 1) := by decide +kernel
theorem dX6_gather_48 : decode cX6_gather 48 = .ok (.dup, 1) := by decide +kernel
theorem dX6_gather_49 : decode cX6_gather 49 = .ok (.getfield 18, 3) := by decide +kernel
theorem dX6_gather_52 : decode cX6_gather 52 = .ok (.lconst 1, 1) := by decide +kernel
theorem dX6_gather_53 : decode cX6_gather 53 = .ok (.iload_n 1, 1) := by decide +kernel
theorem dX6_gather_54 : decode cX6_gather 54 = .ok (.lshl, 1) := by decide +kernel
theorem dX6_gather_55 : decode cX6_gather 55 = .ok (.lor, 1) := by decide +kernel
theorem dX6_gather_56 : decode cX6_gather 56 = .ok (.putfield 18, 3) := by decide +kernel
theorem dX6_gather_59 : decode cX6_gather 59 = .ok (.aload_n 0, 1) := by decide +kernel
theorem dX6_gather_60 : decode cX6_gather 60 = .ok (.aload_n 0, 1) := by decide +kernel
theorem dX6_gather_61 : decode cX6_gather 61 = .ok (.getfield 33, 3) := by decide +kernel
theorem dX6_gather_64 : decode cX6_gather 64 = .ok (.aload_n 2, 1) := by decide +kernel
theorem dX6_gather_65 : decode cX6_gather 65 = .ok (.getfield 53, 3) := by decide +kernel
theorem dX6_gather_68 : decode cX6_gather 68 = .ok (.invokestatic 91, 3) := by decide +kernel
theorem dX6_gather_71 : decode cX6_gather 71 = .ok (.putfield 33, 3) := by decide +kernel
theorem dX6_gather_74 : decode cX6_gather 74 = .ok (.aload_n 0, 1) := by decide +kernel
theorem dX6_gather_75 : decode cX6_gather 75 = .ok (.aload_n 0, 1) := by decide +kernel
theorem dX6_gather_76 : decode cX6_gather 76 = .ok (.getfield 36, 3) := by decide +kernel
theorem dX6_gather_79 : decode cX6_gather 79 = .ok (.aload_n 2, 1) := by decide +kernel
theorem dX6_gather_80 : decode cX6_gather 80 = .ok (.getfield 82, 3) := by decide +kernel
theorem dX6_gather_83 : decode cX6_gather 83 = .ok (.invokestatic 97, 3) := by decide +kernel
theorem dX6_gather_86 : decode cX6_gather 86 = .ok (.putfield 36, 3) := by decide +kernel
theorem dX6_gather_89 : decode cX6_gather 89 = .ok (.iinc 1 1, 3) := by decide +kernel
theorem dX6_gather_92 : decode cX6_gather 92 = .ok (.goto (-85), 3) := by decide +kernel
theorem dX6_gather_95 : decode cX6_gather 95 = .ok (.return_, 1) := by decide +kernel
theorem dX6_fitsBeside_0 : decode cX6_fitsBeside 0 = .ok (.aload_n 1, 1) := by decide +kernel
theorem dX6_fitsBeside_1 : decode cX6_fitsBeside 1 = .ok (.getfield 65, 3) := by decide +kernel
theorem dX6_fitsBeside_4 : decode cX6_fitsBeside 4 = .ok (.ifCond .ne 25, 3) := by decide +kernel
theorem dX6_fitsBeside_7 : decode cX6_fitsBeside 7 = .ok (.aload_n 1, 1) := by decide +kernel
theorem dX6_fitsBeside_8 : decode cX6_fitsBeside 8 = .ok (.getfield 52, 3) := by decide +kernel
theorem dX6_fitsBeside_11 : decode cX6_fitsBeside 11 = .ok (.aload_n 0, 1) := by decide +kernel
theorem dX6_fitsBeside_12 : decode cX6_fitsBeside 12 = .ok (.getfield 26, 3) := by decide +kernel
theorem dX6_fitsBeside_15 : decode cX6_fitsBeside 15 = .ok (.if_icmp .ne 14, 3) := by decide +kernel
theorem dX6_fitsBeside_18 : decode cX6_fitsBeside 18 = .ok (.aload_n 1, 1) := by decide +kernel
theorem dX6_fitsBeside_19 : decode cX6_fitsBeside 19 = .ok (.getfield 57, 3) := by decide +kernel
theorem dX6_fitsBeside_22 : decode cX6_fitsBeside 22 = .ok (.aload_n 0, 1) := by decide +kernel
theorem dX6_fitsBeside_23 : decode cX6_fitsBeside 23 = .ok (.getfield 29, 3) := by decide +kernel
theorem dX6_fitsBeside_26 : decode cX6_fitsBeside 26 = .ok (.if_icmp .eq 5, 3) := by decide +kernel
theorem dX6_fitsBeside_29 : decode cX6_fitsBeside 29 = .ok (.iconst 0, 1) := by decide +kernel
theorem dX6_fitsBeside_30 : decode cX6_fitsBeside 30 = .ok (.ireturn, 1) := by decide +kernel
theorem dX6_fitsBeside_31 : decode cX6_fitsBeside 31 = .ok (.aload_n 1, 1) := by decide +kernel
theorem dX6_fitsBeside_32 : decode cX6_fitsBeside 32 = .ok (.getfield 53, 3) := by decide +kernel
theorem dX6_fitsBeside_35 : decode cX6_fitsBeside 35 = .ok (.aload_n 0, 1) := by decide +kernel
theorem dX6_fitsBeside_36 : decode cX6_fitsBeside 36 = .ok (.getfield 36, 3) := by decide +kernel
theorem dX6_fitsBeside_39 : decode cX6_fitsBeside 39 = .ok (.if_icmp .gt 14, 3) := by decide +kernel
theorem dX6_fitsBeside_42 : decode cX6_fitsBeside 42 = .ok (.aload_n 1, 1) := by decide +kernel
theorem dX6_fitsBeside_43 : decode cX6_fitsBeside 43 = .ok (.getfield 82, 3) := by decide +kernel
theorem dX6_fitsBeside_46 : decode cX6_fitsBeside 46 = .ok (.aload_n 0, 1) := by decide +kernel
theorem dX6_fitsBeside_47 : decode cX6_fitsBeside 47 = .ok (.getfield 33, 3) := by decide +kernel
theorem dX6_fitsBeside_50 : decode cX6_fitsBeside 50 = .ok (.if_icmp .ge 5, 3) := by decide +kernel
theorem dX6_fitsBeside_53 : decode cX6_fitsBeside 53 = .ok (.iconst 0, 1) := by decide +kernel
theorem dX6_fitsBeside_54 : decode cX6_fitsBeside 54 = .ok (.ireturn, 1) := by decide +kernel
theorem dX6_fitsBeside_55 : decode cX6_fitsBeside 55 = .ok (.aload_n 0, 1) := by decide +kernel
theorem dX6_fitsBeside_56 : decode cX6_fitsBeside 56 = .ok (.getfield 36, 3) := by decide +kernel
theorem dX6_fitsBeside_59 : decode cX6_fitsBeside 59 = .ok (.aload_n 1, 1) := by decide +kernel
theorem dX6_fitsBeside_60 : decode cX6_fitsBeside 60 = .ok (.getfield 82, 3) := by decide +kernel
theorem dX6_fitsBeside_63 : decode cX6_fitsBeside 63 = .ok (.invokestatic 97, 3) := by decide +kernel
theorem dX6_fitsBeside_66 : decode cX6_fitsBeside 66 = .ok (.aload_n 0, 1) := by decide +kernel
theorem dX6_fitsBeside_67 : decode cX6_fitsBeside 67 = .ok (.getfield 33, 3) := by decide +kernel
theorem dX6_fitsBeside_70 : decode cX6_fitsBeside 70 = .ok (.aload_n 1, 1) := by decide +kernel
theorem dX6_fitsBeside_71 : decode cX6_fitsBeside 71 = .ok (.getfield 53, 3) := by decide +kernel
theorem dX6_fitsBeside_74 : decode cX6_fitsBeside 74 = .ok (.invokestatic 91, 3) := by decide +kernel
theorem dX6_fitsBeside_77 : decode cX6_fitsBeside 77 = .ok (.isub, 1) := by decide +kernel
theorem dX6_fitsBeside_78 : decode cX6_fitsBeside 78 = .ok (.istore_n 2, 1) := by decide +kernel
theorem dX6_fitsBeside_79 : decode cX6_fitsBeside 79 = .ok (.iload_n 2, 1) := by decide +kernel
theorem dX6_fitsBeside_80 : decode cX6_fitsBeside 80 = .ok (.aload_n 0, 1) := by decide +kernel
theorem dX6_fitsBeside_81 : decode cX6_fitsBeside 81 = .ok (.getfield 29, 3) := by decide +kernel
theorem dX6_fitsBeside_84 : decode cX6_fitsBeside 84 = .ok (.ifCond .eq 8, 3) := by decide +kernel
theorem dX6_fitsBeside_87 : decode cX6_fitsBeside 87 = .ok (.bipush 8, 2) := by decide +kernel
theorem dX6_fitsBeside_89 : decode cX6_fitsBeside 89 = .ok (.goto 5, 3) := by decide +kernel
theorem dX6_fitsBeside_92 : decode cX6_fitsBeside 92 = .ok (.bipush 16, 2) := by decide +kernel
theorem dX6_fitsBeside_94 : decode cX6_fitsBeside 94 = .ok (.if_icmp .gt 7, 3) := by decide +kernel
theorem dX6_fitsBeside_97 : decode cX6_fitsBeside 97 = .ok (.iconst 1, 1) := by decide +kernel
theorem dX6_fitsBeside_98 : decode cX6_fitsBeside 98 = .ok (.goto 4, 3) := by decide +kernel
theorem dX6_fitsBeside_101 : decode cX6_fitsBeside 101 = .ok (.iconst 0, 1) := by decide +kernel
theorem dX6_fitsBeside_102 : decode cX6_fitsBeside 102 = .ok (.ireturn, 1) := by decide +kernel
theorem dX6_isBarred_0 : decode cX6_isBarred 0 = .ok (.iconst 0, 1) := by decide +kernel
theorem dX6_isBarred_1 : decode cX6_isBarred 1 = .ok (.istore_n 3, 1) := by decide +kernel
theorem dX6_isBarred_2 : decode cX6_isBarred 2 = .ok (.iload_n 3, 1) := by decide +kernel
theorem dX6_isBarred_3 : decode cX6_isBarred 3 = .ok (.iload_n 1, 1) := by decide +kernel
theorem dX6_isBarred_4 : decode cX6_isBarred 4 = .ok (.if_icmp .ge 76, 3) := by decide +kernel
theorem dX6_isBarred_7 : decode cX6_isBarred 7 = .ok (.aload_n 0, 1) := by decide +kernel
theorem dX6_isBarred_8 : decode cX6_isBarred 8 = .ok (.getfield 12, 3) := by decide +kernel
theorem dX6_isBarred_11 : decode cX6_isBarred 11 = .ok (.iload_n 3, 1) := by decide +kernel
theorem dX6_isBarred_12 : decode cX6_isBarred 12 = .ok (.invokevirtual 43, 3) := by decide +kernel
theorem dX6_isBarred_15 : decode cX6_isBarred 15 = .ok (.checkcast 47, 3) := by decide +kernel
theorem dX6_isBarred_18 : decode cX6_isBarred 18 = .ok (.astore 4, 2) := by decide +kernel
theorem dX6_isBarred_20 : decode cX6_isBarred 20 = .ok (.aload 4, 2) := by decide +kernel
theorem dX6_isBarred_22 : decode cX6_isBarred 22 = .ok (.getfield 65, 3) := by decide +kernel
theorem dX6_isBarred_25 : decode cX6_isBarred 25 = .ok (.ifCond .ne 49, 3) := by decide +kernel
theorem dX6_isBarred_28 : decode cX6_isBarred 28 = .ok (.aload 4, 2) := by decide +kernel
theorem dX6_isBarred_30 : decode cX6_isBarred 30 = .ok (.getfield 52, 3) := by decide +kernel
theorem dX6_isBarred_33 : decode cX6_isBarred 33 = .ok (.aload_n 0, 1) := by decide +kernel
theorem dX6_isBarred_34 : decode cX6_isBarred 34 = .ok (.getfield 26, 3) := by decide +kernel
theorem dX6_isBarred_37 : decode cX6_isBarred 37 = .ok (.if_icmp .ne 37, 3) := by decide +kernel
theorem dX6_isBarred_40 : decode cX6_isBarred 40 = .ok (.aload_n 0, 1) := by decide +kernel
theorem dX6_isBarred_41 : decode cX6_isBarred 41 = .ok (.iload_n 3, 1) := by decide +kernel
theorem dX6_isBarred_42 : decode cX6_isBarred 42 = .ok (.invokevirtual 100, 3) := by decide +kernel
theorem dX6_isBarred_45 : decode cX6_isBarred 45 = .ok (.ifCond .ne 29, 3) := by decide +kernel
theorem dX6_isBarred_48 : decode cX6_isBarred 48 = .ok (.aload 4, 2) := by decide +kernel
theorem dX6_isBarred_50 : decode cX6_isBarred 50 = .ok (.aload_n 2, 1) := by decide +kernel
theorem dX6_isBarred_51 : decode cX6_isBarred 51 = .ok (.invokevirtual 104, 3) := by decide +kernel
theorem dX6_isBarred_54 : decode cX6_isBarred 54 = .ok (.ifCond .eq 20, 3) := by decide +kernel
theorem dX6_isBarred_57 : decode cX6_isBarred 57 = .ok (.aload 4, 2) := by decide +kernel
theorem dX6_isBarred_59 : decode cX6_isBarred 59 = .ok (.getfield 57, 3) := by decide +kernel
theorem dX6_isBarred_62 : decode cX6_isBarred 62 = .ok (.ifCond .ne 10, 3) := by decide +kernel
theorem dX6_isBarred_65 : decode cX6_isBarred 65 = .ok (.aload_n 2, 1) := by decide +kernel
theorem dX6_isBarred_66 : decode cX6_isBarred 66 = .ok (.getfield 57, 3) := by decide +kernel
theorem dX6_isBarred_69 : decode cX6_isBarred 69 = .ok (.ifCond .eq 5, 3) := by decide +kernel
theorem dX6_isBarred_72 : decode cX6_isBarred 72 = .ok (.iconst 1, 1) := by decide +kernel
theorem dX6_isBarred_73 : decode cX6_isBarred 73 = .ok (.ireturn, 1) := by decide +kernel
theorem dX6_isBarred_74 : decode cX6_isBarred 74 = .ok (.iinc 3 1, 3) := by decide +kernel
theorem dX6_isBarred_77 : decode cX6_isBarred 77 = .ok (.goto (-75), 3) := by decide +kernel
theorem dX6_isBarred_80 : decode cX6_isBarred 80 = .ok (.iconst 0, 1) := by decide +kernel
theorem dX6_isBarred_81 : decode cX6_isBarred 81 = .ok (.ireturn, 1) := by decide +kernel
theorem dX6_valueToWrite_0 : decode cX6_valueToWrite 0 = .ok (.aload_n 0, 1) := by decide +kernel
theorem dX6_valueToWrite_1 : decode cX6_valueToWrite 1 = .ok (.getfield 12, 3) := by decide +kernel
theorem dX6_valueToWrite_4 : decode cX6_valueToWrite 4 = .ok (.invokevirtual 39, 3) := by decide +kernel
theorem dX6_valueToWrite_7 : decode cX6_valueToWrite 7 = .ok (.iconst 1, 1) := by decide +kernel
theorem dX6_valueToWrite_8 : decode cX6_valueToWrite 8 = .ok (.isub, 1) := by decide +kernel
theorem dX6_valueToWrite_9 : decode cX6_valueToWrite 9 = .ok (.istore_n 2, 1) := by decide +kernel
theorem dX6_valueToWrite_10 : decode cX6_valueToWrite 10 = .ok (.iload_n 2, 1) := by decide +kernel
theorem dX6_valueToWrite_11 : decode cX6_valueToWrite 11 = .ok (.aload_n 0, 1) := by decide +kernel
theorem dX6_valueToWrite_12 : decode cX6_valueToWrite 12 = .ok (.getfield 22, 3) := by decide +kernel
theorem dX6_valueToWrite_15 : decode cX6_valueToWrite 15 = .ok (.if_icmp .lt 44, 3) := by decide +kernel
theorem dX6_valueToWrite_18 : decode cX6_valueToWrite 18 = .ok (.aload_n 0, 1) := by decide +kernel
theorem dX6_valueToWrite_19 : decode cX6_valueToWrite 19 = .ok (.getfield 12, 3) := by decide +kernel
theorem dX6_valueToWrite_22 : decode cX6_valueToWrite 22 = .ok (.iload_n 2, 1) := by decide +kernel
theorem dX6_valueToWrite_23 : decode cX6_valueToWrite 23 = .ok (.invokevirtual 43, 3) := by decide +kernel
theorem dX6_valueToWrite_26 : decode cX6_valueToWrite 26 = .ok (.checkcast 47, 3) := by decide +kernel
theorem dX6_valueToWrite_29 : decode cX6_valueToWrite 29 = .ok (.astore_n 3, 1) := by decide +kernel
theorem dX6_valueToWrite_30 : decode cX6_valueToWrite 30 = .ok (.aload_n 0, 1) := by decide +kernel
theorem dX6_valueToWrite_31 : decode cX6_valueToWrite 31 = .ok (.iload_n 2, 1) := by decide +kernel
theorem dX6_valueToWrite_32 : decode cX6_valueToWrite 32 = .ok (.invokevirtual 100, 3) := by decide +kernel
theorem dX6_valueToWrite_35 : decode cX6_valueToWrite 35 = .ok (.ifCond .eq 18, 3) := by decide +kernel
theorem dX6_valueToWrite_38 : decode cX6_valueToWrite 38 = .ok (.aload_n 3, 1) := by decide +kernel
theorem dX6_valueToWrite_39 : decode cX6_valueToWrite 39 = .ok (.getfield 53, 3) := by decide +kernel
theorem dX6_valueToWrite_42 : decode cX6_valueToWrite 42 = .ok (.iload_n 1, 1) := by decide +kernel
theorem dX6_valueToWrite_43 : decode cX6_valueToWrite 43 = .ok (.if_icmp .ne 10, 3) := by decide +kernel
theorem dX6_valueToWrite_46 : decode cX6_valueToWrite 46 = .ok (.aload_n 3, 1) := by decide +kernel
theorem dX6_valueToWrite_47 : decode cX6_valueToWrite 47 = .ok (.getfield 78, 3) := by decide +kernel
theorem dX6_valueToWrite_50 : decode cX6_valueToWrite 50 = .ok (.iconst 0, 1) := by decide +kernel
theorem dX6_valueToWrite_51 : decode cX6_valueToWrite 51 = .ok (.iaload, 1) := by decide +kernel
theorem dX6_valueToWrite_52 : decode cX6_valueToWrite 52 = .ok (.ireturn, 1) := by decide +kernel
theorem dX6_valueToWrite_53 : decode cX6_valueToWrite 53 = .ok (.iinc 2 (-1), 3) := by decide +kernel
theorem dX6_valueToWrite_56 : decode cX6_valueToWrite 56 = .ok (.goto (-46), 3) := by decide +kernel
theorem dX6_valueToWrite_59 : decode cX6_valueToWrite 59 = .ok (.iconst 0, 1) := by decide +kernel
theorem dX6_valueToWrite_60 : decode cX6_valueToWrite 60 = .ok (.ireturn, 1) := by decide +kernel
theorem dX7_init_0 : decode cX7_init 0 = .ok (.aload_n 0, 1) := by decide +kernel
theorem dX7_init_1 : decode cX7_init 1 = .ok (.invokespecial 1, 3) := by decide +kernel
theorem dX7_init_4 : decode cX7_init 4 = .ok (.aload_n 0, 1) := by decide +kernel
theorem dX7_init_5 : decode cX7_init 5 = .ok (.new 7, 3) := by decide +kernel
theorem dX7_init_8 : decode cX7_init 8 = .ok (.dup, 1) := by decide +kernel
theorem dX7_init_9 : decode cX7_init 9 = .ok (.invokespecial 9, 3) := by decide +kernel
theorem dX7_init_12 : decode cX7_init 12 = .ok (.putfield 10, 3) := by decide +kernel
theorem dX7_init_15 : decode cX7_init 15 = .ok (.aload_n 0, 1) := by decide +kernel
theorem dX7_init_16 : decode cX7_init 16 = .ok (.iconst 0, 1) := by decide +kernel
theorem dX7_init_17 : decode cX7_init 17 = .ok (.putfield 16, 3) := by decide +kernel
theorem dX7_init_20 : decode cX7_init 20 = .ok (.aload_n 0, 1) := by decide +kernel
theorem dX7_init_21 : decode cX7_init 21 = .ok (.iconst 0, 1) := by decide +kernel
theorem dX7_init_22 : decode cX7_init 22 = .ok (.putfield 20, 3) := by decide +kernel
theorem dX7_init_25 : decode cX7_init 25 = .ok (.return_, 1) := by decide +kernel
theorem dX7_copyFrom_0 : decode cX7_copyFrom 0 = .ok (.aload_n 0, 1) := by decide +kernel
theorem dX7_copyFrom_1 : decode cX7_copyFrom 1 = .ok (.getfield 10, 3) := by decide +kernel
theorem dX7_copyFrom_4 : decode cX7_copyFrom 4 = .ok (.aload_n 1, 1) := by decide +kernel
theorem dX7_copyFrom_5 : decode cX7_copyFrom 5 = .ok (.getfield 10, 3) := by decide +kernel
theorem dX7_copyFrom_8 : decode cX7_copyFrom 8 = .ok (.invokevirtual 23, 3) := by decide +kernel
theorem dX7_copyFrom_11 : decode cX7_copyFrom 11 = .ok (.aload_n 0, 1) := by decide +kernel
theorem dX7_copyFrom_12 : decode cX7_copyFrom 12 = .ok (.aload_n 1, 1) := by decide +kernel
theorem dX7_copyFrom_13 : decode cX7_copyFrom 13 = .ok (.getfield 16, 3) := by decide +kernel
theorem dX7_copyFrom_16 : decode cX7_copyFrom 16 = .ok (.putfield 16, 3) := by decide +kernel
theorem dX7_copyFrom_19 : decode cX7_copyFrom 19 = .ok (.aload_n 0, 1) := by decide +kernel
theorem dX7_copyFrom_20 : decode cX7_copyFrom 20 = .ok (.aload_n 1, 1) := by decide +kernel
theorem dX7_copyFrom_21 : decode cX7_copyFrom 21 = .ok (.getfield 20, 3) := by decide +kernel
theorem dX7_copyFrom_24 : decode cX7_copyFrom 24 = .ok (.putfield 20, 3) := by decide +kernel
theorem dX7_copyFrom_27 : decode cX7_copyFrom 27 = .ok (.return_, 1) := by decide +kernel
theorem dX8_init_0 : decode cX8_init 0 = .ok (.aload_n 0, 1) := by decide +kernel
theorem dX8_init_1 : decode cX8_init 1 = .ok (.invokespecial 3, 3) := by decide +kernel
theorem dX8_init_4 : decode cX8_init 4 = .ok (.aload_n 0, 1) := by decide +kernel
theorem dX8_init_5 : decode cX8_init 5 = .ok (.iconst 0, 1) := by decide +kernel
theorem dX8_init_6 : decode cX8_init 6 = .ok (.putfield 9, 3) := by decide +kernel
theorem dX8_init_9 : decode cX8_init 9 = .ok (.aload_n 0, 1) := by decide +kernel
theorem dX8_init_10 : decode cX8_init 10 = .ok (.iconst 0, 1) := by decide +kernel
theorem dX8_init_11 : decode cX8_init 11 = .ok (.putfield 15, 3) := by decide +kernel
theorem dX8_init_14 : decode cX8_init 14 = .ok (.aload_n 0, 1) := by decide +kernel
theorem dX8_init_15 : decode cX8_init 15 = .ok (.iconst (-1), 1) := by decide +kernel
theorem dX8_init_16 : decode cX8_init 16 = .ok (.putfield 18, 3) := by decide +kernel
theorem dX8_init_19 : decode cX8_init 19 = .ok (.aload_n 0, 1) := by decide +kernel
theorem dX8_init_20 : decode cX8_init 20 = .ok (.iconst 0, 1) := by decide +kernel
theorem dX8_init_21 : decode cX8_init 21 = .ok (.putfield 21, 3) := by decide +kernel
theorem dX8_init_24 : decode cX8_init 24 = .ok (.aload_n 0, 1) := by decide +kernel
theorem dX8_init_25 : decode cX8_init 25 = .ok (.iload_n 1, 1) := by decide +kernel
theorem dX8_init_26 : decode cX8_init 26 = .ok (.putfield 25, 3) := by decide +kernel
theorem dX8_init_29 : decode cX8_init 29 = .ok (.aload_n 0, 1) := by decide +kernel
theorem dX8_init_30 : decode cX8_init 30 = .ok (.iload_n 2, 1) := by decide +kernel
theorem dX8_init_31 : decode cX8_init 31 = .ok (.putfield 28, 3) := by decide +kernel
theorem dX8_init_34 : decode cX8_init 34 = .ok (.aload_n 0, 1) := by decide +kernel
theorem dX8_init_35 : decode cX8_init 35 = .ok (.iload_n 3, 1) := by decide +kernel
theorem dX8_init_36 : decode cX8_init 36 = .ok (.putfield 31, 3) := by decide +kernel
theorem dX8_init_39 : decode cX8_init 39 = .ok (.aload_n 0, 1) := by decide +kernel
theorem dX8_init_40 : decode cX8_init 40 = .ok (.iload 4, 2) := by decide +kernel
theorem dX8_init_42 : decode cX8_init 42 = .ok (.putfield 34, 3) := by decide +kernel
theorem dX8_init_45 : decode cX8_init 45 = .ok (.aload_n 0, 1) := by decide +kernel
theorem dX8_init_46 : decode cX8_init 46 = .ok (.iload_n 3, 1) := by decide +kernel
theorem dX8_init_47 : decode cX8_init 47 = .ok (.iload 4, 2) := by decide +kernel
theorem dX8_init_49 : decode cX8_init 49 = .ok (.iadd, 1) := by decide +kernel
theorem dX8_init_50 : decode cX8_init 50 = .ok (.putfield 37, 3) := by decide +kernel
theorem dX8_init_53 : decode cX8_init 53 = .ok (.aload_n 0, 1) := by decide +kernel
theorem dX8_init_54 : decode cX8_init 54 = .ok (.iload 5, 2) := by decide +kernel
theorem dX8_init_56 : decode cX8_init 56 = .ok (.putfield 40, 3) := by decide +kernel
theorem dX8_init_59 : decode cX8_init 59 = .ok (.aload_n 0, 1) := by decide +kernel
theorem dX8_init_60 : decode cX8_init 60 = .ok (.iconst 1, 1) := by decide +kernel
theorem dX8_init_61 : decode cX8_init 61 = .ok (.iload 4, 2) := by decide +kernel
theorem dX8_init_63 : decode cX8_init 63 = .ok (.bipush 16, 2) := by decide +kernel
theorem dX8_init_65 : decode cX8_init 65 = .ok (.invokestatic 43, 3) := by decide +kernel
theorem dX8_init_68 : decode cX8_init 68 = .ok (.invokestatic 49, 3) := by decide +kernel
theorem dX8_init_71 : decode cX8_init 71 = .ok (.newarray .int, 2) := by decide +kernel
theorem dX8_init_73 : decode cX8_init 73 = .ok (.putfield 52, 3) := by decide +kernel
theorem dX8_init_76 : decode cX8_init 76 = .ok (.return_, 1) := by decide +kernel
theorem dX8_isReadDone_0 : decode cX8_isReadDone 0 = .ok (.aload_n 0, 1) := by decide +kernel
theorem dX8_isReadDone_1 : decode cX8_isReadDone 1 = .ok (.getfield 40, 3) := by decide +kernel
theorem dX8_isReadDone_4 : decode cX8_isReadDone 4 = .ok (.ifCond .ne 15, 3) := by decide +kernel
theorem dX8_isReadDone_7 : decode cX8_isReadDone 7 = .ok (.aload_n 0, 1) := by decide +kernel
theorem dX8_isReadDone_8 : decode cX8_isReadDone 8 = .ok (.getfield 9, 3) := by decide +kernel
theorem dX8_isReadDone_11 : decode cX8_isReadDone 11 = .ok (.iconst 1, 1) := by decide +kernel
theorem dX8_isReadDone_12 : decode cX8_isReadDone 12 = .ok (.if_icmp .ne 7, 3) := by decide +kernel
theorem dX8_isReadDone_15 : decode cX8_isReadDone 15 = .ok (.iconst 1, 1) := by decide +kernel
theorem dX8_isReadDone_16 : decode cX8_isReadDone 16 = .ok (.goto 4, 3) := by decide +kernel
theorem dX8_isReadDone_19 : decode cX8_isReadDone 19 = .ok (.iconst 0, 1) := by decide +kernel
theorem dX8_isReadDone_20 : decode cX8_isReadDone 20 = .ok (.ireturn, 1) := by decide +kernel
theorem dX8_overlaps_0 : decode cX8_overlaps 0 = .ok (.aload_n 0, 1) := by decide +kernel
theorem dX8_overlaps_1 : decode cX8_overlaps 1 = .ok (.getfield 31, 3) := by decide +kernel
theorem dX8_overlaps_4 : decode cX8_overlaps 4 = .ok (.aload_n 1, 1) := by decide +kernel
theorem dX8_overlaps_5 : decode cX8_overlaps 5 = .ok (.getfield 37, 3) := by decide +kernel
theorem dX8_overlaps_8 : decode cX8_overlaps 8 = .ok (.if_icmp .ge 18, 3) := by decide +kernel
theorem dX8_overlaps_11 : decode cX8_overlaps 11 = .ok (.aload_n 1, 1) := by decide +kernel
theorem dX8_overlaps_12 : decode cX8_overlaps 12 = .ok (.getfield 31, 3) := by decide +kernel
theorem dX8_overlaps_15 : decode cX8_overlaps 15 = .ok (.aload_n 0, 1) := by decide +kernel
theorem dX8_overlaps_16 : decode cX8_overlaps 16 = .ok (.getfield 37, 3) := by decide +kernel
theorem dX8_overlaps_19 : decode cX8_overlaps 19 = .ok (.if_icmp .ge 7, 3) := by decide +kernel
theorem dX8_overlaps_22 : decode cX8_overlaps 22 = .ok (.iconst 1, 1) := by decide +kernel
theorem dX8_overlaps_23 : decode cX8_overlaps 23 = .ok (.goto 4, 3) := by decide +kernel
theorem dX8_overlaps_26 : decode cX8_overlaps 26 = .ok (.iconst 0, 1) := by decide +kernel
theorem dX8_overlaps_27 : decode cX8_overlaps 27 = .ok (.ireturn, 1) := by decide +kernel
theorem dX8_settle_0 : decode cX8_settle 0 = .ok (.aload_n 0, 1) := by decide +kernel
theorem dX8_settle_1 : decode cX8_settle 1 = .ok (.iload_n 1, 1) := by decide +kernel
theorem dX8_settle_2 : decode cX8_settle 2 = .ok (.putfield 9, 3) := by decide +kernel
theorem dX8_settle_5 : decode cX8_settle 5 = .ok (.aload_n 0, 1) := by decide +kernel
theorem dX8_settle_6 : decode cX8_settle 6 = .ok (.iload_n 2, 1) := by decide +kernel
theorem dX8_settle_7 : decode cX8_settle 7 = .ok (.putfield 15, 3) := by decide +kernel
theorem dX8_settle_10 : decode cX8_settle 10 = .ok (.aload_n 0, 1) := by decide +kernel
theorem dX8_settle_11 : decode cX8_settle 11 = .ok (.iload_n 3, 1) := by decide +kernel
theorem dX8_settle_12 : decode cX8_settle 12 = .ok (.putfield 18, 3) := by decide +kernel
theorem dX8_settle_15 : decode cX8_settle 15 = .ok (.return_, 1) := by decide +kernel
theorem dX8_takeValues_0 : decode cX8_takeValues 0 = .ok (.iconst 0, 1) := by decide +kernel
theorem dX8_takeValues_1 : decode cX8_takeValues 1 = .ok (.istore_n 3, 1) := by decide +kernel
theorem dX8_takeValues_2 : decode cX8_takeValues 2 = .ok (.iload_n 3, 1) := by decide +kernel
theorem dX8_takeValues_3 : decode cX8_takeValues 3 = .ok (.aload_n 0, 1) := by decide +kernel
theorem dX8_takeValues_4 : decode cX8_takeValues 4 = .ok (.getfield 34, 3) := by decide +kernel
theorem dX8_takeValues_7 : decode cX8_takeValues 7 = .ok (.if_icmp .ge 22, 3) := by decide +kernel
theorem dX8_takeValues_10 : decode cX8_takeValues 10 = .ok (.aload_n 0, 1) := by decide +kernel
theorem dX8_takeValues_11 : decode cX8_takeValues 11 = .ok (.getfield 52, 3) := by decide +kernel
theorem dX8_takeValues_14 : decode cX8_takeValues 14 = .ok (.iload_n 3, 1) := by decide +kernel
theorem dX8_takeValues_15 : decode cX8_takeValues 15 = .ok (.aload_n 1, 1) := by decide +kernel
theorem dX8_takeValues_16 : decode cX8_takeValues 16 = .ok (.iload_n 2, 1) := by decide +kernel
theorem dX8_takeValues_17 : decode cX8_takeValues 17 = .ok (.iload_n 3, 1) := by decide +kernel
theorem dX8_takeValues_18 : decode cX8_takeValues 18 = .ok (.iadd, 1) := by decide +kernel
theorem dX8_takeValues_19 : decode cX8_takeValues 19 = .ok (.invokevirtual 56, 3) := by decide +kernel
theorem dX8_takeValues_22 : decode cX8_takeValues 22 = .ok (.iastore, 1) := by decide +kernel
theorem dX8_takeValues_23 : decode cX8_takeValues 23 = .ok (.iinc 3 1, 3) := by decide +kernel
theorem dX8_takeValues_26 : decode cX8_takeValues 26 = .ok (.goto (-24), 3) := by decide +kernel
theorem dX8_takeValues_29 : decode cX8_takeValues 29 = .ok (.return_, 1) := by decide +kernel
theorem dX9_init_0 : decode cX9_init 0 = .ok (.aload_n 0, 1) := by decide +kernel
theorem dX9_init_1 : decode cX9_init 1 = .ok (.invokespecial 1, 3) := by decide +kernel
theorem dX9_init_4 : decode cX9_init 4 = .ok (.aload_n 0, 1) := by decide +kernel
theorem dX9_init_5 : decode cX9_init 5 = .ok (.new 7, 3) := by decide +kernel
theorem dX9_init_8 : decode cX9_init 8 = .ok (.dup, 1) := by decide +kernel
theorem dX9_init_9 : decode cX9_init 9 = .ok (.invokespecial 9, 3) := by decide +kernel
theorem dX9_init_12 : decode cX9_init 12 = .ok (.putfield 10, 3) := by decide +kernel
theorem dX9_init_15 : decode cX9_init 15 = .ok (.aload_n 0, 1) := by decide +kernel
theorem dX9_init_16 : decode cX9_init 16 = .ok (.new 16, 3) := by decide +kernel
theorem dX9_init_19 : decode cX9_init 19 = .ok (.dup, 1) := by decide +kernel
theorem dX9_init_20 : decode cX9_init 20 = .ok (.invokespecial 18, 3) := by decide +kernel
theorem dX9_init_23 : decode cX9_init 23 = .ok (.putfield 19, 3) := by decide +kernel
theorem dX9_init_26 : decode cX9_init 26 = .ok (.return_, 1) := by decide +kernel
theorem dX9_set_0 : decode cX9_set 0 = .ok (.iload_n 1, 1) := by decide +kernel
theorem dX9_set_1 : decode cX9_set 1 = .ok (.ifCond .lt 8, 3) := by decide +kernel
theorem dX9_set_4 : decode cX9_set 4 = .ok (.iload_n 1, 1) := by decide +kernel
theorem dX9_set_5 : decode cX9_set 5 = .ok (.iconst 5, 1) := by decide +kernel
theorem dX9_set_6 : decode cX9_set 6 = .ok (.if_icmp .lt 13, 3) := by decide +kernel
theorem dX9_set_9 : decode cX9_set 9 = .ok (.new 23, 3) := by decide +kernel
theorem dX9_set_12 : decode cX9_set 12 = .ok (.dup, 1) := by decide +kernel
theorem dX9_set_13 : decode cX9_set 13 = .ok (.ldc 25, 2) := by decide +kernel
theorem dX9_set_15 : decode cX9_set 15 = .ok (.invokespecial 27, 3) := by decide +kernel
theorem dX9_set_18 : decode cX9_set 18 = .ok (.athrow, 1) := by decide +kernel
theorem dX9_set_19 : decode cX9_set 19 = .ok (.iload_n 2, 1) := by decide +kernel
theorem dX9_set_20 : decode cX9_set 20 = .ok (.getstatic 30, 3) := by decide +kernel
theorem dX9_set_23 : decode cX9_set 23 = .ok (.iload_n 1, 1) := by decide +kernel
theorem dX9_set_24 : decode cX9_set 24 = .ok (.iaload, 1) := by decide +kernel
theorem dX9_set_25 : decode cX9_set 25 = .ok (.getstatic 34, 3) := by decide +kernel
theorem dX9_set_28 : decode cX9_set 28 = .ok (.iload_n 1, 1) := by decide +kernel
theorem dX9_set_29 : decode cX9_set 29 = .ok (.iaload, 1) := by decide +kernel
theorem dX9_set_30 : decode cX9_set 30 = .ok (.invokestatic 37, 3) := by decide +kernel
theorem dX9_set_33 : decode cX9_set 33 = .ok (.aload_n 0, 1) := by decide +kernel
theorem dX9_set_34 : decode cX9_set 34 = .ok (.getfield 10, 3) := by decide +kernel
theorem dX9_set_37 : decode cX9_set 37 = .ok (.getfield 41, 3) := by decide +kernel
theorem dX9_set_40 : decode cX9_set 40 = .ok (.iload_n 1, 1) := by decide +kernel
theorem dX9_set_41 : decode cX9_set 41 = .ok (.iaload, 1) := by decide +kernel
theorem dX9_set_42 : decode cX9_set 42 = .ok (.istore_n 3, 1) := by decide +kernel
theorem dX9_set_43 : decode cX9_set 43 = .ok (.aload_n 0, 1) := by decide +kernel
theorem dX9_set_44 : decode cX9_set 44 = .ok (.getfield 10, 3) := by decide +kernel
theorem dX9_set_47 : decode cX9_set 47 = .ok (.getfield 41, 3) := by decide +kernel
theorem dX9_set_50 : decode cX9_set 50 = .ok (.iload_n 1, 1) := by decide +kernel
theorem dX9_set_51 : decode cX9_set 51 = .ok (.iload_n 2, 1) := by decide +kernel
theorem dX9_set_52 : decode cX9_set 52 = .ok (.iastore, 1) := by decide +kernel
theorem dX9_set_53 : decode cX9_set 53 = .ok (.iload_n 3, 1) := by decide +kernel
theorem dX9_set_54 : decode cX9_set 54 = .ok (.ireturn, 1) := by decide +kernel
theorem dX9_setDevice_0 : decode cX9_setDevice 0 = .ok (.iload_n 1, 1) := by decide +kernel
theorem dX9_setDevice_1 : decode cX9_setDevice 1 = .ok (.invokestatic 44, 3) := by decide +kernel
theorem dX9_setDevice_4 : decode cX9_setDevice 4 = .ok (.iload_n 2, 1) := by decide +kernel
theorem dX9_setDevice_5 : decode cX9_setDevice 5 = .ok (.ifCond .lt 8, 3) := by decide +kernel
theorem dX9_setDevice_8 : decode cX9_setDevice 8 = .ok (.iload_n 2, 1) := by decide +kernel
theorem dX9_setDevice_9 : decode cX9_setDevice 9 = .ok (.iconst 1, 1) := by decide +kernel
theorem dX9_setDevice_10 : decode cX9_setDevice 10 = .ok (.if_icmp .le 13, 3) := by decide +kernel
theorem dX9_setDevice_13 : decode cX9_setDevice 13 = .ok (.new 23, 3) := by decide +kernel
theorem dX9_setDevice_16 : decode cX9_setDevice 16 = .ok (.dup, 1) := by decide +kernel
theorem dX9_setDevice_17 : decode cX9_setDevice 17 = .ok (.ldc 48, 2) := by decide +kernel
theorem dX9_setDevice_19 : decode cX9_setDevice 19 = .ok (.invokespecial 27, 3) := by decide +kernel
theorem dX9_setDevice_22 : decode cX9_setDevice 22 = .ok (.athrow, 1) := by decide +kernel
theorem dX9_setDevice_23 : decode cX9_setDevice 23 = .ok (.iload_n 3, 1) := by decide +kernel
theorem dX9_setDevice_24 : decode cX9_setDevice 24 = .ok (.iconst 0, 1) := by decide +kernel
theorem dX9_setDevice_25 : decode cX9_setDevice 25 = .ok (.iload_n 2, 1) := by decide +kernel
theorem dX9_setDevice_26 : decode cX9_setDevice 26 = .ok (.ifCond .ne 9, 3) := by decide +kernel
theorem dX9_setDevice_29 : decode cX9_setDevice 29 = .ok (.sipush 1000, 3) := by decide +kernel
theorem dX9_setDevice_32 : decode cX9_setDevice 32 = .ok (.goto 5, 3) := by decide +kernel
theorem dX9_setDevice_35 : decode cX9_setDevice 35 = .ok (.ldc 50, 2) := by decide +kernel
theorem dX9_setDevice_37 : decode cX9_setDevice 37 = .ok (.invokestatic 37, 3) := by decide +kernel
theorem dX9_setDevice_40 : decode cX9_setDevice 40 = .ok (.aload_n 0, 1) := by decide +kernel
theorem dX9_setDevice_41 : decode cX9_setDevice 41 = .ok (.getfield 10, 3) := by decide +kernel
theorem dX9_setDevice_44 : decode cX9_setDevice 44 = .ok (.getfield 51, 3) := by decide +kernel
theorem dX9_setDevice_47 : decode cX9_setDevice 47 = .ok (.iload_n 1, 1) := by decide +kernel
theorem dX9_setDevice_48 : decode cX9_setDevice 48 = .ok (.iconst 1, 1) := by decide +kernel
theorem dX9_setDevice_49 : decode cX9_setDevice 49 = .ok (.isub, 1) := by decide +kernel
theorem dX9_setDevice_50 : decode cX9_setDevice 50 = .ok (.aaload, 1) := by decide +kernel
theorem dX9_setDevice_51 : decode cX9_setDevice 51 = .ok (.astore 4, 2) := by decide +kernel
theorem dX9_setDevice_53 : decode cX9_setDevice 53 = .ok (.iload_n 2, 1) := by decide +kernel
theorem dX9_setDevice_54 : decode cX9_setDevice 54 = .ok (.ifCond .ne 11, 3) := by decide +kernel
theorem dX9_setDevice_57 : decode cX9_setDevice 57 = .ok (.aload 4, 2) := by decide +kernel
theorem dX9_setDevice_59 : decode cX9_setDevice 59 = .ok (.getfield 55, 3) := by decide +kernel
theorem dX9_setDevice_62 : decode cX9_setDevice 62 = .ok (.goto 8, 3) := by decide +kernel
theorem dX9_setDevice_65 : decode cX9_setDevice 65 = .ok (.aload 4, 2) := by decide +kernel
theorem dX9_setDevice_67 : decode cX9_setDevice 67 = .ok (.getfield 61, 3) := by decide +kernel
theorem dX9_setDevice_70 : decode cX9_setDevice 70 = .ok (.istore 5, 2) := by decide +kernel
theorem dX9_setDevice_72 : decode cX9_setDevice 72 = .ok (.iload_n 2, 1) := by decide +kernel
theorem dX9_setDevice_73 : decode cX9_setDevice 73 = .ok (.ifCond .ne 12, 3) := by decide +kernel
theorem dX9_setDevice_76 : decode cX9_setDevice 76 = .ok (.aload 4, 2) := by decide +kernel
theorem dX9_setDevice_78 : decode cX9_setDevice 78 = .ok (.iload_n 3, 1) := by decide +kernel
theorem dX9_setDevice_79 : decode cX9_setDevice 79 = .ok (.putfield 55, 3) := by decide +kernel
theorem dX9_setDevice_82 : decode cX9_setDevice 82 = .ok (.goto 9, 3) := by decide +kernel
theorem dX9_setDevice_85 : decode cX9_setDevice 85 = .ok (.aload 4, 2) := by decide +kernel
theorem dX9_setDevice_87 : decode cX9_setDevice 87 = .ok (.iload_n 3, 1) := by decide +kernel
theorem dX9_setDevice_88 : decode cX9_setDevice 88 = .ok (.putfield 61, 3) := by decide +kernel
theorem dX9_setDevice_91 : decode cX9_setDevice 91 = .ok (.iload 5, 2) := by decide +kernel
theorem dX9_setDevice_93 : decode cX9_setDevice 93 = .ok (.ireturn, 1) := by decide +kernel
theorem dX9_poke_0 : decode cX9_poke 0 = .ok (.iload_n 1, 1) := by decide +kernel
theorem dX9_poke_1 : decode cX9_poke 1 = .ok (.iload_n 2, 1) := by decide +kernel
theorem dX9_poke_2 : decode cX9_poke 2 = .ok (.invokestatic 64, 3) := by decide +kernel
theorem dX9_poke_5 : decode cX9_poke 5 = .ok (.iload_n 3, 1) := by decide +kernel
theorem dX9_poke_6 : decode cX9_poke 6 = .ok (.iconst 0, 1) := by decide +kernel
theorem dX9_poke_7 : decode cX9_poke 7 = .ok (.ldc 50, 2) := by decide +kernel
theorem dX9_poke_9 : decode cX9_poke 9 = .ok (.invokestatic 37, 3) := by decide +kernel
theorem dX9_poke_12 : decode cX9_poke 12 = .ok (.aload_n 0, 1) := by decide +kernel
theorem dX9_poke_13 : decode cX9_poke 13 = .ok (.getfield 10, 3) := by decide +kernel
theorem dX9_poke_16 : decode cX9_poke 16 = .ok (.getfield 51, 3) := by decide +kernel
theorem dX9_poke_19 : decode cX9_poke 19 = .ok (.iload_n 1, 1) := by decide +kernel
theorem dX9_poke_20 : decode cX9_poke 20 = .ok (.iconst 1, 1) := by decide +kernel
theorem dX9_poke_21 : decode cX9_poke 21 = .ok (.isub, 1) := by decide +kernel
theorem dX9_poke_22 : decode cX9_poke 22 = .ok (.aaload, 1) := by decide +kernel
theorem dX9_poke_23 : decode cX9_poke 23 = .ok (.getfield 68, 3) := by decide +kernel
theorem dX9_poke_26 : decode cX9_poke 26 = .ok (.astore 4, 2) := by decide +kernel
theorem dX9_poke_28 : decode cX9_poke 28 = .ok (.aload 4, 2) := by decide +kernel
theorem dX9_poke_30 : decode cX9_poke 30 = .ok (.iload_n 2, 1) := by decide +kernel
theorem dX9_poke_31 : decode cX9_poke 31 = .ok (.iaload, 1) := by decide +kernel
theorem dX9_poke_32 : decode cX9_poke 32 = .ok (.istore 5, 2) := by decide +kernel
theorem dX9_poke_34 : decode cX9_poke 34 = .ok (.aload 4, 2) := by decide +kernel
theorem dX9_poke_36 : decode cX9_poke 36 = .ok (.iload_n 2, 1) := by decide +kernel
theorem dX9_poke_37 : decode cX9_poke 37 = .ok (.iload_n 3, 1) := by decide +kernel
theorem dX9_poke_38 : decode cX9_poke 38 = .ok (.iastore, 1) := by decide +kernel
theorem dX9_poke_39 : decode cX9_poke 39 = .ok (.iload 5, 2) := by decide +kernel
theorem dX9_poke_41 : decode cX9_poke 41 = .ok (.ireturn, 1) := by decide +kernel
theorem dX9_peek_0 : decode cX9_peek 0 = .ok (.iload_n 1, 1) := by decide +kernel
theorem dX9_peek_1 : decode cX9_peek 1 = .ok (.iload_n 2, 1) := by decide +kernel
theorem dX9_peek_2 : decode cX9_peek 2 = .ok (.invokestatic 64, 3) := by decide +kernel
theorem dX9_peek_5 : decode cX9_peek 5 = .ok (.aload_n 0, 1) := by decide +kernel
theorem dX9_peek_6 : decode cX9_peek 6 = .ok (.getfield 10, 3) := by decide +kernel
theorem dX9_peek_9 : decode cX9_peek 9 = .ok (.getfield 51, 3) := by decide +kernel
theorem dX9_peek_12 : decode cX9_peek 12 = .ok (.iload_n 1, 1) := by decide +kernel
theorem dX9_peek_13 : decode cX9_peek 13 = .ok (.iconst 1, 1) := by decide +kernel
theorem dX9_peek_14 : decode cX9_peek 14 = .ok (.isub, 1) := by decide +kernel
theorem dX9_peek_15 : decode cX9_peek 15 = .ok (.aaload, 1) := by decide +kernel
theorem dX9_peek_16 : decode cX9_peek 16 = .ok (.getfield 68, 3) := by decide +kernel
theorem dX9_peek_19 : decode cX9_peek 19 = .ok (.iload_n 2, 1) := by decide +kernel
theorem dX9_peek_20 : decode cX9_peek 20 = .ok (.iaload, 1) := by decide +kernel
theorem dX9_peek_21 : decode cX9_peek 21 = .ok (.ireturn, 1) := by decide +kernel
theorem dX9_protect_0 : decode cX9_protect 0 = .ok (.iload_n 1, 1) := by decide +kernel
theorem dX9_protect_1 : decode cX9_protect 1 = .ok (.iload_n 2, 1) := by decide +kernel
theorem dX9_protect_2 : decode cX9_protect 2 = .ok (.invokestatic 64, 3) := by decide +kernel
theorem dX9_protect_5 : decode cX9_protect 5 = .ok (.aload_n 0, 1) := by decide +kernel
theorem dX9_protect_6 : decode cX9_protect 6 = .ok (.getfield 10, 3) := by decide +kernel
theorem dX9_protect_9 : decode cX9_protect 9 = .ok (.getfield 51, 3) := by decide +kernel
theorem dX9_protect_12 : decode cX9_protect 12 = .ok (.iload_n 1, 1) := by decide +kernel
theorem dX9_protect_13 : decode cX9_protect 13 = .ok (.iconst 1, 1) := by decide +kernel
theorem dX9_protect_14 : decode cX9_protect 14 = .ok (.isub, 1) := by decide +kernel
theorem dX9_protect_15 : decode cX9_protect 15 = .ok (.aaload, 1) := by decide +kernel
theorem dX9_protect_16 : decode cX9_protect 16 = .ok (.astore 4, 2) := by decide +kernel
theorem dX9_protect_18 : decode cX9_protect 18 = .ok (.aload 4, 2) := by decide +kernel
theorem dX9_protect_20 : decode cX9_protect 20 = .ok (.iload_n 2, 1) := by decide +kernel
theorem dX9_protect_21 : decode cX9_protect 21 = .ok (.invokevirtual 71, 3) := by decide +kernel
theorem dX9_protect_24 : decode cX9_protect 24 = .ok (.istore 5, 2) := by decide +kernel
theorem dX9_protect_26 : decode cX9_protect 26 = .ok (.iconst 1, 1) := by decide +kernel
theorem dX9_protect_27 : decode cX9_protect 27 = .ok (.iload_n 2, 1) := by decide +kernel
theorem dX9_protect_28 : decode cX9_protect 28 = .ok (.ishl, 1) := by decide +kernel
theorem dX9_protect_29 : decode cX9_protect 29 = .ok (.istore 6, 2) := by decide +kernel
theorem dX9_protect_31 : decode cX9_protect 31 = .ok (.aload 4, 2) := by decide +kernel
theorem dX9_protect_33 : decode cX9_protect 33 = .ok (.iload_n 3, 1) := by decide +kernel
theorem dX9_protect_34 : decode cX9_protect 34 = .ok (.ifCond .eq 14, 3) := by decide +kernel
theorem dX9_protect_37 : decode cX9_protect 37 = .ok (.aload 4, 2) := by decide +kernel
theorem dX9_protect_39 : decode cX9_protect 39 = .ok (.getfield 75, 3) := by decide +kernel
theorem dX9_protect_42 : decode cX9_protect 42 = .ok (.iload 6, 2) := by decide +kernel
theorem dX9_protect_44 : decode cX9_protect 44 = .ok (.ior, 1) := by decide +kernel
theorem dX9_protect_45 : decode cX9_protect 45 = .ok (.goto 13, 3) := by decide +kernel
theorem dX9_protect_48 : decode cX9_protect 48 = .ok (.aload 4, 2) := by decide +kernel
theorem dX9_protect_50 : decode cX9_protect 50 = .ok (.getfield 75, 3) := by decide +kernel
theorem dX9_protect_53 : decode cX9_protect 53 = .ok (.iload 6, 2) := by decide +kernel
theorem dX9_protect_55 : decode cX9_protect 55 = .ok (.iconst (-1), 1) := by decide +kernel
theorem dX9_protect_56 : decode cX9_protect 56 = .ok (.ixor, 1) := by decide +kernel
theorem dX9_protect_57 : decode cX9_protect 57 = .ok (.iand, 1) := by decide +kernel
theorem dX9_protect_58 : decode cX9_protect 58 = .ok (.putfield 75, 3) := by decide +kernel
theorem dX9_protect_61 : decode cX9_protect 61 = .ok (.iload 5, 2) := by decide +kernel
theorem dX9_protect_63 : decode cX9_protect 63 = .ok (.ireturn, 1) := by decide +kernel
theorem dX9_fault_0 : decode cX9_fault 0 = .ok (.iload_n 1, 1) := by decide +kernel
theorem dX9_fault_1 : decode cX9_fault 1 = .ok (.invokestatic 44, 3) := by decide +kernel
theorem dX9_fault_4 : decode cX9_fault 4 = .ok (.iload_n 2, 1) := by decide +kernel
theorem dX9_fault_5 : decode cX9_fault 5 = .ok (.iconst 1, 1) := by decide +kernel
theorem dX9_fault_6 : decode cX9_fault 6 = .ok (.iconst 4, 1) := by decide +kernel
theorem dX9_fault_7 : decode cX9_fault 7 = .ok (.invokestatic 37, 3) := by decide +kernel
theorem dX9_fault_10 : decode cX9_fault 10 = .ok (.iload_n 3, 1) := by decide +kernel
theorem dX9_fault_11 : decode cX9_fault 11 = .ok (.iconst 0, 1) := by decide +kernel
theorem dX9_fault_12 : decode cX9_fault 12 = .ok (.sipush 2000, 3) := by decide +kernel
theorem dX9_fault_15 : decode cX9_fault 15 = .ok (.invokestatic 37, 3) := by decide +kernel
theorem dX9_fault_18 : decode cX9_fault 18 = .ok (.aload_n 0, 1) := by decide +kernel
theorem dX9_fault_19 : decode cX9_fault 19 = .ok (.getfield 10, 3) := by decide +kernel
theorem dX9_fault_22 : decode cX9_fault 22 = .ok (.getfield 51, 3) := by decide +kernel
theorem dX9_fault_25 : decode cX9_fault 25 = .ok (.iload_n 1, 1) := by decide +kernel
theorem dX9_fault_26 : decode cX9_fault 26 = .ok (.iconst 1, 1) := by decide +kernel
theorem dX9_fault_27 : decode cX9_fault 27 = .ok (.isub, 1) := by decide +kernel
theorem dX9_fault_28 : decode cX9_fault 28 = .ok (.aaload, 1) := by decide +kernel
theorem dX9_fault_29 : decode cX9_fault 29 = .ok (.astore 4, 2) := by decide +kernel
theorem dX9_fault_31 : decode cX9_fault 31 = .ok (.aload 4, 2) := by decide +kernel
theorem dX9_fault_33 : decode cX9_fault 33 = .ok (.getfield 78, 3) := by decide +kernel
theorem dX9_fault_36 : decode cX9_fault 36 = .ok (.bipush 6, 2) := by decide +kernel
theorem dX9_fault_38 : decode cX9_fault 38 = .ok (.if_icmp .lt 13, 3) := by decide +kernel
theorem dX9_fault_41 : decode cX9_fault 41 = .ok (.new 81, 3) := by decide +kernel
theorem dX9_fault_44 : decode cX9_fault 44 = .ok (.dup, 1) := by decide +kernel
theorem dX9_fault_45 : decode cX9_fault 45 = .ok (.ldc 83, 2) := by decide +kernel
theorem dX9_fault_47 : decode cX9_fault 47 = .ok (.invokespecial 85, 3) := by decide +kernel
theorem dX9_fault_50 : decode cX9_fault 50 = .ok (.athrow, 1) := by decide +kernel
theorem dX9_fault_51 : decode cX9_fault 51 = .ok (.aload 4, 2) := by decide +kernel
theorem dX9_fault_53 : decode cX9_fault 53 = .ok (.iload_n 2, 1) := by decide +kernel
theorem dX9_fault_54 : decode cX9_fault 54 = .ok (.iload_n 3, 1) := by decide +kernel
theorem dX9_fault_55 : decode cX9_fault 55 = .ok (.invokevirtual 86, 3) := by decide +kernel
theorem dX9_fault_58 : decode cX9_fault 58 = .ok (.aload 4, 2) := by decide +kernel
theorem dX9_fault_60 : decode cX9_fault 60 = .ok (.getfield 78, 3) := by decide +kernel
theorem dX9_fault_63 : decode cX9_fault 63 = .ok (.ireturn, 1) := by decide +kernel
theorem dX9_read_0 : decode cX9_read 0 = .ok (.iload_n 1, 1) := by decide +kernel
theorem dX9_read_1 : decode cX9_read 1 = .ok (.invokestatic 89, 3) := by decide +kernel
theorem dX9_read_4 : decode cX9_read 4 = .ok (.iload_n 2, 1) := by decide +kernel
theorem dX9_read_5 : decode cX9_read 5 = .ok (.invokestatic 44, 3) := by decide +kernel
theorem dX9_read_8 : decode cX9_read 8 = .ok (.iload_n 3, 1) := by decide +kernel
theorem dX9_read_9 : decode cX9_read 9 = .ok (.iconst 0, 1) := by decide +kernel
theorem dX9_read_10 : decode cX9_read 10 = .ok (.sipush 1000, 3) := by decide +kernel
theorem dX9_read_13 : decode cX9_read 13 = .ok (.invokestatic 37, 3) := by decide +kernel
theorem dX9_read_16 : decode cX9_read 16 = .ok (.iload 4, 2) := by decide +kernel
theorem dX9_read_18 : decode cX9_read 18 = .ok (.iconst 1, 1) := by decide +kernel
theorem dX9_read_19 : decode cX9_read 19 = .ok (.bipush 16, 2) := by decide +kernel
theorem dX9_read_21 : decode cX9_read 21 = .ok (.invokestatic 37, 3) := by decide +kernel
theorem dX9_read_24 : decode cX9_read 24 = .ok (.aload_n 0, 1) := by decide +kernel
theorem dX9_read_25 : decode cX9_read 25 = .ok (.invokevirtual 92, 3) := by decide +kernel
theorem dX9_read_28 : decode cX9_read 28 = .ok (.aload_n 0, 1) := by decide +kernel
theorem dX9_read_29 : decode cX9_read 29 = .ok (.getfield 10, 3) := by decide +kernel
theorem dX9_read_32 : decode cX9_read 32 = .ok (.getfield 95, 3) := by decide +kernel
theorem dX9_read_35 : decode cX9_read 35 = .ok (.new 99, 3) := by decide +kernel
theorem dX9_read_38 : decode cX9_read 38 = .ok (.dup, 1) := by decide +kernel
theorem dX9_read_39 : decode cX9_read 39 = .ok (.iload_n 1, 1) := by decide +kernel
theorem dX9_read_40 : decode cX9_read 40 = .ok (.iload_n 2, 1) := by decide +kernel
theorem dX9_read_41 : decode cX9_read 41 = .ok (.iload_n 3, 1) := by decide +kernel
theorem dX9_read_42 : decode cX9_read 42 = .ok (.iload 4, 2) := by decide +kernel
theorem dX9_read_44 : decode cX9_read 44 = .ok (.iconst 0, 1) := by decide +kernel
theorem dX9_read_45 : decode cX9_read 45 = .ok (.invokespecial 101, 3) := by decide +kernel
theorem dX9_read_48 : decode cX9_read 48 = .ok (.invokevirtual 104, 3) := by decide +kernel
theorem dX9_read_51 : decode cX9_read 51 = .ok (.ireturn, 1) := by decide +kernel
theorem dX9_write_0 : decode cX9_write 0 = .ok (.iload_n 1, 1) := by decide +kernel
theorem dX9_write_1 : decode cX9_write 1 = .ok (.invokestatic 89, 3) := by decide +kernel
theorem dX9_write_4 : decode cX9_write 4 = .ok (.iload_n 2, 1) := by decide +kernel
theorem dX9_write_5 : decode cX9_write 5 = .ok (.invokestatic 44, 3) := by decide +kernel
theorem dX9_write_8 : decode cX9_write 8 = .ok (.iload_n 3, 1) := by decide +kernel
theorem dX9_write_9 : decode cX9_write 9 = .ok (.iconst 0, 1) := by decide +kernel
theorem dX9_write_10 : decode cX9_write 10 = .ok (.sipush 1000, 3) := by decide +kernel
theorem dX9_write_13 : decode cX9_write 13 = .ok (.invokestatic 37, 3) := by decide +kernel
theorem dX9_write_16 : decode cX9_write 16 = .ok (.iload 4, 2) := by decide +kernel
theorem dX9_write_18 : decode cX9_write 18 = .ok (.iconst 0, 1) := by decide +kernel
theorem dX9_write_19 : decode cX9_write 19 = .ok (.ldc 50, 2) := by decide +kernel
theorem dX9_write_21 : decode cX9_write 21 = .ok (.invokestatic 37, 3) := by decide +kernel
theorem dX9_write_24 : decode cX9_write 24 = .ok (.aload_n 0, 1) := by decide +kernel
theorem dX9_write_25 : decode cX9_write 25 = .ok (.invokevirtual 92, 3) := by decide +kernel
theorem dX9_write_28 : decode cX9_write 28 = .ok (.new 99, 3) := by decide +kernel
theorem dX9_write_31 : decode cX9_write 31 = .ok (.dup, 1) := by decide +kernel
theorem dX9_write_32 : decode cX9_write 32 = .ok (.iload_n 1, 1) := by decide +kernel
theorem dX9_write_33 : decode cX9_write 33 = .ok (.iload_n 2, 1) := by decide +kernel
theorem dX9_write_34 : decode cX9_write 34 = .ok (.iload_n 3, 1) := by decide +kernel
theorem dX9_write_35 : decode cX9_write 35 = .ok (.iconst 1, 1) := by decide +kernel
theorem dX9_write_36 : decode cX9_write 36 = .ok (.iconst 1, 1) := by decide +kernel
theorem dX9_write_37 : decode cX9_write 37 = .ok (.invokespecial 101, 3) := by decide +kernel
theorem dX9_write_40 : decode cX9_write 40 = .ok (.astore 5, 2) := by decide +kernel
theorem dX9_write_42 : decode cX9_write 42 = .ok (.aload 5, 2) := by decide +kernel
theorem dX9_write_44 : decode cX9_write 44 = .ok (.getfield 110, 3) := by decide +kernel
theorem dX9_write_47 : decode cX9_write 47 = .ok (.iconst 0, 1) := by decide +kernel
theorem dX9_write_48 : decode cX9_write 48 = .ok (.iload 4, 2) := by decide +kernel
theorem dX9_write_50 : decode cX9_write 50 = .ok (.iastore, 1) := by decide +kernel
theorem dX9_write_51 : decode cX9_write 51 = .ok (.aload_n 0, 1) := by decide +kernel
theorem dX9_write_52 : decode cX9_write 52 = .ok (.getfield 10, 3) := by decide +kernel
theorem dX9_write_55 : decode cX9_write 55 = .ok (.getfield 95, 3) := by decide +kernel
theorem dX9_write_58 : decode cX9_write 58 = .ok (.aload 5, 2) := by decide +kernel
theorem dX9_write_60 : decode cX9_write 60 = .ok (.invokevirtual 104, 3) := by decide +kernel
theorem dX9_write_63 : decode cX9_write 63 = .ok (.ireturn, 1) := by decide +kernel
theorem dX9_request_0 : decode cX9_request 0 = .ok (.aload_n 0, 1) := by decide +kernel
theorem dX9_request_1 : decode cX9_request 1 = .ok (.iload_n 1, 1) := by decide +kernel
theorem dX9_request_2 : decode cX9_request 2 = .ok (.invokevirtual 113, 3) := by decide +kernel
theorem dX9_request_5 : decode cX9_request 5 = .ok (.astore_n 3, 1) := by decide +kernel
theorem dX9_request_6 : decode cX9_request 6 = .ok (.iload_n 2, 1) := by decide +kernel
theorem dX9_request_7 : decode cX9_request 7 = .ok (.tableswitch 110 0 8 #[49, 54, 59, 64, 69, 82, 87, 92, 97], 49) := by decide +kernel
theorem dX9_request_56 : decode cX9_request 56 = .ok (.aload_n 3, 1) := by decide +kernel
theorem dX9_request_57 : decode cX9_request 57 = .ok (.getfield 117, 3) := by decide +kernel
theorem dX9_request_60 : decode cX9_request 60 = .ok (.ireturn, 1) := by decide +kernel
theorem dX9_request_61 : decode cX9_request 61 = .ok (.aload_n 3, 1) := by decide +kernel
theorem dX9_request_62 : decode cX9_request 62 = .ok (.getfield 120, 3) := by decide +kernel
theorem dX9_request_65 : decode cX9_request 65 = .ok (.ireturn, 1) := by decide +kernel
theorem dX9_request_66 : decode cX9_request 66 = .ok (.aload_n 3, 1) := by decide +kernel
theorem dX9_request_67 : decode cX9_request 67 = .ok (.getfield 123, 3) := by decide +kernel
theorem dX9_request_70 : decode cX9_request 70 = .ok (.ireturn, 1) := by decide +kernel
theorem dX9_request_71 : decode cX9_request 71 = .ok (.aload_n 3, 1) := by decide +kernel
theorem dX9_request_72 : decode cX9_request 72 = .ok (.getfield 126, 3) := by decide +kernel
theorem dX9_request_75 : decode cX9_request 75 = .ok (.ireturn, 1) := by decide +kernel
theorem dX9_request_76 : decode cX9_request 76 = .ok (.aload_n 3, 1) := by decide +kernel
theorem dX9_request_77 : decode cX9_request 77 = .ok (.getfield 129, 3) := by decide +kernel
theorem dX9_request_80 : decode cX9_request 80 = .ok (.ifCond .eq 7, 3) := by decide +kernel
theorem dX9_request_83 : decode cX9_request 83 = .ok (.iconst 1, 1) := by decide +kernel
theorem dX9_request_84 : decode cX9_request 84 = .ok (.goto 4, 3) := by decide +kernel
theorem dX9_request_87 : decode cX9_request 87 = .ok (.iconst 0, 1) := by decide +kernel
theorem dX9_request_88 : decode cX9_request 88 = .ok (.ireturn, 1) := by decide +kernel
theorem dX9_request_89 : decode cX9_request 89 = .ok (.aload_n 3, 1) := by decide +kernel
theorem dX9_request_90 : decode cX9_request 90 = .ok (.getfield 133, 3) := by decide +kernel
theorem dX9_request_93 : decode cX9_request 93 = .ok (.ireturn, 1) := by decide +kernel
theorem dX9_request_94 : decode cX9_request 94 = .ok (.aload_n 3, 1) := by decide +kernel
theorem dX9_request_95 : decode cX9_request 95 = .ok (.getfield 136, 3) := by decide +kernel
theorem dX9_request_98 : decode cX9_request 98 = .ok (.ireturn, 1) := by decide +kernel
theorem dX9_request_99 : decode cX9_request 99 = .ok (.aload_n 3, 1) := by decide +kernel
theorem dX9_request_100 : decode cX9_request 100 = .ok (.getfield 139, 3) := by decide +kernel
theorem dX9_request_103 : decode cX9_request 103 = .ok (.ireturn, 1) := by decide +kernel
theorem dX9_request_104 : decode cX9_request 104 = .ok (.aload_n 3, 1) := by decide +kernel
theorem dX9_request_105 : decode cX9_request 105 = .ok (.getfield 142, 3) := by decide +kernel
theorem dX9_request_108 : decode cX9_request 108 = .ok (.ifCond .eq 7, 3) := by decide +kernel
theorem dX9_request_111 : decode cX9_request 111 = .ok (.iconst 1, 1) := by decide +kernel
theorem dX9_request_112 : decode cX9_request 112 = .ok (.goto 4, 3) := by decide +kernel
theorem dX9_request_115 : decode cX9_request 115 = .ok (.iconst 0, 1) := by decide +kernel
theorem dX9_request_116 : decode cX9_request 116 = .ok (.ireturn, 1) := by decide +kernel
theorem dX9_request_117 : decode cX9_request 117 = .ok (.new 23, 3) := by decide +kernel
theorem dX9_request_120 : decode cX9_request 120 = .ok (.dup, 1) := by decide +kernel
theorem dX9_request_121 : decode cX9_request 121 = .ok (.ldc 145, 2) := by decide +kernel
theorem dX9_request_123 : decode cX9_request 123 = .ok (.invokespecial 27, 3) := by decide +kernel
theorem dX9_request_126 : decode cX9_request 126 = .ok (.athrow, 1) := by decide +kernel
theorem dX9_value_0 : decode cX9_value 0 = .ok (.aload_n 0, 1) := by decide +kernel
theorem dX9_value_1 : decode cX9_value 1 = .ok (.iload_n 1, 1) := by decide +kernel
theorem dX9_value_2 : decode cX9_value 2 = .ok (.invokevirtual 113, 3) := by decide +kernel
theorem dX9_value_5 : decode cX9_value 5 = .ok (.astore_n 3, 1) := by decide +kernel
theorem dX9_value_6 : decode cX9_value 6 = .ok (.iload_n 2, 1) := by decide +kernel
theorem dX9_value_7 : decode cX9_value 7 = .ok (.ifCond .lt 11, 3) := by decide +kernel
theorem dX9_value_10 : decode cX9_value 10 = .ok (.iload_n 2, 1) := by decide +kernel
theorem dX9_value_11 : decode cX9_value 11 = .ok (.aload_n 3, 1) := by decide +kernel
theorem dX9_value_12 : decode cX9_value 12 = .ok (.getfield 126, 3) := by decide +kernel
theorem dX9_value_15 : decode cX9_value 15 = .ok (.if_icmp .lt 13, 3) := by decide +kernel
theorem dX9_value_18 : decode cX9_value 18 = .ok (.new 23, 3) := by decide +kernel
theorem dX9_value_21 : decode cX9_value 21 = .ok (.dup, 1) := by decide +kernel
theorem dX9_value_22 : decode cX9_value 22 = .ok (.ldc 147, 2) := by decide +kernel
theorem dX9_value_24 : decode cX9_value 24 = .ok (.invokespecial 27, 3) := by decide +kernel
theorem dX9_value_27 : decode cX9_value 27 = .ok (.athrow, 1) := by decide +kernel
theorem dX9_value_28 : decode cX9_value 28 = .ok (.aload_n 3, 1) := by decide +kernel
theorem dX9_value_29 : decode cX9_value 29 = .ok (.invokevirtual 149, 3) := by decide +kernel
theorem dX9_value_32 : decode cX9_value 32 = .ok (.ifCond .ne 13, 3) := by decide +kernel
theorem dX9_value_35 : decode cX9_value 35 = .ok (.new 81, 3) := by decide +kernel
theorem dX9_value_38 : decode cX9_value 38 = .ok (.dup, 1) := by decide +kernel
theorem dX9_value_39 : decode cX9_value 39 = .ok (.ldc 153, 2) := by decide +kernel
theorem dX9_value_41 : decode cX9_value 41 = .ok (.invokespecial 85, 3) := by decide +kernel
theorem dX9_value_44 : decode cX9_value 44 = .ok (.athrow, 1) := by decide +kernel
theorem dX9_value_45 : decode cX9_value 45 = .ok (.aload_n 3, 1) := by decide +kernel
theorem dX9_value_46 : decode cX9_value 46 = .ok (.getfield 110, 3) := by decide +kernel
theorem dX9_value_49 : decode cX9_value 49 = .ok (.iload_n 2, 1) := by decide +kernel
theorem dX9_value_50 : decode cX9_value 50 = .ok (.iaload, 1) := by decide +kernel
theorem dX9_value_51 : decode cX9_value 51 = .ok (.ireturn, 1) := by decide +kernel
theorem dX9_requests_0 : decode cX9_requests 0 = .ok (.iload_n 1, 1) := by decide +kernel
theorem dX9_requests_1 : decode cX9_requests 1 = .ok (.invokestatic 155, 3) := by decide +kernel
theorem dX9_requests_4 : decode cX9_requests 4 = .ok (.iconst 0, 1) := by decide +kernel
theorem dX9_requests_5 : decode cX9_requests 5 = .ok (.istore_n 2, 1) := by decide +kernel
theorem dX9_requests_6 : decode cX9_requests 6 = .ok (.iconst 0, 1) := by decide +kernel
theorem dX9_requests_7 : decode cX9_requests 7 = .ok (.istore_n 3, 1) := by decide +kernel
theorem dX9_requests_8 : decode cX9_requests 8 = .ok (.iload_n 3, 1) := by decide +kernel
theorem dX9_requests_9 : decode cX9_requests 9 = .ok (.iconst 4, 1) := by decide +kernel
theorem dX9_requests_10 : decode cX9_requests 10 = .ok (.if_icmp .ge 24, 3) := by decide +kernel
theorem dX9_requests_13 : decode cX9_requests 13 = .ok (.iload_n 2, 1) := by decide +kernel
theorem dX9_requests_14 : decode cX9_requests 14 = .ok (.aload_n 0, 1) := by decide +kernel
theorem dX9_requests_15 : decode cX9_requests 15 = .ok (.getfield 10, 3) := by decide +kernel
theorem dX9_requests_18 : decode cX9_requests 18 = .ok (.getfield 95, 3) := by decide +kernel
theorem dX9_requests_21 : decode cX9_requests 21 = .ok (.iload_n 3, 1) := by decide +kernel
theorem dX9_requests_22 : decode cX9_requests 22 = .ok (.iload_n 1, 1) := by decide +kernel
theorem dX9_requests_23 : decode cX9_requests 23 = .ok (.invokevirtual 158, 3) := by decide +kernel
theorem dX9_requests_26 : decode cX9_requests 26 = .ok (.iadd, 1) := by decide +kernel
theorem dX9_requests_27 : decode cX9_requests 27 = .ok (.istore_n 2, 1) := by decide +kernel
theorem dX9_requests_28 : decode cX9_requests 28 = .ok (.iinc 3 1, 3) := by decide +kernel
theorem dX9_requests_31 : decode cX9_requests 31 = .ok (.goto (-23), 3) := by decide +kernel
theorem dX9_requests_34 : decode cX9_requests 34 = .ok (.iload_n 2, 1) := by decide +kernel
theorem dX9_requests_35 : decode cX9_requests 35 = .ok (.ireturn, 1) := by decide +kernel
theorem dX9_requestsOf_0 : decode cX9_requestsOf 0 = .ok (.iload_n 1, 1) := by decide +kernel
theorem dX9_requestsOf_1 : decode cX9_requestsOf 1 = .ok (.invokestatic 89, 3) := by decide +kernel
theorem dX9_requestsOf_4 : decode cX9_requestsOf 4 = .ok (.iload_n 2, 1) := by decide +kernel
theorem dX9_requestsOf_5 : decode cX9_requestsOf 5 = .ok (.invokestatic 155, 3) := by decide +kernel
theorem dX9_requestsOf_8 : decode cX9_requestsOf 8 = .ok (.aload_n 0, 1) := by decide +kernel
theorem dX9_requestsOf_9 : decode cX9_requestsOf 9 = .ok (.getfield 10, 3) := by decide +kernel
theorem dX9_requestsOf_12 : decode cX9_requestsOf 12 = .ok (.getfield 95, 3) := by decide +kernel
theorem dX9_requestsOf_15 : decode cX9_requestsOf 15 = .ok (.iload_n 1, 1) := by decide +kernel
theorem dX9_requestsOf_16 : decode cX9_requestsOf 16 = .ok (.iload_n 2, 1) := by decide +kernel
theorem dX9_requestsOf_17 : decode cX9_requestsOf 17 = .ok (.invokevirtual 158, 3) := by decide +kernel
theorem dX9_requestsOf_20 : decode cX9_requestsOf 20 = .ok (.ireturn, 1) := by decide +kernel
theorem dX9_step_0 : decode cX9_step 0 = .ok (.aload_n 0, 1) := by decide +kernel
theorem dX9_step_1 : decode cX9_step 1 = .ok (.getfield 10, 3) := by decide +kernel
theorem dX9_step_4 : decode cX9_step 4 = .ok (.invokevirtual 162, 3) := by decide +kernel
theorem dX9_step_7 : decode cX9_step 7 = .ok (.ireturn, 1) := by decide +kernel
theorem dX9_finish_0 : decode cX9_finish 0 = .ok (.aload_n 0, 1) := by decide +kernel
theorem dX9_finish_1 : decode cX9_finish 1 = .ok (.getfield 10, 3) := by decide +kernel
theorem dX9_finish_4 : decode cX9_finish 4 = .ok (.invokevirtual 162, 3) := by decide +kernel
theorem dX9_finish_7 : decode cX9_finish 7 = .ok (.istore_n 1, 1) := by decide +kernel
theorem dX9_finish_8 : decode cX9_finish 8 = .ok (.iconst 1, 1) := by decide +kernel
theorem dX9_finish_9 : decode cX9_finish 9 = .ok (.istore_n 2, 1) := by decide +kernel
theorem dX9_finish_10 : decode cX9_finish 10 = .ok (.iload_n 2, 1) := by decide +kernel
theorem dX9_finish_11 : decode cX9_finish 11 = .ok (.bipush 40, 2) := by decide +kernel
theorem dX9_finish_13 : decode cX9_finish 13 = .ok (.if_icmp .ge 21, 3) := by decide +kernel
theorem dX9_finish_16 : decode cX9_finish 16 = .ok (.iload_n 1, 1) := by decide +kernel
theorem dX9_finish_17 : decode cX9_finish 17 = .ok (.ifCond .le 17, 3) := by decide +kernel
theorem dX9_finish_20 : decode cX9_finish 20 = .ok (.aload_n 0, 1) := by decide +kernel
theorem dX9_finish_21 : decode cX9_finish 21 = .ok (.getfield 10, 3) := by decide +kernel
theorem dX9_finish_24 : decode cX9_finish 24 = .ok (.invokevirtual 162, 3) := by decide +kernel
theorem dX9_finish_27 : decode cX9_finish 27 = .ok (.istore_n 1, 1) := by decide +kernel
theorem dX9_finish_28 : decode cX9_finish 28 = .ok (.iinc 2 1, 3) := by decide +kernel
theorem dX9_finish_31 : decode cX9_finish 31 = .ok (.goto (-21), 3) := by decide +kernel
theorem dX9_finish_34 : decode cX9_finish 34 = .ok (.aload_n 0, 1) := by decide +kernel
theorem dX9_finish_35 : decode cX9_finish 35 = .ok (.getfield 10, 3) := by decide +kernel
theorem dX9_finish_38 : decode cX9_finish 38 = .ok (.getfield 166, 3) := by decide +kernel
theorem dX9_finish_41 : decode cX9_finish 41 = .ok (.ireturn, 1) := by decide +kernel
theorem dX9_pass_0 : decode cX9_pass 0 = .ok (.iload_n 1, 1) := by decide +kernel
theorem dX9_pass_1 : decode cX9_pass 1 = .ok (.iconst 0, 1) := by decide +kernel
theorem dX9_pass_2 : decode cX9_pass 2 = .ok (.sipush 10000, 3) := by decide +kernel
theorem dX9_pass_5 : decode cX9_pass 5 = .ok (.invokestatic 37, 3) := by decide +kernel
theorem dX9_pass_8 : decode cX9_pass 8 = .ok (.aload_n 0, 1) := by decide +kernel
theorem dX9_pass_9 : decode cX9_pass 9 = .ok (.getfield 10, 3) := by decide +kernel
theorem dX9_pass_12 : decode cX9_pass 12 = .ok (.getfield 166, 3) := by decide +kernel
theorem dX9_pass_15 : decode cX9_pass 15 = .ok (.ldc 169, 2) := by decide +kernel
theorem dX9_pass_17 : decode cX9_pass 17 = .ok (.iload_n 1, 1) := by decide +kernel
theorem dX9_pass_18 : decode cX9_pass 18 = .ok (.isub, 1) := by decide +kernel
theorem dX9_pass_19 : decode cX9_pass 19 = .ok (.if_icmp .le 13, 3) := by decide +kernel
theorem dX9_pass_22 : decode cX9_pass 22 = .ok (.new 81, 3) := by decide +kernel
theorem dX9_pass_25 : decode cX9_pass 25 = .ok (.dup, 1) := by decide +kernel
theorem dX9_pass_26 : decode cX9_pass 26 = .ok (.ldc 170, 2) := by decide +kernel
theorem dX9_pass_28 : decode cX9_pass 28 = .ok (.invokespecial 85, 3) := by decide +kernel
theorem dX9_pass_31 : decode cX9_pass 31 = .ok (.athrow, 1) := by decide +kernel
theorem dX9_pass_32 : decode cX9_pass 32 = .ok (.aload_n 0, 1) := by decide +kernel
theorem dX9_pass_33 : decode cX9_pass 33 = .ok (.getfield 10, 3) := by decide +kernel
theorem dX9_pass_36 : decode cX9_pass 36 = .ok (.dup, 1) := by decide +kernel
theorem dX9_pass_37 : decode cX9_pass 37 = .ok (.getfield 166, 3) := by decide +kernel
theorem dX9_pass_40 : decode cX9_pass 40 = .ok (.iload_n 1, 1) := by decide +kernel
theorem dX9_pass_41 : decode cX9_pass 41 = .ok (.iadd, 1) := by decide +kernel
theorem dX9_pass_42 : decode cX9_pass 42 = .ok (.putfield 166, 3) := by decide +kernel
theorem dX9_pass_45 : decode cX9_pass 45 = .ok (.aload_n 0, 1) := by decide +kernel
theorem dX9_pass_46 : decode cX9_pass 46 = .ok (.getfield 10, 3) := by decide +kernel
theorem dX9_pass_49 : decode cX9_pass 49 = .ok (.getfield 166, 3) := by decide +kernel
theorem dX9_pass_52 : decode cX9_pass 52 = .ok (.ireturn, 1) := by decide +kernel
theorem dX9_time_0 : decode cX9_time 0 = .ok (.aload_n 0, 1) := by decide +kernel
theorem dX9_time_1 : decode cX9_time 1 = .ok (.getfield 10, 3) := by decide +kernel
theorem dX9_time_4 : decode cX9_time 4 = .ok (.getfield 166, 3) := by decide +kernel
theorem dX9_time_7 : decode cX9_time 7 = .ok (.ireturn, 1) := by decide +kernel
theorem dX9_group_0 : decode cX9_group 0 = .ok (.aload_n 0, 1) := by decide +kernel
theorem dX9_group_1 : decode cX9_group 1 = .ok (.getfield 10, 3) := by decide +kernel
theorem dX9_group_4 : decode cX9_group 4 = .ok (.invokevirtual 172, 3) := by decide +kernel
theorem dX9_group_7 : decode cX9_group 7 = .ok (.aload_n 0, 1) := by decide +kernel
theorem dX9_group_8 : decode cX9_group 8 = .ok (.getfield 10, 3) := by decide +kernel
theorem dX9_group_11 : decode cX9_group 11 = .ok (.getfield 95, 3) := by decide +kernel
theorem dX9_group_14 : decode cX9_group 14 = .ok (.getfield 175, 3) := by decide +kernel
theorem dX9_group_17 : decode cX9_group 17 = .ok (.lreturn, 1) := by decide +kernel
theorem dX9_frameByte_0 : decode cX9_frameByte 0 = .ok (.iload_n 1, 1) := by decide +kernel
theorem dX9_frameByte_1 : decode cX9_frameByte 1 = .ok (.ifCond .ge 13, 3) := by decide +kernel
theorem dX9_frameByte_4 : decode cX9_frameByte 4 = .ok (.new 23, 3) := by decide +kernel
theorem dX9_frameByte_7 : decode cX9_frameByte 7 = .ok (.dup, 1) := by decide +kernel
theorem dX9_frameByte_8 : decode cX9_frameByte 8 = .ok (.ldc 179, 2) := by decide +kernel
theorem dX9_frameByte_10 : decode cX9_frameByte 10 = .ok (.invokespecial 27, 3) := by decide +kernel
theorem dX9_frameByte_13 : decode cX9_frameByte 13 = .ok (.athrow, 1) := by decide +kernel
theorem dX9_frameByte_14 : decode cX9_frameByte 14 = .ok (.aload_n 0, 1) := by decide +kernel
theorem dX9_frameByte_15 : decode cX9_frameByte 15 = .ok (.getfield 10, 3) := by decide +kernel
theorem dX9_frameByte_18 : decode cX9_frameByte 18 = .ok (.invokevirtual 172, 3) := by decide +kernel
theorem dX9_frameByte_21 : decode cX9_frameByte 21 = .ok (.iload_n 1, 1) := by decide +kernel
theorem dX9_frameByte_22 : decode cX9_frameByte 22 = .ok (.aload_n 0, 1) := by decide +kernel
theorem dX9_frameByte_23 : decode cX9_frameByte 23 = .ok (.getfield 10, 3) := by decide +kernel
theorem dX9_frameByte_26 : decode cX9_frameByte 26 = .ok (.getfield 181, 3) := by decide +kernel
theorem dX9_frameByte_29 : decode cX9_frameByte 29 = .ok (.getfield 185, 3) := by decide +kernel
theorem dX9_frameByte_32 : decode cX9_frameByte 32 = .ok (.if_icmp .ge 17, 3) := by decide +kernel
theorem dX9_frameByte_35 : decode cX9_frameByte 35 = .ok (.aload_n 0, 1) := by decide +kernel
theorem dX9_frameByte_36 : decode cX9_frameByte 36 = .ok (.getfield 10, 3) := by decide +kernel
theorem dX9_frameByte_39 : decode cX9_frameByte 39 = .ok (.getfield 181, 3) := by decide +kernel
theorem dX9_frameByte_42 : decode cX9_frameByte 42 = .ok (.iload_n 1, 1) := by decide +kernel
theorem dX9_frameByte_43 : decode cX9_frameByte 43 = .ok (.invokevirtual 190, 3) := by decide +kernel
theorem dX9_frameByte_46 : decode cX9_frameByte 46 = .ok (.goto 4, 3) := by decide +kernel
theorem dX9_frameByte_49 : decode cX9_frameByte 49 = .ok (.iconst (-1), 1) := by decide +kernel
theorem dX9_frameByte_50 : decode cX9_frameByte 50 = .ok (.ireturn, 1) := by decide +kernel
theorem dX9_cacheAge_0 : decode cX9_cacheAge 0 = .ok (.iload_n 1, 1) := by decide +kernel
theorem dX9_cacheAge_1 : decode cX9_cacheAge 1 = .ok (.iload_n 2, 1) := by decide +kernel
theorem dX9_cacheAge_2 : decode cX9_cacheAge 2 = .ok (.invokestatic 64, 3) := by decide +kernel
theorem dX9_cacheAge_5 : decode cX9_cacheAge 5 = .ok (.aload_n 0, 1) := by decide +kernel
theorem dX9_cacheAge_6 : decode cX9_cacheAge 6 = .ok (.getfield 10, 3) := by decide +kernel
theorem dX9_cacheAge_9 : decode cX9_cacheAge 9 = .ok (.getfield 194, 3) := by decide +kernel
theorem dX9_cacheAge_12 : decode cX9_cacheAge 12 = .ok (.iload_n 1, 1) := by decide +kernel
theorem dX9_cacheAge_13 : decode cX9_cacheAge 13 = .ok (.iload_n 2, 1) := by decide +kernel
theorem dX9_cacheAge_14 : decode cX9_cacheAge 14 = .ok (.aload_n 0, 1) := by decide +kernel
theorem dX9_cacheAge_15 : decode cX9_cacheAge 15 = .ok (.getfield 10, 3) := by decide +kernel
theorem dX9_cacheAge_18 : decode cX9_cacheAge 18 = .ok (.getfield 166, 3) := by decide +kernel
theorem dX9_cacheAge_21 : decode cX9_cacheAge 21 = .ok (.invokevirtual 198, 3) := by decide +kernel
theorem dX9_cacheAge_24 : decode cX9_cacheAge 24 = .ok (.ireturn, 1) := by decide +kernel
theorem dX9_cached_0 : decode cX9_cached 0 = .ok (.iload_n 1, 1) := by decide +kernel
theorem dX9_cached_1 : decode cX9_cached 1 = .ok (.iload_n 2, 1) := by decide +kernel
theorem dX9_cached_2 : decode cX9_cached 2 = .ok (.invokestatic 64, 3) := by decide +kernel
theorem dX9_cached_5 : decode cX9_cached 5 = .ok (.aload_n 0, 1) := by decide +kernel
theorem dX9_cached_6 : decode cX9_cached 6 = .ok (.getfield 10, 3) := by decide +kernel
theorem dX9_cached_9 : decode cX9_cached 9 = .ok (.getfield 194, 3) := by decide +kernel
theorem dX9_cached_12 : decode cX9_cached 12 = .ok (.iload_n 1, 1) := by decide +kernel
theorem dX9_cached_13 : decode cX9_cached 13 = .ok (.iload_n 2, 1) := by decide +kernel
theorem dX9_cached_14 : decode cX9_cached 14 = .ok (.invokevirtual 204, 3) := by decide +kernel
theorem dX9_cached_17 : decode cX9_cached 17 = .ok (.ireturn, 1) := by decide +kernel
theorem dX9_clearCache_0 : decode cX9_clearCache 0 = .ok (.aload_n 0, 1) := by decide +kernel
theorem dX9_clearCache_1 : decode cX9_clearCache 1 = .ok (.getfield 10, 3) := by decide +kernel
theorem dX9_clearCache_4 : decode cX9_clearCache 4 = .ok (.getfield 194, 3) := by decide +kernel
theorem dX9_clearCache_7 : decode cX9_clearCache 7 = .ok (.invokevirtual 207, 3) := by decide +kernel
theorem dX9_clearCache_10 : decode cX9_clearCache 10 = .ok (.ireturn, 1) := by decide +kernel
theorem dX9_count_0 : decode cX9_count 0 = .ok (.iload_n 1, 1) := by decide +kernel
theorem dX9_count_1 : decode cX9_count 1 = .ok (.ifCond .lt 9, 3) := by decide +kernel
theorem dX9_count_4 : decode cX9_count 4 = .ok (.iload_n 1, 1) := by decide +kernel
theorem dX9_count_5 : decode cX9_count 5 = .ok (.bipush 6, 2) := by decide +kernel
theorem dX9_count_7 : decode cX9_count 7 = .ok (.if_icmp .lt 13, 3) := by decide +kernel
theorem dX9_count_10 : decode cX9_count 10 = .ok (.new 23, 3) := by decide +kernel
theorem dX9_count_13 : decode cX9_count 13 = .ok (.dup, 1) := by decide +kernel
theorem dX9_count_14 : decode cX9_count 14 = .ok (.ldc 210, 2) := by decide +kernel
theorem dX9_count_16 : decode cX9_count 16 = .ok (.invokespecial 27, 3) := by decide +kernel
theorem dX9_count_19 : decode cX9_count 19 = .ok (.athrow, 1) := by decide +kernel
theorem dX9_count_20 : decode cX9_count 20 = .ok (.aload_n 0, 1) := by decide +kernel
theorem dX9_count_21 : decode cX9_count 21 = .ok (.getfield 10, 3) := by decide +kernel
theorem dX9_count_24 : decode cX9_count 24 = .ok (.getfield 212, 3) := by decide +kernel
theorem dX9_count_27 : decode cX9_count 27 = .ok (.iload_n 1, 1) := by decide +kernel
theorem dX9_count_28 : decode cX9_count 28 = .ok (.iaload, 1) := by decide +kernel
theorem dX9_count_29 : decode cX9_count 29 = .ok (.ireturn, 1) := by decide +kernel
theorem dX9_leastDrain_0 : decode cX9_leastDrain 0 = .ok (.iload_n 1, 1) := by decide +kernel
theorem dX9_leastDrain_1 : decode cX9_leastDrain 1 = .ok (.iconst 0, 1) := by decide +kernel
theorem dX9_leastDrain_2 : decode cX9_leastDrain 2 = .ok (.bipush 40, 2) := by decide +kernel
theorem dX9_leastDrain_4 : decode cX9_leastDrain 4 = .ok (.invokestatic 37, 3) := by decide +kernel
theorem dX9_leastDrain_7 : decode cX9_leastDrain 7 = .ok (.aload_n 0, 1) := by decide +kernel
theorem dX9_leastDrain_8 : decode cX9_leastDrain 8 = .ok (.getfield 215, 3) := by decide +kernel
theorem dX9_leastDrain_11 : decode cX9_leastDrain 11 = .ok (.ifnonnull 14, 3) := by decide +kernel
theorem dX9_leastDrain_14 : decode cX9_leastDrain 14 = .ok (.aload_n 0, 1) := by decide +kernel
theorem dX9_leastDrain_15 : decode cX9_leastDrain 15 = .ok (.new 7, 3) := by decide +kernel
theorem dX9_leastDrain_18 : decode cX9_leastDrain 18 = .ok (.dup, 1) := by decide +kernel
theorem dX9_leastDrain_19 : decode cX9_leastDrain 19 = .ok (.invokespecial 9, 3) := by decide +kernel
theorem dX9_leastDrain_22 : decode cX9_leastDrain 22 = .ok (.putfield 215, 3) := by decide +kernel
theorem dX9_leastDrain_25 : decode cX9_leastDrain 25 = .ok (.iconst 0, 1) := by decide +kernel
theorem dX9_leastDrain_26 : decode cX9_leastDrain 26 = .ok (.istore_n 2, 1) := by decide +kernel
theorem dX9_leastDrain_27 : decode cX9_leastDrain 27 = .ok (.iload_n 2, 1) := by decide +kernel
theorem dX9_leastDrain_28 : decode cX9_leastDrain 28 = .ok (.iload_n 1, 1) := by decide +kernel
theorem dX9_leastDrain_29 : decode cX9_leastDrain 29 = .ok (.if_icmp .gt 88, 3) := by decide +kernel
theorem dX9_leastDrain_32 : decode cX9_leastDrain 32 = .ok (.aload_n 0, 1) := by decide +kernel
theorem dX9_leastDrain_33 : decode cX9_leastDrain 33 = .ok (.getfield 215, 3) := by decide +kernel
theorem dX9_leastDrain_36 : decode cX9_leastDrain 36 = .ok (.aload_n 0, 1) := by decide +kernel
theorem dX9_leastDrain_37 : decode cX9_leastDrain 37 = .ok (.getfield 10, 3) := by decide +kernel
theorem dX9_leastDrain_40 : decode cX9_leastDrain 40 = .ok (.invokevirtual 218, 3) := by decide +kernel
theorem dX9_leastDrain_43 : decode cX9_leastDrain 43 = .ok (.aload_n 0, 1) := by decide +kernel
theorem dX9_leastDrain_44 : decode cX9_leastDrain 44 = .ok (.getfield 215, 3) := by decide +kernel
theorem dX9_leastDrain_47 : decode cX9_leastDrain 47 = .ok (.getfield 41, 3) := by decide +kernel
theorem dX9_leastDrain_50 : decode cX9_leastDrain 50 = .ok (.iconst 3, 1) := by decide +kernel
theorem dX9_leastDrain_51 : decode cX9_leastDrain 51 = .ok (.iload_n 2, 1) := by decide +kernel
theorem dX9_leastDrain_52 : decode cX9_leastDrain 52 = .ok (.iastore, 1) := by decide +kernel
theorem dX9_leastDrain_53 : decode cX9_leastDrain 53 = .ok (.aload_n 0, 1) := by decide +kernel
theorem dX9_leastDrain_54 : decode cX9_leastDrain 54 = .ok (.getfield 215, 3) := by decide +kernel
theorem dX9_leastDrain_57 : decode cX9_leastDrain 57 = .ok (.invokevirtual 162, 3) := by decide +kernel
theorem dX9_leastDrain_60 : decode cX9_leastDrain 60 = .ok (.istore_n 3, 1) := by decide +kernel
theorem dX9_leastDrain_61 : decode cX9_leastDrain 61 = .ok (.iconst 1, 1) := by decide +kernel
theorem dX9_leastDrain_62 : decode cX9_leastDrain 62 = .ok (.istore 4, 2) := by decide +kernel
theorem dX9_leastDrain_64 : decode cX9_leastDrain 64 = .ok (.iload 4, 2) := by decide +kernel
theorem dX9_leastDrain_66 : decode cX9_leastDrain 66 = .ok (.bipush 40, 2) := by decide +kernel
theorem dX9_leastDrain_68 : decode cX9_leastDrain 68 = .ok (.if_icmp .ge 31, 3) := by decide +kernel
theorem dX9_leastDrain_71 : decode cX9_leastDrain 71 = .ok (.iload_n 3, 1) := by decide +kernel
theorem dX9_leastDrain_72 : decode cX9_leastDrain 72 = .ok (.ifCond .le 27, 3) := by decide +kernel
theorem dX9_leastDrain_75 : decode cX9_leastDrain 75 = .ok (.aload_n 0, 1) := by decide +kernel
theorem dX9_leastDrain_76 : decode cX9_leastDrain 76 = .ok (.getfield 215, 3) := by decide +kernel
theorem dX9_leastDrain_79 : decode cX9_leastDrain 79 = .ok (.getfield 222, 3) := by decide +kernel
theorem dX9_leastDrain_82 : decode cX9_leastDrain 82 = .ok (.ifCond .ne 17, 3) := by decide +kernel
theorem dX9_leastDrain_85 : decode cX9_leastDrain 85 = .ok (.aload_n 0, 1) := by decide +kernel
theorem dX9_leastDrain_86 : decode cX9_leastDrain 86 = .ok (.getfield 215, 3) := by decide +kernel
theorem dX9_leastDrain_89 : decode cX9_leastDrain 89 = .ok (.invokevirtual 162, 3) := by decide +kernel
theorem dX9_leastDrain_92 : decode cX9_leastDrain 92 = .ok (.istore_n 3, 1) := by decide +kernel
theorem dX9_leastDrain_93 : decode cX9_leastDrain 93 = .ok (.iinc 4 1, 3) := by decide +kernel
theorem dX9_leastDrain_96 : decode cX9_leastDrain 96 = .ok (.goto (-32), 3) := by decide +kernel
theorem dX9_leastDrain_99 : decode cX9_leastDrain 99 = .ok (.aload_n 0, 1) := by decide +kernel
theorem dX9_leastDrain_100 : decode cX9_leastDrain 100 = .ok (.getfield 215, 3) := by decide +kernel
theorem dX9_leastDrain_103 : decode cX9_leastDrain 103 = .ok (.getfield 222, 3) := by decide +kernel
theorem dX9_leastDrain_106 : decode cX9_leastDrain 106 = .ok (.ifCond .ne 5, 3) := by decide +kernel
theorem dX9_leastDrain_109 : decode cX9_leastDrain 109 = .ok (.iload_n 2, 1) := by decide +kernel
theorem dX9_leastDrain_110 : decode cX9_leastDrain 110 = .ok (.ireturn, 1) := by decide +kernel
theorem dX9_leastDrain_111 : decode cX9_leastDrain 111 = .ok (.iinc 2 1, 3) := by decide +kernel
theorem dX9_leastDrain_114 : decode cX9_leastDrain 114 = .ok (.goto (-87), 3) := by decide +kernel
theorem dX9_leastDrain_117 : decode cX9_leastDrain 117 = .ok (.iconst (-1), 1) := by decide +kernel
theorem dX9_leastDrain_118 : decode cX9_leastDrain 118 = .ok (.ireturn, 1) := by decide +kernel
theorem dX9_feed_0 : decode cX9_feed 0 = .ok (.iload_n 1, 1) := by decide +kernel
theorem dX9_feed_1 : decode cX9_feed 1 = .ok (.iconst 0, 1) := by decide +kernel
theorem dX9_feed_2 : decode cX9_feed 2 = .ok (.sipush 255, 3) := by decide +kernel
theorem dX9_feed_5 : decode cX9_feed 5 = .ok (.invokestatic 37, 3) := by decide +kernel
theorem dX9_feed_8 : decode cX9_feed 8 = .ok (.iload_n 2, 1) := by decide +kernel
theorem dX9_feed_9 : decode cX9_feed 9 = .ok (.iconst 0, 1) := by decide +kernel
theorem dX9_feed_10 : decode cX9_feed 10 = .ok (.sipush 1000, 3) := by decide +kernel
theorem dX9_feed_13 : decode cX9_feed 13 = .ok (.invokestatic 37, 3) := by decide +kernel
theorem dX9_feed_16 : decode cX9_feed 16 = .ok (.aload_n 0, 1) := by decide +kernel
theorem dX9_feed_17 : decode cX9_feed 17 = .ok (.getfield 19, 3) := by decide +kernel
theorem dX9_feed_20 : decode cX9_feed 20 = .ok (.iload_n 1, 1) := by decide +kernel
theorem dX9_feed_21 : decode cX9_feed 21 = .ok (.iload_n 2, 1) := by decide +kernel
theorem dX9_feed_22 : decode cX9_feed 22 = .ok (.invokevirtual 225, 3) := by decide +kernel
theorem dX9_feed_25 : decode cX9_feed 25 = .ok (.aload_n 0, 1) := by decide +kernel
theorem dX9_feed_26 : decode cX9_feed 26 = .ok (.getfield 19, 3) := by decide +kernel
theorem dX9_feed_29 : decode cX9_feed 29 = .ok (.getfield 228, 3) := by decide +kernel
theorem dX9_feed_32 : decode cX9_feed 32 = .ok (.ireturn, 1) := by decide +kernel
theorem dX9_endFrame_0 : decode cX9_endFrame 0 = .ok (.aload_n 0, 1) := by decide +kernel
theorem dX9_endFrame_1 : decode cX9_endFrame 1 = .ok (.getfield 19, 3) := by decide +kernel
theorem dX9_endFrame_4 : decode cX9_endFrame 4 = .ok (.invokevirtual 229, 3) := by decide +kernel
theorem dX9_endFrame_7 : decode cX9_endFrame 7 = .ok (.aload_n 0, 1) := by decide +kernel
theorem dX9_endFrame_8 : decode cX9_endFrame 8 = .ok (.getfield 19, 3) := by decide +kernel
theorem dX9_endFrame_11 : decode cX9_endFrame 11 = .ok (.getfield 232, 3) := by decide +kernel
theorem dX9_endFrame_14 : decode cX9_endFrame 14 = .ok (.ireturn, 1) := by decide +kernel
theorem dX9_verdict_0 : decode cX9_verdict 0 = .ok (.iload_n 1, 1) := by decide +kernel
theorem dX9_verdict_1 : decode cX9_verdict 1 = .ok (.invokestatic 235, 3) := by decide +kernel
theorem dX9_verdict_4 : decode cX9_verdict 4 = .ok (.aload_n 0, 1) := by decide +kernel
theorem dX9_verdict_5 : decode cX9_verdict 5 = .ok (.getfield 19, 3) := by decide +kernel
theorem dX9_verdict_8 : decode cX9_verdict 8 = .ok (.iload_n 1, 1) := by decide +kernel
theorem dX9_verdict_9 : decode cX9_verdict 9 = .ok (.invokevirtual 238, 3) := by decide +kernel
theorem dX9_verdict_12 : decode cX9_verdict 12 = .ok (.ifCond .eq 22, 3) := by decide +kernel
theorem dX9_verdict_15 : decode cX9_verdict 15 = .ok (.aload_n 0, 1) := by decide +kernel
theorem dX9_verdict_16 : decode cX9_verdict 16 = .ok (.getfield 19, 3) := by decide +kernel
theorem dX9_verdict_19 : decode cX9_verdict 19 = .ok (.getfield 241, 3) := by decide +kernel
theorem dX9_verdict_22 : decode cX9_verdict 22 = .ok (.aload_n 0, 1) := by decide +kernel
theorem dX9_verdict_23 : decode cX9_verdict 23 = .ok (.getfield 19, 3) := by decide +kernel
theorem dX9_verdict_26 : decode cX9_verdict 26 = .ok (.iload_n 1, 1) := by decide +kernel
theorem dX9_verdict_27 : decode cX9_verdict 27 = .ok (.invokevirtual 244, 3) := by decide +kernel
theorem dX9_verdict_30 : decode cX9_verdict 30 = .ok (.iaload, 1) := by decide +kernel
theorem dX9_verdict_31 : decode cX9_verdict 31 = .ok (.goto 4, 3) := by decide +kernel
theorem dX9_verdict_34 : decode cX9_verdict 34 = .ok (.iconst (-1), 1) := by decide +kernel
theorem dX9_verdict_35 : decode cX9_verdict 35 = .ok (.ireturn, 1) := by decide +kernel
theorem dX9_length_0 : decode cX9_length 0 = .ok (.iload_n 1, 1) := by decide +kernel
theorem dX9_length_1 : decode cX9_length 1 = .ok (.invokestatic 235, 3) := by decide +kernel
theorem dX9_length_4 : decode cX9_length 4 = .ok (.aload_n 0, 1) := by decide +kernel
theorem dX9_length_5 : decode cX9_length 5 = .ok (.getfield 19, 3) := by decide +kernel
theorem dX9_length_8 : decode cX9_length 8 = .ok (.iload_n 1, 1) := by decide +kernel
theorem dX9_length_9 : decode cX9_length 9 = .ok (.invokevirtual 238, 3) := by decide +kernel
theorem dX9_length_12 : decode cX9_length 12 = .ok (.ifCond .eq 22, 3) := by decide +kernel
theorem dX9_length_15 : decode cX9_length 15 = .ok (.aload_n 0, 1) := by decide +kernel
theorem dX9_length_16 : decode cX9_length 16 = .ok (.getfield 19, 3) := by decide +kernel
theorem dX9_length_19 : decode cX9_length 19 = .ok (.getfield 247, 3) := by decide +kernel
theorem dX9_length_22 : decode cX9_length 22 = .ok (.aload_n 0, 1) := by decide +kernel
theorem dX9_length_23 : decode cX9_length 23 = .ok (.getfield 19, 3) := by decide +kernel
theorem dX9_length_26 : decode cX9_length 26 = .ok (.iload_n 1, 1) := by decide +kernel
theorem dX9_length_27 : decode cX9_length 27 = .ok (.invokevirtual 244, 3) := by decide +kernel
theorem dX9_length_30 : decode cX9_length 30 = .ok (.iaload, 1) := by decide +kernel
theorem dX9_length_31 : decode cX9_length 31 = .ok (.goto 4, 3) := by decide +kernel
theorem dX9_length_34 : decode cX9_length 34 = .ok (.iconst (-1), 1) := by decide +kernel
theorem dX9_length_35 : decode cX9_length 35 = .ok (.ireturn, 1) := by decide +kernel
theorem dX9_checksum_0 : decode cX9_checksum 0 = .ok (.aload_n 0, 1) := by decide +kernel
theorem dX9_checksum_1 : decode cX9_checksum 1 = .ok (.getfield 19, 3) := by decide +kernel
theorem dX9_checksum_4 : decode cX9_checksum 4 = .ok (.getfield 250, 3) := by decide +kernel
theorem dX9_checksum_7 : decode cX9_checksum 7 = .ok (.ireturn, 1) := by decide +kernel
theorem dX9_fingerprint_0 : decode cX9_fingerprint 0 = .ok (.ldc2_w 253, 3) := by decide +kernel
theorem dX9_fingerprint_3 : decode cX9_fingerprint 3 = .ok (.aload_n 0, 1) := by decide +kernel
theorem dX9_fingerprint_4 : decode cX9_fingerprint 4 = .ok (.getfield 10, 3) := by decide +kernel
theorem dX9_fingerprint_7 : decode cX9_fingerprint 7 = .ok (.getfield 166, 3) := by decide +kernel
theorem dX9_fingerprint_10 : decode cX9_fingerprint 10 = .ok (.invokestatic 255, 3) := by decide +kernel
theorem dX9_fingerprint_13 : decode cX9_fingerprint 13 = .ok (.lstore_n 1, 1) := by decide +kernel
theorem dX9_fingerprint_14 : decode cX9_fingerprint 14 = .ok (.iconst 0, 1) := by decide +kernel
theorem dX9_fingerprint_15 : decode cX9_fingerprint 15 = .ok (.istore_n 3, 1) := by decide +kernel
theorem dX9_fingerprint_16 : decode cX9_fingerprint 16 = .ok (.iload_n 3, 1) := by decide +kernel
theorem dX9_fingerprint_17 : decode cX9_fingerprint 17 = .ok (.bipush 6, 2) := by decide +kernel
theorem dX9_fingerprint_19 : decode cX9_fingerprint 19 = .ok (.if_icmp .ge 19, 3) := by decide +kernel
theorem dX9_fingerprint_22 : decode cX9_fingerprint 22 = .ok (.lload_n 1, 1) := by decide +kernel
theorem dX9_fingerprint_23 : decode cX9_fingerprint 23 = .ok (.aload_n 0, 1) := by decide +kernel
theorem dX9_fingerprint_24 : decode cX9_fingerprint 24 = .ok (.iload_n 3, 1) := by decide +kernel
theorem dX9_fingerprint_25 : decode cX9_fingerprint 25 = .ok (.invokevirtual 259, 3) := by decide +kernel
theorem dX9_fingerprint_28 : decode cX9_fingerprint 28 = .ok (.invokestatic 255, 3) := by decide +kernel
theorem dX9_fingerprint_31 : decode cX9_fingerprint 31 = .ok (.lstore_n 1, 1) := by decide +kernel
theorem dX9_fingerprint_32 : decode cX9_fingerprint 32 = .ok (.iinc 3 1, 3) := by decide +kernel
theorem dX9_fingerprint_35 : decode cX9_fingerprint 35 = .ok (.goto (-19), 3) := by decide +kernel
theorem dX9_fingerprint_38 : decode cX9_fingerprint 38 = .ok (.iconst 0, 1) := by decide +kernel
theorem dX9_fingerprint_39 : decode cX9_fingerprint 39 = .ok (.istore_n 3, 1) := by decide +kernel
theorem dX9_fingerprint_40 : decode cX9_fingerprint 40 = .ok (.iload_n 3, 1) := by decide +kernel
theorem dX9_fingerprint_41 : decode cX9_fingerprint 41 = .ok (.iconst 3, 1) := by decide +kernel
theorem dX9_fingerprint_42 : decode cX9_fingerprint 42 = .ok (.if_icmp .ge 19, 3) := by decide +kernel
theorem dX9_fingerprint_45 : decode cX9_fingerprint 45 = .ok (.lload_n 1, 1) := by decide +kernel
theorem dX9_fingerprint_46 : decode cX9_fingerprint 46 = .ok (.aload_n 0, 1) := by decide +kernel
theorem dX9_fingerprint_47 : decode cX9_fingerprint 47 = .ok (.iload_n 3, 1) := by decide +kernel
theorem dX9_fingerprint_48 : decode cX9_fingerprint 48 = .ok (.invokevirtual 261, 3) := by decide +kernel
theorem dX9_fingerprint_51 : decode cX9_fingerprint 51 = .ok (.invokestatic 255, 3) := by decide +kernel
theorem dX9_fingerprint_54 : decode cX9_fingerprint 54 = .ok (.lstore_n 1, 1) := by decide +kernel
theorem dX9_fingerprint_55 : decode cX9_fingerprint 55 = .ok (.iinc 3 1, 3) := by decide +kernel
theorem dX9_fingerprint_58 : decode cX9_fingerprint 58 = .ok (.goto (-18), 3) := by decide +kernel
theorem dX9_fingerprint_61 : decode cX9_fingerprint 61 = .ok (.iconst 0, 1) := by decide +kernel
theorem dX9_fingerprint_62 : decode cX9_fingerprint 62 = .ok (.istore_n 3, 1) := by decide +kernel
theorem dX9_fingerprint_63 : decode cX9_fingerprint 63 = .ok (.iload_n 3, 1) := by decide +kernel
theorem dX9_fingerprint_64 : decode cX9_fingerprint 64 = .ok (.aload_n 0, 1) := by decide +kernel
theorem dX9_fingerprint_65 : decode cX9_fingerprint 65 = .ok (.getfield 10, 3) := by decide +kernel
theorem dX9_fingerprint_68 : decode cX9_fingerprint 68 = .ok (.getfield 95, 3) := by decide +kernel
theorem dX9_fingerprint_71 : decode cX9_fingerprint 71 = .ok (.getfield 264, 3) := by decide +kernel
theorem dX9_fingerprint_74 : decode cX9_fingerprint 74 = .ok (.invokevirtual 267, 3) := by decide +kernel
theorem dX9_fingerprint_77 : decode cX9_fingerprint 77 = .ok (.if_icmp .ge 31, 3) := by decide +kernel
theorem dX9_fingerprint_80 : decode cX9_fingerprint 80 = .ok (.lload_n 1, 1) := by decide +kernel
theorem dX9_fingerprint_81 : decode cX9_fingerprint 81 = .ok (.aload_n 0, 1) := by decide +kernel
theorem dX9_fingerprint_82 : decode cX9_fingerprint 82 = .ok (.getfield 10, 3) := by decide +kernel
theorem dX9_fingerprint_85 : decode cX9_fingerprint 85 = .ok (.getfield 95, 3) := by decide +kernel
theorem dX9_fingerprint_88 : decode cX9_fingerprint 88 = .ok (.getfield 264, 3) := by decide +kernel
theorem dX9_fingerprint_91 : decode cX9_fingerprint 91 = .ok (.iload_n 3, 1) := by decide +kernel
theorem dX9_fingerprint_92 : decode cX9_fingerprint 92 = .ok (.invokevirtual 271, 3) := by decide +kernel
theorem dX9_fingerprint_95 : decode cX9_fingerprint 95 = .ok (.checkcast 99, 3) := by decide +kernel
theorem dX9_fingerprint_98 : decode cX9_fingerprint 98 = .ok (.invokestatic 275, 3) := by decide +kernel
theorem dX9_fingerprint_101 : decode cX9_fingerprint 101 = .ok (.lstore_n 1, 1) := by decide +kernel
theorem dX9_fingerprint_102 : decode cX9_fingerprint 102 = .ok (.iinc 3 1, 3) := by decide +kernel
theorem dX9_fingerprint_105 : decode cX9_fingerprint 105 = .ok (.goto (-42), 3) := by decide +kernel
theorem dX9_fingerprint_108 : decode cX9_fingerprint 108 = .ok (.iconst 1, 1) := by decide +kernel
theorem dX9_fingerprint_109 : decode cX9_fingerprint 109 = .ok (.istore_n 3, 1) := by decide +kernel
theorem dX9_fingerprint_110 : decode cX9_fingerprint 110 = .ok (.iload_n 3, 1) := by decide +kernel
theorem dX9_fingerprint_111 : decode cX9_fingerprint 111 = .ok (.iconst 3, 1) := by decide +kernel
theorem dX9_fingerprint_112 : decode cX9_fingerprint 112 = .ok (.if_icmp .gt 65, 3) := by decide +kernel
theorem dX9_fingerprint_115 : decode cX9_fingerprint 115 = .ok (.iconst 0, 1) := by decide +kernel
theorem dX9_fingerprint_116 : decode cX9_fingerprint 116 = .ok (.istore 4, 2) := by decide +kernel
theorem dX9_fingerprint_118 : decode cX9_fingerprint 118 = .ok (.iload 4, 2) := by decide +kernel
theorem dX9_fingerprint_120 : decode cX9_fingerprint 120 = .ok (.bipush 32, 2) := by decide +kernel
theorem dX9_fingerprint_122 : decode cX9_fingerprint 122 = .ok (.if_icmp .ge 49, 3) := by decide +kernel
theorem dX9_fingerprint_125 : decode cX9_fingerprint 125 = .ok (.lload_n 1, 1) := by decide +kernel
theorem dX9_fingerprint_126 : decode cX9_fingerprint 126 = .ok (.aload_n 0, 1) := by decide +kernel
theorem dX9_fingerprint_127 : decode cX9_fingerprint 127 = .ok (.getfield 10, 3) := by decide +kernel
theorem dX9_fingerprint_130 : decode cX9_fingerprint 130 = .ok (.getfield 51, 3) := by decide +kernel
theorem dX9_fingerprint_133 : decode cX9_fingerprint 133 = .ok (.iload_n 3, 1) := by decide +kernel
theorem dX9_fingerprint_134 : decode cX9_fingerprint 134 = .ok (.iconst 1, 1) := by decide +kernel
theorem dX9_fingerprint_135 : decode cX9_fingerprint 135 = .ok (.isub, 1) := by decide +kernel
theorem dX9_fingerprint_136 : decode cX9_fingerprint 136 = .ok (.aaload, 1) := by decide +kernel
theorem dX9_fingerprint_137 : decode cX9_fingerprint 137 = .ok (.getfield 68, 3) := by decide +kernel
theorem dX9_fingerprint_140 : decode cX9_fingerprint 140 = .ok (.iload 4, 2) := by decide +kernel
theorem dX9_fingerprint_142 : decode cX9_fingerprint 142 = .ok (.iaload, 1) := by decide +kernel
theorem dX9_fingerprint_143 : decode cX9_fingerprint 143 = .ok (.invokestatic 255, 3) := by decide +kernel
theorem dX9_fingerprint_146 : decode cX9_fingerprint 146 = .ok (.lstore_n 1, 1) := by decide +kernel
theorem dX9_fingerprint_147 : decode cX9_fingerprint 147 = .ok (.lload_n 1, 1) := by decide +kernel
theorem dX9_fingerprint_148 : decode cX9_fingerprint 148 = .ok (.aload_n 0, 1) := by decide +kernel
theorem dX9_fingerprint_149 : decode cX9_fingerprint 149 = .ok (.getfield 10, 3) := by decide +kernel
theorem dX9_fingerprint_152 : decode cX9_fingerprint 152 = .ok (.getfield 194, 3) := by decide +kernel
theorem dX9_fingerprint_155 : decode cX9_fingerprint 155 = .ok (.iload_n 3, 1) := by decide +kernel
theorem dX9_fingerprint_156 : decode cX9_fingerprint 156 = .ok (.iload 4, 2) := by decide +kernel
theorem dX9_fingerprint_158 : decode cX9_fingerprint 158 = .ok (.invokevirtual 204, 3) := by decide +kernel
theorem dX9_fingerprint_161 : decode cX9_fingerprint 161 = .ok (.invokestatic 255, 3) := by decide +kernel
theorem dX9_fingerprint_164 : decode cX9_fingerprint 164 = .ok (.lstore_n 1, 1) := by decide +kernel
theorem dX9_fingerprint_165 : decode cX9_fingerprint 165 = .ok (.iinc 4 1, 3) := by decide +kernel
theorem dX9_fingerprint_168 : decode cX9_fingerprint 168 = .ok (.goto (-50), 3) := by decide +kernel
theorem dX9_fingerprint_171 : decode cX9_fingerprint 171 = .ok (.iinc 3 1, 3) := by decide +kernel
theorem dX9_fingerprint_174 : decode cX9_fingerprint 174 = .ok (.goto (-64), 3) := by decide +kernel
theorem dX9_fingerprint_177 : decode cX9_fingerprint 177 = .ok (.lload_n 1, 1) := by decide +kernel
theorem dX9_fingerprint_178 : decode cX9_fingerprint 178 = .ok (.lreturn, 1) := by decide +kernel
theorem dX9_mix_0 : decode cX9_mix 0 = .ok (.ldc2_w 279, 3) := by decide +kernel
theorem dX9_mix_3 : decode cX9_mix 3 = .ok (.lload_n 0, 1) := by decide +kernel
theorem dX9_mix_4 : decode cX9_mix 4 = .ok (.lmul, 1) := by decide +kernel
theorem dX9_mix_5 : decode cX9_mix 5 = .ok (.iload_n 2, 1) := by decide +kernel
theorem dX9_mix_6 : decode cX9_mix 6 = .ok (.i2l, 1) := by decide +kernel
theorem dX9_mix_7 : decode cX9_mix 7 = .ok (.ladd, 1) := by decide +kernel
theorem dX9_mix_8 : decode cX9_mix 8 = .ok (.lreturn, 1) := by decide +kernel
theorem dX9_mixRequest_0 : decode cX9_mixRequest 0 = .ok (.lload_n 0, 1) := by decide +kernel
theorem dX9_mixRequest_1 : decode cX9_mixRequest 1 = .ok (.aload_n 2, 1) := by decide +kernel
theorem dX9_mixRequest_2 : decode cX9_mixRequest 2 = .ok (.getfield 133, 3) := by decide +kernel
theorem dX9_mixRequest_5 : decode cX9_mixRequest 5 = .ok (.invokestatic 255, 3) := by decide +kernel
theorem dX9_mixRequest_8 : decode cX9_mixRequest 8 = .ok (.lstore_n 3, 1) := by decide +kernel
theorem dX9_mixRequest_9 : decode cX9_mixRequest 9 = .ok (.lload_n 3, 1) := by decide +kernel
theorem dX9_mixRequest_10 : decode cX9_mixRequest 10 = .ok (.aload_n 2, 1) := by decide +kernel
theorem dX9_mixRequest_11 : decode cX9_mixRequest 11 = .ok (.getfield 136, 3) := by decide +kernel
theorem dX9_mixRequest_14 : decode cX9_mixRequest 14 = .ok (.invokestatic 255, 3) := by decide +kernel
theorem dX9_mixRequest_17 : decode cX9_mixRequest 17 = .ok (.lstore_n 3, 1) := by decide +kernel
theorem dX9_mixRequest_18 : decode cX9_mixRequest 18 = .ok (.lload_n 3, 1) := by decide +kernel
theorem dX9_mixRequest_19 : decode cX9_mixRequest 19 = .ok (.aload_n 2, 1) := by decide +kernel
theorem dX9_mixRequest_20 : decode cX9_mixRequest 20 = .ok (.getfield 139, 3) := by decide +kernel
theorem dX9_mixRequest_23 : decode cX9_mixRequest 23 = .ok (.invokestatic 255, 3) := by decide +kernel
theorem dX9_mixRequest_26 : decode cX9_mixRequest 26 = .ok (.lstore_n 3, 1) := by decide +kernel
theorem dX9_mixRequest_27 : decode cX9_mixRequest 27 = .ok (.aload_n 2, 1) := by decide +kernel
theorem dX9_mixRequest_28 : decode cX9_mixRequest 28 = .ok (.invokevirtual 149, 3) := by decide +kernel
theorem dX9_mixRequest_31 : decode cX9_mixRequest 31 = .ok (.ifCond .eq 33, 3) := by decide +kernel
theorem dX9_mixRequest_34 : decode cX9_mixRequest 34 = .ok (.iconst 0, 1) := by decide +kernel
theorem dX9_mixRequest_35 : decode cX9_mixRequest 35 = .ok (.istore 5, 2) := by decide +kernel
theorem dX9_mixRequest_37 : decode cX9_mixRequest 37 = .ok (.iload 5, 2) := by decide +kernel
theorem dX9_mixRequest_39 : decode cX9_mixRequest 39 = .ok (.aload_n 2, 1) := by decide +kernel
theorem dX9_mixRequest_40 : decode cX9_mixRequest 40 = .ok (.getfield 126, 3) := by decide +kernel
theorem dX9_mixRequest_43 : decode cX9_mixRequest 43 = .ok (.if_icmp .ge 21, 3) := by decide +kernel
theorem dX9_mixRequest_46 : decode cX9_mixRequest 46 = .ok (.lload_n 3, 1) := by decide +kernel
theorem dX9_mixRequest_47 : decode cX9_mixRequest 47 = .ok (.aload_n 2, 1) := by decide +kernel
theorem dX9_mixRequest_48 : decode cX9_mixRequest 48 = .ok (.getfield 110, 3) := by decide +kernel
theorem dX9_mixRequest_51 : decode cX9_mixRequest 51 = .ok (.iload 5, 2) := by decide +kernel
theorem dX9_mixRequest_53 : decode cX9_mixRequest 53 = .ok (.iaload, 1) := by decide +kernel
theorem dX9_mixRequest_54 : decode cX9_mixRequest 54 = .ok (.invokestatic 255, 3) := by decide +kernel
theorem dX9_mixRequest_57 : decode cX9_mixRequest 57 = .ok (.lstore_n 3, 1) := by decide +kernel
theorem dX9_mixRequest_58 : decode cX9_mixRequest 58 = .ok (.iinc 5 1, 3) := by decide +kernel
theorem dX9_mixRequest_61 : decode cX9_mixRequest 61 = .ok (.goto (-24), 3) := by decide +kernel
theorem dX9_mixRequest_64 : decode cX9_mixRequest 64 = .ok (.lload_n 3, 1) := by decide +kernel
theorem dX9_mixRequest_65 : decode cX9_mixRequest 65 = .ok (.lreturn, 1) := by decide +kernel
theorem dX9_needInRange_0 : decode cX9_needInRange 0 = .ok (.iload_n 0, 1) := by decide +kernel
theorem dX9_needInRange_1 : decode cX9_needInRange 1 = .ok (.iload_n 1, 1) := by decide +kernel
theorem dX9_needInRange_2 : decode cX9_needInRange 2 = .ok (.if_icmp .lt 8, 3) := by decide +kernel
theorem dX9_needInRange_5 : decode cX9_needInRange 5 = .ok (.iload_n 0, 1) := by decide +kernel
theorem dX9_needInRange_6 : decode cX9_needInRange 6 = .ok (.iload_n 2, 1) := by decide +kernel
theorem dX9_needInRange_7 : decode cX9_needInRange 7 = .ok (.if_icmp .le 14, 3) := by decide +kernel
theorem dX9_needInRange_10 : decode cX9_needInRange 10 = .ok (.new 281, 3) := by decide +kernel
theorem dX9_needInRange_13 : decode cX9_needInRange 13 = .ok (.dup, 1) := by decide +kernel
theorem dX9_needInRange_14 : decode cX9_needInRange 14 = .ok (.ldc_w 283, 3) := by decide +kernel
theorem dX9_needInRange_17 : decode cX9_needInRange 17 = .ok (.invokespecial 285, 3) := by decide +kernel
theorem dX9_needInRange_20 : decode cX9_needInRange 20 = .ok (.athrow, 1) := by decide +kernel
theorem dX9_needInRange_21 : decode cX9_needInRange 21 = .ok (.return_, 1) := by decide +kernel
theorem dX9_needClient_0 : decode cX9_needClient 0 = .ok (.iload_n 0, 1) := by decide +kernel
theorem dX9_needClient_1 : decode cX9_needClient 1 = .ok (.ifCond .lt 8, 3) := by decide +kernel
theorem dX9_needClient_4 : decode cX9_needClient 4 = .ok (.iload_n 0, 1) := by decide +kernel
theorem dX9_needClient_5 : decode cX9_needClient 5 = .ok (.iconst 4, 1) := by decide +kernel
theorem dX9_needClient_6 : decode cX9_needClient 6 = .ok (.if_icmp .lt 14, 3) := by decide +kernel
theorem dX9_needClient_9 : decode cX9_needClient 9 = .ok (.new 23, 3) := by decide +kernel
theorem dX9_needClient_12 : decode cX9_needClient 12 = .ok (.dup, 1) := by decide +kernel
theorem dX9_needClient_13 : decode cX9_needClient 13 = .ok (.ldc_w 286, 3) := by decide +kernel
theorem dX9_needClient_16 : decode cX9_needClient 16 = .ok (.invokespecial 27, 3) := by decide +kernel
theorem dX9_needClient_19 : decode cX9_needClient 19 = .ok (.athrow, 1) := by decide +kernel
theorem dX9_needClient_20 : decode cX9_needClient 20 = .ok (.return_, 1) := by decide +kernel
theorem dX9_needDevice_0 : decode cX9_needDevice 0 = .ok (.iload_n 0, 1) := by decide +kernel
theorem dX9_needDevice_1 : decode cX9_needDevice 1 = .ok (.iconst 1, 1) := by decide +kernel
theorem dX9_needDevice_2 : decode cX9_needDevice 2 = .ok (.if_icmp .lt 8, 3) := by decide +kernel
theorem dX9_needDevice_5 : decode cX9_needDevice 5 = .ok (.iload_n 0, 1) := by decide +kernel
theorem dX9_needDevice_6 : decode cX9_needDevice 6 = .ok (.iconst 3, 1) := by decide +kernel
theorem dX9_needDevice_7 : decode cX9_needDevice 7 = .ok (.if_icmp .le 14, 3) := by decide +kernel
theorem dX9_needDevice_10 : decode cX9_needDevice 10 = .ok (.new 23, 3) := by decide +kernel
theorem dX9_needDevice_13 : decode cX9_needDevice 13 = .ok (.dup, 1) := by decide +kernel
theorem dX9_needDevice_14 : decode cX9_needDevice 14 = .ok (.ldc_w 288, 3) := by decide +kernel
theorem dX9_needDevice_17 : decode cX9_needDevice 17 = .ok (.invokespecial 27, 3) := by decide +kernel
theorem dX9_needDevice_20 : decode cX9_needDevice 20 = .ok (.athrow, 1) := by decide +kernel
theorem dX9_needDevice_21 : decode cX9_needDevice 21 = .ok (.return_, 1) := by decide +kernel
theorem dX9_needRegister_0 : decode cX9_needRegister 0 = .ok (.iload_n 0, 1) := by decide +kernel
theorem dX9_needRegister_1 : decode cX9_needRegister 1 = .ok (.invokestatic 44, 3) := by decide +kernel
theorem dX9_needRegister_4 : decode cX9_needRegister 4 = .ok (.iload_n 1, 1) := by decide +kernel
theorem dX9_needRegister_5 : decode cX9_needRegister 5 = .ok (.ifCond .lt 9, 3) := by decide +kernel
theorem dX9_needRegister_8 : decode cX9_needRegister 8 = .ok (.iload_n 1, 1) := by decide +kernel
theorem dX9_needRegister_9 : decode cX9_needRegister 9 = .ok (.bipush 32, 2) := by decide +kernel
theorem dX9_needRegister_11 : decode cX9_needRegister 11 = .ok (.if_icmp .lt 14, 3) := by decide +kernel
theorem dX9_needRegister_14 : decode cX9_needRegister 14 = .ok (.new 23, 3) := by decide +kernel
theorem dX9_needRegister_17 : decode cX9_needRegister 17 = .ok (.dup, 1) := by decide +kernel
theorem dX9_needRegister_18 : decode cX9_needRegister 18 = .ok (.ldc_w 290, 3) := by decide +kernel
theorem dX9_needRegister_21 : decode cX9_needRegister 21 = .ok (.invokespecial 27, 3) := by decide +kernel
theorem dX9_needRegister_24 : decode cX9_needRegister 24 = .ok (.athrow, 1) := by decide +kernel
theorem dX9_needRegister_25 : decode cX9_needRegister 25 = .ok (.return_, 1) := by decide +kernel
theorem dX9_needState_0 : decode cX9_needState 0 = .ok (.iload_n 0, 1) := by decide +kernel
theorem dX9_needState_1 : decode cX9_needState 1 = .ok (.ifCond .lt 8, 3) := by decide +kernel
theorem dX9_needState_4 : decode cX9_needState 4 = .ok (.iload_n 0, 1) := by decide +kernel
theorem dX9_needState_5 : decode cX9_needState 5 = .ok (.iconst 3, 1) := by decide +kernel
theorem dX9_needState_6 : decode cX9_needState 6 = .ok (.if_icmp .lt 14, 3) := by decide +kernel
theorem dX9_needState_9 : decode cX9_needState 9 = .ok (.new 23, 3) := by decide +kernel
theorem dX9_needState_12 : decode cX9_needState 12 = .ok (.dup, 1) := by decide +kernel
theorem dX9_needState_13 : decode cX9_needState 13 = .ok (.ldc_w 292, 3) := by decide +kernel
theorem dX9_needState_16 : decode cX9_needState 16 = .ok (.invokespecial 27, 3) := by decide +kernel
theorem dX9_needState_19 : decode cX9_needState 19 = .ok (.athrow, 1) := by decide +kernel
theorem dX9_needState_20 : decode cX9_needState 20 = .ok (.return_, 1) := by decide +kernel
theorem dX9_needHeardIndex_0 : decode cX9_needHeardIndex 0 = .ok (.iload_n 0, 1) := by decide +kernel
theorem dX9_needHeardIndex_1 : decode cX9_needHeardIndex 1 = .ok (.ifCond .ge 13, 3) := by decide +kernel
theorem dX9_needHeardIndex_4 : decode cX9_needHeardIndex 4 = .ok (.new 23, 3) := by decide +kernel
theorem dX9_needHeardIndex_7 : decode cX9_needHeardIndex 7 = .ok (.dup, 1) := by decide +kernel
theorem dX9_needHeardIndex_8 : decode cX9_needHeardIndex 8 = .ok (.ldc 179, 2) := by decide +kernel
theorem dX9_needHeardIndex_10 : decode cX9_needHeardIndex 10 = .ok (.invokespecial 27, 3) := by decide +kernel
theorem dX9_needHeardIndex_13 : decode cX9_needHeardIndex 13 = .ok (.athrow, 1) := by decide +kernel
theorem dX9_needHeardIndex_14 : decode cX9_needHeardIndex 14 = .ok (.return_, 1) := by decide +kernel
theorem dX9_needRoomForRequest_0 : decode cX9_needRoomForRequest 0 = .ok (.aload_n 0, 1) := by decide +kernel
theorem dX9_needRoomForRequest_1 : decode cX9_needRoomForRequest 1 = .ok (.getfield 10, 3) := by decide +kernel
theorem dX9_needRoomForRequest_4 : decode cX9_needRoomForRequest 4 = .ok (.getfield 95, 3) := by decide +kernel
theorem dX9_needRoomForRequest_7 : decode cX9_needRoomForRequest 7 = .ok (.getfield 264, 3) := by decide +kernel
theorem dX9_needRoomForRequest_10 : decode cX9_needRoomForRequest 10 = .ok (.invokevirtual 267, 3) := by decide +kernel
theorem dX9_needRoomForRequest_13 : decode cX9_needRoomForRequest 13 = .ok (.bipush 40, 2) := by decide +kernel
theorem dX9_needRoomForRequest_15 : decode cX9_needRoomForRequest 15 = .ok (.if_icmp .lt 14, 3) := by decide +kernel
theorem dX9_needRoomForRequest_18 : decode cX9_needRoomForRequest 18 = .ok (.new 81, 3) := by decide +kernel
theorem dX9_needRoomForRequest_21 : decode cX9_needRoomForRequest 21 = .ok (.dup, 1) := by decide +kernel
theorem dX9_needRoomForRequest_22 : decode cX9_needRoomForRequest 22 = .ok (.ldc_w 294, 3) := by decide +kernel
theorem dX9_needRoomForRequest_25 : decode cX9_needRoomForRequest 25 = .ok (.invokespecial 85, 3) := by decide +kernel
theorem dX9_needRoomForRequest_28 : decode cX9_needRoomForRequest 28 = .ok (.athrow, 1) := by decide +kernel
theorem dX9_needRoomForRequest_29 : decode cX9_needRoomForRequest 29 = .ok (.return_, 1) := by decide +kernel
theorem dX9_neededRequest_0 : decode cX9_neededRequest 0 = .ok (.iload_n 1, 1) := by decide +kernel
theorem dX9_neededRequest_1 : decode cX9_neededRequest 1 = .ok (.ifCond .lt 20, 3) := by decide +kernel
theorem dX9_neededRequest_4 : decode cX9_neededRequest 4 = .ok (.iload_n 1, 1) := by decide +kernel
theorem dX9_neededRequest_5 : decode cX9_neededRequest 5 = .ok (.aload_n 0, 1) := by decide +kernel
theorem dX9_neededRequest_6 : decode cX9_neededRequest 6 = .ok (.getfield 10, 3) := by decide +kernel
theorem dX9_neededRequest_9 : decode cX9_neededRequest 9 = .ok (.getfield 95, 3) := by decide +kernel
theorem dX9_neededRequest_12 : decode cX9_neededRequest 12 = .ok (.getfield 264, 3) := by decide +kernel
theorem dX9_neededRequest_15 : decode cX9_neededRequest 15 = .ok (.invokevirtual 267, 3) := by decide +kernel
theorem dX9_neededRequest_18 : decode cX9_neededRequest 18 = .ok (.if_icmp .lt 14, 3) := by decide +kernel
theorem dX9_neededRequest_21 : decode cX9_neededRequest 21 = .ok (.new 23, 3) := by decide +kernel
theorem dX9_neededRequest_24 : decode cX9_neededRequest 24 = .ok (.dup, 1) := by decide +kernel
theorem dX9_neededRequest_25 : decode cX9_neededRequest 25 = .ok (.ldc_w 296, 3) := by decide +kernel
theorem dX9_neededRequest_28 : decode cX9_neededRequest 28 = .ok (.invokespecial 27, 3) := by decide +kernel
theorem dX9_neededRequest_31 : decode cX9_neededRequest 31 = .ok (.athrow, 1) := by decide +kernel
theorem dX9_neededRequest_32 : decode cX9_neededRequest 32 = .ok (.aload_n 0, 1) := by decide +kernel
theorem dX9_neededRequest_33 : decode cX9_neededRequest 33 = .ok (.getfield 10, 3) := by decide +kernel
theorem dX9_neededRequest_36 : decode cX9_neededRequest 36 = .ok (.getfield 95, 3) := by decide +kernel
theorem dX9_neededRequest_39 : decode cX9_neededRequest 39 = .ok (.getfield 264, 3) := by decide +kernel
theorem dX9_neededRequest_42 : decode cX9_neededRequest 42 = .ok (.iload_n 1, 1) := by decide +kernel
theorem dX9_neededRequest_43 : decode cX9_neededRequest 43 = .ok (.invokevirtual 271, 3) := by decide +kernel
theorem dX9_neededRequest_46 : decode cX9_neededRequest 46 = .ok (.checkcast 99, 3) := by decide +kernel
theorem dX9_neededRequest_49 : decode cX9_neededRequest 49 = .ok (.areturn, 1) := by decide +kernel
theorem dX9_nextSum_0 : decode cX9_nextSum 0 = .ok (.iload_n 0, 1) := by decide +kernel
theorem dX9_nextSum_1 : decode cX9_nextSum 1 = .ok (.iload_n 1, 1) := by decide +kernel
theorem dX9_nextSum_2 : decode cX9_nextSum 2 = .ok (.ixor, 1) := by decide +kernel
theorem dX9_nextSum_3 : decode cX9_nextSum 3 = .ok (.istore_n 2, 1) := by decide +kernel
theorem dX9_nextSum_4 : decode cX9_nextSum 4 = .ok (.iconst 0, 1) := by decide +kernel
theorem dX9_nextSum_5 : decode cX9_nextSum 5 = .ok (.istore_n 3, 1) := by decide +kernel
theorem dX9_nextSum_6 : decode cX9_nextSum 6 = .ok (.iload_n 3, 1) := by decide +kernel
theorem dX9_nextSum_7 : decode cX9_nextSum 7 = .ok (.bipush 8, 2) := by decide +kernel
theorem dX9_nextSum_9 : decode cX9_nextSum 9 = .ok (.if_icmp .ge 30, 3) := by decide +kernel
theorem dX9_nextSum_12 : decode cX9_nextSum 12 = .ok (.iload_n 2, 1) := by decide +kernel
theorem dX9_nextSum_13 : decode cX9_nextSum 13 = .ok (.iconst 1, 1) := by decide +kernel
theorem dX9_nextSum_14 : decode cX9_nextSum 14 = .ok (.iand, 1) := by decide +kernel
theorem dX9_nextSum_15 : decode cX9_nextSum 15 = .ok (.iconst 1, 1) := by decide +kernel
theorem dX9_nextSum_16 : decode cX9_nextSum 16 = .ok (.if_icmp .ne 13, 3) := by decide +kernel
theorem dX9_nextSum_19 : decode cX9_nextSum 19 = .ok (.iload_n 2, 1) := by decide +kernel
theorem dX9_nextSum_20 : decode cX9_nextSum 20 = .ok (.iconst 1, 1) := by decide +kernel
theorem dX9_nextSum_21 : decode cX9_nextSum 21 = .ok (.ishr, 1) := by decide +kernel
theorem dX9_nextSum_22 : decode cX9_nextSum 22 = .ok (.ldc_w 298, 3) := by decide +kernel
theorem dX9_nextSum_25 : decode cX9_nextSum 25 = .ok (.ixor, 1) := by decide +kernel
theorem dX9_nextSum_26 : decode cX9_nextSum 26 = .ok (.goto 6, 3) := by decide +kernel
theorem dX9_nextSum_29 : decode cX9_nextSum 29 = .ok (.iload_n 2, 1) := by decide +kernel
theorem dX9_nextSum_30 : decode cX9_nextSum 30 = .ok (.iconst 1, 1) := by decide +kernel
theorem dX9_nextSum_31 : decode cX9_nextSum 31 = .ok (.ishr, 1) := by decide +kernel
theorem dX9_nextSum_32 : decode cX9_nextSum 32 = .ok (.istore_n 2, 1) := by decide +kernel
theorem dX9_nextSum_33 : decode cX9_nextSum 33 = .ok (.iinc 3 1, 3) := by decide +kernel
theorem dX9_nextSum_36 : decode cX9_nextSum 36 = .ok (.goto (-30), 3) := by decide +kernel
theorem dX9_nextSum_39 : decode cX9_nextSum 39 = .ok (.iload_n 2, 1) := by decide +kernel
theorem dX9_nextSum_40 : decode cX9_nextSum 40 = .ok (.ireturn, 1) := by decide +kernel
end
section
theorem dX10_init_0 : decode cX10_init 0 = .ok (.aload_n 0, 1) := by decide +kernel
theorem dX10_init_1 : decode cX10_init 1 = .ok (.invokespecial 1, 3) := by decide +kernel
theorem dX10_init_4 : decode cX10_init 4 = .ok (.aload_n 0, 1) := by decide +kernel
theorem dX10_init_5 : decode cX10_init 5 = .ok (.sipush 8900, 3) := by decide +kernel
theorem dX10_init_8 : decode cX10_init 8 = .ok (.newarray .int, 2) := by decide +kernel
theorem dX10_init_10 : decode cX10_init 10 = .ok (.putfield 7, 3) := by decide +kernel
theorem dX10_init_13 : decode cX10_init 13 = .ok (.aload_n 0, 1) := by decide +kernel
theorem dX10_init_14 : decode cX10_init 14 = .ok (.sipush 8900, 3) := by decide +kernel
theorem dX10_init_17 : decode cX10_init 17 = .ok (.newarray .int, 2) := by decide +kernel
theorem dX10_init_19 : decode cX10_init 19 = .ok (.putfield 13, 3) := by decide +kernel
theorem dX10_init_22 : decode cX10_init 22 = .ok (.aload_n 0, 1) := by decide +kernel
theorem dX10_init_23 : decode cX10_init 23 = .ok (.bipush 42, 2) := by decide +kernel
theorem dX10_init_25 : decode cX10_init 25 = .ok (.newarray .int, 2) := by decide +kernel
theorem dX10_init_27 : decode cX10_init 27 = .ok (.putfield 16, 3) := by decide +kernel
theorem dX10_init_30 : decode cX10_init 30 = .ok (.aload_n 0, 1) := by decide +kernel
theorem dX10_init_31 : decode cX10_init 31 = .ok (.bipush 16, 2) := by decide +kernel
theorem dX10_init_33 : decode cX10_init 33 = .ok (.newarray .int, 2) := by decide +kernel
theorem dX10_init_35 : decode cX10_init 35 = .ok (.putfield 19, 3) := by decide +kernel
theorem dX10_init_38 : decode cX10_init 38 = .ok (.aload_n 0, 1) := by decide +kernel
theorem dX10_init_39 : decode cX10_init 39 = .ok (.bipush 42, 2) := by decide +kernel
theorem dX10_init_41 : decode cX10_init 41 = .ok (.newarray .int, 2) := by decide +kernel
theorem dX10_init_43 : decode cX10_init 43 = .ok (.putfield 22, 3) := by decide +kernel
theorem dX10_init_46 : decode cX10_init 46 = .ok (.aload_n 0, 1) := by decide +kernel
theorem dX10_init_47 : decode cX10_init 47 = .ok (.ldc 25, 2) := by decide +kernel
theorem dX10_init_49 : decode cX10_init 49 = .ok (.putfield 26, 3) := by decide +kernel
theorem dX10_init_52 : decode cX10_init 52 = .ok (.aload_n 0, 1) := by decide +kernel
theorem dX10_init_53 : decode cX10_init 53 = .ok (.bipush 10, 2) := by decide +kernel
theorem dX10_init_55 : decode cX10_init 55 = .ok (.newarray .int, 2) := by decide +kernel
theorem dX10_init_57 : decode cX10_init 57 = .ok (.putfield 30, 3) := by decide +kernel
theorem dX10_init_60 : decode cX10_init 60 = .ok (.aload_n 0, 1) := by decide +kernel
theorem dX10_init_61 : decode cX10_init 61 = .ok (.bipush 10, 2) := by decide +kernel
theorem dX10_init_63 : decode cX10_init 63 = .ok (.newarray .int, 2) := by decide +kernel
theorem dX10_init_65 : decode cX10_init 65 = .ok (.putfield 33, 3) := by decide +kernel
theorem dX10_init_68 : decode cX10_init 68 = .ok (.aload_n 0, 1) := by decide +kernel
theorem dX10_init_69 : decode cX10_init 69 = .ok (.getfield 7, 3) := by decide +kernel
theorem dX10_init_72 : decode cX10_init 72 = .ok (.iconst 1, 1) := by decide +kernel
theorem dX10_init_73 : decode cX10_init 73 = .ok (.bipush 50, 2) := by decide +kernel
theorem dX10_init_75 : decode cX10_init 75 = .ok (.iastore, 1) := by decide +kernel
theorem dX10_init_76 : decode cX10_init 76 = .ok (.aload_n 0, 1) := by decide +kernel
theorem dX10_init_77 : decode cX10_init 77 = .ok (.getfield 7, 3) := by decide +kernel
theorem dX10_init_80 : decode cX10_init 80 = .ok (.iconst 2, 1) := by decide +kernel
theorem dX10_init_81 : decode cX10_init 81 = .ok (.bipush 30, 2) := by decide +kernel
theorem dX10_init_83 : decode cX10_init 83 = .ok (.iastore, 1) := by decide +kernel
theorem dX10_init_84 : decode cX10_init 84 = .ok (.aload_n 0, 1) := by decide +kernel
theorem dX10_init_85 : decode cX10_init 85 = .ok (.getfield 7, 3) := by decide +kernel
theorem dX10_init_88 : decode cX10_init 88 = .ok (.iconst 3, 1) := by decide +kernel
theorem dX10_init_89 : decode cX10_init 89 = .ok (.iconst 1, 1) := by decide +kernel
theorem dX10_init_90 : decode cX10_init 90 = .ok (.iastore, 1) := by decide +kernel
theorem dX10_init_91 : decode cX10_init 91 = .ok (.aload_n 0, 1) := by decide +kernel
theorem dX10_init_92 : decode cX10_init 92 = .ok (.getfield 7, 3) := by decide +kernel
theorem dX10_init_95 : decode cX10_init 95 = .ok (.iconst 5, 1) := by decide +kernel
theorem dX10_init_96 : decode cX10_init 96 = .ok (.iconst 1, 1) := by decide +kernel
theorem dX10_init_97 : decode cX10_init 97 = .ok (.iastore, 1) := by decide +kernel
theorem dX10_init_98 : decode cX10_init 98 = .ok (.iconst 0, 1) := by decide +kernel
theorem dX10_init_99 : decode cX10_init 99 = .ok (.istore_n 1, 1) := by decide +kernel
theorem dX10_init_100 : decode cX10_init 100 = .ok (.iload_n 1, 1) := by decide +kernel
theorem dX10_init_101 : decode cX10_init 101 = .ok (.iconst 3, 1) := by decide +kernel
theorem dX10_init_102 : decode cX10_init 102 = .ok (.if_icmp .ge 32, 3) := by decide +kernel
theorem dX10_init_105 : decode cX10_init 105 = .ok (.aload_n 0, 1) := by decide +kernel
theorem dX10_init_106 : decode cX10_init 106 = .ok (.getfield 7, 3) := by decide +kernel
theorem dX10_init_109 : decode cX10_init 109 = .ok (.sipush 220, 3) := by decide +kernel
theorem dX10_init_112 : decode cX10_init 112 = .ok (.iload_n 1, 1) := by decide +kernel
theorem dX10_init_113 : decode cX10_init 113 = .ok (.iadd, 1) := by decide +kernel
theorem dX10_init_114 : decode cX10_init 114 = .ok (.ldc 25, 2) := by decide +kernel
theorem dX10_init_116 : decode cX10_init 116 = .ok (.iastore, 1) := by decide +kernel
theorem dX10_init_117 : decode cX10_init 117 = .ok (.aload_n 0, 1) := by decide +kernel
theorem dX10_init_118 : decode cX10_init 118 = .ok (.getfield 7, 3) := by decide +kernel
theorem dX10_init_121 : decode cX10_init 121 = .ok (.sipush 224, 3) := by decide +kernel
theorem dX10_init_124 : decode cX10_init 124 = .ok (.iload_n 1, 1) := by decide +kernel
theorem dX10_init_125 : decode cX10_init 125 = .ok (.iadd, 1) := by decide +kernel
theorem dX10_init_126 : decode cX10_init 126 = .ok (.iconst 5, 1) := by decide +kernel
theorem dX10_init_127 : decode cX10_init 127 = .ok (.iastore, 1) := by decide +kernel
theorem dX10_init_128 : decode cX10_init 128 = .ok (.iinc 1 1, 3) := by decide +kernel
theorem dX10_init_131 : decode cX10_init 131 = .ok (.goto (-31), 3) := by decide +kernel
theorem dX10_init_134 : decode cX10_init 134 = .ok (.return_, 1) := by decide +kernel
theorem dX10_thrown_0 : decode cX10_thrown 0 = .ok (.aload_n 0, 1) := by decide +kernel
theorem dX10_thrown_1 : decode cX10_thrown 1 = .ok (.getfield 36, 3) := by decide +kernel
theorem dX10_thrown_4 : decode cX10_thrown 4 = .ok (.ireturn, 1) := by decide +kernel
theorem dX10_in_0 : decode cX10_in 0 = .ok (.iload_n 0, 1) := by decide +kernel
theorem dX10_in_1 : decode cX10_in 1 = .ok (.iload_n 1, 1) := by decide +kernel
theorem dX10_in_2 : decode cX10_in 2 = .ok (.if_icmp .lt 12, 3) := by decide +kernel
theorem dX10_in_5 : decode cX10_in 5 = .ok (.iload_n 0, 1) := by decide +kernel
theorem dX10_in_6 : decode cX10_in 6 = .ok (.iload_n 2, 1) := by decide +kernel
theorem dX10_in_7 : decode cX10_in 7 = .ok (.if_icmp .gt 7, 3) := by decide +kernel
theorem dX10_in_10 : decode cX10_in 10 = .ok (.iconst 1, 1) := by decide +kernel
theorem dX10_in_11 : decode cX10_in 11 = .ok (.goto 4, 3) := by decide +kernel
theorem dX10_in_14 : decode cX10_in 14 = .ok (.iconst 0, 1) := by decide +kernel
theorem dX10_in_15 : decode cX10_in 15 = .ok (.ireturn, 1) := by decide +kernel
theorem dX10_fails_0 : decode cX10_fails 0 = .ok (.aload_n 0, 1) := by decide +kernel
theorem dX10_fails_1 : decode cX10_fails 1 = .ok (.iload_n 1, 1) := by decide +kernel
theorem dX10_fails_2 : decode cX10_fails 2 = .ok (.putfield 36, 3) := by decide +kernel
theorem dX10_fails_5 : decode cX10_fails 5 = .ok (.iconst 0, 1) := by decide +kernel
theorem dX10_fails_6 : decode cX10_fails 6 = .ok (.ireturn, 1) := by decide +kernel
theorem dX10_sets_0 : decode cX10_sets 0 = .ok (.aload_n 0, 1) := by decide +kernel
theorem dX10_sets_1 : decode cX10_sets 1 = .ok (.getfield 7, 3) := by decide +kernel
theorem dX10_sets_4 : decode cX10_sets 4 = .ok (.iload_n 1, 1) := by decide +kernel
theorem dX10_sets_5 : decode cX10_sets 5 = .ok (.iaload, 1) := by decide +kernel
theorem dX10_sets_6 : decode cX10_sets 6 = .ok (.istore_n 3, 1) := by decide +kernel
theorem dX10_sets_7 : decode cX10_sets 7 = .ok (.aload_n 0, 1) := by decide +kernel
theorem dX10_sets_8 : decode cX10_sets 8 = .ok (.getfield 7, 3) := by decide +kernel
theorem dX10_sets_11 : decode cX10_sets 11 = .ok (.iload_n 1, 1) := by decide +kernel
theorem dX10_sets_12 : decode cX10_sets 12 = .ok (.iload_n 2, 1) := by decide +kernel
theorem dX10_sets_13 : decode cX10_sets 13 = .ok (.iastore, 1) := by decide +kernel
theorem dX10_sets_14 : decode cX10_sets 14 = .ok (.iload_n 3, 1) := by decide +kernel
theorem dX10_sets_15 : decode cX10_sets 15 = .ok (.ireturn, 1) := by decide +kernel
theorem dX10_registerAt_0 : decode cX10_registerAt 0 = .ok (.bipush 32, 2) := by decide +kernel
theorem dX10_registerAt_2 : decode cX10_registerAt 2 = .ok (.iload_n 0, 1) := by decide +kernel
theorem dX10_registerAt_3 : decode cX10_registerAt 3 = .ok (.iconst 1, 1) := by decide +kernel
theorem dX10_registerAt_4 : decode cX10_registerAt 4 = .ok (.isub, 1) := by decide +kernel
theorem dX10_registerAt_5 : decode cX10_registerAt 5 = .ok (.imul, 1) := by decide +kernel
theorem dX10_registerAt_6 : decode cX10_registerAt 6 = .ok (.iload_n 1, 1) := by decide +kernel
theorem dX10_registerAt_7 : decode cX10_registerAt 7 = .ok (.iadd, 1) := by decide +kernel
theorem dX10_registerAt_8 : decode cX10_registerAt 8 = .ok (.ireturn, 1) := by decide +kernel
theorem dX10_isRegister_0 : decode cX10_isRegister 0 = .ok (.iload_n 0, 1) := by decide +kernel
theorem dX10_isRegister_1 : decode cX10_isRegister 1 = .ok (.iconst 1, 1) := by decide +kernel
theorem dX10_isRegister_2 : decode cX10_isRegister 2 = .ok (.iconst 3, 1) := by decide +kernel
theorem dX10_isRegister_3 : decode cX10_isRegister 3 = .ok (.invokestatic 39, 3) := by decide +kernel
theorem dX10_isRegister_6 : decode cX10_isRegister 6 = .ok (.ifCond .eq 17, 3) := by decide +kernel
theorem dX10_isRegister_9 : decode cX10_isRegister 9 = .ok (.iload_n 1, 1) := by decide +kernel
theorem dX10_isRegister_10 : decode cX10_isRegister 10 = .ok (.iconst 0, 1) := by decide +kernel
theorem dX10_isRegister_11 : decode cX10_isRegister 11 = .ok (.bipush 31, 2) := by decide +kernel
theorem dX10_isRegister_13 : decode cX10_isRegister 13 = .ok (.invokestatic 39, 3) := by decide +kernel
theorem dX10_isRegister_16 : decode cX10_isRegister 16 = .ok (.ifCond .eq 7, 3) := by decide +kernel
theorem dX10_isRegister_19 : decode cX10_isRegister 19 = .ok (.iconst 1, 1) := by decide +kernel
theorem dX10_isRegister_20 : decode cX10_isRegister 20 = .ok (.goto 4, 3) := by decide +kernel
theorem dX10_isRegister_23 : decode cX10_isRegister 23 = .ok (.iconst 0, 1) := by decide +kernel
theorem dX10_isRegister_24 : decode cX10_isRegister 24 = .ok (.ireturn, 1) := by decide +kernel
theorem dX10_set_0 : decode cX10_set 0 = .ok (.aload_n 0, 1) := by decide +kernel
theorem dX10_set_1 : decode cX10_set 1 = .ok (.iconst 0, 1) := by decide +kernel
theorem dX10_set_2 : decode cX10_set 2 = .ok (.putfield 36, 3) := by decide +kernel
theorem dX10_set_5 : decode cX10_set 5 = .ok (.iload_n 1, 1) := by decide +kernel
theorem dX10_set_6 : decode cX10_set 6 = .ok (.iconst 0, 1) := by decide +kernel
theorem dX10_set_7 : decode cX10_set 7 = .ok (.iconst 4, 1) := by decide +kernel
theorem dX10_set_8 : decode cX10_set 8 = .ok (.invokestatic 39, 3) := by decide +kernel
theorem dX10_set_11 : decode cX10_set 11 = .ok (.ifCond .ne 9, 3) := by decide +kernel
theorem dX10_set_14 : decode cX10_set 14 = .ok (.aload_n 0, 1) := by decide +kernel
theorem dX10_set_15 : decode cX10_set 15 = .ok (.iconst 1, 1) := by decide +kernel
theorem dX10_set_16 : decode cX10_set 16 = .ok (.invokevirtual 43, 3) := by decide +kernel
theorem dX10_set_19 : decode cX10_set 19 = .ok (.ireturn, 1) := by decide +kernel
theorem dX10_set_20 : decode cX10_set 20 = .ok (.iload_n 1, 1) := by decide +kernel
theorem dX10_set_21 : decode cX10_set 21 = .ok (.ifCond .ne 9, 3) := by decide +kernel
theorem dX10_set_24 : decode cX10_set 24 = .ok (.sipush 10000, 3) := by decide +kernel
theorem dX10_set_27 : decode cX10_set 27 = .ok (.goto 24, 3) := by decide +kernel
theorem dX10_set_30 : decode cX10_set 30 = .ok (.iload_n 1, 1) := by decide +kernel
theorem dX10_set_31 : decode cX10_set 31 = .ok (.iconst 2, 1) := by decide +kernel
theorem dX10_set_32 : decode cX10_set 32 = .ok (.if_icmp .ne 7, 3) := by decide +kernel
theorem dX10_set_35 : decode cX10_set 35 = .ok (.iconst 3, 1) := by decide +kernel
theorem dX10_set_36 : decode cX10_set 36 = .ok (.goto 15, 3) := by decide +kernel
theorem dX10_set_39 : decode cX10_set 39 = .ok (.iload_n 1, 1) := by decide +kernel
theorem dX10_set_40 : decode cX10_set 40 = .ok (.iconst 4, 1) := by decide +kernel
theorem dX10_set_41 : decode cX10_set 41 = .ok (.if_icmp .ne 7, 3) := by decide +kernel
theorem dX10_set_44 : decode cX10_set 44 = .ok (.iconst 1, 1) := by decide +kernel
theorem dX10_set_45 : decode cX10_set 45 = .ok (.goto 6, 3) := by decide +kernel
theorem dX10_set_48 : decode cX10_set 48 = .ok (.sipush 1000, 3) := by decide +kernel
theorem dX10_set_51 : decode cX10_set 51 = .ok (.istore_n 3, 1) := by decide +kernel
theorem dX10_set_52 : decode cX10_set 52 = .ok (.iload_n 2, 1) := by decide +kernel
theorem dX10_set_53 : decode cX10_set 53 = .ok (.iload_n 1, 1) := by decide +kernel
theorem dX10_set_54 : decode cX10_set 54 = .ok (.iconst 1, 1) := by decide +kernel
theorem dX10_set_55 : decode cX10_set 55 = .ok (.if_icmp .ne 7, 3) := by decide +kernel
theorem dX10_set_58 : decode cX10_set 58 = .ok (.iconst 1, 1) := by decide +kernel
theorem dX10_set_59 : decode cX10_set 59 = .ok (.goto 4, 3) := by decide +kernel
theorem dX10_set_62 : decode cX10_set 62 = .ok (.iconst 0, 1) := by decide +kernel
theorem dX10_set_63 : decode cX10_set 63 = .ok (.iload_n 3, 1) := by decide +kernel
theorem dX10_set_64 : decode cX10_set 64 = .ok (.invokestatic 39, 3) := by decide +kernel
theorem dX10_set_67 : decode cX10_set 67 = .ok (.ifCond .eq 14, 3) := by decide +kernel
theorem dX10_set_70 : decode cX10_set 70 = .ok (.aload_n 0, 1) := by decide +kernel
theorem dX10_set_71 : decode cX10_set 71 = .ok (.iconst 1, 1) := by decide +kernel
theorem dX10_set_72 : decode cX10_set 72 = .ok (.iload_n 1, 1) := by decide +kernel
theorem dX10_set_73 : decode cX10_set 73 = .ok (.iadd, 1) := by decide +kernel
theorem dX10_set_74 : decode cX10_set 74 = .ok (.iload_n 2, 1) := by decide +kernel
theorem dX10_set_75 : decode cX10_set 75 = .ok (.invokevirtual 47, 3) := by decide +kernel
theorem dX10_set_78 : decode cX10_set 78 = .ok (.goto 8, 3) := by decide +kernel
theorem dX10_set_81 : decode cX10_set 81 = .ok (.aload_n 0, 1) := by decide +kernel
theorem dX10_set_82 : decode cX10_set 82 = .ok (.iconst 2, 1) := by decide +kernel
theorem dX10_set_83 : decode cX10_set 83 = .ok (.invokevirtual 43, 3) := by decide +kernel
theorem dX10_set_86 : decode cX10_set 86 = .ok (.ireturn, 1) := by decide +kernel
theorem dX10_setDevice_0 : decode cX10_setDevice 0 = .ok (.aload_n 0, 1) := by decide +kernel
theorem dX10_setDevice_1 : decode cX10_setDevice 1 = .ok (.iconst 0, 1) := by decide +kernel
theorem dX10_setDevice_2 : decode cX10_setDevice 2 = .ok (.putfield 36, 3) := by decide +kernel
theorem dX10_setDevice_5 : decode cX10_setDevice 5 = .ok (.iload_n 1, 1) := by decide +kernel
theorem dX10_setDevice_6 : decode cX10_setDevice 6 = .ok (.iconst 1, 1) := by decide +kernel
theorem dX10_setDevice_7 : decode cX10_setDevice 7 = .ok (.iconst 3, 1) := by decide +kernel
theorem dX10_setDevice_8 : decode cX10_setDevice 8 = .ok (.invokestatic 39, 3) := by decide +kernel
theorem dX10_setDevice_11 : decode cX10_setDevice 11 = .ok (.ifCond .eq 12, 3) := by decide +kernel
theorem dX10_setDevice_14 : decode cX10_setDevice 14 = .ok (.iload_n 2, 1) := by decide +kernel
theorem dX10_setDevice_15 : decode cX10_setDevice 15 = .ok (.iconst 0, 1) := by decide +kernel
theorem dX10_setDevice_16 : decode cX10_setDevice 16 = .ok (.iconst 1, 1) := by decide +kernel
theorem dX10_setDevice_17 : decode cX10_setDevice 17 = .ok (.invokestatic 39, 3) := by decide +kernel
theorem dX10_setDevice_20 : decode cX10_setDevice 20 = .ok (.ifCond .ne 9, 3) := by decide +kernel
theorem dX10_setDevice_23 : decode cX10_setDevice 23 = .ok (.aload_n 0, 1) := by decide +kernel
theorem dX10_setDevice_24 : decode cX10_setDevice 24 = .ok (.iconst 1, 1) := by decide +kernel
theorem dX10_setDevice_25 : decode cX10_setDevice 25 = .ok (.invokevirtual 43, 3) := by decide +kernel
theorem dX10_setDevice_28 : decode cX10_setDevice 28 = .ok (.ireturn, 1) := by decide +kernel
theorem dX10_setDevice_29 : decode cX10_setDevice 29 = .ok (.iload_n 3, 1) := by decide +kernel
theorem dX10_setDevice_30 : decode cX10_setDevice 30 = .ok (.iconst 0, 1) := by decide +kernel
theorem dX10_setDevice_31 : decode cX10_setDevice 31 = .ok (.iload_n 2, 1) := by decide +kernel
theorem dX10_setDevice_32 : decode cX10_setDevice 32 = .ok (.ifCond .ne 9, 3) := by decide +kernel
theorem dX10_setDevice_35 : decode cX10_setDevice 35 = .ok (.sipush 1000, 3) := by decide +kernel
theorem dX10_setDevice_38 : decode cX10_setDevice 38 = .ok (.goto 5, 3) := by decide +kernel
theorem dX10_setDevice_41 : decode cX10_setDevice 41 = .ok (.ldc 25, 2) := by decide +kernel
theorem dX10_setDevice_43 : decode cX10_setDevice 43 = .ok (.invokestatic 39, 3) := by decide +kernel
theorem dX10_setDevice_46 : decode cX10_setDevice 46 = .ok (.ifCond .eq 28, 3) := by decide +kernel
theorem dX10_setDevice_49 : decode cX10_setDevice 49 = .ok (.aload_n 0, 1) := by decide +kernel
theorem dX10_setDevice_50 : decode cX10_setDevice 50 = .ok (.iload_n 2, 1) := by decide +kernel
theorem dX10_setDevice_51 : decode cX10_setDevice 51 = .ok (.ifCond .ne 9, 3) := by decide +kernel
theorem dX10_setDevice_54 : decode cX10_setDevice 54 = .ok (.sipush 224, 3) := by decide +kernel
theorem dX10_setDevice_57 : decode cX10_setDevice 57 = .ok (.goto 6, 3) := by decide +kernel
theorem dX10_setDevice_60 : decode cX10_setDevice 60 = .ok (.sipush 220, 3) := by decide +kernel
theorem dX10_setDevice_63 : decode cX10_setDevice 63 = .ok (.iload_n 1, 1) := by decide +kernel
theorem dX10_setDevice_64 : decode cX10_setDevice 64 = .ok (.iadd, 1) := by decide +kernel
theorem dX10_setDevice_65 : decode cX10_setDevice 65 = .ok (.iconst 1, 1) := by decide +kernel
theorem dX10_setDevice_66 : decode cX10_setDevice 66 = .ok (.isub, 1) := by decide +kernel
theorem dX10_setDevice_67 : decode cX10_setDevice 67 = .ok (.iload_n 3, 1) := by decide +kernel
theorem dX10_setDevice_68 : decode cX10_setDevice 68 = .ok (.invokevirtual 47, 3) := by decide +kernel
theorem dX10_setDevice_71 : decode cX10_setDevice 71 = .ok (.goto 8, 3) := by decide +kernel
theorem dX10_setDevice_74 : decode cX10_setDevice 74 = .ok (.aload_n 0, 1) := by decide +kernel
theorem dX10_setDevice_75 : decode cX10_setDevice 75 = .ok (.iconst 2, 1) := by decide +kernel
theorem dX10_setDevice_76 : decode cX10_setDevice 76 = .ok (.invokevirtual 43, 3) := by decide +kernel
theorem dX10_setDevice_79 : decode cX10_setDevice 79 = .ok (.ireturn, 1) := by decide +kernel
theorem dX10_poke_0 : decode cX10_poke 0 = .ok (.aload_n 0, 1) := by decide +kernel
theorem dX10_poke_1 : decode cX10_poke 1 = .ok (.iconst 0, 1) := by decide +kernel
theorem dX10_poke_2 : decode cX10_poke 2 = .ok (.putfield 36, 3) := by decide +kernel
theorem dX10_poke_5 : decode cX10_poke 5 = .ok (.iload_n 1, 1) := by decide +kernel
theorem dX10_poke_6 : decode cX10_poke 6 = .ok (.iload_n 2, 1) := by decide +kernel
theorem dX10_poke_7 : decode cX10_poke 7 = .ok (.invokestatic 51, 3) := by decide +kernel
theorem dX10_poke_10 : decode cX10_poke 10 = .ok (.ifCond .ne 9, 3) := by decide +kernel
theorem dX10_poke_13 : decode cX10_poke 13 = .ok (.aload_n 0, 1) := by decide +kernel
theorem dX10_poke_14 : decode cX10_poke 14 = .ok (.iconst 1, 1) := by decide +kernel
theorem dX10_poke_15 : decode cX10_poke 15 = .ok (.invokevirtual 43, 3) := by decide +kernel
theorem dX10_poke_18 : decode cX10_poke 18 = .ok (.ireturn, 1) := by decide +kernel
theorem dX10_poke_19 : decode cX10_poke 19 = .ok (.iload_n 3, 1) := by decide +kernel
theorem dX10_poke_20 : decode cX10_poke 20 = .ok (.iconst 0, 1) := by decide +kernel
theorem dX10_poke_21 : decode cX10_poke 21 = .ok (.ldc 25, 2) := by decide +kernel
theorem dX10_poke_23 : decode cX10_poke 23 = .ok (.invokestatic 39, 3) := by decide +kernel
theorem dX10_poke_26 : decode cX10_poke 26 = .ok (.ifCond .eq 19, 3) := by decide +kernel
theorem dX10_poke_29 : decode cX10_poke 29 = .ok (.aload_n 0, 1) := by decide +kernel
theorem dX10_poke_30 : decode cX10_poke 30 = .ok (.bipush 20, 2) := by decide +kernel
theorem dX10_poke_32 : decode cX10_poke 32 = .ok (.iload_n 1, 1) := by decide +kernel
theorem dX10_poke_33 : decode cX10_poke 33 = .ok (.iload_n 2, 1) := by decide +kernel
theorem dX10_poke_34 : decode cX10_poke 34 = .ok (.invokestatic 55, 3) := by decide +kernel
theorem dX10_poke_37 : decode cX10_poke 37 = .ok (.iadd, 1) := by decide +kernel
theorem dX10_poke_38 : decode cX10_poke 38 = .ok (.iload_n 3, 1) := by decide +kernel
theorem dX10_poke_39 : decode cX10_poke 39 = .ok (.invokevirtual 47, 3) := by decide +kernel
theorem dX10_poke_42 : decode cX10_poke 42 = .ok (.goto 8, 3) := by decide +kernel
theorem dX10_poke_45 : decode cX10_poke 45 = .ok (.aload_n 0, 1) := by decide +kernel
theorem dX10_poke_46 : decode cX10_poke 46 = .ok (.iconst 2, 1) := by decide +kernel
theorem dX10_poke_47 : decode cX10_poke 47 = .ok (.invokevirtual 43, 3) := by decide +kernel
theorem dX10_poke_50 : decode cX10_poke 50 = .ok (.ireturn, 1) := by decide +kernel
theorem dX10_peek_0 : decode cX10_peek 0 = .ok (.aload_n 0, 1) := by decide +kernel
theorem dX10_peek_1 : decode cX10_peek 1 = .ok (.iconst 0, 1) := by decide +kernel
theorem dX10_peek_2 : decode cX10_peek 2 = .ok (.putfield 36, 3) := by decide +kernel
theorem dX10_peek_5 : decode cX10_peek 5 = .ok (.iload_n 1, 1) := by decide +kernel
theorem dX10_peek_6 : decode cX10_peek 6 = .ok (.iload_n 2, 1) := by decide +kernel
theorem dX10_peek_7 : decode cX10_peek 7 = .ok (.invokestatic 51, 3) := by decide +kernel
theorem dX10_peek_10 : decode cX10_peek 10 = .ok (.ifCond .eq 19, 3) := by decide +kernel
theorem dX10_peek_13 : decode cX10_peek 13 = .ok (.aload_n 0, 1) := by decide +kernel
theorem dX10_peek_14 : decode cX10_peek 14 = .ok (.getfield 7, 3) := by decide +kernel
theorem dX10_peek_17 : decode cX10_peek 17 = .ok (.bipush 20, 2) := by decide +kernel
theorem dX10_peek_19 : decode cX10_peek 19 = .ok (.iload_n 1, 1) := by decide +kernel
theorem dX10_peek_20 : decode cX10_peek 20 = .ok (.iload_n 2, 1) := by decide +kernel
theorem dX10_peek_21 : decode cX10_peek 21 = .ok (.invokestatic 55, 3) := by decide +kernel
theorem dX10_peek_24 : decode cX10_peek 24 = .ok (.iadd, 1) := by decide +kernel
theorem dX10_peek_25 : decode cX10_peek 25 = .ok (.iaload, 1) := by decide +kernel
theorem dX10_peek_26 : decode cX10_peek 26 = .ok (.goto 8, 3) := by decide +kernel
theorem dX10_peek_29 : decode cX10_peek 29 = .ok (.aload_n 0, 1) := by decide +kernel
theorem dX10_peek_30 : decode cX10_peek 30 = .ok (.iconst 1, 1) := by decide +kernel
theorem dX10_peek_31 : decode cX10_peek 31 = .ok (.invokevirtual 43, 3) := by decide +kernel
theorem dX10_peek_34 : decode cX10_peek 34 = .ok (.ireturn, 1) := by decide +kernel
theorem dX10_protect_0 : decode cX10_protect 0 = .ok (.aload_n 0, 1) := by decide +kernel
theorem dX10_protect_1 : decode cX10_protect 1 = .ok (.iload_n 1, 1) := by decide +kernel
theorem dX10_protect_2 : decode cX10_protect 2 = .ok (.iload_n 2, 1) := by decide +kernel
theorem dX10_protect_3 : decode cX10_protect 3 = .ok (.invokestatic 51, 3) := by decide +kernel
theorem dX10_protect_6 : decode cX10_protect 6 = .ok (.ifCond .eq 7, 3) := by decide +kernel
theorem dX10_protect_9 : decode cX10_protect 9 = .ok (.iconst 0, 1) := by decide +kernel
theorem dX10_protect_10 : decode cX10_protect 10 = .ok (.goto 4, 3) := by decide +kernel
theorem dX10_protect_13 : decode cX10_protect 13 = .ok (.iconst 1, 1) := by decide +kernel
theorem dX10_protect_14 : decode cX10_protect 14 = .ok (.putfield 36, 3) := by decide +kernel
theorem dX10_protect_17 : decode cX10_protect 17 = .ok (.aload_n 0, 1) := by decide +kernel
theorem dX10_protect_18 : decode cX10_protect 18 = .ok (.getfield 36, 3) := by decide +kernel
theorem dX10_protect_21 : decode cX10_protect 21 = .ok (.ifCond .ne 32, 3) := by decide +kernel
theorem dX10_protect_24 : decode cX10_protect 24 = .ok (.aload_n 0, 1) := by decide +kernel
theorem dX10_protect_25 : decode cX10_protect 25 = .ok (.bipush 120, 2) := by decide +kernel
theorem dX10_protect_27 : decode cX10_protect 27 = .ok (.iload_n 1, 1) := by decide +kernel
theorem dX10_protect_28 : decode cX10_protect 28 = .ok (.iload_n 2, 1) := by decide +kernel
theorem dX10_protect_29 : decode cX10_protect 29 = .ok (.invokestatic 55, 3) := by decide +kernel
theorem dX10_protect_32 : decode cX10_protect 32 = .ok (.iadd, 1) := by decide +kernel
theorem dX10_protect_33 : decode cX10_protect 33 = .ok (.iload_n 3, 1) := by decide +kernel
theorem dX10_protect_34 : decode cX10_protect 34 = .ok (.ifCond .eq 7, 3) := by decide +kernel
theorem dX10_protect_37 : decode cX10_protect 37 = .ok (.iconst 1, 1) := by decide +kernel
theorem dX10_protect_38 : decode cX10_protect 38 = .ok (.goto 4, 3) := by decide +kernel
theorem dX10_protect_41 : decode cX10_protect 41 = .ok (.iconst 0, 1) := by decide +kernel
theorem dX10_protect_42 : decode cX10_protect 42 = .ok (.invokevirtual 47, 3) := by decide +kernel
theorem dX10_protect_45 : decode cX10_protect 45 = .ok (.iconst 1, 1) := by decide +kernel
theorem dX10_protect_46 : decode cX10_protect 46 = .ok (.if_icmp .ne 7, 3) := by decide +kernel
theorem dX10_protect_49 : decode cX10_protect 49 = .ok (.iconst 1, 1) := by decide +kernel
theorem dX10_protect_50 : decode cX10_protect 50 = .ok (.goto 4, 3) := by decide +kernel
theorem dX10_protect_53 : decode cX10_protect 53 = .ok (.iconst 0, 1) := by decide +kernel
theorem dX10_protect_54 : decode cX10_protect 54 = .ok (.ireturn, 1) := by decide +kernel
theorem dX10_faults_0 : decode cX10_faults 0 = .ok (.sipush 230, 3) := by decide +kernel
theorem dX10_faults_3 : decode cX10_faults 3 = .ok (.bipush 13, 2) := by decide +kernel
theorem dX10_faults_5 : decode cX10_faults 5 = .ok (.iload_n 0, 1) := by decide +kernel
theorem dX10_faults_6 : decode cX10_faults 6 = .ok (.iconst 1, 1) := by decide +kernel
theorem dX10_faults_7 : decode cX10_faults 7 = .ok (.isub, 1) := by decide +kernel
theorem dX10_faults_8 : decode cX10_faults 8 = .ok (.imul, 1) := by decide +kernel
theorem dX10_faults_9 : decode cX10_faults 9 = .ok (.iadd, 1) := by decide +kernel
theorem dX10_faults_10 : decode cX10_faults 10 = .ok (.ireturn, 1) := by decide +kernel
theorem dX10_fault_0 : decode cX10_fault 0 = .ok (.aload_n 0, 1) := by decide +kernel
theorem dX10_fault_1 : decode cX10_fault 1 = .ok (.iconst 0, 1) := by decide +kernel
theorem dX10_fault_2 : decode cX10_fault 2 = .ok (.putfield 36, 3) := by decide +kernel
theorem dX10_fault_5 : decode cX10_fault 5 = .ok (.iload_n 1, 1) := by decide +kernel
theorem dX10_fault_6 : decode cX10_fault 6 = .ok (.iconst 1, 1) := by decide +kernel
theorem dX10_fault_7 : decode cX10_fault 7 = .ok (.iconst 3, 1) := by decide +kernel
theorem dX10_fault_8 : decode cX10_fault 8 = .ok (.invokestatic 39, 3) := by decide +kernel
theorem dX10_fault_11 : decode cX10_fault 11 = .ok (.ifCond .ne 9, 3) := by decide +kernel
theorem dX10_fault_14 : decode cX10_fault 14 = .ok (.aload_n 0, 1) := by decide +kernel
theorem dX10_fault_15 : decode cX10_fault 15 = .ok (.iconst 1, 1) := by decide +kernel
theorem dX10_fault_16 : decode cX10_fault 16 = .ok (.invokevirtual 43, 3) := by decide +kernel
theorem dX10_fault_19 : decode cX10_fault 19 = .ok (.ireturn, 1) := by decide +kernel
theorem dX10_fault_20 : decode cX10_fault 20 = .ok (.iload_n 2, 1) := by decide +kernel
theorem dX10_fault_21 : decode cX10_fault 21 = .ok (.iconst 1, 1) := by decide +kernel
theorem dX10_fault_22 : decode cX10_fault 22 = .ok (.iconst 4, 1) := by decide +kernel
theorem dX10_fault_23 : decode cX10_fault 23 = .ok (.invokestatic 39, 3) := by decide +kernel
theorem dX10_fault_26 : decode cX10_fault 26 = .ok (.ifCond .eq 14, 3) := by decide +kernel
theorem dX10_fault_29 : decode cX10_fault 29 = .ok (.iload_n 3, 1) := by decide +kernel
theorem dX10_fault_30 : decode cX10_fault 30 = .ok (.iconst 0, 1) := by decide +kernel
theorem dX10_fault_31 : decode cX10_fault 31 = .ok (.sipush 2000, 3) := by decide +kernel
theorem dX10_fault_34 : decode cX10_fault 34 = .ok (.invokestatic 39, 3) := by decide +kernel
theorem dX10_fault_37 : decode cX10_fault 37 = .ok (.ifCond .ne 9, 3) := by decide +kernel
theorem dX10_fault_40 : decode cX10_fault 40 = .ok (.aload_n 0, 1) := by decide +kernel
theorem dX10_fault_41 : decode cX10_fault 41 = .ok (.iconst 2, 1) := by decide +kernel
theorem dX10_fault_42 : decode cX10_fault 42 = .ok (.invokevirtual 43, 3) := by decide +kernel
theorem dX10_fault_45 : decode cX10_fault 45 = .ok (.ireturn, 1) := by decide +kernel
theorem dX10_fault_46 : decode cX10_fault 46 = .ok (.iload_n 1, 1) := by decide +kernel
theorem dX10_fault_47 : decode cX10_fault 47 = .ok (.invokestatic 58, 3) := by decide +kernel
theorem dX10_fault_50 : decode cX10_fault 50 = .ok (.istore 4, 2) := by decide +kernel
theorem dX10_fault_52 : decode cX10_fault 52 = .ok (.aload_n 0, 1) := by decide +kernel
theorem dX10_fault_53 : decode cX10_fault 53 = .ok (.getfield 7, 3) := by decide +kernel
theorem dX10_fault_56 : decode cX10_fault 56 = .ok (.iload 4, 2) := by decide +kernel
theorem dX10_fault_58 : decode cX10_fault 58 = .ok (.iaload, 1) := by decide +kernel
theorem dX10_fault_59 : decode cX10_fault 59 = .ok (.bipush 6, 2) := by decide +kernel
theorem dX10_fault_61 : decode cX10_fault 61 = .ok (.if_icmp .ne 9, 3) := by decide +kernel
theorem dX10_fault_64 : decode cX10_fault 64 = .ok (.aload_n 0, 1) := by decide +kernel
theorem dX10_fault_65 : decode cX10_fault 65 = .ok (.iconst 3, 1) := by decide +kernel
theorem dX10_fault_66 : decode cX10_fault 66 = .ok (.invokevirtual 43, 3) := by decide +kernel
theorem dX10_fault_69 : decode cX10_fault 69 = .ok (.ireturn, 1) := by decide +kernel
theorem dX10_fault_70 : decode cX10_fault 70 = .ok (.aload_n 0, 1) := by decide +kernel
theorem dX10_fault_71 : decode cX10_fault 71 = .ok (.getfield 7, 3) := by decide +kernel
theorem dX10_fault_74 : decode cX10_fault 74 = .ok (.iload 4, 2) := by decide +kernel
theorem dX10_fault_76 : decode cX10_fault 76 = .ok (.iconst 1, 1) := by decide +kernel
theorem dX10_fault_77 : decode cX10_fault 77 = .ok (.iadd, 1) := by decide +kernel
theorem dX10_fault_78 : decode cX10_fault 78 = .ok (.iconst 2, 1) := by decide +kernel
theorem dX10_fault_79 : decode cX10_fault 79 = .ok (.aload_n 0, 1) := by decide +kernel
theorem dX10_fault_80 : decode cX10_fault 80 = .ok (.getfield 7, 3) := by decide +kernel
theorem dX10_fault_83 : decode cX10_fault 83 = .ok (.iload 4, 2) := by decide +kernel
theorem dX10_fault_85 : decode cX10_fault 85 = .ok (.iaload, 1) := by decide +kernel
theorem dX10_fault_86 : decode cX10_fault 86 = .ok (.imul, 1) := by decide +kernel
theorem dX10_fault_87 : decode cX10_fault 87 = .ok (.iadd, 1) := by decide +kernel
theorem dX10_fault_88 : decode cX10_fault 88 = .ok (.iload_n 2, 1) := by decide +kernel
theorem dX10_fault_89 : decode cX10_fault 89 = .ok (.iastore, 1) := by decide +kernel
theorem dX10_fault_90 : decode cX10_fault 90 = .ok (.aload_n 0, 1) := by decide +kernel
theorem dX10_fault_91 : decode cX10_fault 91 = .ok (.getfield 7, 3) := by decide +kernel
theorem dX10_fault_94 : decode cX10_fault 94 = .ok (.iload 4, 2) := by decide +kernel
theorem dX10_fault_96 : decode cX10_fault 96 = .ok (.iconst 2, 1) := by decide +kernel
theorem dX10_fault_97 : decode cX10_fault 97 = .ok (.iadd, 1) := by decide +kernel
theorem dX10_fault_98 : decode cX10_fault 98 = .ok (.iconst 2, 1) := by decide +kernel
theorem dX10_fault_99 : decode cX10_fault 99 = .ok (.aload_n 0, 1) := by decide +kernel
theorem dX10_fault_100 : decode cX10_fault 100 = .ok (.getfield 7, 3) := by decide +kernel
theorem dX10_fault_103 : decode cX10_fault 103 = .ok (.iload 4, 2) := by decide +kernel
theorem dX10_fault_105 : decode cX10_fault 105 = .ok (.iaload, 1) := by decide +kernel
theorem dX10_fault_106 : decode cX10_fault 106 = .ok (.imul, 1) := by decide +kernel
theorem dX10_fault_107 : decode cX10_fault 107 = .ok (.iadd, 1) := by decide +kernel
theorem dX10_fault_108 : decode cX10_fault 108 = .ok (.iload_n 3, 1) := by decide +kernel
theorem dX10_fault_109 : decode cX10_fault 109 = .ok (.iastore, 1) := by decide +kernel
theorem dX10_fault_110 : decode cX10_fault 110 = .ok (.aload_n 0, 1) := by decide +kernel
theorem dX10_fault_111 : decode cX10_fault 111 = .ok (.getfield 7, 3) := by decide +kernel
theorem dX10_fault_114 : decode cX10_fault 114 = .ok (.iload 4, 2) := by decide +kernel
theorem dX10_fault_116 : decode cX10_fault 116 = .ok (.dup2, 1) := by decide +kernel
theorem dX10_fault_117 : decode cX10_fault 117 = .ok (.iaload, 1) := by decide +kernel
theorem dX10_fault_118 : decode cX10_fault 118 = .ok (.iconst 1, 1) := by decide +kernel
theorem dX10_fault_119 : decode cX10_fault 119 = .ok (.iadd, 1) := by decide +kernel
theorem dX10_fault_120 : decode cX10_fault 120 = .ok (.iastore, 1) := by decide +kernel
theorem dX10_fault_121 : decode cX10_fault 121 = .ok (.aload_n 0, 1) := by decide +kernel
theorem dX10_fault_122 : decode cX10_fault 122 = .ok (.getfield 7, 3) := by decide +kernel
theorem dX10_fault_125 : decode cX10_fault 125 = .ok (.iload 4, 2) := by decide +kernel
theorem dX10_fault_127 : decode cX10_fault 127 = .ok (.iaload, 1) := by decide +kernel
theorem dX10_fault_128 : decode cX10_fault 128 = .ok (.ireturn, 1) := by decide +kernel
theorem dX10_requestAt_0 : decode cX10_requestAt 0 = .ok (.sipush 280, 3) := by decide +kernel
theorem dX10_requestAt_3 : decode cX10_requestAt 3 = .ok (.bipush 12, 2) := by decide +kernel
theorem dX10_requestAt_5 : decode cX10_requestAt 5 = .ok (.iload_n 0, 1) := by decide +kernel
theorem dX10_requestAt_6 : decode cX10_requestAt 6 = .ok (.imul, 1) := by decide +kernel
theorem dX10_requestAt_7 : decode cX10_requestAt 7 = .ok (.iadd, 1) := by decide +kernel
theorem dX10_requestAt_8 : decode cX10_requestAt 8 = .ok (.ireturn, 1) := by decide +kernel
theorem dX10_isRequest_0 : decode cX10_isRequest 0 = .ok (.iload_n 1, 1) := by decide +kernel
theorem dX10_isRequest_1 : decode cX10_isRequest 1 = .ok (.iconst 0, 1) := by decide +kernel
theorem dX10_isRequest_2 : decode cX10_isRequest 2 = .ok (.aload_n 0, 1) := by decide +kernel
theorem dX10_isRequest_3 : decode cX10_isRequest 3 = .ok (.getfield 7, 3) := by decide +kernel
theorem dX10_isRequest_6 : decode cX10_isRequest 6 = .ok (.bipush 6, 2) := by decide +kernel
theorem dX10_isRequest_8 : decode cX10_isRequest 8 = .ok (.iaload, 1) := by decide +kernel
theorem dX10_isRequest_9 : decode cX10_isRequest 9 = .ok (.iconst 1, 1) := by decide +kernel
theorem dX10_isRequest_10 : decode cX10_isRequest 10 = .ok (.isub, 1) := by decide +kernel
theorem dX10_isRequest_11 : decode cX10_isRequest 11 = .ok (.invokestatic 39, 3) := by decide +kernel
theorem dX10_isRequest_14 : decode cX10_isRequest 14 = .ok (.ireturn, 1) := by decide +kernel
theorem dX10_makes_0 : decode cX10_makes 0 = .ok (.aload_n 0, 1) := by decide +kernel
theorem dX10_makes_1 : decode cX10_makes 1 = .ok (.getfield 7, 3) := by decide +kernel
theorem dX10_makes_4 : decode cX10_makes 4 = .ok (.bipush 6, 2) := by decide +kernel
theorem dX10_makes_6 : decode cX10_makes 6 = .ok (.iaload, 1) := by decide +kernel
theorem dX10_makes_7 : decode cX10_makes 7 = .ok (.invokestatic 61, 3) := by decide +kernel
theorem dX10_makes_10 : decode cX10_makes 10 = .ok (.istore 7, 2) := by decide +kernel
theorem dX10_makes_12 : decode cX10_makes 12 = .ok (.aload_n 0, 1) := by decide +kernel
theorem dX10_makes_13 : decode cX10_makes 13 = .ok (.getfield 7, 3) := by decide +kernel
theorem dX10_makes_16 : decode cX10_makes 16 = .ok (.iload 7, 2) := by decide +kernel
theorem dX10_makes_18 : decode cX10_makes 18 = .ok (.iload_n 1, 1) := by decide +kernel
theorem dX10_makes_19 : decode cX10_makes 19 = .ok (.iastore, 1) := by decide +kernel
theorem dX10_makes_20 : decode cX10_makes 20 = .ok (.aload_n 0, 1) := by decide +kernel
theorem dX10_makes_21 : decode cX10_makes 21 = .ok (.getfield 7, 3) := by decide +kernel
theorem dX10_makes_24 : decode cX10_makes 24 = .ok (.iload 7, 2) := by decide +kernel
theorem dX10_makes_26 : decode cX10_makes 26 = .ok (.iconst 1, 1) := by decide +kernel
theorem dX10_makes_27 : decode cX10_makes 27 = .ok (.iadd, 1) := by decide +kernel
theorem dX10_makes_28 : decode cX10_makes 28 = .ok (.iload_n 2, 1) := by decide +kernel
theorem dX10_makes_29 : decode cX10_makes 29 = .ok (.iastore, 1) := by decide +kernel
theorem dX10_makes_30 : decode cX10_makes 30 = .ok (.aload_n 0, 1) := by decide +kernel
theorem dX10_makes_31 : decode cX10_makes 31 = .ok (.getfield 7, 3) := by decide +kernel
theorem dX10_makes_34 : decode cX10_makes 34 = .ok (.iload 7, 2) := by decide +kernel
theorem dX10_makes_36 : decode cX10_makes 36 = .ok (.iconst 2, 1) := by decide +kernel
theorem dX10_makes_37 : decode cX10_makes 37 = .ok (.iadd, 1) := by decide +kernel
theorem dX10_makes_38 : decode cX10_makes 38 = .ok (.iload_n 3, 1) := by decide +kernel
theorem dX10_makes_39 : decode cX10_makes 39 = .ok (.iastore, 1) := by decide +kernel
theorem dX10_makes_40 : decode cX10_makes 40 = .ok (.aload_n 0, 1) := by decide +kernel
theorem dX10_makes_41 : decode cX10_makes 41 = .ok (.getfield 7, 3) := by decide +kernel
theorem dX10_makes_44 : decode cX10_makes 44 = .ok (.iload 7, 2) := by decide +kernel
theorem dX10_makes_46 : decode cX10_makes 46 = .ok (.iconst 3, 1) := by decide +kernel
theorem dX10_makes_47 : decode cX10_makes 47 = .ok (.iadd, 1) := by decide +kernel
theorem dX10_makes_48 : decode cX10_makes 48 = .ok (.iload 4, 2) := by decide +kernel
theorem dX10_makes_50 : decode cX10_makes 50 = .ok (.iastore, 1) := by decide +kernel
theorem dX10_makes_51 : decode cX10_makes 51 = .ok (.aload_n 0, 1) := by decide +kernel
theorem dX10_makes_52 : decode cX10_makes 52 = .ok (.getfield 7, 3) := by decide +kernel
theorem dX10_makes_55 : decode cX10_makes 55 = .ok (.iload 7, 2) := by decide +kernel
theorem dX10_makes_57 : decode cX10_makes 57 = .ok (.iconst 4, 1) := by decide +kernel
theorem dX10_makes_58 : decode cX10_makes 58 = .ok (.iadd, 1) := by decide +kernel
theorem dX10_makes_59 : decode cX10_makes 59 = .ok (.iload 5, 2) := by decide +kernel
theorem dX10_makes_61 : decode cX10_makes 61 = .ok (.ifCond .eq 7, 3) := by decide +kernel
theorem dX10_makes_64 : decode cX10_makes 64 = .ok (.iconst 1, 1) := by decide +kernel
theorem dX10_makes_65 : decode cX10_makes 65 = .ok (.goto 4, 3) := by decide +kernel
theorem dX10_makes_68 : decode cX10_makes 68 = .ok (.iconst 0, 1) := by decide +kernel
theorem dX10_makes_69 : decode cX10_makes 69 = .ok (.iastore, 1) := by decide +kernel
theorem dX10_makes_70 : decode cX10_makes 70 = .ok (.aload_n 0, 1) := by decide +kernel
theorem dX10_makes_71 : decode cX10_makes 71 = .ok (.getfield 7, 3) := by decide +kernel
theorem dX10_makes_74 : decode cX10_makes 74 = .ok (.iload 7, 2) := by decide +kernel
theorem dX10_makes_76 : decode cX10_makes 76 = .ok (.bipush 7, 2) := by decide +kernel
theorem dX10_makes_78 : decode cX10_makes 78 = .ok (.iadd, 1) := by decide +kernel
theorem dX10_makes_79 : decode cX10_makes 79 = .ok (.iconst (-1), 1) := by decide +kernel
theorem dX10_makes_80 : decode cX10_makes 80 = .ok (.iastore, 1) := by decide +kernel
theorem dX10_makes_81 : decode cX10_makes 81 = .ok (.aload_n 0, 1) := by decide +kernel
theorem dX10_makes_82 : decode cX10_makes 82 = .ok (.getfield 7, 3) := by decide +kernel
theorem dX10_makes_85 : decode cX10_makes 85 = .ok (.iload 7, 2) := by decide +kernel
theorem dX10_makes_87 : decode cX10_makes 87 = .ok (.bipush 9, 2) := by decide +kernel
theorem dX10_makes_89 : decode cX10_makes 89 = .ok (.iadd, 1) := by decide +kernel
theorem dX10_makes_90 : decode cX10_makes 90 = .ok (.iload 6, 2) := by decide +kernel
theorem dX10_makes_92 : decode cX10_makes 92 = .ok (.iastore, 1) := by decide +kernel
theorem dX10_makes_93 : decode cX10_makes 93 = .ok (.aload_n 0, 1) := by decide +kernel
theorem dX10_makes_94 : decode cX10_makes 94 = .ok (.getfield 7, 3) := by decide +kernel
theorem dX10_makes_97 : decode cX10_makes 97 = .ok (.bipush 6, 2) := by decide +kernel
theorem dX10_makes_99 : decode cX10_makes 99 = .ok (.dup2, 1) := by decide +kernel
theorem dX10_makes_100 : decode cX10_makes 100 = .ok (.iaload, 1) := by decide +kernel
theorem dX10_makes_101 : decode cX10_makes 101 = .ok (.iconst 1, 1) := by decide +kernel
theorem dX10_makes_102 : decode cX10_makes 102 = .ok (.iadd, 1) := by decide +kernel
theorem dX10_makes_103 : decode cX10_makes 103 = .ok (.iastore, 1) := by decide +kernel
theorem dX10_makes_104 : decode cX10_makes 104 = .ok (.aload_n 0, 1) := by decide +kernel
theorem dX10_makes_105 : decode cX10_makes 105 = .ok (.getfield 7, 3) := by decide +kernel
theorem dX10_makes_108 : decode cX10_makes 108 = .ok (.bipush 6, 2) := by decide +kernel
theorem dX10_makes_110 : decode cX10_makes 110 = .ok (.iaload, 1) := by decide +kernel
theorem dX10_makes_111 : decode cX10_makes 111 = .ok (.iconst 1, 1) := by decide +kernel
theorem dX10_makes_112 : decode cX10_makes 112 = .ok (.isub, 1) := by decide +kernel
theorem dX10_makes_113 : decode cX10_makes 113 = .ok (.ireturn, 1) := by decide +kernel
theorem dX10_asks_0 : decode cX10_asks 0 = .ok (.iload_n 1, 1) := by decide +kernel
theorem dX10_asks_1 : decode cX10_asks 1 = .ok (.iconst 0, 1) := by decide +kernel
theorem dX10_asks_2 : decode cX10_asks 2 = .ok (.iconst 3, 1) := by decide +kernel
theorem dX10_asks_3 : decode cX10_asks 3 = .ok (.invokestatic 39, 3) := by decide +kernel
theorem dX10_asks_6 : decode cX10_asks 6 = .ok (.ifCond .eq 12, 3) := by decide +kernel
theorem dX10_asks_9 : decode cX10_asks 9 = .ok (.iload_n 2, 1) := by decide +kernel
theorem dX10_asks_10 : decode cX10_asks 10 = .ok (.iconst 1, 1) := by decide +kernel
theorem dX10_asks_11 : decode cX10_asks 11 = .ok (.iconst 3, 1) := by decide +kernel
theorem dX10_asks_12 : decode cX10_asks 12 = .ok (.invokestatic 39, 3) := by decide +kernel
theorem dX10_asks_15 : decode cX10_asks 15 = .ok (.ifCond .ne 7, 3) := by decide +kernel
theorem dX10_asks_18 : decode cX10_asks 18 = .ok (.iconst 1, 1) := by decide +kernel
theorem dX10_asks_19 : decode cX10_asks 19 = .ok (.goto 28, 3) := by decide +kernel
theorem dX10_asks_22 : decode cX10_asks 22 = .ok (.iload_n 3, 1) := by decide +kernel
theorem dX10_asks_23 : decode cX10_asks 23 = .ok (.ifCond .ne 7, 3) := by decide +kernel
theorem dX10_asks_26 : decode cX10_asks 26 = .ok (.iconst 2, 1) := by decide +kernel
theorem dX10_asks_27 : decode cX10_asks 27 = .ok (.goto 20, 3) := by decide +kernel
theorem dX10_asks_30 : decode cX10_asks 30 = .ok (.aload_n 0, 1) := by decide +kernel
theorem dX10_asks_31 : decode cX10_asks 31 = .ok (.getfield 7, 3) := by decide +kernel
theorem dX10_asks_34 : decode cX10_asks 34 = .ok (.bipush 6, 2) := by decide +kernel
theorem dX10_asks_36 : decode cX10_asks 36 = .ok (.iaload, 1) := by decide +kernel
theorem dX10_asks_37 : decode cX10_asks 37 = .ok (.bipush 40, 2) := by decide +kernel
theorem dX10_asks_39 : decode cX10_asks 39 = .ok (.if_icmp .ne 7, 3) := by decide +kernel
theorem dX10_asks_42 : decode cX10_asks 42 = .ok (.iconst 3, 1) := by decide +kernel
theorem dX10_asks_43 : decode cX10_asks 43 = .ok (.goto 4, 3) := by decide +kernel
theorem dX10_asks_46 : decode cX10_asks 46 = .ok (.iconst 0, 1) := by decide +kernel
theorem dX10_asks_47 : decode cX10_asks 47 = .ok (.ireturn, 1) := by decide +kernel
theorem dX10_read_0 : decode cX10_read 0 = .ok (.aload_n 0, 1) := by decide +kernel
theorem dX10_read_1 : decode cX10_read 1 = .ok (.aload_n 0, 1) := by decide +kernel
theorem dX10_read_2 : decode cX10_read 2 = .ok (.iload_n 1, 1) := by decide +kernel
theorem dX10_read_3 : decode cX10_read 3 = .ok (.iload_n 2, 1) := by decide +kernel
theorem dX10_read_4 : decode cX10_read 4 = .ok (.iload_n 3, 1) := by decide +kernel
theorem dX10_read_5 : decode cX10_read 5 = .ok (.iconst 0, 1) := by decide +kernel
theorem dX10_read_6 : decode cX10_read 6 = .ok (.sipush 1000, 3) := by decide +kernel
theorem dX10_read_9 : decode cX10_read 9 = .ok (.invokestatic 39, 3) := by decide +kernel
theorem dX10_read_12 : decode cX10_read 12 = .ok (.ifCond .eq 18, 3) := by decide +kernel
theorem dX10_read_15 : decode cX10_read 15 = .ok (.iload 4, 2) := by decide +kernel
theorem dX10_read_17 : decode cX10_read 17 = .ok (.iconst 1, 1) := by decide +kernel
theorem dX10_read_18 : decode cX10_read 18 = .ok (.bipush 16, 2) := by decide +kernel
theorem dX10_read_20 : decode cX10_read 20 = .ok (.invokestatic 39, 3) := by decide +kernel
theorem dX10_read_23 : decode cX10_read 23 = .ok (.ifCond .eq 7, 3) := by decide +kernel
theorem dX10_read_26 : decode cX10_read 26 = .ok (.iconst 1, 1) := by decide +kernel
theorem dX10_read_27 : decode cX10_read 27 = .ok (.goto 4, 3) := by decide +kernel
theorem dX10_read_30 : decode cX10_read 30 = .ok (.iconst 0, 1) := by decide +kernel
theorem dX10_read_31 : decode cX10_read 31 = .ok (.invokevirtual 64, 3) := by decide +kernel
theorem dX10_read_34 : decode cX10_read 34 = .ok (.putfield 36, 3) := by decide +kernel
theorem dX10_read_37 : decode cX10_read 37 = .ok (.aload_n 0, 1) := by decide +kernel
theorem dX10_read_38 : decode cX10_read 38 = .ok (.getfield 36, 3) := by decide +kernel
theorem dX10_read_41 : decode cX10_read 41 = .ok (.ifCond .ne 17, 3) := by decide +kernel
theorem dX10_read_44 : decode cX10_read 44 = .ok (.aload_n 0, 1) := by decide +kernel
theorem dX10_read_45 : decode cX10_read 45 = .ok (.iload_n 1, 1) := by decide +kernel
theorem dX10_read_46 : decode cX10_read 46 = .ok (.iload_n 2, 1) := by decide +kernel
theorem dX10_read_47 : decode cX10_read 47 = .ok (.iload_n 3, 1) := by decide +kernel
theorem dX10_read_48 : decode cX10_read 48 = .ok (.iload 4, 2) := by decide +kernel
theorem dX10_read_50 : decode cX10_read 50 = .ok (.iconst 0, 1) := by decide +kernel
theorem dX10_read_51 : decode cX10_read 51 = .ok (.iconst 0, 1) := by decide +kernel
theorem dX10_read_52 : decode cX10_read 52 = .ok (.invokevirtual 68, 3) := by decide +kernel
theorem dX10_read_55 : decode cX10_read 55 = .ok (.goto 4, 3) := by decide +kernel
theorem dX10_read_58 : decode cX10_read 58 = .ok (.iconst 0, 1) := by decide +kernel
theorem dX10_read_59 : decode cX10_read 59 = .ok (.ireturn, 1) := by decide +kernel
theorem dX10_write_0 : decode cX10_write 0 = .ok (.aload_n 0, 1) := by decide +kernel
theorem dX10_write_1 : decode cX10_write 1 = .ok (.aload_n 0, 1) := by decide +kernel
theorem dX10_write_2 : decode cX10_write 2 = .ok (.iload_n 1, 1) := by decide +kernel
theorem dX10_write_3 : decode cX10_write 3 = .ok (.iload_n 2, 1) := by decide +kernel
theorem dX10_write_4 : decode cX10_write 4 = .ok (.iload_n 3, 1) := by decide +kernel
theorem dX10_write_5 : decode cX10_write 5 = .ok (.iconst 0, 1) := by decide +kernel
theorem dX10_write_6 : decode cX10_write 6 = .ok (.sipush 1000, 3) := by decide +kernel
theorem dX10_write_9 : decode cX10_write 9 = .ok (.invokestatic 39, 3) := by decide +kernel
theorem dX10_write_12 : decode cX10_write 12 = .ok (.ifCond .eq 18, 3) := by decide +kernel
theorem dX10_write_15 : decode cX10_write 15 = .ok (.iload 4, 2) := by decide +kernel
theorem dX10_write_17 : decode cX10_write 17 = .ok (.iconst 0, 1) := by decide +kernel
theorem dX10_write_18 : decode cX10_write 18 = .ok (.ldc 25, 2) := by decide +kernel
theorem dX10_write_20 : decode cX10_write 20 = .ok (.invokestatic 39, 3) := by decide +kernel
theorem dX10_write_23 : decode cX10_write 23 = .ok (.ifCond .eq 7, 3) := by decide +kernel
theorem dX10_write_26 : decode cX10_write 26 = .ok (.iconst 1, 1) := by decide +kernel
theorem dX10_write_27 : decode cX10_write 27 = .ok (.goto 4, 3) := by decide +kernel
theorem dX10_write_30 : decode cX10_write 30 = .ok (.iconst 0, 1) := by decide +kernel
theorem dX10_write_31 : decode cX10_write 31 = .ok (.invokevirtual 64, 3) := by decide +kernel
theorem dX10_write_34 : decode cX10_write 34 = .ok (.putfield 36, 3) := by decide +kernel
theorem dX10_write_37 : decode cX10_write 37 = .ok (.aload_n 0, 1) := by decide +kernel
theorem dX10_write_38 : decode cX10_write 38 = .ok (.getfield 36, 3) := by decide +kernel
theorem dX10_write_41 : decode cX10_write 41 = .ok (.ifCond .ne 17, 3) := by decide +kernel
theorem dX10_write_44 : decode cX10_write 44 = .ok (.aload_n 0, 1) := by decide +kernel
theorem dX10_write_45 : decode cX10_write 45 = .ok (.iload_n 1, 1) := by decide +kernel
theorem dX10_write_46 : decode cX10_write 46 = .ok (.iload_n 2, 1) := by decide +kernel
theorem dX10_write_47 : decode cX10_write 47 = .ok (.iload_n 3, 1) := by decide +kernel
theorem dX10_write_48 : decode cX10_write 48 = .ok (.iconst 1, 1) := by decide +kernel
theorem dX10_write_49 : decode cX10_write 49 = .ok (.iconst 1, 1) := by decide +kernel
theorem dX10_write_50 : decode cX10_write 50 = .ok (.iload 4, 2) := by decide +kernel
theorem dX10_write_52 : decode cX10_write 52 = .ok (.invokevirtual 68, 3) := by decide +kernel
theorem dX10_write_55 : decode cX10_write 55 = .ok (.goto 4, 3) := by decide +kernel
theorem dX10_write_58 : decode cX10_write 58 = .ok (.iconst 0, 1) := by decide +kernel
theorem dX10_write_59 : decode cX10_write 59 = .ok (.ireturn, 1) := by decide +kernel
theorem dX10_request_0 : decode cX10_request 0 = .ok (.aload_n 0, 1) := by decide +kernel
theorem dX10_request_1 : decode cX10_request 1 = .ok (.aload_n 0, 1) := by decide +kernel
theorem dX10_request_2 : decode cX10_request 2 = .ok (.iload_n 1, 1) := by decide +kernel
theorem dX10_request_3 : decode cX10_request 3 = .ok (.invokevirtual 72, 3) := by decide +kernel
theorem dX10_request_6 : decode cX10_request 6 = .ok (.ifCond .eq 17, 3) := by decide +kernel
theorem dX10_request_9 : decode cX10_request 9 = .ok (.iload_n 2, 1) := by decide +kernel
theorem dX10_request_10 : decode cX10_request 10 = .ok (.iconst 0, 1) := by decide +kernel
theorem dX10_request_11 : decode cX10_request 11 = .ok (.bipush 8, 2) := by decide +kernel
theorem dX10_request_13 : decode cX10_request 13 = .ok (.invokestatic 39, 3) := by decide +kernel
theorem dX10_request_16 : decode cX10_request 16 = .ok (.ifCond .eq 7, 3) := by decide +kernel
theorem dX10_request_19 : decode cX10_request 19 = .ok (.iconst 0, 1) := by decide +kernel
theorem dX10_request_20 : decode cX10_request 20 = .ok (.goto 4, 3) := by decide +kernel
theorem dX10_request_23 : decode cX10_request 23 = .ok (.iconst 1, 1) := by decide +kernel
theorem dX10_request_24 : decode cX10_request 24 = .ok (.putfield 36, 3) := by decide +kernel
theorem dX10_request_27 : decode cX10_request 27 = .ok (.aload_n 0, 1) := by decide +kernel
theorem dX10_request_28 : decode cX10_request 28 = .ok (.getfield 36, 3) := by decide +kernel
theorem dX10_request_31 : decode cX10_request 31 = .ok (.ifCond .ne 17, 3) := by decide +kernel
theorem dX10_request_34 : decode cX10_request 34 = .ok (.aload_n 0, 1) := by decide +kernel
theorem dX10_request_35 : decode cX10_request 35 = .ok (.getfield 7, 3) := by decide +kernel
theorem dX10_request_38 : decode cX10_request 38 = .ok (.iload_n 1, 1) := by decide +kernel
theorem dX10_request_39 : decode cX10_request 39 = .ok (.invokestatic 61, 3) := by decide +kernel
theorem dX10_request_42 : decode cX10_request 42 = .ok (.iload_n 2, 1) := by decide +kernel
theorem dX10_request_43 : decode cX10_request 43 = .ok (.iadd, 1) := by decide +kernel
theorem dX10_request_44 : decode cX10_request 44 = .ok (.iaload, 1) := by decide +kernel
theorem dX10_request_45 : decode cX10_request 45 = .ok (.goto 4, 3) := by decide +kernel
theorem dX10_request_48 : decode cX10_request 48 = .ok (.iconst 0, 1) := by decide +kernel
theorem dX10_request_49 : decode cX10_request 49 = .ok (.ireturn, 1) := by decide +kernel
theorem dX10_value_0 : decode cX10_value 0 = .ok (.aload_n 0, 1) := by decide +kernel
theorem dX10_value_1 : decode cX10_value 1 = .ok (.iconst 0, 1) := by decide +kernel
theorem dX10_value_2 : decode cX10_value 2 = .ok (.putfield 36, 3) := by decide +kernel
theorem dX10_value_5 : decode cX10_value 5 = .ok (.aload_n 0, 1) := by decide +kernel
theorem dX10_value_6 : decode cX10_value 6 = .ok (.iload_n 1, 1) := by decide +kernel
theorem dX10_value_7 : decode cX10_value 7 = .ok (.invokevirtual 72, 3) := by decide +kernel
theorem dX10_value_10 : decode cX10_value 10 = .ok (.ifCond .eq 24, 3) := by decide +kernel
theorem dX10_value_13 : decode cX10_value 13 = .ok (.iload_n 2, 1) := by decide +kernel
theorem dX10_value_14 : decode cX10_value 14 = .ok (.iconst 0, 1) := by decide +kernel
theorem dX10_value_15 : decode cX10_value 15 = .ok (.aload_n 0, 1) := by decide +kernel
theorem dX10_value_16 : decode cX10_value 16 = .ok (.getfield 7, 3) := by decide +kernel
theorem dX10_value_19 : decode cX10_value 19 = .ok (.iload_n 1, 1) := by decide +kernel
theorem dX10_value_20 : decode cX10_value 20 = .ok (.invokestatic 61, 3) := by decide +kernel
theorem dX10_value_23 : decode cX10_value 23 = .ok (.iconst 3, 1) := by decide +kernel
theorem dX10_value_24 : decode cX10_value 24 = .ok (.iadd, 1) := by decide +kernel
theorem dX10_value_25 : decode cX10_value 25 = .ok (.iaload, 1) := by decide +kernel
theorem dX10_value_26 : decode cX10_value 26 = .ok (.iconst 1, 1) := by decide +kernel
theorem dX10_value_27 : decode cX10_value 27 = .ok (.isub, 1) := by decide +kernel
theorem dX10_value_28 : decode cX10_value 28 = .ok (.invokestatic 39, 3) := by decide +kernel
theorem dX10_value_31 : decode cX10_value 31 = .ok (.ifCond .ne 9, 3) := by decide +kernel
theorem dX10_value_34 : decode cX10_value 34 = .ok (.aload_n 0, 1) := by decide +kernel
theorem dX10_value_35 : decode cX10_value 35 = .ok (.iconst 1, 1) := by decide +kernel
theorem dX10_value_36 : decode cX10_value 36 = .ok (.invokevirtual 43, 3) := by decide +kernel
theorem dX10_value_39 : decode cX10_value 39 = .ok (.ireturn, 1) := by decide +kernel
theorem dX10_value_40 : decode cX10_value 40 = .ok (.iload_n 1, 1) := by decide +kernel
theorem dX10_value_41 : decode cX10_value 41 = .ok (.invokestatic 61, 3) := by decide +kernel
theorem dX10_value_44 : decode cX10_value 44 = .ok (.istore_n 3, 1) := by decide +kernel
theorem dX10_value_45 : decode cX10_value 45 = .ok (.aload_n 0, 1) := by decide +kernel
theorem dX10_value_46 : decode cX10_value 46 = .ok (.getfield 7, 3) := by decide +kernel
theorem dX10_value_49 : decode cX10_value 49 = .ok (.iload_n 3, 1) := by decide +kernel
theorem dX10_value_50 : decode cX10_value 50 = .ok (.iconst 4, 1) := by decide +kernel
theorem dX10_value_51 : decode cX10_value 51 = .ok (.iadd, 1) := by decide +kernel
theorem dX10_value_52 : decode cX10_value 52 = .ok (.iaload, 1) := by decide +kernel
theorem dX10_value_53 : decode cX10_value 53 = .ok (.ifCond .ne 33, 3) := by decide +kernel
theorem dX10_value_56 : decode cX10_value 56 = .ok (.aload_n 0, 1) := by decide +kernel
theorem dX10_value_57 : decode cX10_value 57 = .ok (.getfield 7, 3) := by decide +kernel
theorem dX10_value_60 : decode cX10_value 60 = .ok (.iload_n 3, 1) := by decide +kernel
theorem dX10_value_61 : decode cX10_value 61 = .ok (.iconst 5, 1) := by decide +kernel
theorem dX10_value_62 : decode cX10_value 62 = .ok (.iadd, 1) := by decide +kernel
theorem dX10_value_63 : decode cX10_value 63 = .ok (.iaload, 1) := by decide +kernel
theorem dX10_value_64 : decode cX10_value 64 = .ok (.iconst 1, 1) := by decide +kernel
theorem dX10_value_65 : decode cX10_value 65 = .ok (.if_icmp .ne 21, 3) := by decide +kernel
theorem dX10_value_68 : decode cX10_value 68 = .ok (.aload_n 0, 1) := by decide +kernel
theorem dX10_value_69 : decode cX10_value 69 = .ok (.getfield 7, 3) := by decide +kernel
theorem dX10_value_72 : decode cX10_value 72 = .ok (.sipush 760, 3) := by decide +kernel
theorem dX10_value_75 : decode cX10_value 75 = .ok (.bipush 16, 2) := by decide +kernel
theorem dX10_value_77 : decode cX10_value 77 = .ok (.iload_n 1, 1) := by decide +kernel
theorem dX10_value_78 : decode cX10_value 78 = .ok (.imul, 1) := by decide +kernel
theorem dX10_value_79 : decode cX10_value 79 = .ok (.iadd, 1) := by decide +kernel
theorem dX10_value_80 : decode cX10_value 80 = .ok (.iload_n 2, 1) := by decide +kernel
theorem dX10_value_81 : decode cX10_value 81 = .ok (.iadd, 1) := by decide +kernel
theorem dX10_value_82 : decode cX10_value 82 = .ok (.iaload, 1) := by decide +kernel
theorem dX10_value_83 : decode cX10_value 83 = .ok (.goto 8, 3) := by decide +kernel
theorem dX10_value_86 : decode cX10_value 86 = .ok (.aload_n 0, 1) := by decide +kernel
theorem dX10_value_87 : decode cX10_value 87 = .ok (.iconst 2, 1) := by decide +kernel
theorem dX10_value_88 : decode cX10_value 88 = .ok (.invokevirtual 43, 3) := by decide +kernel
theorem dX10_value_91 : decode cX10_value 91 = .ok (.ireturn, 1) := by decide +kernel
theorem dX10_countIn_0 : decode cX10_countIn 0 = .ok (.iconst 0, 1) := by decide +kernel
theorem dX10_countIn_1 : decode cX10_countIn 1 = .ok (.istore_n 3, 1) := by decide +kernel
theorem dX10_countIn_2 : decode cX10_countIn 2 = .ok (.iconst 0, 1) := by decide +kernel
theorem dX10_countIn_3 : decode cX10_countIn 3 = .ok (.istore 4, 2) := by decide +kernel
theorem dX10_countIn_5 : decode cX10_countIn 5 = .ok (.iload 4, 2) := by decide +kernel
theorem dX10_countIn_7 : decode cX10_countIn 7 = .ok (.aload_n 0, 1) := by decide +kernel
theorem dX10_countIn_8 : decode cX10_countIn 8 = .ok (.getfield 7, 3) := by decide +kernel
theorem dX10_countIn_11 : decode cX10_countIn 11 = .ok (.bipush 6, 2) := by decide +kernel
theorem dX10_countIn_13 : decode cX10_countIn 13 = .ok (.iaload, 1) := by decide +kernel
theorem dX10_countIn_14 : decode cX10_countIn 14 = .ok (.if_icmp .ge 51, 3) := by decide +kernel
theorem dX10_countIn_17 : decode cX10_countIn 17 = .ok (.iload_n 3, 1) := by decide +kernel
theorem dX10_countIn_18 : decode cX10_countIn 18 = .ok (.aload_n 0, 1) := by decide +kernel
theorem dX10_countIn_19 : decode cX10_countIn 19 = .ok (.getfield 7, 3) := by decide +kernel
theorem dX10_countIn_22 : decode cX10_countIn 22 = .ok (.iload 4, 2) := by decide +kernel
theorem dX10_countIn_24 : decode cX10_countIn 24 = .ok (.invokestatic 61, 3) := by decide +kernel
theorem dX10_countIn_27 : decode cX10_countIn 27 = .ok (.iconst 5, 1) := by decide +kernel
theorem dX10_countIn_28 : decode cX10_countIn 28 = .ok (.iadd, 1) := by decide +kernel
theorem dX10_countIn_29 : decode cX10_countIn 29 = .ok (.iaload, 1) := by decide +kernel
theorem dX10_countIn_30 : decode cX10_countIn 30 = .ok (.iload_n 2, 1) := by decide +kernel
theorem dX10_countIn_31 : decode cX10_countIn 31 = .ok (.if_icmp .ne 25, 3) := by decide +kernel
theorem dX10_countIn_34 : decode cX10_countIn 34 = .ok (.iload_n 1, 1) := by decide +kernel
theorem dX10_countIn_35 : decode cX10_countIn 35 = .ok (.ifCond .lt 17, 3) := by decide +kernel
theorem dX10_countIn_38 : decode cX10_countIn 38 = .ok (.aload_n 0, 1) := by decide +kernel
theorem dX10_countIn_39 : decode cX10_countIn 39 = .ok (.getfield 7, 3) := by decide +kernel
theorem dX10_countIn_42 : decode cX10_countIn 42 = .ok (.iload 4, 2) := by decide +kernel
theorem dX10_countIn_44 : decode cX10_countIn 44 = .ok (.invokestatic 61, 3) := by decide +kernel
theorem dX10_countIn_47 : decode cX10_countIn 47 = .ok (.iaload, 1) := by decide +kernel
theorem dX10_countIn_48 : decode cX10_countIn 48 = .ok (.iload_n 1, 1) := by decide +kernel
theorem dX10_countIn_49 : decode cX10_countIn 49 = .ok (.if_icmp .ne 7, 3) := by decide +kernel
theorem dX10_countIn_52 : decode cX10_countIn 52 = .ok (.iconst 1, 1) := by decide +kernel
theorem dX10_countIn_53 : decode cX10_countIn 53 = .ok (.goto 4, 3) := by decide +kernel
theorem dX10_countIn_56 : decode cX10_countIn 56 = .ok (.iconst 0, 1) := by decide +kernel
theorem dX10_countIn_57 : decode cX10_countIn 57 = .ok (.iadd, 1) := by decide +kernel
theorem dX10_countIn_58 : decode cX10_countIn 58 = .ok (.istore_n 3, 1) := by decide +kernel
theorem dX10_countIn_59 : decode cX10_countIn 59 = .ok (.iinc 4 1, 3) := by decide +kernel
theorem dX10_countIn_62 : decode cX10_countIn 62 = .ok (.goto (-57), 3) := by decide +kernel
theorem dX10_countIn_65 : decode cX10_countIn 65 = .ok (.iload_n 3, 1) := by decide +kernel
theorem dX10_countIn_66 : decode cX10_countIn 66 = .ok (.ireturn, 1) := by decide +kernel
theorem dX10_requests_0 : decode cX10_requests 0 = .ok (.aload_n 0, 1) := by decide +kernel
theorem dX10_requests_1 : decode cX10_requests 1 = .ok (.iload_n 1, 1) := by decide +kernel
theorem dX10_requests_2 : decode cX10_requests 2 = .ok (.iconst 0, 1) := by decide +kernel
theorem dX10_requests_3 : decode cX10_requests 3 = .ok (.iconst 2, 1) := by decide +kernel
theorem dX10_requests_4 : decode cX10_requests 4 = .ok (.invokestatic 39, 3) := by decide +kernel
theorem dX10_requests_7 : decode cX10_requests 7 = .ok (.ifCond .eq 7, 3) := by decide +kernel
theorem dX10_requests_10 : decode cX10_requests 10 = .ok (.iconst 0, 1) := by decide +kernel
theorem dX10_requests_11 : decode cX10_requests 11 = .ok (.goto 4, 3) := by decide +kernel
theorem dX10_requests_14 : decode cX10_requests 14 = .ok (.iconst 1, 1) := by decide +kernel
theorem dX10_requests_15 : decode cX10_requests 15 = .ok (.putfield 36, 3) := by decide +kernel
theorem dX10_requests_18 : decode cX10_requests 18 = .ok (.aload_n 0, 1) := by decide +kernel
theorem dX10_requests_19 : decode cX10_requests 19 = .ok (.getfield 36, 3) := by decide +kernel
theorem dX10_requests_22 : decode cX10_requests 22 = .ok (.ifCond .ne 12, 3) := by decide +kernel
theorem dX10_requests_25 : decode cX10_requests 25 = .ok (.aload_n 0, 1) := by decide +kernel
theorem dX10_requests_26 : decode cX10_requests 26 = .ok (.iconst (-1), 1) := by decide +kernel
theorem dX10_requests_27 : decode cX10_requests 27 = .ok (.iload_n 1, 1) := by decide +kernel
theorem dX10_requests_28 : decode cX10_requests 28 = .ok (.invokevirtual 76, 3) := by decide +kernel
theorem dX10_requests_31 : decode cX10_requests 31 = .ok (.goto 4, 3) := by decide +kernel
theorem dX10_requests_34 : decode cX10_requests 34 = .ok (.iconst 0, 1) := by decide +kernel
theorem dX10_requests_35 : decode cX10_requests 35 = .ok (.ireturn, 1) := by decide +kernel
theorem dX10_requestsOf_0 : decode cX10_requestsOf 0 = .ok (.aload_n 0, 1) := by decide +kernel
theorem dX10_requestsOf_1 : decode cX10_requestsOf 1 = .ok (.iload_n 1, 1) := by decide +kernel
theorem dX10_requestsOf_2 : decode cX10_requestsOf 2 = .ok (.iconst 0, 1) := by decide +kernel
theorem dX10_requestsOf_3 : decode cX10_requestsOf 3 = .ok (.iconst 3, 1) := by decide +kernel
theorem dX10_requestsOf_4 : decode cX10_requestsOf 4 = .ok (.invokestatic 39, 3) := by decide +kernel
theorem dX10_requestsOf_7 : decode cX10_requestsOf 7 = .ok (.ifCond .eq 16, 3) := by decide +kernel
theorem dX10_requestsOf_10 : decode cX10_requestsOf 10 = .ok (.iload_n 2, 1) := by decide +kernel
theorem dX10_requestsOf_11 : decode cX10_requestsOf 11 = .ok (.iconst 0, 1) := by decide +kernel
theorem dX10_requestsOf_12 : decode cX10_requestsOf 12 = .ok (.iconst 2, 1) := by decide +kernel
theorem dX10_requestsOf_13 : decode cX10_requestsOf 13 = .ok (.invokestatic 39, 3) := by decide +kernel
theorem dX10_requestsOf_16 : decode cX10_requestsOf 16 = .ok (.ifCond .eq 7, 3) := by decide +kernel
theorem dX10_requestsOf_19 : decode cX10_requestsOf 19 = .ok (.iconst 0, 1) := by decide +kernel
theorem dX10_requestsOf_20 : decode cX10_requestsOf 20 = .ok (.goto 4, 3) := by decide +kernel
theorem dX10_requestsOf_23 : decode cX10_requestsOf 23 = .ok (.iconst 1, 1) := by decide +kernel
theorem dX10_requestsOf_24 : decode cX10_requestsOf 24 = .ok (.putfield 36, 3) := by decide +kernel
theorem dX10_requestsOf_27 : decode cX10_requestsOf 27 = .ok (.aload_n 0, 1) := by decide +kernel
theorem dX10_requestsOf_28 : decode cX10_requestsOf 28 = .ok (.getfield 36, 3) := by decide +kernel
theorem dX10_requestsOf_31 : decode cX10_requestsOf 31 = .ok (.ifCond .ne 12, 3) := by decide +kernel
theorem dX10_requestsOf_34 : decode cX10_requestsOf 34 = .ok (.aload_n 0, 1) := by decide +kernel
theorem dX10_requestsOf_35 : decode cX10_requestsOf 35 = .ok (.iload_n 1, 1) := by decide +kernel
theorem dX10_requestsOf_36 : decode cX10_requestsOf 36 = .ok (.iload_n 2, 1) := by decide +kernel
theorem dX10_requestsOf_37 : decode cX10_requestsOf 37 = .ok (.invokevirtual 76, 3) := by decide +kernel
theorem dX10_requestsOf_40 : decode cX10_requestsOf 40 = .ok (.goto 4, 3) := by decide +kernel
theorem dX10_requestsOf_43 : decode cX10_requestsOf 43 = .ok (.iconst 0, 1) := by decide +kernel
theorem dX10_requestsOf_44 : decode cX10_requestsOf 44 = .ok (.ireturn, 1) := by decide +kernel
theorem dX10_cacheAt_0 : decode cX10_cacheAt 0 = .ok (.sipush 1400, 3) := by decide +kernel
theorem dX10_cacheAt_3 : decode cX10_cacheAt 3 = .ok (.iconst 3, 1) := by decide +kernel
theorem dX10_cacheAt_4 : decode cX10_cacheAt 4 = .ok (.iload_n 0, 1) := by decide +kernel
theorem dX10_cacheAt_5 : decode cX10_cacheAt 5 = .ok (.iload_n 1, 1) := by decide +kernel
theorem dX10_cacheAt_6 : decode cX10_cacheAt 6 = .ok (.invokestatic 55, 3) := by decide +kernel
theorem dX10_cacheAt_9 : decode cX10_cacheAt 9 = .ok (.imul, 1) := by decide +kernel
theorem dX10_cacheAt_10 : decode cX10_cacheAt 10 = .ok (.iadd, 1) := by decide +kernel
theorem dX10_cacheAt_11 : decode cX10_cacheAt 11 = .ok (.ireturn, 1) := by decide +kernel
theorem dX10_isFresh_0 : decode cX10_isFresh 0 = .ok (.iload_n 2, 1) := by decide +kernel
theorem dX10_isFresh_1 : decode cX10_isFresh 1 = .ok (.iconst 0, 1) := by decide +kernel
theorem dX10_isFresh_2 : decode cX10_isFresh 2 = .ok (.bipush 31, 2) := by decide +kernel
theorem dX10_isFresh_4 : decode cX10_isFresh 4 = .ok (.invokestatic 39, 3) := by decide +kernel
theorem dX10_isFresh_7 : decode cX10_isFresh 7 = .ok (.ifCond .ne 5, 3) := by decide +kernel
theorem dX10_isFresh_10 : decode cX10_isFresh 10 = .ok (.iconst 0, 1) := by decide +kernel
theorem dX10_isFresh_11 : decode cX10_isFresh 11 = .ok (.ireturn, 1) := by decide +kernel
theorem dX10_isFresh_12 : decode cX10_isFresh 12 = .ok (.iload_n 1, 1) := by decide +kernel
theorem dX10_isFresh_13 : decode cX10_isFresh 13 = .ok (.iload_n 2, 1) := by decide +kernel
theorem dX10_isFresh_14 : decode cX10_isFresh 14 = .ok (.invokestatic 79, 3) := by decide +kernel
theorem dX10_isFresh_17 : decode cX10_isFresh 17 = .ok (.istore_n 3, 1) := by decide +kernel
theorem dX10_isFresh_18 : decode cX10_isFresh 18 = .ok (.aload_n 0, 1) := by decide +kernel
theorem dX10_isFresh_19 : decode cX10_isFresh 19 = .ok (.getfield 7, 3) := by decide +kernel
theorem dX10_isFresh_22 : decode cX10_isFresh 22 = .ok (.iload_n 3, 1) := by decide +kernel
theorem dX10_isFresh_23 : decode cX10_isFresh 23 = .ok (.iaload, 1) := by decide +kernel
theorem dX10_isFresh_24 : decode cX10_isFresh 24 = .ok (.iconst 1, 1) := by decide +kernel
theorem dX10_isFresh_25 : decode cX10_isFresh 25 = .ok (.if_icmp .ne 31, 3) := by decide +kernel
theorem dX10_isFresh_28 : decode cX10_isFresh 28 = .ok (.aload_n 0, 1) := by decide +kernel
theorem dX10_isFresh_29 : decode cX10_isFresh 29 = .ok (.getfield 7, 3) := by decide +kernel
theorem dX10_isFresh_32 : decode cX10_isFresh 32 = .ok (.iconst 0, 1) := by decide +kernel
theorem dX10_isFresh_33 : decode cX10_isFresh 33 = .ok (.iaload, 1) := by decide +kernel
theorem dX10_isFresh_34 : decode cX10_isFresh 34 = .ok (.aload_n 0, 1) := by decide +kernel
theorem dX10_isFresh_35 : decode cX10_isFresh 35 = .ok (.getfield 7, 3) := by decide +kernel
theorem dX10_isFresh_38 : decode cX10_isFresh 38 = .ok (.iload_n 3, 1) := by decide +kernel
theorem dX10_isFresh_39 : decode cX10_isFresh 39 = .ok (.iconst 2, 1) := by decide +kernel
theorem dX10_isFresh_40 : decode cX10_isFresh 40 = .ok (.iadd, 1) := by decide +kernel
theorem dX10_isFresh_41 : decode cX10_isFresh 41 = .ok (.iaload, 1) := by decide +kernel
theorem dX10_isFresh_42 : decode cX10_isFresh 42 = .ok (.isub, 1) := by decide +kernel
theorem dX10_isFresh_43 : decode cX10_isFresh 43 = .ok (.aload_n 0, 1) := by decide +kernel
theorem dX10_isFresh_44 : decode cX10_isFresh 44 = .ok (.getfield 7, 3) := by decide +kernel
theorem dX10_isFresh_47 : decode cX10_isFresh 47 = .ok (.iconst 1, 1) := by decide +kernel
theorem dX10_isFresh_48 : decode cX10_isFresh 48 = .ok (.iaload, 1) := by decide +kernel
theorem dX10_isFresh_49 : decode cX10_isFresh 49 = .ok (.if_icmp .gt 7, 3) := by decide +kernel
theorem dX10_isFresh_52 : decode cX10_isFresh 52 = .ok (.iconst 1, 1) := by decide +kernel
theorem dX10_isFresh_53 : decode cX10_isFresh 53 = .ok (.goto 4, 3) := by decide +kernel
theorem dX10_isFresh_56 : decode cX10_isFresh 56 = .ok (.iconst 0, 1) := by decide +kernel
theorem dX10_isFresh_57 : decode cX10_isFresh 57 = .ok (.ireturn, 1) := by decide +kernel
theorem dX10_isWaiting_0 : decode cX10_isWaiting 0 = .ok (.aload_n 0, 1) := by decide +kernel
theorem dX10_isWaiting_1 : decode cX10_isWaiting 1 = .ok (.getfield 7, 3) := by decide +kernel
theorem dX10_isWaiting_4 : decode cX10_isWaiting 4 = .ok (.iload_n 1, 1) := by decide +kernel
theorem dX10_isWaiting_5 : decode cX10_isWaiting 5 = .ok (.invokestatic 61, 3) := by decide +kernel
theorem dX10_isWaiting_8 : decode cX10_isWaiting 8 = .ok (.iconst 5, 1) := by decide +kernel
theorem dX10_isWaiting_9 : decode cX10_isWaiting 9 = .ok (.iadd, 1) := by decide +kernel
theorem dX10_isWaiting_10 : decode cX10_isWaiting 10 = .ok (.iaload, 1) := by decide +kernel
theorem dX10_isWaiting_11 : decode cX10_isWaiting 11 = .ok (.ifCond .ne 7, 3) := by decide +kernel
theorem dX10_isWaiting_14 : decode cX10_isWaiting 14 = .ok (.iconst 1, 1) := by decide +kernel
theorem dX10_isWaiting_15 : decode cX10_isWaiting 15 = .ok (.goto 4, 3) := by decide +kernel
theorem dX10_isWaiting_18 : decode cX10_isWaiting 18 = .ok (.iconst 0, 1) := by decide +kernel
theorem dX10_isWaiting_19 : decode cX10_isWaiting 19 = .ok (.ireturn, 1) := by decide +kernel
theorem dX10_end_0 : decode cX10_end 0 = .ok (.aload_n 0, 1) := by decide +kernel
theorem dX10_end_1 : decode cX10_end 1 = .ok (.getfield 7, 3) := by decide +kernel
theorem dX10_end_4 : decode cX10_end 4 = .ok (.iload_n 1, 1) := by decide +kernel
theorem dX10_end_5 : decode cX10_end 5 = .ok (.invokestatic 61, 3) := by decide +kernel
theorem dX10_end_8 : decode cX10_end 8 = .ok (.iconst 2, 1) := by decide +kernel
theorem dX10_end_9 : decode cX10_end 9 = .ok (.iadd, 1) := by decide +kernel
theorem dX10_end_10 : decode cX10_end 10 = .ok (.iaload, 1) := by decide +kernel
theorem dX10_end_11 : decode cX10_end 11 = .ok (.aload_n 0, 1) := by decide +kernel
theorem dX10_end_12 : decode cX10_end 12 = .ok (.getfield 7, 3) := by decide +kernel
theorem dX10_end_15 : decode cX10_end 15 = .ok (.iload_n 1, 1) := by decide +kernel
theorem dX10_end_16 : decode cX10_end 16 = .ok (.invokestatic 61, 3) := by decide +kernel
theorem dX10_end_19 : decode cX10_end 19 = .ok (.iconst 3, 1) := by decide +kernel
theorem dX10_end_20 : decode cX10_end 20 = .ok (.iadd, 1) := by decide +kernel
theorem dX10_end_21 : decode cX10_end 21 = .ok (.iaload, 1) := by decide +kernel
theorem dX10_end_22 : decode cX10_end 22 = .ok (.iadd, 1) := by decide +kernel
theorem dX10_end_23 : decode cX10_end 23 = .ok (.ireturn, 1) := by decide +kernel
theorem dX10_overlap_0 : decode cX10_overlap 0 = .ok (.aload_n 0, 1) := by decide +kernel
theorem dX10_overlap_1 : decode cX10_overlap 1 = .ok (.getfield 7, 3) := by decide +kernel
theorem dX10_overlap_4 : decode cX10_overlap 4 = .ok (.iload_n 1, 1) := by decide +kernel
theorem dX10_overlap_5 : decode cX10_overlap 5 = .ok (.invokestatic 61, 3) := by decide +kernel
theorem dX10_overlap_8 : decode cX10_overlap 8 = .ok (.iconst 2, 1) := by decide +kernel
theorem dX10_overlap_9 : decode cX10_overlap 9 = .ok (.iadd, 1) := by decide +kernel
theorem dX10_overlap_10 : decode cX10_overlap 10 = .ok (.iaload, 1) := by decide +kernel
theorem dX10_overlap_11 : decode cX10_overlap 11 = .ok (.aload_n 0, 1) := by decide +kernel
theorem dX10_overlap_12 : decode cX10_overlap 12 = .ok (.iload_n 2, 1) := by decide +kernel
theorem dX10_overlap_13 : decode cX10_overlap 13 = .ok (.invokevirtual 82, 3) := by decide +kernel
theorem dX10_overlap_16 : decode cX10_overlap 16 = .ok (.if_icmp .ge 26, 3) := by decide +kernel
theorem dX10_overlap_19 : decode cX10_overlap 19 = .ok (.aload_n 0, 1) := by decide +kernel
theorem dX10_overlap_20 : decode cX10_overlap 20 = .ok (.getfield 7, 3) := by decide +kernel
theorem dX10_overlap_23 : decode cX10_overlap 23 = .ok (.iload_n 2, 1) := by decide +kernel
theorem dX10_overlap_24 : decode cX10_overlap 24 = .ok (.invokestatic 61, 3) := by decide +kernel
theorem dX10_overlap_27 : decode cX10_overlap 27 = .ok (.iconst 2, 1) := by decide +kernel
theorem dX10_overlap_28 : decode cX10_overlap 28 = .ok (.iadd, 1) := by decide +kernel
theorem dX10_overlap_29 : decode cX10_overlap 29 = .ok (.iaload, 1) := by decide +kernel
theorem dX10_overlap_30 : decode cX10_overlap 30 = .ok (.aload_n 0, 1) := by decide +kernel
theorem dX10_overlap_31 : decode cX10_overlap 31 = .ok (.iload_n 1, 1) := by decide +kernel
theorem dX10_overlap_32 : decode cX10_overlap 32 = .ok (.invokevirtual 82, 3) := by decide +kernel
theorem dX10_overlap_35 : decode cX10_overlap 35 = .ok (.if_icmp .ge 7, 3) := by decide +kernel
theorem dX10_overlap_38 : decode cX10_overlap 38 = .ok (.iconst 1, 1) := by decide +kernel
theorem dX10_overlap_39 : decode cX10_overlap 39 = .ok (.goto 4, 3) := by decide +kernel
theorem dX10_overlap_42 : decode cX10_overlap 42 = .ok (.iconst 0, 1) := by decide +kernel
theorem dX10_overlap_43 : decode cX10_overlap 43 = .ok (.ireturn, 1) := by decide +kernel
theorem dX10_firstWaiting_0 : decode cX10_firstWaiting 0 = .ok (.iconst 0, 1) := by decide +kernel
theorem dX10_firstWaiting_1 : decode cX10_firstWaiting 1 = .ok (.istore_n 1, 1) := by decide +kernel
theorem dX10_firstWaiting_2 : decode cX10_firstWaiting 2 = .ok (.iload_n 1, 1) := by decide +kernel
theorem dX10_firstWaiting_3 : decode cX10_firstWaiting 3 = .ok (.aload_n 0, 1) := by decide +kernel
theorem dX10_firstWaiting_4 : decode cX10_firstWaiting 4 = .ok (.getfield 7, 3) := by decide +kernel
theorem dX10_firstWaiting_7 : decode cX10_firstWaiting 7 = .ok (.bipush 6, 2) := by decide +kernel
theorem dX10_firstWaiting_9 : decode cX10_firstWaiting 9 = .ok (.iaload, 1) := by decide +kernel
theorem dX10_firstWaiting_10 : decode cX10_firstWaiting 10 = .ok (.if_icmp .ge 19, 3) := by decide +kernel
theorem dX10_firstWaiting_13 : decode cX10_firstWaiting 13 = .ok (.aload_n 0, 1) := by decide +kernel
theorem dX10_firstWaiting_14 : decode cX10_firstWaiting 14 = .ok (.iload_n 1, 1) := by decide +kernel
theorem dX10_firstWaiting_15 : decode cX10_firstWaiting 15 = .ok (.invokevirtual 85, 3) := by decide +kernel
theorem dX10_firstWaiting_18 : decode cX10_firstWaiting 18 = .ok (.ifCond .eq 5, 3) := by decide +kernel
theorem dX10_firstWaiting_21 : decode cX10_firstWaiting 21 = .ok (.iload_n 1, 1) := by decide +kernel
theorem dX10_firstWaiting_22 : decode cX10_firstWaiting 22 = .ok (.ireturn, 1) := by decide +kernel
theorem dX10_firstWaiting_23 : decode cX10_firstWaiting 23 = .ok (.iinc 1 1, 3) := by decide +kernel
theorem dX10_firstWaiting_26 : decode cX10_firstWaiting 26 = .ok (.goto (-24), 3) := by decide +kernel
theorem dX10_firstWaiting_29 : decode cX10_firstWaiting 29 = .ok (.iconst (-1), 1) := by decide +kernel
theorem dX10_firstWaiting_30 : decode cX10_firstWaiting 30 = .ok (.ireturn, 1) := by decide +kernel
theorem dX10_isCached_0 : decode cX10_isCached 0 = .ok (.iload_n 1, 1) := by decide +kernel
theorem dX10_isCached_1 : decode cX10_isCached 1 = .ok (.invokestatic 61, 3) := by decide +kernel
theorem dX10_isCached_4 : decode cX10_isCached 4 = .ok (.istore_n 2, 1) := by decide +kernel
theorem dX10_isCached_5 : decode cX10_isCached 5 = .ok (.aload_n 0, 1) := by decide +kernel
theorem dX10_isCached_6 : decode cX10_isCached 6 = .ok (.getfield 7, 3) := by decide +kernel
theorem dX10_isCached_9 : decode cX10_isCached 9 = .ok (.iload_n 2, 1) := by decide +kernel
theorem dX10_isCached_10 : decode cX10_isCached 10 = .ok (.iconst 4, 1) := by decide +kernel
theorem dX10_isCached_11 : decode cX10_isCached 11 = .ok (.iadd, 1) := by decide +kernel
theorem dX10_isCached_12 : decode cX10_isCached 12 = .ok (.iaload, 1) := by decide +kernel
theorem dX10_isCached_13 : decode cX10_isCached 13 = .ok (.ifCond .ne 7, 3) := by decide +kernel
theorem dX10_isCached_16 : decode cX10_isCached 16 = .ok (.iconst 1, 1) := by decide +kernel
theorem dX10_isCached_17 : decode cX10_isCached 17 = .ok (.goto 4, 3) := by decide +kernel
theorem dX10_isCached_20 : decode cX10_isCached 20 = .ok (.iconst 0, 1) := by decide +kernel
theorem dX10_isCached_21 : decode cX10_isCached 21 = .ok (.istore_n 3, 1) := by decide +kernel
theorem dX10_isCached_22 : decode cX10_isCached 22 = .ok (.iconst 0, 1) := by decide +kernel
theorem dX10_isCached_23 : decode cX10_isCached 23 = .ok (.istore 4, 2) := by decide +kernel
theorem dX10_isCached_25 : decode cX10_isCached 25 = .ok (.iload 4, 2) := by decide +kernel
theorem dX10_isCached_27 : decode cX10_isCached 27 = .ok (.aload_n 0, 1) := by decide +kernel
theorem dX10_isCached_28 : decode cX10_isCached 28 = .ok (.getfield 7, 3) := by decide +kernel
theorem dX10_isCached_31 : decode cX10_isCached 31 = .ok (.iload_n 2, 1) := by decide +kernel
theorem dX10_isCached_32 : decode cX10_isCached 32 = .ok (.iconst 3, 1) := by decide +kernel
theorem dX10_isCached_33 : decode cX10_isCached 33 = .ok (.iadd, 1) := by decide +kernel
theorem dX10_isCached_34 : decode cX10_isCached 34 = .ok (.iaload, 1) := by decide +kernel
theorem dX10_isCached_35 : decode cX10_isCached 35 = .ok (.if_icmp .ge 45, 3) := by decide +kernel
theorem dX10_isCached_38 : decode cX10_isCached 38 = .ok (.iload_n 3, 1) := by decide +kernel
theorem dX10_isCached_39 : decode cX10_isCached 39 = .ok (.ifCond .eq 33, 3) := by decide +kernel
theorem dX10_isCached_42 : decode cX10_isCached 42 = .ok (.aload_n 0, 1) := by decide +kernel
theorem dX10_isCached_43 : decode cX10_isCached 43 = .ok (.aload_n 0, 1) := by decide +kernel
theorem dX10_isCached_44 : decode cX10_isCached 44 = .ok (.getfield 7, 3) := by decide +kernel
theorem dX10_isCached_47 : decode cX10_isCached 47 = .ok (.iload_n 2, 1) := by decide +kernel
theorem dX10_isCached_48 : decode cX10_isCached 48 = .ok (.iconst 1, 1) := by decide +kernel
theorem dX10_isCached_49 : decode cX10_isCached 49 = .ok (.iadd, 1) := by decide +kernel
theorem dX10_isCached_50 : decode cX10_isCached 50 = .ok (.iaload, 1) := by decide +kernel
theorem dX10_isCached_51 : decode cX10_isCached 51 = .ok (.aload_n 0, 1) := by decide +kernel
theorem dX10_isCached_52 : decode cX10_isCached 52 = .ok (.getfield 7, 3) := by decide +kernel
theorem dX10_isCached_55 : decode cX10_isCached 55 = .ok (.iload_n 2, 1) := by decide +kernel
theorem dX10_isCached_56 : decode cX10_isCached 56 = .ok (.iconst 2, 1) := by decide +kernel
theorem dX10_isCached_57 : decode cX10_isCached 57 = .ok (.iadd, 1) := by decide +kernel
theorem dX10_isCached_58 : decode cX10_isCached 58 = .ok (.iaload, 1) := by decide +kernel
theorem dX10_isCached_59 : decode cX10_isCached 59 = .ok (.iload 4, 2) := by decide +kernel
theorem dX10_isCached_61 : decode cX10_isCached 61 = .ok (.iadd, 1) := by decide +kernel
theorem dX10_isCached_62 : decode cX10_isCached 62 = .ok (.invokevirtual 88, 3) := by decide +kernel
theorem dX10_isCached_65 : decode cX10_isCached 65 = .ok (.ifCond .eq 7, 3) := by decide +kernel
theorem dX10_isCached_68 : decode cX10_isCached 68 = .ok (.iconst 1, 1) := by decide +kernel
theorem dX10_isCached_69 : decode cX10_isCached 69 = .ok (.goto 4, 3) := by decide +kernel
theorem dX10_isCached_72 : decode cX10_isCached 72 = .ok (.iconst 0, 1) := by decide +kernel
theorem dX10_isCached_73 : decode cX10_isCached 73 = .ok (.istore_n 3, 1) := by decide +kernel
theorem dX10_isCached_74 : decode cX10_isCached 74 = .ok (.iinc 4 1, 3) := by decide +kernel
theorem dX10_isCached_77 : decode cX10_isCached 77 = .ok (.goto (-52), 3) := by decide +kernel
theorem dX10_isCached_80 : decode cX10_isCached 80 = .ok (.iload_n 3, 1) := by decide +kernel
theorem dX10_isCached_81 : decode cX10_isCached 81 = .ok (.ireturn, 1) := by decide +kernel
theorem dX10_isHeldBack_0 : decode cX10_isHeldBack 0 = .ok (.iconst 0, 1) := by decide +kernel
theorem dX10_isHeldBack_1 : decode cX10_isHeldBack 1 = .ok (.istore_n 2, 1) := by decide +kernel
theorem dX10_isHeldBack_2 : decode cX10_isHeldBack 2 = .ok (.iconst 0, 1) := by decide +kernel
theorem dX10_isHeldBack_3 : decode cX10_isHeldBack 3 = .ok (.istore_n 3, 1) := by decide +kernel
theorem dX10_isHeldBack_4 : decode cX10_isHeldBack 4 = .ok (.iload_n 3, 1) := by decide +kernel
theorem dX10_isHeldBack_5 : decode cX10_isHeldBack 5 = .ok (.iload_n 1, 1) := by decide +kernel
theorem dX10_isHeldBack_6 : decode cX10_isHeldBack 6 = .ok (.if_icmp .ge 101, 3) := by decide +kernel
theorem dX10_isHeldBack_9 : decode cX10_isHeldBack 9 = .ok (.aload_n 0, 1) := by decide +kernel
theorem dX10_isHeldBack_10 : decode cX10_isHeldBack 10 = .ok (.iload_n 3, 1) := by decide +kernel
theorem dX10_isHeldBack_11 : decode cX10_isHeldBack 11 = .ok (.invokevirtual 85, 3) := by decide +kernel
theorem dX10_isHeldBack_14 : decode cX10_isHeldBack 14 = .ok (.ifCond .eq 47, 3) := by decide +kernel
theorem dX10_isHeldBack_17 : decode cX10_isHeldBack 17 = .ok (.aload_n 0, 1) := by decide +kernel
theorem dX10_isHeldBack_18 : decode cX10_isHeldBack 18 = .ok (.getfield 7, 3) := by decide +kernel
theorem dX10_isHeldBack_21 : decode cX10_isHeldBack 21 = .ok (.iload_n 3, 1) := by decide +kernel
theorem dX10_isHeldBack_22 : decode cX10_isHeldBack 22 = .ok (.invokestatic 61, 3) := by decide +kernel
theorem dX10_isHeldBack_25 : decode cX10_isHeldBack 25 = .ok (.iconst 1, 1) := by decide +kernel
theorem dX10_isHeldBack_26 : decode cX10_isHeldBack 26 = .ok (.iadd, 1) := by decide +kernel
theorem dX10_isHeldBack_27 : decode cX10_isHeldBack 27 = .ok (.iaload, 1) := by decide +kernel
theorem dX10_isHeldBack_28 : decode cX10_isHeldBack 28 = .ok (.aload_n 0, 1) := by decide +kernel
theorem dX10_isHeldBack_29 : decode cX10_isHeldBack 29 = .ok (.getfield 91, 3) := by decide +kernel
theorem dX10_isHeldBack_32 : decode cX10_isHeldBack 32 = .ok (.if_icmp .ne 29, 3) := by decide +kernel
theorem dX10_isHeldBack_35 : decode cX10_isHeldBack 35 = .ok (.aload_n 0, 1) := by decide +kernel
theorem dX10_isHeldBack_36 : decode cX10_isHeldBack 36 = .ok (.getfield 94, 3) := by decide +kernel
theorem dX10_isHeldBack_39 : decode cX10_isHeldBack 39 = .ok (.iload_n 3, 1) := by decide +kernel
theorem dX10_isHeldBack_40 : decode cX10_isHeldBack 40 = .ok (.lshr, 1) := by decide +kernel
theorem dX10_isHeldBack_41 : decode cX10_isHeldBack 41 = .ok (.lconst 1, 1) := by decide +kernel
theorem dX10_isHeldBack_42 : decode cX10_isHeldBack 42 = .ok (.land, 1) := by decide +kernel
theorem dX10_isHeldBack_43 : decode cX10_isHeldBack 43 = .ok (.lconst 0, 1) := by decide +kernel
theorem dX10_isHeldBack_44 : decode cX10_isHeldBack 44 = .ok (.lcmp, 1) := by decide +kernel
theorem dX10_isHeldBack_45 : decode cX10_isHeldBack 45 = .ok (.ifCond .ne 16, 3) := by decide +kernel
theorem dX10_isHeldBack_48 : decode cX10_isHeldBack 48 = .ok (.aload_n 0, 1) := by decide +kernel
theorem dX10_isHeldBack_49 : decode cX10_isHeldBack 49 = .ok (.iload_n 3, 1) := by decide +kernel
theorem dX10_isHeldBack_50 : decode cX10_isHeldBack 50 = .ok (.iload_n 1, 1) := by decide +kernel
theorem dX10_isHeldBack_51 : decode cX10_isHeldBack 51 = .ok (.invokevirtual 98, 3) := by decide +kernel
theorem dX10_isHeldBack_54 : decode cX10_isHeldBack 54 = .ok (.ifCond .eq 7, 3) := by decide +kernel
theorem dX10_isHeldBack_57 : decode cX10_isHeldBack 57 = .ok (.iconst 1, 1) := by decide +kernel
theorem dX10_isHeldBack_58 : decode cX10_isHeldBack 58 = .ok (.goto 4, 3) := by decide +kernel
theorem dX10_isHeldBack_61 : decode cX10_isHeldBack 61 = .ok (.iconst 0, 1) := by decide +kernel
theorem dX10_isHeldBack_62 : decode cX10_isHeldBack 62 = .ok (.istore 4, 2) := by decide +kernel
theorem dX10_isHeldBack_64 : decode cX10_isHeldBack 64 = .ok (.iload_n 2, 1) := by decide +kernel
theorem dX10_isHeldBack_65 : decode cX10_isHeldBack 65 = .ok (.ifCond .ne 30, 3) := by decide +kernel
theorem dX10_isHeldBack_68 : decode cX10_isHeldBack 68 = .ok (.iload 4, 2) := by decide +kernel
theorem dX10_isHeldBack_70 : decode cX10_isHeldBack 70 = .ok (.ifCond .eq 29, 3) := by decide +kernel
theorem dX10_isHeldBack_73 : decode cX10_isHeldBack 73 = .ok (.aload_n 0, 1) := by decide +kernel
theorem dX10_isHeldBack_74 : decode cX10_isHeldBack 74 = .ok (.getfield 7, 3) := by decide +kernel
theorem dX10_isHeldBack_77 : decode cX10_isHeldBack 77 = .ok (.iload_n 3, 1) := by decide +kernel
theorem dX10_isHeldBack_78 : decode cX10_isHeldBack 78 = .ok (.invokestatic 61, 3) := by decide +kernel
theorem dX10_isHeldBack_81 : decode cX10_isHeldBack 81 = .ok (.iconst 4, 1) := by decide +kernel
theorem dX10_isHeldBack_82 : decode cX10_isHeldBack 82 = .ok (.iadd, 1) := by decide +kernel
theorem dX10_isHeldBack_83 : decode cX10_isHeldBack 83 = .ok (.iaload, 1) := by decide +kernel
theorem dX10_isHeldBack_84 : decode cX10_isHeldBack 84 = .ok (.iconst 1, 1) := by decide +kernel
theorem dX10_isHeldBack_85 : decode cX10_isHeldBack 85 = .ok (.if_icmp .eq 10, 3) := by decide +kernel
theorem dX10_isHeldBack_88 : decode cX10_isHeldBack 88 = .ok (.aload_n 0, 1) := by decide +kernel
theorem dX10_isHeldBack_89 : decode cX10_isHeldBack 89 = .ok (.getfield 101, 3) := by decide +kernel
theorem dX10_isHeldBack_92 : decode cX10_isHeldBack 92 = .ok (.ifCond .eq 7, 3) := by decide +kernel
theorem dX10_isHeldBack_95 : decode cX10_isHeldBack 95 = .ok (.iconst 1, 1) := by decide +kernel
theorem dX10_isHeldBack_96 : decode cX10_isHeldBack 96 = .ok (.goto 4, 3) := by decide +kernel
theorem dX10_isHeldBack_99 : decode cX10_isHeldBack 99 = .ok (.iconst 0, 1) := by decide +kernel
theorem dX10_isHeldBack_100 : decode cX10_isHeldBack 100 = .ok (.istore_n 2, 1) := by decide +kernel
theorem dX10_isHeldBack_101 : decode cX10_isHeldBack 101 = .ok (.iinc 3 1, 3) := by decide +kernel
theorem dX10_isHeldBack_104 : decode cX10_isHeldBack 104 = .ok (.goto (-100), 3) := by decide +kernel
theorem dX10_isHeldBack_107 : decode cX10_isHeldBack 107 = .ok (.iload_n 2, 1) := by decide +kernel
theorem dX10_isHeldBack_108 : decode cX10_isHeldBack 108 = .ok (.ireturn, 1) := by decide +kernel
theorem dX10_gathers_0 : decode cX10_gathers 0 = .ok (.iload_n 1, 1) := by decide +kernel
theorem dX10_gathers_1 : decode cX10_gathers 1 = .ok (.invokestatic 61, 3) := by decide +kernel
theorem dX10_gathers_4 : decode cX10_gathers 4 = .ok (.istore_n 2, 1) := by decide +kernel
theorem dX10_gathers_5 : decode cX10_gathers 5 = .ok (.aload_n 0, 1) := by decide +kernel
theorem dX10_gathers_6 : decode cX10_gathers 6 = .ok (.iload_n 1, 1) := by decide +kernel
theorem dX10_gathers_7 : decode cX10_gathers 7 = .ok (.putfield 105, 3) := by decide +kernel
theorem dX10_gathers_10 : decode cX10_gathers 10 = .ok (.aload_n 0, 1) := by decide +kernel
theorem dX10_gathers_11 : decode cX10_gathers 11 = .ok (.lconst 1, 1) := by decide +kernel
theorem dX10_gathers_12 : decode cX10_gathers 12 = .ok (.iload_n 1, 1) := by decide +kernel
theorem dX10_gathers_13 : decode cX10_gathers 13 = .ok (.lshl, 1) := by decide +kernel
theorem dX10_gathers_14 : decode cX10_gathers 14 = .ok (.putfield 94, 3) := by decide +kernel
theorem dX10_gathers_17 : decode cX10_gathers 17 = .ok (.aload_n 0, 1) := by decide +kernel
theorem dX10_gathers_18 : decode cX10_gathers 18 = .ok (.aload_n 0, 1) := by decide +kernel
theorem dX10_gathers_19 : decode cX10_gathers 19 = .ok (.getfield 7, 3) := by decide +kernel
theorem dX10_gathers_22 : decode cX10_gathers 22 = .ok (.iload_n 2, 1) := by decide +kernel
theorem dX10_gathers_23 : decode cX10_gathers 23 = .ok (.iconst 1, 1) := by decide +kernel
theorem dX10_gathers_24 : decode cX10_gathers 24 = .ok (.iadd, 1) := by decide +kernel
theorem dX10_gathers_25 : decode cX10_gathers 25 = .ok (.iaload, 1) := by decide +kernel
theorem dX10_gathers_26 : decode cX10_gathers 26 = .ok (.putfield 91, 3) := by decide +kernel
theorem dX10_gathers_29 : decode cX10_gathers 29 = .ok (.aload_n 0, 1) := by decide +kernel
theorem dX10_gathers_30 : decode cX10_gathers 30 = .ok (.aload_n 0, 1) := by decide +kernel
theorem dX10_gathers_31 : decode cX10_gathers 31 = .ok (.getfield 7, 3) := by decide +kernel
theorem dX10_gathers_34 : decode cX10_gathers 34 = .ok (.iload_n 2, 1) := by decide +kernel
theorem dX10_gathers_35 : decode cX10_gathers 35 = .ok (.iconst 2, 1) := by decide +kernel
theorem dX10_gathers_36 : decode cX10_gathers 36 = .ok (.iadd, 1) := by decide +kernel
theorem dX10_gathers_37 : decode cX10_gathers 37 = .ok (.iaload, 1) := by decide +kernel
theorem dX10_gathers_38 : decode cX10_gathers 38 = .ok (.putfield 108, 3) := by decide +kernel
theorem dX10_gathers_41 : decode cX10_gathers 41 = .ok (.aload_n 0, 1) := by decide +kernel
theorem dX10_gathers_42 : decode cX10_gathers 42 = .ok (.aload_n 0, 1) := by decide +kernel
theorem dX10_gathers_43 : decode cX10_gathers 43 = .ok (.iload_n 1, 1) := by decide +kernel
theorem dX10_gathers_44 : decode cX10_gathers 44 = .ok (.invokevirtual 82, 3) := by decide +kernel
theorem dX10_gathers_47 : decode cX10_gathers 47 = .ok (.putfield 111, 3) := by decide +kernel
theorem dX10_gathers_50 : decode cX10_gathers 50 = .ok (.aload_n 0, 1) := by decide +kernel
theorem dX10_gathers_51 : decode cX10_gathers 51 = .ok (.aload_n 0, 1) := by decide +kernel
theorem dX10_gathers_52 : decode cX10_gathers 52 = .ok (.getfield 7, 3) := by decide +kernel
theorem dX10_gathers_55 : decode cX10_gathers 55 = .ok (.iload_n 2, 1) := by decide +kernel
theorem dX10_gathers_56 : decode cX10_gathers 56 = .ok (.iconst 4, 1) := by decide +kernel
theorem dX10_gathers_57 : decode cX10_gathers 57 = .ok (.iadd, 1) := by decide +kernel
theorem dX10_gathers_58 : decode cX10_gathers 58 = .ok (.iaload, 1) := by decide +kernel
theorem dX10_gathers_59 : decode cX10_gathers 59 = .ok (.iconst 1, 1) := by decide +kernel
theorem dX10_gathers_60 : decode cX10_gathers 60 = .ok (.if_icmp .ne 7, 3) := by decide +kernel
theorem dX10_gathers_63 : decode cX10_gathers 63 = .ok (.iconst 1, 1) := by decide +kernel
theorem dX10_gathers_64 : decode cX10_gathers 64 = .ok (.goto 4, 3) := by decide +kernel
theorem dX10_gathers_67 : decode cX10_gathers 67 = .ok (.iconst 0, 1) := by decide +kernel
theorem dX10_gathers_68 : decode cX10_gathers 68 = .ok (.putfield 101, 3) := by decide +kernel
theorem dX10_gathers_71 : decode cX10_gathers 71 = .ok (.iload_n 1, 1) := by decide +kernel
theorem dX10_gathers_72 : decode cX10_gathers 72 = .ok (.iconst 1, 1) := by decide +kernel
theorem dX10_gathers_73 : decode cX10_gathers 73 = .ok (.iadd, 1) := by decide +kernel
theorem dX10_gathers_74 : decode cX10_gathers 74 = .ok (.istore_n 3, 1) := by decide +kernel
theorem dX10_gathers_75 : decode cX10_gathers 75 = .ok (.iload_n 3, 1) := by decide +kernel
theorem dX10_gathers_76 : decode cX10_gathers 76 = .ok (.aload_n 0, 1) := by decide +kernel
theorem dX10_gathers_77 : decode cX10_gathers 77 = .ok (.getfield 7, 3) := by decide +kernel
theorem dX10_gathers_80 : decode cX10_gathers 80 = .ok (.bipush 6, 2) := by decide +kernel
theorem dX10_gathers_82 : decode cX10_gathers 82 = .ok (.iaload, 1) := by decide +kernel
theorem dX10_gathers_83 : decode cX10_gathers 83 = .ok (.if_icmp .ge 227, 3) := by decide +kernel
theorem dX10_gathers_86 : decode cX10_gathers 86 = .ok (.aload_n 0, 1) := by decide +kernel
theorem dX10_gathers_87 : decode cX10_gathers 87 = .ok (.getfield 7, 3) := by decide +kernel
theorem dX10_gathers_90 : decode cX10_gathers 90 = .ok (.iconst 5, 1) := by decide +kernel
theorem dX10_gathers_91 : decode cX10_gathers 91 = .ok (.iaload, 1) := by decide +kernel
theorem dX10_gathers_92 : decode cX10_gathers 92 = .ok (.iconst 1, 1) := by decide +kernel
theorem dX10_gathers_93 : decode cX10_gathers 93 = .ok (.if_icmp .ne 217, 3) := by decide +kernel
theorem dX10_gathers_96 : decode cX10_gathers 96 = .ok (.iload_n 3, 1) := by decide +kernel
theorem dX10_gathers_97 : decode cX10_gathers 97 = .ok (.invokestatic 61, 3) := by decide +kernel
theorem dX10_gathers_100 : decode cX10_gathers 100 = .ok (.istore 4, 2) := by decide +kernel
theorem dX10_gathers_102 : decode cX10_gathers 102 = .ok (.aload_n 0, 1) := by decide +kernel
theorem dX10_gathers_103 : decode cX10_gathers 103 = .ok (.iload_n 3, 1) := by decide +kernel
theorem dX10_gathers_104 : decode cX10_gathers 104 = .ok (.invokevirtual 85, 3) := by decide +kernel
theorem dX10_gathers_107 : decode cX10_gathers 107 = .ok (.ifCond .eq 75, 3) := by decide +kernel
theorem dX10_gathers_110 : decode cX10_gathers 110 = .ok (.aload_n 0, 1) := by decide +kernel
theorem dX10_gathers_111 : decode cX10_gathers 111 = .ok (.getfield 7, 3) := by decide +kernel
theorem dX10_gathers_114 : decode cX10_gathers 114 = .ok (.iload 4, 2) := by decide +kernel
theorem dX10_gathers_116 : decode cX10_gathers 116 = .ok (.iconst 1, 1) := by decide +kernel
theorem dX10_gathers_117 : decode cX10_gathers 117 = .ok (.iadd, 1) := by decide +kernel
theorem dX10_gathers_118 : decode cX10_gathers 118 = .ok (.iaload, 1) := by decide +kernel
theorem dX10_gathers_119 : decode cX10_gathers 119 = .ok (.aload_n 0, 1) := by decide +kernel
theorem dX10_gathers_120 : decode cX10_gathers 120 = .ok (.getfield 91, 3) := by decide +kernel
theorem dX10_gathers_123 : decode cX10_gathers 123 = .ok (.if_icmp .ne 59, 3) := by decide +kernel
theorem dX10_gathers_126 : decode cX10_gathers 126 = .ok (.aload_n 0, 1) := by decide +kernel
theorem dX10_gathers_127 : decode cX10_gathers 127 = .ok (.getfield 7, 3) := by decide +kernel
theorem dX10_gathers_130 : decode cX10_gathers 130 = .ok (.iload 4, 2) := by decide +kernel
theorem dX10_gathers_132 : decode cX10_gathers 132 = .ok (.iconst 4, 1) := by decide +kernel
theorem dX10_gathers_133 : decode cX10_gathers 133 = .ok (.iadd, 1) := by decide +kernel
theorem dX10_gathers_134 : decode cX10_gathers 134 = .ok (.iaload, 1) := by decide +kernel
theorem dX10_gathers_135 : decode cX10_gathers 135 = .ok (.aload_n 0, 1) := by decide +kernel
theorem dX10_gathers_136 : decode cX10_gathers 136 = .ok (.getfield 101, 3) := by decide +kernel
theorem dX10_gathers_139 : decode cX10_gathers 139 = .ok (.ifCond .eq 7, 3) := by decide +kernel
theorem dX10_gathers_142 : decode cX10_gathers 142 = .ok (.iconst 1, 1) := by decide +kernel
theorem dX10_gathers_143 : decode cX10_gathers 143 = .ok (.goto 4, 3) := by decide +kernel
theorem dX10_gathers_146 : decode cX10_gathers 146 = .ok (.iconst 0, 1) := by decide +kernel
theorem dX10_gathers_147 : decode cX10_gathers 147 = .ok (.if_icmp .ne 35, 3) := by decide +kernel
theorem dX10_gathers_150 : decode cX10_gathers 150 = .ok (.aload_n 0, 1) := by decide +kernel
theorem dX10_gathers_151 : decode cX10_gathers 151 = .ok (.getfield 7, 3) := by decide +kernel
theorem dX10_gathers_154 : decode cX10_gathers 154 = .ok (.iload 4, 2) := by decide +kernel
theorem dX10_gathers_156 : decode cX10_gathers 156 = .ok (.iconst 2, 1) := by decide +kernel
theorem dX10_gathers_157 : decode cX10_gathers 157 = .ok (.iadd, 1) := by decide +kernel
theorem dX10_gathers_158 : decode cX10_gathers 158 = .ok (.iaload, 1) := by decide +kernel
theorem dX10_gathers_159 : decode cX10_gathers 159 = .ok (.aload_n 0, 1) := by decide +kernel
theorem dX10_gathers_160 : decode cX10_gathers 160 = .ok (.getfield 111, 3) := by decide +kernel
theorem dX10_gathers_163 : decode cX10_gathers 163 = .ok (.if_icmp .gt 19, 3) := by decide +kernel
theorem dX10_gathers_166 : decode cX10_gathers 166 = .ok (.aload_n 0, 1) := by decide +kernel
theorem dX10_gathers_167 : decode cX10_gathers 167 = .ok (.iload_n 3, 1) := by decide +kernel
theorem dX10_gathers_168 : decode cX10_gathers 168 = .ok (.invokevirtual 82, 3) := by decide +kernel
theorem dX10_gathers_171 : decode cX10_gathers 171 = .ok (.aload_n 0, 1) := by decide +kernel
theorem dX10_gathers_172 : decode cX10_gathers 172 = .ok (.getfield 108, 3) := by decide +kernel
theorem dX10_gathers_175 : decode cX10_gathers 175 = .ok (.if_icmp .lt 7, 3) := by decide +kernel
theorem dX10_gathers_178 : decode cX10_gathers 178 = .ok (.iconst 1, 1) := by decide +kernel
theorem dX10_gathers_179 : decode cX10_gathers 179 = .ok (.goto 4, 3) := by decide +kernel
theorem dX10_gathers_182 : decode cX10_gathers 182 = .ok (.iconst 0, 1) := by decide +kernel
theorem dX10_gathers_183 : decode cX10_gathers 183 = .ok (.istore 5, 2) := by decide +kernel
theorem dX10_gathers_185 : decode cX10_gathers 185 = .ok (.aload_n 0, 1) := by decide +kernel
theorem dX10_gathers_186 : decode cX10_gathers 186 = .ok (.getfield 7, 3) := by decide +kernel
theorem dX10_gathers_189 : decode cX10_gathers 189 = .ok (.iload 4, 2) := by decide +kernel
theorem dX10_gathers_191 : decode cX10_gathers 191 = .ok (.iconst 2, 1) := by decide +kernel
theorem dX10_gathers_192 : decode cX10_gathers 192 = .ok (.iadd, 1) := by decide +kernel
theorem dX10_gathers_193 : decode cX10_gathers 193 = .ok (.iaload, 1) := by decide +kernel
theorem dX10_gathers_194 : decode cX10_gathers 194 = .ok (.aload_n 0, 1) := by decide +kernel
theorem dX10_gathers_195 : decode cX10_gathers 195 = .ok (.getfield 108, 3) := by decide +kernel
theorem dX10_gathers_198 : decode cX10_gathers 198 = .ok (.if_icmp .ge 15, 3) := by decide +kernel
theorem dX10_gathers_201 : decode cX10_gathers 201 = .ok (.aload_n 0, 1) := by decide +kernel
theorem dX10_gathers_202 : decode cX10_gathers 202 = .ok (.getfield 7, 3) := by decide +kernel
theorem dX10_gathers_205 : decode cX10_gathers 205 = .ok (.iload 4, 2) := by decide +kernel
theorem dX10_gathers_207 : decode cX10_gathers 207 = .ok (.iconst 2, 1) := by decide +kernel
theorem dX10_gathers_208 : decode cX10_gathers 208 = .ok (.iadd, 1) := by decide +kernel
theorem dX10_gathers_209 : decode cX10_gathers 209 = .ok (.iaload, 1) := by decide +kernel
theorem dX10_gathers_210 : decode cX10_gathers 210 = .ok (.goto 7, 3) := by decide +kernel
theorem dX10_gathers_213 : decode cX10_gathers 213 = .ok (.aload_n 0, 1) := by decide +kernel
theorem dX10_gathers_214 : decode cX10_gathers 214 = .ok (.getfield 108, 3) := by decide +kernel
theorem dX10_gathers_217 : decode cX10_gathers 217 = .ok (.istore 6, 2) := by decide +kernel
theorem dX10_gathers_219 : decode cX10_gathers 219 = .ok (.aload_n 0, 1) := by decide +kernel
theorem dX10_gathers_220 : decode cX10_gathers 220 = .ok (.iload_n 3, 1) := by decide +kernel
theorem dX10_gathers_221 : decode cX10_gathers 221 = .ok (.invokevirtual 82, 3) := by decide +kernel
theorem dX10_gathers_224 : decode cX10_gathers 224 = .ok (.aload_n 0, 1) := by decide +kernel
theorem dX10_gathers_225 : decode cX10_gathers 225 = .ok (.getfield 111, 3) := by decide +kernel
theorem dX10_gathers_228 : decode cX10_gathers 228 = .ok (.if_icmp .le 11, 3) := by decide +kernel
theorem dX10_gathers_231 : decode cX10_gathers 231 = .ok (.aload_n 0, 1) := by decide +kernel
theorem dX10_gathers_232 : decode cX10_gathers 232 = .ok (.iload_n 3, 1) := by decide +kernel
theorem dX10_gathers_233 : decode cX10_gathers 233 = .ok (.invokevirtual 82, 3) := by decide +kernel
theorem dX10_gathers_236 : decode cX10_gathers 236 = .ok (.goto 7, 3) := by decide +kernel
theorem dX10_gathers_239 : decode cX10_gathers 239 = .ok (.aload_n 0, 1) := by decide +kernel
theorem dX10_gathers_240 : decode cX10_gathers 240 = .ok (.getfield 111, 3) := by decide +kernel
theorem dX10_gathers_243 : decode cX10_gathers 243 = .ok (.istore 7, 2) := by decide +kernel
theorem dX10_gathers_245 : decode cX10_gathers 245 = .ok (.iload 5, 2) := by decide +kernel
theorem dX10_gathers_247 : decode cX10_gathers 247 = .ok (.ifCond .eq 57, 3) := by decide +kernel
theorem dX10_gathers_250 : decode cX10_gathers 250 = .ok (.iload 7, 2) := by decide +kernel
theorem dX10_gathers_252 : decode cX10_gathers 252 = .ok (.iload 6, 2) := by decide +kernel
theorem dX10_gathers_254 : decode cX10_gathers 254 = .ok (.isub, 1) := by decide +kernel
theorem dX10_gathers_255 : decode cX10_gathers 255 = .ok (.aload_n 0, 1) := by decide +kernel
theorem dX10_gathers_256 : decode cX10_gathers 256 = .ok (.getfield 101, 3) := by decide +kernel
theorem dX10_gathers_259 : decode cX10_gathers 259 = .ok (.ifCond .eq 8, 3) := by decide +kernel
theorem dX10_gathers_262 : decode cX10_gathers 262 = .ok (.bipush 8, 2) := by decide +kernel
theorem dX10_gathers_264 : decode cX10_gathers 264 = .ok (.goto 5, 3) := by decide +kernel
theorem dX10_gathers_267 : decode cX10_gathers 267 = .ok (.bipush 16, 2) := by decide +kernel
theorem dX10_gathers_269 : decode cX10_gathers 269 = .ok (.if_icmp .gt 35, 3) := by decide +kernel
theorem dX10_gathers_272 : decode cX10_gathers 272 = .ok (.aload_n 0, 1) := by decide +kernel
theorem dX10_gathers_273 : decode cX10_gathers 273 = .ok (.iload_n 3, 1) := by decide +kernel
theorem dX10_gathers_274 : decode cX10_gathers 274 = .ok (.invokevirtual 114, 3) := by decide +kernel
theorem dX10_gathers_277 : decode cX10_gathers 277 = .ok (.ifCond .ne 27, 3) := by decide +kernel
theorem dX10_gathers_280 : decode cX10_gathers 280 = .ok (.aload_n 0, 1) := by decide +kernel
theorem dX10_gathers_281 : decode cX10_gathers 281 = .ok (.dup, 1) := by decide +kernel
theorem dX10_gathers_282 : decode cX10_gathers 282 = .ok (.getfield 94, 3) := by decide +kernel
theorem dX10_gathers_285 : decode cX10_gathers 285 = .ok (.lconst 1, 1) := by decide +kernel
theorem dX10_gathers_286 : decode cX10_gathers 286 = .ok (.iload_n 3, 1) := by decide +kernel
theorem dX10_gathers_287 : decode cX10_gathers 287 = .ok (.lshl, 1) := by decide +kernel
theorem dX10_gathers_288 : decode cX10_gathers 288 = .ok (.lor, 1) := by decide +kernel
theorem dX10_gathers_289 : decode cX10_gathers 289 = .ok (.putfield 94, 3) := by decide +kernel
theorem dX10_gathers_292 : decode cX10_gathers 292 = .ok (.aload_n 0, 1) := by decide +kernel
theorem dX10_gathers_293 : decode cX10_gathers 293 = .ok (.iload 6, 2) := by decide +kernel
theorem dX10_gathers_295 : decode cX10_gathers 295 = .ok (.putfield 108, 3) := by decide +kernel
theorem dX10_gathers_298 : decode cX10_gathers 298 = .ok (.aload_n 0, 1) := by decide +kernel
theorem dX10_gathers_299 : decode cX10_gathers 299 = .ok (.iload 7, 2) := by decide +kernel
theorem dX10_gathers_301 : decode cX10_gathers 301 = .ok (.putfield 111, 3) := by decide +kernel
theorem dX10_gathers_304 : decode cX10_gathers 304 = .ok (.iinc 3 1, 3) := by decide +kernel
theorem dX10_gathers_307 : decode cX10_gathers 307 = .ok (.goto (-232), 3) := by decide +kernel
theorem dX10_gathers_310 : decode cX10_gathers 310 = .ok (.return_, 1) := by decide +kernel
theorem dX10_stirred_0 : decode cX10_stirred 0 = .ok (.iload_n 0, 1) := by decide +kernel
theorem dX10_stirred_1 : decode cX10_stirred 1 = .ok (.iload_n 1, 1) := by decide +kernel
theorem dX10_stirred_2 : decode cX10_stirred 2 = .ok (.ixor, 1) := by decide +kernel
theorem dX10_stirred_3 : decode cX10_stirred 3 = .ok (.istore_n 2, 1) := by decide +kernel
theorem dX10_stirred_4 : decode cX10_stirred 4 = .ok (.iconst 0, 1) := by decide +kernel
theorem dX10_stirred_5 : decode cX10_stirred 5 = .ok (.istore_n 3, 1) := by decide +kernel
theorem dX10_stirred_6 : decode cX10_stirred 6 = .ok (.iload_n 3, 1) := by decide +kernel
theorem dX10_stirred_7 : decode cX10_stirred 7 = .ok (.bipush 8, 2) := by decide +kernel
theorem dX10_stirred_9 : decode cX10_stirred 9 = .ok (.if_icmp .ge 29, 3) := by decide +kernel
theorem dX10_stirred_12 : decode cX10_stirred 12 = .ok (.iload_n 2, 1) := by decide +kernel
theorem dX10_stirred_13 : decode cX10_stirred 13 = .ok (.iconst 1, 1) := by decide +kernel
theorem dX10_stirred_14 : decode cX10_stirred 14 = .ok (.iand, 1) := by decide +kernel
theorem dX10_stirred_15 : decode cX10_stirred 15 = .ok (.iconst 1, 1) := by decide +kernel
theorem dX10_stirred_16 : decode cX10_stirred 16 = .ok (.if_icmp .ne 12, 3) := by decide +kernel
theorem dX10_stirred_19 : decode cX10_stirred 19 = .ok (.iload_n 2, 1) := by decide +kernel
theorem dX10_stirred_20 : decode cX10_stirred 20 = .ok (.iconst 1, 1) := by decide +kernel
theorem dX10_stirred_21 : decode cX10_stirred 21 = .ok (.ishr, 1) := by decide +kernel
theorem dX10_stirred_22 : decode cX10_stirred 22 = .ok (.ldc 117, 2) := by decide +kernel
theorem dX10_stirred_24 : decode cX10_stirred 24 = .ok (.ixor, 1) := by decide +kernel
theorem dX10_stirred_25 : decode cX10_stirred 25 = .ok (.goto 6, 3) := by decide +kernel
theorem dX10_stirred_28 : decode cX10_stirred 28 = .ok (.iload_n 2, 1) := by decide +kernel
theorem dX10_stirred_29 : decode cX10_stirred 29 = .ok (.iconst 1, 1) := by decide +kernel
theorem dX10_stirred_30 : decode cX10_stirred 30 = .ok (.ishr, 1) := by decide +kernel
theorem dX10_stirred_31 : decode cX10_stirred 31 = .ok (.istore_n 2, 1) := by decide +kernel
theorem dX10_stirred_32 : decode cX10_stirred 32 = .ok (.iinc 3 1, 3) := by decide +kernel
theorem dX10_stirred_35 : decode cX10_stirred 35 = .ok (.goto (-29), 3) := by decide +kernel
theorem dX10_stirred_38 : decode cX10_stirred 38 = .ok (.iload_n 2, 1) := by decide +kernel
theorem dX10_stirred_39 : decode cX10_stirred 39 = .ok (.ireturn, 1) := by decide +kernel
theorem dX10_puts_0 : decode cX10_puts 0 = .ok (.aload_n 0, 1) := by decide +kernel
theorem dX10_puts_1 : decode cX10_puts 1 = .ok (.getfield 16, 3) := by decide +kernel
theorem dX10_puts_4 : decode cX10_puts 4 = .ok (.aload_n 0, 1) := by decide +kernel
theorem dX10_puts_5 : decode cX10_puts 5 = .ok (.getfield 118, 3) := by decide +kernel
theorem dX10_puts_8 : decode cX10_puts 8 = .ok (.iload_n 1, 1) := by decide +kernel
theorem dX10_puts_9 : decode cX10_puts 9 = .ok (.iastore, 1) := by decide +kernel
theorem dX10_puts_10 : decode cX10_puts 10 = .ok (.aload_n 0, 1) := by decide +kernel
theorem dX10_puts_11 : decode cX10_puts 11 = .ok (.dup, 1) := by decide +kernel
theorem dX10_puts_12 : decode cX10_puts 12 = .ok (.getfield 118, 3) := by decide +kernel
theorem dX10_puts_15 : decode cX10_puts 15 = .ok (.iconst 1, 1) := by decide +kernel
theorem dX10_puts_16 : decode cX10_puts 16 = .ok (.iadd, 1) := by decide +kernel
theorem dX10_puts_17 : decode cX10_puts 17 = .ok (.putfield 118, 3) := by decide +kernel
theorem dX10_puts_20 : decode cX10_puts 20 = .ok (.return_, 1) := by decide +kernel
theorem dX10_putsWord_0 : decode cX10_putsWord 0 = .ok (.aload_n 0, 1) := by decide +kernel
theorem dX10_putsWord_1 : decode cX10_putsWord 1 = .ok (.iload_n 1, 1) := by decide +kernel
theorem dX10_putsWord_2 : decode cX10_putsWord 2 = .ok (.bipush 8, 2) := by decide +kernel
theorem dX10_putsWord_4 : decode cX10_putsWord 4 = .ok (.ishr, 1) := by decide +kernel
theorem dX10_putsWord_5 : decode cX10_putsWord 5 = .ok (.invokevirtual 121, 3) := by decide +kernel
theorem dX10_putsWord_8 : decode cX10_putsWord 8 = .ok (.aload_n 0, 1) := by decide +kernel
theorem dX10_putsWord_9 : decode cX10_putsWord 9 = .ok (.iload_n 1, 1) := by decide +kernel
theorem dX10_putsWord_10 : decode cX10_putsWord 10 = .ok (.sipush 255, 3) := by decide +kernel
theorem dX10_putsWord_13 : decode cX10_putsWord 13 = .ok (.iand, 1) := by decide +kernel
theorem dX10_putsWord_14 : decode cX10_putsWord 14 = .ok (.invokevirtual 121, 3) := by decide +kernel
theorem dX10_putsWord_17 : decode cX10_putsWord 17 = .ok (.return_, 1) := by decide +kernel
theorem dX10_seals_0 : decode cX10_seals 0 = .ok (.ldc 25, 2) := by decide +kernel
theorem dX10_seals_2 : decode cX10_seals 2 = .ok (.istore_n 1, 1) := by decide +kernel
theorem dX10_seals_3 : decode cX10_seals 3 = .ok (.iconst 0, 1) := by decide +kernel
theorem dX10_seals_4 : decode cX10_seals 4 = .ok (.istore_n 2, 1) := by decide +kernel
theorem dX10_seals_5 : decode cX10_seals 5 = .ok (.iload_n 2, 1) := by decide +kernel
theorem dX10_seals_6 : decode cX10_seals 6 = .ok (.aload_n 0, 1) := by decide +kernel
theorem dX10_seals_7 : decode cX10_seals 7 = .ok (.getfield 118, 3) := by decide +kernel
theorem dX10_seals_10 : decode cX10_seals 10 = .ok (.if_icmp .ge 20, 3) := by decide +kernel
theorem dX10_seals_13 : decode cX10_seals 13 = .ok (.iload_n 1, 1) := by decide +kernel
theorem dX10_seals_14 : decode cX10_seals 14 = .ok (.aload_n 0, 1) := by decide +kernel
theorem dX10_seals_15 : decode cX10_seals 15 = .ok (.getfield 16, 3) := by decide +kernel
theorem dX10_seals_18 : decode cX10_seals 18 = .ok (.iload_n 2, 1) := by decide +kernel
theorem dX10_seals_19 : decode cX10_seals 19 = .ok (.iaload, 1) := by decide +kernel
theorem dX10_seals_20 : decode cX10_seals 20 = .ok (.invokestatic 125, 3) := by decide +kernel
theorem dX10_seals_23 : decode cX10_seals 23 = .ok (.istore_n 1, 1) := by decide +kernel
theorem dX10_seals_24 : decode cX10_seals 24 = .ok (.iinc 2 1, 3) := by decide +kernel
theorem dX10_seals_27 : decode cX10_seals 27 = .ok (.goto (-22), 3) := by decide +kernel
theorem dX10_seals_30 : decode cX10_seals 30 = .ok (.aload_n 0, 1) := by decide +kernel
theorem dX10_seals_31 : decode cX10_seals 31 = .ok (.iload_n 1, 1) := by decide +kernel
theorem dX10_seals_32 : decode cX10_seals 32 = .ok (.sipush 255, 3) := by decide +kernel
theorem dX10_seals_35 : decode cX10_seals 35 = .ok (.iand, 1) := by decide +kernel
theorem dX10_seals_36 : decode cX10_seals 36 = .ok (.invokevirtual 121, 3) := by decide +kernel
theorem dX10_seals_39 : decode cX10_seals 39 = .ok (.aload_n 0, 1) := by decide +kernel
theorem dX10_seals_40 : decode cX10_seals 40 = .ok (.iload_n 1, 1) := by decide +kernel
theorem dX10_seals_41 : decode cX10_seals 41 = .ok (.bipush 8, 2) := by decide +kernel
theorem dX10_seals_43 : decode cX10_seals 43 = .ok (.ishr, 1) := by decide +kernel
theorem dX10_seals_44 : decode cX10_seals 44 = .ok (.invokevirtual 121, 3) := by decide +kernel
theorem dX10_seals_47 : decode cX10_seals 47 = .ok (.return_, 1) := by decide +kernel
theorem dX10_function_0 : decode cX10_function 0 = .ok (.aload_n 0, 1) := by decide +kernel
theorem dX10_function_1 : decode cX10_function 1 = .ok (.getfield 101, 3) := by decide +kernel
theorem dX10_function_4 : decode cX10_function 4 = .ok (.ifCond .ne 7, 3) := by decide +kernel
theorem dX10_function_7 : decode cX10_function 7 = .ok (.iconst 3, 1) := by decide +kernel
theorem dX10_function_8 : decode cX10_function 8 = .ok (.goto 23, 3) := by decide +kernel
theorem dX10_function_11 : decode cX10_function 11 = .ok (.aload_n 0, 1) := by decide +kernel
theorem dX10_function_12 : decode cX10_function 12 = .ok (.getfield 111, 3) := by decide +kernel
theorem dX10_function_15 : decode cX10_function 15 = .ok (.aload_n 0, 1) := by decide +kernel
theorem dX10_function_16 : decode cX10_function 16 = .ok (.getfield 108, 3) := by decide +kernel
theorem dX10_function_19 : decode cX10_function 19 = .ok (.isub, 1) := by decide +kernel
theorem dX10_function_20 : decode cX10_function 20 = .ok (.iconst 1, 1) := by decide +kernel
theorem dX10_function_21 : decode cX10_function 21 = .ok (.if_icmp .ne 8, 3) := by decide +kernel
theorem dX10_function_24 : decode cX10_function 24 = .ok (.bipush 6, 2) := by decide +kernel
theorem dX10_function_26 : decode cX10_function 26 = .ok (.goto 5, 3) := by decide +kernel
theorem dX10_function_29 : decode cX10_function 29 = .ok (.bipush 16, 2) := by decide +kernel
theorem dX10_function_31 : decode cX10_function 31 = .ok (.ireturn, 1) := by decide +kernel
theorem dX10_frames_0 : decode cX10_frames 0 = .ok (.aload_n 0, 1) := by decide +kernel
theorem dX10_frames_1 : decode cX10_frames 1 = .ok (.getfield 108, 3) := by decide +kernel
theorem dX10_frames_4 : decode cX10_frames 4 = .ok (.istore_n 1, 1) := by decide +kernel
theorem dX10_frames_5 : decode cX10_frames 5 = .ok (.iload_n 1, 1) := by decide +kernel
theorem dX10_frames_6 : decode cX10_frames 6 = .ok (.aload_n 0, 1) := by decide +kernel
theorem dX10_frames_7 : decode cX10_frames 7 = .ok (.getfield 111, 3) := by decide +kernel
theorem dX10_frames_10 : decode cX10_frames 10 = .ok (.if_icmp .ge 103, 3) := by decide +kernel
theorem dX10_frames_13 : decode cX10_frames 13 = .ok (.aload_n 0, 1) := by decide +kernel
theorem dX10_frames_14 : decode cX10_frames 14 = .ok (.getfield 101, 3) := by decide +kernel
theorem dX10_frames_17 : decode cX10_frames 17 = .ok (.ifCond .eq 96, 3) := by decide +kernel
theorem dX10_frames_20 : decode cX10_frames 20 = .ok (.aload_n 0, 1) := by decide +kernel
theorem dX10_frames_21 : decode cX10_frames 21 = .ok (.getfield 105, 3) := by decide +kernel
theorem dX10_frames_24 : decode cX10_frames 24 = .ok (.istore_n 2, 1) := by decide +kernel
theorem dX10_frames_25 : decode cX10_frames 25 = .ok (.iload_n 2, 1) := by decide +kernel
theorem dX10_frames_26 : decode cX10_frames 26 = .ok (.aload_n 0, 1) := by decide +kernel
theorem dX10_frames_27 : decode cX10_frames 27 = .ok (.getfield 7, 3) := by decide +kernel
theorem dX10_frames_30 : decode cX10_frames 30 = .ok (.bipush 6, 2) := by decide +kernel
theorem dX10_frames_32 : decode cX10_frames 32 = .ok (.iaload, 1) := by decide +kernel
theorem dX10_frames_33 : decode cX10_frames 33 = .ok (.if_icmp .ge 74, 3) := by decide +kernel
theorem dX10_frames_36 : decode cX10_frames 36 = .ok (.aload_n 0, 1) := by decide +kernel
theorem dX10_frames_37 : decode cX10_frames 37 = .ok (.getfield 19, 3) := by decide +kernel
theorem dX10_frames_40 : decode cX10_frames 40 = .ok (.iload_n 1, 1) := by decide +kernel
theorem dX10_frames_41 : decode cX10_frames 41 = .ok (.aload_n 0, 1) := by decide +kernel
theorem dX10_frames_42 : decode cX10_frames 42 = .ok (.getfield 108, 3) := by decide +kernel
theorem dX10_frames_45 : decode cX10_frames 45 = .ok (.isub, 1) := by decide +kernel
theorem dX10_frames_46 : decode cX10_frames 46 = .ok (.aload_n 0, 1) := by decide +kernel
theorem dX10_frames_47 : decode cX10_frames 47 = .ok (.getfield 94, 3) := by decide +kernel
theorem dX10_frames_50 : decode cX10_frames 50 = .ok (.iload_n 2, 1) := by decide +kernel
theorem dX10_frames_51 : decode cX10_frames 51 = .ok (.lshr, 1) := by decide +kernel
theorem dX10_frames_52 : decode cX10_frames 52 = .ok (.lconst 1, 1) := by decide +kernel
theorem dX10_frames_53 : decode cX10_frames 53 = .ok (.land, 1) := by decide +kernel
theorem dX10_frames_54 : decode cX10_frames 54 = .ok (.lconst 1, 1) := by decide +kernel
theorem dX10_frames_55 : decode cX10_frames 55 = .ok (.lcmp, 1) := by decide +kernel
theorem dX10_frames_56 : decode cX10_frames 56 = .ok (.ifCond .ne 33, 3) := by decide +kernel
theorem dX10_frames_59 : decode cX10_frames 59 = .ok (.aload_n 0, 1) := by decide +kernel
theorem dX10_frames_60 : decode cX10_frames 60 = .ok (.getfield 7, 3) := by decide +kernel
theorem dX10_frames_63 : decode cX10_frames 63 = .ok (.iload_n 2, 1) := by decide +kernel
theorem dX10_frames_64 : decode cX10_frames 64 = .ok (.invokestatic 61, 3) := by decide +kernel
theorem dX10_frames_67 : decode cX10_frames 67 = .ok (.iconst 2, 1) := by decide +kernel
theorem dX10_frames_68 : decode cX10_frames 68 = .ok (.iadd, 1) := by decide +kernel
theorem dX10_frames_69 : decode cX10_frames 69 = .ok (.iaload, 1) := by decide +kernel
theorem dX10_frames_70 : decode cX10_frames 70 = .ok (.iload_n 1, 1) := by decide +kernel
theorem dX10_frames_71 : decode cX10_frames 71 = .ok (.if_icmp .ne 18, 3) := by decide +kernel
theorem dX10_frames_74 : decode cX10_frames 74 = .ok (.aload_n 0, 1) := by decide +kernel
theorem dX10_frames_75 : decode cX10_frames 75 = .ok (.getfield 7, 3) := by decide +kernel
theorem dX10_frames_78 : decode cX10_frames 78 = .ok (.iload_n 2, 1) := by decide +kernel
theorem dX10_frames_79 : decode cX10_frames 79 = .ok (.invokestatic 61, 3) := by decide +kernel
theorem dX10_frames_82 : decode cX10_frames 82 = .ok (.bipush 9, 2) := by decide +kernel
theorem dX10_frames_84 : decode cX10_frames 84 = .ok (.iadd, 1) := by decide +kernel
theorem dX10_frames_85 : decode cX10_frames 85 = .ok (.iaload, 1) := by decide +kernel
theorem dX10_frames_86 : decode cX10_frames 86 = .ok (.goto 14, 3) := by decide +kernel
theorem dX10_frames_89 : decode cX10_frames 89 = .ok (.aload_n 0, 1) := by decide +kernel
theorem dX10_frames_90 : decode cX10_frames 90 = .ok (.getfield 19, 3) := by decide +kernel
theorem dX10_frames_93 : decode cX10_frames 93 = .ok (.iload_n 1, 1) := by decide +kernel
theorem dX10_frames_94 : decode cX10_frames 94 = .ok (.aload_n 0, 1) := by decide +kernel
theorem dX10_frames_95 : decode cX10_frames 95 = .ok (.getfield 108, 3) := by decide +kernel
theorem dX10_frames_98 : decode cX10_frames 98 = .ok (.isub, 1) := by decide +kernel
theorem dX10_frames_99 : decode cX10_frames 99 = .ok (.iaload, 1) := by decide +kernel
theorem dX10_frames_100 : decode cX10_frames 100 = .ok (.iastore, 1) := by decide +kernel
theorem dX10_frames_101 : decode cX10_frames 101 = .ok (.iinc 2 1, 3) := by decide +kernel
theorem dX10_frames_104 : decode cX10_frames 104 = .ok (.goto (-79), 3) := by decide +kernel
theorem dX10_frames_107 : decode cX10_frames 107 = .ok (.iinc 1 1, 3) := by decide +kernel
theorem dX10_frames_110 : decode cX10_frames 110 = .ok (.goto (-105), 3) := by decide +kernel
theorem dX10_frames_113 : decode cX10_frames 113 = .ok (.aload_n 0, 1) := by decide +kernel
theorem dX10_frames_114 : decode cX10_frames 114 = .ok (.iconst 0, 1) := by decide +kernel
theorem dX10_frames_115 : decode cX10_frames 115 = .ok (.putfield 118, 3) := by decide +kernel
theorem dX10_frames_118 : decode cX10_frames 118 = .ok (.aload_n 0, 1) := by decide +kernel
theorem dX10_frames_119 : decode cX10_frames 119 = .ok (.aload_n 0, 1) := by decide +kernel
theorem dX10_frames_120 : decode cX10_frames 120 = .ok (.getfield 91, 3) := by decide +kernel
theorem dX10_frames_123 : decode cX10_frames 123 = .ok (.invokevirtual 121, 3) := by decide +kernel
theorem dX10_frames_126 : decode cX10_frames 126 = .ok (.aload_n 0, 1) := by decide +kernel
theorem dX10_frames_127 : decode cX10_frames 127 = .ok (.aload_n 0, 1) := by decide +kernel
theorem dX10_frames_128 : decode cX10_frames 128 = .ok (.invokevirtual 128, 3) := by decide +kernel
theorem dX10_frames_131 : decode cX10_frames 131 = .ok (.invokevirtual 121, 3) := by decide +kernel
theorem dX10_frames_134 : decode cX10_frames 134 = .ok (.aload_n 0, 1) := by decide +kernel
theorem dX10_frames_135 : decode cX10_frames 135 = .ok (.aload_n 0, 1) := by decide +kernel
theorem dX10_frames_136 : decode cX10_frames 136 = .ok (.getfield 108, 3) := by decide +kernel
theorem dX10_frames_139 : decode cX10_frames 139 = .ok (.invokevirtual 132, 3) := by decide +kernel
theorem dX10_frames_142 : decode cX10_frames 142 = .ok (.aload_n 0, 1) := by decide +kernel
theorem dX10_frames_143 : decode cX10_frames 143 = .ok (.invokevirtual 128, 3) := by decide +kernel
theorem dX10_frames_146 : decode cX10_frames 146 = .ok (.bipush 6, 2) := by decide +kernel
theorem dX10_frames_148 : decode cX10_frames 148 = .ok (.if_icmp .ne 16, 3) := by decide +kernel
theorem dX10_frames_151 : decode cX10_frames 151 = .ok (.aload_n 0, 1) := by decide +kernel
theorem dX10_frames_152 : decode cX10_frames 152 = .ok (.aload_n 0, 1) := by decide +kernel
theorem dX10_frames_153 : decode cX10_frames 153 = .ok (.getfield 19, 3) := by decide +kernel
theorem dX10_frames_156 : decode cX10_frames 156 = .ok (.iconst 0, 1) := by decide +kernel
theorem dX10_frames_157 : decode cX10_frames 157 = .ok (.iaload, 1) := by decide +kernel
theorem dX10_frames_158 : decode cX10_frames 158 = .ok (.invokevirtual 132, 3) := by decide +kernel
theorem dX10_frames_161 : decode cX10_frames 161 = .ok (.goto 16, 3) := by decide +kernel
theorem dX10_frames_164 : decode cX10_frames 164 = .ok (.aload_n 0, 1) := by decide +kernel
theorem dX10_frames_165 : decode cX10_frames 165 = .ok (.aload_n 0, 1) := by decide +kernel
theorem dX10_frames_166 : decode cX10_frames 166 = .ok (.getfield 111, 3) := by decide +kernel
theorem dX10_frames_169 : decode cX10_frames 169 = .ok (.aload_n 0, 1) := by decide +kernel
theorem dX10_frames_170 : decode cX10_frames 170 = .ok (.getfield 108, 3) := by decide +kernel
theorem dX10_frames_173 : decode cX10_frames 173 = .ok (.isub, 1) := by decide +kernel
theorem dX10_frames_174 : decode cX10_frames 174 = .ok (.invokevirtual 132, 3) := by decide +kernel
theorem dX10_frames_177 : decode cX10_frames 177 = .ok (.aload_n 0, 1) := by decide +kernel
theorem dX10_frames_178 : decode cX10_frames 178 = .ok (.invokevirtual 128, 3) := by decide +kernel
theorem dX10_frames_181 : decode cX10_frames 181 = .ok (.bipush 16, 2) := by decide +kernel
theorem dX10_frames_183 : decode cX10_frames 183 = .ok (.if_icmp .ne 52, 3) := by decide +kernel
theorem dX10_frames_186 : decode cX10_frames 186 = .ok (.aload_n 0, 1) := by decide +kernel
theorem dX10_frames_187 : decode cX10_frames 187 = .ok (.iconst 2, 1) := by decide +kernel
theorem dX10_frames_188 : decode cX10_frames 188 = .ok (.aload_n 0, 1) := by decide +kernel
theorem dX10_frames_189 : decode cX10_frames 189 = .ok (.getfield 111, 3) := by decide +kernel
theorem dX10_frames_192 : decode cX10_frames 192 = .ok (.aload_n 0, 1) := by decide +kernel
theorem dX10_frames_193 : decode cX10_frames 193 = .ok (.getfield 108, 3) := by decide +kernel
theorem dX10_frames_196 : decode cX10_frames 196 = .ok (.isub, 1) := by decide +kernel
theorem dX10_frames_197 : decode cX10_frames 197 = .ok (.imul, 1) := by decide +kernel
theorem dX10_frames_198 : decode cX10_frames 198 = .ok (.invokevirtual 121, 3) := by decide +kernel
theorem dX10_frames_201 : decode cX10_frames 201 = .ok (.aload_n 0, 1) := by decide +kernel
theorem dX10_frames_202 : decode cX10_frames 202 = .ok (.getfield 108, 3) := by decide +kernel
theorem dX10_frames_205 : decode cX10_frames 205 = .ok (.istore_n 1, 1) := by decide +kernel
theorem dX10_frames_206 : decode cX10_frames 206 = .ok (.iload_n 1, 1) := by decide +kernel
theorem dX10_frames_207 : decode cX10_frames 207 = .ok (.aload_n 0, 1) := by decide +kernel
theorem dX10_frames_208 : decode cX10_frames 208 = .ok (.getfield 111, 3) := by decide +kernel
theorem dX10_frames_211 : decode cX10_frames 211 = .ok (.if_icmp .ge 24, 3) := by decide +kernel
theorem dX10_frames_214 : decode cX10_frames 214 = .ok (.aload_n 0, 1) := by decide +kernel
theorem dX10_frames_215 : decode cX10_frames 215 = .ok (.aload_n 0, 1) := by decide +kernel
theorem dX10_frames_216 : decode cX10_frames 216 = .ok (.getfield 19, 3) := by decide +kernel
theorem dX10_frames_219 : decode cX10_frames 219 = .ok (.iload_n 1, 1) := by decide +kernel
theorem dX10_frames_220 : decode cX10_frames 220 = .ok (.aload_n 0, 1) := by decide +kernel
theorem dX10_frames_221 : decode cX10_frames 221 = .ok (.getfield 108, 3) := by decide +kernel
theorem dX10_frames_224 : decode cX10_frames 224 = .ok (.isub, 1) := by decide +kernel
theorem dX10_frames_225 : decode cX10_frames 225 = .ok (.iaload, 1) := by decide +kernel
theorem dX10_frames_226 : decode cX10_frames 226 = .ok (.invokevirtual 132, 3) := by decide +kernel
theorem dX10_frames_229 : decode cX10_frames 229 = .ok (.iinc 1 1, 3) := by decide +kernel
theorem dX10_frames_232 : decode cX10_frames 232 = .ok (.goto (-26), 3) := by decide +kernel
theorem dX10_frames_235 : decode cX10_frames 235 = .ok (.aload_n 0, 1) := by decide +kernel
theorem dX10_frames_236 : decode cX10_frames 236 = .ok (.invokevirtual 135, 3) := by decide +kernel
theorem dX10_frames_239 : decode cX10_frames 239 = .ok (.return_, 1) := by decide +kernel
theorem dX10_code_0 : decode cX10_code 0 = .ok (.aload_n 0, 1) := by decide +kernel
theorem dX10_code_1 : decode cX10_code 1 = .ok (.getfield 111, 3) := by decide +kernel
theorem dX10_code_4 : decode cX10_code 4 = .ok (.bipush 32, 2) := by decide +kernel
theorem dX10_code_6 : decode cX10_code 6 = .ok (.if_icmp .le 7, 3) := by decide +kernel
theorem dX10_code_9 : decode cX10_code 9 = .ok (.iconst 1, 1) := by decide +kernel
theorem dX10_code_10 : decode cX10_code 10 = .ok (.goto 4, 3) := by decide +kernel
theorem dX10_code_13 : decode cX10_code 13 = .ok (.iconst 0, 1) := by decide +kernel
theorem dX10_code_14 : decode cX10_code 14 = .ok (.istore_n 1, 1) := by decide +kernel
theorem dX10_code_15 : decode cX10_code 15 = .ok (.iconst 0, 1) := by decide +kernel
theorem dX10_code_16 : decode cX10_code 16 = .ok (.istore_n 2, 1) := by decide +kernel
theorem dX10_code_17 : decode cX10_code 17 = .ok (.aload_n 0, 1) := by decide +kernel
theorem dX10_code_18 : decode cX10_code 18 = .ok (.getfield 108, 3) := by decide +kernel
theorem dX10_code_21 : decode cX10_code 21 = .ok (.istore_n 3, 1) := by decide +kernel
theorem dX10_code_22 : decode cX10_code 22 = .ok (.iload_n 3, 1) := by decide +kernel
theorem dX10_code_23 : decode cX10_code 23 = .ok (.aload_n 0, 1) := by decide +kernel
theorem dX10_code_24 : decode cX10_code 24 = .ok (.getfield 111, 3) := by decide +kernel
theorem dX10_code_27 : decode cX10_code 27 = .ok (.if_icmp .ge 85, 3) := by decide +kernel
theorem dX10_code_30 : decode cX10_code 30 = .ok (.iload_n 1, 1) := by decide +kernel
theorem dX10_code_31 : decode cX10_code 31 = .ok (.ifCond .ne 81, 3) := by decide +kernel
theorem dX10_code_34 : decode cX10_code 34 = .ok (.aload_n 0, 1) := by decide +kernel
theorem dX10_code_35 : decode cX10_code 35 = .ok (.getfield 101, 3) := by decide +kernel
theorem dX10_code_38 : decode cX10_code 38 = .ok (.ifCond .eq 74, 3) := by decide +kernel
theorem dX10_code_41 : decode cX10_code 41 = .ok (.aload_n 0, 1) := by decide +kernel
theorem dX10_code_42 : decode cX10_code 42 = .ok (.getfield 7, 3) := by decide +kernel
theorem dX10_code_45 : decode cX10_code 45 = .ok (.bipush 120, 2) := by decide +kernel
theorem dX10_code_47 : decode cX10_code 47 = .ok (.aload_n 0, 1) := by decide +kernel
theorem dX10_code_48 : decode cX10_code 48 = .ok (.getfield 91, 3) := by decide +kernel
theorem dX10_code_51 : decode cX10_code 51 = .ok (.iload_n 3, 1) := by decide +kernel
theorem dX10_code_52 : decode cX10_code 52 = .ok (.invokestatic 55, 3) := by decide +kernel
theorem dX10_code_55 : decode cX10_code 55 = .ok (.iadd, 1) := by decide +kernel
theorem dX10_code_56 : decode cX10_code 56 = .ok (.iaload, 1) := by decide +kernel
theorem dX10_code_57 : decode cX10_code 57 = .ok (.iconst 1, 1) := by decide +kernel
theorem dX10_code_58 : decode cX10_code 58 = .ok (.if_icmp .ne 7, 3) := by decide +kernel
theorem dX10_code_61 : decode cX10_code 61 = .ok (.iconst 1, 1) := by decide +kernel
theorem dX10_code_62 : decode cX10_code 62 = .ok (.goto 4, 3) := by decide +kernel
theorem dX10_code_65 : decode cX10_code 65 = .ok (.iconst 0, 1) := by decide +kernel
theorem dX10_code_66 : decode cX10_code 66 = .ok (.istore_n 1, 1) := by decide +kernel
theorem dX10_code_67 : decode cX10_code 67 = .ok (.iload_n 2, 1) := by decide +kernel
theorem dX10_code_68 : decode cX10_code 68 = .ok (.ifCond .ne 32, 3) := by decide +kernel
theorem dX10_code_71 : decode cX10_code 71 = .ok (.aload_n 0, 1) := by decide +kernel
theorem dX10_code_72 : decode cX10_code 72 = .ok (.getfield 19, 3) := by decide +kernel
theorem dX10_code_75 : decode cX10_code 75 = .ok (.iload_n 3, 1) := by decide +kernel
theorem dX10_code_76 : decode cX10_code 76 = .ok (.aload_n 0, 1) := by decide +kernel
theorem dX10_code_77 : decode cX10_code 77 = .ok (.getfield 108, 3) := by decide +kernel
theorem dX10_code_80 : decode cX10_code 80 = .ok (.isub, 1) := by decide +kernel
theorem dX10_code_81 : decode cX10_code 81 = .ok (.iaload, 1) := by decide +kernel
theorem dX10_code_82 : decode cX10_code 82 = .ok (.aload_n 0, 1) := by decide +kernel
theorem dX10_code_83 : decode cX10_code 83 = .ok (.getfield 7, 3) := by decide +kernel
theorem dX10_code_86 : decode cX10_code 86 = .ok (.sipush 220, 3) := by decide +kernel
theorem dX10_code_89 : decode cX10_code 89 = .ok (.aload_n 0, 1) := by decide +kernel
theorem dX10_code_90 : decode cX10_code 90 = .ok (.getfield 91, 3) := by decide +kernel
theorem dX10_code_93 : decode cX10_code 93 = .ok (.iadd, 1) := by decide +kernel
theorem dX10_code_94 : decode cX10_code 94 = .ok (.iconst 1, 1) := by decide +kernel
theorem dX10_code_95 : decode cX10_code 95 = .ok (.isub, 1) := by decide +kernel
theorem dX10_code_96 : decode cX10_code 96 = .ok (.iaload, 1) := by decide +kernel
theorem dX10_code_97 : decode cX10_code 97 = .ok (.if_icmp .le 7, 3) := by decide +kernel
theorem dX10_code_100 : decode cX10_code 100 = .ok (.iconst 1, 1) := by decide +kernel
theorem dX10_code_101 : decode cX10_code 101 = .ok (.goto 4, 3) := by decide +kernel
theorem dX10_code_104 : decode cX10_code 104 = .ok (.iconst 0, 1) := by decide +kernel
theorem dX10_code_105 : decode cX10_code 105 = .ok (.istore_n 2, 1) := by decide +kernel
theorem dX10_code_106 : decode cX10_code 106 = .ok (.iinc 3 1, 3) := by decide +kernel
theorem dX10_code_109 : decode cX10_code 109 = .ok (.goto (-87), 3) := by decide +kernel
theorem dX10_code_112 : decode cX10_code 112 = .ok (.iload_n 1, 1) := by decide +kernel
theorem dX10_code_113 : decode cX10_code 113 = .ok (.ifCond .eq 7, 3) := by decide +kernel
theorem dX10_code_116 : decode cX10_code 116 = .ok (.iconst 2, 1) := by decide +kernel
theorem dX10_code_117 : decode cX10_code 117 = .ok (.goto 12, 3) := by decide +kernel
theorem dX10_code_120 : decode cX10_code 120 = .ok (.iload_n 2, 1) := by decide +kernel
theorem dX10_code_121 : decode cX10_code 121 = .ok (.ifCond .eq 7, 3) := by decide +kernel
theorem dX10_code_124 : decode cX10_code 124 = .ok (.iconst 3, 1) := by decide +kernel
theorem dX10_code_125 : decode cX10_code 125 = .ok (.goto 4, 3) := by decide +kernel
theorem dX10_code_128 : decode cX10_code 128 = .ok (.iconst 0, 1) := by decide +kernel
theorem dX10_code_129 : decode cX10_code 129 = .ok (.ireturn, 1) := by decide +kernel
theorem dX10_repliesWith_0 : decode cX10_repliesWith 0 = .ok (.aload_n 0, 1) := by decide +kernel
theorem dX10_repliesWith_1 : decode cX10_repliesWith 1 = .ok (.iconst 0, 1) := by decide +kernel
theorem dX10_repliesWith_2 : decode cX10_repliesWith 2 = .ok (.putfield 118, 3) := by decide +kernel
theorem dX10_repliesWith_5 : decode cX10_repliesWith 5 = .ok (.aload_n 0, 1) := by decide +kernel
theorem dX10_repliesWith_6 : decode cX10_repliesWith 6 = .ok (.aload_n 0, 1) := by decide +kernel
theorem dX10_repliesWith_7 : decode cX10_repliesWith 7 = .ok (.getfield 91, 3) := by decide +kernel
theorem dX10_repliesWith_10 : decode cX10_repliesWith 10 = .ok (.invokevirtual 121, 3) := by decide +kernel
theorem dX10_repliesWith_13 : decode cX10_repliesWith 13 = .ok (.iload_n 1, 1) := by decide +kernel
theorem dX10_repliesWith_14 : decode cX10_repliesWith 14 = .ok (.ifCond .le 25, 3) := by decide +kernel
theorem dX10_repliesWith_17 : decode cX10_repliesWith 17 = .ok (.aload_n 0, 1) := by decide +kernel
theorem dX10_repliesWith_18 : decode cX10_repliesWith 18 = .ok (.aload_n 0, 1) := by decide +kernel
theorem dX10_repliesWith_19 : decode cX10_repliesWith 19 = .ok (.invokevirtual 128, 3) := by decide +kernel
theorem dX10_repliesWith_22 : decode cX10_repliesWith 22 = .ok (.sipush 128, 3) := by decide +kernel
theorem dX10_repliesWith_25 : decode cX10_repliesWith 25 = .ok (.iadd, 1) := by decide +kernel
theorem dX10_repliesWith_26 : decode cX10_repliesWith 26 = .ok (.invokevirtual 121, 3) := by decide +kernel
theorem dX10_repliesWith_29 : decode cX10_repliesWith 29 = .ok (.aload_n 0, 1) := by decide +kernel
theorem dX10_repliesWith_30 : decode cX10_repliesWith 30 = .ok (.iload_n 1, 1) := by decide +kernel
theorem dX10_repliesWith_31 : decode cX10_repliesWith 31 = .ok (.invokevirtual 121, 3) := by decide +kernel
theorem dX10_repliesWith_34 : decode cX10_repliesWith 34 = .ok (.aload_n 0, 1) := by decide +kernel
theorem dX10_repliesWith_35 : decode cX10_repliesWith 35 = .ok (.invokevirtual 135, 3) := by decide +kernel
theorem dX10_repliesWith_38 : decode cX10_repliesWith 38 = .ok (.return_, 1) := by decide +kernel
theorem dX10_repliesWith_39 : decode cX10_repliesWith 39 = .ok (.aload_n 0, 1) := by decide +kernel
theorem dX10_repliesWith_40 : decode cX10_repliesWith 40 = .ok (.aload_n 0, 1) := by decide +kernel
theorem dX10_repliesWith_41 : decode cX10_repliesWith 41 = .ok (.invokevirtual 128, 3) := by decide +kernel
theorem dX10_repliesWith_44 : decode cX10_repliesWith 44 = .ok (.invokevirtual 121, 3) := by decide +kernel
theorem dX10_repliesWith_47 : decode cX10_repliesWith 47 = .ok (.aload_n 0, 1) := by decide +kernel
theorem dX10_repliesWith_48 : decode cX10_repliesWith 48 = .ok (.getfield 101, 3) := by decide +kernel
theorem dX10_repliesWith_51 : decode cX10_repliesWith 51 = .ok (.ifCond .ne 60, 3) := by decide +kernel
theorem dX10_repliesWith_54 : decode cX10_repliesWith 54 = .ok (.aload_n 0, 1) := by decide +kernel
theorem dX10_repliesWith_55 : decode cX10_repliesWith 55 = .ok (.iconst 2, 1) := by decide +kernel
theorem dX10_repliesWith_56 : decode cX10_repliesWith 56 = .ok (.aload_n 0, 1) := by decide +kernel
theorem dX10_repliesWith_57 : decode cX10_repliesWith 57 = .ok (.getfield 111, 3) := by decide +kernel
theorem dX10_repliesWith_60 : decode cX10_repliesWith 60 = .ok (.aload_n 0, 1) := by decide +kernel
theorem dX10_repliesWith_61 : decode cX10_repliesWith 61 = .ok (.getfield 108, 3) := by decide +kernel
theorem dX10_repliesWith_64 : decode cX10_repliesWith 64 = .ok (.isub, 1) := by decide +kernel
theorem dX10_repliesWith_65 : decode cX10_repliesWith 65 = .ok (.imul, 1) := by decide +kernel
theorem dX10_repliesWith_66 : decode cX10_repliesWith 66 = .ok (.invokevirtual 121, 3) := by decide +kernel
theorem dX10_repliesWith_69 : decode cX10_repliesWith 69 = .ok (.aload_n 0, 1) := by decide +kernel
theorem dX10_repliesWith_70 : decode cX10_repliesWith 70 = .ok (.getfield 108, 3) := by decide +kernel
theorem dX10_repliesWith_73 : decode cX10_repliesWith 73 = .ok (.istore_n 2, 1) := by decide +kernel
theorem dX10_repliesWith_74 : decode cX10_repliesWith 74 = .ok (.iload_n 2, 1) := by decide +kernel
theorem dX10_repliesWith_75 : decode cX10_repliesWith 75 = .ok (.aload_n 0, 1) := by decide +kernel
theorem dX10_repliesWith_76 : decode cX10_repliesWith 76 = .ok (.getfield 111, 3) := by decide +kernel
theorem dX10_repliesWith_79 : decode cX10_repliesWith 79 = .ok (.if_icmp .ge 29, 3) := by decide +kernel
theorem dX10_repliesWith_82 : decode cX10_repliesWith 82 = .ok (.aload_n 0, 1) := by decide +kernel
theorem dX10_repliesWith_83 : decode cX10_repliesWith 83 = .ok (.aload_n 0, 1) := by decide +kernel
theorem dX10_repliesWith_84 : decode cX10_repliesWith 84 = .ok (.getfield 7, 3) := by decide +kernel
theorem dX10_repliesWith_87 : decode cX10_repliesWith 87 = .ok (.bipush 20, 2) := by decide +kernel
theorem dX10_repliesWith_89 : decode cX10_repliesWith 89 = .ok (.aload_n 0, 1) := by decide +kernel
theorem dX10_repliesWith_90 : decode cX10_repliesWith 90 = .ok (.getfield 91, 3) := by decide +kernel
theorem dX10_repliesWith_93 : decode cX10_repliesWith 93 = .ok (.iload_n 2, 1) := by decide +kernel
theorem dX10_repliesWith_94 : decode cX10_repliesWith 94 = .ok (.invokestatic 55, 3) := by decide +kernel
theorem dX10_repliesWith_97 : decode cX10_repliesWith 97 = .ok (.iadd, 1) := by decide +kernel
theorem dX10_repliesWith_98 : decode cX10_repliesWith 98 = .ok (.iaload, 1) := by decide +kernel
theorem dX10_repliesWith_99 : decode cX10_repliesWith 99 = .ok (.invokevirtual 132, 3) := by decide +kernel
theorem dX10_repliesWith_102 : decode cX10_repliesWith 102 = .ok (.iinc 2 1, 3) := by decide +kernel
theorem dX10_repliesWith_105 : decode cX10_repliesWith 105 = .ok (.goto (-31), 3) := by decide +kernel
theorem dX10_repliesWith_108 : decode cX10_repliesWith 108 = .ok (.goto 42, 3) := by decide +kernel
theorem dX10_repliesWith_111 : decode cX10_repliesWith 111 = .ok (.aload_n 0, 1) := by decide +kernel
theorem dX10_repliesWith_112 : decode cX10_repliesWith 112 = .ok (.aload_n 0, 1) := by decide +kernel
theorem dX10_repliesWith_113 : decode cX10_repliesWith 113 = .ok (.getfield 108, 3) := by decide +kernel
theorem dX10_repliesWith_116 : decode cX10_repliesWith 116 = .ok (.invokevirtual 132, 3) := by decide +kernel
theorem dX10_repliesWith_119 : decode cX10_repliesWith 119 = .ok (.aload_n 0, 1) := by decide +kernel
theorem dX10_repliesWith_120 : decode cX10_repliesWith 120 = .ok (.aload_n 0, 1) := by decide +kernel
theorem dX10_repliesWith_121 : decode cX10_repliesWith 121 = .ok (.invokevirtual 128, 3) := by decide +kernel
theorem dX10_repliesWith_124 : decode cX10_repliesWith 124 = .ok (.bipush 6, 2) := by decide +kernel
theorem dX10_repliesWith_126 : decode cX10_repliesWith 126 = .ok (.if_icmp .ne 12, 3) := by decide +kernel
theorem dX10_repliesWith_129 : decode cX10_repliesWith 129 = .ok (.aload_n 0, 1) := by decide +kernel
theorem dX10_repliesWith_130 : decode cX10_repliesWith 130 = .ok (.getfield 19, 3) := by decide +kernel
theorem dX10_repliesWith_133 : decode cX10_repliesWith 133 = .ok (.iconst 0, 1) := by decide +kernel
theorem dX10_repliesWith_134 : decode cX10_repliesWith 134 = .ok (.iaload, 1) := by decide +kernel
theorem dX10_repliesWith_135 : decode cX10_repliesWith 135 = .ok (.goto 12, 3) := by decide +kernel
theorem dX10_repliesWith_138 : decode cX10_repliesWith 138 = .ok (.aload_n 0, 1) := by decide +kernel
theorem dX10_repliesWith_139 : decode cX10_repliesWith 139 = .ok (.getfield 111, 3) := by decide +kernel
theorem dX10_repliesWith_142 : decode cX10_repliesWith 142 = .ok (.aload_n 0, 1) := by decide +kernel
theorem dX10_repliesWith_143 : decode cX10_repliesWith 143 = .ok (.getfield 108, 3) := by decide +kernel
theorem dX10_repliesWith_146 : decode cX10_repliesWith 146 = .ok (.isub, 1) := by decide +kernel
theorem dX10_repliesWith_147 : decode cX10_repliesWith 147 = .ok (.invokevirtual 132, 3) := by decide +kernel
theorem dX10_repliesWith_150 : decode cX10_repliesWith 150 = .ok (.aload_n 0, 1) := by decide +kernel
theorem dX10_repliesWith_151 : decode cX10_repliesWith 151 = .ok (.invokevirtual 135, 3) := by decide +kernel
theorem dX10_repliesWith_154 : decode cX10_repliesWith 154 = .ok (.return_, 1) := by decide +kernel
theorem dX10_does_0 : decode cX10_does 0 = .ok (.aload_n 0, 1) := by decide +kernel
theorem dX10_does_1 : decode cX10_does 1 = .ok (.getfield 108, 3) := by decide +kernel
theorem dX10_does_4 : decode cX10_does 4 = .ok (.istore_n 1, 1) := by decide +kernel
theorem dX10_does_5 : decode cX10_does 5 = .ok (.iload_n 1, 1) := by decide +kernel
theorem dX10_does_6 : decode cX10_does 6 = .ok (.aload_n 0, 1) := by decide +kernel
theorem dX10_does_7 : decode cX10_does 7 = .ok (.getfield 111, 3) := by decide +kernel
theorem dX10_does_10 : decode cX10_does 10 = .ok (.if_icmp .ge 43, 3) := by decide +kernel
theorem dX10_does_13 : decode cX10_does 13 = .ok (.aload_n 0, 1) := by decide +kernel
theorem dX10_does_14 : decode cX10_does 14 = .ok (.getfield 101, 3) := by decide +kernel
theorem dX10_does_17 : decode cX10_does 17 = .ok (.ifCond .eq 36, 3) := by decide +kernel
theorem dX10_does_20 : decode cX10_does 20 = .ok (.aload_n 0, 1) := by decide +kernel
theorem dX10_does_21 : decode cX10_does 21 = .ok (.getfield 7, 3) := by decide +kernel
theorem dX10_does_24 : decode cX10_does 24 = .ok (.bipush 20, 2) := by decide +kernel
theorem dX10_does_26 : decode cX10_does 26 = .ok (.aload_n 0, 1) := by decide +kernel
theorem dX10_does_27 : decode cX10_does 27 = .ok (.getfield 91, 3) := by decide +kernel
theorem dX10_does_30 : decode cX10_does 30 = .ok (.iload_n 1, 1) := by decide +kernel
theorem dX10_does_31 : decode cX10_does 31 = .ok (.invokestatic 55, 3) := by decide +kernel
theorem dX10_does_34 : decode cX10_does 34 = .ok (.iadd, 1) := by decide +kernel
theorem dX10_does_35 : decode cX10_does 35 = .ok (.aload_n 0, 1) := by decide +kernel
theorem dX10_does_36 : decode cX10_does 36 = .ok (.getfield 19, 3) := by decide +kernel
theorem dX10_does_39 : decode cX10_does 39 = .ok (.iload_n 1, 1) := by decide +kernel
theorem dX10_does_40 : decode cX10_does 40 = .ok (.aload_n 0, 1) := by decide +kernel
theorem dX10_does_41 : decode cX10_does 41 = .ok (.getfield 108, 3) := by decide +kernel
theorem dX10_does_44 : decode cX10_does 44 = .ok (.isub, 1) := by decide +kernel
theorem dX10_does_45 : decode cX10_does 45 = .ok (.iaload, 1) := by decide +kernel
theorem dX10_does_46 : decode cX10_does 46 = .ok (.iastore, 1) := by decide +kernel
theorem dX10_does_47 : decode cX10_does 47 = .ok (.iinc 1 1, 3) := by decide +kernel
theorem dX10_does_50 : decode cX10_does 50 = .ok (.goto (-45), 3) := by decide +kernel
theorem dX10_does_53 : decode cX10_does 53 = .ok (.return_, 1) := by decide +kernel
theorem dX10_gets_0 : decode cX10_gets 0 = .ok (.aload_n 0, 1) := by decide +kernel
theorem dX10_gets_1 : decode cX10_gets 1 = .ok (.getfield 91, 3) := by decide +kernel
theorem dX10_gets_4 : decode cX10_gets 4 = .ok (.invokestatic 58, 3) := by decide +kernel
theorem dX10_gets_7 : decode cX10_gets 7 = .ok (.istore_n 1, 1) := by decide +kernel
theorem dX10_gets_8 : decode cX10_gets 8 = .ok (.aload_n 0, 1) := by decide +kernel
theorem dX10_gets_9 : decode cX10_gets 9 = .ok (.getfield 7, 3) := by decide +kernel
theorem dX10_gets_12 : decode cX10_gets 12 = .ok (.iload_n 1, 1) := by decide +kernel
theorem dX10_gets_13 : decode cX10_gets 13 = .ok (.iaload, 1) := by decide +kernel
theorem dX10_gets_14 : decode cX10_gets 14 = .ok (.ifCond .le 14, 3) := by decide +kernel
theorem dX10_gets_17 : decode cX10_gets 17 = .ok (.aload_n 0, 1) := by decide +kernel
theorem dX10_gets_18 : decode cX10_gets 18 = .ok (.getfield 7, 3) := by decide +kernel
theorem dX10_gets_21 : decode cX10_gets 21 = .ok (.iload_n 1, 1) := by decide +kernel
theorem dX10_gets_22 : decode cX10_gets 22 = .ok (.iconst 1, 1) := by decide +kernel
theorem dX10_gets_23 : decode cX10_gets 23 = .ok (.iadd, 1) := by decide +kernel
theorem dX10_gets_24 : decode cX10_gets 24 = .ok (.iaload, 1) := by decide +kernel
theorem dX10_gets_25 : decode cX10_gets 25 = .ok (.goto 4, 3) := by decide +kernel
theorem dX10_gets_28 : decode cX10_gets 28 = .ok (.iconst 0, 1) := by decide +kernel
theorem dX10_gets_29 : decode cX10_gets 29 = .ok (.istore_n 2, 1) := by decide +kernel
theorem dX10_gets_30 : decode cX10_gets 30 = .ok (.aload_n 0, 1) := by decide +kernel
theorem dX10_gets_31 : decode cX10_gets 31 = .ok (.getfield 7, 3) := by decide +kernel
theorem dX10_gets_34 : decode cX10_gets 34 = .ok (.iload_n 1, 1) := by decide +kernel
theorem dX10_gets_35 : decode cX10_gets 35 = .ok (.iaload, 1) := by decide +kernel
theorem dX10_gets_36 : decode cX10_gets 36 = .ok (.ifCond .le 14, 3) := by decide +kernel
theorem dX10_gets_39 : decode cX10_gets 39 = .ok (.aload_n 0, 1) := by decide +kernel
theorem dX10_gets_40 : decode cX10_gets 40 = .ok (.getfield 7, 3) := by decide +kernel
theorem dX10_gets_43 : decode cX10_gets 43 = .ok (.iload_n 1, 1) := by decide +kernel
theorem dX10_gets_44 : decode cX10_gets 44 = .ok (.iconst 2, 1) := by decide +kernel
theorem dX10_gets_45 : decode cX10_gets 45 = .ok (.iadd, 1) := by decide +kernel
theorem dX10_gets_46 : decode cX10_gets 46 = .ok (.iaload, 1) := by decide +kernel
theorem dX10_gets_47 : decode cX10_gets 47 = .ok (.goto 4, 3) := by decide +kernel
theorem dX10_gets_50 : decode cX10_gets 50 = .ok (.iconst 0, 1) := by decide +kernel
theorem dX10_gets_51 : decode cX10_gets 51 = .ok (.istore_n 3, 1) := by decide +kernel
theorem dX10_gets_52 : decode cX10_gets 52 = .ok (.aload_n 0, 1) := by decide +kernel
theorem dX10_gets_53 : decode cX10_gets 53 = .ok (.getfield 7, 3) := by decide +kernel
theorem dX10_gets_56 : decode cX10_gets 56 = .ok (.iload_n 1, 1) := by decide +kernel
theorem dX10_gets_57 : decode cX10_gets 57 = .ok (.iaload, 1) := by decide +kernel
theorem dX10_gets_58 : decode cX10_gets 58 = .ok (.ifCond .le 49, 3) := by decide +kernel
theorem dX10_gets_61 : decode cX10_gets 61 = .ok (.aload_n 0, 1) := by decide +kernel
theorem dX10_gets_62 : decode cX10_gets 62 = .ok (.getfield 7, 3) := by decide +kernel
theorem dX10_gets_65 : decode cX10_gets 65 = .ok (.iload_n 1, 1) := by decide +kernel
theorem dX10_gets_66 : decode cX10_gets 66 = .ok (.dup2, 1) := by decide +kernel
theorem dX10_gets_67 : decode cX10_gets 67 = .ok (.iaload, 1) := by decide +kernel
theorem dX10_gets_68 : decode cX10_gets 68 = .ok (.iconst 1, 1) := by decide +kernel
theorem dX10_gets_69 : decode cX10_gets 69 = .ok (.isub, 1) := by decide +kernel
theorem dX10_gets_70 : decode cX10_gets 70 = .ok (.iastore, 1) := by decide +kernel
theorem dX10_gets_71 : decode cX10_gets 71 = .ok (.iconst 1, 1) := by decide +kernel
theorem dX10_gets_72 : decode cX10_gets 72 = .ok (.istore 4, 2) := by decide +kernel
theorem dX10_gets_74 : decode cX10_gets 74 = .ok (.iload 4, 2) := by decide +kernel
theorem dX10_gets_76 : decode cX10_gets 76 = .ok (.bipush 10, 2) := by decide +kernel
theorem dX10_gets_78 : decode cX10_gets 78 = .ok (.if_icmp .gt 29, 3) := by decide +kernel
theorem dX10_gets_81 : decode cX10_gets 81 = .ok (.aload_n 0, 1) := by decide +kernel
theorem dX10_gets_82 : decode cX10_gets 82 = .ok (.getfield 7, 3) := by decide +kernel
theorem dX10_gets_85 : decode cX10_gets 85 = .ok (.iload_n 1, 1) := by decide +kernel
theorem dX10_gets_86 : decode cX10_gets 86 = .ok (.iload 4, 2) := by decide +kernel
theorem dX10_gets_88 : decode cX10_gets 88 = .ok (.iadd, 1) := by decide +kernel
theorem dX10_gets_89 : decode cX10_gets 89 = .ok (.aload_n 0, 1) := by decide +kernel
theorem dX10_gets_90 : decode cX10_gets 90 = .ok (.getfield 7, 3) := by decide +kernel
theorem dX10_gets_93 : decode cX10_gets 93 = .ok (.iload_n 1, 1) := by decide +kernel
theorem dX10_gets_94 : decode cX10_gets 94 = .ok (.iload 4, 2) := by decide +kernel
theorem dX10_gets_96 : decode cX10_gets 96 = .ok (.iadd, 1) := by decide +kernel
theorem dX10_gets_97 : decode cX10_gets 97 = .ok (.iconst 2, 1) := by decide +kernel
theorem dX10_gets_98 : decode cX10_gets 98 = .ok (.iadd, 1) := by decide +kernel
theorem dX10_gets_99 : decode cX10_gets 99 = .ok (.iaload, 1) := by decide +kernel
theorem dX10_gets_100 : decode cX10_gets 100 = .ok (.iastore, 1) := by decide +kernel
theorem dX10_gets_101 : decode cX10_gets 101 = .ok (.iinc 4 1, 3) := by decide +kernel
theorem dX10_gets_104 : decode cX10_gets 104 = .ok (.goto (-30), 3) := by decide +kernel
theorem dX10_gets_107 : decode cX10_gets 107 = .ok (.iload_n 2, 1) := by decide +kernel
theorem dX10_gets_108 : decode cX10_gets 108 = .ok (.iconst 4, 1) := by decide +kernel
theorem dX10_gets_109 : decode cX10_gets 109 = .ok (.if_icmp .ne 8, 3) := by decide +kernel
theorem dX10_gets_112 : decode cX10_gets 112 = .ok (.bipush 6, 2) := by decide +kernel
theorem dX10_gets_114 : decode cX10_gets 114 = .ok (.goto 7, 3) := by decide +kernel
theorem dX10_gets_117 : decode cX10_gets 117 = .ok (.aload_n 0, 1) := by decide +kernel
theorem dX10_gets_118 : decode cX10_gets 118 = .ok (.invokevirtual 138, 3) := by decide +kernel
theorem dX10_gets_121 : decode cX10_gets 121 = .ok (.istore 4, 2) := by decide +kernel
theorem dX10_gets_123 : decode cX10_gets 123 = .ok (.iload 4, 2) := by decide +kernel
theorem dX10_gets_125 : decode cX10_gets 125 = .ok (.ifCond .ne 7, 3) := by decide +kernel
theorem dX10_gets_128 : decode cX10_gets 128 = .ok (.aload_n 0, 1) := by decide +kernel
theorem dX10_gets_129 : decode cX10_gets 129 = .ok (.invokevirtual 141, 3) := by decide +kernel
theorem dX10_gets_132 : decode cX10_gets 132 = .ok (.aload_n 0, 1) := by decide +kernel
theorem dX10_gets_133 : decode cX10_gets 133 = .ok (.iload 4, 2) := by decide +kernel
theorem dX10_gets_135 : decode cX10_gets 135 = .ok (.invokevirtual 144, 3) := by decide +kernel
theorem dX10_gets_138 : decode cX10_gets 138 = .ok (.iload_n 2, 1) := by decide +kernel
theorem dX10_gets_139 : decode cX10_gets 139 = .ok (.iconst 2, 1) := by decide +kernel
theorem dX10_gets_140 : decode cX10_gets 140 = .ok (.if_icmp .ne 18, 3) := by decide +kernel
theorem dX10_gets_143 : decode cX10_gets 143 = .ok (.aload_n 0, 1) := by decide +kernel
theorem dX10_gets_144 : decode cX10_gets 144 = .ok (.getfield 16, 3) := by decide +kernel
theorem dX10_gets_147 : decode cX10_gets 147 = .ok (.iload_n 3, 1) := by decide +kernel
theorem dX10_gets_148 : decode cX10_gets 148 = .ok (.aload_n 0, 1) := by decide +kernel
theorem dX10_gets_149 : decode cX10_gets 149 = .ok (.getfield 118, 3) := by decide +kernel
theorem dX10_gets_152 : decode cX10_gets 152 = .ok (.irem, 1) := by decide +kernel
theorem dX10_gets_153 : decode cX10_gets 153 = .ok (.dup2, 1) := by decide +kernel
theorem dX10_gets_154 : decode cX10_gets 154 = .ok (.iaload, 1) := by decide +kernel
theorem dX10_gets_155 : decode cX10_gets 155 = .ok (.iconst 1, 1) := by decide +kernel
theorem dX10_gets_156 : decode cX10_gets 156 = .ok (.ixor, 1) := by decide +kernel
theorem dX10_gets_157 : decode cX10_gets 157 = .ok (.iastore, 1) := by decide +kernel
theorem dX10_gets_158 : decode cX10_gets 158 = .ok (.iload_n 2, 1) := by decide +kernel
theorem dX10_gets_159 : decode cX10_gets 159 = .ok (.iconst 1, 1) := by decide +kernel
theorem dX10_gets_160 : decode cX10_gets 160 = .ok (.if_icmp .eq 136, 3) := by decide +kernel
theorem dX10_gets_163 : decode cX10_gets 163 = .ok (.sipush 1700, 3) := by decide +kernel
theorem dX10_gets_166 : decode cX10_gets 166 = .ok (.bipush 42, 2) := by decide +kernel
theorem dX10_gets_168 : decode cX10_gets 168 = .ok (.aload_n 0, 1) := by decide +kernel
theorem dX10_gets_169 : decode cX10_gets 169 = .ok (.getfield 7, 3) := by decide +kernel
theorem dX10_gets_172 : decode cX10_gets 172 = .ok (.bipush 9, 2) := by decide +kernel
theorem dX10_gets_174 : decode cX10_gets 174 = .ok (.iaload, 1) := by decide +kernel
theorem dX10_gets_175 : decode cX10_gets 175 = .ok (.imul, 1) := by decide +kernel
theorem dX10_gets_176 : decode cX10_gets 176 = .ok (.iadd, 1) := by decide +kernel
theorem dX10_gets_177 : decode cX10_gets 177 = .ok (.istore 5, 2) := by decide +kernel
theorem dX10_gets_179 : decode cX10_gets 179 = .ok (.aload_n 0, 1) := by decide +kernel
theorem dX10_gets_180 : decode cX10_gets 180 = .ok (.getfield 7, 3) := by decide +kernel
theorem dX10_gets_183 : decode cX10_gets 183 = .ok (.iload 5, 2) := by decide +kernel
theorem dX10_gets_185 : decode cX10_gets 185 = .ok (.aload_n 0, 1) := by decide +kernel
theorem dX10_gets_186 : decode cX10_gets 186 = .ok (.getfield 7, 3) := by decide +kernel
theorem dX10_gets_189 : decode cX10_gets 189 = .ok (.iconst 0, 1) := by decide +kernel
theorem dX10_gets_190 : decode cX10_gets 190 = .ok (.iaload, 1) := by decide +kernel
theorem dX10_gets_191 : decode cX10_gets 191 = .ok (.aload_n 0, 1) := by decide +kernel
theorem dX10_gets_192 : decode cX10_gets 192 = .ok (.getfield 7, 3) := by decide +kernel
theorem dX10_gets_195 : decode cX10_gets 195 = .ok (.sipush 224, 3) := by decide +kernel
theorem dX10_gets_198 : decode cX10_gets 198 = .ok (.aload_n 0, 1) := by decide +kernel
theorem dX10_gets_199 : decode cX10_gets 199 = .ok (.getfield 91, 3) := by decide +kernel
theorem dX10_gets_202 : decode cX10_gets 202 = .ok (.iadd, 1) := by decide +kernel
theorem dX10_gets_203 : decode cX10_gets 203 = .ok (.iconst 1, 1) := by decide +kernel
theorem dX10_gets_204 : decode cX10_gets 204 = .ok (.isub, 1) := by decide +kernel
theorem dX10_gets_205 : decode cX10_gets 205 = .ok (.iaload, 1) := by decide +kernel
theorem dX10_gets_206 : decode cX10_gets 206 = .ok (.iadd, 1) := by decide +kernel
theorem dX10_gets_207 : decode cX10_gets 207 = .ok (.iload_n 2, 1) := by decide +kernel
theorem dX10_gets_208 : decode cX10_gets 208 = .ok (.iconst 3, 1) := by decide +kernel
theorem dX10_gets_209 : decode cX10_gets 209 = .ok (.if_icmp .ne 7, 3) := by decide +kernel
theorem dX10_gets_212 : decode cX10_gets 212 = .ok (.iload_n 3, 1) := by decide +kernel
theorem dX10_gets_213 : decode cX10_gets 213 = .ok (.goto 4, 3) := by decide +kernel
theorem dX10_gets_216 : decode cX10_gets 216 = .ok (.iconst 0, 1) := by decide +kernel
theorem dX10_gets_217 : decode cX10_gets 217 = .ok (.iadd, 1) := by decide +kernel
theorem dX10_gets_218 : decode cX10_gets 218 = .ok (.iastore, 1) := by decide +kernel
theorem dX10_gets_219 : decode cX10_gets 219 = .ok (.aload_n 0, 1) := by decide +kernel
theorem dX10_gets_220 : decode cX10_gets 220 = .ok (.getfield 7, 3) := by decide +kernel
theorem dX10_gets_223 : decode cX10_gets 223 = .ok (.iload 5, 2) := by decide +kernel
theorem dX10_gets_225 : decode cX10_gets 225 = .ok (.iconst 1, 1) := by decide +kernel
theorem dX10_gets_226 : decode cX10_gets 226 = .ok (.iadd, 1) := by decide +kernel
theorem dX10_gets_227 : decode cX10_gets 227 = .ok (.aload_n 0, 1) := by decide +kernel
theorem dX10_gets_228 : decode cX10_gets 228 = .ok (.getfield 118, 3) := by decide +kernel
theorem dX10_gets_231 : decode cX10_gets 231 = .ok (.iastore, 1) := by decide +kernel
theorem dX10_gets_232 : decode cX10_gets 232 = .ok (.aload_n 0, 1) := by decide +kernel
theorem dX10_gets_233 : decode cX10_gets 233 = .ok (.getfield 7, 3) := by decide +kernel
theorem dX10_gets_236 : decode cX10_gets 236 = .ok (.iload 5, 2) := by decide +kernel
theorem dX10_gets_238 : decode cX10_gets 238 = .ok (.iconst 2, 1) := by decide +kernel
theorem dX10_gets_239 : decode cX10_gets 239 = .ok (.iadd, 1) := by decide +kernel
theorem dX10_gets_240 : decode cX10_gets 240 = .ok (.aload_n 0, 1) := by decide +kernel
theorem dX10_gets_241 : decode cX10_gets 241 = .ok (.getfield 7, 3) := by decide +kernel
theorem dX10_gets_244 : decode cX10_gets 244 = .ok (.bipush 7, 2) := by decide +kernel
theorem dX10_gets_246 : decode cX10_gets 246 = .ok (.iaload, 1) := by decide +kernel
theorem dX10_gets_247 : decode cX10_gets 247 = .ok (.iastore, 1) := by decide +kernel
theorem dX10_gets_248 : decode cX10_gets 248 = .ok (.iconst 0, 1) := by decide +kernel
theorem dX10_gets_249 : decode cX10_gets 249 = .ok (.istore 6, 2) := by decide +kernel
theorem dX10_gets_251 : decode cX10_gets 251 = .ok (.iload 6, 2) := by decide +kernel
theorem dX10_gets_253 : decode cX10_gets 253 = .ok (.aload_n 0, 1) := by decide +kernel
theorem dX10_gets_254 : decode cX10_gets 254 = .ok (.getfield 118, 3) := by decide +kernel
theorem dX10_gets_257 : decode cX10_gets 257 = .ok (.if_icmp .ge 28, 3) := by decide +kernel
theorem dX10_gets_260 : decode cX10_gets 260 = .ok (.aload_n 0, 1) := by decide +kernel
theorem dX10_gets_261 : decode cX10_gets 261 = .ok (.getfield 7, 3) := by decide +kernel
theorem dX10_gets_264 : decode cX10_gets 264 = .ok (.iload 5, 2) := by decide +kernel
theorem dX10_gets_266 : decode cX10_gets 266 = .ok (.iconst 3, 1) := by decide +kernel
theorem dX10_gets_267 : decode cX10_gets 267 = .ok (.iadd, 1) := by decide +kernel
theorem dX10_gets_268 : decode cX10_gets 268 = .ok (.iload 6, 2) := by decide +kernel
theorem dX10_gets_270 : decode cX10_gets 270 = .ok (.iadd, 1) := by decide +kernel
theorem dX10_gets_271 : decode cX10_gets 271 = .ok (.aload_n 0, 1) := by decide +kernel
theorem dX10_gets_272 : decode cX10_gets 272 = .ok (.getfield 16, 3) := by decide +kernel
theorem dX10_gets_275 : decode cX10_gets 275 = .ok (.iload 6, 2) := by decide +kernel
theorem dX10_gets_277 : decode cX10_gets 277 = .ok (.iaload, 1) := by decide +kernel
theorem dX10_gets_278 : decode cX10_gets 278 = .ok (.iastore, 1) := by decide +kernel
theorem dX10_gets_279 : decode cX10_gets 279 = .ok (.iinc 6 1, 3) := by decide +kernel
theorem dX10_gets_282 : decode cX10_gets 282 = .ok (.goto (-31), 3) := by decide +kernel
theorem dX10_gets_285 : decode cX10_gets 285 = .ok (.aload_n 0, 1) := by decide +kernel
theorem dX10_gets_286 : decode cX10_gets 286 = .ok (.getfield 7, 3) := by decide +kernel
theorem dX10_gets_289 : decode cX10_gets 289 = .ok (.bipush 9, 2) := by decide +kernel
theorem dX10_gets_291 : decode cX10_gets 291 = .ok (.dup2, 1) := by decide +kernel
theorem dX10_gets_292 : decode cX10_gets 292 = .ok (.iaload, 1) := by decide +kernel
theorem dX10_gets_293 : decode cX10_gets 293 = .ok (.iconst 1, 1) := by decide +kernel
theorem dX10_gets_294 : decode cX10_gets 294 = .ok (.iadd, 1) := by decide +kernel
theorem dX10_gets_295 : decode cX10_gets 295 = .ok (.iastore, 1) := by decide +kernel
theorem dX10_gets_296 : decode cX10_gets 296 = .ok (.return_, 1) := by decide +kernel
theorem dX10_goes_0 : decode cX10_goes 0 = .ok (.aload_n 0, 1) := by decide +kernel
theorem dX10_goes_1 : decode cX10_goes 1 = .ok (.getfield 7, 3) := by decide +kernel
theorem dX10_goes_4 : decode cX10_goes 4 = .ok (.bipush 9, 2) := by decide +kernel
theorem dX10_goes_6 : decode cX10_goes 6 = .ok (.dup2, 1) := by decide +kernel
theorem dX10_goes_7 : decode cX10_goes 7 = .ok (.iaload, 1) := by decide +kernel
theorem dX10_goes_8 : decode cX10_goes 8 = .ok (.iconst 1, 1) := by decide +kernel
theorem dX10_goes_9 : decode cX10_goes 9 = .ok (.isub, 1) := by decide +kernel
theorem dX10_goes_10 : decode cX10_goes 10 = .ok (.iastore, 1) := by decide +kernel
theorem dX10_goes_11 : decode cX10_goes 11 = .ok (.sipush 1700, 3) := by decide +kernel
theorem dX10_goes_14 : decode cX10_goes 14 = .ok (.bipush 42, 2) := by decide +kernel
theorem dX10_goes_16 : decode cX10_goes 16 = .ok (.iload_n 1, 1) := by decide +kernel
theorem dX10_goes_17 : decode cX10_goes 17 = .ok (.imul, 1) := by decide +kernel
theorem dX10_goes_18 : decode cX10_goes 18 = .ok (.iadd, 1) := by decide +kernel
theorem dX10_goes_19 : decode cX10_goes 19 = .ok (.istore_n 2, 1) := by decide +kernel
theorem dX10_goes_20 : decode cX10_goes 20 = .ok (.iload_n 2, 1) := by decide +kernel
theorem dX10_goes_21 : decode cX10_goes 21 = .ok (.sipush 1700, 3) := by decide +kernel
theorem dX10_goes_24 : decode cX10_goes 24 = .ok (.bipush 42, 2) := by decide +kernel
theorem dX10_goes_26 : decode cX10_goes 26 = .ok (.aload_n 0, 1) := by decide +kernel
theorem dX10_goes_27 : decode cX10_goes 27 = .ok (.getfield 7, 3) := by decide +kernel
theorem dX10_goes_30 : decode cX10_goes 30 = .ok (.bipush 9, 2) := by decide +kernel
theorem dX10_goes_32 : decode cX10_goes 32 = .ok (.iaload, 1) := by decide +kernel
theorem dX10_goes_33 : decode cX10_goes 33 = .ok (.imul, 1) := by decide +kernel
theorem dX10_goes_34 : decode cX10_goes 34 = .ok (.iadd, 1) := by decide +kernel
theorem dX10_goes_35 : decode cX10_goes 35 = .ok (.if_icmp .ge 24, 3) := by decide +kernel
theorem dX10_goes_38 : decode cX10_goes 38 = .ok (.aload_n 0, 1) := by decide +kernel
theorem dX10_goes_39 : decode cX10_goes 39 = .ok (.getfield 7, 3) := by decide +kernel
theorem dX10_goes_42 : decode cX10_goes 42 = .ok (.iload_n 2, 1) := by decide +kernel
theorem dX10_goes_43 : decode cX10_goes 43 = .ok (.aload_n 0, 1) := by decide +kernel
theorem dX10_goes_44 : decode cX10_goes 44 = .ok (.getfield 7, 3) := by decide +kernel
theorem dX10_goes_47 : decode cX10_goes 47 = .ok (.iload_n 2, 1) := by decide +kernel
theorem dX10_goes_48 : decode cX10_goes 48 = .ok (.bipush 42, 2) := by decide +kernel
theorem dX10_goes_50 : decode cX10_goes 50 = .ok (.iadd, 1) := by decide +kernel
theorem dX10_goes_51 : decode cX10_goes 51 = .ok (.iaload, 1) := by decide +kernel
theorem dX10_goes_52 : decode cX10_goes 52 = .ok (.iastore, 1) := by decide +kernel
theorem dX10_goes_53 : decode cX10_goes 53 = .ok (.iinc 2 1, 3) := by decide +kernel
theorem dX10_goes_56 : decode cX10_goes 56 = .ok (.goto (-36), 3) := by decide +kernel
theorem dX10_goes_59 : decode cX10_goes 59 = .ok (.return_, 1) := by decide +kernel
theorem dX10_earliest_0 : decode cX10_earliest 0 = .ok (.iconst (-1), 1) := by decide +kernel
theorem dX10_earliest_1 : decode cX10_earliest 1 = .ok (.istore_n 3, 1) := by decide +kernel
theorem dX10_earliest_2 : decode cX10_earliest 2 = .ok (.iconst 0, 1) := by decide +kernel
theorem dX10_earliest_3 : decode cX10_earliest 3 = .ok (.istore 4, 2) := by decide +kernel
theorem dX10_earliest_5 : decode cX10_earliest 5 = .ok (.iload 4, 2) := by decide +kernel
theorem dX10_earliest_7 : decode cX10_earliest 7 = .ok (.aload_n 0, 1) := by decide +kernel
theorem dX10_earliest_8 : decode cX10_earliest 8 = .ok (.getfield 7, 3) := by decide +kernel
theorem dX10_earliest_11 : decode cX10_earliest 11 = .ok (.bipush 9, 2) := by decide +kernel
theorem dX10_earliest_13 : decode cX10_earliest 13 = .ok (.iaload, 1) := by decide +kernel
theorem dX10_earliest_14 : decode cX10_earliest 14 = .ok (.if_icmp .ge 64, 3) := by decide +kernel
theorem dX10_earliest_17 : decode cX10_earliest 17 = .ok (.aload_n 0, 1) := by decide +kernel
theorem dX10_earliest_18 : decode cX10_earliest 18 = .ok (.getfield 7, 3) := by decide +kernel
theorem dX10_earliest_21 : decode cX10_earliest 21 = .ok (.sipush 1700, 3) := by decide +kernel
theorem dX10_earliest_24 : decode cX10_earliest 24 = .ok (.bipush 42, 2) := by decide +kernel
theorem dX10_earliest_26 : decode cX10_earliest 26 = .ok (.iload 4, 2) := by decide +kernel
theorem dX10_earliest_28 : decode cX10_earliest 28 = .ok (.imul, 1) := by decide +kernel
theorem dX10_earliest_29 : decode cX10_earliest 29 = .ok (.iadd, 1) := by decide +kernel
theorem dX10_earliest_30 : decode cX10_earliest 30 = .ok (.iaload, 1) := by decide +kernel
theorem dX10_earliest_31 : decode cX10_earliest 31 = .ok (.istore 5, 2) := by decide +kernel
theorem dX10_earliest_33 : decode cX10_earliest 33 = .ok (.iload 5, 2) := by decide +kernel
theorem dX10_earliest_35 : decode cX10_earliest 35 = .ok (.iload_n 1, 1) := by decide +kernel
theorem dX10_earliest_36 : decode cX10_earliest 36 = .ok (.iload_n 2, 1) := by decide +kernel
theorem dX10_earliest_37 : decode cX10_earliest 37 = .ok (.invokestatic 39, 3) := by decide +kernel
theorem dX10_earliest_40 : decode cX10_earliest 40 = .ok (.ifCond .eq 30, 3) := by decide +kernel
theorem dX10_earliest_43 : decode cX10_earliest 43 = .ok (.iload_n 3, 1) := by decide +kernel
theorem dX10_earliest_44 : decode cX10_earliest 44 = .ok (.ifCond .lt 21, 3) := by decide +kernel
theorem dX10_earliest_47 : decode cX10_earliest 47 = .ok (.iload 5, 2) := by decide +kernel
theorem dX10_earliest_49 : decode cX10_earliest 49 = .ok (.aload_n 0, 1) := by decide +kernel
theorem dX10_earliest_50 : decode cX10_earliest 50 = .ok (.getfield 7, 3) := by decide +kernel
theorem dX10_earliest_53 : decode cX10_earliest 53 = .ok (.sipush 1700, 3) := by decide +kernel
theorem dX10_earliest_56 : decode cX10_earliest 56 = .ok (.bipush 42, 2) := by decide +kernel
theorem dX10_earliest_58 : decode cX10_earliest 58 = .ok (.iload_n 3, 1) := by decide +kernel
theorem dX10_earliest_59 : decode cX10_earliest 59 = .ok (.imul, 1) := by decide +kernel
theorem dX10_earliest_60 : decode cX10_earliest 60 = .ok (.iadd, 1) := by decide +kernel
theorem dX10_earliest_61 : decode cX10_earliest 61 = .ok (.iaload, 1) := by decide +kernel
theorem dX10_earliest_62 : decode cX10_earliest 62 = .ok (.if_icmp .ge 8, 3) := by decide +kernel
theorem dX10_earliest_65 : decode cX10_earliest 65 = .ok (.iload 4, 2) := by decide +kernel
theorem dX10_earliest_67 : decode cX10_earliest 67 = .ok (.goto 4, 3) := by decide +kernel
theorem dX10_earliest_70 : decode cX10_earliest 70 = .ok (.iload_n 3, 1) := by decide +kernel
theorem dX10_earliest_71 : decode cX10_earliest 71 = .ok (.istore_n 3, 1) := by decide +kernel
theorem dX10_earliest_72 : decode cX10_earliest 72 = .ok (.iinc 4 1, 3) := by decide +kernel
theorem dX10_earliest_75 : decode cX10_earliest 75 = .ok (.goto (-70), 3) := by decide +kernel
theorem dX10_earliest_78 : decode cX10_earliest 78 = .ok (.iload_n 3, 1) := by decide +kernel
theorem dX10_earliest_79 : decode cX10_earliest 79 = .ok (.ireturn, 1) := by decide +kernel
theorem dX10_fits_0 : decode cX10_fits 0 = .ok (.sipush 1700, 3) := by decide +kernel
theorem dX10_fits_3 : decode cX10_fits 3 = .ok (.bipush 42, 2) := by decide +kernel
theorem dX10_fits_5 : decode cX10_fits 5 = .ok (.iload_n 1, 1) := by decide +kernel
theorem dX10_fits_6 : decode cX10_fits 6 = .ok (.imul, 1) := by decide +kernel
theorem dX10_fits_7 : decode cX10_fits 7 = .ok (.iadd, 1) := by decide +kernel
theorem dX10_fits_8 : decode cX10_fits 8 = .ok (.iconst 3, 1) := by decide +kernel
theorem dX10_fits_9 : decode cX10_fits 9 = .ok (.iadd, 1) := by decide +kernel
theorem dX10_fits_10 : decode cX10_fits 10 = .ok (.istore_n 2, 1) := by decide +kernel
theorem dX10_fits_11 : decode cX10_fits 11 = .ok (.aload_n 0, 1) := by decide +kernel
theorem dX10_fits_12 : decode cX10_fits 12 = .ok (.getfield 7, 3) := by decide +kernel
theorem dX10_fits_15 : decode cX10_fits 15 = .ok (.iload_n 2, 1) := by decide +kernel
theorem dX10_fits_16 : decode cX10_fits 16 = .ok (.iconst 2, 1) := by decide +kernel
theorem dX10_fits_17 : decode cX10_fits 17 = .ok (.isub, 1) := by decide +kernel
theorem dX10_fits_18 : decode cX10_fits 18 = .ok (.iaload, 1) := by decide +kernel
theorem dX10_fits_19 : decode cX10_fits 19 = .ok (.istore_n 3, 1) := by decide +kernel
theorem dX10_fits_20 : decode cX10_fits 20 = .ok (.ldc 25, 2) := by decide +kernel
theorem dX10_fits_22 : decode cX10_fits 22 = .ok (.istore 4, 2) := by decide +kernel
theorem dX10_fits_24 : decode cX10_fits 24 = .ok (.iconst 0, 1) := by decide +kernel
theorem dX10_fits_25 : decode cX10_fits 25 = .ok (.istore 5, 2) := by decide +kernel
theorem dX10_fits_27 : decode cX10_fits 27 = .ok (.iload 5, 2) := by decide +kernel
theorem dX10_fits_29 : decode cX10_fits 29 = .ok (.iload_n 3, 1) := by decide +kernel
theorem dX10_fits_30 : decode cX10_fits 30 = .ok (.if_icmp .ge 25, 3) := by decide +kernel
theorem dX10_fits_33 : decode cX10_fits 33 = .ok (.iload 4, 2) := by decide +kernel
theorem dX10_fits_35 : decode cX10_fits 35 = .ok (.aload_n 0, 1) := by decide +kernel
theorem dX10_fits_36 : decode cX10_fits 36 = .ok (.getfield 7, 3) := by decide +kernel
theorem dX10_fits_39 : decode cX10_fits 39 = .ok (.iload_n 2, 1) := by decide +kernel
theorem dX10_fits_40 : decode cX10_fits 40 = .ok (.iload 5, 2) := by decide +kernel
theorem dX10_fits_42 : decode cX10_fits 42 = .ok (.iadd, 1) := by decide +kernel
theorem dX10_fits_43 : decode cX10_fits 43 = .ok (.iaload, 1) := by decide +kernel
theorem dX10_fits_44 : decode cX10_fits 44 = .ok (.invokestatic 125, 3) := by decide +kernel
theorem dX10_fits_47 : decode cX10_fits 47 = .ok (.istore 4, 2) := by decide +kernel
theorem dX10_fits_49 : decode cX10_fits 49 = .ok (.iinc 5 1, 3) := by decide +kernel
theorem dX10_fits_52 : decode cX10_fits 52 = .ok (.goto (-25), 3) := by decide +kernel
theorem dX10_fits_55 : decode cX10_fits 55 = .ok (.iload 4, 2) := by decide +kernel
theorem dX10_fits_57 : decode cX10_fits 57 = .ok (.ifCond .ne 16, 3) := by decide +kernel
theorem dX10_fits_60 : decode cX10_fits 60 = .ok (.aload_n 0, 1) := by decide +kernel
theorem dX10_fits_61 : decode cX10_fits 61 = .ok (.getfield 7, 3) := by decide +kernel
theorem dX10_fits_64 : decode cX10_fits 64 = .ok (.iload_n 2, 1) := by decide +kernel
theorem dX10_fits_65 : decode cX10_fits 65 = .ok (.iaload, 1) := by decide +kernel
theorem dX10_fits_66 : decode cX10_fits 66 = .ok (.aload_n 0, 1) := by decide +kernel
theorem dX10_fits_67 : decode cX10_fits 67 = .ok (.getfield 91, 3) := by decide +kernel
theorem dX10_fits_70 : decode cX10_fits 70 = .ok (.if_icmp .eq 5, 3) := by decide +kernel
theorem dX10_fits_73 : decode cX10_fits 73 = .ok (.iconst 0, 1) := by decide +kernel
theorem dX10_fits_74 : decode cX10_fits 74 = .ok (.ireturn, 1) := by decide +kernel
theorem dX10_fits_75 : decode cX10_fits 75 = .ok (.aload_n 0, 1) := by decide +kernel
theorem dX10_fits_76 : decode cX10_fits 76 = .ok (.getfield 7, 3) := by decide +kernel
theorem dX10_fits_79 : decode cX10_fits 79 = .ok (.iload_n 2, 1) := by decide +kernel
theorem dX10_fits_80 : decode cX10_fits 80 = .ok (.iconst 1, 1) := by decide +kernel
theorem dX10_fits_81 : decode cX10_fits 81 = .ok (.iadd, 1) := by decide +kernel
theorem dX10_fits_82 : decode cX10_fits 82 = .ok (.iaload, 1) := by decide +kernel
theorem dX10_fits_83 : decode cX10_fits 83 = .ok (.aload_n 0, 1) := by decide +kernel
theorem dX10_fits_84 : decode cX10_fits 84 = .ok (.invokevirtual 128, 3) := by decide +kernel
theorem dX10_fits_87 : decode cX10_fits 87 = .ok (.sipush 128, 3) := by decide +kernel
theorem dX10_fits_90 : decode cX10_fits 90 = .ok (.iadd, 1) := by decide +kernel
theorem dX10_fits_91 : decode cX10_fits 91 = .ok (.if_icmp .ne 5, 3) := by decide +kernel
theorem dX10_fits_94 : decode cX10_fits 94 = .ok (.iconst 1, 1) := by decide +kernel
theorem dX10_fits_95 : decode cX10_fits 95 = .ok (.ireturn, 1) := by decide +kernel
theorem dX10_fits_96 : decode cX10_fits 96 = .ok (.aload_n 0, 1) := by decide +kernel
theorem dX10_fits_97 : decode cX10_fits 97 = .ok (.getfield 7, 3) := by decide +kernel
theorem dX10_fits_100 : decode cX10_fits 100 = .ok (.iload_n 2, 1) := by decide +kernel
theorem dX10_fits_101 : decode cX10_fits 101 = .ok (.iconst 1, 1) := by decide +kernel
theorem dX10_fits_102 : decode cX10_fits 102 = .ok (.iadd, 1) := by decide +kernel
theorem dX10_fits_103 : decode cX10_fits 103 = .ok (.iaload, 1) := by decide +kernel
theorem dX10_fits_104 : decode cX10_fits 104 = .ok (.aload_n 0, 1) := by decide +kernel
theorem dX10_fits_105 : decode cX10_fits 105 = .ok (.invokevirtual 128, 3) := by decide +kernel
theorem dX10_fits_108 : decode cX10_fits 108 = .ok (.if_icmp .eq 5, 3) := by decide +kernel
theorem dX10_fits_111 : decode cX10_fits 111 = .ok (.iconst 0, 1) := by decide +kernel
theorem dX10_fits_112 : decode cX10_fits 112 = .ok (.ireturn, 1) := by decide +kernel
theorem dX10_fits_113 : decode cX10_fits 113 = .ok (.aload_n 0, 1) := by decide +kernel
theorem dX10_fits_114 : decode cX10_fits 114 = .ok (.getfield 101, 3) := by decide +kernel
theorem dX10_fits_117 : decode cX10_fits 117 = .ok (.ifCond .ne 31, 3) := by decide +kernel
theorem dX10_fits_120 : decode cX10_fits 120 = .ok (.aload_n 0, 1) := by decide +kernel
theorem dX10_fits_121 : decode cX10_fits 121 = .ok (.getfield 7, 3) := by decide +kernel
theorem dX10_fits_124 : decode cX10_fits 124 = .ok (.iload_n 2, 1) := by decide +kernel
theorem dX10_fits_125 : decode cX10_fits 125 = .ok (.iconst 2, 1) := by decide +kernel
theorem dX10_fits_126 : decode cX10_fits 126 = .ok (.iadd, 1) := by decide +kernel
theorem dX10_fits_127 : decode cX10_fits 127 = .ok (.iaload, 1) := by decide +kernel
theorem dX10_fits_128 : decode cX10_fits 128 = .ok (.iconst 2, 1) := by decide +kernel
theorem dX10_fits_129 : decode cX10_fits 129 = .ok (.aload_n 0, 1) := by decide +kernel
theorem dX10_fits_130 : decode cX10_fits 130 = .ok (.getfield 111, 3) := by decide +kernel
theorem dX10_fits_133 : decode cX10_fits 133 = .ok (.aload_n 0, 1) := by decide +kernel
theorem dX10_fits_134 : decode cX10_fits 134 = .ok (.getfield 108, 3) := by decide +kernel
theorem dX10_fits_137 : decode cX10_fits 137 = .ok (.isub, 1) := by decide +kernel
theorem dX10_fits_138 : decode cX10_fits 138 = .ok (.imul, 1) := by decide +kernel
theorem dX10_fits_139 : decode cX10_fits 139 = .ok (.if_icmp .ne 7, 3) := by decide +kernel
theorem dX10_fits_142 : decode cX10_fits 142 = .ok (.iconst 1, 1) := by decide +kernel
theorem dX10_fits_143 : decode cX10_fits 143 = .ok (.goto 4, 3) := by decide +kernel
theorem dX10_fits_146 : decode cX10_fits 146 = .ok (.iconst 0, 1) := by decide +kernel
theorem dX10_fits_147 : decode cX10_fits 147 = .ok (.ireturn, 1) := by decide +kernel
theorem dX10_fits_148 : decode cX10_fits 148 = .ok (.aload_n 0, 1) := by decide +kernel
theorem dX10_fits_149 : decode cX10_fits 149 = .ok (.invokevirtual 128, 3) := by decide +kernel
theorem dX10_fits_152 : decode cX10_fits 152 = .ok (.bipush 6, 2) := by decide +kernel
theorem dX10_fits_154 : decode cX10_fits 154 = .ok (.if_icmp .ne 12, 3) := by decide +kernel
theorem dX10_fits_157 : decode cX10_fits 157 = .ok (.aload_n 0, 1) := by decide +kernel
theorem dX10_fits_158 : decode cX10_fits 158 = .ok (.getfield 19, 3) := by decide +kernel
theorem dX10_fits_161 : decode cX10_fits 161 = .ok (.iconst 0, 1) := by decide +kernel
theorem dX10_fits_162 : decode cX10_fits 162 = .ok (.iaload, 1) := by decide +kernel
theorem dX10_fits_163 : decode cX10_fits 163 = .ok (.goto 12, 3) := by decide +kernel
theorem dX10_fits_166 : decode cX10_fits 166 = .ok (.aload_n 0, 1) := by decide +kernel
theorem dX10_fits_167 : decode cX10_fits 167 = .ok (.getfield 111, 3) := by decide +kernel
theorem dX10_fits_170 : decode cX10_fits 170 = .ok (.aload_n 0, 1) := by decide +kernel
theorem dX10_fits_171 : decode cX10_fits 171 = .ok (.getfield 108, 3) := by decide +kernel
theorem dX10_fits_174 : decode cX10_fits 174 = .ok (.isub, 1) := by decide +kernel
theorem dX10_fits_175 : decode cX10_fits 175 = .ok (.istore 5, 2) := by decide +kernel
theorem dX10_fits_177 : decode cX10_fits 177 = .ok (.sipush 256, 3) := by decide +kernel
theorem dX10_fits_180 : decode cX10_fits 180 = .ok (.aload_n 0, 1) := by decide +kernel
theorem dX10_fits_181 : decode cX10_fits 181 = .ok (.getfield 7, 3) := by decide +kernel
theorem dX10_fits_184 : decode cX10_fits 184 = .ok (.iload_n 2, 1) := by decide +kernel
theorem dX10_fits_185 : decode cX10_fits 185 = .ok (.iconst 2, 1) := by decide +kernel
theorem dX10_fits_186 : decode cX10_fits 186 = .ok (.iadd, 1) := by decide +kernel
theorem dX10_fits_187 : decode cX10_fits 187 = .ok (.iaload, 1) := by decide +kernel
theorem dX10_fits_188 : decode cX10_fits 188 = .ok (.imul, 1) := by decide +kernel
theorem dX10_fits_189 : decode cX10_fits 189 = .ok (.aload_n 0, 1) := by decide +kernel
theorem dX10_fits_190 : decode cX10_fits 190 = .ok (.getfield 7, 3) := by decide +kernel
theorem dX10_fits_193 : decode cX10_fits 193 = .ok (.iload_n 2, 1) := by decide +kernel
theorem dX10_fits_194 : decode cX10_fits 194 = .ok (.iconst 3, 1) := by decide +kernel
theorem dX10_fits_195 : decode cX10_fits 195 = .ok (.iadd, 1) := by decide +kernel
theorem dX10_fits_196 : decode cX10_fits 196 = .ok (.iaload, 1) := by decide +kernel
theorem dX10_fits_197 : decode cX10_fits 197 = .ok (.iadd, 1) := by decide +kernel
theorem dX10_fits_198 : decode cX10_fits 198 = .ok (.aload_n 0, 1) := by decide +kernel
theorem dX10_fits_199 : decode cX10_fits 199 = .ok (.getfield 108, 3) := by decide +kernel
theorem dX10_fits_202 : decode cX10_fits 202 = .ok (.if_icmp .ne 33, 3) := by decide +kernel
theorem dX10_fits_205 : decode cX10_fits 205 = .ok (.sipush 256, 3) := by decide +kernel
theorem dX10_fits_208 : decode cX10_fits 208 = .ok (.aload_n 0, 1) := by decide +kernel
theorem dX10_fits_209 : decode cX10_fits 209 = .ok (.getfield 7, 3) := by decide +kernel
theorem dX10_fits_212 : decode cX10_fits 212 = .ok (.iload_n 2, 1) := by decide +kernel
theorem dX10_fits_213 : decode cX10_fits 213 = .ok (.iconst 4, 1) := by decide +kernel
theorem dX10_fits_214 : decode cX10_fits 214 = .ok (.iadd, 1) := by decide +kernel
theorem dX10_fits_215 : decode cX10_fits 215 = .ok (.iaload, 1) := by decide +kernel
theorem dX10_fits_216 : decode cX10_fits 216 = .ok (.imul, 1) := by decide +kernel
theorem dX10_fits_217 : decode cX10_fits 217 = .ok (.aload_n 0, 1) := by decide +kernel
theorem dX10_fits_218 : decode cX10_fits 218 = .ok (.getfield 7, 3) := by decide +kernel
theorem dX10_fits_221 : decode cX10_fits 221 = .ok (.iload_n 2, 1) := by decide +kernel
theorem dX10_fits_222 : decode cX10_fits 222 = .ok (.iconst 5, 1) := by decide +kernel
theorem dX10_fits_223 : decode cX10_fits 223 = .ok (.iadd, 1) := by decide +kernel
theorem dX10_fits_224 : decode cX10_fits 224 = .ok (.iaload, 1) := by decide +kernel
theorem dX10_fits_225 : decode cX10_fits 225 = .ok (.iadd, 1) := by decide +kernel
theorem dX10_fits_226 : decode cX10_fits 226 = .ok (.iload 5, 2) := by decide +kernel
theorem dX10_fits_228 : decode cX10_fits 228 = .ok (.if_icmp .ne 7, 3) := by decide +kernel
theorem dX10_fits_231 : decode cX10_fits 231 = .ok (.iconst 1, 1) := by decide +kernel
theorem dX10_fits_232 : decode cX10_fits 232 = .ok (.goto 4, 3) := by decide +kernel
theorem dX10_fits_235 : decode cX10_fits 235 = .ok (.iconst 0, 1) := by decide +kernel
theorem dX10_fits_236 : decode cX10_fits 236 = .ok (.ireturn, 1) := by decide +kernel
theorem dX10_attempts_0 : decode cX10_attempts 0 = .ok (.aload_n 0, 1) := by decide +kernel
theorem dX10_attempts_1 : decode cX10_attempts 1 = .ok (.invokevirtual 147, 3) := by decide +kernel
theorem dX10_attempts_4 : decode cX10_attempts 4 = .ok (.aload_n 0, 1) := by decide +kernel
theorem dX10_attempts_5 : decode cX10_attempts 5 = .ok (.getfield 7, 3) := by decide +kernel
theorem dX10_attempts_8 : decode cX10_attempts 8 = .ok (.bipush 10, 2) := by decide +kernel
theorem dX10_attempts_10 : decode cX10_attempts 10 = .ok (.dup2, 1) := by decide +kernel
theorem dX10_attempts_11 : decode cX10_attempts 11 = .ok (.iaload, 1) := by decide +kernel
theorem dX10_attempts_12 : decode cX10_attempts 12 = .ok (.iconst 1, 1) := by decide +kernel
theorem dX10_attempts_13 : decode cX10_attempts 13 = .ok (.iadd, 1) := by decide +kernel
theorem dX10_attempts_14 : decode cX10_attempts 14 = .ok (.iastore, 1) := by decide +kernel
theorem dX10_attempts_15 : decode cX10_attempts 15 = .ok (.aload_n 0, 1) := by decide +kernel
theorem dX10_attempts_16 : decode cX10_attempts 16 = .ok (.getfield 7, 3) := by decide +kernel
theorem dX10_attempts_19 : decode cX10_attempts 19 = .ok (.iconst 0, 1) := by decide +kernel
theorem dX10_attempts_20 : decode cX10_attempts 20 = .ok (.dup2, 1) := by decide +kernel
theorem dX10_attempts_21 : decode cX10_attempts 21 = .ok (.iaload, 1) := by decide +kernel
theorem dX10_attempts_22 : decode cX10_attempts 22 = .ok (.iconst 4, 1) := by decide +kernel
theorem dX10_attempts_23 : decode cX10_attempts 23 = .ok (.aload_n 0, 1) := by decide +kernel
theorem dX10_attempts_24 : decode cX10_attempts 24 = .ok (.getfield 118, 3) := by decide +kernel
theorem dX10_attempts_27 : decode cX10_attempts 27 = .ok (.iadd, 1) := by decide +kernel
theorem dX10_attempts_28 : decode cX10_attempts 28 = .ok (.iadd, 1) := by decide +kernel
theorem dX10_attempts_29 : decode cX10_attempts 29 = .ok (.iastore, 1) := by decide +kernel
theorem dX10_attempts_30 : decode cX10_attempts 30 = .ok (.aload_n 0, 1) := by decide +kernel
theorem dX10_attempts_31 : decode cX10_attempts 31 = .ok (.getfield 7, 3) := by decide +kernel
theorem dX10_attempts_34 : decode cX10_attempts 34 = .ok (.iconst 0, 1) := by decide +kernel
theorem dX10_attempts_35 : decode cX10_attempts 35 = .ok (.iaload, 1) := by decide +kernel
theorem dX10_attempts_36 : decode cX10_attempts 36 = .ok (.istore_n 1, 1) := by decide +kernel
theorem dX10_attempts_37 : decode cX10_attempts 37 = .ok (.aload_n 0, 1) := by decide +kernel
theorem dX10_attempts_38 : decode cX10_attempts 38 = .ok (.invokevirtual 150, 3) := by decide +kernel
theorem dX10_attempts_41 : decode cX10_attempts 41 = .ok (.aload_n 0, 1) := by decide +kernel
theorem dX10_attempts_42 : decode cX10_attempts 42 = .ok (.getfield 7, 3) := by decide +kernel
theorem dX10_attempts_45 : decode cX10_attempts 45 = .ok (.bipush 9, 2) := by decide +kernel
theorem dX10_attempts_47 : decode cX10_attempts 47 = .ok (.iaload, 1) := by decide +kernel
theorem dX10_attempts_48 : decode cX10_attempts 48 = .ok (.iconst 1, 1) := by decide +kernel
theorem dX10_attempts_49 : decode cX10_attempts 49 = .ok (.isub, 1) := by decide +kernel
theorem dX10_attempts_50 : decode cX10_attempts 50 = .ok (.istore_n 2, 1) := by decide +kernel
theorem dX10_attempts_51 : decode cX10_attempts 51 = .ok (.iload_n 2, 1) := by decide +kernel
theorem dX10_attempts_52 : decode cX10_attempts 52 = .ok (.ifCond .lt 31, 3) := by decide +kernel
theorem dX10_attempts_55 : decode cX10_attempts 55 = .ok (.aload_n 0, 1) := by decide +kernel
theorem dX10_attempts_56 : decode cX10_attempts 56 = .ok (.getfield 7, 3) := by decide +kernel
theorem dX10_attempts_59 : decode cX10_attempts 59 = .ok (.sipush 1700, 3) := by decide +kernel
theorem dX10_attempts_62 : decode cX10_attempts 62 = .ok (.bipush 42, 2) := by decide +kernel
theorem dX10_attempts_64 : decode cX10_attempts 64 = .ok (.iload_n 2, 1) := by decide +kernel
theorem dX10_attempts_65 : decode cX10_attempts 65 = .ok (.imul, 1) := by decide +kernel
theorem dX10_attempts_66 : decode cX10_attempts 66 = .ok (.iadd, 1) := by decide +kernel
theorem dX10_attempts_67 : decode cX10_attempts 67 = .ok (.iaload, 1) := by decide +kernel
theorem dX10_attempts_68 : decode cX10_attempts 68 = .ok (.iload_n 1, 1) := by decide +kernel
theorem dX10_attempts_69 : decode cX10_attempts 69 = .ok (.if_icmp .ge 8, 3) := by decide +kernel
theorem dX10_attempts_72 : decode cX10_attempts 72 = .ok (.aload_n 0, 1) := by decide +kernel
theorem dX10_attempts_73 : decode cX10_attempts 73 = .ok (.iload_n 2, 1) := by decide +kernel
theorem dX10_attempts_74 : decode cX10_attempts 74 = .ok (.invokevirtual 153, 3) := by decide +kernel
theorem dX10_attempts_77 : decode cX10_attempts 77 = .ok (.iinc 2 (-1), 3) := by decide +kernel
theorem dX10_attempts_80 : decode cX10_attempts 80 = .ok (.goto (-29), 3) := by decide +kernel
theorem dX10_attempts_83 : decode cX10_attempts 83 = .ok (.aload_n 0, 1) := by decide +kernel
theorem dX10_attempts_84 : decode cX10_attempts 84 = .ok (.iload_n 1, 1) := by decide +kernel
theorem dX10_attempts_85 : decode cX10_attempts 85 = .ok (.iload_n 1, 1) := by decide +kernel
theorem dX10_attempts_86 : decode cX10_attempts 86 = .ok (.aload_n 0, 1) := by decide +kernel
theorem dX10_attempts_87 : decode cX10_attempts 87 = .ok (.getfield 7, 3) := by decide +kernel
theorem dX10_attempts_90 : decode cX10_attempts 90 = .ok (.iconst 2, 1) := by decide +kernel
theorem dX10_attempts_91 : decode cX10_attempts 91 = .ok (.iaload, 1) := by decide +kernel
theorem dX10_attempts_92 : decode cX10_attempts 92 = .ok (.iadd, 1) := by decide +kernel
theorem dX10_attempts_93 : decode cX10_attempts 93 = .ok (.invokevirtual 156, 3) := by decide +kernel
theorem dX10_attempts_96 : decode cX10_attempts 96 = .ok (.istore_n 2, 1) := by decide +kernel
theorem dX10_attempts_97 : decode cX10_attempts 97 = .ok (.iload_n 2, 1) := by decide +kernel
theorem dX10_attempts_98 : decode cX10_attempts 98 = .ok (.ifCond .lt 145, 3) := by decide +kernel
theorem dX10_attempts_101 : decode cX10_attempts 101 = .ok (.aload_n 0, 1) := by decide +kernel
theorem dX10_attempts_102 : decode cX10_attempts 102 = .ok (.iload_n 2, 1) := by decide +kernel
theorem dX10_attempts_103 : decode cX10_attempts 103 = .ok (.invokevirtual 159, 3) := by decide +kernel
theorem dX10_attempts_106 : decode cX10_attempts 106 = .ok (.istore_n 3, 1) := by decide +kernel
theorem dX10_attempts_107 : decode cX10_attempts 107 = .ok (.iconst 0, 1) := by decide +kernel
theorem dX10_attempts_108 : decode cX10_attempts 108 = .ok (.istore 4, 2) := by decide +kernel
theorem dX10_attempts_110 : decode cX10_attempts 110 = .ok (.iload 4, 2) := by decide +kernel
theorem dX10_attempts_112 : decode cX10_attempts 112 = .ok (.bipush 42, 2) := by decide +kernel
theorem dX10_attempts_114 : decode cX10_attempts 114 = .ok (.if_icmp .ge 32, 3) := by decide +kernel
theorem dX10_attempts_117 : decode cX10_attempts 117 = .ok (.aload_n 0, 1) := by decide +kernel
theorem dX10_attempts_118 : decode cX10_attempts 118 = .ok (.getfield 22, 3) := by decide +kernel
theorem dX10_attempts_121 : decode cX10_attempts 121 = .ok (.iload 4, 2) := by decide +kernel
theorem dX10_attempts_123 : decode cX10_attempts 123 = .ok (.aload_n 0, 1) := by decide +kernel
theorem dX10_attempts_124 : decode cX10_attempts 124 = .ok (.getfield 7, 3) := by decide +kernel
theorem dX10_attempts_127 : decode cX10_attempts 127 = .ok (.sipush 1700, 3) := by decide +kernel
theorem dX10_attempts_130 : decode cX10_attempts 130 = .ok (.bipush 42, 2) := by decide +kernel
theorem dX10_attempts_132 : decode cX10_attempts 132 = .ok (.iload_n 2, 1) := by decide +kernel
theorem dX10_attempts_133 : decode cX10_attempts 133 = .ok (.imul, 1) := by decide +kernel
theorem dX10_attempts_134 : decode cX10_attempts 134 = .ok (.iadd, 1) := by decide +kernel
theorem dX10_attempts_135 : decode cX10_attempts 135 = .ok (.iload 4, 2) := by decide +kernel
theorem dX10_attempts_137 : decode cX10_attempts 137 = .ok (.iadd, 1) := by decide +kernel
theorem dX10_attempts_138 : decode cX10_attempts 138 = .ok (.iaload, 1) := by decide +kernel
theorem dX10_attempts_139 : decode cX10_attempts 139 = .ok (.iastore, 1) := by decide +kernel
theorem dX10_attempts_140 : decode cX10_attempts 140 = .ok (.iinc 4 1, 3) := by decide +kernel
theorem dX10_attempts_143 : decode cX10_attempts 143 = .ok (.goto (-33), 3) := by decide +kernel
theorem dX10_attempts_146 : decode cX10_attempts 146 = .ok (.aload_n 0, 1) := by decide +kernel
theorem dX10_attempts_147 : decode cX10_attempts 147 = .ok (.iload_n 2, 1) := by decide +kernel
theorem dX10_attempts_148 : decode cX10_attempts 148 = .ok (.invokevirtual 153, 3) := by decide +kernel
theorem dX10_attempts_151 : decode cX10_attempts 151 = .ok (.iload_n 3, 1) := by decide +kernel
theorem dX10_attempts_152 : decode cX10_attempts 152 = .ok (.ifCond .eq 74, 3) := by decide +kernel
theorem dX10_attempts_155 : decode cX10_attempts 155 = .ok (.aload_n 0, 1) := by decide +kernel
theorem dX10_attempts_156 : decode cX10_attempts 156 = .ok (.getfield 7, 3) := by decide +kernel
theorem dX10_attempts_159 : decode cX10_attempts 159 = .ok (.iconst 0, 1) := by decide +kernel
theorem dX10_attempts_160 : decode cX10_attempts 160 = .ok (.aload_n 0, 1) := by decide +kernel
theorem dX10_attempts_161 : decode cX10_attempts 161 = .ok (.getfield 22, 3) := by decide +kernel
theorem dX10_attempts_164 : decode cX10_attempts 164 = .ok (.iconst 0, 1) := by decide +kernel
theorem dX10_attempts_165 : decode cX10_attempts 165 = .ok (.iaload, 1) := by decide +kernel
theorem dX10_attempts_166 : decode cX10_attempts 166 = .ok (.aload_n 0, 1) := by decide +kernel
theorem dX10_attempts_167 : decode cX10_attempts 167 = .ok (.getfield 22, 3) := by decide +kernel
theorem dX10_attempts_170 : decode cX10_attempts 170 = .ok (.iconst 1, 1) := by decide +kernel
theorem dX10_attempts_171 : decode cX10_attempts 171 = .ok (.iaload, 1) := by decide +kernel
theorem dX10_attempts_172 : decode cX10_attempts 172 = .ok (.iadd, 1) := by decide +kernel
theorem dX10_attempts_173 : decode cX10_attempts 173 = .ok (.iastore, 1) := by decide +kernel
theorem dX10_attempts_174 : decode cX10_attempts 174 = .ok (.aload_n 0, 1) := by decide +kernel
theorem dX10_attempts_175 : decode cX10_attempts 175 = .ok (.getfield 7, 3) := by decide +kernel
theorem dX10_attempts_178 : decode cX10_attempts 178 = .ok (.bipush 11, 2) := by decide +kernel
theorem dX10_attempts_180 : decode cX10_attempts 180 = .ok (.dup2, 1) := by decide +kernel
theorem dX10_attempts_181 : decode cX10_attempts 181 = .ok (.iaload, 1) := by decide +kernel
theorem dX10_attempts_182 : decode cX10_attempts 182 = .ok (.iconst 1, 1) := by decide +kernel
theorem dX10_attempts_183 : decode cX10_attempts 183 = .ok (.iadd, 1) := by decide +kernel
theorem dX10_attempts_184 : decode cX10_attempts 184 = .ok (.iastore, 1) := by decide +kernel
theorem dX10_attempts_185 : decode cX10_attempts 185 = .ok (.aload_n 0, 1) := by decide +kernel
theorem dX10_attempts_186 : decode cX10_attempts 186 = .ok (.getfield 7, 3) := by decide +kernel
theorem dX10_attempts_189 : decode cX10_attempts 189 = .ok (.bipush 12, 2) := by decide +kernel
theorem dX10_attempts_191 : decode cX10_attempts 191 = .ok (.dup2, 1) := by decide +kernel
theorem dX10_attempts_192 : decode cX10_attempts 192 = .ok (.iaload, 1) := by decide +kernel
theorem dX10_attempts_193 : decode cX10_attempts 193 = .ok (.aload_n 0, 1) := by decide +kernel
theorem dX10_attempts_194 : decode cX10_attempts 194 = .ok (.getfield 22, 3) := by decide +kernel
theorem dX10_attempts_197 : decode cX10_attempts 197 = .ok (.iconst 2, 1) := by decide +kernel
theorem dX10_attempts_198 : decode cX10_attempts 198 = .ok (.iaload, 1) := by decide +kernel
theorem dX10_attempts_199 : decode cX10_attempts 199 = .ok (.aload_n 0, 1) := by decide +kernel
theorem dX10_attempts_200 : decode cX10_attempts 200 = .ok (.getfield 7, 3) := by decide +kernel
theorem dX10_attempts_203 : decode cX10_attempts 203 = .ok (.bipush 7, 2) := by decide +kernel
theorem dX10_attempts_205 : decode cX10_attempts 205 = .ok (.iaload, 1) := by decide +kernel
theorem dX10_attempts_206 : decode cX10_attempts 206 = .ok (.if_icmp .eq 7, 3) := by decide +kernel
theorem dX10_attempts_209 : decode cX10_attempts 209 = .ok (.iconst 1, 1) := by decide +kernel
theorem dX10_attempts_210 : decode cX10_attempts 210 = .ok (.goto 4, 3) := by decide +kernel
theorem dX10_attempts_213 : decode cX10_attempts 213 = .ok (.iconst 0, 1) := by decide +kernel
theorem dX10_attempts_214 : decode cX10_attempts 214 = .ok (.iadd, 1) := by decide +kernel
theorem dX10_attempts_215 : decode cX10_attempts 215 = .ok (.iastore, 1) := by decide +kernel
theorem dX10_attempts_216 : decode cX10_attempts 216 = .ok (.aload_n 0, 1) := by decide +kernel
theorem dX10_attempts_217 : decode cX10_attempts 217 = .ok (.getfield 7, 3) := by decide +kernel
theorem dX10_attempts_220 : decode cX10_attempts 220 = .ok (.bipush 8, 2) := by decide +kernel
theorem dX10_attempts_222 : decode cX10_attempts 222 = .ok (.iconst 0, 1) := by decide +kernel
theorem dX10_attempts_223 : decode cX10_attempts 223 = .ok (.iastore, 1) := by decide +kernel
theorem dX10_attempts_224 : decode cX10_attempts 224 = .ok (.iconst 1, 1) := by decide +kernel
theorem dX10_attempts_225 : decode cX10_attempts 225 = .ok (.ireturn, 1) := by decide +kernel
theorem dX10_attempts_226 : decode cX10_attempts 226 = .ok (.aload_n 0, 1) := by decide +kernel
theorem dX10_attempts_227 : decode cX10_attempts 227 = .ok (.iload_n 1, 1) := by decide +kernel
theorem dX10_attempts_228 : decode cX10_attempts 228 = .ok (.iload_n 1, 1) := by decide +kernel
theorem dX10_attempts_229 : decode cX10_attempts 229 = .ok (.aload_n 0, 1) := by decide +kernel
theorem dX10_attempts_230 : decode cX10_attempts 230 = .ok (.getfield 7, 3) := by decide +kernel
theorem dX10_attempts_233 : decode cX10_attempts 233 = .ok (.iconst 2, 1) := by decide +kernel
theorem dX10_attempts_234 : decode cX10_attempts 234 = .ok (.iaload, 1) := by decide +kernel
theorem dX10_attempts_235 : decode cX10_attempts 235 = .ok (.iadd, 1) := by decide +kernel
theorem dX10_attempts_236 : decode cX10_attempts 236 = .ok (.invokevirtual 156, 3) := by decide +kernel
theorem dX10_attempts_239 : decode cX10_attempts 239 = .ok (.istore_n 2, 1) := by decide +kernel
theorem dX10_attempts_240 : decode cX10_attempts 240 = .ok (.goto (-143), 3) := by decide +kernel
theorem dX10_attempts_243 : decode cX10_attempts 243 = .ok (.aload_n 0, 1) := by decide +kernel
theorem dX10_attempts_244 : decode cX10_attempts 244 = .ok (.getfield 7, 3) := by decide +kernel
theorem dX10_attempts_247 : decode cX10_attempts 247 = .ok (.iconst 0, 1) := by decide +kernel
theorem dX10_attempts_248 : decode cX10_attempts 248 = .ok (.iload_n 1, 1) := by decide +kernel
theorem dX10_attempts_249 : decode cX10_attempts 249 = .ok (.aload_n 0, 1) := by decide +kernel
theorem dX10_attempts_250 : decode cX10_attempts 250 = .ok (.getfield 7, 3) := by decide +kernel
theorem dX10_attempts_253 : decode cX10_attempts 253 = .ok (.iconst 2, 1) := by decide +kernel
theorem dX10_attempts_254 : decode cX10_attempts 254 = .ok (.iaload, 1) := by decide +kernel
theorem dX10_attempts_255 : decode cX10_attempts 255 = .ok (.iadd, 1) := by decide +kernel
theorem dX10_attempts_256 : decode cX10_attempts 256 = .ok (.iastore, 1) := by decide +kernel
theorem dX10_attempts_257 : decode cX10_attempts 257 = .ok (.aload_n 0, 1) := by decide +kernel
theorem dX10_attempts_258 : decode cX10_attempts 258 = .ok (.getfield 7, 3) := by decide +kernel
theorem dX10_attempts_261 : decode cX10_attempts 261 = .ok (.bipush 13, 2) := by decide +kernel
theorem dX10_attempts_263 : decode cX10_attempts 263 = .ok (.dup2, 1) := by decide +kernel
theorem dX10_attempts_264 : decode cX10_attempts 264 = .ok (.iaload, 1) := by decide +kernel
theorem dX10_attempts_265 : decode cX10_attempts 265 = .ok (.iconst 1, 1) := by decide +kernel
theorem dX10_attempts_266 : decode cX10_attempts 266 = .ok (.iadd, 1) := by decide +kernel
theorem dX10_attempts_267 : decode cX10_attempts 267 = .ok (.iastore, 1) := by decide +kernel
theorem dX10_attempts_268 : decode cX10_attempts 268 = .ok (.aload_n 0, 1) := by decide +kernel
theorem dX10_attempts_269 : decode cX10_attempts 269 = .ok (.getfield 7, 3) := by decide +kernel
theorem dX10_attempts_272 : decode cX10_attempts 272 = .ok (.bipush 8, 2) := by decide +kernel
theorem dX10_attempts_274 : decode cX10_attempts 274 = .ok (.iconst 1, 1) := by decide +kernel
theorem dX10_attempts_275 : decode cX10_attempts 275 = .ok (.iastore, 1) := by decide +kernel
theorem dX10_attempts_276 : decode cX10_attempts 276 = .ok (.iconst 0, 1) := by decide +kernel
theorem dX10_attempts_277 : decode cX10_attempts 277 = .ok (.ireturn, 1) := by decide +kernel
theorem dX10_tries_0 : decode cX10_tries 0 = .ok (.aload_n 0, 1) := by decide +kernel
theorem dX10_tries_1 : decode cX10_tries 1 = .ok (.getfield 7, 3) := by decide +kernel
theorem dX10_tries_4 : decode cX10_tries 4 = .ok (.bipush 7, 2) := by decide +kernel
theorem dX10_tries_6 : decode cX10_tries 6 = .ok (.dup2, 1) := by decide +kernel
theorem dX10_tries_7 : decode cX10_tries 7 = .ok (.iaload, 1) := by decide +kernel
theorem dX10_tries_8 : decode cX10_tries 8 = .ok (.iconst 1, 1) := by decide +kernel
theorem dX10_tries_9 : decode cX10_tries 9 = .ok (.iadd, 1) := by decide +kernel
theorem dX10_tries_10 : decode cX10_tries 10 = .ok (.iastore, 1) := by decide +kernel
theorem dX10_tries_11 : decode cX10_tries 11 = .ok (.aload_n 0, 1) := by decide +kernel
theorem dX10_tries_12 : decode cX10_tries 12 = .ok (.getfield 7, 3) := by decide +kernel
theorem dX10_tries_15 : decode cX10_tries 15 = .ok (.iconst 0, 1) := by decide +kernel
theorem dX10_tries_16 : decode cX10_tries 16 = .ok (.dup2, 1) := by decide +kernel
theorem dX10_tries_17 : decode cX10_tries 17 = .ok (.iaload, 1) := by decide +kernel
theorem dX10_tries_18 : decode cX10_tries 18 = .ok (.aload_n 0, 1) := by decide +kernel
theorem dX10_tries_19 : decode cX10_tries 19 = .ok (.getfield 7, 3) := by decide +kernel
theorem dX10_tries_22 : decode cX10_tries 22 = .ok (.bipush 8, 2) := by decide +kernel
theorem dX10_tries_24 : decode cX10_tries 24 = .ok (.iaload, 1) := by decide +kernel
theorem dX10_tries_25 : decode cX10_tries 25 = .ok (.iconst 1, 1) := by decide +kernel
theorem dX10_tries_26 : decode cX10_tries 26 = .ok (.if_icmp .ne 12, 3) := by decide +kernel
theorem dX10_tries_29 : decode cX10_tries 29 = .ok (.aload_n 0, 1) := by decide +kernel
theorem dX10_tries_30 : decode cX10_tries 30 = .ok (.getfield 7, 3) := by decide +kernel
theorem dX10_tries_33 : decode cX10_tries 33 = .ok (.iconst 4, 1) := by decide +kernel
theorem dX10_tries_34 : decode cX10_tries 34 = .ok (.iaload, 1) := by decide +kernel
theorem dX10_tries_35 : decode cX10_tries 35 = .ok (.goto 4, 3) := by decide +kernel
theorem dX10_tries_38 : decode cX10_tries 38 = .ok (.iconst 0, 1) := by decide +kernel
theorem dX10_tries_39 : decode cX10_tries 39 = .ok (.iadd, 1) := by decide +kernel
theorem dX10_tries_40 : decode cX10_tries 40 = .ok (.iastore, 1) := by decide +kernel
theorem dX10_tries_41 : decode cX10_tries 41 = .ok (.iconst 0, 1) := by decide +kernel
theorem dX10_tries_42 : decode cX10_tries 42 = .ok (.istore_n 1, 1) := by decide +kernel
theorem dX10_tries_43 : decode cX10_tries 43 = .ok (.iconst 0, 1) := by decide +kernel
theorem dX10_tries_44 : decode cX10_tries 44 = .ok (.istore_n 2, 1) := by decide +kernel
theorem dX10_tries_45 : decode cX10_tries 45 = .ok (.iload_n 2, 1) := by decide +kernel
theorem dX10_tries_46 : decode cX10_tries 46 = .ok (.aload_n 0, 1) := by decide +kernel
theorem dX10_tries_47 : decode cX10_tries 47 = .ok (.getfield 7, 3) := by decide +kernel
theorem dX10_tries_50 : decode cX10_tries 50 = .ok (.iconst 3, 1) := by decide +kernel
theorem dX10_tries_51 : decode cX10_tries 51 = .ok (.iaload, 1) := by decide +kernel
theorem dX10_tries_52 : decode cX10_tries 52 = .ok (.if_icmp .gt 18, 3) := by decide +kernel
theorem dX10_tries_55 : decode cX10_tries 55 = .ok (.iload_n 1, 1) := by decide +kernel
theorem dX10_tries_56 : decode cX10_tries 56 = .ok (.ifCond .ne 14, 3) := by decide +kernel
theorem dX10_tries_59 : decode cX10_tries 59 = .ok (.aload_n 0, 1) := by decide +kernel
theorem dX10_tries_60 : decode cX10_tries 60 = .ok (.invokevirtual 162, 3) := by decide +kernel
theorem dX10_tries_63 : decode cX10_tries 63 = .ok (.istore_n 1, 1) := by decide +kernel
theorem dX10_tries_64 : decode cX10_tries 64 = .ok (.iinc 2 1, 3) := by decide +kernel
theorem dX10_tries_67 : decode cX10_tries 67 = .ok (.goto (-22), 3) := by decide +kernel
theorem dX10_tries_70 : decode cX10_tries 70 = .ok (.iload_n 1, 1) := by decide +kernel
theorem dX10_tries_71 : decode cX10_tries 71 = .ok (.ireturn, 1) := by decide +kernel
theorem dX10_caches_0 : decode cX10_caches 0 = .ok (.iload_n 1, 1) := by decide +kernel
theorem dX10_caches_1 : decode cX10_caches 1 = .ok (.iconst 0, 1) := by decide +kernel
theorem dX10_caches_2 : decode cX10_caches 2 = .ok (.bipush 31, 2) := by decide +kernel
theorem dX10_caches_4 : decode cX10_caches 4 = .ok (.invokestatic 39, 3) := by decide +kernel
theorem dX10_caches_7 : decode cX10_caches 7 = .ok (.ifCond .eq 54, 3) := by decide +kernel
theorem dX10_caches_10 : decode cX10_caches 10 = .ok (.aload_n 0, 1) := by decide +kernel
theorem dX10_caches_11 : decode cX10_caches 11 = .ok (.getfield 7, 3) := by decide +kernel
theorem dX10_caches_14 : decode cX10_caches 14 = .ok (.aload_n 0, 1) := by decide +kernel
theorem dX10_caches_15 : decode cX10_caches 15 = .ok (.getfield 91, 3) := by decide +kernel
theorem dX10_caches_18 : decode cX10_caches 18 = .ok (.iload_n 1, 1) := by decide +kernel
theorem dX10_caches_19 : decode cX10_caches 19 = .ok (.invokestatic 79, 3) := by decide +kernel
theorem dX10_caches_22 : decode cX10_caches 22 = .ok (.iconst 1, 1) := by decide +kernel
theorem dX10_caches_23 : decode cX10_caches 23 = .ok (.iastore, 1) := by decide +kernel
theorem dX10_caches_24 : decode cX10_caches 24 = .ok (.aload_n 0, 1) := by decide +kernel
theorem dX10_caches_25 : decode cX10_caches 25 = .ok (.getfield 7, 3) := by decide +kernel
theorem dX10_caches_28 : decode cX10_caches 28 = .ok (.aload_n 0, 1) := by decide +kernel
theorem dX10_caches_29 : decode cX10_caches 29 = .ok (.getfield 91, 3) := by decide +kernel
theorem dX10_caches_32 : decode cX10_caches 32 = .ok (.iload_n 1, 1) := by decide +kernel
theorem dX10_caches_33 : decode cX10_caches 33 = .ok (.invokestatic 79, 3) := by decide +kernel
theorem dX10_caches_36 : decode cX10_caches 36 = .ok (.iconst 1, 1) := by decide +kernel
theorem dX10_caches_37 : decode cX10_caches 37 = .ok (.iadd, 1) := by decide +kernel
theorem dX10_caches_38 : decode cX10_caches 38 = .ok (.iload_n 2, 1) := by decide +kernel
theorem dX10_caches_39 : decode cX10_caches 39 = .ok (.iastore, 1) := by decide +kernel
theorem dX10_caches_40 : decode cX10_caches 40 = .ok (.aload_n 0, 1) := by decide +kernel
theorem dX10_caches_41 : decode cX10_caches 41 = .ok (.getfield 7, 3) := by decide +kernel
theorem dX10_caches_44 : decode cX10_caches 44 = .ok (.aload_n 0, 1) := by decide +kernel
theorem dX10_caches_45 : decode cX10_caches 45 = .ok (.getfield 91, 3) := by decide +kernel
theorem dX10_caches_48 : decode cX10_caches 48 = .ok (.iload_n 1, 1) := by decide +kernel
theorem dX10_caches_49 : decode cX10_caches 49 = .ok (.invokestatic 79, 3) := by decide +kernel
theorem dX10_caches_52 : decode cX10_caches 52 = .ok (.iconst 2, 1) := by decide +kernel
theorem dX10_caches_53 : decode cX10_caches 53 = .ok (.iadd, 1) := by decide +kernel
theorem dX10_caches_54 : decode cX10_caches 54 = .ok (.aload_n 0, 1) := by decide +kernel
theorem dX10_caches_55 : decode cX10_caches 55 = .ok (.getfield 7, 3) := by decide +kernel
theorem dX10_caches_58 : decode cX10_caches 58 = .ok (.iconst 0, 1) := by decide +kernel
theorem dX10_caches_59 : decode cX10_caches 59 = .ok (.iaload, 1) := by decide +kernel
theorem dX10_caches_60 : decode cX10_caches 60 = .ok (.iastore, 1) := by decide +kernel
theorem dX10_caches_61 : decode cX10_caches 61 = .ok (.return_, 1) := by decide +kernel
theorem dX10_ends_0 : decode cX10_ends 0 = .ok (.aload_n 0, 1) := by decide +kernel
theorem dX10_ends_1 : decode cX10_ends 1 = .ok (.getfield 7, 3) := by decide +kernel
theorem dX10_ends_4 : decode cX10_ends 4 = .ok (.iload_n 1, 1) := by decide +kernel
theorem dX10_ends_5 : decode cX10_ends 5 = .ok (.invokestatic 61, 3) := by decide +kernel
theorem dX10_ends_8 : decode cX10_ends 8 = .ok (.iconst 5, 1) := by decide +kernel
theorem dX10_ends_9 : decode cX10_ends 9 = .ok (.iadd, 1) := by decide +kernel
theorem dX10_ends_10 : decode cX10_ends 10 = .ok (.iload_n 2, 1) := by decide +kernel
theorem dX10_ends_11 : decode cX10_ends 11 = .ok (.iastore, 1) := by decide +kernel
theorem dX10_ends_12 : decode cX10_ends 12 = .ok (.aload_n 0, 1) := by decide +kernel
theorem dX10_ends_13 : decode cX10_ends 13 = .ok (.getfield 7, 3) := by decide +kernel
theorem dX10_ends_16 : decode cX10_ends 16 = .ok (.iload_n 1, 1) := by decide +kernel
theorem dX10_ends_17 : decode cX10_ends 17 = .ok (.invokestatic 61, 3) := by decide +kernel
theorem dX10_ends_20 : decode cX10_ends 20 = .ok (.bipush 6, 2) := by decide +kernel
theorem dX10_ends_22 : decode cX10_ends 22 = .ok (.iadd, 1) := by decide +kernel
theorem dX10_ends_23 : decode cX10_ends 23 = .ok (.iload_n 3, 1) := by decide +kernel
theorem dX10_ends_24 : decode cX10_ends 24 = .ok (.iastore, 1) := by decide +kernel
theorem dX10_ends_25 : decode cX10_ends 25 = .ok (.aload_n 0, 1) := by decide +kernel
theorem dX10_ends_26 : decode cX10_ends 26 = .ok (.getfield 7, 3) := by decide +kernel
theorem dX10_ends_29 : decode cX10_ends 29 = .ok (.iload_n 1, 1) := by decide +kernel
theorem dX10_ends_30 : decode cX10_ends 30 = .ok (.invokestatic 61, 3) := by decide +kernel
theorem dX10_ends_33 : decode cX10_ends 33 = .ok (.bipush 7, 2) := by decide +kernel
theorem dX10_ends_35 : decode cX10_ends 35 = .ok (.iadd, 1) := by decide +kernel
theorem dX10_ends_36 : decode cX10_ends 36 = .ok (.aload_n 0, 1) := by decide +kernel
theorem dX10_ends_37 : decode cX10_ends 37 = .ok (.getfield 7, 3) := by decide +kernel
theorem dX10_ends_40 : decode cX10_ends 40 = .ok (.iconst 0, 1) := by decide +kernel
theorem dX10_ends_41 : decode cX10_ends 41 = .ok (.iaload, 1) := by decide +kernel
theorem dX10_ends_42 : decode cX10_ends 42 = .ok (.iastore, 1) := by decide +kernel
theorem dX10_ends_43 : decode cX10_ends 43 = .ok (.return_, 1) := by decide +kernel
theorem dX10_byCache_0 : decode cX10_byCache 0 = .ok (.iload_n 1, 1) := by decide +kernel
theorem dX10_byCache_1 : decode cX10_byCache 1 = .ok (.invokestatic 61, 3) := by decide +kernel
theorem dX10_byCache_4 : decode cX10_byCache 4 = .ok (.istore_n 2, 1) := by decide +kernel
theorem dX10_byCache_5 : decode cX10_byCache 5 = .ok (.iconst 0, 1) := by decide +kernel
theorem dX10_byCache_6 : decode cX10_byCache 6 = .ok (.istore_n 3, 1) := by decide +kernel
theorem dX10_byCache_7 : decode cX10_byCache 7 = .ok (.iload_n 3, 1) := by decide +kernel
theorem dX10_byCache_8 : decode cX10_byCache 8 = .ok (.aload_n 0, 1) := by decide +kernel
theorem dX10_byCache_9 : decode cX10_byCache 9 = .ok (.getfield 7, 3) := by decide +kernel
theorem dX10_byCache_12 : decode cX10_byCache 12 = .ok (.iload_n 2, 1) := by decide +kernel
theorem dX10_byCache_13 : decode cX10_byCache 13 = .ok (.iconst 3, 1) := by decide +kernel
theorem dX10_byCache_14 : decode cX10_byCache 14 = .ok (.iadd, 1) := by decide +kernel
theorem dX10_byCache_15 : decode cX10_byCache 15 = .ok (.iaload, 1) := by decide +kernel
theorem dX10_byCache_16 : decode cX10_byCache 16 = .ok (.if_icmp .ge 52, 3) := by decide +kernel
theorem dX10_byCache_19 : decode cX10_byCache 19 = .ok (.aload_n 0, 1) := by decide +kernel
theorem dX10_byCache_20 : decode cX10_byCache 20 = .ok (.getfield 7, 3) := by decide +kernel
theorem dX10_byCache_23 : decode cX10_byCache 23 = .ok (.sipush 760, 3) := by decide +kernel
theorem dX10_byCache_26 : decode cX10_byCache 26 = .ok (.bipush 16, 2) := by decide +kernel
theorem dX10_byCache_28 : decode cX10_byCache 28 = .ok (.iload_n 1, 1) := by decide +kernel
theorem dX10_byCache_29 : decode cX10_byCache 29 = .ok (.imul, 1) := by decide +kernel
theorem dX10_byCache_30 : decode cX10_byCache 30 = .ok (.iadd, 1) := by decide +kernel
theorem dX10_byCache_31 : decode cX10_byCache 31 = .ok (.iload_n 3, 1) := by decide +kernel
theorem dX10_byCache_32 : decode cX10_byCache 32 = .ok (.iadd, 1) := by decide +kernel
theorem dX10_byCache_33 : decode cX10_byCache 33 = .ok (.aload_n 0, 1) := by decide +kernel
theorem dX10_byCache_34 : decode cX10_byCache 34 = .ok (.getfield 7, 3) := by decide +kernel
theorem dX10_byCache_37 : decode cX10_byCache 37 = .ok (.aload_n 0, 1) := by decide +kernel
theorem dX10_byCache_38 : decode cX10_byCache 38 = .ok (.getfield 7, 3) := by decide +kernel
theorem dX10_byCache_41 : decode cX10_byCache 41 = .ok (.iload_n 2, 1) := by decide +kernel
theorem dX10_byCache_42 : decode cX10_byCache 42 = .ok (.iconst 1, 1) := by decide +kernel
theorem dX10_byCache_43 : decode cX10_byCache 43 = .ok (.iadd, 1) := by decide +kernel
theorem dX10_byCache_44 : decode cX10_byCache 44 = .ok (.iaload, 1) := by decide +kernel
theorem dX10_byCache_45 : decode cX10_byCache 45 = .ok (.aload_n 0, 1) := by decide +kernel
theorem dX10_byCache_46 : decode cX10_byCache 46 = .ok (.getfield 7, 3) := by decide +kernel
theorem dX10_byCache_49 : decode cX10_byCache 49 = .ok (.iload_n 2, 1) := by decide +kernel
theorem dX10_byCache_50 : decode cX10_byCache 50 = .ok (.iconst 2, 1) := by decide +kernel
theorem dX10_byCache_51 : decode cX10_byCache 51 = .ok (.iadd, 1) := by decide +kernel
theorem dX10_byCache_52 : decode cX10_byCache 52 = .ok (.iaload, 1) := by decide +kernel
theorem dX10_byCache_53 : decode cX10_byCache 53 = .ok (.iload_n 3, 1) := by decide +kernel
theorem dX10_byCache_54 : decode cX10_byCache 54 = .ok (.iadd, 1) := by decide +kernel
theorem dX10_byCache_55 : decode cX10_byCache 55 = .ok (.invokestatic 79, 3) := by decide +kernel
theorem dX10_byCache_58 : decode cX10_byCache 58 = .ok (.iconst 1, 1) := by decide +kernel
theorem dX10_byCache_59 : decode cX10_byCache 59 = .ok (.iadd, 1) := by decide +kernel
theorem dX10_byCache_60 : decode cX10_byCache 60 = .ok (.iaload, 1) := by decide +kernel
theorem dX10_byCache_61 : decode cX10_byCache 61 = .ok (.iastore, 1) := by decide +kernel
theorem dX10_byCache_62 : decode cX10_byCache 62 = .ok (.iinc 3 1, 3) := by decide +kernel
theorem dX10_byCache_65 : decode cX10_byCache 65 = .ok (.goto (-58), 3) := by decide +kernel
theorem dX10_byCache_68 : decode cX10_byCache 68 = .ok (.aload_n 0, 1) := by decide +kernel
theorem dX10_byCache_69 : decode cX10_byCache 69 = .ok (.iload_n 1, 1) := by decide +kernel
theorem dX10_byCache_70 : decode cX10_byCache 70 = .ok (.iconst 1, 1) := by decide +kernel
theorem dX10_byCache_71 : decode cX10_byCache 71 = .ok (.iconst 0, 1) := by decide +kernel
theorem dX10_byCache_72 : decode cX10_byCache 72 = .ok (.invokevirtual 166, 3) := by decide +kernel
theorem dX10_byCache_75 : decode cX10_byCache 75 = .ok (.aload_n 0, 1) := by decide +kernel
theorem dX10_byCache_76 : decode cX10_byCache 76 = .ok (.getfield 7, 3) := by decide +kernel
theorem dX10_byCache_79 : decode cX10_byCache 79 = .ok (.iload_n 2, 1) := by decide +kernel
theorem dX10_byCache_80 : decode cX10_byCache 80 = .ok (.bipush 8, 2) := by decide +kernel
theorem dX10_byCache_82 : decode cX10_byCache 82 = .ok (.iadd, 1) := by decide +kernel
theorem dX10_byCache_83 : decode cX10_byCache 83 = .ok (.iconst 1, 1) := by decide +kernel
theorem dX10_byCache_84 : decode cX10_byCache 84 = .ok (.iastore, 1) := by decide +kernel
theorem dX10_byCache_85 : decode cX10_byCache 85 = .ok (.aload_n 0, 1) := by decide +kernel
theorem dX10_byCache_86 : decode cX10_byCache 86 = .ok (.getfield 7, 3) := by decide +kernel
theorem dX10_byCache_89 : decode cX10_byCache 89 = .ok (.bipush 14, 2) := by decide +kernel
theorem dX10_byCache_91 : decode cX10_byCache 91 = .ok (.dup2, 1) := by decide +kernel
theorem dX10_byCache_92 : decode cX10_byCache 92 = .ok (.iaload, 1) := by decide +kernel
theorem dX10_byCache_93 : decode cX10_byCache 93 = .ok (.iconst 1, 1) := by decide +kernel
theorem dX10_byCache_94 : decode cX10_byCache 94 = .ok (.iadd, 1) := by decide +kernel
theorem dX10_byCache_95 : decode cX10_byCache 95 = .ok (.iastore, 1) := by decide +kernel
theorem dX10_byCache_96 : decode cX10_byCache 96 = .ok (.iconst 1, 1) := by decide +kernel
theorem dX10_byCache_97 : decode cX10_byCache 97 = .ok (.ireturn, 1) := by decide +kernel
theorem dX10_word_0 : decode cX10_word 0 = .ok (.sipush 256, 3) := by decide +kernel
theorem dX10_word_3 : decode cX10_word 3 = .ok (.aload_n 0, 1) := by decide +kernel
theorem dX10_word_4 : decode cX10_word 4 = .ok (.getfield 22, 3) := by decide +kernel
theorem dX10_word_7 : decode cX10_word 7 = .ok (.bipush 6, 2) := by decide +kernel
theorem dX10_word_9 : decode cX10_word 9 = .ok (.iconst 2, 1) := by decide +kernel
theorem dX10_word_10 : decode cX10_word 10 = .ok (.iload_n 1, 1) := by decide +kernel
theorem dX10_word_11 : decode cX10_word 11 = .ok (.imul, 1) := by decide +kernel
theorem dX10_word_12 : decode cX10_word 12 = .ok (.iadd, 1) := by decide +kernel
theorem dX10_word_13 : decode cX10_word 13 = .ok (.iaload, 1) := by decide +kernel
theorem dX10_word_14 : decode cX10_word 14 = .ok (.imul, 1) := by decide +kernel
theorem dX10_word_15 : decode cX10_word 15 = .ok (.aload_n 0, 1) := by decide +kernel
theorem dX10_word_16 : decode cX10_word 16 = .ok (.getfield 22, 3) := by decide +kernel
theorem dX10_word_19 : decode cX10_word 19 = .ok (.bipush 7, 2) := by decide +kernel
theorem dX10_word_21 : decode cX10_word 21 = .ok (.iconst 2, 1) := by decide +kernel
theorem dX10_word_22 : decode cX10_word 22 = .ok (.iload_n 1, 1) := by decide +kernel
theorem dX10_word_23 : decode cX10_word 23 = .ok (.imul, 1) := by decide +kernel
theorem dX10_word_24 : decode cX10_word 24 = .ok (.iadd, 1) := by decide +kernel
theorem dX10_word_25 : decode cX10_word 25 = .ok (.iaload, 1) := by decide +kernel
theorem dX10_word_26 : decode cX10_word 26 = .ok (.iadd, 1) := by decide +kernel
theorem dX10_word_27 : decode cX10_word 27 = .ok (.ireturn, 1) := by decide +kernel
theorem dX10_settles_0 : decode cX10_settles 0 = .ok (.aload_n 0, 1) := by decide +kernel
theorem dX10_settles_1 : decode cX10_settles 1 = .ok (.getfield 108, 3) := by decide +kernel
theorem dX10_settles_4 : decode cX10_settles 4 = .ok (.istore_n 2, 1) := by decide +kernel
theorem dX10_settles_5 : decode cX10_settles 5 = .ok (.iload_n 2, 1) := by decide +kernel
theorem dX10_settles_6 : decode cX10_settles 6 = .ok (.aload_n 0, 1) := by decide +kernel
theorem dX10_settles_7 : decode cX10_settles 7 = .ok (.getfield 111, 3) := by decide +kernel
theorem dX10_settles_10 : decode cX10_settles 10 = .ok (.if_icmp .ge 49, 3) := by decide +kernel
theorem dX10_settles_13 : decode cX10_settles 13 = .ok (.iload_n 1, 1) := by decide +kernel
theorem dX10_settles_14 : decode cX10_settles 14 = .ok (.ifCond .ne 39, 3) := by decide +kernel
theorem dX10_settles_17 : decode cX10_settles 17 = .ok (.aload_n 0, 1) := by decide +kernel
theorem dX10_settles_18 : decode cX10_settles 18 = .ok (.iload_n 2, 1) := by decide +kernel
theorem dX10_settles_19 : decode cX10_settles 19 = .ok (.aload_n 0, 1) := by decide +kernel
theorem dX10_settles_20 : decode cX10_settles 20 = .ok (.getfield 101, 3) := by decide +kernel
theorem dX10_settles_23 : decode cX10_settles 23 = .ok (.ifCond .eq 17, 3) := by decide +kernel
theorem dX10_settles_26 : decode cX10_settles 26 = .ok (.aload_n 0, 1) := by decide +kernel
theorem dX10_settles_27 : decode cX10_settles 27 = .ok (.getfield 19, 3) := by decide +kernel
theorem dX10_settles_30 : decode cX10_settles 30 = .ok (.iload_n 2, 1) := by decide +kernel
theorem dX10_settles_31 : decode cX10_settles 31 = .ok (.aload_n 0, 1) := by decide +kernel
theorem dX10_settles_32 : decode cX10_settles 32 = .ok (.getfield 108, 3) := by decide +kernel
theorem dX10_settles_35 : decode cX10_settles 35 = .ok (.isub, 1) := by decide +kernel
theorem dX10_settles_36 : decode cX10_settles 36 = .ok (.iaload, 1) := by decide +kernel
theorem dX10_settles_37 : decode cX10_settles 37 = .ok (.goto 13, 3) := by decide +kernel
theorem dX10_settles_40 : decode cX10_settles 40 = .ok (.aload_n 0, 1) := by decide +kernel
theorem dX10_settles_41 : decode cX10_settles 41 = .ok (.iload_n 2, 1) := by decide +kernel
theorem dX10_settles_42 : decode cX10_settles 42 = .ok (.aload_n 0, 1) := by decide +kernel
theorem dX10_settles_43 : decode cX10_settles 43 = .ok (.getfield 108, 3) := by decide +kernel
theorem dX10_settles_46 : decode cX10_settles 46 = .ok (.isub, 1) := by decide +kernel
theorem dX10_settles_47 : decode cX10_settles 47 = .ok (.invokevirtual 170, 3) := by decide +kernel
theorem dX10_settles_50 : decode cX10_settles 50 = .ok (.invokevirtual 173, 3) := by decide +kernel
theorem dX10_settles_53 : decode cX10_settles 53 = .ok (.iinc 2 1, 3) := by decide +kernel
theorem dX10_settles_56 : decode cX10_settles 56 = .ok (.goto (-51), 3) := by decide +kernel
theorem dX10_settles_59 : decode cX10_settles 59 = .ok (.iconst 0, 1) := by decide +kernel
theorem dX10_settles_60 : decode cX10_settles 60 = .ok (.istore_n 2, 1) := by decide +kernel
theorem dX10_settles_61 : decode cX10_settles 61 = .ok (.aload_n 0, 1) := by decide +kernel
theorem dX10_settles_62 : decode cX10_settles 62 = .ok (.getfield 105, 3) := by decide +kernel
theorem dX10_settles_65 : decode cX10_settles 65 = .ok (.istore_n 3, 1) := by decide +kernel
theorem dX10_settles_66 : decode cX10_settles 66 = .ok (.iload_n 3, 1) := by decide +kernel
theorem dX10_settles_67 : decode cX10_settles 67 = .ok (.aload_n 0, 1) := by decide +kernel
theorem dX10_settles_68 : decode cX10_settles 68 = .ok (.getfield 7, 3) := by decide +kernel
theorem dX10_settles_71 : decode cX10_settles 71 = .ok (.bipush 6, 2) := by decide +kernel
theorem dX10_settles_73 : decode cX10_settles 73 = .ok (.iaload, 1) := by decide +kernel
theorem dX10_settles_74 : decode cX10_settles 74 = .ok (.if_icmp .ge 156, 3) := by decide +kernel
theorem dX10_settles_77 : decode cX10_settles 77 = .ok (.aload_n 0, 1) := by decide +kernel
theorem dX10_settles_78 : decode cX10_settles 78 = .ok (.getfield 94, 3) := by decide +kernel
theorem dX10_settles_81 : decode cX10_settles 81 = .ok (.iload_n 3, 1) := by decide +kernel
theorem dX10_settles_82 : decode cX10_settles 82 = .ok (.lshr, 1) := by decide +kernel
theorem dX10_settles_83 : decode cX10_settles 83 = .ok (.lconst 1, 1) := by decide +kernel
theorem dX10_settles_84 : decode cX10_settles 84 = .ok (.land, 1) := by decide +kernel
theorem dX10_settles_85 : decode cX10_settles 85 = .ok (.lconst 1, 1) := by decide +kernel
theorem dX10_settles_86 : decode cX10_settles 86 = .ok (.lcmp, 1) := by decide +kernel
theorem dX10_settles_87 : decode cX10_settles 87 = .ok (.ifCond .ne 137, 3) := by decide +kernel
theorem dX10_settles_90 : decode cX10_settles 90 = .ok (.aload_n 0, 1) := by decide +kernel
theorem dX10_settles_91 : decode cX10_settles 91 = .ok (.getfield 7, 3) := by decide +kernel
theorem dX10_settles_94 : decode cX10_settles 94 = .ok (.iload_n 3, 1) := by decide +kernel
theorem dX10_settles_95 : decode cX10_settles 95 = .ok (.invokestatic 61, 3) := by decide +kernel
theorem dX10_settles_98 : decode cX10_settles 98 = .ok (.iconst 2, 1) := by decide +kernel
theorem dX10_settles_99 : decode cX10_settles 99 = .ok (.iadd, 1) := by decide +kernel
theorem dX10_settles_100 : decode cX10_settles 100 = .ok (.iaload, 1) := by decide +kernel
theorem dX10_settles_101 : decode cX10_settles 101 = .ok (.istore 4, 2) := by decide +kernel
theorem dX10_settles_103 : decode cX10_settles 103 = .ok (.iconst 0, 1) := by decide +kernel
theorem dX10_settles_104 : decode cX10_settles 104 = .ok (.istore 5, 2) := by decide +kernel
theorem dX10_settles_106 : decode cX10_settles 106 = .ok (.iload 5, 2) := by decide +kernel
theorem dX10_settles_108 : decode cX10_settles 108 = .ok (.aload_n 0, 1) := by decide +kernel
theorem dX10_settles_109 : decode cX10_settles 109 = .ok (.getfield 7, 3) := by decide +kernel
theorem dX10_settles_112 : decode cX10_settles 112 = .ok (.iload_n 3, 1) := by decide +kernel
theorem dX10_settles_113 : decode cX10_settles 113 = .ok (.invokestatic 61, 3) := by decide +kernel
theorem dX10_settles_116 : decode cX10_settles 116 = .ok (.iconst 3, 1) := by decide +kernel
theorem dX10_settles_117 : decode cX10_settles 117 = .ok (.iadd, 1) := by decide +kernel
theorem dX10_settles_118 : decode cX10_settles 118 = .ok (.iaload, 1) := by decide +kernel
theorem dX10_settles_119 : decode cX10_settles 119 = .ok (.if_icmp .ge 87, 3) := by decide +kernel
theorem dX10_settles_122 : decode cX10_settles 122 = .ok (.aload_n 0, 1) := by decide +kernel
theorem dX10_settles_123 : decode cX10_settles 123 = .ok (.getfield 7, 3) := by decide +kernel
theorem dX10_settles_126 : decode cX10_settles 126 = .ok (.sipush 760, 3) := by decide +kernel
theorem dX10_settles_129 : decode cX10_settles 129 = .ok (.bipush 16, 2) := by decide +kernel
theorem dX10_settles_131 : decode cX10_settles 131 = .ok (.iload_n 3, 1) := by decide +kernel
theorem dX10_settles_132 : decode cX10_settles 132 = .ok (.imul, 1) := by decide +kernel
theorem dX10_settles_133 : decode cX10_settles 133 = .ok (.iadd, 1) := by decide +kernel
theorem dX10_settles_134 : decode cX10_settles 134 = .ok (.iload 5, 2) := by decide +kernel
theorem dX10_settles_136 : decode cX10_settles 136 = .ok (.iadd, 1) := by decide +kernel
theorem dX10_settles_137 : decode cX10_settles 137 = .ok (.iload_n 1, 1) := by decide +kernel
theorem dX10_settles_138 : decode cX10_settles 138 = .ok (.ifCond .ne 27, 3) := by decide +kernel
theorem dX10_settles_141 : decode cX10_settles 141 = .ok (.aload_n 0, 1) := by decide +kernel
theorem dX10_settles_142 : decode cX10_settles 142 = .ok (.getfield 101, 3) := by decide +kernel
theorem dX10_settles_145 : decode cX10_settles 145 = .ok (.ifCond .ne 20, 3) := by decide +kernel
theorem dX10_settles_148 : decode cX10_settles 148 = .ok (.aload_n 0, 1) := by decide +kernel
theorem dX10_settles_149 : decode cX10_settles 149 = .ok (.iload 4, 2) := by decide +kernel
theorem dX10_settles_151 : decode cX10_settles 151 = .ok (.aload_n 0, 1) := by decide +kernel
theorem dX10_settles_152 : decode cX10_settles 152 = .ok (.getfield 108, 3) := by decide +kernel
theorem dX10_settles_155 : decode cX10_settles 155 = .ok (.isub, 1) := by decide +kernel
theorem dX10_settles_156 : decode cX10_settles 156 = .ok (.iload 5, 2) := by decide +kernel
theorem dX10_settles_158 : decode cX10_settles 158 = .ok (.iadd, 1) := by decide +kernel
theorem dX10_settles_159 : decode cX10_settles 159 = .ok (.invokevirtual 170, 3) := by decide +kernel
theorem dX10_settles_162 : decode cX10_settles 162 = .ok (.goto 4, 3) := by decide +kernel
theorem dX10_settles_165 : decode cX10_settles 165 = .ok (.iconst 0, 1) := by decide +kernel
theorem dX10_settles_166 : decode cX10_settles 166 = .ok (.iastore, 1) := by decide +kernel
theorem dX10_settles_167 : decode cX10_settles 167 = .ok (.iload_n 1, 1) := by decide +kernel
theorem dX10_settles_168 : decode cX10_settles 168 = .ok (.ifCond .le 32, 3) := by decide +kernel
theorem dX10_settles_171 : decode cX10_settles 171 = .ok (.aload_n 0, 1) := by decide +kernel
theorem dX10_settles_172 : decode cX10_settles 172 = .ok (.getfield 101, 3) := by decide +kernel
theorem dX10_settles_175 : decode cX10_settles 175 = .ok (.ifCond .eq 25, 3) := by decide +kernel
theorem dX10_settles_178 : decode cX10_settles 178 = .ok (.iload 4, 2) := by decide +kernel
theorem dX10_settles_180 : decode cX10_settles 180 = .ok (.bipush 32, 2) := by decide +kernel
theorem dX10_settles_182 : decode cX10_settles 182 = .ok (.if_icmp .ge 18, 3) := by decide +kernel
theorem dX10_settles_185 : decode cX10_settles 185 = .ok (.aload_n 0, 1) := by decide +kernel
theorem dX10_settles_186 : decode cX10_settles 186 = .ok (.getfield 7, 3) := by decide +kernel
theorem dX10_settles_189 : decode cX10_settles 189 = .ok (.aload_n 0, 1) := by decide +kernel
theorem dX10_settles_190 : decode cX10_settles 190 = .ok (.getfield 91, 3) := by decide +kernel
theorem dX10_settles_193 : decode cX10_settles 193 = .ok (.iload 4, 2) := by decide +kernel
theorem dX10_settles_195 : decode cX10_settles 195 = .ok (.invokestatic 79, 3) := by decide +kernel
theorem dX10_settles_198 : decode cX10_settles 198 = .ok (.iconst 0, 1) := by decide +kernel
theorem dX10_settles_199 : decode cX10_settles 199 = .ok (.iastore, 1) := by decide +kernel
theorem dX10_settles_200 : decode cX10_settles 200 = .ok (.iinc 5 1, 3) := by decide +kernel
theorem dX10_settles_203 : decode cX10_settles 203 = .ok (.goto (-97), 3) := by decide +kernel
theorem dX10_settles_206 : decode cX10_settles 206 = .ok (.aload_n 0, 1) := by decide +kernel
theorem dX10_settles_207 : decode cX10_settles 207 = .ok (.iload_n 3, 1) := by decide +kernel
theorem dX10_settles_208 : decode cX10_settles 208 = .ok (.iload_n 1, 1) := by decide +kernel
theorem dX10_settles_209 : decode cX10_settles 209 = .ok (.ifCond .ne 7, 3) := by decide +kernel
theorem dX10_settles_212 : decode cX10_settles 212 = .ok (.iconst 1, 1) := by decide +kernel
theorem dX10_settles_213 : decode cX10_settles 213 = .ok (.goto 4, 3) := by decide +kernel
theorem dX10_settles_216 : decode cX10_settles 216 = .ok (.iconst 2, 1) := by decide +kernel
theorem dX10_settles_217 : decode cX10_settles 217 = .ok (.iload_n 1, 1) := by decide +kernel
theorem dX10_settles_218 : decode cX10_settles 218 = .ok (.invokevirtual 166, 3) := by decide +kernel
theorem dX10_settles_221 : decode cX10_settles 221 = .ok (.iinc 2 1, 3) := by decide +kernel
theorem dX10_settles_224 : decode cX10_settles 224 = .ok (.iinc 3 1, 3) := by decide +kernel
theorem dX10_settles_227 : decode cX10_settles 227 = .ok (.goto (-161), 3) := by decide +kernel
theorem dX10_settles_230 : decode cX10_settles 230 = .ok (.aload_n 0, 1) := by decide +kernel
theorem dX10_settles_231 : decode cX10_settles 231 = .ok (.getfield 7, 3) := by decide +kernel
theorem dX10_settles_234 : decode cX10_settles 234 = .ok (.bipush 15, 2) := by decide +kernel
theorem dX10_settles_236 : decode cX10_settles 236 = .ok (.dup2, 1) := by decide +kernel
theorem dX10_settles_237 : decode cX10_settles 237 = .ok (.iaload, 1) := by decide +kernel
theorem dX10_settles_238 : decode cX10_settles 238 = .ok (.iload_n 2, 1) := by decide +kernel
theorem dX10_settles_239 : decode cX10_settles 239 = .ok (.iconst 1, 1) := by decide +kernel
theorem dX10_settles_240 : decode cX10_settles 240 = .ok (.isub, 1) := by decide +kernel
theorem dX10_settles_241 : decode cX10_settles 241 = .ok (.iadd, 1) := by decide +kernel
theorem dX10_settles_242 : decode cX10_settles 242 = .ok (.iastore, 1) := by decide +kernel
theorem dX10_settles_243 : decode cX10_settles 243 = .ok (.iload_n 2, 1) := by decide +kernel
theorem dX10_settles_244 : decode cX10_settles 244 = .ok (.ireturn, 1) := by decide +kernel
theorem dX10_steps_0 : decode cX10_steps 0 = .ok (.aload_n 0, 1) := by decide +kernel
theorem dX10_steps_1 : decode cX10_steps 1 = .ok (.invokevirtual 177, 3) := by decide +kernel
theorem dX10_steps_4 : decode cX10_steps 4 = .ok (.istore_n 1, 1) := by decide +kernel
theorem dX10_steps_5 : decode cX10_steps 5 = .ok (.iload_n 1, 1) := by decide +kernel
theorem dX10_steps_6 : decode cX10_steps 6 = .ok (.ifCond .ge 5, 3) := by decide +kernel
theorem dX10_steps_9 : decode cX10_steps 9 = .ok (.iconst 0, 1) := by decide +kernel
theorem dX10_steps_10 : decode cX10_steps 10 = .ok (.ireturn, 1) := by decide +kernel
theorem dX10_steps_11 : decode cX10_steps 11 = .ok (.aload_n 0, 1) := by decide +kernel
theorem dX10_steps_12 : decode cX10_steps 12 = .ok (.iload_n 1, 1) := by decide +kernel
theorem dX10_steps_13 : decode cX10_steps 13 = .ok (.invokevirtual 180, 3) := by decide +kernel
theorem dX10_steps_16 : decode cX10_steps 16 = .ok (.ifCond .eq 9, 3) := by decide +kernel
theorem dX10_steps_19 : decode cX10_steps 19 = .ok (.aload_n 0, 1) := by decide +kernel
theorem dX10_steps_20 : decode cX10_steps 20 = .ok (.iload_n 1, 1) := by decide +kernel
theorem dX10_steps_21 : decode cX10_steps 21 = .ok (.invokevirtual 183, 3) := by decide +kernel
theorem dX10_steps_24 : decode cX10_steps 24 = .ok (.ireturn, 1) := by decide +kernel
theorem dX10_steps_25 : decode cX10_steps 25 = .ok (.aload_n 0, 1) := by decide +kernel
theorem dX10_steps_26 : decode cX10_steps 26 = .ok (.iload_n 1, 1) := by decide +kernel
theorem dX10_steps_27 : decode cX10_steps 27 = .ok (.invokevirtual 186, 3) := by decide +kernel
theorem dX10_steps_30 : decode cX10_steps 30 = .ok (.aload_n 0, 1) := by decide +kernel
theorem dX10_steps_31 : decode cX10_steps 31 = .ok (.invokevirtual 189, 3) := by decide +kernel
theorem dX10_steps_34 : decode cX10_steps 34 = .ok (.istore_n 2, 1) := by decide +kernel
theorem dX10_steps_35 : decode cX10_steps 35 = .ok (.aload_n 0, 1) := by decide +kernel
theorem dX10_steps_36 : decode cX10_steps 36 = .ok (.iload_n 2, 1) := by decide +kernel
theorem dX10_steps_37 : decode cX10_steps 37 = .ok (.ifCond .ne 8, 3) := by decide +kernel
theorem dX10_steps_40 : decode cX10_steps 40 = .ok (.bipush 11, 2) := by decide +kernel
theorem dX10_steps_42 : decode cX10_steps 42 = .ok (.goto 25, 3) := by decide +kernel
theorem dX10_steps_45 : decode cX10_steps 45 = .ok (.aload_n 0, 1) := by decide +kernel
theorem dX10_steps_46 : decode cX10_steps 46 = .ok (.getfield 22, 3) := by decide +kernel
theorem dX10_steps_49 : decode cX10_steps 49 = .ok (.iconst 4, 1) := by decide +kernel
theorem dX10_steps_50 : decode cX10_steps 50 = .ok (.iaload, 1) := by decide +kernel
theorem dX10_steps_51 : decode cX10_steps 51 = .ok (.sipush 128, 3) := by decide +kernel
theorem dX10_steps_54 : decode cX10_steps 54 = .ok (.if_icmp .le 12, 3) := by decide +kernel
theorem dX10_steps_57 : decode cX10_steps 57 = .ok (.aload_n 0, 1) := by decide +kernel
theorem dX10_steps_58 : decode cX10_steps 58 = .ok (.getfield 22, 3) := by decide +kernel
theorem dX10_steps_61 : decode cX10_steps 61 = .ok (.iconst 5, 1) := by decide +kernel
theorem dX10_steps_62 : decode cX10_steps 62 = .ok (.iaload, 1) := by decide +kernel
theorem dX10_steps_63 : decode cX10_steps 63 = .ok (.goto 4, 3) := by decide +kernel
theorem dX10_steps_66 : decode cX10_steps 66 = .ok (.iconst 0, 1) := by decide +kernel
theorem dX10_steps_67 : decode cX10_steps 67 = .ok (.invokevirtual 192, 3) := by decide +kernel
theorem dX10_steps_70 : decode cX10_steps 70 = .ok (.ireturn, 1) := by decide +kernel
theorem dX10_step_0 : decode cX10_step 0 = .ok (.aload_n 0, 1) := by decide +kernel
theorem dX10_step_1 : decode cX10_step 1 = .ok (.iconst 0, 1) := by decide +kernel
theorem dX10_step_2 : decode cX10_step 2 = .ok (.putfield 36, 3) := by decide +kernel
theorem dX10_step_5 : decode cX10_step 5 = .ok (.aload_n 0, 1) := by decide +kernel
theorem dX10_step_6 : decode cX10_step 6 = .ok (.invokevirtual 195, 3) := by decide +kernel
theorem dX10_step_9 : decode cX10_step 9 = .ok (.ireturn, 1) := by decide +kernel
theorem dX10_stepsAll_0 : decode cX10_stepsAll 0 = .ok (.iconst 1, 1) := by decide +kernel
theorem dX10_stepsAll_1 : decode cX10_stepsAll 1 = .ok (.istore_n 1, 1) := by decide +kernel
theorem dX10_stepsAll_2 : decode cX10_stepsAll 2 = .ok (.iload_n 1, 1) := by decide +kernel
theorem dX10_stepsAll_3 : decode cX10_stepsAll 3 = .ok (.ifCond .le 11, 3) := by decide +kernel
theorem dX10_stepsAll_6 : decode cX10_stepsAll 6 = .ok (.aload_n 0, 1) := by decide +kernel
theorem dX10_stepsAll_7 : decode cX10_stepsAll 7 = .ok (.invokevirtual 195, 3) := by decide +kernel
theorem dX10_stepsAll_10 : decode cX10_stepsAll 10 = .ok (.istore_n 1, 1) := by decide +kernel
theorem dX10_stepsAll_11 : decode cX10_stepsAll 11 = .ok (.goto (-9), 3) := by decide +kernel
theorem dX10_stepsAll_14 : decode cX10_stepsAll 14 = .ok (.return_, 1) := by decide +kernel
theorem dX10_finish_0 : decode cX10_finish 0 = .ok (.aload_n 0, 1) := by decide +kernel
theorem dX10_finish_1 : decode cX10_finish 1 = .ok (.iconst 0, 1) := by decide +kernel
theorem dX10_finish_2 : decode cX10_finish 2 = .ok (.putfield 36, 3) := by decide +kernel
theorem dX10_finish_5 : decode cX10_finish 5 = .ok (.aload_n 0, 1) := by decide +kernel
theorem dX10_finish_6 : decode cX10_finish 6 = .ok (.invokevirtual 198, 3) := by decide +kernel
theorem dX10_finish_9 : decode cX10_finish 9 = .ok (.aload_n 0, 1) := by decide +kernel
theorem dX10_finish_10 : decode cX10_finish 10 = .ok (.getfield 7, 3) := by decide +kernel
theorem dX10_finish_13 : decode cX10_finish 13 = .ok (.iconst 0, 1) := by decide +kernel
theorem dX10_finish_14 : decode cX10_finish 14 = .ok (.iaload, 1) := by decide +kernel
theorem dX10_finish_15 : decode cX10_finish 15 = .ok (.ireturn, 1) := by decide +kernel
theorem dX10_pass_0 : decode cX10_pass 0 = .ok (.aload_n 0, 1) := by decide +kernel
theorem dX10_pass_1 : decode cX10_pass 1 = .ok (.iload_n 1, 1) := by decide +kernel
theorem dX10_pass_2 : decode cX10_pass 2 = .ok (.iconst 0, 1) := by decide +kernel
theorem dX10_pass_3 : decode cX10_pass 3 = .ok (.sipush 10000, 3) := by decide +kernel
theorem dX10_pass_6 : decode cX10_pass 6 = .ok (.invokestatic 39, 3) := by decide +kernel
theorem dX10_pass_9 : decode cX10_pass 9 = .ok (.ifCond .ne 7, 3) := by decide +kernel
theorem dX10_pass_12 : decode cX10_pass 12 = .ok (.iconst 1, 1) := by decide +kernel
theorem dX10_pass_13 : decode cX10_pass 13 = .ok (.goto 21, 3) := by decide +kernel
theorem dX10_pass_16 : decode cX10_pass 16 = .ok (.aload_n 0, 1) := by decide +kernel
theorem dX10_pass_17 : decode cX10_pass 17 = .ok (.getfield 7, 3) := by decide +kernel
theorem dX10_pass_20 : decode cX10_pass 20 = .ok (.iconst 0, 1) := by decide +kernel
theorem dX10_pass_21 : decode cX10_pass 21 = .ok (.iaload, 1) := by decide +kernel
theorem dX10_pass_22 : decode cX10_pass 22 = .ok (.iload_n 1, 1) := by decide +kernel
theorem dX10_pass_23 : decode cX10_pass 23 = .ok (.iadd, 1) := by decide +kernel
theorem dX10_pass_24 : decode cX10_pass 24 = .ok (.ldc 201, 2) := by decide +kernel
theorem dX10_pass_26 : decode cX10_pass 26 = .ok (.if_icmp .le 7, 3) := by decide +kernel
theorem dX10_pass_29 : decode cX10_pass 29 = .ok (.iconst 2, 1) := by decide +kernel
theorem dX10_pass_30 : decode cX10_pass 30 = .ok (.goto 4, 3) := by decide +kernel
theorem dX10_pass_33 : decode cX10_pass 33 = .ok (.iconst 0, 1) := by decide +kernel
theorem dX10_pass_34 : decode cX10_pass 34 = .ok (.putfield 36, 3) := by decide +kernel
theorem dX10_pass_37 : decode cX10_pass 37 = .ok (.aload_n 0, 1) := by decide +kernel
theorem dX10_pass_38 : decode cX10_pass 38 = .ok (.getfield 7, 3) := by decide +kernel
theorem dX10_pass_41 : decode cX10_pass 41 = .ok (.iconst 0, 1) := by decide +kernel
theorem dX10_pass_42 : decode cX10_pass 42 = .ok (.dup2, 1) := by decide +kernel
theorem dX10_pass_43 : decode cX10_pass 43 = .ok (.iaload, 1) := by decide +kernel
theorem dX10_pass_44 : decode cX10_pass 44 = .ok (.aload_n 0, 1) := by decide +kernel
theorem dX10_pass_45 : decode cX10_pass 45 = .ok (.getfield 36, 3) := by decide +kernel
theorem dX10_pass_48 : decode cX10_pass 48 = .ok (.ifCond .ne 7, 3) := by decide +kernel
theorem dX10_pass_51 : decode cX10_pass 51 = .ok (.iload_n 1, 1) := by decide +kernel
theorem dX10_pass_52 : decode cX10_pass 52 = .ok (.goto 4, 3) := by decide +kernel
theorem dX10_pass_55 : decode cX10_pass 55 = .ok (.iconst 0, 1) := by decide +kernel
theorem dX10_pass_56 : decode cX10_pass 56 = .ok (.iadd, 1) := by decide +kernel
theorem dX10_pass_57 : decode cX10_pass 57 = .ok (.iastore, 1) := by decide +kernel
theorem dX10_pass_58 : decode cX10_pass 58 = .ok (.aload_n 0, 1) := by decide +kernel
theorem dX10_pass_59 : decode cX10_pass 59 = .ok (.getfield 36, 3) := by decide +kernel
theorem dX10_pass_62 : decode cX10_pass 62 = .ok (.ifCond .ne 12, 3) := by decide +kernel
theorem dX10_pass_65 : decode cX10_pass 65 = .ok (.aload_n 0, 1) := by decide +kernel
theorem dX10_pass_66 : decode cX10_pass 66 = .ok (.getfield 7, 3) := by decide +kernel
theorem dX10_pass_69 : decode cX10_pass 69 = .ok (.iconst 0, 1) := by decide +kernel
theorem dX10_pass_70 : decode cX10_pass 70 = .ok (.iaload, 1) := by decide +kernel
theorem dX10_pass_71 : decode cX10_pass 71 = .ok (.goto 4, 3) := by decide +kernel
theorem dX10_pass_74 : decode cX10_pass 74 = .ok (.iconst 0, 1) := by decide +kernel
theorem dX10_pass_75 : decode cX10_pass 75 = .ok (.ireturn, 1) := by decide +kernel
theorem dX10_time_0 : decode cX10_time 0 = .ok (.aload_n 0, 1) := by decide +kernel
theorem dX10_time_1 : decode cX10_time 1 = .ok (.iconst 0, 1) := by decide +kernel
theorem dX10_time_2 : decode cX10_time 2 = .ok (.putfield 36, 3) := by decide +kernel
theorem dX10_time_5 : decode cX10_time 5 = .ok (.aload_n 0, 1) := by decide +kernel
theorem dX10_time_6 : decode cX10_time 6 = .ok (.getfield 7, 3) := by decide +kernel
theorem dX10_time_9 : decode cX10_time 9 = .ok (.iconst 0, 1) := by decide +kernel
theorem dX10_time_10 : decode cX10_time 10 = .ok (.iaload, 1) := by decide +kernel
theorem dX10_time_11 : decode cX10_time 11 = .ok (.ireturn, 1) := by decide +kernel
theorem dX10_group_0 : decode cX10_group 0 = .ok (.aload_n 0, 1) := by decide +kernel
theorem dX10_group_1 : decode cX10_group 1 = .ok (.iconst 0, 1) := by decide +kernel
theorem dX10_group_2 : decode cX10_group 2 = .ok (.putfield 36, 3) := by decide +kernel
theorem dX10_group_5 : decode cX10_group 5 = .ok (.aload_n 0, 1) := by decide +kernel
theorem dX10_group_6 : decode cX10_group 6 = .ok (.invokevirtual 177, 3) := by decide +kernel
theorem dX10_group_9 : decode cX10_group 9 = .ok (.istore_n 1, 1) := by decide +kernel
theorem dX10_group_10 : decode cX10_group 10 = .ok (.iload_n 1, 1) := by decide +kernel
theorem dX10_group_11 : decode cX10_group 11 = .ok (.ifCond .ge 5, 3) := by decide +kernel
theorem dX10_group_14 : decode cX10_group 14 = .ok (.lconst 0, 1) := by decide +kernel
theorem dX10_group_15 : decode cX10_group 15 = .ok (.lreturn, 1) := by decide +kernel
theorem dX10_group_16 : decode cX10_group 16 = .ok (.aload_n 0, 1) := by decide +kernel
theorem dX10_group_17 : decode cX10_group 17 = .ok (.iload_n 1, 1) := by decide +kernel
theorem dX10_group_18 : decode cX10_group 18 = .ok (.invokevirtual 180, 3) := by decide +kernel
theorem dX10_group_21 : decode cX10_group 21 = .ok (.ifCond .eq 7, 3) := by decide +kernel
theorem dX10_group_24 : decode cX10_group 24 = .ok (.lconst 1, 1) := by decide +kernel
theorem dX10_group_25 : decode cX10_group 25 = .ok (.iload_n 1, 1) := by decide +kernel
theorem dX10_group_26 : decode cX10_group 26 = .ok (.lshl, 1) := by decide +kernel
theorem dX10_group_27 : decode cX10_group 27 = .ok (.lreturn, 1) := by decide +kernel
theorem dX10_group_28 : decode cX10_group 28 = .ok (.aload_n 0, 1) := by decide +kernel
theorem dX10_group_29 : decode cX10_group 29 = .ok (.iload_n 1, 1) := by decide +kernel
theorem dX10_group_30 : decode cX10_group 30 = .ok (.invokevirtual 186, 3) := by decide +kernel
theorem dX10_group_33 : decode cX10_group 33 = .ok (.aload_n 0, 1) := by decide +kernel
theorem dX10_group_34 : decode cX10_group 34 = .ok (.getfield 94, 3) := by decide +kernel
theorem dX10_group_37 : decode cX10_group 37 = .ok (.lreturn, 1) := by decide +kernel
theorem dX10_frameByte_0 : decode cX10_frameByte 0 = .ok (.aload_n 0, 1) := by decide +kernel
theorem dX10_frameByte_1 : decode cX10_frameByte 1 = .ok (.iconst 0, 1) := by decide +kernel
theorem dX10_frameByte_2 : decode cX10_frameByte 2 = .ok (.putfield 36, 3) := by decide +kernel
theorem dX10_frameByte_5 : decode cX10_frameByte 5 = .ok (.iload_n 1, 1) := by decide +kernel
theorem dX10_frameByte_6 : decode cX10_frameByte 6 = .ok (.ifCond .ge 9, 3) := by decide +kernel
theorem dX10_frameByte_9 : decode cX10_frameByte 9 = .ok (.aload_n 0, 1) := by decide +kernel
theorem dX10_frameByte_10 : decode cX10_frameByte 10 = .ok (.iconst 1, 1) := by decide +kernel
theorem dX10_frameByte_11 : decode cX10_frameByte 11 = .ok (.invokevirtual 43, 3) := by decide +kernel
theorem dX10_frameByte_14 : decode cX10_frameByte 14 = .ok (.ireturn, 1) := by decide +kernel
theorem dX10_frameByte_15 : decode cX10_frameByte 15 = .ok (.aload_n 0, 1) := by decide +kernel
theorem dX10_frameByte_16 : decode cX10_frameByte 16 = .ok (.invokevirtual 177, 3) := by decide +kernel
theorem dX10_frameByte_19 : decode cX10_frameByte 19 = .ok (.istore_n 2, 1) := by decide +kernel
theorem dX10_frameByte_20 : decode cX10_frameByte 20 = .ok (.iload_n 2, 1) := by decide +kernel
theorem dX10_frameByte_21 : decode cX10_frameByte 21 = .ok (.ifCond .lt 11, 3) := by decide +kernel
theorem dX10_frameByte_24 : decode cX10_frameByte 24 = .ok (.aload_n 0, 1) := by decide +kernel
theorem dX10_frameByte_25 : decode cX10_frameByte 25 = .ok (.iload_n 2, 1) := by decide +kernel
theorem dX10_frameByte_26 : decode cX10_frameByte 26 = .ok (.invokevirtual 180, 3) := by decide +kernel
theorem dX10_frameByte_29 : decode cX10_frameByte 29 = .ok (.ifCond .eq 5, 3) := by decide +kernel
theorem dX10_frameByte_32 : decode cX10_frameByte 32 = .ok (.iconst (-1), 1) := by decide +kernel
theorem dX10_frameByte_33 : decode cX10_frameByte 33 = .ok (.ireturn, 1) := by decide +kernel
theorem dX10_frameByte_34 : decode cX10_frameByte 34 = .ok (.aload_n 0, 1) := by decide +kernel
theorem dX10_frameByte_35 : decode cX10_frameByte 35 = .ok (.iload_n 2, 1) := by decide +kernel
theorem dX10_frameByte_36 : decode cX10_frameByte 36 = .ok (.invokevirtual 186, 3) := by decide +kernel
theorem dX10_frameByte_39 : decode cX10_frameByte 39 = .ok (.aload_n 0, 1) := by decide +kernel
theorem dX10_frameByte_40 : decode cX10_frameByte 40 = .ok (.invokevirtual 147, 3) := by decide +kernel
theorem dX10_frameByte_43 : decode cX10_frameByte 43 = .ok (.iload_n 1, 1) := by decide +kernel
theorem dX10_frameByte_44 : decode cX10_frameByte 44 = .ok (.aload_n 0, 1) := by decide +kernel
theorem dX10_frameByte_45 : decode cX10_frameByte 45 = .ok (.getfield 118, 3) := by decide +kernel
theorem dX10_frameByte_48 : decode cX10_frameByte 48 = .ok (.if_icmp .ge 12, 3) := by decide +kernel
theorem dX10_frameByte_51 : decode cX10_frameByte 51 = .ok (.aload_n 0, 1) := by decide +kernel
theorem dX10_frameByte_52 : decode cX10_frameByte 52 = .ok (.getfield 16, 3) := by decide +kernel
theorem dX10_frameByte_55 : decode cX10_frameByte 55 = .ok (.iload_n 1, 1) := by decide +kernel
theorem dX10_frameByte_56 : decode cX10_frameByte 56 = .ok (.iaload, 1) := by decide +kernel
theorem dX10_frameByte_57 : decode cX10_frameByte 57 = .ok (.goto 4, 3) := by decide +kernel
theorem dX10_frameByte_60 : decode cX10_frameByte 60 = .ok (.iconst (-1), 1) := by decide +kernel
theorem dX10_frameByte_61 : decode cX10_frameByte 61 = .ok (.ireturn, 1) := by decide +kernel
theorem dX10_cacheAge_0 : decode cX10_cacheAge 0 = .ok (.aload_n 0, 1) := by decide +kernel
theorem dX10_cacheAge_1 : decode cX10_cacheAge 1 = .ok (.iconst 0, 1) := by decide +kernel
theorem dX10_cacheAge_2 : decode cX10_cacheAge 2 = .ok (.putfield 36, 3) := by decide +kernel
theorem dX10_cacheAge_5 : decode cX10_cacheAge 5 = .ok (.iload_n 1, 1) := by decide +kernel
theorem dX10_cacheAge_6 : decode cX10_cacheAge 6 = .ok (.iload_n 2, 1) := by decide +kernel
theorem dX10_cacheAge_7 : decode cX10_cacheAge 7 = .ok (.invokestatic 51, 3) := by decide +kernel
theorem dX10_cacheAge_10 : decode cX10_cacheAge 10 = .ok (.ifCond .ne 9, 3) := by decide +kernel
theorem dX10_cacheAge_13 : decode cX10_cacheAge 13 = .ok (.aload_n 0, 1) := by decide +kernel
theorem dX10_cacheAge_14 : decode cX10_cacheAge 14 = .ok (.iconst 1, 1) := by decide +kernel
theorem dX10_cacheAge_15 : decode cX10_cacheAge 15 = .ok (.invokevirtual 43, 3) := by decide +kernel
theorem dX10_cacheAge_18 : decode cX10_cacheAge 18 = .ok (.ireturn, 1) := by decide +kernel
theorem dX10_cacheAge_19 : decode cX10_cacheAge 19 = .ok (.iload_n 1, 1) := by decide +kernel
theorem dX10_cacheAge_20 : decode cX10_cacheAge 20 = .ok (.iload_n 2, 1) := by decide +kernel
theorem dX10_cacheAge_21 : decode cX10_cacheAge 21 = .ok (.invokestatic 79, 3) := by decide +kernel
theorem dX10_cacheAge_24 : decode cX10_cacheAge 24 = .ok (.istore_n 3, 1) := by decide +kernel
theorem dX10_cacheAge_25 : decode cX10_cacheAge 25 = .ok (.aload_n 0, 1) := by decide +kernel
theorem dX10_cacheAge_26 : decode cX10_cacheAge 26 = .ok (.getfield 7, 3) := by decide +kernel
theorem dX10_cacheAge_29 : decode cX10_cacheAge 29 = .ok (.iload_n 3, 1) := by decide +kernel
theorem dX10_cacheAge_30 : decode cX10_cacheAge 30 = .ok (.iaload, 1) := by decide +kernel
theorem dX10_cacheAge_31 : decode cX10_cacheAge 31 = .ok (.iconst 1, 1) := by decide +kernel
theorem dX10_cacheAge_32 : decode cX10_cacheAge 32 = .ok (.if_icmp .ne 21, 3) := by decide +kernel
theorem dX10_cacheAge_35 : decode cX10_cacheAge 35 = .ok (.aload_n 0, 1) := by decide +kernel
theorem dX10_cacheAge_36 : decode cX10_cacheAge 36 = .ok (.getfield 7, 3) := by decide +kernel
theorem dX10_cacheAge_39 : decode cX10_cacheAge 39 = .ok (.iconst 0, 1) := by decide +kernel
theorem dX10_cacheAge_40 : decode cX10_cacheAge 40 = .ok (.iaload, 1) := by decide +kernel
theorem dX10_cacheAge_41 : decode cX10_cacheAge 41 = .ok (.aload_n 0, 1) := by decide +kernel
theorem dX10_cacheAge_42 : decode cX10_cacheAge 42 = .ok (.getfield 7, 3) := by decide +kernel
theorem dX10_cacheAge_45 : decode cX10_cacheAge 45 = .ok (.iload_n 3, 1) := by decide +kernel
theorem dX10_cacheAge_46 : decode cX10_cacheAge 46 = .ok (.iconst 2, 1) := by decide +kernel
theorem dX10_cacheAge_47 : decode cX10_cacheAge 47 = .ok (.iadd, 1) := by decide +kernel
theorem dX10_cacheAge_48 : decode cX10_cacheAge 48 = .ok (.iaload, 1) := by decide +kernel
theorem dX10_cacheAge_49 : decode cX10_cacheAge 49 = .ok (.isub, 1) := by decide +kernel
theorem dX10_cacheAge_50 : decode cX10_cacheAge 50 = .ok (.goto 4, 3) := by decide +kernel
theorem dX10_cacheAge_53 : decode cX10_cacheAge 53 = .ok (.iconst (-1), 1) := by decide +kernel
theorem dX10_cacheAge_54 : decode cX10_cacheAge 54 = .ok (.ireturn, 1) := by decide +kernel
theorem dX10_cachedAt_0 : decode cX10_cachedAt 0 = .ok (.iload_n 1, 1) := by decide +kernel
theorem dX10_cachedAt_1 : decode cX10_cachedAt 1 = .ok (.iload_n 2, 1) := by decide +kernel
theorem dX10_cachedAt_2 : decode cX10_cachedAt 2 = .ok (.invokestatic 79, 3) := by decide +kernel
theorem dX10_cachedAt_5 : decode cX10_cachedAt 5 = .ok (.istore_n 3, 1) := by decide +kernel
theorem dX10_cachedAt_6 : decode cX10_cachedAt 6 = .ok (.aload_n 0, 1) := by decide +kernel
theorem dX10_cachedAt_7 : decode cX10_cachedAt 7 = .ok (.getfield 7, 3) := by decide +kernel
theorem dX10_cachedAt_10 : decode cX10_cachedAt 10 = .ok (.iload_n 3, 1) := by decide +kernel
theorem dX10_cachedAt_11 : decode cX10_cachedAt 11 = .ok (.iaload, 1) := by decide +kernel
theorem dX10_cachedAt_12 : decode cX10_cachedAt 12 = .ok (.iconst 1, 1) := by decide +kernel
theorem dX10_cachedAt_13 : decode cX10_cachedAt 13 = .ok (.if_icmp .ne 14, 3) := by decide +kernel
theorem dX10_cachedAt_16 : decode cX10_cachedAt 16 = .ok (.aload_n 0, 1) := by decide +kernel
theorem dX10_cachedAt_17 : decode cX10_cachedAt 17 = .ok (.getfield 7, 3) := by decide +kernel
theorem dX10_cachedAt_20 : decode cX10_cachedAt 20 = .ok (.iload_n 3, 1) := by decide +kernel
theorem dX10_cachedAt_21 : decode cX10_cachedAt 21 = .ok (.iconst 1, 1) := by decide +kernel
theorem dX10_cachedAt_22 : decode cX10_cachedAt 22 = .ok (.iadd, 1) := by decide +kernel
theorem dX10_cachedAt_23 : decode cX10_cachedAt 23 = .ok (.iaload, 1) := by decide +kernel
theorem dX10_cachedAt_24 : decode cX10_cachedAt 24 = .ok (.goto 4, 3) := by decide +kernel
theorem dX10_cachedAt_27 : decode cX10_cachedAt 27 = .ok (.iconst (-1), 1) := by decide +kernel
theorem dX10_cachedAt_28 : decode cX10_cachedAt 28 = .ok (.ireturn, 1) := by decide +kernel
theorem dX10_cached_0 : decode cX10_cached 0 = .ok (.aload_n 0, 1) := by decide +kernel
theorem dX10_cached_1 : decode cX10_cached 1 = .ok (.iconst 0, 1) := by decide +kernel
theorem dX10_cached_2 : decode cX10_cached 2 = .ok (.putfield 36, 3) := by decide +kernel
theorem dX10_cached_5 : decode cX10_cached 5 = .ok (.iload_n 1, 1) := by decide +kernel
theorem dX10_cached_6 : decode cX10_cached 6 = .ok (.iload_n 2, 1) := by decide +kernel
theorem dX10_cached_7 : decode cX10_cached 7 = .ok (.invokestatic 51, 3) := by decide +kernel
theorem dX10_cached_10 : decode cX10_cached 10 = .ok (.ifCond .eq 12, 3) := by decide +kernel
theorem dX10_cached_13 : decode cX10_cached 13 = .ok (.aload_n 0, 1) := by decide +kernel
theorem dX10_cached_14 : decode cX10_cached 14 = .ok (.iload_n 1, 1) := by decide +kernel
theorem dX10_cached_15 : decode cX10_cached 15 = .ok (.iload_n 2, 1) := by decide +kernel
theorem dX10_cached_16 : decode cX10_cached 16 = .ok (.invokevirtual 202, 3) := by decide +kernel
theorem dX10_cached_19 : decode cX10_cached 19 = .ok (.goto 8, 3) := by decide +kernel
theorem dX10_cached_22 : decode cX10_cached 22 = .ok (.aload_n 0, 1) := by decide +kernel
theorem dX10_cached_23 : decode cX10_cached 23 = .ok (.iconst 1, 1) := by decide +kernel
theorem dX10_cached_24 : decode cX10_cached 24 = .ok (.invokevirtual 43, 3) := by decide +kernel
theorem dX10_cached_27 : decode cX10_cached 27 = .ok (.ireturn, 1) := by decide +kernel
theorem dX10_clearCache_0 : decode cX10_clearCache 0 = .ok (.aload_n 0, 1) := by decide +kernel
theorem dX10_clearCache_1 : decode cX10_clearCache 1 = .ok (.iconst 0, 1) := by decide +kernel
theorem dX10_clearCache_2 : decode cX10_clearCache 2 = .ok (.putfield 36, 3) := by decide +kernel
theorem dX10_clearCache_5 : decode cX10_clearCache 5 = .ok (.iconst 0, 1) := by decide +kernel
theorem dX10_clearCache_6 : decode cX10_clearCache 6 = .ok (.istore_n 1, 1) := by decide +kernel
theorem dX10_clearCache_7 : decode cX10_clearCache 7 = .ok (.iconst 0, 1) := by decide +kernel
theorem dX10_clearCache_8 : decode cX10_clearCache 8 = .ok (.istore_n 2, 1) := by decide +kernel
theorem dX10_clearCache_9 : decode cX10_clearCache 9 = .ok (.iload_n 2, 1) := by decide +kernel
theorem dX10_clearCache_10 : decode cX10_clearCache 10 = .ok (.bipush 96, 2) := by decide +kernel
theorem dX10_clearCache_12 : decode cX10_clearCache 12 = .ok (.if_icmp .ge 37, 3) := by decide +kernel
theorem dX10_clearCache_15 : decode cX10_clearCache 15 = .ok (.iload_n 1, 1) := by decide +kernel
theorem dX10_clearCache_16 : decode cX10_clearCache 16 = .ok (.aload_n 0, 1) := by decide +kernel
theorem dX10_clearCache_17 : decode cX10_clearCache 17 = .ok (.getfield 7, 3) := by decide +kernel
theorem dX10_clearCache_20 : decode cX10_clearCache 20 = .ok (.sipush 1400, 3) := by decide +kernel
theorem dX10_clearCache_23 : decode cX10_clearCache 23 = .ok (.iconst 3, 1) := by decide +kernel
theorem dX10_clearCache_24 : decode cX10_clearCache 24 = .ok (.iload_n 2, 1) := by decide +kernel
theorem dX10_clearCache_25 : decode cX10_clearCache 25 = .ok (.imul, 1) := by decide +kernel
theorem dX10_clearCache_26 : decode cX10_clearCache 26 = .ok (.iadd, 1) := by decide +kernel
theorem dX10_clearCache_27 : decode cX10_clearCache 27 = .ok (.iaload, 1) := by decide +kernel
theorem dX10_clearCache_28 : decode cX10_clearCache 28 = .ok (.iadd, 1) := by decide +kernel
theorem dX10_clearCache_29 : decode cX10_clearCache 29 = .ok (.istore_n 1, 1) := by decide +kernel
theorem dX10_clearCache_30 : decode cX10_clearCache 30 = .ok (.aload_n 0, 1) := by decide +kernel
theorem dX10_clearCache_31 : decode cX10_clearCache 31 = .ok (.getfield 7, 3) := by decide +kernel
theorem dX10_clearCache_34 : decode cX10_clearCache 34 = .ok (.sipush 1400, 3) := by decide +kernel
theorem dX10_clearCache_37 : decode cX10_clearCache 37 = .ok (.iconst 3, 1) := by decide +kernel
theorem dX10_clearCache_38 : decode cX10_clearCache 38 = .ok (.iload_n 2, 1) := by decide +kernel
theorem dX10_clearCache_39 : decode cX10_clearCache 39 = .ok (.imul, 1) := by decide +kernel
theorem dX10_clearCache_40 : decode cX10_clearCache 40 = .ok (.iadd, 1) := by decide +kernel
theorem dX10_clearCache_41 : decode cX10_clearCache 41 = .ok (.iconst 0, 1) := by decide +kernel
theorem dX10_clearCache_42 : decode cX10_clearCache 42 = .ok (.iastore, 1) := by decide +kernel
theorem dX10_clearCache_43 : decode cX10_clearCache 43 = .ok (.iinc 2 1, 3) := by decide +kernel
theorem dX10_clearCache_46 : decode cX10_clearCache 46 = .ok (.goto (-37), 3) := by decide +kernel
theorem dX10_clearCache_49 : decode cX10_clearCache 49 = .ok (.iload_n 1, 1) := by decide +kernel
theorem dX10_clearCache_50 : decode cX10_clearCache 50 = .ok (.ireturn, 1) := by decide +kernel
theorem dX10_count_0 : decode cX10_count 0 = .ok (.aload_n 0, 1) := by decide +kernel
theorem dX10_count_1 : decode cX10_count 1 = .ok (.iload_n 1, 1) := by decide +kernel
theorem dX10_count_2 : decode cX10_count 2 = .ok (.iconst 0, 1) := by decide +kernel
theorem dX10_count_3 : decode cX10_count 3 = .ok (.iconst 5, 1) := by decide +kernel
theorem dX10_count_4 : decode cX10_count 4 = .ok (.invokestatic 39, 3) := by decide +kernel
theorem dX10_count_7 : decode cX10_count 7 = .ok (.ifCond .eq 7, 3) := by decide +kernel
theorem dX10_count_10 : decode cX10_count 10 = .ok (.iconst 0, 1) := by decide +kernel
theorem dX10_count_11 : decode cX10_count 11 = .ok (.goto 4, 3) := by decide +kernel
theorem dX10_count_14 : decode cX10_count 14 = .ok (.iconst 1, 1) := by decide +kernel
theorem dX10_count_15 : decode cX10_count 15 = .ok (.putfield 36, 3) := by decide +kernel
theorem dX10_count_18 : decode cX10_count 18 = .ok (.aload_n 0, 1) := by decide +kernel
theorem dX10_count_19 : decode cX10_count 19 = .ok (.getfield 36, 3) := by decide +kernel
theorem dX10_count_22 : decode cX10_count 22 = .ok (.ifCond .ne 15, 3) := by decide +kernel
theorem dX10_count_25 : decode cX10_count 25 = .ok (.aload_n 0, 1) := by decide +kernel
theorem dX10_count_26 : decode cX10_count 26 = .ok (.getfield 7, 3) := by decide +kernel
theorem dX10_count_29 : decode cX10_count 29 = .ok (.bipush 10, 2) := by decide +kernel
theorem dX10_count_31 : decode cX10_count 31 = .ok (.iload_n 1, 1) := by decide +kernel
theorem dX10_count_32 : decode cX10_count 32 = .ok (.iadd, 1) := by decide +kernel
theorem dX10_count_33 : decode cX10_count 33 = .ok (.iaload, 1) := by decide +kernel
theorem dX10_count_34 : decode cX10_count 34 = .ok (.goto 4, 3) := by decide +kernel
theorem dX10_count_37 : decode cX10_count 37 = .ok (.iconst 0, 1) := by decide +kernel
theorem dX10_count_38 : decode cX10_count 38 = .ok (.ireturn, 1) := by decide +kernel
theorem dX10_copies_0 : decode cX10_copies 0 = .ok (.iconst 0, 1) := by decide +kernel
theorem dX10_copies_1 : decode cX10_copies 1 = .ok (.istore_n 2, 1) := by decide +kernel
theorem dX10_copies_2 : decode cX10_copies 2 = .ok (.iload_n 2, 1) := by decide +kernel
theorem dX10_copies_3 : decode cX10_copies 3 = .ok (.sipush 8900, 3) := by decide +kernel
theorem dX10_copies_6 : decode cX10_copies 6 = .ok (.if_icmp .ge 15, 3) := by decide +kernel
theorem dX10_copies_9 : decode cX10_copies 9 = .ok (.aload_n 1, 1) := by decide +kernel
theorem dX10_copies_10 : decode cX10_copies 10 = .ok (.iload_n 2, 1) := by decide +kernel
theorem dX10_copies_11 : decode cX10_copies 11 = .ok (.aload_n 0, 1) := by decide +kernel
theorem dX10_copies_12 : decode cX10_copies 12 = .ok (.iload_n 2, 1) := by decide +kernel
theorem dX10_copies_13 : decode cX10_copies 13 = .ok (.iaload, 1) := by decide +kernel
theorem dX10_copies_14 : decode cX10_copies 14 = .ok (.iastore, 1) := by decide +kernel
theorem dX10_copies_15 : decode cX10_copies 15 = .ok (.iinc 2 1, 3) := by decide +kernel
theorem dX10_copies_18 : decode cX10_copies 18 = .ok (.goto (-16), 3) := by decide +kernel
theorem dX10_copies_21 : decode cX10_copies 21 = .ok (.return_, 1) := by decide +kernel
theorem dX10_leastDrain_0 : decode cX10_leastDrain 0 = .ok (.aload_n 0, 1) := by decide +kernel
theorem dX10_leastDrain_1 : decode cX10_leastDrain 1 = .ok (.iconst 0, 1) := by decide +kernel
theorem dX10_leastDrain_2 : decode cX10_leastDrain 2 = .ok (.putfield 36, 3) := by decide +kernel
theorem dX10_leastDrain_5 : decode cX10_leastDrain 5 = .ok (.iload_n 1, 1) := by decide +kernel
theorem dX10_leastDrain_6 : decode cX10_leastDrain 6 = .ok (.iconst 0, 1) := by decide +kernel
theorem dX10_leastDrain_7 : decode cX10_leastDrain 7 = .ok (.bipush 40, 2) := by decide +kernel
theorem dX10_leastDrain_9 : decode cX10_leastDrain 9 = .ok (.invokestatic 39, 3) := by decide +kernel
theorem dX10_leastDrain_12 : decode cX10_leastDrain 12 = .ok (.ifCond .ne 9, 3) := by decide +kernel
theorem dX10_leastDrain_15 : decode cX10_leastDrain 15 = .ok (.aload_n 0, 1) := by decide +kernel
theorem dX10_leastDrain_16 : decode cX10_leastDrain 16 = .ok (.iconst 1, 1) := by decide +kernel
theorem dX10_leastDrain_17 : decode cX10_leastDrain 17 = .ok (.invokevirtual 43, 3) := by decide +kernel
theorem dX10_leastDrain_20 : decode cX10_leastDrain 20 = .ok (.ireturn, 1) := by decide +kernel
theorem dX10_leastDrain_21 : decode cX10_leastDrain 21 = .ok (.aload_n 0, 1) := by decide +kernel
theorem dX10_leastDrain_22 : decode cX10_leastDrain 22 = .ok (.getfield 7, 3) := by decide +kernel
theorem dX10_leastDrain_25 : decode cX10_leastDrain 25 = .ok (.aload_n 0, 1) := by decide +kernel
theorem dX10_leastDrain_26 : decode cX10_leastDrain 26 = .ok (.getfield 13, 3) := by decide +kernel
theorem dX10_leastDrain_29 : decode cX10_leastDrain 29 = .ok (.invokestatic 205, 3) := by decide +kernel
theorem dX10_leastDrain_32 : decode cX10_leastDrain 32 = .ok (.iconst (-1), 1) := by decide +kernel
theorem dX10_leastDrain_33 : decode cX10_leastDrain 33 = .ok (.istore_n 2, 1) := by decide +kernel
theorem dX10_leastDrain_34 : decode cX10_leastDrain 34 = .ok (.iconst 0, 1) := by decide +kernel
theorem dX10_leastDrain_35 : decode cX10_leastDrain 35 = .ok (.istore_n 3, 1) := by decide +kernel
theorem dX10_leastDrain_36 : decode cX10_leastDrain 36 = .ok (.iload_n 3, 1) := by decide +kernel
theorem dX10_leastDrain_37 : decode cX10_leastDrain 37 = .ok (.iload_n 1, 1) := by decide +kernel
theorem dX10_leastDrain_38 : decode cX10_leastDrain 38 = .ok (.if_icmp .gt 62, 3) := by decide +kernel
theorem dX10_leastDrain_41 : decode cX10_leastDrain 41 = .ok (.iload_n 2, 1) := by decide +kernel
theorem dX10_leastDrain_42 : decode cX10_leastDrain 42 = .ok (.ifCond .ge 58, 3) := by decide +kernel
theorem dX10_leastDrain_45 : decode cX10_leastDrain 45 = .ok (.aload_n 0, 1) := by decide +kernel
theorem dX10_leastDrain_46 : decode cX10_leastDrain 46 = .ok (.getfield 7, 3) := by decide +kernel
theorem dX10_leastDrain_49 : decode cX10_leastDrain 49 = .ok (.bipush 12, 2) := by decide +kernel
theorem dX10_leastDrain_51 : decode cX10_leastDrain 51 = .ok (.iaload, 1) := by decide +kernel
theorem dX10_leastDrain_52 : decode cX10_leastDrain 52 = .ok (.istore 4, 2) := by decide +kernel
theorem dX10_leastDrain_54 : decode cX10_leastDrain 54 = .ok (.aload_n 0, 1) := by decide +kernel
theorem dX10_leastDrain_55 : decode cX10_leastDrain 55 = .ok (.getfield 7, 3) := by decide +kernel
theorem dX10_leastDrain_58 : decode cX10_leastDrain 58 = .ok (.iconst 4, 1) := by decide +kernel
theorem dX10_leastDrain_59 : decode cX10_leastDrain 59 = .ok (.iload_n 3, 1) := by decide +kernel
theorem dX10_leastDrain_60 : decode cX10_leastDrain 60 = .ok (.iastore, 1) := by decide +kernel
theorem dX10_leastDrain_61 : decode cX10_leastDrain 61 = .ok (.aload_n 0, 1) := by decide +kernel
theorem dX10_leastDrain_62 : decode cX10_leastDrain 62 = .ok (.invokevirtual 198, 3) := by decide +kernel
theorem dX10_leastDrain_65 : decode cX10_leastDrain 65 = .ok (.aload_n 0, 1) := by decide +kernel
theorem dX10_leastDrain_66 : decode cX10_leastDrain 66 = .ok (.getfield 7, 3) := by decide +kernel
theorem dX10_leastDrain_69 : decode cX10_leastDrain 69 = .ok (.bipush 12, 2) := by decide +kernel
theorem dX10_leastDrain_71 : decode cX10_leastDrain 71 = .ok (.iaload, 1) := by decide +kernel
theorem dX10_leastDrain_72 : decode cX10_leastDrain 72 = .ok (.iload 4, 2) := by decide +kernel
theorem dX10_leastDrain_74 : decode cX10_leastDrain 74 = .ok (.if_icmp .ne 7, 3) := by decide +kernel
theorem dX10_leastDrain_77 : decode cX10_leastDrain 77 = .ok (.iload_n 3, 1) := by decide +kernel
theorem dX10_leastDrain_78 : decode cX10_leastDrain 78 = .ok (.goto 4, 3) := by decide +kernel
theorem dX10_leastDrain_81 : decode cX10_leastDrain 81 = .ok (.iconst (-1), 1) := by decide +kernel
theorem dX10_leastDrain_82 : decode cX10_leastDrain 82 = .ok (.istore_n 2, 1) := by decide +kernel
theorem dX10_leastDrain_83 : decode cX10_leastDrain 83 = .ok (.aload_n 0, 1) := by decide +kernel
theorem dX10_leastDrain_84 : decode cX10_leastDrain 84 = .ok (.getfield 13, 3) := by decide +kernel
theorem dX10_leastDrain_87 : decode cX10_leastDrain 87 = .ok (.aload_n 0, 1) := by decide +kernel
theorem dX10_leastDrain_88 : decode cX10_leastDrain 88 = .ok (.getfield 7, 3) := by decide +kernel
theorem dX10_leastDrain_91 : decode cX10_leastDrain 91 = .ok (.invokestatic 205, 3) := by decide +kernel
theorem dX10_leastDrain_94 : decode cX10_leastDrain 94 = .ok (.iinc 3 1, 3) := by decide +kernel
theorem dX10_leastDrain_97 : decode cX10_leastDrain 97 = .ok (.goto (-61), 3) := by decide +kernel
theorem dX10_leastDrain_100 : decode cX10_leastDrain 100 = .ok (.iload_n 2, 1) := by decide +kernel
theorem dX10_leastDrain_101 : decode cX10_leastDrain 101 = .ok (.ireturn, 1) := by decide +kernel
theorem dX10_endsFrame_0 : decode cX10_endsFrame 0 = .ok (.aload_n 0, 1) := by decide +kernel
theorem dX10_endsFrame_1 : decode cX10_endsFrame 1 = .ok (.getfield 209, 3) := by decide +kernel
theorem dX10_endsFrame_4 : decode cX10_endsFrame 4 = .ok (.ifCond .ne 4, 3) := by decide +kernel
theorem dX10_endsFrame_7 : decode cX10_endsFrame 7 = .ok (.return_, 1) := by decide +kernel
theorem dX10_endsFrame_8 : decode cX10_endsFrame 8 = .ok (.aload_n 0, 1) := by decide +kernel
theorem dX10_endsFrame_9 : decode cX10_endsFrame 9 = .ok (.getfield 209, 3) := by decide +kernel
theorem dX10_endsFrame_12 : decode cX10_endsFrame 12 = .ok (.iconst 4, 1) := by decide +kernel
theorem dX10_endsFrame_13 : decode cX10_endsFrame 13 = .ok (.if_icmp .ge 7, 3) := by decide +kernel
theorem dX10_endsFrame_16 : decode cX10_endsFrame 16 = .ok (.iconst 1, 1) := by decide +kernel
theorem dX10_endsFrame_17 : decode cX10_endsFrame 17 = .ok (.goto 39, 3) := by decide +kernel
theorem dX10_endsFrame_20 : decode cX10_endsFrame 20 = .ok (.aload_n 0, 1) := by decide +kernel
theorem dX10_endsFrame_21 : decode cX10_endsFrame 21 = .ok (.getfield 209, 3) := by decide +kernel
theorem dX10_endsFrame_24 : decode cX10_endsFrame 24 = .ok (.bipush 30, 2) := by decide +kernel
theorem dX10_endsFrame_26 : decode cX10_endsFrame 26 = .ok (.if_icmp .le 7, 3) := by decide +kernel
theorem dX10_endsFrame_29 : decode cX10_endsFrame 29 = .ok (.iconst 2, 1) := by decide +kernel
theorem dX10_endsFrame_30 : decode cX10_endsFrame 30 = .ok (.goto 26, 3) := by decide +kernel
theorem dX10_endsFrame_33 : decode cX10_endsFrame 33 = .ok (.aload_n 0, 1) := by decide +kernel
theorem dX10_endsFrame_34 : decode cX10_endsFrame 34 = .ok (.getfield 212, 3) := by decide +kernel
theorem dX10_endsFrame_37 : decode cX10_endsFrame 37 = .ok (.ifCond .eq 7, 3) := by decide +kernel
theorem dX10_endsFrame_40 : decode cX10_endsFrame 40 = .ok (.iconst 3, 1) := by decide +kernel
theorem dX10_endsFrame_41 : decode cX10_endsFrame 41 = .ok (.goto 15, 3) := by decide +kernel
theorem dX10_endsFrame_44 : decode cX10_endsFrame 44 = .ok (.aload_n 0, 1) := by decide +kernel
theorem dX10_endsFrame_45 : decode cX10_endsFrame 45 = .ok (.getfield 26, 3) := by decide +kernel
theorem dX10_endsFrame_48 : decode cX10_endsFrame 48 = .ok (.ifCond .eq 7, 3) := by decide +kernel
theorem dX10_endsFrame_51 : decode cX10_endsFrame 51 = .ok (.iconst 4, 1) := by decide +kernel
theorem dX10_endsFrame_52 : decode cX10_endsFrame 52 = .ok (.goto 4, 3) := by decide +kernel
theorem dX10_endsFrame_55 : decode cX10_endsFrame 55 = .ok (.iconst 0, 1) := by decide +kernel
theorem dX10_endsFrame_56 : decode cX10_endsFrame 56 = .ok (.istore_n 1, 1) := by decide +kernel
theorem dX10_endsFrame_57 : decode cX10_endsFrame 57 = .ok (.aload_n 0, 1) := by decide +kernel
theorem dX10_endsFrame_58 : decode cX10_endsFrame 58 = .ok (.getfield 30, 3) := by decide +kernel
theorem dX10_endsFrame_61 : decode cX10_endsFrame 61 = .ok (.aload_n 0, 1) := by decide +kernel
theorem dX10_endsFrame_62 : decode cX10_endsFrame 62 = .ok (.getfield 215, 3) := by decide +kernel
theorem dX10_endsFrame_65 : decode cX10_endsFrame 65 = .ok (.bipush 10, 2) := by decide +kernel
theorem dX10_endsFrame_67 : decode cX10_endsFrame 67 = .ok (.irem, 1) := by decide +kernel
theorem dX10_endsFrame_68 : decode cX10_endsFrame 68 = .ok (.iload_n 1, 1) := by decide +kernel
theorem dX10_endsFrame_69 : decode cX10_endsFrame 69 = .ok (.iastore, 1) := by decide +kernel
theorem dX10_endsFrame_70 : decode cX10_endsFrame 70 = .ok (.aload_n 0, 1) := by decide +kernel
theorem dX10_endsFrame_71 : decode cX10_endsFrame 71 = .ok (.getfield 33, 3) := by decide +kernel
theorem dX10_endsFrame_74 : decode cX10_endsFrame 74 = .ok (.aload_n 0, 1) := by decide +kernel
theorem dX10_endsFrame_75 : decode cX10_endsFrame 75 = .ok (.getfield 215, 3) := by decide +kernel
theorem dX10_endsFrame_78 : decode cX10_endsFrame 78 = .ok (.bipush 10, 2) := by decide +kernel
theorem dX10_endsFrame_80 : decode cX10_endsFrame 80 = .ok (.irem, 1) := by decide +kernel
theorem dX10_endsFrame_81 : decode cX10_endsFrame 81 = .ok (.aload_n 0, 1) := by decide +kernel
theorem dX10_endsFrame_82 : decode cX10_endsFrame 82 = .ok (.getfield 209, 3) := by decide +kernel
theorem dX10_endsFrame_85 : decode cX10_endsFrame 85 = .ok (.iastore, 1) := by decide +kernel
theorem dX10_endsFrame_86 : decode cX10_endsFrame 86 = .ok (.aload_n 0, 1) := by decide +kernel
theorem dX10_endsFrame_87 : decode cX10_endsFrame 87 = .ok (.dup, 1) := by decide +kernel
theorem dX10_endsFrame_88 : decode cX10_endsFrame 88 = .ok (.getfield 215, 3) := by decide +kernel
theorem dX10_endsFrame_91 : decode cX10_endsFrame 91 = .ok (.iconst 1, 1) := by decide +kernel
theorem dX10_endsFrame_92 : decode cX10_endsFrame 92 = .ok (.iadd, 1) := by decide +kernel
theorem dX10_endsFrame_93 : decode cX10_endsFrame 93 = .ok (.putfield 215, 3) := by decide +kernel
theorem dX10_endsFrame_96 : decode cX10_endsFrame 96 = .ok (.aload_n 0, 1) := by decide +kernel
theorem dX10_endsFrame_97 : decode cX10_endsFrame 97 = .ok (.iconst 0, 1) := by decide +kernel
theorem dX10_endsFrame_98 : decode cX10_endsFrame 98 = .ok (.putfield 209, 3) := by decide +kernel
theorem dX10_endsFrame_101 : decode cX10_endsFrame 101 = .ok (.aload_n 0, 1) := by decide +kernel
theorem dX10_endsFrame_102 : decode cX10_endsFrame 102 = .ok (.iconst 0, 1) := by decide +kernel
theorem dX10_endsFrame_103 : decode cX10_endsFrame 103 = .ok (.putfield 212, 3) := by decide +kernel
theorem dX10_endsFrame_106 : decode cX10_endsFrame 106 = .ok (.aload_n 0, 1) := by decide +kernel
theorem dX10_endsFrame_107 : decode cX10_endsFrame 107 = .ok (.ldc 25, 2) := by decide +kernel
theorem dX10_endsFrame_109 : decode cX10_endsFrame 109 = .ok (.putfield 26, 3) := by decide +kernel
theorem dX10_endsFrame_112 : decode cX10_endsFrame 112 = .ok (.return_, 1) := by decide +kernel
theorem dX10_feed_0 : decode cX10_feed 0 = .ok (.aload_n 0, 1) := by decide +kernel
theorem dX10_feed_1 : decode cX10_feed 1 = .ok (.iconst 0, 1) := by decide +kernel
theorem dX10_feed_2 : decode cX10_feed 2 = .ok (.putfield 36, 3) := by decide +kernel
theorem dX10_feed_5 : decode cX10_feed 5 = .ok (.iload_n 1, 1) := by decide +kernel
theorem dX10_feed_6 : decode cX10_feed 6 = .ok (.iconst 0, 1) := by decide +kernel
theorem dX10_feed_7 : decode cX10_feed 7 = .ok (.sipush 255, 3) := by decide +kernel
theorem dX10_feed_10 : decode cX10_feed 10 = .ok (.invokestatic 39, 3) := by decide +kernel
theorem dX10_feed_13 : decode cX10_feed 13 = .ok (.ifCond .eq 14, 3) := by decide +kernel
theorem dX10_feed_16 : decode cX10_feed 16 = .ok (.iload_n 2, 1) := by decide +kernel
theorem dX10_feed_17 : decode cX10_feed 17 = .ok (.iconst 0, 1) := by decide +kernel
theorem dX10_feed_18 : decode cX10_feed 18 = .ok (.sipush 1000, 3) := by decide +kernel
theorem dX10_feed_21 : decode cX10_feed 21 = .ok (.invokestatic 39, 3) := by decide +kernel
theorem dX10_feed_24 : decode cX10_feed 24 = .ok (.ifCond .ne 9, 3) := by decide +kernel
theorem dX10_feed_27 : decode cX10_feed 27 = .ok (.aload_n 0, 1) := by decide +kernel
theorem dX10_feed_28 : decode cX10_feed 28 = .ok (.iconst 1, 1) := by decide +kernel
theorem dX10_feed_29 : decode cX10_feed 29 = .ok (.invokevirtual 43, 3) := by decide +kernel
theorem dX10_feed_32 : decode cX10_feed 32 = .ok (.ireturn, 1) := by decide +kernel
theorem dX10_feed_33 : decode cX10_feed 33 = .ok (.iload_n 2, 1) := by decide +kernel
theorem dX10_feed_34 : decode cX10_feed 34 = .ok (.iconst 4, 1) := by decide +kernel
theorem dX10_feed_35 : decode cX10_feed 35 = .ok (.if_icmp .lt 7, 3) := by decide +kernel
theorem dX10_feed_38 : decode cX10_feed 38 = .ok (.aload_n 0, 1) := by decide +kernel
theorem dX10_feed_39 : decode cX10_feed 39 = .ok (.invokevirtual 218, 3) := by decide +kernel
theorem dX10_feed_42 : decode cX10_feed 42 = .ok (.aload_n 0, 1) := by decide +kernel
theorem dX10_feed_43 : decode cX10_feed 43 = .ok (.aload_n 0, 1) := by decide +kernel
theorem dX10_feed_44 : decode cX10_feed 44 = .ok (.getfield 212, 3) := by decide +kernel
theorem dX10_feed_47 : decode cX10_feed 47 = .ok (.ifCond .ne 15, 3) := by decide +kernel
theorem dX10_feed_50 : decode cX10_feed 50 = .ok (.aload_n 0, 1) := by decide +kernel
theorem dX10_feed_51 : decode cX10_feed 51 = .ok (.getfield 209, 3) := by decide +kernel
theorem dX10_feed_54 : decode cX10_feed 54 = .ok (.ifCond .le 12, 3) := by decide +kernel
theorem dX10_feed_57 : decode cX10_feed 57 = .ok (.iload_n 2, 1) := by decide +kernel
theorem dX10_feed_58 : decode cX10_feed 58 = .ok (.iconst 2, 1) := by decide +kernel
theorem dX10_feed_59 : decode cX10_feed 59 = .ok (.if_icmp .lt 7, 3) := by decide +kernel
theorem dX10_feed_62 : decode cX10_feed 62 = .ok (.iconst 1, 1) := by decide +kernel
theorem dX10_feed_63 : decode cX10_feed 63 = .ok (.goto 4, 3) := by decide +kernel
theorem dX10_feed_66 : decode cX10_feed 66 = .ok (.iconst 0, 1) := by decide +kernel
theorem dX10_feed_67 : decode cX10_feed 67 = .ok (.putfield 212, 3) := by decide +kernel
theorem dX10_feed_70 : decode cX10_feed 70 = .ok (.aload_n 0, 1) := by decide +kernel
theorem dX10_feed_71 : decode cX10_feed 71 = .ok (.aload_n 0, 1) := by decide +kernel
theorem dX10_feed_72 : decode cX10_feed 72 = .ok (.getfield 26, 3) := by decide +kernel
theorem dX10_feed_75 : decode cX10_feed 75 = .ok (.iload_n 1, 1) := by decide +kernel
theorem dX10_feed_76 : decode cX10_feed 76 = .ok (.invokestatic 125, 3) := by decide +kernel
theorem dX10_feed_79 : decode cX10_feed 79 = .ok (.putfield 26, 3) := by decide +kernel
theorem dX10_feed_82 : decode cX10_feed 82 = .ok (.aload_n 0, 1) := by decide +kernel
theorem dX10_feed_83 : decode cX10_feed 83 = .ok (.dup, 1) := by decide +kernel
theorem dX10_feed_84 : decode cX10_feed 84 = .ok (.getfield 209, 3) := by decide +kernel
theorem dX10_feed_87 : decode cX10_feed 87 = .ok (.iconst 1, 1) := by decide +kernel
theorem dX10_feed_88 : decode cX10_feed 88 = .ok (.iadd, 1) := by decide +kernel
theorem dX10_feed_89 : decode cX10_feed 89 = .ok (.putfield 209, 3) := by decide +kernel
theorem dX10_feed_92 : decode cX10_feed 92 = .ok (.aload_n 0, 1) := by decide +kernel
theorem dX10_feed_93 : decode cX10_feed 93 = .ok (.getfield 209, 3) := by decide +kernel
theorem dX10_feed_96 : decode cX10_feed 96 = .ok (.ireturn, 1) := by decide +kernel
theorem dX10_endFrame_0 : decode cX10_endFrame 0 = .ok (.aload_n 0, 1) := by decide +kernel
theorem dX10_endFrame_1 : decode cX10_endFrame 1 = .ok (.iconst 0, 1) := by decide +kernel
theorem dX10_endFrame_2 : decode cX10_endFrame 2 = .ok (.putfield 36, 3) := by decide +kernel
theorem dX10_endFrame_5 : decode cX10_endFrame 5 = .ok (.aload_n 0, 1) := by decide +kernel
theorem dX10_endFrame_6 : decode cX10_endFrame 6 = .ok (.invokevirtual 218, 3) := by decide +kernel
theorem dX10_endFrame_9 : decode cX10_endFrame 9 = .ok (.aload_n 0, 1) := by decide +kernel
theorem dX10_endFrame_10 : decode cX10_endFrame 10 = .ok (.getfield 215, 3) := by decide +kernel
theorem dX10_endFrame_13 : decode cX10_endFrame 13 = .ok (.ireturn, 1) := by decide +kernel
theorem dX10_isKept_0 : decode cX10_isKept 0 = .ok (.iload_n 1, 1) := by decide +kernel
theorem dX10_isKept_1 : decode cX10_isKept 1 = .ok (.bipush 10, 2) := by decide +kernel
theorem dX10_isKept_3 : decode cX10_isKept 3 = .ok (.if_icmp .ge 15, 3) := by decide +kernel
theorem dX10_isKept_6 : decode cX10_isKept 6 = .ok (.iload_n 1, 1) := by decide +kernel
theorem dX10_isKept_7 : decode cX10_isKept 7 = .ok (.aload_n 0, 1) := by decide +kernel
theorem dX10_isKept_8 : decode cX10_isKept 8 = .ok (.getfield 215, 3) := by decide +kernel
theorem dX10_isKept_11 : decode cX10_isKept 11 = .ok (.if_icmp .ge 7, 3) := by decide +kernel
theorem dX10_isKept_14 : decode cX10_isKept 14 = .ok (.iconst 1, 1) := by decide +kernel
theorem dX10_isKept_15 : decode cX10_isKept 15 = .ok (.goto 4, 3) := by decide +kernel
theorem dX10_isKept_18 : decode cX10_isKept 18 = .ok (.iconst 0, 1) := by decide +kernel
theorem dX10_isKept_19 : decode cX10_isKept 19 = .ok (.ireturn, 1) := by decide +kernel
theorem dX10_verdict_0 : decode cX10_verdict 0 = .ok (.aload_n 0, 1) := by decide +kernel
theorem dX10_verdict_1 : decode cX10_verdict 1 = .ok (.iload_n 1, 1) := by decide +kernel
theorem dX10_verdict_2 : decode cX10_verdict 2 = .ok (.ifCond .ge 7, 3) := by decide +kernel
theorem dX10_verdict_5 : decode cX10_verdict 5 = .ok (.iconst 1, 1) := by decide +kernel
theorem dX10_verdict_6 : decode cX10_verdict 6 = .ok (.goto 4, 3) := by decide +kernel
theorem dX10_verdict_9 : decode cX10_verdict 9 = .ok (.iconst 0, 1) := by decide +kernel
theorem dX10_verdict_10 : decode cX10_verdict 10 = .ok (.putfield 36, 3) := by decide +kernel
theorem dX10_verdict_13 : decode cX10_verdict 13 = .ok (.iload_n 1, 1) := by decide +kernel
theorem dX10_verdict_14 : decode cX10_verdict 14 = .ok (.ifCond .ge 7, 3) := by decide +kernel
theorem dX10_verdict_17 : decode cX10_verdict 17 = .ok (.iconst 0, 1) := by decide +kernel
theorem dX10_verdict_18 : decode cX10_verdict 18 = .ok (.goto 31, 3) := by decide +kernel
theorem dX10_verdict_21 : decode cX10_verdict 21 = .ok (.aload_n 0, 1) := by decide +kernel
theorem dX10_verdict_22 : decode cX10_verdict 22 = .ok (.iload_n 1, 1) := by decide +kernel
theorem dX10_verdict_23 : decode cX10_verdict 23 = .ok (.invokevirtual 221, 3) := by decide +kernel
theorem dX10_verdict_26 : decode cX10_verdict 26 = .ok (.ifCond .eq 22, 3) := by decide +kernel
theorem dX10_verdict_29 : decode cX10_verdict 29 = .ok (.aload_n 0, 1) := by decide +kernel
theorem dX10_verdict_30 : decode cX10_verdict 30 = .ok (.getfield 30, 3) := by decide +kernel
theorem dX10_verdict_33 : decode cX10_verdict 33 = .ok (.aload_n 0, 1) := by decide +kernel
theorem dX10_verdict_34 : decode cX10_verdict 34 = .ok (.getfield 215, 3) := by decide +kernel
theorem dX10_verdict_37 : decode cX10_verdict 37 = .ok (.iconst 1, 1) := by decide +kernel
theorem dX10_verdict_38 : decode cX10_verdict 38 = .ok (.isub, 1) := by decide +kernel
theorem dX10_verdict_39 : decode cX10_verdict 39 = .ok (.iload_n 1, 1) := by decide +kernel
theorem dX10_verdict_40 : decode cX10_verdict 40 = .ok (.isub, 1) := by decide +kernel
theorem dX10_verdict_41 : decode cX10_verdict 41 = .ok (.bipush 10, 2) := by decide +kernel
theorem dX10_verdict_43 : decode cX10_verdict 43 = .ok (.irem, 1) := by decide +kernel
theorem dX10_verdict_44 : decode cX10_verdict 44 = .ok (.iaload, 1) := by decide +kernel
theorem dX10_verdict_45 : decode cX10_verdict 45 = .ok (.goto 4, 3) := by decide +kernel
theorem dX10_verdict_48 : decode cX10_verdict 48 = .ok (.iconst (-1), 1) := by decide +kernel
theorem dX10_verdict_49 : decode cX10_verdict 49 = .ok (.ireturn, 1) := by decide +kernel
theorem dX10_length_0 : decode cX10_length 0 = .ok (.aload_n 0, 1) := by decide +kernel
theorem dX10_length_1 : decode cX10_length 1 = .ok (.iload_n 1, 1) := by decide +kernel
theorem dX10_length_2 : decode cX10_length 2 = .ok (.ifCond .ge 7, 3) := by decide +kernel
theorem dX10_length_5 : decode cX10_length 5 = .ok (.iconst 1, 1) := by decide +kernel
theorem dX10_length_6 : decode cX10_length 6 = .ok (.goto 4, 3) := by decide +kernel
theorem dX10_length_9 : decode cX10_length 9 = .ok (.iconst 0, 1) := by decide +kernel
theorem dX10_length_10 : decode cX10_length 10 = .ok (.putfield 36, 3) := by decide +kernel
theorem dX10_length_13 : decode cX10_length 13 = .ok (.iload_n 1, 1) := by decide +kernel
theorem dX10_length_14 : decode cX10_length 14 = .ok (.ifCond .ge 7, 3) := by decide +kernel
theorem dX10_length_17 : decode cX10_length 17 = .ok (.iconst 0, 1) := by decide +kernel
theorem dX10_length_18 : decode cX10_length 18 = .ok (.goto 31, 3) := by decide +kernel
theorem dX10_length_21 : decode cX10_length 21 = .ok (.aload_n 0, 1) := by decide +kernel
theorem dX10_length_22 : decode cX10_length 22 = .ok (.iload_n 1, 1) := by decide +kernel
theorem dX10_length_23 : decode cX10_length 23 = .ok (.invokevirtual 221, 3) := by decide +kernel
theorem dX10_length_26 : decode cX10_length 26 = .ok (.ifCond .eq 22, 3) := by decide +kernel
theorem dX10_length_29 : decode cX10_length 29 = .ok (.aload_n 0, 1) := by decide +kernel
theorem dX10_length_30 : decode cX10_length 30 = .ok (.getfield 33, 3) := by decide +kernel
theorem dX10_length_33 : decode cX10_length 33 = .ok (.aload_n 0, 1) := by decide +kernel
theorem dX10_length_34 : decode cX10_length 34 = .ok (.getfield 215, 3) := by decide +kernel
theorem dX10_length_37 : decode cX10_length 37 = .ok (.iconst 1, 1) := by decide +kernel
theorem dX10_length_38 : decode cX10_length 38 = .ok (.isub, 1) := by decide +kernel
theorem dX10_length_39 : decode cX10_length 39 = .ok (.iload_n 1, 1) := by decide +kernel
theorem dX10_length_40 : decode cX10_length 40 = .ok (.isub, 1) := by decide +kernel
theorem dX10_length_41 : decode cX10_length 41 = .ok (.bipush 10, 2) := by decide +kernel
theorem dX10_length_43 : decode cX10_length 43 = .ok (.irem, 1) := by decide +kernel
theorem dX10_length_44 : decode cX10_length 44 = .ok (.iaload, 1) := by decide +kernel
theorem dX10_length_45 : decode cX10_length 45 = .ok (.goto 4, 3) := by decide +kernel
theorem dX10_length_48 : decode cX10_length 48 = .ok (.iconst (-1), 1) := by decide +kernel
theorem dX10_length_49 : decode cX10_length 49 = .ok (.ireturn, 1) := by decide +kernel
theorem dX10_checksum_0 : decode cX10_checksum 0 = .ok (.aload_n 0, 1) := by decide +kernel
theorem dX10_checksum_1 : decode cX10_checksum 1 = .ok (.iconst 0, 1) := by decide +kernel
theorem dX10_checksum_2 : decode cX10_checksum 2 = .ok (.putfield 36, 3) := by decide +kernel
theorem dX10_checksum_5 : decode cX10_checksum 5 = .ok (.aload_n 0, 1) := by decide +kernel
theorem dX10_checksum_6 : decode cX10_checksum 6 = .ok (.getfield 26, 3) := by decide +kernel
theorem dX10_checksum_9 : decode cX10_checksum 9 = .ok (.ireturn, 1) := by decide +kernel
theorem dX10_fingerprint_0 : decode cX10_fingerprint 0 = .ok (.aload_n 0, 1) := by decide +kernel
theorem dX10_fingerprint_1 : decode cX10_fingerprint 1 = .ok (.iconst 0, 1) := by decide +kernel
theorem dX10_fingerprint_2 : decode cX10_fingerprint 2 = .ok (.putfield 36, 3) := by decide +kernel
theorem dX10_fingerprint_5 : decode cX10_fingerprint 5 = .ok (.ldc2_w 224, 3) := by decide +kernel
theorem dX10_fingerprint_8 : decode cX10_fingerprint 8 = .ok (.aload_n 0, 1) := by decide +kernel
theorem dX10_fingerprint_9 : decode cX10_fingerprint 9 = .ok (.getfield 7, 3) := by decide +kernel
theorem dX10_fingerprint_12 : decode cX10_fingerprint 12 = .ok (.iconst 0, 1) := by decide +kernel
theorem dX10_fingerprint_13 : decode cX10_fingerprint 13 = .ok (.iaload, 1) := by decide +kernel
theorem dX10_fingerprint_14 : decode cX10_fingerprint 14 = .ok (.i2l, 1) := by decide +kernel
theorem dX10_fingerprint_15 : decode cX10_fingerprint 15 = .ok (.ladd, 1) := by decide +kernel
theorem dX10_fingerprint_16 : decode cX10_fingerprint 16 = .ok (.lstore_n 1, 1) := by decide +kernel
theorem dX10_fingerprint_17 : decode cX10_fingerprint 17 = .ok (.iconst 0, 1) := by decide +kernel
theorem dX10_fingerprint_18 : decode cX10_fingerprint 18 = .ok (.istore_n 3, 1) := by decide +kernel
theorem dX10_fingerprint_19 : decode cX10_fingerprint 19 = .ok (.iload_n 3, 1) := by decide +kernel
theorem dX10_fingerprint_20 : decode cX10_fingerprint 20 = .ok (.bipush 6, 2) := by decide +kernel
theorem dX10_fingerprint_22 : decode cX10_fingerprint 22 = .ok (.if_icmp .ge 26, 3) := by decide +kernel
theorem dX10_fingerprint_25 : decode cX10_fingerprint 25 = .ok (.ldc2_w 226, 3) := by decide +kernel
theorem dX10_fingerprint_28 : decode cX10_fingerprint 28 = .ok (.lload_n 1, 1) := by decide +kernel
theorem dX10_fingerprint_29 : decode cX10_fingerprint 29 = .ok (.lmul, 1) := by decide +kernel
theorem dX10_fingerprint_30 : decode cX10_fingerprint 30 = .ok (.aload_n 0, 1) := by decide +kernel
theorem dX10_fingerprint_31 : decode cX10_fingerprint 31 = .ok (.getfield 7, 3) := by decide +kernel
theorem dX10_fingerprint_34 : decode cX10_fingerprint 34 = .ok (.bipush 10, 2) := by decide +kernel
theorem dX10_fingerprint_36 : decode cX10_fingerprint 36 = .ok (.iload_n 3, 1) := by decide +kernel
theorem dX10_fingerprint_37 : decode cX10_fingerprint 37 = .ok (.iadd, 1) := by decide +kernel
theorem dX10_fingerprint_38 : decode cX10_fingerprint 38 = .ok (.iaload, 1) := by decide +kernel
theorem dX10_fingerprint_39 : decode cX10_fingerprint 39 = .ok (.i2l, 1) := by decide +kernel
theorem dX10_fingerprint_40 : decode cX10_fingerprint 40 = .ok (.ladd, 1) := by decide +kernel
theorem dX10_fingerprint_41 : decode cX10_fingerprint 41 = .ok (.lstore_n 1, 1) := by decide +kernel
theorem dX10_fingerprint_42 : decode cX10_fingerprint 42 = .ok (.iinc 3 1, 3) := by decide +kernel
theorem dX10_fingerprint_45 : decode cX10_fingerprint 45 = .ok (.goto (-26), 3) := by decide +kernel
theorem dX10_fingerprint_48 : decode cX10_fingerprint 48 = .ok (.iconst 0, 1) := by decide +kernel
theorem dX10_fingerprint_49 : decode cX10_fingerprint 49 = .ok (.istore_n 3, 1) := by decide +kernel
theorem dX10_fingerprint_50 : decode cX10_fingerprint 50 = .ok (.iload_n 3, 1) := by decide +kernel
theorem dX10_fingerprint_51 : decode cX10_fingerprint 51 = .ok (.iconst 3, 1) := by decide +kernel
theorem dX10_fingerprint_52 : decode cX10_fingerprint 52 = .ok (.if_icmp .ge 23, 3) := by decide +kernel
theorem dX10_fingerprint_55 : decode cX10_fingerprint 55 = .ok (.ldc2_w 226, 3) := by decide +kernel
theorem dX10_fingerprint_58 : decode cX10_fingerprint 58 = .ok (.lload_n 1, 1) := by decide +kernel
theorem dX10_fingerprint_59 : decode cX10_fingerprint 59 = .ok (.lmul, 1) := by decide +kernel
theorem dX10_fingerprint_60 : decode cX10_fingerprint 60 = .ok (.aload_n 0, 1) := by decide +kernel
theorem dX10_fingerprint_61 : decode cX10_fingerprint 61 = .ok (.iconst (-1), 1) := by decide +kernel
theorem dX10_fingerprint_62 : decode cX10_fingerprint 62 = .ok (.iload_n 3, 1) := by decide +kernel
theorem dX10_fingerprint_63 : decode cX10_fingerprint 63 = .ok (.invokevirtual 76, 3) := by decide +kernel
theorem dX10_fingerprint_66 : decode cX10_fingerprint 66 = .ok (.i2l, 1) := by decide +kernel
theorem dX10_fingerprint_67 : decode cX10_fingerprint 67 = .ok (.ladd, 1) := by decide +kernel
theorem dX10_fingerprint_68 : decode cX10_fingerprint 68 = .ok (.lstore_n 1, 1) := by decide +kernel
theorem dX10_fingerprint_69 : decode cX10_fingerprint 69 = .ok (.iinc 3 1, 3) := by decide +kernel
theorem dX10_fingerprint_72 : decode cX10_fingerprint 72 = .ok (.goto (-22), 3) := by decide +kernel
theorem dX10_fingerprint_75 : decode cX10_fingerprint 75 = .ok (.iconst 0, 1) := by decide +kernel
theorem dX10_fingerprint_76 : decode cX10_fingerprint 76 = .ok (.istore_n 3, 1) := by decide +kernel
theorem dX10_fingerprint_77 : decode cX10_fingerprint 77 = .ok (.iload_n 3, 1) := by decide +kernel
theorem dX10_fingerprint_78 : decode cX10_fingerprint 78 = .ok (.aload_n 0, 1) := by decide +kernel
theorem dX10_fingerprint_79 : decode cX10_fingerprint 79 = .ok (.getfield 7, 3) := by decide +kernel
theorem dX10_fingerprint_82 : decode cX10_fingerprint 82 = .ok (.bipush 6, 2) := by decide +kernel
theorem dX10_fingerprint_84 : decode cX10_fingerprint 84 = .ok (.iaload, 1) := by decide +kernel
theorem dX10_fingerprint_85 : decode cX10_fingerprint 85 = .ok (.if_icmp .ge 121, 3) := by decide +kernel
theorem dX10_fingerprint_88 : decode cX10_fingerprint 88 = .ok (.iload_n 3, 1) := by decide +kernel
theorem dX10_fingerprint_89 : decode cX10_fingerprint 89 = .ok (.invokestatic 61, 3) := by decide +kernel
theorem dX10_fingerprint_92 : decode cX10_fingerprint 92 = .ok (.istore 4, 2) := by decide +kernel
theorem dX10_fingerprint_94 : decode cX10_fingerprint 94 = .ok (.iconst 5, 1) := by decide +kernel
theorem dX10_fingerprint_95 : decode cX10_fingerprint 95 = .ok (.istore 5, 2) := by decide +kernel
theorem dX10_fingerprint_97 : decode cX10_fingerprint 97 = .ok (.iload 5, 2) := by decide +kernel
theorem dX10_fingerprint_99 : decode cX10_fingerprint 99 = .ok (.bipush 7, 2) := by decide +kernel
theorem dX10_fingerprint_101 : decode cX10_fingerprint 101 = .ok (.if_icmp .gt 27, 3) := by decide +kernel
theorem dX10_fingerprint_104 : decode cX10_fingerprint 104 = .ok (.ldc2_w 226, 3) := by decide +kernel
theorem dX10_fingerprint_107 : decode cX10_fingerprint 107 = .ok (.lload_n 1, 1) := by decide +kernel
theorem dX10_fingerprint_108 : decode cX10_fingerprint 108 = .ok (.lmul, 1) := by decide +kernel
theorem dX10_fingerprint_109 : decode cX10_fingerprint 109 = .ok (.aload_n 0, 1) := by decide +kernel
theorem dX10_fingerprint_110 : decode cX10_fingerprint 110 = .ok (.getfield 7, 3) := by decide +kernel
theorem dX10_fingerprint_113 : decode cX10_fingerprint 113 = .ok (.iload 4, 2) := by decide +kernel
theorem dX10_fingerprint_115 : decode cX10_fingerprint 115 = .ok (.iload 5, 2) := by decide +kernel
theorem dX10_fingerprint_117 : decode cX10_fingerprint 117 = .ok (.iadd, 1) := by decide +kernel
theorem dX10_fingerprint_118 : decode cX10_fingerprint 118 = .ok (.iaload, 1) := by decide +kernel
theorem dX10_fingerprint_119 : decode cX10_fingerprint 119 = .ok (.i2l, 1) := by decide +kernel
theorem dX10_fingerprint_120 : decode cX10_fingerprint 120 = .ok (.ladd, 1) := by decide +kernel
theorem dX10_fingerprint_121 : decode cX10_fingerprint 121 = .ok (.lstore_n 1, 1) := by decide +kernel
theorem dX10_fingerprint_122 : decode cX10_fingerprint 122 = .ok (.iinc 5 1, 3) := by decide +kernel
theorem dX10_fingerprint_125 : decode cX10_fingerprint 125 = .ok (.goto (-28), 3) := by decide +kernel
theorem dX10_fingerprint_128 : decode cX10_fingerprint 128 = .ok (.iconst 0, 1) := by decide +kernel
theorem dX10_fingerprint_129 : decode cX10_fingerprint 129 = .ok (.istore 5, 2) := by decide +kernel
theorem dX10_fingerprint_131 : decode cX10_fingerprint 131 = .ok (.iload 5, 2) := by decide +kernel
theorem dX10_fingerprint_133 : decode cX10_fingerprint 133 = .ok (.aload_n 0, 1) := by decide +kernel
theorem dX10_fingerprint_134 : decode cX10_fingerprint 134 = .ok (.getfield 7, 3) := by decide +kernel
theorem dX10_fingerprint_137 : decode cX10_fingerprint 137 = .ok (.iload 4, 2) := by decide +kernel
theorem dX10_fingerprint_139 : decode cX10_fingerprint 139 = .ok (.iconst 3, 1) := by decide +kernel
theorem dX10_fingerprint_140 : decode cX10_fingerprint 140 = .ok (.iadd, 1) := by decide +kernel
theorem dX10_fingerprint_141 : decode cX10_fingerprint 141 = .ok (.iaload, 1) := by decide +kernel
theorem dX10_fingerprint_142 : decode cX10_fingerprint 142 = .ok (.if_icmp .ge 58, 3) := by decide +kernel
theorem dX10_fingerprint_145 : decode cX10_fingerprint 145 = .ok (.aload_n 0, 1) := by decide +kernel
theorem dX10_fingerprint_146 : decode cX10_fingerprint 146 = .ok (.getfield 7, 3) := by decide +kernel
theorem dX10_fingerprint_149 : decode cX10_fingerprint 149 = .ok (.iload 4, 2) := by decide +kernel
theorem dX10_fingerprint_151 : decode cX10_fingerprint 151 = .ok (.iconst 4, 1) := by decide +kernel
theorem dX10_fingerprint_152 : decode cX10_fingerprint 152 = .ok (.iadd, 1) := by decide +kernel
theorem dX10_fingerprint_153 : decode cX10_fingerprint 153 = .ok (.iaload, 1) := by decide +kernel
theorem dX10_fingerprint_154 : decode cX10_fingerprint 154 = .ok (.ifCond .ne 46, 3) := by decide +kernel
theorem dX10_fingerprint_157 : decode cX10_fingerprint 157 = .ok (.aload_n 0, 1) := by decide +kernel
theorem dX10_fingerprint_158 : decode cX10_fingerprint 158 = .ok (.getfield 7, 3) := by decide +kernel
theorem dX10_fingerprint_161 : decode cX10_fingerprint 161 = .ok (.iload 4, 2) := by decide +kernel
theorem dX10_fingerprint_163 : decode cX10_fingerprint 163 = .ok (.iconst 5, 1) := by decide +kernel
theorem dX10_fingerprint_164 : decode cX10_fingerprint 164 = .ok (.iadd, 1) := by decide +kernel
theorem dX10_fingerprint_165 : decode cX10_fingerprint 165 = .ok (.iaload, 1) := by decide +kernel
theorem dX10_fingerprint_166 : decode cX10_fingerprint 166 = .ok (.iconst 1, 1) := by decide +kernel
theorem dX10_fingerprint_167 : decode cX10_fingerprint 167 = .ok (.if_icmp .ne 33, 3) := by decide +kernel
theorem dX10_fingerprint_170 : decode cX10_fingerprint 170 = .ok (.ldc2_w 226, 3) := by decide +kernel
theorem dX10_fingerprint_173 : decode cX10_fingerprint 173 = .ok (.lload_n 1, 1) := by decide +kernel
theorem dX10_fingerprint_174 : decode cX10_fingerprint 174 = .ok (.lmul, 1) := by decide +kernel
theorem dX10_fingerprint_175 : decode cX10_fingerprint 175 = .ok (.aload_n 0, 1) := by decide +kernel
theorem dX10_fingerprint_176 : decode cX10_fingerprint 176 = .ok (.getfield 7, 3) := by decide +kernel
theorem dX10_fingerprint_179 : decode cX10_fingerprint 179 = .ok (.sipush 760, 3) := by decide +kernel
theorem dX10_fingerprint_182 : decode cX10_fingerprint 182 = .ok (.bipush 16, 2) := by decide +kernel
theorem dX10_fingerprint_184 : decode cX10_fingerprint 184 = .ok (.iload_n 3, 1) := by decide +kernel
theorem dX10_fingerprint_185 : decode cX10_fingerprint 185 = .ok (.imul, 1) := by decide +kernel
theorem dX10_fingerprint_186 : decode cX10_fingerprint 186 = .ok (.iadd, 1) := by decide +kernel
theorem dX10_fingerprint_187 : decode cX10_fingerprint 187 = .ok (.iload 5, 2) := by decide +kernel
theorem dX10_fingerprint_189 : decode cX10_fingerprint 189 = .ok (.iadd, 1) := by decide +kernel
theorem dX10_fingerprint_190 : decode cX10_fingerprint 190 = .ok (.iaload, 1) := by decide +kernel
theorem dX10_fingerprint_191 : decode cX10_fingerprint 191 = .ok (.i2l, 1) := by decide +kernel
theorem dX10_fingerprint_192 : decode cX10_fingerprint 192 = .ok (.ladd, 1) := by decide +kernel
theorem dX10_fingerprint_193 : decode cX10_fingerprint 193 = .ok (.lstore_n 1, 1) := by decide +kernel
theorem dX10_fingerprint_194 : decode cX10_fingerprint 194 = .ok (.iinc 5 1, 3) := by decide +kernel
theorem dX10_fingerprint_197 : decode cX10_fingerprint 197 = .ok (.goto (-66), 3) := by decide +kernel
theorem dX10_fingerprint_200 : decode cX10_fingerprint 200 = .ok (.iinc 3 1, 3) := by decide +kernel
theorem dX10_fingerprint_203 : decode cX10_fingerprint 203 = .ok (.goto (-126), 3) := by decide +kernel
theorem dX10_fingerprint_206 : decode cX10_fingerprint 206 = .ok (.iconst 0, 1) := by decide +kernel
theorem dX10_fingerprint_207 : decode cX10_fingerprint 207 = .ok (.istore_n 3, 1) := by decide +kernel
theorem dX10_fingerprint_208 : decode cX10_fingerprint 208 = .ok (.iload_n 3, 1) := by decide +kernel
theorem dX10_fingerprint_209 : decode cX10_fingerprint 209 = .ok (.bipush 96, 2) := by decide +kernel
theorem dX10_fingerprint_211 : decode cX10_fingerprint 211 = .ok (.if_icmp .ge 48, 3) := by decide +kernel
theorem dX10_fingerprint_214 : decode cX10_fingerprint 214 = .ok (.ldc2_w 226, 3) := by decide +kernel
theorem dX10_fingerprint_217 : decode cX10_fingerprint 217 = .ok (.lload_n 1, 1) := by decide +kernel
theorem dX10_fingerprint_218 : decode cX10_fingerprint 218 = .ok (.lmul, 1) := by decide +kernel
theorem dX10_fingerprint_219 : decode cX10_fingerprint 219 = .ok (.aload_n 0, 1) := by decide +kernel
theorem dX10_fingerprint_220 : decode cX10_fingerprint 220 = .ok (.getfield 7, 3) := by decide +kernel
theorem dX10_fingerprint_223 : decode cX10_fingerprint 223 = .ok (.bipush 20, 2) := by decide +kernel
theorem dX10_fingerprint_225 : decode cX10_fingerprint 225 = .ok (.iload_n 3, 1) := by decide +kernel
theorem dX10_fingerprint_226 : decode cX10_fingerprint 226 = .ok (.iadd, 1) := by decide +kernel
theorem dX10_fingerprint_227 : decode cX10_fingerprint 227 = .ok (.iaload, 1) := by decide +kernel
theorem dX10_fingerprint_228 : decode cX10_fingerprint 228 = .ok (.i2l, 1) := by decide +kernel
theorem dX10_fingerprint_229 : decode cX10_fingerprint 229 = .ok (.ladd, 1) := by decide +kernel
theorem dX10_fingerprint_230 : decode cX10_fingerprint 230 = .ok (.lstore_n 1, 1) := by decide +kernel
theorem dX10_fingerprint_231 : decode cX10_fingerprint 231 = .ok (.ldc2_w 226, 3) := by decide +kernel
theorem dX10_fingerprint_234 : decode cX10_fingerprint 234 = .ok (.lload_n 1, 1) := by decide +kernel
theorem dX10_fingerprint_235 : decode cX10_fingerprint 235 = .ok (.lmul, 1) := by decide +kernel
theorem dX10_fingerprint_236 : decode cX10_fingerprint 236 = .ok (.aload_n 0, 1) := by decide +kernel
theorem dX10_fingerprint_237 : decode cX10_fingerprint 237 = .ok (.iconst 1, 1) := by decide +kernel
theorem dX10_fingerprint_238 : decode cX10_fingerprint 238 = .ok (.iload_n 3, 1) := by decide +kernel
theorem dX10_fingerprint_239 : decode cX10_fingerprint 239 = .ok (.bipush 32, 2) := by decide +kernel
theorem dX10_fingerprint_241 : decode cX10_fingerprint 241 = .ok (.idiv, 1) := by decide +kernel
theorem dX10_fingerprint_242 : decode cX10_fingerprint 242 = .ok (.iadd, 1) := by decide +kernel
theorem dX10_fingerprint_243 : decode cX10_fingerprint 243 = .ok (.iload_n 3, 1) := by decide +kernel
theorem dX10_fingerprint_244 : decode cX10_fingerprint 244 = .ok (.bipush 32, 2) := by decide +kernel
theorem dX10_fingerprint_246 : decode cX10_fingerprint 246 = .ok (.irem, 1) := by decide +kernel
theorem dX10_fingerprint_247 : decode cX10_fingerprint 247 = .ok (.invokevirtual 202, 3) := by decide +kernel
theorem dX10_fingerprint_250 : decode cX10_fingerprint 250 = .ok (.i2l, 1) := by decide +kernel
theorem dX10_fingerprint_251 : decode cX10_fingerprint 251 = .ok (.ladd, 1) := by decide +kernel
theorem dX10_fingerprint_252 : decode cX10_fingerprint 252 = .ok (.lstore_n 1, 1) := by decide +kernel
theorem dX10_fingerprint_253 : decode cX10_fingerprint 253 = .ok (.iinc 3 1, 3) := by decide +kernel
theorem dX10_fingerprint_256 : decode cX10_fingerprint 256 = .ok (.goto (-48), 3) := by decide +kernel
theorem dX10_fingerprint_259 : decode cX10_fingerprint 259 = .ok (.lload_n 1, 1) := by decide +kernel
theorem dX10_fingerprint_260 : decode cX10_fingerprint 260 = .ok (.lreturn, 1) := by decide +kernel
end
section
theorem dJ13_bitCount_95d88_0 : decode cJ13_bitCount_95d88 0 = .ok (.lload_n 0, 1) := by decide +kernel
theorem dJ13_bitCount_95d88_1 : decode cJ13_bitCount_95d88 1 = .ok (.lload_n 0, 1) := by decide +kernel
theorem dJ13_bitCount_95d88_2 : decode cJ13_bitCount_95d88 2 = .ok (.iconst 1, 1) := by decide +kernel
theorem dJ13_bitCount_95d88_3 : decode cJ13_bitCount_95d88 3 = .ok (.lushr, 1) := by decide +kernel
theorem dJ13_bitCount_95d88_4 : decode cJ13_bitCount_95d88 4 = .ok (.ldc2_w 314, 3) := by decide +kernel
theorem dJ13_bitCount_95d88_7 : decode cJ13_bitCount_95d88 7 = .ok (.land, 1) := by decide +kernel
theorem dJ13_bitCount_95d88_8 : decode cJ13_bitCount_95d88 8 = .ok (.lsub, 1) := by decide +kernel
theorem dJ13_bitCount_95d88_9 : decode cJ13_bitCount_95d88 9 = .ok (.lstore_n 0, 1) := by decide +kernel
theorem dJ13_bitCount_95d88_10 : decode cJ13_bitCount_95d88 10 = .ok (.lload_n 0, 1) := by decide +kernel
theorem dJ13_bitCount_95d88_11 : decode cJ13_bitCount_95d88 11 = .ok (.ldc2_w 316, 3) := by decide +kernel
theorem dJ13_bitCount_95d88_14 : decode cJ13_bitCount_95d88 14 = .ok (.land, 1) := by decide +kernel
theorem dJ13_bitCount_95d88_15 : decode cJ13_bitCount_95d88 15 = .ok (.lload_n 0, 1) := by decide +kernel
theorem dJ13_bitCount_95d88_16 : decode cJ13_bitCount_95d88 16 = .ok (.iconst 2, 1) := by decide +kernel
theorem dJ13_bitCount_95d88_17 : decode cJ13_bitCount_95d88 17 = .ok (.lushr, 1) := by decide +kernel
theorem dJ13_bitCount_95d88_18 : decode cJ13_bitCount_95d88 18 = .ok (.ldc2_w 316, 3) := by decide +kernel
theorem dJ13_bitCount_95d88_21 : decode cJ13_bitCount_95d88 21 = .ok (.land, 1) := by decide +kernel
theorem dJ13_bitCount_95d88_22 : decode cJ13_bitCount_95d88 22 = .ok (.ladd, 1) := by decide +kernel
theorem dJ13_bitCount_95d88_23 : decode cJ13_bitCount_95d88 23 = .ok (.lstore_n 0, 1) := by decide +kernel
theorem dJ13_bitCount_95d88_24 : decode cJ13_bitCount_95d88 24 = .ok (.lload_n 0, 1) := by decide +kernel
theorem dJ13_bitCount_95d88_25 : decode cJ13_bitCount_95d88 25 = .ok (.lload_n 0, 1) := by decide +kernel
theorem dJ13_bitCount_95d88_26 : decode cJ13_bitCount_95d88 26 = .ok (.iconst 4, 1) := by decide +kernel
theorem dJ13_bitCount_95d88_27 : decode cJ13_bitCount_95d88 27 = .ok (.lushr, 1) := by decide +kernel
theorem dJ13_bitCount_95d88_28 : decode cJ13_bitCount_95d88 28 = .ok (.ladd, 1) := by decide +kernel
theorem dJ13_bitCount_95d88_29 : decode cJ13_bitCount_95d88 29 = .ok (.ldc2_w 318, 3) := by decide +kernel
theorem dJ13_bitCount_95d88_32 : decode cJ13_bitCount_95d88 32 = .ok (.land, 1) := by decide +kernel
theorem dJ13_bitCount_95d88_33 : decode cJ13_bitCount_95d88 33 = .ok (.lstore_n 0, 1) := by decide +kernel
theorem dJ13_bitCount_95d88_34 : decode cJ13_bitCount_95d88 34 = .ok (.lload_n 0, 1) := by decide +kernel
theorem dJ13_bitCount_95d88_35 : decode cJ13_bitCount_95d88 35 = .ok (.lload_n 0, 1) := by decide +kernel
theorem dJ13_bitCount_95d88_36 : decode cJ13_bitCount_95d88 36 = .ok (.bipush 8, 2) := by decide +kernel
theorem dJ13_bitCount_95d88_38 : decode cJ13_bitCount_95d88 38 = .ok (.lushr, 1) := by decide +kernel
theorem dJ13_bitCount_95d88_39 : decode cJ13_bitCount_95d88 39 = .ok (.ladd, 1) := by decide +kernel
theorem dJ13_bitCount_95d88_40 : decode cJ13_bitCount_95d88 40 = .ok (.lstore_n 0, 1) := by decide +kernel
theorem dJ13_bitCount_95d88_41 : decode cJ13_bitCount_95d88 41 = .ok (.lload_n 0, 1) := by decide +kernel
theorem dJ13_bitCount_95d88_42 : decode cJ13_bitCount_95d88 42 = .ok (.lload_n 0, 1) := by decide +kernel
theorem dJ13_bitCount_95d88_43 : decode cJ13_bitCount_95d88 43 = .ok (.bipush 16, 2) := by decide +kernel
theorem dJ13_bitCount_95d88_45 : decode cJ13_bitCount_95d88 45 = .ok (.lushr, 1) := by decide +kernel
theorem dJ13_bitCount_95d88_46 : decode cJ13_bitCount_95d88 46 = .ok (.ladd, 1) := by decide +kernel
theorem dJ13_bitCount_95d88_47 : decode cJ13_bitCount_95d88 47 = .ok (.lstore_n 0, 1) := by decide +kernel
theorem dJ13_bitCount_95d88_48 : decode cJ13_bitCount_95d88 48 = .ok (.lload_n 0, 1) := by decide +kernel
theorem dJ13_bitCount_95d88_49 : decode cJ13_bitCount_95d88 49 = .ok (.lload_n 0, 1) := by decide +kernel
theorem dJ13_bitCount_95d88_50 : decode cJ13_bitCount_95d88 50 = .ok (.bipush 32, 2) := by decide +kernel
theorem dJ13_bitCount_95d88_52 : decode cJ13_bitCount_95d88 52 = .ok (.lushr, 1) := by decide +kernel
theorem dJ13_bitCount_95d88_53 : decode cJ13_bitCount_95d88 53 = .ok (.ladd, 1) := by decide +kernel
theorem dJ13_bitCount_95d88_54 : decode cJ13_bitCount_95d88 54 = .ok (.lstore_n 0, 1) := by decide +kernel
theorem dJ13_bitCount_95d88_55 : decode cJ13_bitCount_95d88 55 = .ok (.lload_n 0, 1) := by decide +kernel
theorem dJ13_bitCount_95d88_56 : decode cJ13_bitCount_95d88 56 = .ok (.l2i, 1) := by decide +kernel
theorem dJ13_bitCount_95d88_57 : decode cJ13_bitCount_95d88 57 = .ok (.bipush 127, 2) := by decide +kernel
theorem dJ13_bitCount_95d88_59 : decode cJ13_bitCount_95d88 59 = .ok (.iand, 1) := by decide +kernel
theorem dJ13_bitCount_95d88_60 : decode cJ13_bitCount_95d88 60 = .ok (.ireturn, 1) := by decide +kernel
theorem dJ9_floorMod_7cf53_0 : decode cJ9_floorMod_7cf53 0 = .ok (.iload_n 0, 1) := by decide +kernel
theorem dJ9_floorMod_7cf53_1 : decode cJ9_floorMod_7cf53 1 = .ok (.iload_n 1, 1) := by decide +kernel
theorem dJ9_floorMod_7cf53_2 : decode cJ9_floorMod_7cf53 2 = .ok (.irem, 1) := by decide +kernel
theorem dJ9_floorMod_7cf53_3 : decode cJ9_floorMod_7cf53 3 = .ok (.istore_n 2, 1) := by decide +kernel
theorem dJ9_floorMod_7cf53_4 : decode cJ9_floorMod_7cf53 4 = .ok (.iload_n 0, 1) := by decide +kernel
theorem dJ9_floorMod_7cf53_5 : decode cJ9_floorMod_7cf53 5 = .ok (.iload_n 1, 1) := by decide +kernel
theorem dJ9_floorMod_7cf53_6 : decode cJ9_floorMod_7cf53 6 = .ok (.ixor, 1) := by decide +kernel
theorem dJ9_floorMod_7cf53_7 : decode cJ9_floorMod_7cf53 7 = .ok (.ifCond .ge 11, 3) := by decide +kernel
theorem dJ9_floorMod_7cf53_10 : decode cJ9_floorMod_7cf53 10 = .ok (.iload_n 2, 1) := by decide +kernel
theorem dJ9_floorMod_7cf53_11 : decode cJ9_floorMod_7cf53 11 = .ok (.ifCond .eq 7, 3) := by decide +kernel
theorem dJ9_floorMod_7cf53_14 : decode cJ9_floorMod_7cf53 14 = .ok (.iload_n 2, 1) := by decide +kernel
theorem dJ9_floorMod_7cf53_15 : decode cJ9_floorMod_7cf53 15 = .ok (.iload_n 1, 1) := by decide +kernel
theorem dJ9_floorMod_7cf53_16 : decode cJ9_floorMod_7cf53 16 = .ok (.iadd, 1) := by decide +kernel
theorem dJ9_floorMod_7cf53_17 : decode cJ9_floorMod_7cf53 17 = .ok (.ireturn, 1) := by decide +kernel
theorem dJ9_floorMod_7cf53_18 : decode cJ9_floorMod_7cf53 18 = .ok (.iload_n 2, 1) := by decide +kernel
theorem dJ9_floorMod_7cf53_19 : decode cJ9_floorMod_7cf53 19 = .ok (.ireturn, 1) := by decide +kernel
theorem dJ9_max_7cf53_0 : decode cJ9_max_7cf53 0 = .ok (.iload_n 0, 1) := by decide +kernel
theorem dJ9_max_7cf53_1 : decode cJ9_max_7cf53 1 = .ok (.iload_n 1, 1) := by decide +kernel
theorem dJ9_max_7cf53_2 : decode cJ9_max_7cf53 2 = .ok (.if_icmp .lt 7, 3) := by decide +kernel
theorem dJ9_max_7cf53_5 : decode cJ9_max_7cf53 5 = .ok (.iload_n 0, 1) := by decide +kernel
theorem dJ9_max_7cf53_6 : decode cJ9_max_7cf53 6 = .ok (.goto 4, 3) := by decide +kernel
theorem dJ9_max_7cf53_9 : decode cJ9_max_7cf53 9 = .ok (.iload_n 1, 1) := by decide +kernel
theorem dJ9_max_7cf53_10 : decode cJ9_max_7cf53 10 = .ok (.ireturn, 1) := by decide +kernel
theorem dJ9_min_7cf53_0 : decode cJ9_min_7cf53 0 = .ok (.iload_n 0, 1) := by decide +kernel
theorem dJ9_min_7cf53_1 : decode cJ9_min_7cf53 1 = .ok (.iload_n 1, 1) := by decide +kernel
theorem dJ9_min_7cf53_2 : decode cJ9_min_7cf53 2 = .ok (.if_icmp .gt 7, 3) := by decide +kernel
theorem dJ9_min_7cf53_5 : decode cJ9_min_7cf53 5 = .ok (.iload_n 0, 1) := by decide +kernel
theorem dJ9_min_7cf53_6 : decode cJ9_min_7cf53 6 = .ok (.goto 4, 3) := by decide +kernel
theorem dJ9_min_7cf53_9 : decode cJ9_min_7cf53 9 = .ok (.iload_n 1, 1) := by decide +kernel
theorem dJ9_min_7cf53_10 : decode cJ9_min_7cf53 10 = .ok (.ireturn, 1) := by decide +kernel
theorem dJxa1e45_init_da8c8_0 : decode cJxa1e45_init_da8c8 0 = .ok (.aload_n 0, 1) := by decide +kernel
theorem dJxa1e45_init_da8c8_1 : decode cJxa1e45_init_da8c8 1 = .ok (.invokespecial 1, 3) := by decide +kernel
theorem dJxa1e45_init_da8c8_4 : decode cJxa1e45_init_da8c8 4 = .ok (.return_, 1) := by decide +kernel
theorem dJxc12de_init_da8c8_0 : decode cJxc12de_init_da8c8 0 = .ok (.aload_n 0, 1) := by decide +kernel
theorem dJxc12de_init_da8c8_1 : decode cJxc12de_init_da8c8 1 = .ok (.invokespecial 1, 3) := by decide +kernel
theorem dJxc12de_init_da8c8_4 : decode cJxc12de_init_da8c8 4 = .ok (.aload_n 0, 1) := by decide +kernel
theorem dJxc12de_init_da8c8_5 : decode cJxc12de_init_da8c8 5 = .ok (.iconst 0, 1) := by decide +kernel
theorem dJxc12de_init_da8c8_6 : decode cJxc12de_init_da8c8 6 = .ok (.putfield 7, 3) := by decide +kernel
theorem dJxc12de_init_da8c8_9 : decode cJxc12de_init_da8c8 9 = .ok (.return_, 1) := by decide +kernel
theorem dJx4a65c_init_da8c8_0 : decode cJx4a65c_init_da8c8 0 = .ok (.aload_n 0, 1) := by decide +kernel
theorem dJx4a65c_init_da8c8_1 : decode cJx4a65c_init_da8c8 1 = .ok (.invokespecial 1, 3) := by decide +kernel
theorem dJx4a65c_init_da8c8_4 : decode cJx4a65c_init_da8c8 4 = .ok (.aload_n 0, 1) := by decide +kernel
theorem dJx4a65c_init_da8c8_5 : decode cJx4a65c_init_da8c8 5 = .ok (.getstatic 39, 3) := by decide +kernel
theorem dJx4a65c_init_da8c8_8 : decode cJx4a65c_init_da8c8 8 = .ok (.putfield 9, 3) := by decide +kernel
theorem dJx4a65c_init_da8c8_11 : decode cJx4a65c_init_da8c8 11 = .ok (.return_, 1) := by decide +kernel
theorem dJx4a65c_grow_92f84_0 : decode cJx4a65c_grow_92f84 0 = .ok (.aload_n 0, 1) := by decide +kernel
theorem dJx4a65c_grow_92f84_1 : decode cJx4a65c_grow_92f84 1 = .ok (.getfield 9, 3) := by decide +kernel
theorem dJx4a65c_grow_92f84_4 : decode cJx4a65c_grow_92f84 4 = .ok (.arraylength, 1) := by decide +kernel
theorem dJx4a65c_grow_92f84_5 : decode cJx4a65c_grow_92f84 5 = .ok (.istore_n 2, 1) := by decide +kernel
theorem dJx4a65c_grow_92f84_6 : decode cJx4a65c_grow_92f84 6 = .ok (.iload_n 2, 1) := by decide +kernel
theorem dJx4a65c_grow_92f84_7 : decode cJx4a65c_grow_92f84 7 = .ok (.ifCond .gt 13, 3) := by decide +kernel
theorem dJx4a65c_grow_92f84_10 : decode cJx4a65c_grow_92f84 10 = .ok (.aload_n 0, 1) := by decide +kernel
theorem dJx4a65c_grow_92f84_11 : decode cJx4a65c_grow_92f84 11 = .ok (.getfield 9, 3) := by decide +kernel
theorem dJx4a65c_grow_92f84_14 : decode cJx4a65c_grow_92f84 14 = .ok (.getstatic 39, 3) := by decide +kernel
theorem dJx4a65c_grow_92f84_17 : decode cJx4a65c_grow_92f84 17 = .ok (.if_acmp .eq 28, 3) := by decide +kernel
theorem dJx4a65c_grow_92f84_20 : decode cJx4a65c_grow_92f84 20 = .ok (.iload_n 2, 1) := by decide +kernel
theorem dJx4a65c_grow_92f84_21 : decode cJx4a65c_grow_92f84 21 = .ok (.iload_n 1, 1) := by decide +kernel
theorem dJx4a65c_grow_92f84_22 : decode cJx4a65c_grow_92f84 22 = .ok (.iload_n 2, 1) := by decide +kernel
theorem dJx4a65c_grow_92f84_23 : decode cJx4a65c_grow_92f84 23 = .ok (.isub, 1) := by decide +kernel
theorem dJx4a65c_grow_92f84_24 : decode cJx4a65c_grow_92f84 24 = .ok (.iload_n 2, 1) := by decide +kernel
theorem dJx4a65c_grow_92f84_25 : decode cJx4a65c_grow_92f84 25 = .ok (.iconst 1, 1) := by decide +kernel
theorem dJx4a65c_grow_92f84_26 : decode cJx4a65c_grow_92f84 26 = .ok (.ishr, 1) := by decide +kernel
theorem dJx4a65c_grow_92f84_27 : decode cJx4a65c_grow_92f84 27 = .ok (.invokestatic 73, 3) := by decide +kernel
theorem dJx4a65c_grow_92f84_30 : decode cJx4a65c_grow_92f84 30 = .ok (.istore_n 3, 1) := by decide +kernel
theorem dJx4a65c_grow_92f84_31 : decode cJx4a65c_grow_92f84 31 = .ok (.aload_n 0, 1) := by decide +kernel
theorem dJx4a65c_grow_92f84_32 : decode cJx4a65c_grow_92f84 32 = .ok (.aload_n 0, 1) := by decide +kernel
theorem dJx4a65c_grow_92f84_33 : decode cJx4a65c_grow_92f84 33 = .ok (.getfield 9, 3) := by decide +kernel
theorem dJx4a65c_grow_92f84_36 : decode cJx4a65c_grow_92f84 36 = .ok (.iload_n 3, 1) := by decide +kernel
theorem dJx4a65c_grow_92f84_37 : decode cJx4a65c_grow_92f84 37 = .ok (.invokestatic 66, 3) := by decide +kernel
theorem dJx4a65c_grow_92f84_40 : decode cJx4a65c_grow_92f84 40 = .ok (.dup_x1, 1) := by decide +kernel
theorem dJx4a65c_grow_92f84_41 : decode cJx4a65c_grow_92f84 41 = .ok (.putfield 9, 3) := by decide +kernel
theorem dJx4a65c_grow_92f84_44 : decode cJx4a65c_grow_92f84 44 = .ok (.areturn, 1) := by decide +kernel
theorem dJx4a65c_grow_92f84_45 : decode cJx4a65c_grow_92f84 45 = .ok (.aload_n 0, 1) := by decide +kernel
theorem dJx4a65c_grow_92f84_46 : decode cJx4a65c_grow_92f84 46 = .ok (.bipush 10, 2) := by decide +kernel
theorem dJx4a65c_grow_92f84_48 : decode cJx4a65c_grow_92f84 48 = .ok (.iload_n 1, 1) := by decide +kernel
theorem dJx4a65c_grow_92f84_49 : decode cJx4a65c_grow_92f84 49 = .ok (.invokestatic 79, 3) := by decide +kernel
theorem dJx4a65c_grow_92f84_52 : decode cJx4a65c_grow_92f84 52 = .ok (.anewarray 7, 3) := by decide +kernel
theorem dJx4a65c_grow_92f84_55 : decode cJx4a65c_grow_92f84 55 = .ok (.dup_x1, 1) := by decide +kernel
theorem dJx4a65c_grow_92f84_56 : decode cJx4a65c_grow_92f84 56 = .ok (.putfield 9, 3) := by decide +kernel
theorem dJx4a65c_grow_92f84_59 : decode cJx4a65c_grow_92f84 59 = .ok (.areturn, 1) := by decide +kernel
theorem dJx4a65c_grow_d5877_0 : decode cJx4a65c_grow_d5877 0 = .ok (.aload_n 0, 1) := by decide +kernel
theorem dJx4a65c_grow_d5877_1 : decode cJx4a65c_grow_d5877 1 = .ok (.aload_n 0, 1) := by decide +kernel
theorem dJx4a65c_grow_d5877_2 : decode cJx4a65c_grow_d5877 2 = .ok (.getfield 48, 3) := by decide +kernel
theorem dJx4a65c_grow_d5877_5 : decode cJx4a65c_grow_d5877 5 = .ok (.iconst 1, 1) := by decide +kernel
theorem dJx4a65c_grow_d5877_6 : decode cJx4a65c_grow_d5877 6 = .ok (.iadd, 1) := by decide +kernel
theorem dJx4a65c_grow_d5877_7 : decode cJx4a65c_grow_d5877 7 = .ok (.invokevirtual 69, 3) := by decide +kernel
theorem dJx4a65c_grow_d5877_10 : decode cJx4a65c_grow_d5877 10 = .ok (.areturn, 1) := by decide +kernel
theorem dJx4a65c_size_8abf5_0 : decode cJx4a65c_size_8abf5 0 = .ok (.aload_n 0, 1) := by decide +kernel
theorem dJx4a65c_size_8abf5_1 : decode cJx4a65c_size_8abf5 1 = .ok (.getfield 48, 3) := by decide +kernel
theorem dJx4a65c_size_8abf5_4 : decode cJx4a65c_size_8abf5 4 = .ok (.ireturn, 1) := by decide +kernel
theorem dJx4a65c_isEmpty_aae02_0 : decode cJx4a65c_isEmpty_aae02 0 = .ok (.aload_n 0, 1) := by decide +kernel
theorem dJx4a65c_isEmpty_aae02_1 : decode cJx4a65c_isEmpty_aae02 1 = .ok (.getfield 48, 3) := by decide +kernel
theorem dJx4a65c_isEmpty_aae02_4 : decode cJx4a65c_isEmpty_aae02 4 = .ok (.ifCond .ne 7, 3) := by decide +kernel
theorem dJx4a65c_isEmpty_aae02_7 : decode cJx4a65c_isEmpty_aae02 7 = .ok (.iconst 1, 1) := by decide +kernel
theorem dJx4a65c_isEmpty_aae02_8 : decode cJx4a65c_isEmpty_aae02 8 = .ok (.goto 4, 3) := by decide +kernel
theorem dJx4a65c_isEmpty_aae02_11 : decode cJx4a65c_isEmpty_aae02 11 = .ok (.iconst 0, 1) := by decide +kernel
theorem dJx4a65c_isEmpty_aae02_12 : decode cJx4a65c_isEmpty_aae02 12 = .ok (.ireturn, 1) := by decide +kernel
theorem dJx4a65c_elementData_915e3_0 : decode cJx4a65c_elementData_915e3 0 = .ok (.aload_n 0, 1) := by decide +kernel
theorem dJx4a65c_elementData_915e3_1 : decode cJx4a65c_elementData_915e3 1 = .ok (.getfield 9, 3) := by decide +kernel
theorem dJx4a65c_elementData_915e3_4 : decode cJx4a65c_elementData_915e3 4 = .ok (.iload_n 1, 1) := by decide +kernel
theorem dJx4a65c_elementData_915e3_5 : decode cJx4a65c_elementData_915e3 5 = .ok (.aaload, 1) := by decide +kernel
theorem dJx4a65c_elementData_915e3_6 : decode cJx4a65c_elementData_915e3 6 = .ok (.areturn, 1) := by decide +kernel
theorem dJx4a65c_get_915e3_0 : decode cJx4a65c_get_915e3 0 = .ok (.iload_n 1, 1) := by decide +kernel
theorem dJx4a65c_get_915e3_1 : decode cJx4a65c_get_915e3 1 = .ok (.aload_n 0, 1) := by decide +kernel
theorem dJx4a65c_get_915e3_2 : decode cJx4a65c_get_915e3 2 = .ok (.getfield 48, 3) := by decide +kernel
theorem dJx4a65c_get_915e3_5 : decode cJx4a65c_get_915e3 5 = .ok (.invokestatic 118, 3) := by decide +kernel
theorem dJx4a65c_get_915e3_8 : decode cJx4a65c_get_915e3 8 = .ok (.pop, 1) := by decide +kernel
theorem dJx4a65c_get_915e3_9 : decode cJx4a65c_get_915e3 9 = .ok (.aload_n 0, 1) := by decide +kernel
theorem dJx4a65c_get_915e3_10 : decode cJx4a65c_get_915e3 10 = .ok (.iload_n 1, 1) := by decide +kernel
theorem dJx4a65c_get_915e3_11 : decode cJx4a65c_get_915e3 11 = .ok (.invokevirtual 123, 3) := by decide +kernel
theorem dJx4a65c_get_915e3_14 : decode cJx4a65c_get_915e3 14 = .ok (.areturn, 1) := by decide +kernel
theorem dJx4a65c_add_72be8_0 : decode cJx4a65c_add_72be8 0 = .ok (.iload_n 3, 1) := by decide +kernel
theorem dJx4a65c_add_72be8_1 : decode cJx4a65c_add_72be8 1 = .ok (.aload_n 2, 1) := by decide +kernel
theorem dJx4a65c_add_72be8_2 : decode cJx4a65c_add_72be8 2 = .ok (.arraylength, 1) := by decide +kernel
theorem dJx4a65c_add_72be8_3 : decode cJx4a65c_add_72be8 3 = .ok (.if_icmp .ne 8, 3) := by decide +kernel
theorem dJx4a65c_add_72be8_6 : decode cJx4a65c_add_72be8 6 = .ok (.aload_n 0, 1) := by decide +kernel
theorem dJx4a65c_add_72be8_7 : decode cJx4a65c_add_72be8 7 = .ok (.invokevirtual 129, 3) := by decide +kernel
theorem dJx4a65c_add_72be8_10 : decode cJx4a65c_add_72be8 10 = .ok (.astore_n 2, 1) := by decide +kernel
theorem dJx4a65c_add_72be8_11 : decode cJx4a65c_add_72be8 11 = .ok (.aload_n 2, 1) := by decide +kernel
theorem dJx4a65c_add_72be8_12 : decode cJx4a65c_add_72be8 12 = .ok (.iload_n 3, 1) := by decide +kernel
theorem dJx4a65c_add_72be8_13 : decode cJx4a65c_add_72be8 13 = .ok (.aload_n 1, 1) := by decide +kernel
theorem dJx4a65c_add_72be8_14 : decode cJx4a65c_add_72be8 14 = .ok (.aastore, 1) := by decide +kernel
theorem dJx4a65c_add_72be8_15 : decode cJx4a65c_add_72be8 15 = .ok (.aload_n 0, 1) := by decide +kernel
theorem dJx4a65c_add_72be8_16 : decode cJx4a65c_add_72be8 16 = .ok (.iload_n 3, 1) := by decide +kernel
theorem dJx4a65c_add_72be8_17 : decode cJx4a65c_add_72be8 17 = .ok (.iconst 1, 1) := by decide +kernel
theorem dJx4a65c_add_72be8_18 : decode cJx4a65c_add_72be8 18 = .ok (.iadd, 1) := by decide +kernel
theorem dJx4a65c_add_72be8_19 : decode cJx4a65c_add_72be8 19 = .ok (.putfield 48, 3) := by decide +kernel
theorem dJx4a65c_add_72be8_22 : decode cJx4a65c_add_72be8 22 = .ok (.return_, 1) := by decide +kernel
theorem dJx4a65c_add_9ea2d_0 : decode cJx4a65c_add_9ea2d 0 = .ok (.aload_n 0, 1) := by decide +kernel
theorem dJx4a65c_add_9ea2d_1 : decode cJx4a65c_add_9ea2d 1 = .ok (.dup, 1) := by decide +kernel
theorem dJx4a65c_add_9ea2d_2 : decode cJx4a65c_add_9ea2d 2 = .ok (.getfield 63, 3) := by decide +kernel
theorem dJx4a65c_add_9ea2d_5 : decode cJx4a65c_add_9ea2d 5 = .ok (.iconst 1, 1) := by decide +kernel
theorem dJx4a65c_add_9ea2d_6 : decode cJx4a65c_add_9ea2d 6 = .ok (.iadd, 1) := by decide +kernel
theorem dJx4a65c_add_9ea2d_7 : decode cJx4a65c_add_9ea2d 7 = .ok (.putfield 63, 3) := by decide +kernel
theorem dJx4a65c_add_9ea2d_10 : decode cJx4a65c_add_9ea2d 10 = .ok (.aload_n 0, 1) := by decide +kernel
theorem dJx4a65c_add_9ea2d_11 : decode cJx4a65c_add_9ea2d 11 = .ok (.aload_n 1, 1) := by decide +kernel
theorem dJx4a65c_add_9ea2d_12 : decode cJx4a65c_add_9ea2d 12 = .ok (.aload_n 0, 1) := by decide +kernel
theorem dJx4a65c_add_9ea2d_13 : decode cJx4a65c_add_9ea2d 13 = .ok (.getfield 9, 3) := by decide +kernel
theorem dJx4a65c_add_9ea2d_16 : decode cJx4a65c_add_9ea2d 16 = .ok (.aload_n 0, 1) := by decide +kernel
theorem dJx4a65c_add_9ea2d_17 : decode cJx4a65c_add_9ea2d 17 = .ok (.getfield 48, 3) := by decide +kernel
theorem dJx4a65c_add_9ea2d_20 : decode cJx4a65c_add_9ea2d 20 = .ok (.invokevirtual 131, 3) := by decide +kernel
theorem dJx4a65c_add_9ea2d_23 : decode cJx4a65c_add_9ea2d 23 = .ok (.iconst 1, 1) := by decide +kernel
theorem dJx4a65c_add_9ea2d_24 : decode cJx4a65c_add_9ea2d 24 = .ok (.ireturn, 1) := by decide +kernel
theorem dJx4a65c_remove_915e3_0 : decode cJx4a65c_remove_915e3 0 = .ok (.iload_n 1, 1) := by decide +kernel
theorem dJx4a65c_remove_915e3_1 : decode cJx4a65c_remove_915e3 1 = .ok (.aload_n 0, 1) := by decide +kernel
theorem dJx4a65c_remove_915e3_2 : decode cJx4a65c_remove_915e3 2 = .ok (.getfield 48, 3) := by decide +kernel
theorem dJx4a65c_remove_915e3_5 : decode cJx4a65c_remove_915e3 5 = .ok (.invokestatic 118, 3) := by decide +kernel
theorem dJx4a65c_remove_915e3_8 : decode cJx4a65c_remove_915e3 8 = .ok (.pop, 1) := by decide +kernel
theorem dJx4a65c_remove_915e3_9 : decode cJx4a65c_remove_915e3 9 = .ok (.aload_n 0, 1) := by decide +kernel
theorem dJx4a65c_remove_915e3_10 : decode cJx4a65c_remove_915e3 10 = .ok (.getfield 9, 3) := by decide +kernel
theorem dJx4a65c_remove_915e3_13 : decode cJx4a65c_remove_915e3 13 = .ok (.astore_n 2, 1) := by decide +kernel
theorem dJx4a65c_remove_915e3_14 : decode cJx4a65c_remove_915e3 14 = .ok (.aload_n 2, 1) := by decide +kernel
theorem dJx4a65c_remove_915e3_15 : decode cJx4a65c_remove_915e3 15 = .ok (.iload_n 1, 1) := by decide +kernel
theorem dJx4a65c_remove_915e3_16 : decode cJx4a65c_remove_915e3 16 = .ok (.aaload, 1) := by decide +kernel
theorem dJx4a65c_remove_915e3_17 : decode cJx4a65c_remove_915e3 17 = .ok (.astore_n 3, 1) := by decide +kernel
theorem dJx4a65c_remove_915e3_18 : decode cJx4a65c_remove_915e3 18 = .ok (.aload_n 0, 1) := by decide +kernel
theorem dJx4a65c_remove_915e3_19 : decode cJx4a65c_remove_915e3 19 = .ok (.aload_n 2, 1) := by decide +kernel
theorem dJx4a65c_remove_915e3_20 : decode cJx4a65c_remove_915e3 20 = .ok (.iload_n 1, 1) := by decide +kernel
theorem dJx4a65c_remove_915e3_21 : decode cJx4a65c_remove_915e3 21 = .ok (.invokevirtual 144, 3) := by decide +kernel
theorem dJx4a65c_remove_915e3_24 : decode cJx4a65c_remove_915e3 24 = .ok (.aload_n 3, 1) := by decide +kernel
theorem dJx4a65c_remove_915e3_25 : decode cJx4a65c_remove_915e3 25 = .ok (.areturn, 1) := by decide +kernel
theorem dJx4a65c_fastRemove_b59b0_0 : decode cJx4a65c_fastRemove_b59b0 0 = .ok (.aload_n 0, 1) := by decide +kernel
theorem dJx4a65c_fastRemove_b59b0_1 : decode cJx4a65c_fastRemove_b59b0 1 = .ok (.dup, 1) := by decide +kernel
theorem dJx4a65c_fastRemove_b59b0_2 : decode cJx4a65c_fastRemove_b59b0 2 = .ok (.getfield 63, 3) := by decide +kernel
theorem dJx4a65c_fastRemove_b59b0_5 : decode cJx4a65c_fastRemove_b59b0 5 = .ok (.iconst 1, 1) := by decide +kernel
theorem dJx4a65c_fastRemove_b59b0_6 : decode cJx4a65c_fastRemove_b59b0 6 = .ok (.iadd, 1) := by decide +kernel
theorem dJx4a65c_fastRemove_b59b0_7 : decode cJx4a65c_fastRemove_b59b0 7 = .ok (.putfield 63, 3) := by decide +kernel
theorem dJx4a65c_fastRemove_b59b0_10 : decode cJx4a65c_fastRemove_b59b0 10 = .ok (.aload_n 0, 1) := by decide +kernel
theorem dJx4a65c_fastRemove_b59b0_11 : decode cJx4a65c_fastRemove_b59b0 11 = .ok (.getfield 48, 3) := by decide +kernel
theorem dJx4a65c_fastRemove_b59b0_14 : decode cJx4a65c_fastRemove_b59b0 14 = .ok (.iconst 1, 1) := by decide +kernel
theorem dJx4a65c_fastRemove_b59b0_15 : decode cJx4a65c_fastRemove_b59b0 15 = .ok (.isub, 1) := by decide +kernel
theorem dJx4a65c_fastRemove_b59b0_16 : decode cJx4a65c_fastRemove_b59b0 16 = .ok (.dup, 1) := by decide +kernel
theorem dJx4a65c_fastRemove_b59b0_17 : decode cJx4a65c_fastRemove_b59b0 17 = .ok (.istore_n 3, 1) := by decide +kernel
theorem dJx4a65c_fastRemove_b59b0_18 : decode cJx4a65c_fastRemove_b59b0 18 = .ok (.iload_n 2, 1) := by decide +kernel
theorem dJx4a65c_fastRemove_b59b0_19 : decode cJx4a65c_fastRemove_b59b0 19 = .ok (.if_icmp .le 15, 3) := by decide +kernel
theorem dJx4a65c_fastRemove_b59b0_22 : decode cJx4a65c_fastRemove_b59b0 22 = .ok (.aload_n 1, 1) := by decide +kernel
theorem dJx4a65c_fastRemove_b59b0_23 : decode cJx4a65c_fastRemove_b59b0 23 = .ok (.iload_n 2, 1) := by decide +kernel
theorem dJx4a65c_fastRemove_b59b0_24 : decode cJx4a65c_fastRemove_b59b0 24 = .ok (.iconst 1, 1) := by decide +kernel
theorem dJx4a65c_fastRemove_b59b0_25 : decode cJx4a65c_fastRemove_b59b0 25 = .ok (.iadd, 1) := by decide +kernel
theorem dJx4a65c_fastRemove_b59b0_26 : decode cJx4a65c_fastRemove_b59b0 26 = .ok (.aload_n 1, 1) := by decide +kernel
theorem dJx4a65c_fastRemove_b59b0_27 : decode cJx4a65c_fastRemove_b59b0 27 = .ok (.iload_n 2, 1) := by decide +kernel
theorem dJx4a65c_fastRemove_b59b0_28 : decode cJx4a65c_fastRemove_b59b0 28 = .ok (.iload_n 3, 1) := by decide +kernel
theorem dJx4a65c_fastRemove_b59b0_29 : decode cJx4a65c_fastRemove_b59b0 29 = .ok (.iload_n 2, 1) := by decide +kernel
theorem dJx4a65c_fastRemove_b59b0_30 : decode cJx4a65c_fastRemove_b59b0 30 = .ok (.isub, 1) := by decide +kernel
theorem dJx4a65c_fastRemove_b59b0_31 : decode cJx4a65c_fastRemove_b59b0 31 = .ok (.invokestatic 112, 3) := by decide +kernel
theorem dJx4a65c_fastRemove_b59b0_34 : decode cJx4a65c_fastRemove_b59b0 34 = .ok (.aload_n 1, 1) := by decide +kernel
theorem dJx4a65c_fastRemove_b59b0_35 : decode cJx4a65c_fastRemove_b59b0 35 = .ok (.aload_n 0, 1) := by decide +kernel
theorem dJx4a65c_fastRemove_b59b0_36 : decode cJx4a65c_fastRemove_b59b0 36 = .ok (.iload_n 3, 1) := by decide +kernel
theorem dJx4a65c_fastRemove_b59b0_37 : decode cJx4a65c_fastRemove_b59b0 37 = .ok (.dup_x1, 1) := by decide +kernel
theorem dJx4a65c_fastRemove_b59b0_38 : decode cJx4a65c_fastRemove_b59b0 38 = .ok (.putfield 48, 3) := by decide +kernel
theorem dJx4a65c_fastRemove_b59b0_41 : decode cJx4a65c_fastRemove_b59b0 41 = .ok (.aconst_null, 1) := by decide +kernel
theorem dJx4a65c_fastRemove_b59b0_42 : decode cJx4a65c_fastRemove_b59b0 42 = .ok (.aastore, 1) := by decide +kernel
theorem dJx4a65c_fastRemove_b59b0_43 : decode cJx4a65c_fastRemove_b59b0 43 = .ok (.return_, 1) := by decide +kernel
theorem dJ7_fill_53178_0 : decode cJ7_fill_53178 0 = .ok (.iconst 0, 1) := by decide +kernel
theorem dJ7_fill_53178_1 : decode cJ7_fill_53178 1 = .ok (.istore_n 2, 1) := by decide +kernel
theorem dJ7_fill_53178_2 : decode cJ7_fill_53178 2 = .ok (.aload_n 0, 1) := by decide +kernel
theorem dJ7_fill_53178_3 : decode cJ7_fill_53178 3 = .ok (.arraylength, 1) := by decide +kernel
theorem dJ7_fill_53178_4 : decode cJ7_fill_53178 4 = .ok (.istore_n 3, 1) := by decide +kernel
theorem dJ7_fill_53178_5 : decode cJ7_fill_53178 5 = .ok (.iload_n 2, 1) := by decide +kernel
theorem dJ7_fill_53178_6 : decode cJ7_fill_53178 6 = .ok (.iload_n 3, 1) := by decide +kernel
theorem dJ7_fill_53178_7 : decode cJ7_fill_53178 7 = .ok (.if_icmp .ge 13, 3) := by decide +kernel
theorem dJ7_fill_53178_10 : decode cJ7_fill_53178 10 = .ok (.aload_n 0, 1) := by decide +kernel
theorem dJ7_fill_53178_11 : decode cJ7_fill_53178 11 = .ok (.iload_n 2, 1) := by decide +kernel
theorem dJ7_fill_53178_12 : decode cJ7_fill_53178 12 = .ok (.iload_n 1, 1) := by decide +kernel
theorem dJ7_fill_53178_13 : decode cJ7_fill_53178 13 = .ok (.iastore, 1) := by decide +kernel
theorem dJ7_fill_53178_14 : decode cJ7_fill_53178 14 = .ok (.iinc 2 1, 3) := by decide +kernel
theorem dJ7_fill_53178_17 : decode cJ7_fill_53178 17 = .ok (.goto (-12), 3) := by decide +kernel
theorem dJ7_fill_53178_20 : decode cJ7_fill_53178 20 = .ok (.return_, 1) := by decide +kernel
theorem dJ7_copyOf_1904c_0 : decode cJ7_copyOf_1904c 0 = .ok (.aload_n 0, 1) := by decide +kernel
theorem dJ7_copyOf_1904c_1 : decode cJ7_copyOf_1904c 1 = .ok (.iload_n 1, 1) := by decide +kernel
theorem dJ7_copyOf_1904c_2 : decode cJ7_copyOf_1904c 2 = .ok (.aload_n 0, 1) := by decide +kernel
theorem dJ7_copyOf_1904c_3 : decode cJ7_copyOf_1904c 3 = .ok (.invokevirtual 86, 3) := by decide +kernel
theorem dJ7_copyOf_1904c_6 : decode cJ7_copyOf_1904c 6 = .ok (.invokestatic 300, 3) := by decide +kernel
theorem dJ7_copyOf_1904c_9 : decode cJ7_copyOf_1904c 9 = .ok (.areturn, 1) := by decide +kernel
theorem dJ7_copyOf_6403c_0 : decode cJ7_copyOf_6403c 0 = .ok (.aload_n 2, 1) := by decide +kernel
theorem dJ7_copyOf_6403c_1 : decode cJ7_copyOf_6403c 1 = .ok (.ldc 110, 2) := by decide +kernel
theorem dJ7_copyOf_6403c_3 : decode cJ7_copyOf_6403c 3 = .ok (.if_acmp .ne 10, 3) := by decide +kernel
theorem dJ7_copyOf_6403c_6 : decode cJ7_copyOf_6403c 6 = .ok (.iload_n 1, 1) := by decide +kernel
theorem dJ7_copyOf_6403c_7 : decode cJ7_copyOf_6403c 7 = .ok (.anewarray 2, 3) := by decide +kernel
theorem dJ7_copyOf_6403c_10 : decode cJ7_copyOf_6403c 10 = .ok (.goto 14, 3) := by decide +kernel
theorem dJ7_copyOf_6403c_13 : decode cJ7_copyOf_6403c 13 = .ok (.aload_n 2, 1) := by decide +kernel
theorem dJ7_copyOf_6403c_14 : decode cJ7_copyOf_6403c 14 = .ok (.invokevirtual 90, 3) := by decide +kernel
theorem dJ7_copyOf_6403c_17 : decode cJ7_copyOf_6403c 17 = .ok (.iload_n 1, 1) := by decide +kernel
theorem dJ7_copyOf_6403c_18 : decode cJ7_copyOf_6403c 18 = .ok (.invokestatic 95, 3) := by decide +kernel
theorem dJ7_copyOf_6403c_21 : decode cJ7_copyOf_6403c 21 = .ok (.checkcast 110, 3) := by decide +kernel
theorem dJ7_copyOf_6403c_24 : decode cJ7_copyOf_6403c 24 = .ok (.astore_n 3, 1) := by decide +kernel
theorem dJ7_copyOf_6403c_25 : decode cJ7_copyOf_6403c 25 = .ok (.aload_n 0, 1) := by decide +kernel
theorem dJ7_copyOf_6403c_26 : decode cJ7_copyOf_6403c 26 = .ok (.iconst 0, 1) := by decide +kernel
theorem dJ7_copyOf_6403c_27 : decode cJ7_copyOf_6403c 27 = .ok (.aload_n 3, 1) := by decide +kernel
theorem dJ7_copyOf_6403c_28 : decode cJ7_copyOf_6403c 28 = .ok (.iconst 0, 1) := by decide +kernel
theorem dJ7_copyOf_6403c_29 : decode cJ7_copyOf_6403c 29 = .ok (.aload_n 0, 1) := by decide +kernel
theorem dJ7_copyOf_6403c_30 : decode cJ7_copyOf_6403c 30 = .ok (.arraylength, 1) := by decide +kernel
theorem dJ7_copyOf_6403c_31 : decode cJ7_copyOf_6403c 31 = .ok (.iload_n 1, 1) := by decide +kernel
theorem dJ7_copyOf_6403c_32 : decode cJ7_copyOf_6403c 32 = .ok (.invokestatic 304, 3) := by decide +kernel
theorem dJ7_copyOf_6403c_35 : decode cJ7_copyOf_6403c 35 = .ok (.invokestatic 150, 3) := by decide +kernel
theorem dJ7_copyOf_6403c_38 : decode cJ7_copyOf_6403c 38 = .ok (.aload_n 3, 1) := by decide +kernel
theorem dJ7_copyOf_6403c_39 : decode cJ7_copyOf_6403c 39 = .ok (.areturn, 1) := by decide +kernel
theorem dJ15_checkIndex_7cf53_0 : decode cJ15_checkIndex_7cf53 0 = .ok (.iload_n 0, 1) := by decide +kernel
theorem dJ15_checkIndex_7cf53_1 : decode cJ15_checkIndex_7cf53 1 = .ok (.iload_n 1, 1) := by decide +kernel
theorem dJ15_checkIndex_7cf53_2 : decode cJ15_checkIndex_7cf53 2 = .ok (.aconst_null, 1) := by decide +kernel
theorem dJ15_checkIndex_7cf53_3 : decode cJ15_checkIndex_7cf53 3 = .ok (.invokestatic 105, 3) := by decide +kernel
theorem dJ15_checkIndex_7cf53_6 : decode cJ15_checkIndex_7cf53 6 = .ok (.ireturn, 1) := by decide +kernel
theorem dJ8_newLength_cabcc_0 : decode cJ8_newLength_cabcc 0 = .ok (.iload_n 0, 1) := by decide +kernel
theorem dJ8_newLength_cabcc_1 : decode cJ8_newLength_cabcc 1 = .ok (.iload_n 1, 1) := by decide +kernel
theorem dJ8_newLength_cabcc_2 : decode cJ8_newLength_cabcc 2 = .ok (.iload_n 2, 1) := by decide +kernel
theorem dJ8_newLength_cabcc_3 : decode cJ8_newLength_cabcc 3 = .ok (.invokestatic 194, 3) := by decide +kernel
theorem dJ8_newLength_cabcc_6 : decode cJ8_newLength_cabcc 6 = .ok (.iadd, 1) := by decide +kernel
theorem dJ8_newLength_cabcc_7 : decode cJ8_newLength_cabcc 7 = .ok (.istore_n 3, 1) := by decide +kernel
theorem dJ8_newLength_cabcc_8 : decode cJ8_newLength_cabcc 8 = .ok (.iconst 0, 1) := by decide +kernel
theorem dJ8_newLength_cabcc_9 : decode cJ8_newLength_cabcc 9 = .ok (.iload_n 3, 1) := by decide +kernel
theorem dJ8_newLength_cabcc_10 : decode cJ8_newLength_cabcc 10 = .ok (.if_icmp .ge 11, 3) := by decide +kernel
theorem dJ8_newLength_cabcc_13 : decode cJ8_newLength_cabcc 13 = .ok (.iload_n 3, 1) := by decide +kernel
theorem dJ8_newLength_cabcc_14 : decode cJ8_newLength_cabcc 14 = .ok (.ldc 200, 2) := by decide +kernel
theorem dJ8_newLength_cabcc_16 : decode cJ8_newLength_cabcc 16 = .ok (.if_icmp .gt 5, 3) := by decide +kernel
theorem dJ8_newLength_cabcc_19 : decode cJ8_newLength_cabcc 19 = .ok (.iload_n 3, 1) := by decide +kernel
theorem dJ8_newLength_cabcc_20 : decode cJ8_newLength_cabcc 20 = .ok (.ireturn, 1) := by decide +kernel
theorem dJ8_newLength_cabcc_21 : decode cJ8_newLength_cabcc 21 = .ok (.iload_n 0, 1) := by decide +kernel
theorem dJ8_newLength_cabcc_22 : decode cJ8_newLength_cabcc 22 = .ok (.iload_n 1, 1) := by decide +kernel
theorem dJ8_newLength_cabcc_23 : decode cJ8_newLength_cabcc 23 = .ok (.invokestatic 201, 3) := by decide +kernel
theorem dJ8_newLength_cabcc_26 : decode cJ8_newLength_cabcc 26 = .ok (.ireturn, 1) := by decide +kernel
theorem dJ8_hugeLength_7cf53_0 : decode cJ8_hugeLength_7cf53 0 = .ok (.iload_n 0, 1) := by decide +kernel
theorem dJ8_hugeLength_7cf53_1 : decode cJ8_hugeLength_7cf53 1 = .ok (.iload_n 1, 1) := by decide +kernel
theorem dJ8_hugeLength_7cf53_2 : decode cJ8_hugeLength_7cf53 2 = .ok (.iadd, 1) := by decide +kernel
theorem dJ8_hugeLength_7cf53_3 : decode cJ8_hugeLength_7cf53 3 = .ok (.istore_n 2, 1) := by decide +kernel
theorem dJ8_hugeLength_7cf53_4 : decode cJ8_hugeLength_7cf53 4 = .ok (.iload_n 2, 1) := by decide +kernel
theorem dJ8_hugeLength_7cf53_5 : decode cJ8_hugeLength_7cf53 5 = .ok (.ifCond .ge 44, 3) := by decide +kernel
theorem dJ8_hugeLength_7cf53_8 : decode cJ8_hugeLength_7cf53 8 = .ok (.new 204, 3) := by decide +kernel
theorem dJ8_hugeLength_7cf53_11 : decode cJ8_hugeLength_7cf53 11 = .ok (.dup, 1) := by decide +kernel
theorem dJ8_hugeLength_7cf53_12 : decode cJ8_hugeLength_7cf53 12 = .ok (.new 89, 3) := by decide +kernel
theorem dJ8_hugeLength_7cf53_15 : decode cJ8_hugeLength_7cf53 15 = .ok (.dup, 1) := by decide +kernel
theorem dJ8_hugeLength_7cf53_16 : decode cJ8_hugeLength_7cf53 16 = .ok (.invokespecial 91, 3) := by decide +kernel
theorem dJ8_hugeLength_7cf53_19 : decode cJ8_hugeLength_7cf53 19 = .ok (.ldc 206, 2) := by decide +kernel
theorem dJ8_hugeLength_7cf53_21 : decode cJ8_hugeLength_7cf53 21 = .ok (.invokevirtual 94, 3) := by decide +kernel
theorem dJ8_hugeLength_7cf53_24 : decode cJ8_hugeLength_7cf53 24 = .ok (.iload_n 0, 1) := by decide +kernel
theorem dJ8_hugeLength_7cf53_25 : decode cJ8_hugeLength_7cf53 25 = .ok (.invokevirtual 98, 3) := by decide +kernel
theorem dJ8_hugeLength_7cf53_28 : decode cJ8_hugeLength_7cf53 28 = .ok (.ldc 208, 2) := by decide +kernel
theorem dJ8_hugeLength_7cf53_30 : decode cJ8_hugeLength_7cf53 30 = .ok (.invokevirtual 94, 3) := by decide +kernel
theorem dJ8_hugeLength_7cf53_33 : decode cJ8_hugeLength_7cf53 33 = .ok (.iload_n 1, 1) := by decide +kernel
theorem dJ8_hugeLength_7cf53_34 : decode cJ8_hugeLength_7cf53 34 = .ok (.invokevirtual 98, 3) := by decide +kernel
theorem dJ8_hugeLength_7cf53_37 : decode cJ8_hugeLength_7cf53 37 = .ok (.ldc 210, 2) := by decide +kernel
theorem dJ8_hugeLength_7cf53_39 : decode cJ8_hugeLength_7cf53 39 = .ok (.invokevirtual 94, 3) := by decide +kernel
theorem dJ8_hugeLength_7cf53_42 : decode cJ8_hugeLength_7cf53 42 = .ok (.invokevirtual 101, 3) := by decide +kernel
theorem dJ8_hugeLength_7cf53_45 : decode cJ8_hugeLength_7cf53 45 = .ok (.invokespecial 212, 3) := by decide +kernel
theorem dJ8_hugeLength_7cf53_48 : decode cJ8_hugeLength_7cf53 48 = .ok (.athrow, 1) := by decide +kernel
theorem dJ8_hugeLength_7cf53_49 : decode cJ8_hugeLength_7cf53 49 = .ok (.iload_n 2, 1) := by decide +kernel
theorem dJ8_hugeLength_7cf53_50 : decode cJ8_hugeLength_7cf53 50 = .ok (.ldc 200, 2) := by decide +kernel
theorem dJ8_hugeLength_7cf53_52 : decode cJ8_hugeLength_7cf53 52 = .ok (.if_icmp .gt 6, 3) := by decide +kernel
theorem dJ8_hugeLength_7cf53_55 : decode cJ8_hugeLength_7cf53 55 = .ok (.ldc 200, 2) := by decide +kernel
theorem dJ8_hugeLength_7cf53_57 : decode cJ8_hugeLength_7cf53 57 = .ok (.ireturn, 1) := by decide +kernel
theorem dJ8_hugeLength_7cf53_58 : decode cJ8_hugeLength_7cf53 58 = .ok (.iload_n 2, 1) := by decide +kernel
theorem dJ8_hugeLength_7cf53_59 : decode cJ8_hugeLength_7cf53 59 = .ok (.ireturn, 1) := by decide +kernel
theorem dJ3_checkIndex_8e157_0 : decode cJ3_checkIndex_8e157 0 = .ok (.iload_n 0, 1) := by decide +kernel
theorem dJ3_checkIndex_8e157_1 : decode cJ3_checkIndex_8e157 1 = .ok (.ifCond .lt 8, 3) := by decide +kernel
theorem dJ3_checkIndex_8e157_4 : decode cJ3_checkIndex_8e157 4 = .ok (.iload_n 0, 1) := by decide +kernel
theorem dJ3_checkIndex_8e157_5 : decode cJ3_checkIndex_8e157 5 = .ok (.iload_n 1, 1) := by decide +kernel
theorem dJ3_checkIndex_8e157_6 : decode cJ3_checkIndex_8e157 6 = .ok (.if_icmp .lt 10, 3) := by decide +kernel
theorem dJ3_checkIndex_8e157_9 : decode cJ3_checkIndex_8e157 9 = .ok (.aload_n 2, 1) := by decide +kernel
theorem dJ3_checkIndex_8e157_10 : decode cJ3_checkIndex_8e157 10 = .ok (.iload_n 0, 1) := by decide +kernel
theorem dJ3_checkIndex_8e157_11 : decode cJ3_checkIndex_8e157 11 = .ok (.iload_n 1, 1) := by decide +kernel
theorem dJ3_checkIndex_8e157_12 : decode cJ3_checkIndex_8e157 12 = .ok (.invokestatic 95, 3) := by decide +kernel
theorem dJ3_checkIndex_8e157_15 : decode cJ3_checkIndex_8e157 15 = .ok (.athrow, 1) := by decide +kernel
theorem dJ3_checkIndex_8e157_16 : decode cJ3_checkIndex_8e157 16 = .ok (.iload_n 0, 1) := by decide +kernel
theorem dJ3_checkIndex_8e157_17 : decode cJ3_checkIndex_8e157 17 = .ok (.ireturn, 1) := by decide +kernel
theorem dL_set_0 : decode cL_set 0 = .ok (.aload_n 3, 1) := by decide +kernel
theorem dL_set_1 : decode cL_set 1 = .ok (.iconst 0, 1) := by decide +kernel
theorem dL_set_2 : decode cL_set 2 = .ok (.aload_n 0, 1) := by decide +kernel
theorem dL_set_3 : decode cL_set 3 = .ok (.iload_n 1, 1) := by decide +kernel
theorem dL_set_4 : decode cL_set 4 = .ok (.iload_n 2, 1) := by decide +kernel
theorem dL_set_5 : decode cL_set 5 = .ok (.invokevirtual 7, 3) := by decide +kernel
theorem dL_set_8 : decode cL_set 8 = .ok (.i2l, 1) := by decide +kernel
theorem dL_set_9 : decode cL_set 9 = .ok (.lastore, 1) := by decide +kernel
theorem dL_set_10 : decode cL_set 10 = .ok (.goto 11, 3) := by decide +kernel
theorem dL_set_13 : decode cL_set 13 = .ok (.astore 4, 2) := by decide +kernel
theorem dL_set_15 : decode cL_set 15 = .ok (.iconst 1, 1) := by decide +kernel
theorem dL_set_16 : decode cL_set 16 = .ok (.ireturn, 1) := by decide +kernel
theorem dL_set_17 : decode cL_set 17 = .ok (.astore 4, 2) := by decide +kernel
theorem dL_set_19 : decode cL_set 19 = .ok (.iconst 2, 1) := by decide +kernel
theorem dL_set_20 : decode cL_set 20 = .ok (.ireturn, 1) := by decide +kernel
theorem dL_set_21 : decode cL_set 21 = .ok (.iconst 0, 1) := by decide +kernel
theorem dL_set_22 : decode cL_set 22 = .ok (.ireturn, 1) := by decide +kernel
theorem dL_setDevice_0 : decode cL_setDevice 0 = .ok (.aload 4, 2) := by decide +kernel
theorem dL_setDevice_2 : decode cL_setDevice 2 = .ok (.iconst 0, 1) := by decide +kernel
theorem dL_setDevice_3 : decode cL_setDevice 3 = .ok (.aload_n 0, 1) := by decide +kernel
theorem dL_setDevice_4 : decode cL_setDevice 4 = .ok (.iload_n 1, 1) := by decide +kernel
theorem dL_setDevice_5 : decode cL_setDevice 5 = .ok (.iload_n 2, 1) := by decide +kernel
theorem dL_setDevice_6 : decode cL_setDevice 6 = .ok (.iload_n 3, 1) := by decide +kernel
theorem dL_setDevice_7 : decode cL_setDevice 7 = .ok (.invokevirtual 17, 3) := by decide +kernel
theorem dL_setDevice_10 : decode cL_setDevice 10 = .ok (.i2l, 1) := by decide +kernel
theorem dL_setDevice_11 : decode cL_setDevice 11 = .ok (.lastore, 1) := by decide +kernel
theorem dL_setDevice_12 : decode cL_setDevice 12 = .ok (.goto 11, 3) := by decide +kernel
theorem dL_setDevice_15 : decode cL_setDevice 15 = .ok (.astore 5, 2) := by decide +kernel
theorem dL_setDevice_17 : decode cL_setDevice 17 = .ok (.iconst 1, 1) := by decide +kernel
theorem dL_setDevice_18 : decode cL_setDevice 18 = .ok (.ireturn, 1) := by decide +kernel
theorem dL_setDevice_19 : decode cL_setDevice 19 = .ok (.astore 5, 2) := by decide +kernel
theorem dL_setDevice_21 : decode cL_setDevice 21 = .ok (.iconst 2, 1) := by decide +kernel
theorem dL_setDevice_22 : decode cL_setDevice 22 = .ok (.ireturn, 1) := by decide +kernel
theorem dL_setDevice_23 : decode cL_setDevice 23 = .ok (.iconst 0, 1) := by decide +kernel
theorem dL_setDevice_24 : decode cL_setDevice 24 = .ok (.ireturn, 1) := by decide +kernel
theorem dL_poke_0 : decode cL_poke 0 = .ok (.aload 4, 2) := by decide +kernel
theorem dL_poke_2 : decode cL_poke 2 = .ok (.iconst 0, 1) := by decide +kernel
theorem dL_poke_3 : decode cL_poke 3 = .ok (.aload_n 0, 1) := by decide +kernel
theorem dL_poke_4 : decode cL_poke 4 = .ok (.iload_n 1, 1) := by decide +kernel
theorem dL_poke_5 : decode cL_poke 5 = .ok (.iload_n 2, 1) := by decide +kernel
theorem dL_poke_6 : decode cL_poke 6 = .ok (.iload_n 3, 1) := by decide +kernel
theorem dL_poke_7 : decode cL_poke 7 = .ok (.invokevirtual 21, 3) := by decide +kernel
theorem dL_poke_10 : decode cL_poke 10 = .ok (.i2l, 1) := by decide +kernel
theorem dL_poke_11 : decode cL_poke 11 = .ok (.lastore, 1) := by decide +kernel
theorem dL_poke_12 : decode cL_poke 12 = .ok (.goto 11, 3) := by decide +kernel
theorem dL_poke_15 : decode cL_poke 15 = .ok (.astore 5, 2) := by decide +kernel
theorem dL_poke_17 : decode cL_poke 17 = .ok (.iconst 1, 1) := by decide +kernel
theorem dL_poke_18 : decode cL_poke 18 = .ok (.ireturn, 1) := by decide +kernel
theorem dL_poke_19 : decode cL_poke 19 = .ok (.astore 5, 2) := by decide +kernel
theorem dL_poke_21 : decode cL_poke 21 = .ok (.iconst 2, 1) := by decide +kernel
theorem dL_poke_22 : decode cL_poke 22 = .ok (.ireturn, 1) := by decide +kernel
theorem dL_poke_23 : decode cL_poke 23 = .ok (.iconst 0, 1) := by decide +kernel
theorem dL_poke_24 : decode cL_poke 24 = .ok (.ireturn, 1) := by decide +kernel
theorem dL_peek_0 : decode cL_peek 0 = .ok (.aload_n 3, 1) := by decide +kernel
theorem dL_peek_1 : decode cL_peek 1 = .ok (.iconst 0, 1) := by decide +kernel
theorem dL_peek_2 : decode cL_peek 2 = .ok (.aload_n 0, 1) := by decide +kernel
theorem dL_peek_3 : decode cL_peek 3 = .ok (.iload_n 1, 1) := by decide +kernel
theorem dL_peek_4 : decode cL_peek 4 = .ok (.iload_n 2, 1) := by decide +kernel
theorem dL_peek_5 : decode cL_peek 5 = .ok (.invokevirtual 24, 3) := by decide +kernel
theorem dL_peek_8 : decode cL_peek 8 = .ok (.i2l, 1) := by decide +kernel
theorem dL_peek_9 : decode cL_peek 9 = .ok (.lastore, 1) := by decide +kernel
theorem dL_peek_10 : decode cL_peek 10 = .ok (.goto 7, 3) := by decide +kernel
theorem dL_peek_13 : decode cL_peek 13 = .ok (.astore 4, 2) := by decide +kernel
theorem dL_peek_15 : decode cL_peek 15 = .ok (.iconst 1, 1) := by decide +kernel
theorem dL_peek_16 : decode cL_peek 16 = .ok (.ireturn, 1) := by decide +kernel
theorem dL_peek_17 : decode cL_peek 17 = .ok (.iconst 0, 1) := by decide +kernel
theorem dL_peek_18 : decode cL_peek 18 = .ok (.ireturn, 1) := by decide +kernel
theorem dL_protect_0 : decode cL_protect 0 = .ok (.aload 4, 2) := by decide +kernel
theorem dL_protect_2 : decode cL_protect 2 = .ok (.iconst 0, 1) := by decide +kernel
theorem dL_protect_3 : decode cL_protect 3 = .ok (.aload_n 0, 1) := by decide +kernel
theorem dL_protect_4 : decode cL_protect 4 = .ok (.iload_n 1, 1) := by decide +kernel
theorem dL_protect_5 : decode cL_protect 5 = .ok (.iload_n 2, 1) := by decide +kernel
theorem dL_protect_6 : decode cL_protect 6 = .ok (.iload_n 3, 1) := by decide +kernel
theorem dL_protect_7 : decode cL_protect 7 = .ok (.invokevirtual 27, 3) := by decide +kernel
theorem dL_protect_10 : decode cL_protect 10 = .ok (.ifCond .eq 7, 3) := by decide +kernel
theorem dL_protect_13 : decode cL_protect 13 = .ok (.lconst 1, 1) := by decide +kernel
theorem dL_protect_14 : decode cL_protect 14 = .ok (.goto 4, 3) := by decide +kernel
theorem dL_protect_17 : decode cL_protect 17 = .ok (.lconst 0, 1) := by decide +kernel
theorem dL_protect_18 : decode cL_protect 18 = .ok (.lastore, 1) := by decide +kernel
theorem dL_protect_19 : decode cL_protect 19 = .ok (.goto 7, 3) := by decide +kernel
theorem dL_protect_22 : decode cL_protect 22 = .ok (.astore 5, 2) := by decide +kernel
theorem dL_protect_24 : decode cL_protect 24 = .ok (.iconst 1, 1) := by decide +kernel
theorem dL_protect_25 : decode cL_protect 25 = .ok (.ireturn, 1) := by decide +kernel
theorem dL_protect_26 : decode cL_protect 26 = .ok (.iconst 0, 1) := by decide +kernel
theorem dL_protect_27 : decode cL_protect 27 = .ok (.ireturn, 1) := by decide +kernel
theorem dL_fault_0 : decode cL_fault 0 = .ok (.aload 4, 2) := by decide +kernel
theorem dL_fault_2 : decode cL_fault 2 = .ok (.iconst 0, 1) := by decide +kernel
theorem dL_fault_3 : decode cL_fault 3 = .ok (.aload_n 0, 1) := by decide +kernel
theorem dL_fault_4 : decode cL_fault 4 = .ok (.iload_n 1, 1) := by decide +kernel
theorem dL_fault_5 : decode cL_fault 5 = .ok (.iload_n 2, 1) := by decide +kernel
theorem dL_fault_6 : decode cL_fault 6 = .ok (.iload_n 3, 1) := by decide +kernel
theorem dL_fault_7 : decode cL_fault 7 = .ok (.invokevirtual 31, 3) := by decide +kernel
theorem dL_fault_10 : decode cL_fault 10 = .ok (.i2l, 1) := by decide +kernel
theorem dL_fault_11 : decode cL_fault 11 = .ok (.lastore, 1) := by decide +kernel
theorem dL_fault_12 : decode cL_fault 12 = .ok (.goto 15, 3) := by decide +kernel
theorem dL_fault_15 : decode cL_fault 15 = .ok (.astore 5, 2) := by decide +kernel
theorem dL_fault_17 : decode cL_fault 17 = .ok (.iconst 1, 1) := by decide +kernel
theorem dL_fault_18 : decode cL_fault 18 = .ok (.ireturn, 1) := by decide +kernel
theorem dL_fault_19 : decode cL_fault 19 = .ok (.astore 5, 2) := by decide +kernel
theorem dL_fault_21 : decode cL_fault 21 = .ok (.iconst 2, 1) := by decide +kernel
theorem dL_fault_22 : decode cL_fault 22 = .ok (.ireturn, 1) := by decide +kernel
theorem dL_fault_23 : decode cL_fault 23 = .ok (.astore 5, 2) := by decide +kernel
theorem dL_fault_25 : decode cL_fault 25 = .ok (.iconst 3, 1) := by decide +kernel
theorem dL_fault_26 : decode cL_fault 26 = .ok (.ireturn, 1) := by decide +kernel
theorem dL_fault_27 : decode cL_fault 27 = .ok (.iconst 0, 1) := by decide +kernel
theorem dL_fault_28 : decode cL_fault 28 = .ok (.ireturn, 1) := by decide +kernel
theorem dL_read_0 : decode cL_read 0 = .ok (.aload 5, 2) := by decide +kernel
theorem dL_read_2 : decode cL_read 2 = .ok (.iconst 0, 1) := by decide +kernel
theorem dL_read_3 : decode cL_read 3 = .ok (.aload_n 0, 1) := by decide +kernel
theorem dL_read_4 : decode cL_read 4 = .ok (.iload_n 1, 1) := by decide +kernel
theorem dL_read_5 : decode cL_read 5 = .ok (.iload_n 2, 1) := by decide +kernel
theorem dL_read_6 : decode cL_read 6 = .ok (.iload_n 3, 1) := by decide +kernel
theorem dL_read_7 : decode cL_read 7 = .ok (.iload 4, 2) := by decide +kernel
theorem dL_read_9 : decode cL_read 9 = .ok (.invokevirtual 36, 3) := by decide +kernel
theorem dL_read_12 : decode cL_read 12 = .ok (.i2l, 1) := by decide +kernel
theorem dL_read_13 : decode cL_read 13 = .ok (.lastore, 1) := by decide +kernel
theorem dL_read_14 : decode cL_read 14 = .ok (.goto 15, 3) := by decide +kernel
theorem dL_read_17 : decode cL_read 17 = .ok (.astore 6, 2) := by decide +kernel
theorem dL_read_19 : decode cL_read 19 = .ok (.iconst 1, 1) := by decide +kernel
theorem dL_read_20 : decode cL_read 20 = .ok (.ireturn, 1) := by decide +kernel
theorem dL_read_21 : decode cL_read 21 = .ok (.astore 6, 2) := by decide +kernel
theorem dL_read_23 : decode cL_read 23 = .ok (.iconst 2, 1) := by decide +kernel
theorem dL_read_24 : decode cL_read 24 = .ok (.ireturn, 1) := by decide +kernel
theorem dL_read_25 : decode cL_read 25 = .ok (.astore 6, 2) := by decide +kernel
theorem dL_read_27 : decode cL_read 27 = .ok (.iconst 3, 1) := by decide +kernel
theorem dL_read_28 : decode cL_read 28 = .ok (.ireturn, 1) := by decide +kernel
theorem dL_read_29 : decode cL_read 29 = .ok (.iconst 0, 1) := by decide +kernel
theorem dL_read_30 : decode cL_read 30 = .ok (.ireturn, 1) := by decide +kernel
theorem dL_write_0 : decode cL_write 0 = .ok (.aload 5, 2) := by decide +kernel
theorem dL_write_2 : decode cL_write 2 = .ok (.iconst 0, 1) := by decide +kernel
theorem dL_write_3 : decode cL_write 3 = .ok (.aload_n 0, 1) := by decide +kernel
theorem dL_write_4 : decode cL_write 4 = .ok (.iload_n 1, 1) := by decide +kernel
theorem dL_write_5 : decode cL_write 5 = .ok (.iload_n 2, 1) := by decide +kernel
theorem dL_write_6 : decode cL_write 6 = .ok (.iload_n 3, 1) := by decide +kernel
theorem dL_write_7 : decode cL_write 7 = .ok (.iload 4, 2) := by decide +kernel
theorem dL_write_9 : decode cL_write 9 = .ok (.invokevirtual 40, 3) := by decide +kernel
theorem dL_write_12 : decode cL_write 12 = .ok (.i2l, 1) := by decide +kernel
theorem dL_write_13 : decode cL_write 13 = .ok (.lastore, 1) := by decide +kernel
theorem dL_write_14 : decode cL_write 14 = .ok (.goto 15, 3) := by decide +kernel
theorem dL_write_17 : decode cL_write 17 = .ok (.astore 6, 2) := by decide +kernel
theorem dL_write_19 : decode cL_write 19 = .ok (.iconst 1, 1) := by decide +kernel
theorem dL_write_20 : decode cL_write 20 = .ok (.ireturn, 1) := by decide +kernel
theorem dL_write_21 : decode cL_write 21 = .ok (.astore 6, 2) := by decide +kernel
theorem dL_write_23 : decode cL_write 23 = .ok (.iconst 2, 1) := by decide +kernel
theorem dL_write_24 : decode cL_write 24 = .ok (.ireturn, 1) := by decide +kernel
theorem dL_write_25 : decode cL_write 25 = .ok (.astore 6, 2) := by decide +kernel
theorem dL_write_27 : decode cL_write 27 = .ok (.iconst 3, 1) := by decide +kernel
theorem dL_write_28 : decode cL_write 28 = .ok (.ireturn, 1) := by decide +kernel
theorem dL_write_29 : decode cL_write 29 = .ok (.iconst 0, 1) := by decide +kernel
theorem dL_write_30 : decode cL_write 30 = .ok (.ireturn, 1) := by decide +kernel
theorem dL_request_0 : decode cL_request 0 = .ok (.aload_n 3, 1) := by decide +kernel
theorem dL_request_1 : decode cL_request 1 = .ok (.iconst 0, 1) := by decide +kernel
theorem dL_request_2 : decode cL_request 2 = .ok (.aload_n 0, 1) := by decide +kernel
theorem dL_request_3 : decode cL_request 3 = .ok (.iload_n 1, 1) := by decide +kernel
theorem dL_request_4 : decode cL_request 4 = .ok (.iload_n 2, 1) := by decide +kernel
theorem dL_request_5 : decode cL_request 5 = .ok (.invokevirtual 43, 3) := by decide +kernel
theorem dL_request_8 : decode cL_request 8 = .ok (.i2l, 1) := by decide +kernel
theorem dL_request_9 : decode cL_request 9 = .ok (.lastore, 1) := by decide +kernel
theorem dL_request_10 : decode cL_request 10 = .ok (.goto 7, 3) := by decide +kernel
theorem dL_request_13 : decode cL_request 13 = .ok (.astore 4, 2) := by decide +kernel
theorem dL_request_15 : decode cL_request 15 = .ok (.iconst 1, 1) := by decide +kernel
theorem dL_request_16 : decode cL_request 16 = .ok (.ireturn, 1) := by decide +kernel
theorem dL_request_17 : decode cL_request 17 = .ok (.iconst 0, 1) := by decide +kernel
theorem dL_request_18 : decode cL_request 18 = .ok (.ireturn, 1) := by decide +kernel
theorem dL_value_0 : decode cL_value 0 = .ok (.aload_n 3, 1) := by decide +kernel
theorem dL_value_1 : decode cL_value 1 = .ok (.iconst 0, 1) := by decide +kernel
theorem dL_value_2 : decode cL_value 2 = .ok (.aload_n 0, 1) := by decide +kernel
theorem dL_value_3 : decode cL_value 3 = .ok (.iload_n 1, 1) := by decide +kernel
theorem dL_value_4 : decode cL_value 4 = .ok (.iload_n 2, 1) := by decide +kernel
theorem dL_value_5 : decode cL_value 5 = .ok (.invokevirtual 46, 3) := by decide +kernel
theorem dL_value_8 : decode cL_value 8 = .ok (.i2l, 1) := by decide +kernel
theorem dL_value_9 : decode cL_value 9 = .ok (.lastore, 1) := by decide +kernel
theorem dL_value_10 : decode cL_value 10 = .ok (.goto 11, 3) := by decide +kernel
theorem dL_value_13 : decode cL_value 13 = .ok (.astore 4, 2) := by decide +kernel
theorem dL_value_15 : decode cL_value 15 = .ok (.iconst 1, 1) := by decide +kernel
theorem dL_value_16 : decode cL_value 16 = .ok (.ireturn, 1) := by decide +kernel
theorem dL_value_17 : decode cL_value 17 = .ok (.astore 4, 2) := by decide +kernel
theorem dL_value_19 : decode cL_value 19 = .ok (.iconst 2, 1) := by decide +kernel
theorem dL_value_20 : decode cL_value 20 = .ok (.ireturn, 1) := by decide +kernel
theorem dL_value_21 : decode cL_value 21 = .ok (.iconst 0, 1) := by decide +kernel
theorem dL_value_22 : decode cL_value 22 = .ok (.ireturn, 1) := by decide +kernel
theorem dL_requests_0 : decode cL_requests 0 = .ok (.aload_n 2, 1) := by decide +kernel
theorem dL_requests_1 : decode cL_requests 1 = .ok (.iconst 0, 1) := by decide +kernel
theorem dL_requests_2 : decode cL_requests 2 = .ok (.aload_n 0, 1) := by decide +kernel
theorem dL_requests_3 : decode cL_requests 3 = .ok (.iload_n 1, 1) := by decide +kernel
theorem dL_requests_4 : decode cL_requests 4 = .ok (.invokevirtual 49, 3) := by decide +kernel
theorem dL_requests_7 : decode cL_requests 7 = .ok (.i2l, 1) := by decide +kernel
theorem dL_requests_8 : decode cL_requests 8 = .ok (.lastore, 1) := by decide +kernel
theorem dL_requests_9 : decode cL_requests 9 = .ok (.goto 6, 3) := by decide +kernel
theorem dL_requests_12 : decode cL_requests 12 = .ok (.astore_n 3, 1) := by decide +kernel
theorem dL_requests_13 : decode cL_requests 13 = .ok (.iconst 1, 1) := by decide +kernel
theorem dL_requests_14 : decode cL_requests 14 = .ok (.ireturn, 1) := by decide +kernel
theorem dL_requests_15 : decode cL_requests 15 = .ok (.iconst 0, 1) := by decide +kernel
theorem dL_requests_16 : decode cL_requests 16 = .ok (.ireturn, 1) := by decide +kernel
theorem dL_requestsOf_0 : decode cL_requestsOf 0 = .ok (.aload_n 3, 1) := by decide +kernel
theorem dL_requestsOf_1 : decode cL_requestsOf 1 = .ok (.iconst 0, 1) := by decide +kernel
theorem dL_requestsOf_2 : decode cL_requestsOf 2 = .ok (.aload_n 0, 1) := by decide +kernel
theorem dL_requestsOf_3 : decode cL_requestsOf 3 = .ok (.iload_n 1, 1) := by decide +kernel
theorem dL_requestsOf_4 : decode cL_requestsOf 4 = .ok (.iload_n 2, 1) := by decide +kernel
theorem dL_requestsOf_5 : decode cL_requestsOf 5 = .ok (.invokevirtual 53, 3) := by decide +kernel
theorem dL_requestsOf_8 : decode cL_requestsOf 8 = .ok (.i2l, 1) := by decide +kernel
theorem dL_requestsOf_9 : decode cL_requestsOf 9 = .ok (.lastore, 1) := by decide +kernel
theorem dL_requestsOf_10 : decode cL_requestsOf 10 = .ok (.goto 7, 3) := by decide +kernel
theorem dL_requestsOf_13 : decode cL_requestsOf 13 = .ok (.astore 4, 2) := by decide +kernel
theorem dL_requestsOf_15 : decode cL_requestsOf 15 = .ok (.iconst 1, 1) := by decide +kernel
theorem dL_requestsOf_16 : decode cL_requestsOf 16 = .ok (.ireturn, 1) := by decide +kernel
theorem dL_requestsOf_17 : decode cL_requestsOf 17 = .ok (.iconst 0, 1) := by decide +kernel
theorem dL_requestsOf_18 : decode cL_requestsOf 18 = .ok (.ireturn, 1) := by decide +kernel
theorem dL_pass_0 : decode cL_pass 0 = .ok (.aload_n 2, 1) := by decide +kernel
theorem dL_pass_1 : decode cL_pass 1 = .ok (.iconst 0, 1) := by decide +kernel
theorem dL_pass_2 : decode cL_pass 2 = .ok (.aload_n 0, 1) := by decide +kernel
theorem dL_pass_3 : decode cL_pass 3 = .ok (.iload_n 1, 1) := by decide +kernel
theorem dL_pass_4 : decode cL_pass 4 = .ok (.invokevirtual 56, 3) := by decide +kernel
theorem dL_pass_7 : decode cL_pass 7 = .ok (.i2l, 1) := by decide +kernel
theorem dL_pass_8 : decode cL_pass 8 = .ok (.lastore, 1) := by decide +kernel
theorem dL_pass_9 : decode cL_pass 9 = .ok (.goto 9, 3) := by decide +kernel
theorem dL_pass_12 : decode cL_pass 12 = .ok (.astore_n 3, 1) := by decide +kernel
theorem dL_pass_13 : decode cL_pass 13 = .ok (.iconst 1, 1) := by decide +kernel
theorem dL_pass_14 : decode cL_pass 14 = .ok (.ireturn, 1) := by decide +kernel
theorem dL_pass_15 : decode cL_pass 15 = .ok (.astore_n 3, 1) := by decide +kernel
theorem dL_pass_16 : decode cL_pass 16 = .ok (.iconst 2, 1) := by decide +kernel
theorem dL_pass_17 : decode cL_pass 17 = .ok (.ireturn, 1) := by decide +kernel
theorem dL_pass_18 : decode cL_pass 18 = .ok (.iconst 0, 1) := by decide +kernel
theorem dL_pass_19 : decode cL_pass 19 = .ok (.ireturn, 1) := by decide +kernel
theorem dL_frameByte_0 : decode cL_frameByte 0 = .ok (.aload_n 2, 1) := by decide +kernel
theorem dL_frameByte_1 : decode cL_frameByte 1 = .ok (.iconst 0, 1) := by decide +kernel
theorem dL_frameByte_2 : decode cL_frameByte 2 = .ok (.aload_n 0, 1) := by decide +kernel
theorem dL_frameByte_3 : decode cL_frameByte 3 = .ok (.iload_n 1, 1) := by decide +kernel
theorem dL_frameByte_4 : decode cL_frameByte 4 = .ok (.invokevirtual 59, 3) := by decide +kernel
theorem dL_frameByte_7 : decode cL_frameByte 7 = .ok (.i2l, 1) := by decide +kernel
theorem dL_frameByte_8 : decode cL_frameByte 8 = .ok (.lastore, 1) := by decide +kernel
theorem dL_frameByte_9 : decode cL_frameByte 9 = .ok (.goto 6, 3) := by decide +kernel
theorem dL_frameByte_12 : decode cL_frameByte 12 = .ok (.astore_n 3, 1) := by decide +kernel
theorem dL_frameByte_13 : decode cL_frameByte 13 = .ok (.iconst 1, 1) := by decide +kernel
theorem dL_frameByte_14 : decode cL_frameByte 14 = .ok (.ireturn, 1) := by decide +kernel
theorem dL_frameByte_15 : decode cL_frameByte 15 = .ok (.iconst 0, 1) := by decide +kernel
theorem dL_frameByte_16 : decode cL_frameByte 16 = .ok (.ireturn, 1) := by decide +kernel
theorem dL_cacheAge_0 : decode cL_cacheAge 0 = .ok (.aload_n 3, 1) := by decide +kernel
theorem dL_cacheAge_1 : decode cL_cacheAge 1 = .ok (.iconst 0, 1) := by decide +kernel
theorem dL_cacheAge_2 : decode cL_cacheAge 2 = .ok (.aload_n 0, 1) := by decide +kernel
theorem dL_cacheAge_3 : decode cL_cacheAge 3 = .ok (.iload_n 1, 1) := by decide +kernel
theorem dL_cacheAge_4 : decode cL_cacheAge 4 = .ok (.iload_n 2, 1) := by decide +kernel
theorem dL_cacheAge_5 : decode cL_cacheAge 5 = .ok (.invokevirtual 62, 3) := by decide +kernel
theorem dL_cacheAge_8 : decode cL_cacheAge 8 = .ok (.i2l, 1) := by decide +kernel
theorem dL_cacheAge_9 : decode cL_cacheAge 9 = .ok (.lastore, 1) := by decide +kernel
theorem dL_cacheAge_10 : decode cL_cacheAge 10 = .ok (.goto 7, 3) := by decide +kernel
theorem dL_cacheAge_13 : decode cL_cacheAge 13 = .ok (.astore 4, 2) := by decide +kernel
theorem dL_cacheAge_15 : decode cL_cacheAge 15 = .ok (.iconst 1, 1) := by decide +kernel
theorem dL_cacheAge_16 : decode cL_cacheAge 16 = .ok (.ireturn, 1) := by decide +kernel
theorem dL_cacheAge_17 : decode cL_cacheAge 17 = .ok (.iconst 0, 1) := by decide +kernel
theorem dL_cacheAge_18 : decode cL_cacheAge 18 = .ok (.ireturn, 1) := by decide +kernel
theorem dL_cached_0 : decode cL_cached 0 = .ok (.aload_n 3, 1) := by decide +kernel
theorem dL_cached_1 : decode cL_cached 1 = .ok (.iconst 0, 1) := by decide +kernel
theorem dL_cached_2 : decode cL_cached 2 = .ok (.aload_n 0, 1) := by decide +kernel
theorem dL_cached_3 : decode cL_cached 3 = .ok (.iload_n 1, 1) := by decide +kernel
theorem dL_cached_4 : decode cL_cached 4 = .ok (.iload_n 2, 1) := by decide +kernel
theorem dL_cached_5 : decode cL_cached 5 = .ok (.invokevirtual 65, 3) := by decide +kernel
theorem dL_cached_8 : decode cL_cached 8 = .ok (.i2l, 1) := by decide +kernel
theorem dL_cached_9 : decode cL_cached 9 = .ok (.lastore, 1) := by decide +kernel
theorem dL_cached_10 : decode cL_cached 10 = .ok (.goto 7, 3) := by decide +kernel
theorem dL_cached_13 : decode cL_cached 13 = .ok (.astore 4, 2) := by decide +kernel
theorem dL_cached_15 : decode cL_cached 15 = .ok (.iconst 1, 1) := by decide +kernel
theorem dL_cached_16 : decode cL_cached 16 = .ok (.ireturn, 1) := by decide +kernel
theorem dL_cached_17 : decode cL_cached 17 = .ok (.iconst 0, 1) := by decide +kernel
theorem dL_cached_18 : decode cL_cached 18 = .ok (.ireturn, 1) := by decide +kernel
theorem dL_count_0 : decode cL_count 0 = .ok (.aload_n 2, 1) := by decide +kernel
theorem dL_count_1 : decode cL_count 1 = .ok (.iconst 0, 1) := by decide +kernel
theorem dL_count_2 : decode cL_count 2 = .ok (.aload_n 0, 1) := by decide +kernel
theorem dL_count_3 : decode cL_count 3 = .ok (.iload_n 1, 1) := by decide +kernel
theorem dL_count_4 : decode cL_count 4 = .ok (.invokevirtual 68, 3) := by decide +kernel
theorem dL_count_7 : decode cL_count 7 = .ok (.i2l, 1) := by decide +kernel
theorem dL_count_8 : decode cL_count 8 = .ok (.lastore, 1) := by decide +kernel
theorem dL_count_9 : decode cL_count 9 = .ok (.goto 6, 3) := by decide +kernel
theorem dL_count_12 : decode cL_count 12 = .ok (.astore_n 3, 1) := by decide +kernel
theorem dL_count_13 : decode cL_count 13 = .ok (.iconst 1, 1) := by decide +kernel
theorem dL_count_14 : decode cL_count 14 = .ok (.ireturn, 1) := by decide +kernel
theorem dL_count_15 : decode cL_count 15 = .ok (.iconst 0, 1) := by decide +kernel
theorem dL_count_16 : decode cL_count 16 = .ok (.ireturn, 1) := by decide +kernel
theorem dL_leastDrain_0 : decode cL_leastDrain 0 = .ok (.aload_n 2, 1) := by decide +kernel
theorem dL_leastDrain_1 : decode cL_leastDrain 1 = .ok (.iconst 0, 1) := by decide +kernel
theorem dL_leastDrain_2 : decode cL_leastDrain 2 = .ok (.aload_n 0, 1) := by decide +kernel
theorem dL_leastDrain_3 : decode cL_leastDrain 3 = .ok (.iload_n 1, 1) := by decide +kernel
theorem dL_leastDrain_4 : decode cL_leastDrain 4 = .ok (.invokevirtual 71, 3) := by decide +kernel
theorem dL_leastDrain_7 : decode cL_leastDrain 7 = .ok (.i2l, 1) := by decide +kernel
theorem dL_leastDrain_8 : decode cL_leastDrain 8 = .ok (.lastore, 1) := by decide +kernel
theorem dL_leastDrain_9 : decode cL_leastDrain 9 = .ok (.goto 6, 3) := by decide +kernel
theorem dL_leastDrain_12 : decode cL_leastDrain 12 = .ok (.astore_n 3, 1) := by decide +kernel
theorem dL_leastDrain_13 : decode cL_leastDrain 13 = .ok (.iconst 1, 1) := by decide +kernel
theorem dL_leastDrain_14 : decode cL_leastDrain 14 = .ok (.ireturn, 1) := by decide +kernel
theorem dL_leastDrain_15 : decode cL_leastDrain 15 = .ok (.iconst 0, 1) := by decide +kernel
theorem dL_leastDrain_16 : decode cL_leastDrain 16 = .ok (.ireturn, 1) := by decide +kernel
theorem dL_feed_0 : decode cL_feed 0 = .ok (.aload_n 3, 1) := by decide +kernel
theorem dL_feed_1 : decode cL_feed 1 = .ok (.iconst 0, 1) := by decide +kernel
theorem dL_feed_2 : decode cL_feed 2 = .ok (.aload_n 0, 1) := by decide +kernel
theorem dL_feed_3 : decode cL_feed 3 = .ok (.iload_n 1, 1) := by decide +kernel
theorem dL_feed_4 : decode cL_feed 4 = .ok (.iload_n 2, 1) := by decide +kernel
theorem dL_feed_5 : decode cL_feed 5 = .ok (.invokevirtual 74, 3) := by decide +kernel
theorem dL_feed_8 : decode cL_feed 8 = .ok (.i2l, 1) := by decide +kernel
theorem dL_feed_9 : decode cL_feed 9 = .ok (.lastore, 1) := by decide +kernel
theorem dL_feed_10 : decode cL_feed 10 = .ok (.goto 7, 3) := by decide +kernel
theorem dL_feed_13 : decode cL_feed 13 = .ok (.astore 4, 2) := by decide +kernel
theorem dL_feed_15 : decode cL_feed 15 = .ok (.iconst 1, 1) := by decide +kernel
theorem dL_feed_16 : decode cL_feed 16 = .ok (.ireturn, 1) := by decide +kernel
theorem dL_feed_17 : decode cL_feed 17 = .ok (.iconst 0, 1) := by decide +kernel
theorem dL_feed_18 : decode cL_feed 18 = .ok (.ireturn, 1) := by decide +kernel
theorem dL_verdict_0 : decode cL_verdict 0 = .ok (.aload_n 2, 1) := by decide +kernel
theorem dL_verdict_1 : decode cL_verdict 1 = .ok (.iconst 0, 1) := by decide +kernel
theorem dL_verdict_2 : decode cL_verdict 2 = .ok (.aload_n 0, 1) := by decide +kernel
theorem dL_verdict_3 : decode cL_verdict 3 = .ok (.iload_n 1, 1) := by decide +kernel
theorem dL_verdict_4 : decode cL_verdict 4 = .ok (.invokevirtual 77, 3) := by decide +kernel
theorem dL_verdict_7 : decode cL_verdict 7 = .ok (.i2l, 1) := by decide +kernel
theorem dL_verdict_8 : decode cL_verdict 8 = .ok (.lastore, 1) := by decide +kernel
theorem dL_verdict_9 : decode cL_verdict 9 = .ok (.goto 6, 3) := by decide +kernel
theorem dL_verdict_12 : decode cL_verdict 12 = .ok (.astore_n 3, 1) := by decide +kernel
theorem dL_verdict_13 : decode cL_verdict 13 = .ok (.iconst 1, 1) := by decide +kernel
theorem dL_verdict_14 : decode cL_verdict 14 = .ok (.ireturn, 1) := by decide +kernel
theorem dL_verdict_15 : decode cL_verdict 15 = .ok (.iconst 0, 1) := by decide +kernel
theorem dL_verdict_16 : decode cL_verdict 16 = .ok (.ireturn, 1) := by decide +kernel
theorem dL_length_0 : decode cL_length 0 = .ok (.aload_n 2, 1) := by decide +kernel
theorem dL_length_1 : decode cL_length 1 = .ok (.iconst 0, 1) := by decide +kernel
theorem dL_length_2 : decode cL_length 2 = .ok (.aload_n 0, 1) := by decide +kernel
theorem dL_length_3 : decode cL_length 3 = .ok (.iload_n 1, 1) := by decide +kernel
theorem dL_length_4 : decode cL_length 4 = .ok (.invokevirtual 80, 3) := by decide +kernel
theorem dL_length_7 : decode cL_length 7 = .ok (.i2l, 1) := by decide +kernel
theorem dL_length_8 : decode cL_length 8 = .ok (.lastore, 1) := by decide +kernel
theorem dL_length_9 : decode cL_length 9 = .ok (.goto 6, 3) := by decide +kernel
theorem dL_length_12 : decode cL_length 12 = .ok (.astore_n 3, 1) := by decide +kernel
theorem dL_length_13 : decode cL_length 13 = .ok (.iconst 1, 1) := by decide +kernel
theorem dL_length_14 : decode cL_length 14 = .ok (.ireturn, 1) := by decide +kernel
theorem dL_length_15 : decode cL_length 15 = .ok (.iconst 0, 1) := by decide +kernel
theorem dL_length_16 : decode cL_length 16 = .ok (.ireturn, 1) := by decide +kernel
end
section
theorem dL_law_0 : decode cL_law 0 = .ok (.new 8, 3) := by decide +kernel
theorem dL_law_3 : decode cL_law 3 = .ok (.dup, 1) := by decide +kernel
theorem dL_law_4 : decode cL_law 4 = .ok (.invokespecial 83, 3) := by decide +kernel
theorem dL_law_7 : decode cL_law 7 = .ok (.astore_n 1, 1) := by decide +kernel
theorem dL_law_8 : decode cL_law 8 = .ok (.new 84, 3) := by decide +kernel
theorem dL_law_11 : decode cL_law 11 = .ok (.dup, 1) := by decide +kernel
theorem dL_law_12 : decode cL_law 12 = .ok (.invokespecial 86, 3) := by decide +kernel
theorem dL_law_15 : decode cL_law 15 = .ok (.astore_n 2, 1) := by decide +kernel
theorem dL_law_16 : decode cL_law 16 = .ok (.iconst 1, 1) := by decide +kernel
theorem dL_law_17 : decode cL_law 17 = .ok (.newarray .long, 2) := by decide +kernel
theorem dL_law_19 : decode cL_law 19 = .ok (.astore_n 3, 1) := by decide +kernel
theorem dL_law_20 : decode cL_law 20 = .ok (.iconst 0, 1) := by decide +kernel
theorem dL_law_21 : decode cL_law 21 = .ok (.istore 4, 2) := by decide +kernel
theorem dL_law_23 : decode cL_law 23 = .ok (.iload 4, 2) := by decide +kernel
theorem dL_law_25 : decode cL_law 25 = .ok (.aload_n 0, 1) := by decide +kernel
theorem dL_law_26 : decode cL_law 26 = .ok (.arraylength, 1) := by decide +kernel
theorem dL_law_27 : decode cL_law 27 = .ok (.iconst 5, 1) := by decide +kernel
theorem dL_law_28 : decode cL_law 28 = .ok (.isub, 1) := by decide +kernel
theorem dL_law_29 : decode cL_law 29 = .ok (.if_icmp .gt 1714, 3) := by decide +kernel
theorem dL_law_32 : decode cL_law 32 = .ok (.aload_n 0, 1) := by decide +kernel
theorem dL_law_33 : decode cL_law 33 = .ok (.iload 4, 2) := by decide +kernel
theorem dL_law_35 : decode cL_law 35 = .ok (.iaload, 1) := by decide +kernel
theorem dL_law_36 : decode cL_law 36 = .ok (.bipush 31, 2) := by decide +kernel
theorem dL_law_38 : decode cL_law 38 = .ok (.iand, 1) := by decide +kernel
theorem dL_law_39 : decode cL_law 39 = .ok (.tableswitch 1698 0 28 #[129, 197, 277, 357, 425, 528, 608, 700, 792, 860, 928, 984, 1052, 1065, 1078, 1134, 1147, 1161, 1217, 1285, 1353, 1366, 1422, 1478, 1546, 1559, 1615, 1671, 1684], 129) := by decide +kernel
theorem dL_law_168 : decode cL_law 168 = .ok (.aload_n 1, 1) := by decide +kernel
theorem dL_law_169 : decode cL_law 169 = .ok (.aload_n 0, 1) := by decide +kernel
theorem dL_law_170 : decode cL_law 170 = .ok (.iload 4, 2) := by decide +kernel
theorem dL_law_172 : decode cL_law 172 = .ok (.iconst 1, 1) := by decide +kernel
theorem dL_law_173 : decode cL_law 173 = .ok (.iadd, 1) := by decide +kernel
theorem dL_law_174 : decode cL_law 174 = .ok (.iaload, 1) := by decide +kernel
theorem dL_law_175 : decode cL_law 175 = .ok (.aload_n 0, 1) := by decide +kernel
theorem dL_law_176 : decode cL_law 176 = .ok (.iload 4, 2) := by decide +kernel
theorem dL_law_178 : decode cL_law 178 = .ok (.iconst 2, 1) := by decide +kernel
theorem dL_law_179 : decode cL_law 179 = .ok (.iadd, 1) := by decide +kernel
theorem dL_law_180 : decode cL_law 180 = .ok (.iaload, 1) := by decide +kernel
theorem dL_law_181 : decode cL_law 181 = .ok (.aload_n 3, 1) := by decide +kernel
theorem dL_law_182 : decode cL_law 182 = .ok (.invokestatic 87, 3) := by decide +kernel
theorem dL_law_185 : decode cL_law 185 = .ok (.istore 5, 2) := by decide +kernel
theorem dL_law_187 : decode cL_law 187 = .ok (.aload_n 2, 1) := by decide +kernel
theorem dL_law_188 : decode cL_law 188 = .ok (.aload_n 0, 1) := by decide +kernel
theorem dL_law_189 : decode cL_law 189 = .ok (.iload 4, 2) := by decide +kernel
theorem dL_law_191 : decode cL_law 191 = .ok (.iconst 1, 1) := by decide +kernel
theorem dL_law_192 : decode cL_law 192 = .ok (.iadd, 1) := by decide +kernel
theorem dL_law_193 : decode cL_law 193 = .ok (.iaload, 1) := by decide +kernel
theorem dL_law_194 : decode cL_law 194 = .ok (.aload_n 0, 1) := by decide +kernel
theorem dL_law_195 : decode cL_law 195 = .ok (.iload 4, 2) := by decide +kernel
theorem dL_law_197 : decode cL_law 197 = .ok (.iconst 2, 1) := by decide +kernel
theorem dL_law_198 : decode cL_law 198 = .ok (.iadd, 1) := by decide +kernel
theorem dL_law_199 : decode cL_law 199 = .ok (.iaload, 1) := by decide +kernel
theorem dL_law_200 : decode cL_law 200 = .ok (.invokevirtual 92, 3) := by decide +kernel
theorem dL_law_203 : decode cL_law 203 = .ok (.istore 6, 2) := by decide +kernel
theorem dL_law_205 : decode cL_law 205 = .ok (.aload_n 2, 1) := by decide +kernel
theorem dL_law_206 : decode cL_law 206 = .ok (.invokevirtual 93, 3) := by decide +kernel
theorem dL_law_209 : decode cL_law 209 = .ok (.iload 5, 2) := by decide +kernel
theorem dL_law_211 : decode cL_law 211 = .ok (.if_icmp .eq 5, 3) := by decide +kernel
theorem dL_law_214 : decode cL_law 214 = .ok (.iconst 0, 1) := by decide +kernel
theorem dL_law_215 : decode cL_law 215 = .ok (.ireturn, 1) := by decide +kernel
theorem dL_law_216 : decode cL_law 216 = .ok (.iload 5, 2) := by decide +kernel
theorem dL_law_218 : decode cL_law 218 = .ok (.ifCond .ne 15, 3) := by decide +kernel
theorem dL_law_221 : decode cL_law 221 = .ok (.aload_n 3, 1) := by decide +kernel
theorem dL_law_222 : decode cL_law 222 = .ok (.iconst 0, 1) := by decide +kernel
theorem dL_law_223 : decode cL_law 223 = .ok (.laload, 1) := by decide +kernel
theorem dL_law_224 : decode cL_law 224 = .ok (.iload 6, 2) := by decide +kernel
theorem dL_law_226 : decode cL_law 226 = .ok (.i2l, 1) := by decide +kernel
theorem dL_law_227 : decode cL_law 227 = .ok (.lcmp, 1) := by decide +kernel
theorem dL_law_228 : decode cL_law 228 = .ok (.ifCond .eq 5, 3) := by decide +kernel
theorem dL_law_231 : decode cL_law 231 = .ok (.iconst 0, 1) := by decide +kernel
theorem dL_law_232 : decode cL_law 232 = .ok (.ireturn, 1) := by decide +kernel
theorem dL_law_233 : decode cL_law 233 = .ok (.goto 1504, 3) := by decide +kernel
theorem dL_law_236 : decode cL_law 236 = .ok (.aload_n 1, 1) := by decide +kernel
theorem dL_law_237 : decode cL_law 237 = .ok (.aload_n 0, 1) := by decide +kernel
theorem dL_law_238 : decode cL_law 238 = .ok (.iload 4, 2) := by decide +kernel
theorem dL_law_240 : decode cL_law 240 = .ok (.iconst 1, 1) := by decide +kernel
theorem dL_law_241 : decode cL_law 241 = .ok (.iadd, 1) := by decide +kernel
theorem dL_law_242 : decode cL_law 242 = .ok (.iaload, 1) := by decide +kernel
theorem dL_law_243 : decode cL_law 243 = .ok (.aload_n 0, 1) := by decide +kernel
theorem dL_law_244 : decode cL_law 244 = .ok (.iload 4, 2) := by decide +kernel
theorem dL_law_246 : decode cL_law 246 = .ok (.iconst 2, 1) := by decide +kernel
theorem dL_law_247 : decode cL_law 247 = .ok (.iadd, 1) := by decide +kernel
theorem dL_law_248 : decode cL_law 248 = .ok (.iaload, 1) := by decide +kernel
theorem dL_law_249 : decode cL_law 249 = .ok (.aload_n 0, 1) := by decide +kernel
theorem dL_law_250 : decode cL_law 250 = .ok (.iload 4, 2) := by decide +kernel
theorem dL_law_252 : decode cL_law 252 = .ok (.iconst 3, 1) := by decide +kernel
theorem dL_law_253 : decode cL_law 253 = .ok (.iadd, 1) := by decide +kernel
theorem dL_law_254 : decode cL_law 254 = .ok (.iaload, 1) := by decide +kernel
theorem dL_law_255 : decode cL_law 255 = .ok (.aload_n 3, 1) := by decide +kernel
theorem dL_law_256 : decode cL_law 256 = .ok (.invokestatic 97, 3) := by decide +kernel
theorem dL_law_259 : decode cL_law 259 = .ok (.istore 5, 2) := by decide +kernel
theorem dL_law_261 : decode cL_law 261 = .ok (.aload_n 2, 1) := by decide +kernel
theorem dL_law_262 : decode cL_law 262 = .ok (.aload_n 0, 1) := by decide +kernel
theorem dL_law_263 : decode cL_law 263 = .ok (.iload 4, 2) := by decide +kernel
theorem dL_law_265 : decode cL_law 265 = .ok (.iconst 1, 1) := by decide +kernel
theorem dL_law_266 : decode cL_law 266 = .ok (.iadd, 1) := by decide +kernel
theorem dL_law_267 : decode cL_law 267 = .ok (.iaload, 1) := by decide +kernel
theorem dL_law_268 : decode cL_law 268 = .ok (.aload_n 0, 1) := by decide +kernel
theorem dL_law_269 : decode cL_law 269 = .ok (.iload 4, 2) := by decide +kernel
theorem dL_law_271 : decode cL_law 271 = .ok (.iconst 2, 1) := by decide +kernel
theorem dL_law_272 : decode cL_law 272 = .ok (.iadd, 1) := by decide +kernel
theorem dL_law_273 : decode cL_law 273 = .ok (.iaload, 1) := by decide +kernel
theorem dL_law_274 : decode cL_law 274 = .ok (.aload_n 0, 1) := by decide +kernel
theorem dL_law_275 : decode cL_law 275 = .ok (.iload 4, 2) := by decide +kernel
theorem dL_law_277 : decode cL_law 277 = .ok (.iconst 3, 1) := by decide +kernel
theorem dL_law_278 : decode cL_law 278 = .ok (.iadd, 1) := by decide +kernel
theorem dL_law_279 : decode cL_law 279 = .ok (.iaload, 1) := by decide +kernel
theorem dL_law_280 : decode cL_law 280 = .ok (.invokevirtual 100, 3) := by decide +kernel
theorem dL_law_283 : decode cL_law 283 = .ok (.istore 6, 2) := by decide +kernel
theorem dL_law_285 : decode cL_law 285 = .ok (.aload_n 2, 1) := by decide +kernel
theorem dL_law_286 : decode cL_law 286 = .ok (.invokevirtual 93, 3) := by decide +kernel
theorem dL_law_289 : decode cL_law 289 = .ok (.iload 5, 2) := by decide +kernel
theorem dL_law_291 : decode cL_law 291 = .ok (.if_icmp .eq 5, 3) := by decide +kernel
theorem dL_law_294 : decode cL_law 294 = .ok (.iconst 0, 1) := by decide +kernel
theorem dL_law_295 : decode cL_law 295 = .ok (.ireturn, 1) := by decide +kernel
theorem dL_law_296 : decode cL_law 296 = .ok (.iload 5, 2) := by decide +kernel
theorem dL_law_298 : decode cL_law 298 = .ok (.ifCond .ne 15, 3) := by decide +kernel
theorem dL_law_301 : decode cL_law 301 = .ok (.aload_n 3, 1) := by decide +kernel
theorem dL_law_302 : decode cL_law 302 = .ok (.iconst 0, 1) := by decide +kernel
theorem dL_law_303 : decode cL_law 303 = .ok (.laload, 1) := by decide +kernel
theorem dL_law_304 : decode cL_law 304 = .ok (.iload 6, 2) := by decide +kernel
theorem dL_law_306 : decode cL_law 306 = .ok (.i2l, 1) := by decide +kernel
theorem dL_law_307 : decode cL_law 307 = .ok (.lcmp, 1) := by decide +kernel
theorem dL_law_308 : decode cL_law 308 = .ok (.ifCond .eq 5, 3) := by decide +kernel
theorem dL_law_311 : decode cL_law 311 = .ok (.iconst 0, 1) := by decide +kernel
theorem dL_law_312 : decode cL_law 312 = .ok (.ireturn, 1) := by decide +kernel
theorem dL_law_313 : decode cL_law 313 = .ok (.goto 1424, 3) := by decide +kernel
theorem dL_law_316 : decode cL_law 316 = .ok (.aload_n 1, 1) := by decide +kernel
theorem dL_law_317 : decode cL_law 317 = .ok (.aload_n 0, 1) := by decide +kernel
theorem dL_law_318 : decode cL_law 318 = .ok (.iload 4, 2) := by decide +kernel
theorem dL_law_320 : decode cL_law 320 = .ok (.iconst 1, 1) := by decide +kernel
theorem dL_law_321 : decode cL_law 321 = .ok (.iadd, 1) := by decide +kernel
theorem dL_law_322 : decode cL_law 322 = .ok (.iaload, 1) := by decide +kernel
theorem dL_law_323 : decode cL_law 323 = .ok (.aload_n 0, 1) := by decide +kernel
theorem dL_law_324 : decode cL_law 324 = .ok (.iload 4, 2) := by decide +kernel
theorem dL_law_326 : decode cL_law 326 = .ok (.iconst 2, 1) := by decide +kernel
theorem dL_law_327 : decode cL_law 327 = .ok (.iadd, 1) := by decide +kernel
theorem dL_law_328 : decode cL_law 328 = .ok (.iaload, 1) := by decide +kernel
theorem dL_law_329 : decode cL_law 329 = .ok (.aload_n 0, 1) := by decide +kernel
theorem dL_law_330 : decode cL_law 330 = .ok (.iload 4, 2) := by decide +kernel
theorem dL_law_332 : decode cL_law 332 = .ok (.iconst 3, 1) := by decide +kernel
theorem dL_law_333 : decode cL_law 333 = .ok (.iadd, 1) := by decide +kernel
theorem dL_law_334 : decode cL_law 334 = .ok (.iaload, 1) := by decide +kernel
theorem dL_law_335 : decode cL_law 335 = .ok (.aload_n 3, 1) := by decide +kernel
theorem dL_law_336 : decode cL_law 336 = .ok (.invokestatic 101, 3) := by decide +kernel
theorem dL_law_339 : decode cL_law 339 = .ok (.istore 5, 2) := by decide +kernel
theorem dL_law_341 : decode cL_law 341 = .ok (.aload_n 2, 1) := by decide +kernel
theorem dL_law_342 : decode cL_law 342 = .ok (.aload_n 0, 1) := by decide +kernel
theorem dL_law_343 : decode cL_law 343 = .ok (.iload 4, 2) := by decide +kernel
theorem dL_law_345 : decode cL_law 345 = .ok (.iconst 1, 1) := by decide +kernel
theorem dL_law_346 : decode cL_law 346 = .ok (.iadd, 1) := by decide +kernel
theorem dL_law_347 : decode cL_law 347 = .ok (.iaload, 1) := by decide +kernel
theorem dL_law_348 : decode cL_law 348 = .ok (.aload_n 0, 1) := by decide +kernel
theorem dL_law_349 : decode cL_law 349 = .ok (.iload 4, 2) := by decide +kernel
theorem dL_law_351 : decode cL_law 351 = .ok (.iconst 2, 1) := by decide +kernel
theorem dL_law_352 : decode cL_law 352 = .ok (.iadd, 1) := by decide +kernel
theorem dL_law_353 : decode cL_law 353 = .ok (.iaload, 1) := by decide +kernel
theorem dL_law_354 : decode cL_law 354 = .ok (.aload_n 0, 1) := by decide +kernel
theorem dL_law_355 : decode cL_law 355 = .ok (.iload 4, 2) := by decide +kernel
theorem dL_law_357 : decode cL_law 357 = .ok (.iconst 3, 1) := by decide +kernel
theorem dL_law_358 : decode cL_law 358 = .ok (.iadd, 1) := by decide +kernel
theorem dL_law_359 : decode cL_law 359 = .ok (.iaload, 1) := by decide +kernel
theorem dL_law_360 : decode cL_law 360 = .ok (.invokevirtual 103, 3) := by decide +kernel
theorem dL_law_363 : decode cL_law 363 = .ok (.istore 6, 2) := by decide +kernel
theorem dL_law_365 : decode cL_law 365 = .ok (.aload_n 2, 1) := by decide +kernel
theorem dL_law_366 : decode cL_law 366 = .ok (.invokevirtual 93, 3) := by decide +kernel
theorem dL_law_369 : decode cL_law 369 = .ok (.iload 5, 2) := by decide +kernel
theorem dL_law_371 : decode cL_law 371 = .ok (.if_icmp .eq 5, 3) := by decide +kernel
theorem dL_law_374 : decode cL_law 374 = .ok (.iconst 0, 1) := by decide +kernel
theorem dL_law_375 : decode cL_law 375 = .ok (.ireturn, 1) := by decide +kernel
theorem dL_law_376 : decode cL_law 376 = .ok (.iload 5, 2) := by decide +kernel
theorem dL_law_378 : decode cL_law 378 = .ok (.ifCond .ne 15, 3) := by decide +kernel
theorem dL_law_381 : decode cL_law 381 = .ok (.aload_n 3, 1) := by decide +kernel
theorem dL_law_382 : decode cL_law 382 = .ok (.iconst 0, 1) := by decide +kernel
theorem dL_law_383 : decode cL_law 383 = .ok (.laload, 1) := by decide +kernel
theorem dL_law_384 : decode cL_law 384 = .ok (.iload 6, 2) := by decide +kernel
theorem dL_law_386 : decode cL_law 386 = .ok (.i2l, 1) := by decide +kernel
theorem dL_law_387 : decode cL_law 387 = .ok (.lcmp, 1) := by decide +kernel
theorem dL_law_388 : decode cL_law 388 = .ok (.ifCond .eq 5, 3) := by decide +kernel
theorem dL_law_391 : decode cL_law 391 = .ok (.iconst 0, 1) := by decide +kernel
theorem dL_law_392 : decode cL_law 392 = .ok (.ireturn, 1) := by decide +kernel
theorem dL_law_393 : decode cL_law 393 = .ok (.goto 1344, 3) := by decide +kernel
theorem dL_law_396 : decode cL_law 396 = .ok (.aload_n 1, 1) := by decide +kernel
theorem dL_law_397 : decode cL_law 397 = .ok (.aload_n 0, 1) := by decide +kernel
theorem dL_law_398 : decode cL_law 398 = .ok (.iload 4, 2) := by decide +kernel
theorem dL_law_400 : decode cL_law 400 = .ok (.iconst 1, 1) := by decide +kernel
theorem dL_law_401 : decode cL_law 401 = .ok (.iadd, 1) := by decide +kernel
theorem dL_law_402 : decode cL_law 402 = .ok (.iaload, 1) := by decide +kernel
theorem dL_law_403 : decode cL_law 403 = .ok (.aload_n 0, 1) := by decide +kernel
theorem dL_law_404 : decode cL_law 404 = .ok (.iload 4, 2) := by decide +kernel
theorem dL_law_406 : decode cL_law 406 = .ok (.iconst 2, 1) := by decide +kernel
theorem dL_law_407 : decode cL_law 407 = .ok (.iadd, 1) := by decide +kernel
theorem dL_law_408 : decode cL_law 408 = .ok (.iaload, 1) := by decide +kernel
theorem dL_law_409 : decode cL_law 409 = .ok (.aload_n 3, 1) := by decide +kernel
theorem dL_law_410 : decode cL_law 410 = .ok (.invokestatic 104, 3) := by decide +kernel
theorem dL_law_413 : decode cL_law 413 = .ok (.istore 5, 2) := by decide +kernel
theorem dL_law_415 : decode cL_law 415 = .ok (.aload_n 2, 1) := by decide +kernel
theorem dL_law_416 : decode cL_law 416 = .ok (.aload_n 0, 1) := by decide +kernel
theorem dL_law_417 : decode cL_law 417 = .ok (.iload 4, 2) := by decide +kernel
theorem dL_law_419 : decode cL_law 419 = .ok (.iconst 1, 1) := by decide +kernel
theorem dL_law_420 : decode cL_law 420 = .ok (.iadd, 1) := by decide +kernel
theorem dL_law_421 : decode cL_law 421 = .ok (.iaload, 1) := by decide +kernel
theorem dL_law_422 : decode cL_law 422 = .ok (.aload_n 0, 1) := by decide +kernel
theorem dL_law_423 : decode cL_law 423 = .ok (.iload 4, 2) := by decide +kernel
theorem dL_law_425 : decode cL_law 425 = .ok (.iconst 2, 1) := by decide +kernel
theorem dL_law_426 : decode cL_law 426 = .ok (.iadd, 1) := by decide +kernel
theorem dL_law_427 : decode cL_law 427 = .ok (.iaload, 1) := by decide +kernel
theorem dL_law_428 : decode cL_law 428 = .ok (.invokevirtual 106, 3) := by decide +kernel
theorem dL_law_431 : decode cL_law 431 = .ok (.istore 6, 2) := by decide +kernel
theorem dL_law_433 : decode cL_law 433 = .ok (.aload_n 2, 1) := by decide +kernel
theorem dL_law_434 : decode cL_law 434 = .ok (.invokevirtual 93, 3) := by decide +kernel
theorem dL_law_437 : decode cL_law 437 = .ok (.iload 5, 2) := by decide +kernel
theorem dL_law_439 : decode cL_law 439 = .ok (.if_icmp .eq 5, 3) := by decide +kernel
theorem dL_law_442 : decode cL_law 442 = .ok (.iconst 0, 1) := by decide +kernel
theorem dL_law_443 : decode cL_law 443 = .ok (.ireturn, 1) := by decide +kernel
theorem dL_law_444 : decode cL_law 444 = .ok (.iload 5, 2) := by decide +kernel
theorem dL_law_446 : decode cL_law 446 = .ok (.ifCond .ne 15, 3) := by decide +kernel
theorem dL_law_449 : decode cL_law 449 = .ok (.aload_n 3, 1) := by decide +kernel
theorem dL_law_450 : decode cL_law 450 = .ok (.iconst 0, 1) := by decide +kernel
theorem dL_law_451 : decode cL_law 451 = .ok (.laload, 1) := by decide +kernel
theorem dL_law_452 : decode cL_law 452 = .ok (.iload 6, 2) := by decide +kernel
theorem dL_law_454 : decode cL_law 454 = .ok (.i2l, 1) := by decide +kernel
theorem dL_law_455 : decode cL_law 455 = .ok (.lcmp, 1) := by decide +kernel
theorem dL_law_456 : decode cL_law 456 = .ok (.ifCond .eq 5, 3) := by decide +kernel
theorem dL_law_459 : decode cL_law 459 = .ok (.iconst 0, 1) := by decide +kernel
theorem dL_law_460 : decode cL_law 460 = .ok (.ireturn, 1) := by decide +kernel
theorem dL_law_461 : decode cL_law 461 = .ok (.goto 1276, 3) := by decide +kernel
theorem dL_law_464 : decode cL_law 464 = .ok (.aload_n 1, 1) := by decide +kernel
theorem dL_law_465 : decode cL_law 465 = .ok (.aload_n 0, 1) := by decide +kernel
theorem dL_law_466 : decode cL_law 466 = .ok (.iload 4, 2) := by decide +kernel
theorem dL_law_468 : decode cL_law 468 = .ok (.iconst 1, 1) := by decide +kernel
theorem dL_law_469 : decode cL_law 469 = .ok (.iadd, 1) := by decide +kernel
theorem dL_law_470 : decode cL_law 470 = .ok (.iaload, 1) := by decide +kernel
theorem dL_law_471 : decode cL_law 471 = .ok (.aload_n 0, 1) := by decide +kernel
theorem dL_law_472 : decode cL_law 472 = .ok (.iload 4, 2) := by decide +kernel
theorem dL_law_474 : decode cL_law 474 = .ok (.iconst 2, 1) := by decide +kernel
theorem dL_law_475 : decode cL_law 475 = .ok (.iadd, 1) := by decide +kernel
theorem dL_law_476 : decode cL_law 476 = .ok (.iaload, 1) := by decide +kernel
theorem dL_law_477 : decode cL_law 477 = .ok (.aload_n 0, 1) := by decide +kernel
theorem dL_law_478 : decode cL_law 478 = .ok (.iload 4, 2) := by decide +kernel
theorem dL_law_480 : decode cL_law 480 = .ok (.iconst 3, 1) := by decide +kernel
theorem dL_law_481 : decode cL_law 481 = .ok (.iadd, 1) := by decide +kernel
theorem dL_law_482 : decode cL_law 482 = .ok (.iaload, 1) := by decide +kernel
theorem dL_law_483 : decode cL_law 483 = .ok (.ifCond .eq 7, 3) := by decide +kernel
theorem dL_law_486 : decode cL_law 486 = .ok (.iconst 1, 1) := by decide +kernel
theorem dL_law_487 : decode cL_law 487 = .ok (.goto 4, 3) := by decide +kernel
theorem dL_law_490 : decode cL_law 490 = .ok (.iconst 0, 1) := by decide +kernel
theorem dL_law_491 : decode cL_law 491 = .ok (.aload_n 3, 1) := by decide +kernel
theorem dL_law_492 : decode cL_law 492 = .ok (.invokestatic 107, 3) := by decide +kernel
theorem dL_law_495 : decode cL_law 495 = .ok (.istore 5, 2) := by decide +kernel
theorem dL_law_497 : decode cL_law 497 = .ok (.aload_n 2, 1) := by decide +kernel
theorem dL_law_498 : decode cL_law 498 = .ok (.aload_n 0, 1) := by decide +kernel
theorem dL_law_499 : decode cL_law 499 = .ok (.iload 4, 2) := by decide +kernel
theorem dL_law_501 : decode cL_law 501 = .ok (.iconst 1, 1) := by decide +kernel
theorem dL_law_502 : decode cL_law 502 = .ok (.iadd, 1) := by decide +kernel
theorem dL_law_503 : decode cL_law 503 = .ok (.iaload, 1) := by decide +kernel
theorem dL_law_504 : decode cL_law 504 = .ok (.aload_n 0, 1) := by decide +kernel
theorem dL_law_505 : decode cL_law 505 = .ok (.iload 4, 2) := by decide +kernel
theorem dL_law_507 : decode cL_law 507 = .ok (.iconst 2, 1) := by decide +kernel
theorem dL_law_508 : decode cL_law 508 = .ok (.iadd, 1) := by decide +kernel
theorem dL_law_509 : decode cL_law 509 = .ok (.iaload, 1) := by decide +kernel
theorem dL_law_510 : decode cL_law 510 = .ok (.aload_n 0, 1) := by decide +kernel
theorem dL_law_511 : decode cL_law 511 = .ok (.iload 4, 2) := by decide +kernel
theorem dL_law_513 : decode cL_law 513 = .ok (.iconst 3, 1) := by decide +kernel
theorem dL_law_514 : decode cL_law 514 = .ok (.iadd, 1) := by decide +kernel
theorem dL_law_515 : decode cL_law 515 = .ok (.iaload, 1) := by decide +kernel
theorem dL_law_516 : decode cL_law 516 = .ok (.ifCond .eq 7, 3) := by decide +kernel
theorem dL_law_519 : decode cL_law 519 = .ok (.iconst 1, 1) := by decide +kernel
theorem dL_law_520 : decode cL_law 520 = .ok (.goto 4, 3) := by decide +kernel
theorem dL_law_523 : decode cL_law 523 = .ok (.iconst 0, 1) := by decide +kernel
theorem dL_law_524 : decode cL_law 524 = .ok (.invokevirtual 110, 3) := by decide +kernel
theorem dL_law_527 : decode cL_law 527 = .ok (.istore 6, 2) := by decide +kernel
theorem dL_law_529 : decode cL_law 529 = .ok (.aload_n 2, 1) := by decide +kernel
theorem dL_law_530 : decode cL_law 530 = .ok (.invokevirtual 93, 3) := by decide +kernel
theorem dL_law_533 : decode cL_law 533 = .ok (.iload 5, 2) := by decide +kernel
theorem dL_law_535 : decode cL_law 535 = .ok (.if_icmp .eq 5, 3) := by decide +kernel
theorem dL_law_538 : decode cL_law 538 = .ok (.iconst 0, 1) := by decide +kernel
theorem dL_law_539 : decode cL_law 539 = .ok (.ireturn, 1) := by decide +kernel
theorem dL_law_540 : decode cL_law 540 = .ok (.iload 5, 2) := by decide +kernel
theorem dL_law_542 : decode cL_law 542 = .ok (.ifCond .ne 22, 3) := by decide +kernel
theorem dL_law_545 : decode cL_law 545 = .ok (.aload_n 3, 1) := by decide +kernel
theorem dL_law_546 : decode cL_law 546 = .ok (.iconst 0, 1) := by decide +kernel
theorem dL_law_547 : decode cL_law 547 = .ok (.laload, 1) := by decide +kernel
theorem dL_law_548 : decode cL_law 548 = .ok (.iload 6, 2) := by decide +kernel
theorem dL_law_550 : decode cL_law 550 = .ok (.ifCond .eq 7, 3) := by decide +kernel
theorem dL_law_553 : decode cL_law 553 = .ok (.lconst 1, 1) := by decide +kernel
theorem dL_law_554 : decode cL_law 554 = .ok (.goto 4, 3) := by decide +kernel
theorem dL_law_557 : decode cL_law 557 = .ok (.lconst 0, 1) := by decide +kernel
theorem dL_law_558 : decode cL_law 558 = .ok (.lcmp, 1) := by decide +kernel
theorem dL_law_559 : decode cL_law 559 = .ok (.ifCond .eq 5, 3) := by decide +kernel
theorem dL_law_562 : decode cL_law 562 = .ok (.iconst 0, 1) := by decide +kernel
theorem dL_law_563 : decode cL_law 563 = .ok (.ireturn, 1) := by decide +kernel
theorem dL_law_564 : decode cL_law 564 = .ok (.goto 1173, 3) := by decide +kernel
theorem dL_law_567 : decode cL_law 567 = .ok (.aload_n 1, 1) := by decide +kernel
theorem dL_law_568 : decode cL_law 568 = .ok (.aload_n 0, 1) := by decide +kernel
theorem dL_law_569 : decode cL_law 569 = .ok (.iload 4, 2) := by decide +kernel
theorem dL_law_571 : decode cL_law 571 = .ok (.iconst 1, 1) := by decide +kernel
theorem dL_law_572 : decode cL_law 572 = .ok (.iadd, 1) := by decide +kernel
theorem dL_law_573 : decode cL_law 573 = .ok (.iaload, 1) := by decide +kernel
theorem dL_law_574 : decode cL_law 574 = .ok (.aload_n 0, 1) := by decide +kernel
theorem dL_law_575 : decode cL_law 575 = .ok (.iload 4, 2) := by decide +kernel
theorem dL_law_577 : decode cL_law 577 = .ok (.iconst 2, 1) := by decide +kernel
theorem dL_law_578 : decode cL_law 578 = .ok (.iadd, 1) := by decide +kernel
theorem dL_law_579 : decode cL_law 579 = .ok (.iaload, 1) := by decide +kernel
theorem dL_law_580 : decode cL_law 580 = .ok (.aload_n 0, 1) := by decide +kernel
theorem dL_law_581 : decode cL_law 581 = .ok (.iload 4, 2) := by decide +kernel
theorem dL_law_583 : decode cL_law 583 = .ok (.iconst 3, 1) := by decide +kernel
theorem dL_law_584 : decode cL_law 584 = .ok (.iadd, 1) := by decide +kernel
theorem dL_law_585 : decode cL_law 585 = .ok (.iaload, 1) := by decide +kernel
theorem dL_law_586 : decode cL_law 586 = .ok (.aload_n 3, 1) := by decide +kernel
theorem dL_law_587 : decode cL_law 587 = .ok (.invokestatic 111, 3) := by decide +kernel
theorem dL_law_590 : decode cL_law 590 = .ok (.istore 5, 2) := by decide +kernel
theorem dL_law_592 : decode cL_law 592 = .ok (.aload_n 2, 1) := by decide +kernel
theorem dL_law_593 : decode cL_law 593 = .ok (.aload_n 0, 1) := by decide +kernel
theorem dL_law_594 : decode cL_law 594 = .ok (.iload 4, 2) := by decide +kernel
theorem dL_law_596 : decode cL_law 596 = .ok (.iconst 1, 1) := by decide +kernel
theorem dL_law_597 : decode cL_law 597 = .ok (.iadd, 1) := by decide +kernel
theorem dL_law_598 : decode cL_law 598 = .ok (.iaload, 1) := by decide +kernel
theorem dL_law_599 : decode cL_law 599 = .ok (.aload_n 0, 1) := by decide +kernel
theorem dL_law_600 : decode cL_law 600 = .ok (.iload 4, 2) := by decide +kernel
theorem dL_law_602 : decode cL_law 602 = .ok (.iconst 2, 1) := by decide +kernel
theorem dL_law_603 : decode cL_law 603 = .ok (.iadd, 1) := by decide +kernel
theorem dL_law_604 : decode cL_law 604 = .ok (.iaload, 1) := by decide +kernel
theorem dL_law_605 : decode cL_law 605 = .ok (.aload_n 0, 1) := by decide +kernel
theorem dL_law_606 : decode cL_law 606 = .ok (.iload 4, 2) := by decide +kernel
theorem dL_law_608 : decode cL_law 608 = .ok (.iconst 3, 1) := by decide +kernel
theorem dL_law_609 : decode cL_law 609 = .ok (.iadd, 1) := by decide +kernel
theorem dL_law_610 : decode cL_law 610 = .ok (.iaload, 1) := by decide +kernel
theorem dL_law_611 : decode cL_law 611 = .ok (.invokevirtual 113, 3) := by decide +kernel
theorem dL_law_614 : decode cL_law 614 = .ok (.istore 6, 2) := by decide +kernel
theorem dL_law_616 : decode cL_law 616 = .ok (.aload_n 2, 1) := by decide +kernel
theorem dL_law_617 : decode cL_law 617 = .ok (.invokevirtual 93, 3) := by decide +kernel
theorem dL_law_620 : decode cL_law 620 = .ok (.iload 5, 2) := by decide +kernel
theorem dL_law_622 : decode cL_law 622 = .ok (.if_icmp .eq 5, 3) := by decide +kernel
theorem dL_law_625 : decode cL_law 625 = .ok (.iconst 0, 1) := by decide +kernel
theorem dL_law_626 : decode cL_law 626 = .ok (.ireturn, 1) := by decide +kernel
theorem dL_law_627 : decode cL_law 627 = .ok (.iload 5, 2) := by decide +kernel
theorem dL_law_629 : decode cL_law 629 = .ok (.ifCond .ne 15, 3) := by decide +kernel
theorem dL_law_632 : decode cL_law 632 = .ok (.aload_n 3, 1) := by decide +kernel
theorem dL_law_633 : decode cL_law 633 = .ok (.iconst 0, 1) := by decide +kernel
theorem dL_law_634 : decode cL_law 634 = .ok (.laload, 1) := by decide +kernel
theorem dL_law_635 : decode cL_law 635 = .ok (.iload 6, 2) := by decide +kernel
theorem dL_law_637 : decode cL_law 637 = .ok (.i2l, 1) := by decide +kernel
theorem dL_law_638 : decode cL_law 638 = .ok (.lcmp, 1) := by decide +kernel
theorem dL_law_639 : decode cL_law 639 = .ok (.ifCond .eq 5, 3) := by decide +kernel
theorem dL_law_642 : decode cL_law 642 = .ok (.iconst 0, 1) := by decide +kernel
theorem dL_law_643 : decode cL_law 643 = .ok (.ireturn, 1) := by decide +kernel
theorem dL_law_644 : decode cL_law 644 = .ok (.goto 1093, 3) := by decide +kernel
theorem dL_law_647 : decode cL_law 647 = .ok (.aload_n 1, 1) := by decide +kernel
theorem dL_law_648 : decode cL_law 648 = .ok (.aload_n 0, 1) := by decide +kernel
theorem dL_law_649 : decode cL_law 649 = .ok (.iload 4, 2) := by decide +kernel
theorem dL_law_651 : decode cL_law 651 = .ok (.iconst 1, 1) := by decide +kernel
theorem dL_law_652 : decode cL_law 652 = .ok (.iadd, 1) := by decide +kernel
theorem dL_law_653 : decode cL_law 653 = .ok (.iaload, 1) := by decide +kernel
theorem dL_law_654 : decode cL_law 654 = .ok (.aload_n 0, 1) := by decide +kernel
theorem dL_law_655 : decode cL_law 655 = .ok (.iload 4, 2) := by decide +kernel
theorem dL_law_657 : decode cL_law 657 = .ok (.iconst 2, 1) := by decide +kernel
theorem dL_law_658 : decode cL_law 658 = .ok (.iadd, 1) := by decide +kernel
theorem dL_law_659 : decode cL_law 659 = .ok (.iaload, 1) := by decide +kernel
theorem dL_law_660 : decode cL_law 660 = .ok (.aload_n 0, 1) := by decide +kernel
theorem dL_law_661 : decode cL_law 661 = .ok (.iload 4, 2) := by decide +kernel
theorem dL_law_663 : decode cL_law 663 = .ok (.iconst 3, 1) := by decide +kernel
theorem dL_law_664 : decode cL_law 664 = .ok (.iadd, 1) := by decide +kernel
theorem dL_law_665 : decode cL_law 665 = .ok (.iaload, 1) := by decide +kernel
theorem dL_law_666 : decode cL_law 666 = .ok (.aload_n 0, 1) := by decide +kernel
theorem dL_law_667 : decode cL_law 667 = .ok (.iload 4, 2) := by decide +kernel
theorem dL_law_669 : decode cL_law 669 = .ok (.iconst 4, 1) := by decide +kernel
theorem dL_law_670 : decode cL_law 670 = .ok (.iadd, 1) := by decide +kernel
theorem dL_law_671 : decode cL_law 671 = .ok (.iaload, 1) := by decide +kernel
theorem dL_law_672 : decode cL_law 672 = .ok (.aload_n 3, 1) := by decide +kernel
theorem dL_law_673 : decode cL_law 673 = .ok (.invokestatic 114, 3) := by decide +kernel
theorem dL_law_676 : decode cL_law 676 = .ok (.istore 5, 2) := by decide +kernel
theorem dL_law_678 : decode cL_law 678 = .ok (.aload_n 2, 1) := by decide +kernel
theorem dL_law_679 : decode cL_law 679 = .ok (.aload_n 0, 1) := by decide +kernel
theorem dL_law_680 : decode cL_law 680 = .ok (.iload 4, 2) := by decide +kernel
theorem dL_law_682 : decode cL_law 682 = .ok (.iconst 1, 1) := by decide +kernel
theorem dL_law_683 : decode cL_law 683 = .ok (.iadd, 1) := by decide +kernel
theorem dL_law_684 : decode cL_law 684 = .ok (.iaload, 1) := by decide +kernel
theorem dL_law_685 : decode cL_law 685 = .ok (.aload_n 0, 1) := by decide +kernel
theorem dL_law_686 : decode cL_law 686 = .ok (.iload 4, 2) := by decide +kernel
theorem dL_law_688 : decode cL_law 688 = .ok (.iconst 2, 1) := by decide +kernel
theorem dL_law_689 : decode cL_law 689 = .ok (.iadd, 1) := by decide +kernel
theorem dL_law_690 : decode cL_law 690 = .ok (.iaload, 1) := by decide +kernel
theorem dL_law_691 : decode cL_law 691 = .ok (.aload_n 0, 1) := by decide +kernel
theorem dL_law_692 : decode cL_law 692 = .ok (.iload 4, 2) := by decide +kernel
theorem dL_law_694 : decode cL_law 694 = .ok (.iconst 3, 1) := by decide +kernel
theorem dL_law_695 : decode cL_law 695 = .ok (.iadd, 1) := by decide +kernel
theorem dL_law_696 : decode cL_law 696 = .ok (.iaload, 1) := by decide +kernel
theorem dL_law_697 : decode cL_law 697 = .ok (.aload_n 0, 1) := by decide +kernel
theorem dL_law_698 : decode cL_law 698 = .ok (.iload 4, 2) := by decide +kernel
theorem dL_law_700 : decode cL_law 700 = .ok (.iconst 4, 1) := by decide +kernel
theorem dL_law_701 : decode cL_law 701 = .ok (.iadd, 1) := by decide +kernel
theorem dL_law_702 : decode cL_law 702 = .ok (.iaload, 1) := by decide +kernel
theorem dL_law_703 : decode cL_law 703 = .ok (.invokevirtual 117, 3) := by decide +kernel
theorem dL_law_706 : decode cL_law 706 = .ok (.istore 6, 2) := by decide +kernel
theorem dL_law_708 : decode cL_law 708 = .ok (.aload_n 2, 1) := by decide +kernel
theorem dL_law_709 : decode cL_law 709 = .ok (.invokevirtual 93, 3) := by decide +kernel
theorem dL_law_712 : decode cL_law 712 = .ok (.iload 5, 2) := by decide +kernel
theorem dL_law_714 : decode cL_law 714 = .ok (.if_icmp .eq 5, 3) := by decide +kernel
theorem dL_law_717 : decode cL_law 717 = .ok (.iconst 0, 1) := by decide +kernel
theorem dL_law_718 : decode cL_law 718 = .ok (.ireturn, 1) := by decide +kernel
theorem dL_law_719 : decode cL_law 719 = .ok (.iload 5, 2) := by decide +kernel
theorem dL_law_721 : decode cL_law 721 = .ok (.ifCond .ne 15, 3) := by decide +kernel
theorem dL_law_724 : decode cL_law 724 = .ok (.aload_n 3, 1) := by decide +kernel
theorem dL_law_725 : decode cL_law 725 = .ok (.iconst 0, 1) := by decide +kernel
theorem dL_law_726 : decode cL_law 726 = .ok (.laload, 1) := by decide +kernel
theorem dL_law_727 : decode cL_law 727 = .ok (.iload 6, 2) := by decide +kernel
theorem dL_law_729 : decode cL_law 729 = .ok (.i2l, 1) := by decide +kernel
theorem dL_law_730 : decode cL_law 730 = .ok (.lcmp, 1) := by decide +kernel
theorem dL_law_731 : decode cL_law 731 = .ok (.ifCond .eq 5, 3) := by decide +kernel
theorem dL_law_734 : decode cL_law 734 = .ok (.iconst 0, 1) := by decide +kernel
theorem dL_law_735 : decode cL_law 735 = .ok (.ireturn, 1) := by decide +kernel
theorem dL_law_736 : decode cL_law 736 = .ok (.goto 1001, 3) := by decide +kernel
theorem dL_law_739 : decode cL_law 739 = .ok (.aload_n 1, 1) := by decide +kernel
theorem dL_law_740 : decode cL_law 740 = .ok (.aload_n 0, 1) := by decide +kernel
theorem dL_law_741 : decode cL_law 741 = .ok (.iload 4, 2) := by decide +kernel
theorem dL_law_743 : decode cL_law 743 = .ok (.iconst 1, 1) := by decide +kernel
theorem dL_law_744 : decode cL_law 744 = .ok (.iadd, 1) := by decide +kernel
theorem dL_law_745 : decode cL_law 745 = .ok (.iaload, 1) := by decide +kernel
theorem dL_law_746 : decode cL_law 746 = .ok (.aload_n 0, 1) := by decide +kernel
theorem dL_law_747 : decode cL_law 747 = .ok (.iload 4, 2) := by decide +kernel
theorem dL_law_749 : decode cL_law 749 = .ok (.iconst 2, 1) := by decide +kernel
theorem dL_law_750 : decode cL_law 750 = .ok (.iadd, 1) := by decide +kernel
theorem dL_law_751 : decode cL_law 751 = .ok (.iaload, 1) := by decide +kernel
theorem dL_law_752 : decode cL_law 752 = .ok (.aload_n 0, 1) := by decide +kernel
theorem dL_law_753 : decode cL_law 753 = .ok (.iload 4, 2) := by decide +kernel
theorem dL_law_755 : decode cL_law 755 = .ok (.iconst 3, 1) := by decide +kernel
theorem dL_law_756 : decode cL_law 756 = .ok (.iadd, 1) := by decide +kernel
theorem dL_law_757 : decode cL_law 757 = .ok (.iaload, 1) := by decide +kernel
theorem dL_law_758 : decode cL_law 758 = .ok (.aload_n 0, 1) := by decide +kernel
theorem dL_law_759 : decode cL_law 759 = .ok (.iload 4, 2) := by decide +kernel
theorem dL_law_761 : decode cL_law 761 = .ok (.iconst 4, 1) := by decide +kernel
theorem dL_law_762 : decode cL_law 762 = .ok (.iadd, 1) := by decide +kernel
theorem dL_law_763 : decode cL_law 763 = .ok (.iaload, 1) := by decide +kernel
theorem dL_law_764 : decode cL_law 764 = .ok (.aload_n 3, 1) := by decide +kernel
theorem dL_law_765 : decode cL_law 765 = .ok (.invokestatic 118, 3) := by decide +kernel
theorem dL_law_768 : decode cL_law 768 = .ok (.istore 5, 2) := by decide +kernel
theorem dL_law_770 : decode cL_law 770 = .ok (.aload_n 2, 1) := by decide +kernel
theorem dL_law_771 : decode cL_law 771 = .ok (.aload_n 0, 1) := by decide +kernel
theorem dL_law_772 : decode cL_law 772 = .ok (.iload 4, 2) := by decide +kernel
theorem dL_law_774 : decode cL_law 774 = .ok (.iconst 1, 1) := by decide +kernel
theorem dL_law_775 : decode cL_law 775 = .ok (.iadd, 1) := by decide +kernel
theorem dL_law_776 : decode cL_law 776 = .ok (.iaload, 1) := by decide +kernel
theorem dL_law_777 : decode cL_law 777 = .ok (.aload_n 0, 1) := by decide +kernel
theorem dL_law_778 : decode cL_law 778 = .ok (.iload 4, 2) := by decide +kernel
theorem dL_law_780 : decode cL_law 780 = .ok (.iconst 2, 1) := by decide +kernel
theorem dL_law_781 : decode cL_law 781 = .ok (.iadd, 1) := by decide +kernel
theorem dL_law_782 : decode cL_law 782 = .ok (.iaload, 1) := by decide +kernel
theorem dL_law_783 : decode cL_law 783 = .ok (.aload_n 0, 1) := by decide +kernel
theorem dL_law_784 : decode cL_law 784 = .ok (.iload 4, 2) := by decide +kernel
theorem dL_law_786 : decode cL_law 786 = .ok (.iconst 3, 1) := by decide +kernel
theorem dL_law_787 : decode cL_law 787 = .ok (.iadd, 1) := by decide +kernel
theorem dL_law_788 : decode cL_law 788 = .ok (.iaload, 1) := by decide +kernel
theorem dL_law_789 : decode cL_law 789 = .ok (.aload_n 0, 1) := by decide +kernel
theorem dL_law_790 : decode cL_law 790 = .ok (.iload 4, 2) := by decide +kernel
theorem dL_law_792 : decode cL_law 792 = .ok (.iconst 4, 1) := by decide +kernel
theorem dL_law_793 : decode cL_law 793 = .ok (.iadd, 1) := by decide +kernel
theorem dL_law_794 : decode cL_law 794 = .ok (.iaload, 1) := by decide +kernel
theorem dL_law_795 : decode cL_law 795 = .ok (.invokevirtual 120, 3) := by decide +kernel
theorem dL_law_798 : decode cL_law 798 = .ok (.istore 6, 2) := by decide +kernel
theorem dL_law_800 : decode cL_law 800 = .ok (.aload_n 2, 1) := by decide +kernel
theorem dL_law_801 : decode cL_law 801 = .ok (.invokevirtual 93, 3) := by decide +kernel
theorem dL_law_804 : decode cL_law 804 = .ok (.iload 5, 2) := by decide +kernel
theorem dL_law_806 : decode cL_law 806 = .ok (.if_icmp .eq 5, 3) := by decide +kernel
theorem dL_law_809 : decode cL_law 809 = .ok (.iconst 0, 1) := by decide +kernel
theorem dL_law_810 : decode cL_law 810 = .ok (.ireturn, 1) := by decide +kernel
theorem dL_law_811 : decode cL_law 811 = .ok (.iload 5, 2) := by decide +kernel
theorem dL_law_813 : decode cL_law 813 = .ok (.ifCond .ne 15, 3) := by decide +kernel
theorem dL_law_816 : decode cL_law 816 = .ok (.aload_n 3, 1) := by decide +kernel
theorem dL_law_817 : decode cL_law 817 = .ok (.iconst 0, 1) := by decide +kernel
theorem dL_law_818 : decode cL_law 818 = .ok (.laload, 1) := by decide +kernel
theorem dL_law_819 : decode cL_law 819 = .ok (.iload 6, 2) := by decide +kernel
theorem dL_law_821 : decode cL_law 821 = .ok (.i2l, 1) := by decide +kernel
theorem dL_law_822 : decode cL_law 822 = .ok (.lcmp, 1) := by decide +kernel
theorem dL_law_823 : decode cL_law 823 = .ok (.ifCond .eq 5, 3) := by decide +kernel
theorem dL_law_826 : decode cL_law 826 = .ok (.iconst 0, 1) := by decide +kernel
theorem dL_law_827 : decode cL_law 827 = .ok (.ireturn, 1) := by decide +kernel
theorem dL_law_828 : decode cL_law 828 = .ok (.goto 909, 3) := by decide +kernel
theorem dL_law_831 : decode cL_law 831 = .ok (.aload_n 1, 1) := by decide +kernel
theorem dL_law_832 : decode cL_law 832 = .ok (.aload_n 0, 1) := by decide +kernel
theorem dL_law_833 : decode cL_law 833 = .ok (.iload 4, 2) := by decide +kernel
theorem dL_law_835 : decode cL_law 835 = .ok (.iconst 1, 1) := by decide +kernel
theorem dL_law_836 : decode cL_law 836 = .ok (.iadd, 1) := by decide +kernel
theorem dL_law_837 : decode cL_law 837 = .ok (.iaload, 1) := by decide +kernel
theorem dL_law_838 : decode cL_law 838 = .ok (.aload_n 0, 1) := by decide +kernel
theorem dL_law_839 : decode cL_law 839 = .ok (.iload 4, 2) := by decide +kernel
theorem dL_law_841 : decode cL_law 841 = .ok (.iconst 2, 1) := by decide +kernel
theorem dL_law_842 : decode cL_law 842 = .ok (.iadd, 1) := by decide +kernel
theorem dL_law_843 : decode cL_law 843 = .ok (.iaload, 1) := by decide +kernel
theorem dL_law_844 : decode cL_law 844 = .ok (.aload_n 3, 1) := by decide +kernel
theorem dL_law_845 : decode cL_law 845 = .ok (.invokestatic 121, 3) := by decide +kernel
theorem dL_law_848 : decode cL_law 848 = .ok (.istore 5, 2) := by decide +kernel
theorem dL_law_850 : decode cL_law 850 = .ok (.aload_n 2, 1) := by decide +kernel
theorem dL_law_851 : decode cL_law 851 = .ok (.aload_n 0, 1) := by decide +kernel
theorem dL_law_852 : decode cL_law 852 = .ok (.iload 4, 2) := by decide +kernel
theorem dL_law_854 : decode cL_law 854 = .ok (.iconst 1, 1) := by decide +kernel
theorem dL_law_855 : decode cL_law 855 = .ok (.iadd, 1) := by decide +kernel
theorem dL_law_856 : decode cL_law 856 = .ok (.iaload, 1) := by decide +kernel
theorem dL_law_857 : decode cL_law 857 = .ok (.aload_n 0, 1) := by decide +kernel
theorem dL_law_858 : decode cL_law 858 = .ok (.iload 4, 2) := by decide +kernel
theorem dL_law_860 : decode cL_law 860 = .ok (.iconst 2, 1) := by decide +kernel
theorem dL_law_861 : decode cL_law 861 = .ok (.iadd, 1) := by decide +kernel
theorem dL_law_862 : decode cL_law 862 = .ok (.iaload, 1) := by decide +kernel
theorem dL_law_863 : decode cL_law 863 = .ok (.invokevirtual 123, 3) := by decide +kernel
theorem dL_law_866 : decode cL_law 866 = .ok (.istore 6, 2) := by decide +kernel
theorem dL_law_868 : decode cL_law 868 = .ok (.aload_n 2, 1) := by decide +kernel
theorem dL_law_869 : decode cL_law 869 = .ok (.invokevirtual 93, 3) := by decide +kernel
theorem dL_law_872 : decode cL_law 872 = .ok (.iload 5, 2) := by decide +kernel
theorem dL_law_874 : decode cL_law 874 = .ok (.if_icmp .eq 5, 3) := by decide +kernel
theorem dL_law_877 : decode cL_law 877 = .ok (.iconst 0, 1) := by decide +kernel
theorem dL_law_878 : decode cL_law 878 = .ok (.ireturn, 1) := by decide +kernel
theorem dL_law_879 : decode cL_law 879 = .ok (.iload 5, 2) := by decide +kernel
theorem dL_law_881 : decode cL_law 881 = .ok (.ifCond .ne 15, 3) := by decide +kernel
theorem dL_law_884 : decode cL_law 884 = .ok (.aload_n 3, 1) := by decide +kernel
theorem dL_law_885 : decode cL_law 885 = .ok (.iconst 0, 1) := by decide +kernel
theorem dL_law_886 : decode cL_law 886 = .ok (.laload, 1) := by decide +kernel
theorem dL_law_887 : decode cL_law 887 = .ok (.iload 6, 2) := by decide +kernel
theorem dL_law_889 : decode cL_law 889 = .ok (.i2l, 1) := by decide +kernel
theorem dL_law_890 : decode cL_law 890 = .ok (.lcmp, 1) := by decide +kernel
theorem dL_law_891 : decode cL_law 891 = .ok (.ifCond .eq 5, 3) := by decide +kernel
theorem dL_law_894 : decode cL_law 894 = .ok (.iconst 0, 1) := by decide +kernel
theorem dL_law_895 : decode cL_law 895 = .ok (.ireturn, 1) := by decide +kernel
theorem dL_law_896 : decode cL_law 896 = .ok (.goto 841, 3) := by decide +kernel
theorem dL_law_899 : decode cL_law 899 = .ok (.aload_n 1, 1) := by decide +kernel
theorem dL_law_900 : decode cL_law 900 = .ok (.aload_n 0, 1) := by decide +kernel
theorem dL_law_901 : decode cL_law 901 = .ok (.iload 4, 2) := by decide +kernel
theorem dL_law_903 : decode cL_law 903 = .ok (.iconst 1, 1) := by decide +kernel
theorem dL_law_904 : decode cL_law 904 = .ok (.iadd, 1) := by decide +kernel
theorem dL_law_905 : decode cL_law 905 = .ok (.iaload, 1) := by decide +kernel
theorem dL_law_906 : decode cL_law 906 = .ok (.aload_n 0, 1) := by decide +kernel
theorem dL_law_907 : decode cL_law 907 = .ok (.iload 4, 2) := by decide +kernel
theorem dL_law_909 : decode cL_law 909 = .ok (.iconst 2, 1) := by decide +kernel
theorem dL_law_910 : decode cL_law 910 = .ok (.iadd, 1) := by decide +kernel
theorem dL_law_911 : decode cL_law 911 = .ok (.iaload, 1) := by decide +kernel
theorem dL_law_912 : decode cL_law 912 = .ok (.aload_n 3, 1) := by decide +kernel
theorem dL_law_913 : decode cL_law 913 = .ok (.invokestatic 124, 3) := by decide +kernel
theorem dL_law_916 : decode cL_law 916 = .ok (.istore 5, 2) := by decide +kernel
theorem dL_law_918 : decode cL_law 918 = .ok (.aload_n 2, 1) := by decide +kernel
theorem dL_law_919 : decode cL_law 919 = .ok (.aload_n 0, 1) := by decide +kernel
theorem dL_law_920 : decode cL_law 920 = .ok (.iload 4, 2) := by decide +kernel
theorem dL_law_922 : decode cL_law 922 = .ok (.iconst 1, 1) := by decide +kernel
theorem dL_law_923 : decode cL_law 923 = .ok (.iadd, 1) := by decide +kernel
theorem dL_law_924 : decode cL_law 924 = .ok (.iaload, 1) := by decide +kernel
theorem dL_law_925 : decode cL_law 925 = .ok (.aload_n 0, 1) := by decide +kernel
theorem dL_law_926 : decode cL_law 926 = .ok (.iload 4, 2) := by decide +kernel
theorem dL_law_928 : decode cL_law 928 = .ok (.iconst 2, 1) := by decide +kernel
theorem dL_law_929 : decode cL_law 929 = .ok (.iadd, 1) := by decide +kernel
theorem dL_law_930 : decode cL_law 930 = .ok (.iaload, 1) := by decide +kernel
theorem dL_law_931 : decode cL_law 931 = .ok (.invokevirtual 126, 3) := by decide +kernel
theorem dL_law_934 : decode cL_law 934 = .ok (.istore 6, 2) := by decide +kernel
theorem dL_law_936 : decode cL_law 936 = .ok (.aload_n 2, 1) := by decide +kernel
theorem dL_law_937 : decode cL_law 937 = .ok (.invokevirtual 93, 3) := by decide +kernel
theorem dL_law_940 : decode cL_law 940 = .ok (.iload 5, 2) := by decide +kernel
theorem dL_law_942 : decode cL_law 942 = .ok (.if_icmp .eq 5, 3) := by decide +kernel
theorem dL_law_945 : decode cL_law 945 = .ok (.iconst 0, 1) := by decide +kernel
theorem dL_law_946 : decode cL_law 946 = .ok (.ireturn, 1) := by decide +kernel
theorem dL_law_947 : decode cL_law 947 = .ok (.iload 5, 2) := by decide +kernel
theorem dL_law_949 : decode cL_law 949 = .ok (.ifCond .ne 15, 3) := by decide +kernel
theorem dL_law_952 : decode cL_law 952 = .ok (.aload_n 3, 1) := by decide +kernel
theorem dL_law_953 : decode cL_law 953 = .ok (.iconst 0, 1) := by decide +kernel
theorem dL_law_954 : decode cL_law 954 = .ok (.laload, 1) := by decide +kernel
theorem dL_law_955 : decode cL_law 955 = .ok (.iload 6, 2) := by decide +kernel
theorem dL_law_957 : decode cL_law 957 = .ok (.i2l, 1) := by decide +kernel
theorem dL_law_958 : decode cL_law 958 = .ok (.lcmp, 1) := by decide +kernel
theorem dL_law_959 : decode cL_law 959 = .ok (.ifCond .eq 5, 3) := by decide +kernel
theorem dL_law_962 : decode cL_law 962 = .ok (.iconst 0, 1) := by decide +kernel
theorem dL_law_963 : decode cL_law 963 = .ok (.ireturn, 1) := by decide +kernel
theorem dL_law_964 : decode cL_law 964 = .ok (.goto 773, 3) := by decide +kernel
theorem dL_law_967 : decode cL_law 967 = .ok (.aload_n 1, 1) := by decide +kernel
theorem dL_law_968 : decode cL_law 968 = .ok (.aload_n 0, 1) := by decide +kernel
theorem dL_law_969 : decode cL_law 969 = .ok (.iload 4, 2) := by decide +kernel
theorem dL_law_971 : decode cL_law 971 = .ok (.iconst 1, 1) := by decide +kernel
theorem dL_law_972 : decode cL_law 972 = .ok (.iadd, 1) := by decide +kernel
theorem dL_law_973 : decode cL_law 973 = .ok (.iaload, 1) := by decide +kernel
theorem dL_law_974 : decode cL_law 974 = .ok (.aload_n 3, 1) := by decide +kernel
theorem dL_law_975 : decode cL_law 975 = .ok (.invokestatic 127, 3) := by decide +kernel
theorem dL_law_978 : decode cL_law 978 = .ok (.istore 5, 2) := by decide +kernel
theorem dL_law_980 : decode cL_law 980 = .ok (.aload_n 2, 1) := by decide +kernel
theorem dL_law_981 : decode cL_law 981 = .ok (.aload_n 0, 1) := by decide +kernel
theorem dL_law_982 : decode cL_law 982 = .ok (.iload 4, 2) := by decide +kernel
theorem dL_law_984 : decode cL_law 984 = .ok (.iconst 1, 1) := by decide +kernel
theorem dL_law_985 : decode cL_law 985 = .ok (.iadd, 1) := by decide +kernel
theorem dL_law_986 : decode cL_law 986 = .ok (.iaload, 1) := by decide +kernel
theorem dL_law_987 : decode cL_law 987 = .ok (.invokevirtual 130, 3) := by decide +kernel
theorem dL_law_990 : decode cL_law 990 = .ok (.istore 6, 2) := by decide +kernel
theorem dL_law_992 : decode cL_law 992 = .ok (.aload_n 2, 1) := by decide +kernel
theorem dL_law_993 : decode cL_law 993 = .ok (.invokevirtual 93, 3) := by decide +kernel
theorem dL_law_996 : decode cL_law 996 = .ok (.iload 5, 2) := by decide +kernel
theorem dL_law_998 : decode cL_law 998 = .ok (.if_icmp .eq 5, 3) := by decide +kernel
theorem dL_law_1001 : decode cL_law 1001 = .ok (.iconst 0, 1) := by decide +kernel
theorem dL_law_1002 : decode cL_law 1002 = .ok (.ireturn, 1) := by decide +kernel
theorem dL_law_1003 : decode cL_law 1003 = .ok (.iload 5, 2) := by decide +kernel
theorem dL_law_1005 : decode cL_law 1005 = .ok (.ifCond .ne 15, 3) := by decide +kernel
theorem dL_law_1008 : decode cL_law 1008 = .ok (.aload_n 3, 1) := by decide +kernel
theorem dL_law_1009 : decode cL_law 1009 = .ok (.iconst 0, 1) := by decide +kernel
theorem dL_law_1010 : decode cL_law 1010 = .ok (.laload, 1) := by decide +kernel
theorem dL_law_1011 : decode cL_law 1011 = .ok (.iload 6, 2) := by decide +kernel
theorem dL_law_1013 : decode cL_law 1013 = .ok (.i2l, 1) := by decide +kernel
theorem dL_law_1014 : decode cL_law 1014 = .ok (.lcmp, 1) := by decide +kernel
theorem dL_law_1015 : decode cL_law 1015 = .ok (.ifCond .eq 5, 3) := by decide +kernel
theorem dL_law_1018 : decode cL_law 1018 = .ok (.iconst 0, 1) := by decide +kernel
theorem dL_law_1019 : decode cL_law 1019 = .ok (.ireturn, 1) := by decide +kernel
theorem dL_law_1020 : decode cL_law 1020 = .ok (.goto 717, 3) := by decide +kernel
theorem dL_law_1023 : decode cL_law 1023 = .ok (.aload_n 1, 1) := by decide +kernel
theorem dL_law_1024 : decode cL_law 1024 = .ok (.aload_n 0, 1) := by decide +kernel
theorem dL_law_1025 : decode cL_law 1025 = .ok (.iload 4, 2) := by decide +kernel
theorem dL_law_1027 : decode cL_law 1027 = .ok (.iconst 1, 1) := by decide +kernel
theorem dL_law_1028 : decode cL_law 1028 = .ok (.iadd, 1) := by decide +kernel
theorem dL_law_1029 : decode cL_law 1029 = .ok (.iaload, 1) := by decide +kernel
theorem dL_law_1030 : decode cL_law 1030 = .ok (.aload_n 0, 1) := by decide +kernel
theorem dL_law_1031 : decode cL_law 1031 = .ok (.iload 4, 2) := by decide +kernel
theorem dL_law_1033 : decode cL_law 1033 = .ok (.iconst 2, 1) := by decide +kernel
theorem dL_law_1034 : decode cL_law 1034 = .ok (.iadd, 1) := by decide +kernel
theorem dL_law_1035 : decode cL_law 1035 = .ok (.iaload, 1) := by decide +kernel
theorem dL_law_1036 : decode cL_law 1036 = .ok (.aload_n 3, 1) := by decide +kernel
theorem dL_law_1037 : decode cL_law 1037 = .ok (.invokestatic 131, 3) := by decide +kernel
theorem dL_law_1040 : decode cL_law 1040 = .ok (.istore 5, 2) := by decide +kernel
theorem dL_law_1042 : decode cL_law 1042 = .ok (.aload_n 2, 1) := by decide +kernel
theorem dL_law_1043 : decode cL_law 1043 = .ok (.aload_n 0, 1) := by decide +kernel
theorem dL_law_1044 : decode cL_law 1044 = .ok (.iload 4, 2) := by decide +kernel
theorem dL_law_1046 : decode cL_law 1046 = .ok (.iconst 1, 1) := by decide +kernel
theorem dL_law_1047 : decode cL_law 1047 = .ok (.iadd, 1) := by decide +kernel
theorem dL_law_1048 : decode cL_law 1048 = .ok (.iaload, 1) := by decide +kernel
theorem dL_law_1049 : decode cL_law 1049 = .ok (.aload_n 0, 1) := by decide +kernel
theorem dL_law_1050 : decode cL_law 1050 = .ok (.iload 4, 2) := by decide +kernel
theorem dL_law_1052 : decode cL_law 1052 = .ok (.iconst 2, 1) := by decide +kernel
theorem dL_law_1053 : decode cL_law 1053 = .ok (.iadd, 1) := by decide +kernel
theorem dL_law_1054 : decode cL_law 1054 = .ok (.iaload, 1) := by decide +kernel
theorem dL_law_1055 : decode cL_law 1055 = .ok (.invokevirtual 133, 3) := by decide +kernel
theorem dL_law_1058 : decode cL_law 1058 = .ok (.istore 6, 2) := by decide +kernel
theorem dL_law_1060 : decode cL_law 1060 = .ok (.aload_n 2, 1) := by decide +kernel
theorem dL_law_1061 : decode cL_law 1061 = .ok (.invokevirtual 93, 3) := by decide +kernel
theorem dL_law_1064 : decode cL_law 1064 = .ok (.iload 5, 2) := by decide +kernel
theorem dL_law_1066 : decode cL_law 1066 = .ok (.if_icmp .eq 5, 3) := by decide +kernel
theorem dL_law_1069 : decode cL_law 1069 = .ok (.iconst 0, 1) := by decide +kernel
theorem dL_law_1070 : decode cL_law 1070 = .ok (.ireturn, 1) := by decide +kernel
theorem dL_law_1071 : decode cL_law 1071 = .ok (.iload 5, 2) := by decide +kernel
theorem dL_law_1073 : decode cL_law 1073 = .ok (.ifCond .ne 15, 3) := by decide +kernel
theorem dL_law_1076 : decode cL_law 1076 = .ok (.aload_n 3, 1) := by decide +kernel
theorem dL_law_1077 : decode cL_law 1077 = .ok (.iconst 0, 1) := by decide +kernel
theorem dL_law_1078 : decode cL_law 1078 = .ok (.laload, 1) := by decide +kernel
theorem dL_law_1079 : decode cL_law 1079 = .ok (.iload 6, 2) := by decide +kernel
theorem dL_law_1081 : decode cL_law 1081 = .ok (.i2l, 1) := by decide +kernel
theorem dL_law_1082 : decode cL_law 1082 = .ok (.lcmp, 1) := by decide +kernel
theorem dL_law_1083 : decode cL_law 1083 = .ok (.ifCond .eq 5, 3) := by decide +kernel
theorem dL_law_1086 : decode cL_law 1086 = .ok (.iconst 0, 1) := by decide +kernel
theorem dL_law_1087 : decode cL_law 1087 = .ok (.ireturn, 1) := by decide +kernel
theorem dL_law_1088 : decode cL_law 1088 = .ok (.goto 649, 3) := by decide +kernel
theorem dL_law_1091 : decode cL_law 1091 = .ok (.aload_n 1, 1) := by decide +kernel
theorem dL_law_1092 : decode cL_law 1092 = .ok (.invokevirtual 134, 3) := by decide +kernel
theorem dL_law_1095 : decode cL_law 1095 = .ok (.aload_n 2, 1) := by decide +kernel
theorem dL_law_1096 : decode cL_law 1096 = .ok (.invokevirtual 137, 3) := by decide +kernel
theorem dL_law_1099 : decode cL_law 1099 = .ok (.if_icmp .eq 638, 3) := by decide +kernel
theorem dL_law_1102 : decode cL_law 1102 = .ok (.iconst 0, 1) := by decide +kernel
theorem dL_law_1103 : decode cL_law 1103 = .ok (.ireturn, 1) := by decide +kernel
theorem dL_law_1104 : decode cL_law 1104 = .ok (.aload_n 1, 1) := by decide +kernel
theorem dL_law_1105 : decode cL_law 1105 = .ok (.invokevirtual 138, 3) := by decide +kernel
theorem dL_law_1108 : decode cL_law 1108 = .ok (.aload_n 2, 1) := by decide +kernel
theorem dL_law_1109 : decode cL_law 1109 = .ok (.invokevirtual 141, 3) := by decide +kernel
theorem dL_law_1112 : decode cL_law 1112 = .ok (.if_icmp .eq 625, 3) := by decide +kernel
theorem dL_law_1115 : decode cL_law 1115 = .ok (.iconst 0, 1) := by decide +kernel
theorem dL_law_1116 : decode cL_law 1116 = .ok (.ireturn, 1) := by decide +kernel
theorem dL_law_1117 : decode cL_law 1117 = .ok (.aload_n 1, 1) := by decide +kernel
theorem dL_law_1118 : decode cL_law 1118 = .ok (.aload_n 0, 1) := by decide +kernel
theorem dL_law_1119 : decode cL_law 1119 = .ok (.iload 4, 2) := by decide +kernel
theorem dL_law_1121 : decode cL_law 1121 = .ok (.iconst 1, 1) := by decide +kernel
theorem dL_law_1122 : decode cL_law 1122 = .ok (.iadd, 1) := by decide +kernel
theorem dL_law_1123 : decode cL_law 1123 = .ok (.iaload, 1) := by decide +kernel
theorem dL_law_1124 : decode cL_law 1124 = .ok (.aload_n 3, 1) := by decide +kernel
theorem dL_law_1125 : decode cL_law 1125 = .ok (.invokestatic 142, 3) := by decide +kernel
theorem dL_law_1128 : decode cL_law 1128 = .ok (.istore 5, 2) := by decide +kernel
theorem dL_law_1130 : decode cL_law 1130 = .ok (.aload_n 2, 1) := by decide +kernel
theorem dL_law_1131 : decode cL_law 1131 = .ok (.aload_n 0, 1) := by decide +kernel
theorem dL_law_1132 : decode cL_law 1132 = .ok (.iload 4, 2) := by decide +kernel
theorem dL_law_1134 : decode cL_law 1134 = .ok (.iconst 1, 1) := by decide +kernel
theorem dL_law_1135 : decode cL_law 1135 = .ok (.iadd, 1) := by decide +kernel
theorem dL_law_1136 : decode cL_law 1136 = .ok (.iaload, 1) := by decide +kernel
theorem dL_law_1137 : decode cL_law 1137 = .ok (.invokevirtual 144, 3) := by decide +kernel
theorem dL_law_1140 : decode cL_law 1140 = .ok (.istore 6, 2) := by decide +kernel
theorem dL_law_1142 : decode cL_law 1142 = .ok (.aload_n 2, 1) := by decide +kernel
theorem dL_law_1143 : decode cL_law 1143 = .ok (.invokevirtual 93, 3) := by decide +kernel
theorem dL_law_1146 : decode cL_law 1146 = .ok (.iload 5, 2) := by decide +kernel
theorem dL_law_1148 : decode cL_law 1148 = .ok (.if_icmp .eq 5, 3) := by decide +kernel
theorem dL_law_1151 : decode cL_law 1151 = .ok (.iconst 0, 1) := by decide +kernel
theorem dL_law_1152 : decode cL_law 1152 = .ok (.ireturn, 1) := by decide +kernel
theorem dL_law_1153 : decode cL_law 1153 = .ok (.iload 5, 2) := by decide +kernel
theorem dL_law_1155 : decode cL_law 1155 = .ok (.ifCond .ne 15, 3) := by decide +kernel
theorem dL_law_1158 : decode cL_law 1158 = .ok (.aload_n 3, 1) := by decide +kernel
theorem dL_law_1159 : decode cL_law 1159 = .ok (.iconst 0, 1) := by decide +kernel
theorem dL_law_1160 : decode cL_law 1160 = .ok (.laload, 1) := by decide +kernel
theorem dL_law_1161 : decode cL_law 1161 = .ok (.iload 6, 2) := by decide +kernel
theorem dL_law_1163 : decode cL_law 1163 = .ok (.i2l, 1) := by decide +kernel
theorem dL_law_1164 : decode cL_law 1164 = .ok (.lcmp, 1) := by decide +kernel
theorem dL_law_1165 : decode cL_law 1165 = .ok (.ifCond .eq 5, 3) := by decide +kernel
theorem dL_law_1168 : decode cL_law 1168 = .ok (.iconst 0, 1) := by decide +kernel
theorem dL_law_1169 : decode cL_law 1169 = .ok (.ireturn, 1) := by decide +kernel
theorem dL_law_1170 : decode cL_law 1170 = .ok (.goto 567, 3) := by decide +kernel
theorem dL_law_1173 : decode cL_law 1173 = .ok (.aload_n 1, 1) := by decide +kernel
theorem dL_law_1174 : decode cL_law 1174 = .ok (.invokevirtual 145, 3) := by decide +kernel
theorem dL_law_1177 : decode cL_law 1177 = .ok (.aload_n 2, 1) := by decide +kernel
theorem dL_law_1178 : decode cL_law 1178 = .ok (.invokevirtual 148, 3) := by decide +kernel
theorem dL_law_1181 : decode cL_law 1181 = .ok (.if_icmp .eq 556, 3) := by decide +kernel
theorem dL_law_1184 : decode cL_law 1184 = .ok (.iconst 0, 1) := by decide +kernel
theorem dL_law_1185 : decode cL_law 1185 = .ok (.ireturn, 1) := by decide +kernel
theorem dL_law_1186 : decode cL_law 1186 = .ok (.aload_n 1, 1) := by decide +kernel
theorem dL_law_1187 : decode cL_law 1187 = .ok (.invokevirtual 149, 3) := by decide +kernel
theorem dL_law_1190 : decode cL_law 1190 = .ok (.aload_n 2, 1) := by decide +kernel
theorem dL_law_1191 : decode cL_law 1191 = .ok (.invokevirtual 153, 3) := by decide +kernel
theorem dL_law_1194 : decode cL_law 1194 = .ok (.lcmp, 1) := by decide +kernel
theorem dL_law_1195 : decode cL_law 1195 = .ok (.ifCond .eq 542, 3) := by decide +kernel
theorem dL_law_1198 : decode cL_law 1198 = .ok (.iconst 0, 1) := by decide +kernel
theorem dL_law_1199 : decode cL_law 1199 = .ok (.ireturn, 1) := by decide +kernel
theorem dL_law_1200 : decode cL_law 1200 = .ok (.aload_n 1, 1) := by decide +kernel
theorem dL_law_1201 : decode cL_law 1201 = .ok (.aload_n 0, 1) := by decide +kernel
theorem dL_law_1202 : decode cL_law 1202 = .ok (.iload 4, 2) := by decide +kernel
theorem dL_law_1204 : decode cL_law 1204 = .ok (.iconst 1, 1) := by decide +kernel
theorem dL_law_1205 : decode cL_law 1205 = .ok (.iadd, 1) := by decide +kernel
theorem dL_law_1206 : decode cL_law 1206 = .ok (.iaload, 1) := by decide +kernel
theorem dL_law_1207 : decode cL_law 1207 = .ok (.aload_n 3, 1) := by decide +kernel
theorem dL_law_1208 : decode cL_law 1208 = .ok (.invokestatic 154, 3) := by decide +kernel
theorem dL_law_1211 : decode cL_law 1211 = .ok (.istore 5, 2) := by decide +kernel
theorem dL_law_1213 : decode cL_law 1213 = .ok (.aload_n 2, 1) := by decide +kernel
theorem dL_law_1214 : decode cL_law 1214 = .ok (.aload_n 0, 1) := by decide +kernel
theorem dL_law_1215 : decode cL_law 1215 = .ok (.iload 4, 2) := by decide +kernel
theorem dL_law_1217 : decode cL_law 1217 = .ok (.iconst 1, 1) := by decide +kernel
theorem dL_law_1218 : decode cL_law 1218 = .ok (.iadd, 1) := by decide +kernel
theorem dL_law_1219 : decode cL_law 1219 = .ok (.iaload, 1) := by decide +kernel
theorem dL_law_1220 : decode cL_law 1220 = .ok (.invokevirtual 156, 3) := by decide +kernel
theorem dL_law_1223 : decode cL_law 1223 = .ok (.istore 6, 2) := by decide +kernel
theorem dL_law_1225 : decode cL_law 1225 = .ok (.aload_n 2, 1) := by decide +kernel
theorem dL_law_1226 : decode cL_law 1226 = .ok (.invokevirtual 93, 3) := by decide +kernel
theorem dL_law_1229 : decode cL_law 1229 = .ok (.iload 5, 2) := by decide +kernel
theorem dL_law_1231 : decode cL_law 1231 = .ok (.if_icmp .eq 5, 3) := by decide +kernel
theorem dL_law_1234 : decode cL_law 1234 = .ok (.iconst 0, 1) := by decide +kernel
theorem dL_law_1235 : decode cL_law 1235 = .ok (.ireturn, 1) := by decide +kernel
theorem dL_law_1236 : decode cL_law 1236 = .ok (.iload 5, 2) := by decide +kernel
theorem dL_law_1238 : decode cL_law 1238 = .ok (.ifCond .ne 15, 3) := by decide +kernel
theorem dL_law_1241 : decode cL_law 1241 = .ok (.aload_n 3, 1) := by decide +kernel
theorem dL_law_1242 : decode cL_law 1242 = .ok (.iconst 0, 1) := by decide +kernel
theorem dL_law_1243 : decode cL_law 1243 = .ok (.laload, 1) := by decide +kernel
theorem dL_law_1244 : decode cL_law 1244 = .ok (.iload 6, 2) := by decide +kernel
theorem dL_law_1246 : decode cL_law 1246 = .ok (.i2l, 1) := by decide +kernel
theorem dL_law_1247 : decode cL_law 1247 = .ok (.lcmp, 1) := by decide +kernel
theorem dL_law_1248 : decode cL_law 1248 = .ok (.ifCond .eq 5, 3) := by decide +kernel
theorem dL_law_1251 : decode cL_law 1251 = .ok (.iconst 0, 1) := by decide +kernel
theorem dL_law_1252 : decode cL_law 1252 = .ok (.ireturn, 1) := by decide +kernel
theorem dL_law_1253 : decode cL_law 1253 = .ok (.goto 484, 3) := by decide +kernel
theorem dL_law_1256 : decode cL_law 1256 = .ok (.aload_n 1, 1) := by decide +kernel
theorem dL_law_1257 : decode cL_law 1257 = .ok (.aload_n 0, 1) := by decide +kernel
theorem dL_law_1258 : decode cL_law 1258 = .ok (.iload 4, 2) := by decide +kernel
theorem dL_law_1260 : decode cL_law 1260 = .ok (.iconst 1, 1) := by decide +kernel
theorem dL_law_1261 : decode cL_law 1261 = .ok (.iadd, 1) := by decide +kernel
theorem dL_law_1262 : decode cL_law 1262 = .ok (.iaload, 1) := by decide +kernel
theorem dL_law_1263 : decode cL_law 1263 = .ok (.aload_n 0, 1) := by decide +kernel
theorem dL_law_1264 : decode cL_law 1264 = .ok (.iload 4, 2) := by decide +kernel
theorem dL_law_1266 : decode cL_law 1266 = .ok (.iconst 2, 1) := by decide +kernel
theorem dL_law_1267 : decode cL_law 1267 = .ok (.iadd, 1) := by decide +kernel
theorem dL_law_1268 : decode cL_law 1268 = .ok (.iaload, 1) := by decide +kernel
theorem dL_law_1269 : decode cL_law 1269 = .ok (.aload_n 3, 1) := by decide +kernel
theorem dL_law_1270 : decode cL_law 1270 = .ok (.invokestatic 157, 3) := by decide +kernel
theorem dL_law_1273 : decode cL_law 1273 = .ok (.istore 5, 2) := by decide +kernel
theorem dL_law_1275 : decode cL_law 1275 = .ok (.aload_n 2, 1) := by decide +kernel
theorem dL_law_1276 : decode cL_law 1276 = .ok (.aload_n 0, 1) := by decide +kernel
theorem dL_law_1277 : decode cL_law 1277 = .ok (.iload 4, 2) := by decide +kernel
theorem dL_law_1279 : decode cL_law 1279 = .ok (.iconst 1, 1) := by decide +kernel
theorem dL_law_1280 : decode cL_law 1280 = .ok (.iadd, 1) := by decide +kernel
theorem dL_law_1281 : decode cL_law 1281 = .ok (.iaload, 1) := by decide +kernel
theorem dL_law_1282 : decode cL_law 1282 = .ok (.aload_n 0, 1) := by decide +kernel
theorem dL_law_1283 : decode cL_law 1283 = .ok (.iload 4, 2) := by decide +kernel
theorem dL_law_1285 : decode cL_law 1285 = .ok (.iconst 2, 1) := by decide +kernel
theorem dL_law_1286 : decode cL_law 1286 = .ok (.iadd, 1) := by decide +kernel
theorem dL_law_1287 : decode cL_law 1287 = .ok (.iaload, 1) := by decide +kernel
theorem dL_law_1288 : decode cL_law 1288 = .ok (.invokevirtual 159, 3) := by decide +kernel
theorem dL_law_1291 : decode cL_law 1291 = .ok (.istore 6, 2) := by decide +kernel
theorem dL_law_1293 : decode cL_law 1293 = .ok (.aload_n 2, 1) := by decide +kernel
theorem dL_law_1294 : decode cL_law 1294 = .ok (.invokevirtual 93, 3) := by decide +kernel
theorem dL_law_1297 : decode cL_law 1297 = .ok (.iload 5, 2) := by decide +kernel
theorem dL_law_1299 : decode cL_law 1299 = .ok (.if_icmp .eq 5, 3) := by decide +kernel
theorem dL_law_1302 : decode cL_law 1302 = .ok (.iconst 0, 1) := by decide +kernel
theorem dL_law_1303 : decode cL_law 1303 = .ok (.ireturn, 1) := by decide +kernel
theorem dL_law_1304 : decode cL_law 1304 = .ok (.iload 5, 2) := by decide +kernel
theorem dL_law_1306 : decode cL_law 1306 = .ok (.ifCond .ne 15, 3) := by decide +kernel
theorem dL_law_1309 : decode cL_law 1309 = .ok (.aload_n 3, 1) := by decide +kernel
theorem dL_law_1310 : decode cL_law 1310 = .ok (.iconst 0, 1) := by decide +kernel
theorem dL_law_1311 : decode cL_law 1311 = .ok (.laload, 1) := by decide +kernel
theorem dL_law_1312 : decode cL_law 1312 = .ok (.iload 6, 2) := by decide +kernel
theorem dL_law_1314 : decode cL_law 1314 = .ok (.i2l, 1) := by decide +kernel
theorem dL_law_1315 : decode cL_law 1315 = .ok (.lcmp, 1) := by decide +kernel
theorem dL_law_1316 : decode cL_law 1316 = .ok (.ifCond .eq 5, 3) := by decide +kernel
theorem dL_law_1319 : decode cL_law 1319 = .ok (.iconst 0, 1) := by decide +kernel
theorem dL_law_1320 : decode cL_law 1320 = .ok (.ireturn, 1) := by decide +kernel
theorem dL_law_1321 : decode cL_law 1321 = .ok (.goto 416, 3) := by decide +kernel
theorem dL_law_1324 : decode cL_law 1324 = .ok (.aload_n 1, 1) := by decide +kernel
theorem dL_law_1325 : decode cL_law 1325 = .ok (.aload_n 0, 1) := by decide +kernel
theorem dL_law_1326 : decode cL_law 1326 = .ok (.iload 4, 2) := by decide +kernel
theorem dL_law_1328 : decode cL_law 1328 = .ok (.iconst 1, 1) := by decide +kernel
theorem dL_law_1329 : decode cL_law 1329 = .ok (.iadd, 1) := by decide +kernel
theorem dL_law_1330 : decode cL_law 1330 = .ok (.iaload, 1) := by decide +kernel
theorem dL_law_1331 : decode cL_law 1331 = .ok (.aload_n 0, 1) := by decide +kernel
theorem dL_law_1332 : decode cL_law 1332 = .ok (.iload 4, 2) := by decide +kernel
theorem dL_law_1334 : decode cL_law 1334 = .ok (.iconst 2, 1) := by decide +kernel
theorem dL_law_1335 : decode cL_law 1335 = .ok (.iadd, 1) := by decide +kernel
theorem dL_law_1336 : decode cL_law 1336 = .ok (.iaload, 1) := by decide +kernel
theorem dL_law_1337 : decode cL_law 1337 = .ok (.aload_n 3, 1) := by decide +kernel
theorem dL_law_1338 : decode cL_law 1338 = .ok (.invokestatic 160, 3) := by decide +kernel
theorem dL_law_1341 : decode cL_law 1341 = .ok (.istore 5, 2) := by decide +kernel
theorem dL_law_1343 : decode cL_law 1343 = .ok (.aload_n 2, 1) := by decide +kernel
theorem dL_law_1344 : decode cL_law 1344 = .ok (.aload_n 0, 1) := by decide +kernel
theorem dL_law_1345 : decode cL_law 1345 = .ok (.iload 4, 2) := by decide +kernel
theorem dL_law_1347 : decode cL_law 1347 = .ok (.iconst 1, 1) := by decide +kernel
theorem dL_law_1348 : decode cL_law 1348 = .ok (.iadd, 1) := by decide +kernel
theorem dL_law_1349 : decode cL_law 1349 = .ok (.iaload, 1) := by decide +kernel
theorem dL_law_1350 : decode cL_law 1350 = .ok (.aload_n 0, 1) := by decide +kernel
theorem dL_law_1351 : decode cL_law 1351 = .ok (.iload 4, 2) := by decide +kernel
theorem dL_law_1353 : decode cL_law 1353 = .ok (.iconst 2, 1) := by decide +kernel
theorem dL_law_1354 : decode cL_law 1354 = .ok (.iadd, 1) := by decide +kernel
theorem dL_law_1355 : decode cL_law 1355 = .ok (.iaload, 1) := by decide +kernel
theorem dL_law_1356 : decode cL_law 1356 = .ok (.invokevirtual 162, 3) := by decide +kernel
theorem dL_law_1359 : decode cL_law 1359 = .ok (.istore 6, 2) := by decide +kernel
theorem dL_law_1361 : decode cL_law 1361 = .ok (.aload_n 2, 1) := by decide +kernel
theorem dL_law_1362 : decode cL_law 1362 = .ok (.invokevirtual 93, 3) := by decide +kernel
theorem dL_law_1365 : decode cL_law 1365 = .ok (.iload 5, 2) := by decide +kernel
theorem dL_law_1367 : decode cL_law 1367 = .ok (.if_icmp .eq 5, 3) := by decide +kernel
theorem dL_law_1370 : decode cL_law 1370 = .ok (.iconst 0, 1) := by decide +kernel
theorem dL_law_1371 : decode cL_law 1371 = .ok (.ireturn, 1) := by decide +kernel
theorem dL_law_1372 : decode cL_law 1372 = .ok (.iload 5, 2) := by decide +kernel
theorem dL_law_1374 : decode cL_law 1374 = .ok (.ifCond .ne 15, 3) := by decide +kernel
theorem dL_law_1377 : decode cL_law 1377 = .ok (.aload_n 3, 1) := by decide +kernel
theorem dL_law_1378 : decode cL_law 1378 = .ok (.iconst 0, 1) := by decide +kernel
theorem dL_law_1379 : decode cL_law 1379 = .ok (.laload, 1) := by decide +kernel
theorem dL_law_1380 : decode cL_law 1380 = .ok (.iload 6, 2) := by decide +kernel
theorem dL_law_1382 : decode cL_law 1382 = .ok (.i2l, 1) := by decide +kernel
theorem dL_law_1383 : decode cL_law 1383 = .ok (.lcmp, 1) := by decide +kernel
theorem dL_law_1384 : decode cL_law 1384 = .ok (.ifCond .eq 5, 3) := by decide +kernel
theorem dL_law_1387 : decode cL_law 1387 = .ok (.iconst 0, 1) := by decide +kernel
theorem dL_law_1388 : decode cL_law 1388 = .ok (.ireturn, 1) := by decide +kernel
theorem dL_law_1389 : decode cL_law 1389 = .ok (.goto 348, 3) := by decide +kernel
theorem dL_law_1392 : decode cL_law 1392 = .ok (.aload_n 1, 1) := by decide +kernel
theorem dL_law_1393 : decode cL_law 1393 = .ok (.invokevirtual 163, 3) := by decide +kernel
theorem dL_law_1396 : decode cL_law 1396 = .ok (.aload_n 2, 1) := by decide +kernel
theorem dL_law_1397 : decode cL_law 1397 = .ok (.invokevirtual 166, 3) := by decide +kernel
theorem dL_law_1400 : decode cL_law 1400 = .ok (.if_icmp .eq 337, 3) := by decide +kernel
theorem dL_law_1403 : decode cL_law 1403 = .ok (.iconst 0, 1) := by decide +kernel
theorem dL_law_1404 : decode cL_law 1404 = .ok (.ireturn, 1) := by decide +kernel
theorem dL_law_1405 : decode cL_law 1405 = .ok (.aload_n 1, 1) := by decide +kernel
theorem dL_law_1406 : decode cL_law 1406 = .ok (.aload_n 0, 1) := by decide +kernel
theorem dL_law_1407 : decode cL_law 1407 = .ok (.iload 4, 2) := by decide +kernel
theorem dL_law_1409 : decode cL_law 1409 = .ok (.iconst 1, 1) := by decide +kernel
theorem dL_law_1410 : decode cL_law 1410 = .ok (.iadd, 1) := by decide +kernel
theorem dL_law_1411 : decode cL_law 1411 = .ok (.iaload, 1) := by decide +kernel
theorem dL_law_1412 : decode cL_law 1412 = .ok (.aload_n 3, 1) := by decide +kernel
theorem dL_law_1413 : decode cL_law 1413 = .ok (.invokestatic 167, 3) := by decide +kernel
theorem dL_law_1416 : decode cL_law 1416 = .ok (.istore 5, 2) := by decide +kernel
theorem dL_law_1418 : decode cL_law 1418 = .ok (.aload_n 2, 1) := by decide +kernel
theorem dL_law_1419 : decode cL_law 1419 = .ok (.aload_n 0, 1) := by decide +kernel
theorem dL_law_1420 : decode cL_law 1420 = .ok (.iload 4, 2) := by decide +kernel
theorem dL_law_1422 : decode cL_law 1422 = .ok (.iconst 1, 1) := by decide +kernel
theorem dL_law_1423 : decode cL_law 1423 = .ok (.iadd, 1) := by decide +kernel
theorem dL_law_1424 : decode cL_law 1424 = .ok (.iaload, 1) := by decide +kernel
theorem dL_law_1425 : decode cL_law 1425 = .ok (.invokevirtual 169, 3) := by decide +kernel
theorem dL_law_1428 : decode cL_law 1428 = .ok (.istore 6, 2) := by decide +kernel
theorem dL_law_1430 : decode cL_law 1430 = .ok (.aload_n 2, 1) := by decide +kernel
theorem dL_law_1431 : decode cL_law 1431 = .ok (.invokevirtual 93, 3) := by decide +kernel
theorem dL_law_1434 : decode cL_law 1434 = .ok (.iload 5, 2) := by decide +kernel
theorem dL_law_1436 : decode cL_law 1436 = .ok (.if_icmp .eq 5, 3) := by decide +kernel
theorem dL_law_1439 : decode cL_law 1439 = .ok (.iconst 0, 1) := by decide +kernel
theorem dL_law_1440 : decode cL_law 1440 = .ok (.ireturn, 1) := by decide +kernel
theorem dL_law_1441 : decode cL_law 1441 = .ok (.iload 5, 2) := by decide +kernel
theorem dL_law_1443 : decode cL_law 1443 = .ok (.ifCond .ne 15, 3) := by decide +kernel
theorem dL_law_1446 : decode cL_law 1446 = .ok (.aload_n 3, 1) := by decide +kernel
theorem dL_law_1447 : decode cL_law 1447 = .ok (.iconst 0, 1) := by decide +kernel
theorem dL_law_1448 : decode cL_law 1448 = .ok (.laload, 1) := by decide +kernel
theorem dL_law_1449 : decode cL_law 1449 = .ok (.iload 6, 2) := by decide +kernel
theorem dL_law_1451 : decode cL_law 1451 = .ok (.i2l, 1) := by decide +kernel
theorem dL_law_1452 : decode cL_law 1452 = .ok (.lcmp, 1) := by decide +kernel
theorem dL_law_1453 : decode cL_law 1453 = .ok (.ifCond .eq 5, 3) := by decide +kernel
theorem dL_law_1456 : decode cL_law 1456 = .ok (.iconst 0, 1) := by decide +kernel
theorem dL_law_1457 : decode cL_law 1457 = .ok (.ireturn, 1) := by decide +kernel
theorem dL_law_1458 : decode cL_law 1458 = .ok (.goto 279, 3) := by decide +kernel
theorem dL_law_1461 : decode cL_law 1461 = .ok (.aload_n 1, 1) := by decide +kernel
theorem dL_law_1462 : decode cL_law 1462 = .ok (.aload_n 0, 1) := by decide +kernel
theorem dL_law_1463 : decode cL_law 1463 = .ok (.iload 4, 2) := by decide +kernel
theorem dL_law_1465 : decode cL_law 1465 = .ok (.iconst 1, 1) := by decide +kernel
theorem dL_law_1466 : decode cL_law 1466 = .ok (.iadd, 1) := by decide +kernel
theorem dL_law_1467 : decode cL_law 1467 = .ok (.iaload, 1) := by decide +kernel
theorem dL_law_1468 : decode cL_law 1468 = .ok (.aload_n 3, 1) := by decide +kernel
theorem dL_law_1469 : decode cL_law 1469 = .ok (.invokestatic 170, 3) := by decide +kernel
theorem dL_law_1472 : decode cL_law 1472 = .ok (.istore 5, 2) := by decide +kernel
theorem dL_law_1474 : decode cL_law 1474 = .ok (.aload_n 2, 1) := by decide +kernel
theorem dL_law_1475 : decode cL_law 1475 = .ok (.aload_n 0, 1) := by decide +kernel
theorem dL_law_1476 : decode cL_law 1476 = .ok (.iload 4, 2) := by decide +kernel
theorem dL_law_1478 : decode cL_law 1478 = .ok (.iconst 1, 1) := by decide +kernel
theorem dL_law_1479 : decode cL_law 1479 = .ok (.iadd, 1) := by decide +kernel
theorem dL_law_1480 : decode cL_law 1480 = .ok (.iaload, 1) := by decide +kernel
theorem dL_law_1481 : decode cL_law 1481 = .ok (.invokevirtual 172, 3) := by decide +kernel
theorem dL_law_1484 : decode cL_law 1484 = .ok (.istore 6, 2) := by decide +kernel
theorem dL_law_1486 : decode cL_law 1486 = .ok (.aload_n 2, 1) := by decide +kernel
theorem dL_law_1487 : decode cL_law 1487 = .ok (.invokevirtual 93, 3) := by decide +kernel
theorem dL_law_1490 : decode cL_law 1490 = .ok (.iload 5, 2) := by decide +kernel
theorem dL_law_1492 : decode cL_law 1492 = .ok (.if_icmp .eq 5, 3) := by decide +kernel
theorem dL_law_1495 : decode cL_law 1495 = .ok (.iconst 0, 1) := by decide +kernel
theorem dL_law_1496 : decode cL_law 1496 = .ok (.ireturn, 1) := by decide +kernel
theorem dL_law_1497 : decode cL_law 1497 = .ok (.iload 5, 2) := by decide +kernel
theorem dL_law_1499 : decode cL_law 1499 = .ok (.ifCond .ne 15, 3) := by decide +kernel
theorem dL_law_1502 : decode cL_law 1502 = .ok (.aload_n 3, 1) := by decide +kernel
theorem dL_law_1503 : decode cL_law 1503 = .ok (.iconst 0, 1) := by decide +kernel
theorem dL_law_1504 : decode cL_law 1504 = .ok (.laload, 1) := by decide +kernel
theorem dL_law_1505 : decode cL_law 1505 = .ok (.iload 6, 2) := by decide +kernel
theorem dL_law_1507 : decode cL_law 1507 = .ok (.i2l, 1) := by decide +kernel
theorem dL_law_1508 : decode cL_law 1508 = .ok (.lcmp, 1) := by decide +kernel
theorem dL_law_1509 : decode cL_law 1509 = .ok (.ifCond .eq 5, 3) := by decide +kernel
theorem dL_law_1512 : decode cL_law 1512 = .ok (.iconst 0, 1) := by decide +kernel
theorem dL_law_1513 : decode cL_law 1513 = .ok (.ireturn, 1) := by decide +kernel
theorem dL_law_1514 : decode cL_law 1514 = .ok (.goto 223, 3) := by decide +kernel
theorem dL_law_1517 : decode cL_law 1517 = .ok (.aload_n 1, 1) := by decide +kernel
theorem dL_law_1518 : decode cL_law 1518 = .ok (.aload_n 0, 1) := by decide +kernel
theorem dL_law_1519 : decode cL_law 1519 = .ok (.iload 4, 2) := by decide +kernel
theorem dL_law_1521 : decode cL_law 1521 = .ok (.iconst 1, 1) := by decide +kernel
theorem dL_law_1522 : decode cL_law 1522 = .ok (.iadd, 1) := by decide +kernel
theorem dL_law_1523 : decode cL_law 1523 = .ok (.iaload, 1) := by decide +kernel
theorem dL_law_1524 : decode cL_law 1524 = .ok (.aload_n 0, 1) := by decide +kernel
theorem dL_law_1525 : decode cL_law 1525 = .ok (.iload 4, 2) := by decide +kernel
theorem dL_law_1527 : decode cL_law 1527 = .ok (.iconst 2, 1) := by decide +kernel
theorem dL_law_1528 : decode cL_law 1528 = .ok (.iadd, 1) := by decide +kernel
theorem dL_law_1529 : decode cL_law 1529 = .ok (.iaload, 1) := by decide +kernel
theorem dL_law_1530 : decode cL_law 1530 = .ok (.aload_n 3, 1) := by decide +kernel
theorem dL_law_1531 : decode cL_law 1531 = .ok (.invokestatic 173, 3) := by decide +kernel
theorem dL_law_1534 : decode cL_law 1534 = .ok (.istore 5, 2) := by decide +kernel
theorem dL_law_1536 : decode cL_law 1536 = .ok (.aload_n 2, 1) := by decide +kernel
theorem dL_law_1537 : decode cL_law 1537 = .ok (.aload_n 0, 1) := by decide +kernel
theorem dL_law_1538 : decode cL_law 1538 = .ok (.iload 4, 2) := by decide +kernel
theorem dL_law_1540 : decode cL_law 1540 = .ok (.iconst 1, 1) := by decide +kernel
theorem dL_law_1541 : decode cL_law 1541 = .ok (.iadd, 1) := by decide +kernel
theorem dL_law_1542 : decode cL_law 1542 = .ok (.iaload, 1) := by decide +kernel
theorem dL_law_1543 : decode cL_law 1543 = .ok (.aload_n 0, 1) := by decide +kernel
theorem dL_law_1544 : decode cL_law 1544 = .ok (.iload 4, 2) := by decide +kernel
theorem dL_law_1546 : decode cL_law 1546 = .ok (.iconst 2, 1) := by decide +kernel
theorem dL_law_1547 : decode cL_law 1547 = .ok (.iadd, 1) := by decide +kernel
theorem dL_law_1548 : decode cL_law 1548 = .ok (.iaload, 1) := by decide +kernel
theorem dL_law_1549 : decode cL_law 1549 = .ok (.invokevirtual 175, 3) := by decide +kernel
theorem dL_law_1552 : decode cL_law 1552 = .ok (.istore 6, 2) := by decide +kernel
theorem dL_law_1554 : decode cL_law 1554 = .ok (.aload_n 2, 1) := by decide +kernel
theorem dL_law_1555 : decode cL_law 1555 = .ok (.invokevirtual 93, 3) := by decide +kernel
theorem dL_law_1558 : decode cL_law 1558 = .ok (.iload 5, 2) := by decide +kernel
theorem dL_law_1560 : decode cL_law 1560 = .ok (.if_icmp .eq 5, 3) := by decide +kernel
theorem dL_law_1563 : decode cL_law 1563 = .ok (.iconst 0, 1) := by decide +kernel
theorem dL_law_1564 : decode cL_law 1564 = .ok (.ireturn, 1) := by decide +kernel
theorem dL_law_1565 : decode cL_law 1565 = .ok (.iload 5, 2) := by decide +kernel
theorem dL_law_1567 : decode cL_law 1567 = .ok (.ifCond .ne 15, 3) := by decide +kernel
theorem dL_law_1570 : decode cL_law 1570 = .ok (.aload_n 3, 1) := by decide +kernel
theorem dL_law_1571 : decode cL_law 1571 = .ok (.iconst 0, 1) := by decide +kernel
theorem dL_law_1572 : decode cL_law 1572 = .ok (.laload, 1) := by decide +kernel
theorem dL_law_1573 : decode cL_law 1573 = .ok (.iload 6, 2) := by decide +kernel
theorem dL_law_1575 : decode cL_law 1575 = .ok (.i2l, 1) := by decide +kernel
theorem dL_law_1576 : decode cL_law 1576 = .ok (.lcmp, 1) := by decide +kernel
theorem dL_law_1577 : decode cL_law 1577 = .ok (.ifCond .eq 5, 3) := by decide +kernel
theorem dL_law_1580 : decode cL_law 1580 = .ok (.iconst 0, 1) := by decide +kernel
theorem dL_law_1581 : decode cL_law 1581 = .ok (.ireturn, 1) := by decide +kernel
theorem dL_law_1582 : decode cL_law 1582 = .ok (.goto 155, 3) := by decide +kernel
theorem dL_law_1585 : decode cL_law 1585 = .ok (.aload_n 1, 1) := by decide +kernel
theorem dL_law_1586 : decode cL_law 1586 = .ok (.invokevirtual 176, 3) := by decide +kernel
theorem dL_law_1589 : decode cL_law 1589 = .ok (.aload_n 2, 1) := by decide +kernel
theorem dL_law_1590 : decode cL_law 1590 = .ok (.invokevirtual 179, 3) := by decide +kernel
theorem dL_law_1593 : decode cL_law 1593 = .ok (.if_icmp .eq 144, 3) := by decide +kernel
theorem dL_law_1596 : decode cL_law 1596 = .ok (.iconst 0, 1) := by decide +kernel
theorem dL_law_1597 : decode cL_law 1597 = .ok (.ireturn, 1) := by decide +kernel
theorem dL_law_1598 : decode cL_law 1598 = .ok (.aload_n 1, 1) := by decide +kernel
theorem dL_law_1599 : decode cL_law 1599 = .ok (.aload_n 0, 1) := by decide +kernel
theorem dL_law_1600 : decode cL_law 1600 = .ok (.iload 4, 2) := by decide +kernel
theorem dL_law_1602 : decode cL_law 1602 = .ok (.iconst 1, 1) := by decide +kernel
theorem dL_law_1603 : decode cL_law 1603 = .ok (.iadd, 1) := by decide +kernel
theorem dL_law_1604 : decode cL_law 1604 = .ok (.iaload, 1) := by decide +kernel
theorem dL_law_1605 : decode cL_law 1605 = .ok (.aload_n 3, 1) := by decide +kernel
theorem dL_law_1606 : decode cL_law 1606 = .ok (.invokestatic 180, 3) := by decide +kernel
theorem dL_law_1609 : decode cL_law 1609 = .ok (.istore 5, 2) := by decide +kernel
theorem dL_law_1611 : decode cL_law 1611 = .ok (.aload_n 2, 1) := by decide +kernel
theorem dL_law_1612 : decode cL_law 1612 = .ok (.aload_n 0, 1) := by decide +kernel
theorem dL_law_1613 : decode cL_law 1613 = .ok (.iload 4, 2) := by decide +kernel
theorem dL_law_1615 : decode cL_law 1615 = .ok (.iconst 1, 1) := by decide +kernel
theorem dL_law_1616 : decode cL_law 1616 = .ok (.iadd, 1) := by decide +kernel
theorem dL_law_1617 : decode cL_law 1617 = .ok (.iaload, 1) := by decide +kernel
theorem dL_law_1618 : decode cL_law 1618 = .ok (.invokevirtual 182, 3) := by decide +kernel
theorem dL_law_1621 : decode cL_law 1621 = .ok (.istore 6, 2) := by decide +kernel
theorem dL_law_1623 : decode cL_law 1623 = .ok (.aload_n 2, 1) := by decide +kernel
theorem dL_law_1624 : decode cL_law 1624 = .ok (.invokevirtual 93, 3) := by decide +kernel
theorem dL_law_1627 : decode cL_law 1627 = .ok (.iload 5, 2) := by decide +kernel
theorem dL_law_1629 : decode cL_law 1629 = .ok (.if_icmp .eq 5, 3) := by decide +kernel
theorem dL_law_1632 : decode cL_law 1632 = .ok (.iconst 0, 1) := by decide +kernel
theorem dL_law_1633 : decode cL_law 1633 = .ok (.ireturn, 1) := by decide +kernel
theorem dL_law_1634 : decode cL_law 1634 = .ok (.iload 5, 2) := by decide +kernel
theorem dL_law_1636 : decode cL_law 1636 = .ok (.ifCond .ne 15, 3) := by decide +kernel
theorem dL_law_1639 : decode cL_law 1639 = .ok (.aload_n 3, 1) := by decide +kernel
theorem dL_law_1640 : decode cL_law 1640 = .ok (.iconst 0, 1) := by decide +kernel
theorem dL_law_1641 : decode cL_law 1641 = .ok (.laload, 1) := by decide +kernel
theorem dL_law_1642 : decode cL_law 1642 = .ok (.iload 6, 2) := by decide +kernel
theorem dL_law_1644 : decode cL_law 1644 = .ok (.i2l, 1) := by decide +kernel
theorem dL_law_1645 : decode cL_law 1645 = .ok (.lcmp, 1) := by decide +kernel
theorem dL_law_1646 : decode cL_law 1646 = .ok (.ifCond .eq 5, 3) := by decide +kernel
theorem dL_law_1649 : decode cL_law 1649 = .ok (.iconst 0, 1) := by decide +kernel
theorem dL_law_1650 : decode cL_law 1650 = .ok (.ireturn, 1) := by decide +kernel
theorem dL_law_1651 : decode cL_law 1651 = .ok (.goto 86, 3) := by decide +kernel
theorem dL_law_1654 : decode cL_law 1654 = .ok (.aload_n 1, 1) := by decide +kernel
theorem dL_law_1655 : decode cL_law 1655 = .ok (.aload_n 0, 1) := by decide +kernel
theorem dL_law_1656 : decode cL_law 1656 = .ok (.iload 4, 2) := by decide +kernel
theorem dL_law_1658 : decode cL_law 1658 = .ok (.iconst 1, 1) := by decide +kernel
theorem dL_law_1659 : decode cL_law 1659 = .ok (.iadd, 1) := by decide +kernel
theorem dL_law_1660 : decode cL_law 1660 = .ok (.iaload, 1) := by decide +kernel
theorem dL_law_1661 : decode cL_law 1661 = .ok (.aload_n 3, 1) := by decide +kernel
theorem dL_law_1662 : decode cL_law 1662 = .ok (.invokestatic 183, 3) := by decide +kernel
theorem dL_law_1665 : decode cL_law 1665 = .ok (.istore 5, 2) := by decide +kernel
theorem dL_law_1667 : decode cL_law 1667 = .ok (.aload_n 2, 1) := by decide +kernel
theorem dL_law_1668 : decode cL_law 1668 = .ok (.aload_n 0, 1) := by decide +kernel
theorem dL_law_1669 : decode cL_law 1669 = .ok (.iload 4, 2) := by decide +kernel
theorem dL_law_1671 : decode cL_law 1671 = .ok (.iconst 1, 1) := by decide +kernel
theorem dL_law_1672 : decode cL_law 1672 = .ok (.iadd, 1) := by decide +kernel
theorem dL_law_1673 : decode cL_law 1673 = .ok (.iaload, 1) := by decide +kernel
theorem dL_law_1674 : decode cL_law 1674 = .ok (.invokevirtual 185, 3) := by decide +kernel
theorem dL_law_1677 : decode cL_law 1677 = .ok (.istore 6, 2) := by decide +kernel
theorem dL_law_1679 : decode cL_law 1679 = .ok (.aload_n 2, 1) := by decide +kernel
theorem dL_law_1680 : decode cL_law 1680 = .ok (.invokevirtual 93, 3) := by decide +kernel
theorem dL_law_1683 : decode cL_law 1683 = .ok (.iload 5, 2) := by decide +kernel
theorem dL_law_1685 : decode cL_law 1685 = .ok (.if_icmp .eq 5, 3) := by decide +kernel
theorem dL_law_1688 : decode cL_law 1688 = .ok (.iconst 0, 1) := by decide +kernel
theorem dL_law_1689 : decode cL_law 1689 = .ok (.ireturn, 1) := by decide +kernel
theorem dL_law_1690 : decode cL_law 1690 = .ok (.iload 5, 2) := by decide +kernel
theorem dL_law_1692 : decode cL_law 1692 = .ok (.ifCond .ne 15, 3) := by decide +kernel
theorem dL_law_1695 : decode cL_law 1695 = .ok (.aload_n 3, 1) := by decide +kernel
theorem dL_law_1696 : decode cL_law 1696 = .ok (.iconst 0, 1) := by decide +kernel
theorem dL_law_1697 : decode cL_law 1697 = .ok (.laload, 1) := by decide +kernel
theorem dL_law_1698 : decode cL_law 1698 = .ok (.iload 6, 2) := by decide +kernel
theorem dL_law_1700 : decode cL_law 1700 = .ok (.i2l, 1) := by decide +kernel
theorem dL_law_1701 : decode cL_law 1701 = .ok (.lcmp, 1) := by decide +kernel
theorem dL_law_1702 : decode cL_law 1702 = .ok (.ifCond .eq 5, 3) := by decide +kernel
theorem dL_law_1705 : decode cL_law 1705 = .ok (.iconst 0, 1) := by decide +kernel
theorem dL_law_1706 : decode cL_law 1706 = .ok (.ireturn, 1) := by decide +kernel
theorem dL_law_1707 : decode cL_law 1707 = .ok (.goto 30, 3) := by decide +kernel
theorem dL_law_1710 : decode cL_law 1710 = .ok (.aload_n 1, 1) := by decide +kernel
theorem dL_law_1711 : decode cL_law 1711 = .ok (.invokevirtual 186, 3) := by decide +kernel
theorem dL_law_1714 : decode cL_law 1714 = .ok (.aload_n 2, 1) := by decide +kernel
theorem dL_law_1715 : decode cL_law 1715 = .ok (.invokevirtual 189, 3) := by decide +kernel
theorem dL_law_1718 : decode cL_law 1718 = .ok (.if_icmp .eq 19, 3) := by decide +kernel
theorem dL_law_1721 : decode cL_law 1721 = .ok (.iconst 0, 1) := by decide +kernel
theorem dL_law_1722 : decode cL_law 1722 = .ok (.ireturn, 1) := by decide +kernel
theorem dL_law_1723 : decode cL_law 1723 = .ok (.aload_n 1, 1) := by decide +kernel
theorem dL_law_1724 : decode cL_law 1724 = .ok (.invokevirtual 190, 3) := by decide +kernel
theorem dL_law_1727 : decode cL_law 1727 = .ok (.aload_n 2, 1) := by decide +kernel
theorem dL_law_1728 : decode cL_law 1728 = .ok (.invokevirtual 193, 3) := by decide +kernel
theorem dL_law_1731 : decode cL_law 1731 = .ok (.lcmp, 1) := by decide +kernel
theorem dL_law_1732 : decode cL_law 1732 = .ok (.ifCond .eq 5, 3) := by decide +kernel
theorem dL_law_1735 : decode cL_law 1735 = .ok (.iconst 0, 1) := by decide +kernel
theorem dL_law_1736 : decode cL_law 1736 = .ok (.ireturn, 1) := by decide +kernel
theorem dL_law_1737 : decode cL_law 1737 = .ok (.iinc 4 5, 3) := by decide +kernel
theorem dL_law_1740 : decode cL_law 1740 = .ok (.goto (-1717), 3) := by decide +kernel
theorem dL_law_1743 : decode cL_law 1743 = .ok (.iconst 1, 1) := by decide +kernel
theorem dL_law_1744 : decode cL_law 1744 = .ok (.ireturn, 1) := by decide +kernel
end
section
/-! ===== the pure heap: what each cell of the system holds, by its address; the kinds: 1 an object, 2 an array of ints, 3 of Objects, 4 of Devices, 5 of longs, 6 ArrayList's empty array ===== -/
abbrev Gt : Type := (Nat → Nat × Nat) × (Nat × Nat) × (Nat → Nat → Int32) × (Nat → Nat → Int64) × (Nat → Nat → Option Nat) × (Nat → Nat → Int32) × (Nat → Nat → Option Nat) × (Nat → Nat → Int64)
def gT (G : Gt) (a : Nat) : Nat × Nat := G.1 a
def gH (G : Gt) : Nat := G.2.1.1
def gU (G : Gt) : Nat := G.2.1.2
def gI (G : Gt) (f a : Nat) : Int32 := G.2.2.1 f a
def gJ (G : Gt) (f a : Nat) : Int64 := G.2.2.2.1 f a
def gR (G : Gt) (f a : Nat) : Option Nat := G.2.2.2.2.1 f a
def gA (G : Gt) (a : Nat) : Nat → Int32 := G.2.2.2.2.2.1 a
def gB (G : Gt) (a : Nat) : Nat → Option Nat := G.2.2.2.2.2.2.1 a
def gE (G : Gt) (a : Nat) : Nat → Int64 := G.2.2.2.2.2.2.2 a
def up2 {α : Type} (g : Nat → Nat → α) (f a : Nat) (x : α) : Nat → Nat → α := fun f' a' => if f' = f ∧ a' = a then x else g f' a'
def sI (G : Gt) (f a : Nat) (x : Int32) : Gt := (G.1, G.2.1, up2 G.2.2.1 f a x, G.2.2.2)
def sJ (G : Gt) (f a : Nat) (x : Int64) : Gt := (G.1, G.2.1, G.2.2.1, up2 G.2.2.2.1 f a x, G.2.2.2.2)
def sR (G : Gt) (f a : Nat) (x : Option Nat) : Gt := (G.1, G.2.1, G.2.2.1, G.2.2.2.1, up2 G.2.2.2.2.1 f a x, G.2.2.2.2.2)
def sA (G : Gt) (a : Nat) (g : Nat → Int32) : Gt := (G.1, G.2.1, G.2.2.1, G.2.2.2.1, G.2.2.2.2.1, va_up G.2.2.2.2.2.1 a g, G.2.2.2.2.2.2)
def sB (G : Gt) (a : Nat) (g : Nat → Option Nat) : Gt := (G.1, G.2.1, G.2.2.1, G.2.2.2.1, G.2.2.2.2.1, G.2.2.2.2.2.1, va_up G.2.2.2.2.2.2.1 a g, G.2.2.2.2.2.2.2)
def sE (G : Gt) (a : Nat) (g : Nat → Int64) : Gt := (G.1, G.2.1, G.2.2.1, G.2.2.2.1, G.2.2.2.2.1, G.2.2.2.2.2.1, G.2.2.2.2.2.2.1, va_up G.2.2.2.2.2.2.2 a g)
/-- a new object of class ci with n slots -/
def nO (G : Gt) (ci n : Nat) : Gt := (va_up G.1 (gH G) (1, ci), (gH G + 1, gU G + n), (fun f a => if a = gH G then 0 else G.2.2.1 f a), (fun f a => if a = gH G then 0 else G.2.2.2.1 f a), (fun f a => if a = gH G then none else G.2.2.2.2.1 f a), G.2.2.2.2.2)
/-- a new array -/
def nA (G : Gt) (n : Nat) : Gt := (va_up G.1 (gH G) (2, n), (gH G + 1, gU G + n), G.2.2.1, G.2.2.2.1, G.2.2.2.2.1, va_up G.2.2.2.2.2.1 (gH G) (fun _ => 0), G.2.2.2.2.2.2)
def nB (G : Gt) (k n : Nat) : Gt := (va_up G.1 (gH G) (k, n), (gH G + 1, gU G + n), G.2.2.1, G.2.2.2.1, G.2.2.2.2.1, G.2.2.2.2.2.1, va_up G.2.2.2.2.2.2.1 (gH G) (fun _ => none), G.2.2.2.2.2.2.2)
def nE (G : Gt) (n : Nat) : Gt := (va_up G.1 (gH G) (5, n), (gH G + 1, gU G + n), G.2.2.1, G.2.2.2.1, G.2.2.2.2.1, G.2.2.2.2.2.1, G.2.2.2.2.2.2.1, va_up G.2.2.2.2.2.2.2 (gH G) (fun _ => 0))
/-- cells of no kind: a thrown exception's -/
def nX (G : Gt) (h u : Nat) : Gt := (G.1, (h, u), G.2.2)
/-! the kinds of the fields: 0 int or boolean, 1 a reference, 2 long -/
def fkt : List (List Nat) := [[0, 1, 0], [1, 1], [1, 1, 1, 1, 1, 1, 1, 0, 0, 0, 0], [1, 1, 1, 0, 0, 0, 0], [1, 0], [1, 1], [1, 1, 0, 0, 0, 0], [1, 2, 0, 0, 0, 0, 0], [1, 0, 0], [0, 0, 0, 0, 0, 0, 1, 0, 0, 0, 0], [1, 1, 1], [1, 1, 0, 2, 0, 0, 0, 0, 0, 1, 0, 1, 1, 0, 0, 0, 1, 1, 0]]
def fkd (ci k : Nat) : Nat := (fkt.getD ci []).getD k 9
def fv (G : Gt) (ci a k : Nat) : Value := match fkd ci k with
  | 0 => .int (gI G (32 * ci + k) a)
  | 1 => va_rf (gR G (32 * ci + k) a)
  | 2 => .long (gJ G (32 * ci + k) a)
  | _ => .null
theorem fv_0 {G : Gt} {ci a k : Nat} (h : fkd ci k = 0) : fv G ci a k = .int (gI G (32 * ci + k) a) := by unfold fv; rw [h]; rfl
theorem fv_1 {G : Gt} {ci a k : Nat} (h : fkd ci k = 1) : fv G ci a k = va_rf (gR G (32 * ci + k) a) := by unfold fv; rw [h]; rfl
theorem fv_2 {G : Gt} {ci a k : Nat} (h : fkd ci k = 2) : fv G ci a k = .long (gJ G (32 * ci + k) a) := by unfold fv; rw [h]; rfl
theorem fv_same {G G' : Gt} {ci a k : Nat} (h0 : gI G' (32 * ci + k) a = gI G (32 * ci + k) a) (h1 : gR G' (32 * ci + k) a = gR G (32 * ci + k) a) (h2 : gJ G' (32 * ci + k) a = gJ G (32 * ci + k) a) : fv G' ci a k = fv G ci a k := by unfold fv; rw [h0, h1, h2]
/-! the claim's constants: class ids and slots; the ids of the array classes; the old heap and its size; the room; statics -/
abbrev Xt : Type := va_G × (ClassId × ClassId × ClassId × ClassId) × (Nat × Heap) × (Nat × Nat) × (Nat × Nat × Nat)
def xD (X : Xt) : va_G := X.1
def xI (X : Xt) : ClassId := X.2.1.1
def xO (X : Xt) : ClassId := X.2.1.2.1
def xV (X : Xt) : ClassId := X.2.1.2.2.1
def xJ (X : Xt) : ClassId := X.2.1.2.2.2
def xN (X : Xt) : Nat := X.2.2.1.1
def xH (X : Xt) : Heap := X.2.2.1.2
def xC (X : Xt) : Nat := X.2.2.2.1.1
def xS (X : Xt) : Nat := X.2.2.2.1.2
def xde (X : Xt) : Nat := X.2.2.2.2.1
def xs0 (X : Xt) : Nat := X.2.2.2.2.2.1
def xs1 (X : Xt) : Nat := X.2.2.2.2.2.2
def xA (X : Xt) : Nat → Prop := fun q => xN X ≤ q
def xT (X : Xt) : List (ClassId × FieldType) := [(xI X, .int), (xO X, .object "java/lang/Object"), (xV X, .object "RegisterGateway$Device"), (xJ X, .long)]
def hU (H : Heap) : Nat := H.foldl (fun n c => n + c.slots.size) 0
def hE (X : Xt) (G : Gt) (H : Heap) (a : Nat) : Prop := match gT G a with
  | (1, ci) => xN X ≤ a ∧ ∃ r : vw_C, vwCl[ci]? = some r ∧ t_OB a ((xD X).1 ci) r.2.2 ((xD X).2 ci) H (fv G ci a)
  | (2, n) => xN X ≤ a ∧ H[a]? = some (arrV (xI X) n (fun j => .int (gA G a j)))
  | (3, n) => xN X ≤ a ∧ H[a]? = some (arrV (xO X) n (fun j => va_rf (gB G a j)))
  | (4, n) => xN X ≤ a ∧ H[a]? = some (arrV (xV X) n (fun j => va_rf (gB G a j)))
  | (5, n) => xN X ≤ a ∧ H[a]? = some (arrV (xJ X) n (fun j => .long (gE G a j)))
  | (6, n) => a = xde X ∧ n = 0
  | _ => True
theorem hE_1 {X : Xt} {G : Gt} {H : Heap} {a ci : Nat} (h : gT G a = (1, ci)) (q : hE X G H a) : xN X ≤ a ∧ ∃ r : vw_C, vwCl[ci]? = some r ∧ t_OB a ((xD X).1 ci) r.2.2 ((xD X).2 ci) H (fv G ci a) := by unfold hE at q; rw [h] at q; exact q
theorem hE_2 {X : Xt} {G : Gt} {H : Heap} {a n : Nat} (h : gT G a = (2, n)) (q : hE X G H a) : xN X ≤ a ∧ H[a]? = some (arrV (xI X) n (fun j => .int (gA G a j))) := by unfold hE at q; rw [h] at q; exact q
theorem hE_3 {X : Xt} {G : Gt} {H : Heap} {a n : Nat} (h : gT G a = (3, n)) (q : hE X G H a) : xN X ≤ a ∧ H[a]? = some (arrV (xO X) n (fun j => va_rf (gB G a j))) := by unfold hE at q; rw [h] at q; exact q
theorem hE_4 {X : Xt} {G : Gt} {H : Heap} {a n : Nat} (h : gT G a = (4, n)) (q : hE X G H a) : xN X ≤ a ∧ H[a]? = some (arrV (xV X) n (fun j => va_rf (gB G a j))) := by unfold hE at q; rw [h] at q; exact q
theorem hE_5 {X : Xt} {G : Gt} {H : Heap} {a n : Nat} (h : gT G a = (5, n)) (q : hE X G H a) : xN X ≤ a ∧ H[a]? = some (arrV (xJ X) n (fun j => .long (gE G a j))) := by unfold hE at q; rw [h] at q; exact q
theorem hE_6 {X : Xt} {G : Gt} {H : Heap} {a n : Nat} (h : gT G a = (6, n)) (q : hE X G H a) : a = xde X ∧ n = 0 := by unfold hE at q; rw [h] at q; exact q
theorem hE_keep {X : Xt} {G G' : Gt} {H H' : Heap} {b : Nat} (q : hE X G H b) (hT : gT G' b = gT G b) (hc : ∀ ci k, fv G' ci b k = fv G ci b k) (hA : gA G' b = gA G b) (hB : gB G' b = gB G b) (hL : gE G' b = gE G b) (hh : b < H.size → H'[b]? = H[b]?) : hE X G' H' b := by
  unfold hE at q ⊢
  rw [hT, hA, hB, hL]
  cases hg : gT G b with
  | mk k n =>
    rw [hg] at q
    match k with
    | 0 => trivial
    | 1 =>
      obtain ⟨h1, r, h2, h3⟩ := q
      have hlt : b < H.size := by obtain ⟨cell, h4, -⟩ := h3; exact (Array.getElem?_eq_some_iff.mp h4).1
      exact ⟨h1, r, h2, (h3.kept (hh hlt)).to (fun j _ => (hc n j).symm)⟩
    | 2 => exact ⟨q.1, (hh (Array.getElem?_eq_some_iff.mp q.2).1).trans q.2⟩
    | 3 => exact ⟨q.1, (hh (Array.getElem?_eq_some_iff.mp q.2).1).trans q.2⟩
    | 4 => exact ⟨q.1, (hh (Array.getElem?_eq_some_iff.mp q.2).1).trans q.2⟩
    | 5 => exact ⟨q.1, (hh (Array.getElem?_eq_some_iff.mp q.2).1).trans q.2⟩
    | 6 => exact q
    | k + 7 => trivial
theorem hU_sum (H : Heap) : hU H = (H.toList.map (fun c : Cell => c.slots.size)).sum := by
  unfold hU
  rw [← Array.foldl_toList]
  have h : ∀ (l : List Cell) (n : Nat), l.foldl (fun n c => n + c.slots.size) n = n + (l.map (fun c : Cell => c.slots.size)).sum := by
    intro l
    induction l with
    | nil => intro n; simp
    | cons c l ih => intro n; rw [List.foldl_cons, ih, List.map_cons, List.sum_cons]; omega
  rw [h]; omega
theorem hU_same {H H' : Heap} (hz : H'.size = H.size) (h : ∀ q : Nat, q < H.size → (H'[q]?).map (fun c : Cell => c.slots.size) = (H[q]?).map (fun c : Cell => c.slots.size)) : hU H' = hU H := by
  rw [hU_sum, hU_sum]
  congr 1
  apply List.ext_getElem?
  intro i
  rw [List.getElem?_map, List.getElem?_map, Array.getElem?_toList, Array.getElem?_toList]
  by_cases hi : i < H.size
  · exact h i hi
  · rw [Array.getElem?_eq_none (by omega), Array.getElem?_eq_none (by omega)]
theorem hU_put {H H' : Heap} {a : Nat} {c c' : Cell} (hz : H'.size = H.size) (hc : H[a]? = some c) (hc' : H'[a]? = some c') (hs : c'.slots.size = c.slots.size) (ho : ∀ q, q ≠ a → H'[q]? = H[q]?) : hU H' = hU H := by
  apply hU_same hz
  intro q _
  by_cases e : q = a
  · subst e
    rw [hc, hc', Option.map_some, Option.map_some, hs]
  · rw [ho q e]
theorem hU_push {H H' : Heap} {h : Nat} {c : Cell} (hh : H.size = h) (hz : H'.size = h + 1) (hc : H'[h]? = some c) (ho : ∀ q, q < h → H'[q]? = H[q]?) : hU H' = hU H + c.slots.size := by
  have e : H' = H.push c := by
    apply Array.ext_getElem?
    intro i
    rw [Array.getElem?_push]
    by_cases e1 : i = H.size
    · rw [if_pos e1, e1, hh, hc]
    · rw [if_neg e1]
      by_cases e2 : i < H.size
      · exact ho i (by omega)
      · rw [Array.getElem?_eq_none (by omega), Array.getElem?_eq_none (by omega)]
  rw [e, hU_sum, hU_sum, Array.toList_push, List.map_append, List.sum_append]
  simp
/-- the heap holds the picture -/
def hC (X : Xt) (G : Gt) (H : Heap) : Prop := (∀ a, hE X G H a) ∧ H.size = gH G ∧ hU H = gU G ∧ (∀ q : Nat, q < xN X → H[q]? = (xH X)[q]?) ∧ xN X ≤ gH G ∧ gH G ≤ xC X ∧ gU G ≤ xS X
/-- G' differs from G at the cell a alone, in what it holds -/
def gCh (a : Nat) (G G' : Gt) : Prop := (∀ b, gT G' b = gT G b) ∧ gH G' = gH G ∧ gU G' = gU G ∧ ∀ b, b ≠ a → (∀ ci k, fv G' ci b k = fv G ci b k) ∧ gA G' b = gA G b ∧ gB G' b = gB G b ∧ gE G' b = gE G b
theorem hC_put {X : Xt} {G G' : Gt} {H H' : Heap} {a : Nat} {c c' : Cell} (h : hC X G H) (hg : gCh a G G') (hN : xN X ≤ a) (hc : H[a]? = some c) (hc' : H'[a]? = some c') (hs : c'.slots.size = c.slots.size) (hz : H'.size = H.size) (ho : ∀ q, q ≠ a → H'[q]? = H[q]?) (he : hE X G' H' a) : hC X G' H' := by
  obtain ⟨h1, h2, h3, h4, h5⟩ := h
  obtain ⟨g1, g2, g3, g4⟩ := hg
  refine ⟨fun b => ?_, by rw [hz, h2, g2], by rw [hU_put hz hc hc' hs ho, h3, g3], fun q hq => by rw [ho q (by omega)]; exact h4 q hq, by rw [g2, g3]; exact h5⟩
  by_cases e : b = a
  · rw [e]; exact he
  · obtain ⟨k1, k2, k3, k4⟩ := g4 b e
    exact hE_keep (h1 b) (g1 b) k1 k2 k3 k4 (fun _ => ho b e)
theorem hC_new {X : Xt} {G G' : Gt} {H H' : Heap} {c : Cell} {n : Nat} (h : hC X G H) (hn : c.slots.size = n) (hT : ∀ b, b ≠ gH G → gT G' b = gT G b) (hh : gH G' = gH G + 1) (hu : gU G' = gU G + n) (hr : gH G + 1 ≤ xC X) (hs : gU G + n ≤ xS X)
    (hk : ∀ b, b ≠ gH G → (∀ ci k, fv G' ci b k = fv G ci b k) ∧ gA G' b = gA G b ∧ gB G' b = gB G b ∧ gE G' b = gE G b) (hz : H'.size = H.size + 1) (hc : H'[H.size]? = some c) (ho : ∀ q, q < H.size → H'[q]? = H[q]?) (he : hE X G' H' (gH G)) : hC X G' H' := by
  obtain ⟨h1, h2, h3, h4, h5, h6, h7⟩ := h
  refine ⟨fun b => ?_, by rw [hz, h2, hh], by rw [hU_push rfl hz hc ho, h3, hu, hn], fun q hq => by rw [ho q (by omega)]; exact h4 q hq, by omega, by omega, by omega⟩
  by_cases e : b = gH G
  · rw [e]; exact he
  · obtain ⟨k1, k2, k3, k4⟩ := hk b e
    exact hE_keep (h1 b) (hT b e) k1 k2 k3 k4 (fun q => ho b q)
theorem up2_ne {α : Type} {g : Nat → Nat → α} {f a f' a' : Nat} {x : α} (h : ¬ (f' = f ∧ a' = a)) : up2 g f a x f' a' = g f' a' := by unfold up2; rw [if_neg h]
theorem up2_eq {α : Type} {g : Nat → Nat → α} {f a : Nat} {x : α} : up2 g f a x f a = x := by unfold up2; rw [if_pos ⟨rfl, rfl⟩]
theorem gCh_I {G : Gt} {f a : Nat} {x : Int32} : gCh a G (sI G f a x) := ⟨fun _ => rfl, rfl, rfl, fun b hb => ⟨fun ci k => fv_same (up2_ne (fun h => hb h.2)) rfl rfl, rfl, rfl, rfl⟩⟩
theorem gCh_J {G : Gt} {f a : Nat} {x : Int64} : gCh a G (sJ G f a x) := ⟨fun _ => rfl, rfl, rfl, fun b hb => ⟨fun ci k => fv_same rfl rfl (up2_ne (fun h => hb h.2)), rfl, rfl, rfl⟩⟩
theorem gCh_R {G : Gt} {f a : Nat} {x : Option Nat} : gCh a G (sR G f a x) := ⟨fun _ => rfl, rfl, rfl, fun b hb => ⟨fun ci k => fv_same rfl (up2_ne (fun h => hb h.2)) rfl, rfl, rfl, rfl⟩⟩
theorem gCh_A {G : Gt} {a : Nat} {g : Nat → Int32} : gCh a G (sA G a g) := ⟨fun _ => rfl, rfl, rfl, fun b hb => ⟨fun ci k => fv_same rfl rfl rfl, va_up_ne _ _ hb, rfl, rfl⟩⟩
theorem gCh_B {G : Gt} {a : Nat} {g : Nat → Option Nat} : gCh a G (sB G a g) := ⟨fun _ => rfl, rfl, rfl, fun b hb => ⟨fun ci k => fv_same rfl rfl rfl, rfl, va_up_ne _ _ hb, rfl⟩⟩
theorem gCh_E {G : Gt} {a : Nat} {g : Nat → Int64} : gCh a G (sE G a g) := ⟨fun _ => rfl, rfl, rfl, fun b hb => ⟨fun ci k => fv_same rfl rfl rfl, rfl, rfl, va_up_ne _ _ hb⟩⟩
end
section
/-! ===== the machine over the pure heap ===== -/
abbrev Kt : Type := Program × Launch × Env × Room × State × MethodId × Array Value × List Frame × Method × Code
def kP (K : Kt) : Program := K.1
def kL (K : Kt) : Launch := K.2.1
def kE (K : Kt) : Env := K.2.2.1
def kR (K : Kt) : Room := K.2.2.2.1
def kS (K : Kt) : State := K.2.2.2.2.1
def kM (K : Kt) : MethodId := K.2.2.2.2.2.1
def kA (K : Kt) : Array Value := K.2.2.2.2.2.2.1
def kB (K : Kt) : List Frame := K.2.2.2.2.2.2.2.1
def kT (K : Kt) : Method := K.2.2.2.2.2.2.2.2.1
def kC (K : Kt) : Code := K.2.2.2.2.2.2.2.2.2
def kW (K : Kt) (H : Heap) (locs : List Loc) (cells slots : Nat) (Q : State → Prop) (g : JFrame) : Prop := W (kP K) (kL K) (kE K) (kR K) (kS K) (kM K) (kA K) (kB K) (kT K) (kC K) H locs cells slots Q g
def kV (K : Kt) (H : Heap) (locs : List Loc) (cells slots : Nat) (Q : State → Prop) (g : JFrame) (q : Addr) : Prop := vx_W (kP K) (kL K) (kE K) (kR K) (kS K) (kM K) (kA K) (kB K) (kT K) (kC K) H locs cells slots Q g q
def gtbl : List Cond := lw_tbl.filter goodWord
theorem gm {w : Cond} (i : Nat) (h : lw_tbl[i]? = some w) (hg : goodWord w = true) : w ∈ gtbl := List.mem_filter.mpr ⟨List.mem_of_getElem? h, hg⟩
theorem gtbl_good {w : Cond} (h : w ∈ gtbl) : goodWord w = true := (List.mem_filter.mp h).2
def nkw (w : Cond) : Bool := match w with
  | .castable .. => true
  | .methodLinkNest .. => true
  | _ => false
theorem nkw_warm {w : Cond} {s U : State} (hw : nkw w = true) (hW : s.WarmedH U.vm) (h : va_Nw w s) : va_Nw w U := by
  cases w <;> first | exact va_Nw.warmC hW h | exact va_Nw.warmM hW h | (simp [nkw] at hw)
def lst0 (j : Nat) : Int32 := ([0, 1, 0, 0, 0] : List Int32).getD j 0
def lst1 (j : Nat) : Int32 := ([10000, 1000, 3, 1000, 1] : List Int32).getD j 0
/-- what the tables and the old heap say, and what stays so -/
def KF (X : Xt) (U : State) : Prop := va_K (xD X) vwCl (xT X) U ∧ (∀ w ∈ lw_tbl, nkw w = true → va_Nw w U) ∧ (∀ (own : String) (k : Nat) (tx : String), Cond.stringRef own k tx ∈ lw_tbl → ∃ sa, vk_R own k tx sa U) ∧ (va_AO "java/lang/Object" U ∧ va_AO "RegisterGateway$Device" U) ∧
  (va_Z RJx4a65c "DEFAULTCAPACITY_EMPTY_ELEMENTDATA" "[Ljava/lang/Object;" (.ref (xde X)) (xA X) U (xH X) ∧ va_T (.object "java/lang/Object") (xde X) 0 (fun _ => .null) (xA X) U (xH X)) ∧
  (va_Z RX9 "LEAST_SETTING" "[I" (.ref (xs0 X)) (xA X) U (xH X) ∧ va_T .int (xs0 X) 5 (fun j => .int (lst0 j)) (xA X) U (xH X)) ∧ (va_Z RX9 "GREATEST_SETTING" "[I" (.ref (xs1 X)) (xA X) U (xH X) ∧ va_T .int (xs1 X) 5 (fun j => .int (lst1 j)) (xA X) U (xH X)) ∧
  (vx_Zq Bundle.tN "UNASSIGNED_STACK" Bundle.steD (xA X) U (xH X) ∧ vx_Zq Bundle.tN "SUPPRESSED_SENTINEL" Bundle.listD (xA X) U (xH X)) ∧ ((∃ mi, va_Mi "[Ljava/lang/Object;" mi U) ∧ va_Dc U) ∧
  (va_Nc "java/lang/IllegalArgumentException" "java/lang/IndexOutOfBoundsException" U ∧ va_Nc "java/lang/IllegalStateException" "java/lang/IndexOutOfBoundsException" U ∧ va_Nc "java/lang/IllegalStateException" "java/lang/IllegalArgumentException" U) ∧ xN X = (xH X).size
theorem KF.warm {X : Xt} {s U : State} (hW : s.WarmedH U.vm) (h : KF X s) : KF X U := by
  obtain ⟨h1, h2, h3, ⟨h4, h5⟩, ⟨h6, h7⟩, ⟨h8, h9⟩, ⟨h10, h11⟩, ⟨h12, h13⟩, ⟨⟨mi, h14⟩, h15⟩, ⟨h16, h17, h18⟩, h19⟩ := h
  have v := hW.alike
  exact ⟨va_K.moved v h1, fun w hw hn => nkw_warm hn hW (h2 w hw hn), fun own k tx hm => by obtain ⟨sa, q⟩ := h3 own k tx hm; exact ⟨sa, vk_R.warm hW q⟩, ⟨va_AO.moved v h4, va_AO.moved v h5⟩, ⟨va_Z.moved v h6, va_T.moved v h7⟩, ⟨va_Z.moved v h8, va_T.moved v h9⟩, ⟨va_Z.moved v h10, va_T.moved v h11⟩, ⟨vx_Zq.moved v h12, vx_Zq.moved v h13⟩, ⟨⟨mi, va_Mi.moved v h14⟩, va_Dc.moved v h15⟩, ⟨va_Nc.moved v h16, va_Nc.moved v h17, va_Nc.moved v h18⟩, h19⟩
/-- a method's body: the machine, its code, the words, the room -/
def Cx (X : Xt) (K : Kt) (cc : ByteArray) (nL : Nat) (own : String) (fr lo : Nat) : Prop :=
  (kP K).tables.exec = Jvm.exec ∧ (kC K).code = cc ∧ (kC K).maxLocals = nL ∧ (kS K).vm.findClass own = some (kM K).cls ∧ (∀ w ∈ gtbl, w.before (kA K) (kS K) = true) ∧ KF X (kS K) ∧ (kT K).locks = false ∧ (kL K).stackTraces = false ∧
  (kR K).frames = fr ∧ (kR K).locals = lo ∧ (kR K).cells = xC X - (kS K).heap.size ∧ (kR K).slots = xS X - hU (kS K).heap
/-! locals as a list -/
def lvp : Nat → List (Option Value) → List (Nat × Value)
  | _, [] => []
  | i, none :: r => lvp (i + 1) r
  | i, some v :: r => (i, v) :: lvp (i + 1) r
def lh (ls : Array Slot) (lv : List (Option Value)) : Prop := lv_has ls lv.length (lvp 0 lv)
theorem lvp_mem : ∀ (lv : List (Option Value)) (k : Nat) (q : Nat × Value), q ∈ lvp k lv ↔ k ≤ q.1 ∧ lv[q.1 - k]? = some (some q.2) := by
  intro lv
  induction lv with
  | nil => intro k q; simp [lvp]
  | cons o r ih =>
    intro k q
    cases o with
    | none =>
      show q ∈ lvp (k + 1) r ↔ _
      rw [ih]
      constructor
      · intro h
        refine ⟨by omega, ?_⟩
        rw [show q.1 - k = (q.1 - (k + 1)) + 1 by omega, List.getElem?_cons_succ]
        exact h.2
      · intro h
        by_cases e : q.1 = k
        · rw [e, Nat.sub_self] at h; simp at h
        · refine ⟨by omega, ?_⟩
          have h2 := h.2
          rw [show q.1 - k = (q.1 - (k + 1)) + 1 by omega, List.getElem?_cons_succ] at h2
          exact h2
    | some v =>
      show q ∈ (k, v) :: lvp (k + 1) r ↔ _
      rw [List.mem_cons, ih]
      constructor
      · intro h
        rcases h with h | h
        · rw [h]; simp
        · refine ⟨by omega, ?_⟩
          rw [show q.1 - k = (q.1 - (k + 1)) + 1 by omega, List.getElem?_cons_succ]
          exact h.2
      · intro h
        by_cases e : q.1 = k
        · left
          have h2 := h.2
          rw [e, Nat.sub_self, List.getElem?_cons_zero] at h2
          have h3 : v = q.2 := Option.some.inj (Option.some.inj h2)
          rw [h3, ← e]
        · right
          refine ⟨by omega, ?_⟩
          have h2 := h.2
          rw [show q.1 - k = (q.1 - (k + 1)) + 1 by omega, List.getElem?_cons_succ] at h2
          exact h2
theorem lh_at {ls : Array Slot} {lv : List (Option Value)} (h : lh ls lv) {i : Nat} {v : Value} (hi : lv[i]? = some (some v)) : ls[i]? = some (.val v) := h.2.2 (i, v) ((lvp_mem lv 0 (i, v)).mpr ⟨Nat.zero_le _, hi⟩)
/-- no value of two words right before place i -/
def ok1 (lv : List (Option Value)) (i : Nat) : Bool := match i with
  | 0 => true
  | j + 1 => match lv[j]? with
    | some (some (.long _)) => false
    | some (some (.double _)) => false
    | _ => true
theorem ok1_cat {lv : List (Option Value)} {i j : Nat} {w : Value} (h : ok1 lv i = true) (hj : j + 1 = i) (hw : lv[j]? = some (some w)) : ¬ w.category = 2 := by
  subst hj
  intro hc
  cases w <;> first | (simp [Value.category] at hc; done) | (simp [ok1, hw] at h; done)
theorem lh_set1 {ls : Array Slot} {lv : List (Option Value)} {i : Nat} {v : Value} (h : lv_has ls lv.length ((i, v) :: (lvp 0 lv).filter (fun q => !(q.1 == i) && !(q.1 + 1 == i && q.2.category == 2)))) (ho : ok1 lv i = true) : lh ls (lv.set i (some v)) := by
  obtain ⟨h1, h2, h3⟩ := h
  refine ⟨by rw [List.length_set]; exact h1, h2, fun q hq => h3 q ?_⟩
  have hq2 := ((lvp_mem _ 0 q).mp hq).2
  rw [Nat.sub_zero] at hq2
  rw [List.mem_cons]
  by_cases e : q.1 = i
  · left
    by_cases hl : i < lv.length
    · rw [e, List.getElem?_set_self hl] at hq2
      have h4 : v = q.2 := Option.some.inj (Option.some.inj hq2)
      rw [h4, ← e]
    · rw [e, List.getElem?_eq_none (by rw [List.length_set]; omega)] at hq2; cases hq2
  · right
    rw [List.getElem?_set_ne (fun z => e z.symm)] at hq2
    refine List.mem_filter.mpr ⟨(lvp_mem lv 0 q).mpr ⟨Nat.zero_le _, hq2⟩, ?_⟩
    have e1 : (q.1 == i) = false := by simp [e]
    rw [e1]
    by_cases e2 : q.1 + 1 = i
    · have := ok1_cat ho e2 hq2
      simp [this]
    · have e3 : (q.1 + 1 == i) = false := by simp [e2]
      rw [e3]; rfl
theorem lh_set2 {ls : Array Slot} {lv : List (Option Value)} {i : Nat} {v : Value} (h : lv_has ls lv.length ((i, v) :: (lvp 0 lv).filter (fun q => !(q.1 == i) && (!(q.1 == i + 1) && !(q.1 + 1 == i && q.2.category == 2))))) (ho : ok1 lv i = true) : lh ls ((lv.set i (some v)).set (i + 1) none) := by
  obtain ⟨h1, h2, h3⟩ := h
  refine ⟨by rw [List.length_set, List.length_set]; exact h1, h2, fun q hq => h3 q ?_⟩
  have hq2 := ((lvp_mem _ 0 q).mp hq).2
  rw [Nat.sub_zero] at hq2
  have e0 : q.1 ≠ i + 1 := by
    intro e
    rw [e] at hq2
    by_cases hl : i + 1 < lv.length
    · rw [List.getElem?_set_self (by rw [List.length_set]; exact hl)] at hq2; cases hq2
    · rw [List.getElem?_eq_none (by rw [List.length_set, List.length_set]; omega)] at hq2; cases hq2
  rw [List.getElem?_set_ne (fun z => e0 z.symm)] at hq2
  rw [List.mem_cons]
  by_cases e : q.1 = i
  · left
    by_cases hl : i < lv.length
    · rw [e, List.getElem?_set_self hl] at hq2
      have h4 : v = q.2 := Option.some.inj (Option.some.inj hq2)
      rw [h4, ← e]
    · rw [e, List.getElem?_eq_none (by rw [List.length_set]; omega)] at hq2; cases hq2
  · right
    rw [List.getElem?_set_ne (fun z => e z.symm)] at hq2
    refine List.mem_filter.mpr ⟨(lvp_mem lv 0 q).mpr ⟨Nat.zero_le _, hq2⟩, ?_⟩
    have e1 : (q.1 == i) = false := by simp [e]
    have e4 : (q.1 == i + 1) = false := by simp [e0]
    rw [e1, e4]
    by_cases e2 : q.1 + 1 = i
    · have := ok1_cat ho e2 hq2
      simp [this]
    · have e3 : (q.1 + 1 == i) = false := by simp [e2]
      rw [e3]; rfl
/-- what stands at a place of a list, by reduction -/
theorem lh_forget {ls : Array Slot} {lv lv' : List (Option Value)} (h : lh ls lv) (hl : lv'.length = lv.length) (hs : ∀ (i : Nat) (v : Value), lv'[i]? = some (some v) → lv[i]? = some (some v)) : lh ls lv' := by
  refine ⟨by rw [hl]; exact h.1, h.2.1, fun q hq => ?_⟩
  have hq2 := ((lvp_mem _ 0 q).mp hq).2
  rw [Nat.sub_zero] at hq2
  exact lh_at h (hs _ _ hq2)
/-- the machine at pc, over the picture G -/
def hM (X : Xt) (K : Kt) (G : Gt) (H : Heap) (locs : List Loc) : Prop := hC X G H ∧ (∀ q ∈ locs, xN X ≤ q.base) ∧ (kS K).heap.size ≤ gH G ∧ hU (kS K).heap ≤ gU G
def WM (X : Xt) (K : Kt) (Q : State → Prop) (G : Gt) (pc : Nat) (lv : List (Option Value)) (st : List Value) : Prop :=
  ∀ (H : Heap) (locs : List Loc) (ls : Array Slot), hM X K G H locs → lh ls lv → kW K H locs (gH G - (kS K).heap.size) (gU G - hU (kS K).heap) Q (F0 (kM K) pc ls st)
section ROWS
variable {X : Xt} {K : Kt} {Q : State → Prop} {G : Gt} {pc : Nat} {lv : List (Option Value)} {st : List Value} {cc : ByteArray} {nL : Nat} {own : String} {fr lo : Nat}
theorem r_iadd (C : Cx X K cc nL own fr lo) {x y : Int32} (hd : decode cc pc = .ok (.iadd, 1)) (k : WM X K Q G (pc + 1) lv (.int (x + y) :: st)) : WM X K Q G pc lv (.int y :: .int x :: st) := fun H locs ls h hl => lv_iadd C.1 C.2.1 hd (k H locs ls h hl)
theorem r_isub (C : Cx X K cc nL own fr lo) {x y : Int32} (hd : decode cc pc = .ok (.isub, 1)) (k : WM X K Q G (pc + 1) lv (.int (x - y) :: st)) : WM X K Q G pc lv (.int y :: .int x :: st) := fun H locs ls h hl => lv_isub C.1 C.2.1 hd (k H locs ls h hl)
theorem r_imul (C : Cx X K cc nL own fr lo) {x y : Int32} (hd : decode cc pc = .ok (.imul, 1)) (k : WM X K Q G (pc + 1) lv (.int (x * y) :: st)) : WM X K Q G pc lv (.int y :: .int x :: st) := fun H locs ls h hl => lv_imul C.1 C.2.1 hd (k H locs ls h hl)
theorem r_iand (C : Cx X K cc nL own fr lo) {x y : Int32} (hd : decode cc pc = .ok (.iand, 1)) (k : WM X K Q G (pc + 1) lv (.int (x &&& y) :: st)) : WM X K Q G pc lv (.int y :: .int x :: st) := fun H locs ls h hl => lv_iand C.1 C.2.1 hd (k H locs ls h hl)
theorem r_ior (C : Cx X K cc nL own fr lo) {x y : Int32} (hd : decode cc pc = .ok (.ior, 1)) (k : WM X K Q G (pc + 1) lv (.int (x ||| y) :: st)) : WM X K Q G pc lv (.int y :: .int x :: st) := fun H locs ls h hl => lv_ior C.1 C.2.1 hd (k H locs ls h hl)
theorem r_ixor (C : Cx X K cc nL own fr lo) {x y : Int32} (hd : decode cc pc = .ok (.ixor, 1)) (k : WM X K Q G (pc + 1) lv (.int (x ^^^ y) :: st)) : WM X K Q G pc lv (.int y :: .int x :: st) := fun H locs ls h hl => lv_ixor C.1 C.2.1 hd (k H locs ls h hl)
theorem r_ladd (C : Cx X K cc nL own fr lo) {x y : Int64} (hd : decode cc pc = .ok (.ladd, 1)) (k : WM X K Q G (pc + 1) lv (.long (x + y) :: st)) : WM X K Q G pc lv (.long y :: .long x :: st) := fun H locs ls h hl => lv_ladd C.1 C.2.1 hd (k H locs ls h hl)
theorem r_lsub (C : Cx X K cc nL own fr lo) {x y : Int64} (hd : decode cc pc = .ok (.lsub, 1)) (k : WM X K Q G (pc + 1) lv (.long (x - y) :: st)) : WM X K Q G pc lv (.long y :: .long x :: st) := fun H locs ls h hl => lv_lsub C.1 C.2.1 hd (k H locs ls h hl)
theorem r_lmul (C : Cx X K cc nL own fr lo) {x y : Int64} (hd : decode cc pc = .ok (.lmul, 1)) (k : WM X K Q G (pc + 1) lv (.long (x * y) :: st)) : WM X K Q G pc lv (.long y :: .long x :: st) := fun H locs ls h hl => lv_lmul C.1 C.2.1 hd (k H locs ls h hl)
theorem r_land (C : Cx X K cc nL own fr lo) {x y : Int64} (hd : decode cc pc = .ok (.land, 1)) (k : WM X K Q G (pc + 1) lv (.long (x &&& y) :: st)) : WM X K Q G pc lv (.long y :: .long x :: st) := fun H locs ls h hl => lv_land C.1 C.2.1 hd (k H locs ls h hl)
theorem r_lor (C : Cx X K cc nL own fr lo) {x y : Int64} (hd : decode cc pc = .ok (.lor, 1)) (k : WM X K Q G (pc + 1) lv (.long (x ||| y) :: st)) : WM X K Q G pc lv (.long y :: .long x :: st) := fun H locs ls h hl => lv_lor C.1 C.2.1 hd (k H locs ls h hl)
theorem r_irem (C : Cx X K cc nL own fr lo) {x y : Int32} (hd : decode cc pc = .ok (.irem, 1)) (hne : ¬ y = 0) (k : WM X K Q G (pc + 1) lv (.int (x - x / y * y) :: st)) : WM X K Q G pc lv (.int y :: .int x :: st) := fun H locs ls h hl => lv_irem C.1 C.2.1 hd hne (k H locs ls h hl)
theorem r_idiv (C : Cx X K cc nL own fr lo) {x y : Int32} (hd : decode cc pc = .ok (.idiv, 1)) (hne : ¬ y = 0) (k : WM X K Q G (pc + 1) lv (.int (x / y) :: st)) : WM X K Q G pc lv (.int y :: .int x :: st) := fun H locs ls h hl => lv_idiv C.1 C.2.1 hd hne (k H locs ls h hl)
theorem r_ishl (C : Cx X K cc nL own fr lo) {x y : Int32} (hd : decode cc pc = .ok (.ishl, 1)) (k : WM X K Q G (pc + 1) lv (.int (x <<< (y &&& 31)) :: st)) : WM X K Q G pc lv (.int y :: .int x :: st) := fun H locs ls h hl => lv_ishl C.1 C.2.1 hd (k H locs ls h hl)
theorem r_ishr (C : Cx X K cc nL own fr lo) {x y : Int32} (hd : decode cc pc = .ok (.ishr, 1)) (k : WM X K Q G (pc + 1) lv (.int (x >>> (y &&& 31)) :: st)) : WM X K Q G pc lv (.int y :: .int x :: st) := fun H locs ls h hl => lv_ishr C.1 C.2.1 hd (k H locs ls h hl)
theorem r_iushr (C : Cx X K cc nL own fr lo) {x y : Int32} (hd : decode cc pc = .ok (.iushr, 1)) (k : WM X K Q G (pc + 1) lv (.int ((x.toUInt32 >>> (y.toUInt32 &&& Int32.toUInt32 31)).toInt32) :: st)) : WM X K Q G pc lv (.int y :: .int x :: st) := fun H locs ls h hl => lv_iushr C.1 C.2.1 hd rfl (k H locs ls h hl)
theorem r_lushr (C : Cx X K cc nL own fr lo) {x : Int64} {y : Int32} (hd : decode cc pc = .ok (.lushr, 1)) (k : WM X K Q G (pc + 1) lv (.long ((x.toUInt64 >>> (y.toInt64.toUInt64 &&& Int64.toUInt64 63)).toInt64) :: st)) : WM X K Q G pc lv (.int y :: .long x :: st) := fun H locs ls h hl => lv_lushr C.1 C.2.1 hd rfl (k H locs ls h hl)
theorem r_lshl (C : Cx X K cc nL own fr lo) {x : Int64} {y : Int32} (hd : decode cc pc = .ok (.lshl, 1)) (k : WM X K Q G (pc + 1) lv (.long (x <<< (y.toInt64 &&& 63)) :: st)) : WM X K Q G pc lv (.int y :: .long x :: st) := fun H locs ls h hl => lv_lshl C.1 C.2.1 hd rfl (k H locs ls h hl)
theorem r_lshr (C : Cx X K cc nL own fr lo) {x : Int64} {y : Int32} (hd : decode cc pc = .ok (.lshr, 1)) (k : WM X K Q G (pc + 1) lv (.long (x >>> (y.toInt64 &&& 63)) :: st)) : WM X K Q G pc lv (.int y :: .long x :: st) := fun H locs ls h hl => lv_lshr C.1 C.2.1 hd rfl (k H locs ls h hl)
theorem r_i2l (C : Cx X K cc nL own fr lo) {x : Int32} (hd : decode cc pc = .ok (.i2l, 1)) (k : WM X K Q G (pc + 1) lv (.long x.toInt64 :: st)) : WM X K Q G pc lv (.int x :: st) := fun H locs ls h hl => lv_i2l C.1 C.2.1 hd rfl (k H locs ls h hl)
theorem r_l2i (C : Cx X K cc nL own fr lo) {x : Int64} (hd : decode cc pc = .ok (.l2i, 1)) (k : WM X K Q G (pc + 1) lv (.int x.toInt32 :: st)) : WM X K Q G pc lv (.long x :: st) := fun H locs ls h hl => lv_l2i C.1 C.2.1 hd rfl (k H locs ls h hl)
theorem r_lcmp (C : Cx X K cc nL own fr lo) {x y : Int64} (hd : decode cc pc = .ok (.lcmp, 1)) (k : WM X K Q G (pc + 1) lv (.int (lg_cmp x y) :: st)) : WM X K Q G pc lv (.long y :: .long x :: st) := fun H locs ls h hl => W.lcmp C.1 C.2.1 hd (k H locs ls h hl)
theorem r_dup (C : Cx X K cc nL own fr lo) {v : Value} (hd : decode cc pc = .ok (.dup, 1)) (h1 : v.category = 1) (k : WM X K Q G (pc + 1) lv (v :: v :: st)) : WM X K Q G pc lv (v :: st) := fun H locs ls h hl => lv_dup C.1 C.2.1 hd h1 (k H locs ls h hl)
theorem r_dup_x1 (C : Cx X K cc nL own fr lo) {v u : Value} (hd : decode cc pc = .ok (.dup_x1, 1)) (h1 : v.category = 1) (h2 : u.category = 1) (k : WM X K Q G (pc + 1) lv (v :: u :: v :: st)) : WM X K Q G pc lv (v :: u :: st) := fun H locs ls h hl => lv_dup_x1 C.1 C.2.1 hd h1 h2 (k H locs ls h hl)
theorem r_dup2 (C : Cx X K cc nL own fr lo) {v u : Value} (hd : decode cc pc = .ok (.dup2, 1)) (h1 : v.category = 1) (h2 : u.category = 1) (k : WM X K Q G (pc + 1) lv (v :: u :: v :: u :: st)) : WM X K Q G pc lv (v :: u :: st) := fun H locs ls h hl => lv_dup2_11 C.1 C.2.1 hd h1 h2 (k H locs ls h hl)
theorem r_pop (C : Cx X K cc nL own fr lo) {v : Value} (hd : decode cc pc = .ok (.pop, 1)) (h1 : v.category = 1) (k : WM X K Q G (pc + 1) lv (st)) : WM X K Q G pc lv (v :: st) := fun H locs ls h hl => lv_pop C.1 C.2.1 hd h1 (k H locs ls h hl)
theorem r_aconst_null (C : Cx X K cc nL own fr lo)  (hd : decode cc pc = .ok (.aconst_null, 1)) (k : WM X K Q G (pc + 1) lv (.null :: st)) : WM X K Q G pc lv (st) := fun H locs ls h hl => lv_null C.1 C.2.1 hd (k H locs ls h hl)
theorem r_iconst (C : Cx X K cc nL own fr lo) {n : Int} (v : Int32) (hd : decode cc pc = .ok (.iconst n, 1)) (hv : Int32.ofInt n = v) (k : WM X K Q G (pc + 1) lv (.int v :: st)) : WM X K Q G pc lv (st) := fun H locs ls h hl => lv_iconst C.1 C.2.1 hd hv (k H locs ls h hl)
theorem r_bipush (C : Cx X K cc nL own fr lo) {n : Int} (v : Int32) (hd : decode cc pc = .ok (.bipush n, 2)) (hv : (Int8.ofInt n).toInt32 = v) (k : WM X K Q G (pc + 2) lv (.int v :: st)) : WM X K Q G pc lv (st) := fun H locs ls h hl => lv_bipush C.1 C.2.1 hd hv (k H locs ls h hl)
theorem r_sipush (C : Cx X K cc nL own fr lo) {n : Int} (v : Int32) (hd : decode cc pc = .ok (.sipush n, 3)) (hv : (Int16.ofInt n).toInt32 = v) (k : WM X K Q G (pc + 3) lv (.int v :: st)) : WM X K Q G pc lv (st) := fun H locs ls h hl => lv_sipush C.1 C.2.1 hd hv (k H locs ls h hl)
theorem r_lconst (C : Cx X K cc nL own fr lo) {n : Fin 2} (v : Int64) (hd : decode cc pc = .ok (.lconst n, 1)) (hv : Int64.ofNat (n : Nat) = v) (k : WM X K Q G (pc + 1) lv (.long v :: st)) : WM X K Q G pc lv (st) := fun H locs ls h hl => lv_lconst C.1 C.2.1 hd hv (k H locs ls h hl)
theorem r_ldc (C : Cx X K cc nL own fr lo) {i : Nat} {v : Int32} (hc : Cond.constant own i v ∈ gtbl) (hd : decode cc pc = .ok (.ldc i, 2)) (k : WM X K Q G (pc + 2) lv (.int v :: st)) : WM X K Q G pc lv st := fun H locs ls h hl => lv_ldc C.1 C.2.1 C.2.2.2.1 (C.2.2.2.2.1 _ hc) hd (k H locs ls h hl)
theorem r_ldc2 (C : Cx X K cc nL own fr lo) {i : Nat} {v : Int64} (hc : Cond.constantLong own i v ∈ gtbl) (hd : decode cc pc = .ok (.ldc2_w i, 3)) (k : WM X K Q G (pc + 3) lv (.long v :: st)) : WM X K Q G pc lv st := fun H locs ls h hl => lv_ldc2 C.1 C.2.1 C.2.2.2.1 (C.2.2.2.2.1 _ hc) hd (k H locs ls h hl)
theorem r_iload_n (C : Cx X K cc nL own fr lo) {j : Fin 4} (i : Nat) {x : Int32} (hd : decode cc pc = .ok (.iload_n j, 1)) (hj : (j : Nat) = i) (hv : lv[i]? = some (some (.int x))) (k : WM X K Q G (pc + 1) lv (.int x :: st)) : WM X K Q G pc lv st := fun H locs ls h hl => lv_iload_n C.1 C.2.1 hd hj (lh_at hl hv) (k H locs ls h hl)
theorem r_iload (C : Cx X K cc nL own fr lo) {i : Nat} {x : Int32} (hd : decode cc pc = .ok (.iload i, 2)) (hv : lv[i]? = some (some (.int x))) (k : WM X K Q G (pc + 2) lv (.int x :: st)) : WM X K Q G pc lv st := fun H locs ls h hl => lv_iload C.1 C.2.1 hd (lh_at hl hv) (k H locs ls h hl)
theorem r_lload_n (C : Cx X K cc nL own fr lo) {j : Fin 4} (i : Nat) {x : Int64} (hd : decode cc pc = .ok (.lload_n j, 1)) (hj : (j : Nat) = i) (hv : lv[i]? = some (some (.long x))) (k : WM X K Q G (pc + 1) lv (.long x :: st)) : WM X K Q G pc lv st := fun H locs ls h hl => lv_lload_n C.1 C.2.1 hd hj (lh_at hl hv) (k H locs ls h hl)
theorem r_lload (C : Cx X K cc nL own fr lo) {i : Nat} {x : Int64} (hd : decode cc pc = .ok (.lload i, 2)) (hv : lv[i]? = some (some (.long x))) (k : WM X K Q G (pc + 2) lv (.long x :: st)) : WM X K Q G pc lv st := fun H locs ls h hl => lv_lload C.1 C.2.1 hd (lh_at hl hv) (k H locs ls h hl)
theorem va_rf_cases (x : Option Nat) : va_rf x = .null ∨ ∃ a, va_rf x = .ref a := by
  cases x with
  | none => exact Or.inl rfl
  | some a => exact Or.inr ⟨a, rfl⟩
theorem r_aload_n (C : Cx X K cc nL own fr lo) {j : Fin 4} (i : Nat) {x : Option Nat} (hd : decode cc pc = .ok (.aload_n j, 1)) (hj : (j : Nat) = i) (hv : lv[i]? = some (some (va_rf x))) (k : WM X K Q G (pc + 1) lv (va_rf x :: st)) : WM X K Q G pc lv st := fun H locs ls h hl => by
  cases x with
  | none => exact lv_aload_nN C.1 C.2.1 hd hj (lh_at hl hv) (k H locs ls h hl)
  | some a => exact lv_aload_n C.1 C.2.1 hd hj (lh_at hl hv) (k H locs ls h hl)
theorem r_aload (C : Cx X K cc nL own fr lo) {i : Nat} {x : Option Nat} (hd : decode cc pc = .ok (.aload i, 2)) (hv : lv[i]? = some (some (va_rf x))) (k : WM X K Q G (pc + 2) lv (va_rf x :: st)) : WM X K Q G pc lv st := fun H locs ls h hl => by
  cases x with
  | none => exact lv_aloadN C.1 C.2.1 hd (lh_at hl hv) (k H locs ls h hl)
  | some a => exact lv_aload C.1 C.2.1 hd (lh_at hl hv) (k H locs ls h hl)
theorem r_istore_n (C : Cx X K cc nL own fr lo) {j : Fin 4} (i : Nat) {x : Int32} {lv' : List (Option Value)} (hd : decode cc pc = .ok (.istore_n j, 1)) (hj : (j : Nat) = i) (hn : i < lv.length) (ho : ok1 lv i = true) (he : lv.set i (some (.int x)) = lv') (k : WM X K Q G (pc + 1) lv' st) : WM X K Q G pc lv (.int x :: st) := fun H locs ls h hl => lv_istore_n C.1 C.2.1 hd hj hl hn rfl (fun ls' hl' => k H locs ls' h (he ▸ lh_set1 hl' ho))
theorem r_istore (C : Cx X K cc nL own fr lo) {i : Nat} {x : Int32} {lv' : List (Option Value)} (hd : decode cc pc = .ok (.istore i, 2)) (hn : i < lv.length) (ho : ok1 lv i = true) (he : lv.set i (some (.int x)) = lv') (k : WM X K Q G (pc + 2) lv' st) : WM X K Q G pc lv (.int x :: st) := fun H locs ls h hl => lv_istore C.1 C.2.1 hd hl hn rfl (fun ls' hl' => k H locs ls' h (he ▸ lh_set1 hl' ho))
theorem r_astore_n (C : Cx X K cc nL own fr lo) {j : Fin 4} (i : Nat) {x : Option Nat} {lv' : List (Option Value)} (hd : decode cc pc = .ok (.astore_n j, 1)) (hj : (j : Nat) = i) (hn : i < lv.length) (ho : ok1 lv i = true) (he : lv.set i (some (va_rf x)) = lv') (k : WM X K Q G (pc + 1) lv' st) : WM X K Q G pc lv (va_rf x :: st) := fun H locs ls h hl => by
  cases x with
  | none => exact lv_astore_nN C.1 C.2.1 hd hj hl hn rfl (fun ls' hl' => k H locs ls' h (he ▸ lh_set1 hl' ho))
  | some a => exact lv_astore_n C.1 C.2.1 hd hj hl hn rfl (fun ls' hl' => k H locs ls' h (he ▸ lh_set1 hl' ho))
theorem r_astore (C : Cx X K cc nL own fr lo) {i : Nat} {x : Option Nat} {lv' : List (Option Value)} (hd : decode cc pc = .ok (.astore i, 2)) (hn : i < lv.length) (ho : ok1 lv i = true) (he : lv.set i (some (va_rf x)) = lv') (k : WM X K Q G (pc + 2) lv' st) : WM X K Q G pc lv (va_rf x :: st) := fun H locs ls h hl => by
  cases x with
  | none => exact lv_astoreN C.1 C.2.1 hd hl hn rfl (fun ls' hl' => k H locs ls' h (he ▸ lh_set1 hl' ho))
  | some a => exact lv_astore C.1 C.2.1 hd hl hn rfl (fun ls' hl' => k H locs ls' h (he ▸ lh_set1 hl' ho))
theorem r_lstore_n (C : Cx X K cc nL own fr lo) {j : Fin 4} (i : Nat) {x : Int64} {lv' : List (Option Value)} (hd : decode cc pc = .ok (.lstore_n j, 1)) (hj : (j : Nat) = i) (hn : i + 1 < lv.length) (ho : ok1 lv i = true) (he : (lv.set i (some (.long x))).set (i + 1) none = lv') (k : WM X K Q G (pc + 1) lv' st) : WM X K Q G pc lv (.long x :: st) := fun H locs ls h hl => lv_lstore_n C.1 C.2.1 hd hj hl hn rfl (fun ls' hl' => k H locs ls' h (he ▸ lh_set2 hl' ho))
theorem r_iinc (C : Cx X K cc nL own fr lo) {i : Nat} {n : Int} {x : Int32} (d : Int32) {lv' : List (Option Value)} (hd : decode cc pc = .ok (.iinc i n, 3)) (hv : lv[i]? = some (some (.int x))) (hn : Int32.ofInt n = d) (ho : ok1 lv i = true) (he : lv.set i (some (.int (x + d))) = lv') (k : WM X K Q G (pc + 3) lv' st) : WM X K Q G pc lv st := fun H locs ls h hl => by
  obtain ⟨k9, hk9⟩ := List.getElem?_of_mem ((lvp_mem lv 0 (i, .int x)).mpr ⟨Nat.zero_le _, hv⟩)
  exact lv_iinc (v := x + d) C.1 C.2.1 hd hl hk9 (by rw [hn]) (List.getElem?_eq_some_iff.mp hv).1 rfl (fun ls' hl' => k H locs ls' h (he ▸ lh_set1 hl' ho))
theorem r_goto (C : Cx X K cc nL own fr lo) {off : Int} (tgt : Nat) (hd : decode cc pc = .ok (.goto off, 3)) (ht : (pc : Int) + off = (tgt : Int)) (k : WM X K Q G tgt lv st) : WM X K Q G pc lv st := fun H locs ls h hl => lv_goto C.1 C.2.1 hd ht (k H locs ls h hl)
theorem r_forget {lv' : List (Option Value)} (k : WM X K Q G pc lv' st) (hl : lv'.length = lv.length) (hs : ∀ (i : Nat) (v : Value), lv'[i]? = some (some v) → lv[i]? = some (some v)) : WM X K Q G pc lv st := fun H locs ls h h2 => k H locs ls h (lh_forget h2 hl hs)
theorem r_if_eq (C : Cx X K cc nL own fr lo) {x : Int32} {off : Int} (tgt : Nat) (hd : decode cc pc = .ok (.ifCond .eq off, 3)) (ht : (pc : Int) + off = (tgt : Int)) (kt : x = 0 → WM X K Q G tgt lv st) (kf : ¬ (x = 0) → WM X K Q G (pc + 3) lv st) : WM X K Q G pc lv (.int x :: st) := fun H locs ls h hl => lv_if_eq C.1 C.2.1 hd ht (fun c => kt c H locs ls h hl) (fun c => kf c H locs ls h hl)
theorem r_icmp_eq (C : Cx X K cc nL own fr lo) {x y : Int32} {off : Int} (tgt : Nat) (hd : decode cc pc = .ok (.if_icmp .eq off, 3)) (ht : (pc : Int) + off = (tgt : Int)) (kt : x = y → WM X K Q G tgt lv st) (kf : ¬ (x = y) → WM X K Q G (pc + 3) lv st) : WM X K Q G pc lv (.int y :: .int x :: st) := fun H locs ls h hl => lv_icmp_eq C.1 C.2.1 hd ht (fun c => kt c H locs ls h hl) (fun c => kf c H locs ls h hl)
theorem r_if_ne (C : Cx X K cc nL own fr lo) {x : Int32} {off : Int} (tgt : Nat) (hd : decode cc pc = .ok (.ifCond .ne off, 3)) (ht : (pc : Int) + off = (tgt : Int)) (kt : ¬ x = 0 → WM X K Q G tgt lv st) (kf : x = 0 → WM X K Q G (pc + 3) lv st) : WM X K Q G pc lv (.int x :: st) := fun H locs ls h hl => lv_if_ne C.1 C.2.1 hd ht (fun c => kt c H locs ls h hl) (fun c => kf c H locs ls h hl)
theorem r_icmp_ne (C : Cx X K cc nL own fr lo) {x y : Int32} {off : Int} (tgt : Nat) (hd : decode cc pc = .ok (.if_icmp .ne off, 3)) (ht : (pc : Int) + off = (tgt : Int)) (kt : ¬ x = y → WM X K Q G tgt lv st) (kf : x = y → WM X K Q G (pc + 3) lv st) : WM X K Q G pc lv (.int y :: .int x :: st) := fun H locs ls h hl => lv_icmp_ne C.1 C.2.1 hd ht (fun c => kt c H locs ls h hl) (fun c => kf c H locs ls h hl)
theorem r_if_lt (C : Cx X K cc nL own fr lo) {x : Int32} {off : Int} (tgt : Nat) (hd : decode cc pc = .ok (.ifCond .lt off, 3)) (ht : (pc : Int) + off = (tgt : Int)) (kt : x < 0 → WM X K Q G tgt lv st) (kf : ¬ (x < 0) → WM X K Q G (pc + 3) lv st) : WM X K Q G pc lv (.int x :: st) := fun H locs ls h hl => lv_if_lt C.1 C.2.1 hd ht (fun c => kt c H locs ls h hl) (fun c => kf c H locs ls h hl)
theorem r_icmp_lt (C : Cx X K cc nL own fr lo) {x y : Int32} {off : Int} (tgt : Nat) (hd : decode cc pc = .ok (.if_icmp .lt off, 3)) (ht : (pc : Int) + off = (tgt : Int)) (kt : x < y → WM X K Q G tgt lv st) (kf : ¬ (x < y) → WM X K Q G (pc + 3) lv st) : WM X K Q G pc lv (.int y :: .int x :: st) := fun H locs ls h hl => lv_icmp_lt C.1 C.2.1 hd ht (fun c => kt c H locs ls h hl) (fun c => kf c H locs ls h hl)
theorem r_if_ge (C : Cx X K cc nL own fr lo) {x : Int32} {off : Int} (tgt : Nat) (hd : decode cc pc = .ok (.ifCond .ge off, 3)) (ht : (pc : Int) + off = (tgt : Int)) (kt : 0 ≤ x → WM X K Q G tgt lv st) (kf : ¬ (0 ≤ x) → WM X K Q G (pc + 3) lv st) : WM X K Q G pc lv (.int x :: st) := fun H locs ls h hl => lv_if_ge C.1 C.2.1 hd ht (fun c => kt c H locs ls h hl) (fun c => kf c H locs ls h hl)
theorem r_icmp_ge (C : Cx X K cc nL own fr lo) {x y : Int32} {off : Int} (tgt : Nat) (hd : decode cc pc = .ok (.if_icmp .ge off, 3)) (ht : (pc : Int) + off = (tgt : Int)) (kt : y ≤ x → WM X K Q G tgt lv st) (kf : ¬ (y ≤ x) → WM X K Q G (pc + 3) lv st) : WM X K Q G pc lv (.int y :: .int x :: st) := fun H locs ls h hl => lv_icmp_ge C.1 C.2.1 hd ht (fun c => kt c H locs ls h hl) (fun c => kf c H locs ls h hl)
theorem r_if_gt (C : Cx X K cc nL own fr lo) {x : Int32} {off : Int} (tgt : Nat) (hd : decode cc pc = .ok (.ifCond .gt off, 3)) (ht : (pc : Int) + off = (tgt : Int)) (kt : 0 < x → WM X K Q G tgt lv st) (kf : ¬ (0 < x) → WM X K Q G (pc + 3) lv st) : WM X K Q G pc lv (.int x :: st) := fun H locs ls h hl => lv_if_gt C.1 C.2.1 hd ht (fun c => kt c H locs ls h hl) (fun c => kf c H locs ls h hl)
theorem r_icmp_gt (C : Cx X K cc nL own fr lo) {x y : Int32} {off : Int} (tgt : Nat) (hd : decode cc pc = .ok (.if_icmp .gt off, 3)) (ht : (pc : Int) + off = (tgt : Int)) (kt : y < x → WM X K Q G tgt lv st) (kf : ¬ (y < x) → WM X K Q G (pc + 3) lv st) : WM X K Q G pc lv (.int y :: .int x :: st) := fun H locs ls h hl => lv_icmp_gt C.1 C.2.1 hd ht (fun c => kt c H locs ls h hl) (fun c => kf c H locs ls h hl)
theorem r_if_le (C : Cx X K cc nL own fr lo) {x : Int32} {off : Int} (tgt : Nat) (hd : decode cc pc = .ok (.ifCond .le off, 3)) (ht : (pc : Int) + off = (tgt : Int)) (kt : x ≤ 0 → WM X K Q G tgt lv st) (kf : ¬ (x ≤ 0) → WM X K Q G (pc + 3) lv st) : WM X K Q G pc lv (.int x :: st) := fun H locs ls h hl => lv_if_le C.1 C.2.1 hd ht (fun c => kt c H locs ls h hl) (fun c => kf c H locs ls h hl)
theorem r_icmp_le (C : Cx X K cc nL own fr lo) {x y : Int32} {off : Int} (tgt : Nat) (hd : decode cc pc = .ok (.if_icmp .le off, 3)) (ht : (pc : Int) + off = (tgt : Int)) (kt : x ≤ y → WM X K Q G tgt lv st) (kf : ¬ (x ≤ y) → WM X K Q G (pc + 3) lv st) : WM X K Q G pc lv (.int y :: .int x :: st) := fun H locs ls h hl => lv_icmp_le C.1 C.2.1 hd ht (fun c => kt c H locs ls h hl) (fun c => kf c H locs ls h hl)
theorem r_ifnull (C : Cx X K cc nL own fr lo) {x : Option Nat} {off : Int} (tgt : Nat) (hd : decode cc pc = .ok (.ifnull off, 3)) (ht : (pc : Int) + off = (tgt : Int)) (kt : x = none → WM X K Q G tgt lv st) (kf : ∀ b, x = some b → WM X K Q G (pc + 3) lv st) : WM X K Q G pc lv (va_rf x :: st) := fun H locs ls h hl => by
  cases x with
  | none => exact lv_ifnullN C.1 C.2.1 hd ht (kt rfl H locs ls h hl)
  | some a => exact lv_ifnull C.1 C.2.1 hd (kf a rfl H locs ls h hl)
theorem r_ifnonnull (C : Cx X K cc nL own fr lo) {x : Option Nat} {off : Int} (tgt : Nat) (hd : decode cc pc = .ok (.ifnonnull off, 3)) (ht : (pc : Int) + off = (tgt : Int)) (kt : ∀ b, x = some b → WM X K Q G tgt lv st) (kf : x = none → WM X K Q G (pc + 3) lv st) : WM X K Q G pc lv (va_rf x :: st) := fun H locs ls h hl => by
  cases x with
  | none => exact lv_ifnonnullN C.1 C.2.1 hd (kf rfl H locs ls h hl)
  | some a => exact lv_ifnonnull C.1 C.2.1 hd ht (kt a rfl H locs ls h hl)
theorem r_acmp_eq (C : Cx X K cc nL own fr lo) {x y : Option Nat} {off : Int} (tgt : Nat) (hd : decode cc pc = .ok (.if_acmp .eq off, 3)) (ht : (pc : Int) + off = (tgt : Int)) (kt : x = y → WM X K Q G tgt lv st) (kf : ¬ (x = y) → WM X K Q G (pc + 3) lv st) : WM X K Q G pc lv (va_rf y :: va_rf x :: st) := fun H locs ls h hl => lv_acmp_eq C.1 C.2.1 hd ht (fun c => kt c H locs ls h hl) (fun c => kf c H locs ls h hl)
theorem r_acmp_ne (C : Cx X K cc nL own fr lo) {x y : Option Nat} {off : Int} (tgt : Nat) (hd : decode cc pc = .ok (.if_acmp .ne off, 3)) (ht : (pc : Int) + off = (tgt : Int)) (kt : ¬ x = y → WM X K Q G tgt lv st) (kf : x = y → WM X K Q G (pc + 3) lv st) : WM X K Q G pc lv (va_rf y :: va_rf x :: st) := fun H locs ls h hl => lv_acmp_ne C.1 C.2.1 hd ht (fun c => kt c H locs ls h hl) (fun c => kf c H locs ls h hl)
theorem r_tableIn (C : Cx X K cc nL own fr lo) {dflt a b : Int} {offs : Array Int} {len : Nat} {x : Int32} {off : Int} (tgt : Nat) (hd : decode cc pc = .ok (.tableswitch dflt a b offs, len)) (h1 : ¬ x.toInt < a) (h2 : ¬ b < x.toInt) (ho : offs[(x.toInt - a).toNat]? = some off) (ht : (pc : Int) + off = (tgt : Int)) (k : WM X K Q G tgt lv st) : WM X K Q G pc lv (.int x :: st) := fun H locs ls h hl => lv_tableIn C.1 C.2.1 hd h1 h2 ho ht (k H locs ls h hl)
theorem r_tableOut (C : Cx X K cc nL own fr lo) {dflt a b : Int} {offs : Array Int} {len : Nat} {x : Int32} (tgt : Nat) (hd : decode cc pc = .ok (.tableswitch dflt a b offs, len)) (h1 : x.toInt < a ∨ b < x.toInt) (ht : (pc : Int) + dflt = (tgt : Int)) (k : WM X K Q G tgt lv st) : WM X K Q G pc lv (.int x :: st) := fun H locs ls h hl => lv_tableOut C.1 C.2.1 hd h1 ht (k H locs ls h hl)
end ROWS
end
section
/-! ===== fields, arrays, new cells ===== -/
def FW (own : String) (index ci k : Nat) : Prop := ∃ (Cn : String) (T : u_T) (N : Nat) (ref : String), vwCl[ci]? = some (Cn, T, N) ∧ k < N ∧ (∀ w ∈ u_ws Cn T N, w ∈ gtbl) ∧ Cond.fieldLink own index ref (T k).2.1 (T k).2.2.1 ∈ gtbl ∧ (ref = (T k).1 ∨ Cond.sameField ref (T k).1 (T k).2.1 (T k).2.2.1 ∈ gtbl)
def FP (own : String) (index ci k : Nat) (ty : FieldType) (fin : Bool) : Prop := ∃ (Cn : String) (T : u_T) (N : Nat) (ref : String), vwCl[ci]? = some (Cn, T, N) ∧ k < N ∧ Cond.fieldLink own index ref (T k).2.1 (T k).2.2.1 ∈ gtbl ∧ (ref = (T k).1 ∨ Cond.sameField ref (T k).1 (T k).2.1 (T k).2.2.1 ∈ gtbl) ∧ (T k).2.2.2 = fin ∧ parseFieldDescriptor (T k).2.2.1 = some ty ∧ (fin = true → (T k).1 = own)
def dfv (ci j : Nat) : Value := match fkd ci j with
  | 0 => .int 0
  | 1 => .null
  | 2 => .long 0
  | _ => .null
def CW (ci : Nat) : Prop := ∃ (Cn : String) (T : u_T) (N : Nat) (ty : Nat → FieldType), vwCl[ci]? = some (Cn, T, N) ∧ (∀ w ∈ u_ws Cn T N, w ∈ gtbl) ∧ (∀ k, k < N → parseFieldDescriptor (T k).2.2.1 = some (ty k)) ∧ (∀ a, a < N → ∀ b, b < N → a ≠ b → (T a).2.1 ≠ (T b).2.1) ∧ Cond.instantiable Cn N ∈ gtbl ∧ Cond.initialized Cn ∈ gtbl ∧ ∀ j, j < N → defaultValue (ty j) = dfv ci j
theorem hE_i1 {X : Xt} {G : Gt} {H : Heap} {a ci : Nat} (h : gT G a = (1, ci)) (q : xN X ≤ a ∧ ∃ r : vw_C, vwCl[ci]? = some r ∧ t_OB a ((xD X).1 ci) r.2.2 ((xD X).2 ci) H (fv G ci a)) : hE X G H a := by unfold hE; rw [h]; exact q
theorem hE_i2 {X : Xt} {G : Gt} {H : Heap} {a n : Nat} (h : gT G a = (2, n)) (q : xN X ≤ a ∧ H[a]? = some (arrV (xI X) n (fun j => .int (gA G a j)))) : hE X G H a := by unfold hE; rw [h]; exact q
theorem hE_i3 {X : Xt} {G : Gt} {H : Heap} {a n : Nat} (h : gT G a = (3, n)) (q : xN X ≤ a ∧ H[a]? = some (arrV (xO X) n (fun j => va_rf (gB G a j)))) : hE X G H a := by unfold hE; rw [h]; exact q
theorem hE_i4 {X : Xt} {G : Gt} {H : Heap} {a n : Nat} (h : gT G a = (4, n)) (q : xN X ≤ a ∧ H[a]? = some (arrV (xV X) n (fun j => va_rf (gB G a j)))) : hE X G H a := by unfold hE; rw [h]; exact q
theorem hE_i5 {X : Xt} {G : Gt} {H : Heap} {a n : Nat} (h : gT G a = (5, n)) (q : xN X ≤ a ∧ H[a]? = some (arrV (xJ X) n (fun j => .long (gE G a j)))) : hE X G H a := by unfold hE; rw [h]; exact q
theorem g_same {args : Array Value} {s : State} {ref o n d : String} (hts : ∀ w ∈ gtbl, w.before args s = true) (h : ref = o ∨ Cond.sameField ref o n d ∈ gtbl) : ∀ x, s.fieldFound? o n d = some x → s.fieldFound? ref n d = some x := by
  intro x hx
  rcases h with h | h
  · rw [h]; exact hx
  · exact u_same (hts _ h) x hx
theorem locs_add {X : Xt} {locs : List Loc} {a i : Nat} (h : ∀ q ∈ locs, xN X ≤ q.base) (ha : xN X ≤ a) : ∀ q ∈ locs ++ [(⟨a, i⟩ : Loc)], xN X ≤ q.base := fun q hq => (List.mem_append.mp hq).elim (h q) (fun z => by rw [List.mem_singleton.mp z]; exact ha)
theorem gA_sA {G : Gt} {a : Nat} {g : Nat → Int32} : gA (sA G a g) a = g := va_up_self _ _ _
theorem gB_sB {G : Gt} {a : Nat} {g : Nat → Option Nat} : gB (sB G a g) a = g := va_up_self _ _ _
theorem gE_sE {G : Gt} {a : Nat} {g : Nat → Int64} : gE (sE G a g) a = g := va_up_self _ _ _
section HROWS
variable {X : Xt} {K : Kt} {Q : State → Prop} {G : Gt} {pc : Nat} {lv : List (Option Value)} {st : List Value} {cc : ByteArray} {nL : Nat} {own : String} {fr lo : Nat}
theorem r_get (C : Cx X K cc nL own fr lo) {a ci k index : Nat} {v : Value} (F : FW own index ci k) (ht : gT G a = (1, ci)) (hd : decode cc pc = .ok (.getfield index, 3)) (hv : fv G ci a k = v) (kk : WM X K Q G (pc + 3) lv (v :: st)) : WM X K Q G pc lv (.ref a :: st) := by
  obtain ⟨p, l, e, R, s, m, args, below, meth, c⟩ := K
  intro H locs ls h hl
  obtain ⟨hexec, hb, hml, hown, hts, hKF, -⟩ := C
  obtain ⟨Cn, T, N, ref, hc, hk, hin, hlink, hsame⟩ := F
  obtain ⟨hN, r, h1, cell, q1, q2, q3, q4⟩ := hE_1 ht (h.1.1 a)
  have hr : r = (Cn, T, N) := Option.some.inj (h1.symm.trans hc)
  subst hr
  obtain ⟨hS, hfc, kC, hkC, hkind⟩ := hKF.1.1 ci _ hc
  obtain ⟨cf, kf, fi, f, hi, hsl⟩ := hS k hk
  refine W.getf hexec hb hown (hts _ hlink) (g_same hts hsame _ hi) (u_facts hfc hkC (u_lays hts hin hk) hi).1 q1 (by rw [q3]; exact fun h => by cases h) (v := v) ?_ rfl rfl hd (kk H locs ls h hl)
  rw [hsl, q4 k hk, hv]
theorem r_getI (C : Cx X K cc nL own fr lo) {a ci k index : Nat} (F : FW own index ci k) (hk : fkd ci k = 0) (ht : gT G a = (1, ci)) (hd : decode cc pc = .ok (.getfield index, 3)) (kk : WM X K Q G (pc + 3) lv (.int (gI G (32 * ci + k) a) :: st)) : WM X K Q G pc lv (.ref a :: st) := r_get C F ht hd (fv_0 hk) kk
theorem r_getJ (C : Cx X K cc nL own fr lo) {a ci k index : Nat} (F : FW own index ci k) (hk : fkd ci k = 2) (ht : gT G a = (1, ci)) (hd : decode cc pc = .ok (.getfield index, 3)) (kk : WM X K Q G (pc + 3) lv (.long (gJ G (32 * ci + k) a) :: st)) : WM X K Q G pc lv (.ref a :: st) := r_get C F ht hd (fv_2 hk) kk
theorem r_getN (C : Cx X K cc nL own fr lo) {a ci k index : Nat} (F : FW own index ci k) (hk : fkd ci k = 1) (ht : gT G a = (1, ci)) (hd : decode cc pc = .ok (.getfield index, 3)) (kk : WM X K Q G (pc + 3) lv (va_rf (gR G (32 * ci + k) a) :: st)) : WM X K Q G pc lv (.ref a :: st) := r_get C F ht hd (fv_1 hk) kk
theorem r_getR (C : Cx X K cc nL own fr lo) {a b ci k index : Nat} (F : FW own index ci k) (hk : fkd ci k = 1) (ht : gT G a = (1, ci)) (hr : gR G (32 * ci + k) a = some b) (hd : decode cc pc = .ok (.getfield index, 3)) (kk : WM X K Q G (pc + 3) lv (.ref b :: st)) : WM X K Q G pc lv (.ref a :: st) := r_get C F ht hd ((fv_1 hk).trans (by rw [hr]; rfl)) kk
theorem r_putH {G' : Gt} {a ci k i : Nat} {v : Value} {H H' : Heap} {locs : List Loc} {r : vw_C} {cell : Cell} {ls : Array Slot} (kk : WM X K Q G' (pc + 3) lv st) (h : hM X K G H locs) (hl : lh ls lv) (ht : gT G a = (1, ci)) (hG : gCh a G G') (hv : fv G' ci a k = v) (ho : ∀ j, j ≠ k → fv G' ci a j = fv G ci a j)
    (hN : xN X ≤ a) (h1 : vwCl[ci]? = some r) (q1 : H[a]? = some cell) (q2 : cell.cls = (xD X).1 ci) (q3 : cell.vm = .none) (q5 : ∀ j, j < r.2.2 → (cell.setSlot i v).slots[(xD X).2 ci j]? = some (updV (fv G ci a) k v j)) (e1 : H'[a]? = some (cell.setSlot i v)) (e2 : H'.size = H.size) (e3 : ∀ q, q ≠ a → H'[q]? = H[q]?) :
    kW K H' (locs ++ [⟨a, i⟩]) (gH G - (kS K).heap.size) (gU G - hU (kS K).heap) Q (F0 (kM K) (pc + 3) ls st) := by
  have he : hE X G' H' a := hE_i1 ((hG.1 a).trans ht) ⟨hN, r, h1, t_OB.to (V := updV (fv G ci a) k v) ⟨_, e1, q2, q3, q5⟩ (fun j _ => by
    unfold updV
    by_cases e : j = k
    · rw [if_pos e, e, hv]
    · rw [if_neg e, ho j e])⟩
  have hc' : hC X G' H' := hC_put h.1 hG hN q1 e1 (by simp [Cell.setSlot]) e2 e3 he
  have z := kk H' (locs ++ [⟨a, i⟩]) ls ⟨hc', locs_add h.2.1 hN, by rw [hG.2.1]; exact h.2.2.1, by rw [hG.2.2.1]; exact h.2.2.2⟩ hl
  rw [hG.2.1, hG.2.2.1] at z
  exact z
theorem r_put (C : Cx X K cc nL own fr lo) {G' : Gt} {a ci k index : Nat} {v : Value} {ty : FieldType} (hW : CW ci) (F : FP own index ci k ty false) (ht : gT G a = (1, ci)) (hn : narrow ty v = v) (hf : fits ty v = true) (hG : gCh a G G') (hv : fv G' ci a k = v) (ho : ∀ j, j ≠ k → fv G' ci a j = fv G ci a j) (hd : decode cc pc = .ok (.putfield index, 3)) (kk : WM X K Q G' (pc + 3) lv st) : WM X K Q G pc lv (v :: .ref a :: st) := by
  obtain ⟨p, l, e, R, s, m, args, below, meth, c⟩ := K
  intro H locs ls h hl
  obtain ⟨hexec, hb, hml, hown, hts, hKF, -⟩ := C
  obtain ⟨Cn, T, N, ty0, hc, hin, hty, hnm, -⟩ := hW
  obtain ⟨Cn9, T9, N9, ref, hc9, hk, hlink, hsame, hfin, hd9, -⟩ := F
  cases Option.some.inj (hc9.symm.trans hc)
  obtain ⟨hN, r, h1, cell, q1, q2, q3, q4⟩ := hE_1 ht (h.1.1 a)
  have hr : r = (Cn, T, N) := Option.some.inj (h1.symm.trans hc)
  subst hr
  have hap := va_apart (own := own) hts hin ty0 hty hnm hKF.1 hc
  obtain ⟨hS, hfc, kC, hkC, hkind⟩ := hKF.1.1 ci _ hc
  obtain ⟨cf, kf, fi, f, hi, hsl⟩ := hS k hk
  have hlay := hts _ (hin _ (u_in_lay hk))
  unfold u_lay at hlay
  rw [if_neg (by rw [hfin]; decide)] at hlay
  have hst := (u_facts hfc hkC (u_lays hts hin hk) hi).1
  have h6 := u_store hfc hkC hkind hlay hi hd9 hn hf
  refine W.putK hexec hb (f := f) ⟨hown, hts _ hlink, ⟨_, _, _, g_same hts hsame _ hi⟩, hst⟩ (by rw [q2]; exact h6) q1 q3 (by rw [hsl]; exact k2_hasslot (q4 k hk)) rfl rfl hd fun H' e1 e2 e3 => ?_
  rw [hsl] at e1 ⊢
  exact r_putH kk h hl ht hG hv ho hN h1 q1 q2 q3 (t_set q4 hap hk v) e1 e2 e3
theorem r_putF (C : Cx X K cc nL own fr lo) {G' : Gt} {a ci k index : Nat} {v : Value} {ty : FieldType} (hin2 : (kT K).name = "<init>") (hW : CW ci) (F : FP own index ci k ty true) (ht : gT G a = (1, ci)) (hn : narrow ty v = v) (hf : fits ty v = true) (hG : gCh a G G') (hv : fv G' ci a k = v) (ho : ∀ j, j ≠ k → fv G' ci a j = fv G ci a j) (hd : decode cc pc = .ok (.putfield index, 3)) (kk : WM X K Q G' (pc + 3) lv st) : WM X K Q G pc lv (v :: .ref a :: st) := by
  obtain ⟨p, l, e, R, s, m, args, below, meth, c⟩ := K
  intro H locs ls h hl
  obtain ⟨hexec, hb, hml, hown, hts, hKF, -⟩ := C
  obtain ⟨Cn, T, N, ty0, hc, hin, hty, hnm, -⟩ := hW
  obtain ⟨Cn9, T9, N9, ref, hc9, hk, hlink, hsame, hfin, hd9, hdecl⟩ := F
  cases Option.some.inj (hc9.symm.trans hc)
  obtain ⟨hN, r, h1, cell, q1, q2, q3, q4⟩ := hE_1 ht (h.1.1 a)
  have hr : r = (Cn, T, N) := Option.some.inj (h1.symm.trans hc)
  subst hr
  have hap := va_apart (own := own) hts hin ty0 hty hnm hKF.1 hc
  obtain ⟨hS, hfc, kC, hkC, hkind⟩ := hKF.1.1 ci _ hc
  obtain ⟨cf, kf, fi, f, hi, hsl⟩ := hS k hk
  have hlay := hts _ (hin _ (u_in_lay hk))
  unfold u_lay at hlay
  rw [if_pos hfin] at hlay
  have hst := (u_facts hfc hkC (u_lays hts hin hk) hi).1
  have hcf : m.cls = cf := by
    obtain ⟨_, _, c', _, _, _, -, -, hf', -, -, -, hown2, -⟩ := Cond.laysFinal_spec hlay
    have e1 : c' = cf := by have := hi.symm.trans hf'; simp at this; exact this.1.symm
    rw [hdecl rfl] at hown2
    rw [← e1]; exact Option.some.inj (hown.symm.trans hown2)
  have h6 := u_fits hfc hkC hkind (Or.inr hlay) hi hd9 hn hf
  refine W.putFinK hexec hb hown (hts _ hlink) (g_same hts hsame _ hi) hst hcf hin2 (by rw [q2]; exact h6) q1 q3 (by rw [hsl]; exact k2_hasslot (q4 k hk)) rfl rfl hd fun H' e1 e2 e3 => ?_
  rw [hsl] at e1 ⊢
  exact r_putH kk h hl ht hG hv ho hN h1 q1 q2 q3 (t_set q4 hap hk v) e1 e2 e3
theorem fid_ne {ci j k : Nat} (h : j ≠ k) (a b : Nat) : ¬ (32 * ci + j = 32 * ci + k ∧ a = b) := fun z => h (by omega)
theorem r_putI (C : Cx X K cc nL own fr lo) {a ci k index : Nat} {x : Int32} (hW : CW ci) (F : FP own index ci k .int false) (hk : fkd ci k = 0) (ht : gT G a = (1, ci)) (hd : decode cc pc = .ok (.putfield index, 3)) (kk : WM X K Q (sI G (32 * ci + k) a x) (pc + 3) lv st) : WM X K Q G pc lv (.int x :: .ref a :: st) :=
  r_put C hW F ht rfl rfl gCh_I ((fv_0 hk).trans (congrArg Value.int up2_eq)) (fun j hj => fv_same (up2_ne (fid_ne hj a a)) rfl rfl) hd kk
theorem nb_01 {x : Int32} (h : x = 0 ∨ x = 1) : narrow .boolean (.int x) = .int x ∧ fits .boolean (.int x) = true := by rcases h with h | h <;> subst h <;> exact ⟨by decide +kernel, by decide +kernel⟩
theorem r_putZ (C : Cx X K cc nL own fr lo) {a ci k index : Nat} {x : Int32} (hW : CW ci) (F : FP own index ci k .boolean false) (hk : fkd ci k = 0) (ht : gT G a = (1, ci)) (hz : x = 0 ∨ x = 1) (hd : decode cc pc = .ok (.putfield index, 3)) (kk : WM X K Q (sI G (32 * ci + k) a x) (pc + 3) lv st) : WM X K Q G pc lv (.int x :: .ref a :: st) :=
  r_put C hW F ht (nb_01 hz).1 (nb_01 hz).2 gCh_I ((fv_0 hk).trans (congrArg Value.int up2_eq)) (fun j hj => fv_same (up2_ne (fid_ne hj a a)) rfl rfl) hd kk
theorem r_putJ (C : Cx X K cc nL own fr lo) {a ci k index : Nat} {x : Int64} (hW : CW ci) (F : FP own index ci k .long false) (hk : fkd ci k = 2) (ht : gT G a = (1, ci)) (hd : decode cc pc = .ok (.putfield index, 3)) (kk : WM X K Q (sJ G (32 * ci + k) a x) (pc + 3) lv st) : WM X K Q G pc lv (.long x :: .ref a :: st) :=
  r_put C hW F ht rfl rfl gCh_J ((fv_2 hk).trans (congrArg Value.long up2_eq)) (fun j hj => fv_same rfl rfl (up2_ne (fid_ne hj a a))) hd kk
theorem r_putR (C : Cx X K cc nL own fr lo) {a b ci k index : Nat} {ty : FieldType} (hW : CW ci) (F : FP own index ci k ty false) (hk : fkd ci k = 1) (ht : gT G a = (1, ci)) (hn : narrow ty (.ref b) = .ref b) (hf : fits ty (.ref b) = true) (hd : decode cc pc = .ok (.putfield index, 3)) (kk : WM X K Q (sR G (32 * ci + k) a (some b)) (pc + 3) lv st) : WM X K Q G pc lv (.ref b :: .ref a :: st) :=
  r_put C hW F ht hn hf gCh_R ((fv_1 hk).trans (congrArg va_rf (up2_eq (x := some b)) : va_rf (up2 _ _ _ (some b) _ _) = Value.ref b)) (fun j hj => fv_same rfl (up2_ne (fid_ne hj a a)) rfl) hd kk
theorem r_putIF (C : Cx X K cc nL own fr lo) {a ci k index : Nat} {x : Int32} (hin2 : (kT K).name = "<init>") (hW : CW ci) (F : FP own index ci k .int true) (hk : fkd ci k = 0) (ht : gT G a = (1, ci)) (hd : decode cc pc = .ok (.putfield index, 3)) (kk : WM X K Q (sI G (32 * ci + k) a x) (pc + 3) lv st) : WM X K Q G pc lv (.int x :: .ref a :: st) :=
  r_putF C hin2 hW F ht rfl rfl gCh_I ((fv_0 hk).trans (congrArg Value.int up2_eq)) (fun j hj => fv_same (up2_ne (fid_ne hj a a)) rfl rfl) hd kk
theorem r_putZF (C : Cx X K cc nL own fr lo) {a ci k index : Nat} {x : Int32} (hin2 : (kT K).name = "<init>") (hW : CW ci) (F : FP own index ci k .boolean true) (hk : fkd ci k = 0) (ht : gT G a = (1, ci)) (hz : x = 0 ∨ x = 1) (hd : decode cc pc = .ok (.putfield index, 3)) (kk : WM X K Q (sI G (32 * ci + k) a x) (pc + 3) lv st) : WM X K Q G pc lv (.int x :: .ref a :: st) :=
  r_putF C hin2 hW F ht (nb_01 hz).1 (nb_01 hz).2 gCh_I ((fv_0 hk).trans (congrArg Value.int up2_eq)) (fun j hj => fv_same (up2_ne (fid_ne hj a a)) rfl rfl) hd kk
theorem r_putRF (C : Cx X K cc nL own fr lo) {a b ci k index : Nat} {ty : FieldType} (hin2 : (kT K).name = "<init>") (hW : CW ci) (F : FP own index ci k ty true) (hk : fkd ci k = 1) (ht : gT G a = (1, ci)) (hn : narrow ty (.ref b) = .ref b) (hf : fits ty (.ref b) = true) (hd : decode cc pc = .ok (.putfield index, 3)) (kk : WM X K Q (sR G (32 * ci + k) a (some b)) (pc + 3) lv st) : WM X K Q G pc lv (.ref b :: .ref a :: st) :=
  r_putF C hin2 hW F ht hn hf gCh_R ((fv_1 hk).trans (congrArg va_rf (up2_eq (x := some b)) : va_rf (up2 _ _ _ (some b) _ _) = Value.ref b)) (fun j hj => fv_same rfl (up2_ne (fid_ne hj a a)) rfl) hd kk
theorem in_size {i : Int32} {n : Nat} {cA : ClassId} {f : Nat → Value} (h : vp_in i n) : ¬ (i < 0 ∨ (arrV cA n f).slots.size ≤ i.toNatClampNeg) := by rw [arrV_size]; exact h
theorem in_lt {i : Int32} {n : Nat} (h : vp_in i n) : i.toNatClampNeg < n := Nat.not_le.mp fun q => h (Or.inr q)
theorem r_iald (C : Cx X K cc nL own fr lo) {a n : Nat} {i : Int32} (ht : gT G a = (2, n)) (hi : vp_in i n) (hd : decode cc pc = .ok (.iaload, 1)) (kk : WM X K Q G (pc + 1) lv (.int (gA G a i.toNatClampNeg) :: st)) : WM X K Q G pc lv (.int i :: .ref a :: st) := by
  obtain ⟨p, l, e, R, s, m, args, below, meth, c⟩ := K
  intro H locs ls h hl
  exact W.iald (v := .int (gA G a i.toNatClampNeg)) C.1 C.2.1 (hE_2 ht (h.1.1 a)).2 ((C.2.2.2.2.2.1.1.2 0 _ rfl).1 n (fun j => .int (gA G a j))) (fun q => by cases q) (in_size hi) (arrV_read _ _ (in_lt hi)) rfl rfl hd (kk H locs ls h hl)
theorem r_lald (C : Cx X K cc nL own fr lo) {a n : Nat} {i : Int32} (ht : gT G a = (5, n)) (hi : vp_in i n) (hd : decode cc pc = .ok (.laload, 1)) (kk : WM X K Q G (pc + 1) lv (.long (gE G a i.toNatClampNeg) :: st)) : WM X K Q G pc lv (.int i :: .ref a :: st) := by
  obtain ⟨p, l, e, R, s, m, args, below, meth, c⟩ := K
  intro H locs ls h hl
  exact W.lald (v := .long (gE G a i.toNatClampNeg)) C.1 C.2.1 (hE_5 ht (h.1.1 a)).2 ((C.2.2.2.2.2.1.1.2 3 _ rfl).1 n (fun j => .long (gE G a j))) (fun q => by cases q) (in_size hi) (arrV_read _ _ (in_lt hi)) rfl rfl hd (kk H locs ls h hl)
theorem r_aald3 (C : Cx X K cc nL own fr lo) {a n : Nat} {i : Int32} (ht : gT G a = (3, n)) (hi : vp_in i n) (hd : decode cc pc = .ok (.aaload, 1)) (kk : WM X K Q G (pc + 1) lv (va_rf (gB G a i.toNatClampNeg) :: st)) : WM X K Q G pc lv (.int i :: .ref a :: st) := by
  obtain ⟨p, l, e, R, s, m, args, below, meth, c⟩ := K
  intro H locs ls h hl
  exact W.aald (v := va_rf (gB G a i.toNatClampNeg)) (ty := .object "java/lang/Object") C.1 C.2.1 (hE_3 ht (h.1.1 a)).2 ((C.2.2.2.2.2.1.1.2 1 _ rfl).1 n (fun j => va_rf (gB G a j))) rfl (fun q => by cases q) (in_size hi) (arrV_read _ _ (in_lt hi)) rfl rfl hd (kk H locs ls h hl)
theorem r_aald4 (C : Cx X K cc nL own fr lo) {a n : Nat} {i : Int32} (ht : gT G a = (4, n)) (hi : vp_in i n) (hd : decode cc pc = .ok (.aaload, 1)) (kk : WM X K Q G (pc + 1) lv (va_rf (gB G a i.toNatClampNeg) :: st)) : WM X K Q G pc lv (.int i :: .ref a :: st) := by
  obtain ⟨p, l, e, R, s, m, args, below, meth, c⟩ := K
  intro H locs ls h hl
  exact W.aald (v := va_rf (gB G a i.toNatClampNeg)) (ty := .object "RegisterGateway$Device") C.1 C.2.1 (hE_4 ht (h.1.1 a)).2 ((C.2.2.2.2.2.1.1.2 2 _ rfl).1 n (fun j => va_rf (gB G a j))) rfl (fun q => by cases q) (in_size hi) (arrV_read _ _ (in_lt hi)) rfl rfl hd (kk H locs ls h hl)
theorem r_stH {G' : Gt} {a i d : Nat} {H H' : Heap} {locs : List Loc} {cell cell' : Cell} {ls : Array Slot} (kk : WM X K Q G' (pc + d) lv st) (h : hM X K G H locs) (hl : lh ls lv) (hG : gCh a G G') (hN : xN X ≤ a) (q1 : H[a]? = some cell) (e1 : H'[a]? = some cell') (hs : cell'.slots.size = cell.slots.size) (e2 : H'.size = H.size) (e3 : ∀ q, q ≠ a → H'[q]? = H[q]?) (he : hE X G' H' a) :
    kW K H' (locs ++ [⟨a, i⟩]) (gH G - (kS K).heap.size) (gU G - hU (kS K).heap) Q (F0 (kM K) (pc + d) ls st) := by
  have hc' : hC X G' H' := hC_put h.1 hG hN q1 e1 hs e2 e3 he
  have z := kk H' (locs ++ [⟨a, i⟩]) ls ⟨hc', locs_add h.2.1 hN, by rw [hG.2.1]; exact h.2.2.1, by rw [hG.2.2.1]; exact h.2.2.2⟩ hl
  rw [hG.2.1, hG.2.2.1] at z
  exact z
theorem r_iast (C : Cx X K cc nL own fr lo) {a n : Nat} {i x : Int32} (ht : gT G a = (2, n)) (hi : vp_in i n) (hd : decode cc pc = .ok (.iastore, 1)) (kk : WM X K Q (sA G a (upd (gA G a) i.toNatClampNeg x)) (pc + 1) lv st) : WM X K Q G pc lv (.int x :: .int i :: .ref a :: st) := by
  obtain ⟨p, l, e, R, s, m, args, below, meth, c⟩ := K
  intro H locs ls h hl
  have q1 := hE_2 ht (h.1.1 a)
  refine W.iast C.1 C.2.1 q1.2 ((C.2.2.2.2.2.1.1.2 0 _ rfl).1 n (fun j => .int (gA G a j))) (fun q => by cases q) (in_size hi) rfl rfl hd fun H1 e z oq => ?_
  refine r_stH kk h hl gCh_A q1.1 q1.2 e (by simp [Cell.setSlot]) z oq (hE_i2 ht ⟨q1.1, ?_⟩)
  rw [e, arrV_store]
  congr 2
  funext q
  rw [gA_sA]
  by_cases hq : q = i.toNatClampNeg
  · subst hq
    simp [updV, upd]
  · simp [updV, upd, hq]
theorem r_last (C : Cx X K cc nL own fr lo) {a n : Nat} {i : Int32} {x : Int64} (ht : gT G a = (5, n)) (hi : vp_in i n) (hd : decode cc pc = .ok (.lastore, 1)) (kk : WM X K Q (sE G a (vp_updL (gE G a) i.toNatClampNeg x)) (pc + 1) lv st) : WM X K Q G pc lv (.long x :: .int i :: .ref a :: st) := by
  obtain ⟨p, l, e, R, s, m, args, below, meth, c⟩ := K
  intro H locs ls h hl
  have q1 := hE_5 ht (h.1.1 a)
  refine W.last C.1 C.2.1 q1.2 ((C.2.2.2.2.2.1.1.2 3 _ rfl).1 n (fun j => .long (gE G a j))) (fun q => by cases q) (in_size hi) rfl rfl hd fun H1 e z oq => ?_
  refine r_stH kk h hl gCh_E q1.1 q1.2 e (by simp [Cell.setSlot]) z oq (hE_i5 ht ⟨q1.1, ?_⟩)
  rw [e, arrV_store]
  congr 2
  funext q
  rw [gE_sE]
  by_cases hq : q = i.toNatClampNeg
  · subst hq
    simp [updV, vp_updL]
  · simp [updV, vp_updL, hq]
theorem upq {f : Nat → Option Nat} {k q : Nat} {x : Option Nat} : updV (fun j => va_rf (f j)) k (va_rf x) q = va_rf (va_up f k x q) := by
  by_cases hq : q = k
  · subst hq
    simp [updV, va_up]
  · simp [updV, va_up, hq]
theorem obj_recv {H : Heap} {s : State} {a ci : Nat} {r : vw_C} (hKF : KF X s) (h : hC X G H) (ht : gT G a = (1, ci)) (hc : vwCl[ci]? = some r) : ∃ cell : Cell, H[a]? = some cell ∧ cell.vm.isStatics = false ∧ s.vm.findClass r.1 = some cell.cls := by
  obtain ⟨hN, r9, h1, cell, q1, q2, q3, q4⟩ := hE_1 ht (h.1 a)
  cases Option.some.inj (h1.symm.trans hc)
  exact ⟨cell, q1, by rw [q3]; rfl, by rw [q2]; exact (hKF.1.1 ci r hc).2.1⟩
theorem r_aast3 (C : Cx X K cc nL own fr lo) {a b n ci : Nat} {i : Int32} {r : vw_C} (hc : vwCl[ci]? = some r) (hca : Cond.castable r.1 "java/lang/Object" ∈ lw_tbl) (ht : gT G a = (3, n)) (hb9 : gT G b = (1, ci)) (hi : vp_in i n) (hd : decode cc pc = .ok (.aastore, 1)) (kk : WM X K Q (sB G a (va_up (gB G a) i.toNatClampNeg (some b))) (pc + 1) lv st) : WM X K Q G pc lv (.ref b :: .int i :: .ref a :: st) := by
  obtain ⟨p, l, e, R, s, m, args, below, meth, c⟩ := K
  intro H locs ls h hl
  have q1 := hE_3 ht (h.1.1 a)
  have hKF := C.2.2.2.2.2.1
  obtain ⟨cellV, g1, g3, g4⟩ := obj_recv hKF h.1 hb9 hc
  obtain ⟨kC, hkC, -⟩ := Vm.findClass_spec g4
  obtain ⟨kA, comp, k1, k2, k3, -⟩ := (hKF.1.2 1 _ rfl).2
  obtain ⟨kE, hkE, -⟩ := Vm.findClass_spec k3
  obtain ⟨c0, t0, f1, f2, f3⟩ := Cond.castable_spec (va_Nw.use (A := args) rfl (hKF.2.1 _ hca rfl))
  cases Option.some.inj (f1.symm.trans g4)
  cases Option.some.inj (f2.symm.trans k3)
  refine W.aast C.1 C.2.1 q1.2 (fun q h => by cases h) (fun h => by cases h) k1 k2 rfl hkE ⟨fun q => hi (Or.inl q), by rw [arrV_size]; exact in_lt hi⟩ g1 (fun q h => by rw [h] at g3; cases g3) hkC f3 rfl rfl hd fun H1 e z oq => ?_
  refine r_stH kk h hl gCh_B q1.1 q1.2 e (by simp [Cell.setSlot]) z oq (hE_i3 ht ⟨q1.1, ?_⟩)
  rw [e, arrV_store]
  congr 2
  funext q
  rw [gB_sB]
  exact upq (x := some b)
theorem r_aast4 (C : Cx X K cc nL own fr lo) {a b n : Nat} {i : Int32} (ht : gT G a = (4, n)) (hb9 : gT G b = (1, 3)) (hi : vp_in i n) (hd : decode cc pc = .ok (.aastore, 1)) (kk : WM X K Q (sB G a (va_up (gB G a) i.toNatClampNeg (some b))) (pc + 1) lv st) : WM X K Q G pc lv (.ref b :: .int i :: .ref a :: st) := by
  obtain ⟨p, l, e, R, s, m, args, below, meth, c⟩ := K
  intro H locs ls h hl
  have q1 := hE_4 ht (h.1.1 a)
  have hKF := C.2.2.2.2.2.1
  obtain ⟨cellV, g1, g3, g4⟩ := obj_recv hKF h.1 hb9 (r := (RX2, TX2, 7)) rfl
  obtain ⟨kC, hkC, -⟩ := Vm.findClass_spec g4
  obtain ⟨kA, comp, k1, k2, k3, -⟩ := (hKF.1.2 2 _ rfl).2
  obtain ⟨kE, hkE, -⟩ := Vm.findClass_spec k3
  have hcl := (hKF.1.1 3 (RX2, TX2, 7) rfl).2
  have e5 : comp = cellV.cls := Option.some.inj (k3.symm.trans g4)
  have e6 : (xD X).1 3 = cellV.cls := Option.some.inj (hcl.1.symm.trans g4)
  have hasg : s.vm.assignable cellV.cls comp = true := by rw [e5, ← e6]; exact va_assign hcl
  refine W.aast C.1 C.2.1 q1.2 (fun q h => by cases h) (fun h => by cases h) k1 k2 rfl hkE ⟨fun q => hi (Or.inl q), by rw [arrV_size]; exact in_lt hi⟩ g1 (fun q h => by rw [h] at g3; cases g3) hkC hasg rfl rfl hd fun H1 e z oq => ?_
  refine r_stH kk h hl gCh_B q1.1 q1.2 e (by simp [Cell.setSlot]) z oq (hE_i4 ht ⟨q1.1, ?_⟩)
  rw [e, arrV_store]
  congr 2
  funext q
  rw [gB_sB]
  exact upq (x := some b)
theorem r_aastN (C : Cx X K cc nL own fr lo) {a n : Nat} {i : Int32} (ht : gT G a = (3, n)) (hi : vp_in i n) (hd : decode cc pc = .ok (.aastore, 1)) (kk : WM X K Q (sB G a (va_up (gB G a) i.toNatClampNeg none)) (pc + 1) lv st) : WM X K Q G pc lv (.null :: .int i :: .ref a :: st) := by
  obtain ⟨p, l, e, R, s, m, args, below, meth, c⟩ := K
  intro H locs ls h hl
  have q1 := hE_3 ht (h.1.1 a)
  refine va_WaastN C.1 C.2.1 q1.2 ((C.2.2.2.2.2.1.1.2 1 _ rfl).1 n (fun j => va_rf (gB G a j))) (fun q => by cases q) (in_size hi) rfl rfl hd fun H1 e z oq => ?_
  refine r_stH kk h hl gCh_B q1.1 q1.2 e (by simp [Cell.setSlot]) z oq (hE_i3 ht ⟨q1.1, ?_⟩)
  rw [e, arrV_store]
  congr 2
  funext q
  rw [gB_sB]
  exact upq (x := none)
theorem r_alen2 (C : Cx X K cc nL own fr lo) {a n : Nat} (ht : gT G a = (2, n)) (hd : decode cc pc = .ok (.arraylength, 1)) (kk : WM X K Q G (pc + 1) lv (.int (nI n) :: st)) : WM X K Q G pc lv (.ref a :: st) := by
  obtain ⟨p, l, e, R, s, m, args, below, meth, c⟩ := K
  intro H locs ls h hl
  exact W.alen (n := nI n) C.1 C.2.1 (hE_2 ht (h.1.1 a)).2 ((C.2.2.2.2.2.1.1.2 0 _ rfl).1 n (fun j => .int (gA G a j))) (by rw [arrV_size]; rfl) rfl rfl hd (kk H locs ls h hl)
theorem r_alen3 (C : Cx X K cc nL own fr lo) {a n : Nat} (ht : gT G a = (3, n)) (hd : decode cc pc = .ok (.arraylength, 1)) (kk : WM X K Q G (pc + 1) lv (.int (nI n) :: st)) : WM X K Q G pc lv (.ref a :: st) := by
  obtain ⟨p, l, e, R, s, m, args, below, meth, c⟩ := K
  intro H locs ls h hl
  exact W.alen (n := nI n) C.1 C.2.1 (hE_3 ht (h.1.1 a)).2 ((C.2.2.2.2.2.1.1.2 1 _ rfl).1 n (fun j => va_rf (gB G a j))) (by rw [arrV_size]; rfl) rfl rfl hd (kk H locs ls h hl)
theorem r_alen6 (C : Cx X K cc nL own fr lo) {a n : Nat} (ht : gT G a = (6, n)) (hd : decode cc pc = .ok (.arraylength, 1)) (kk : WM X K Q G (pc + 1) lv (.int (nI n) :: st)) : WM X K Q G pc lv (.ref a :: st) := by
  obtain ⟨p, l, e, R, s, m, args, below, meth, c⟩ := K
  intro H locs ls h hl
  obtain ⟨h1, h2⟩ := hE_6 ht (h.1.1 a)
  subst h1; subst h2
  have hKF := C.2.2.2.2.2.1
  obtain ⟨cell, g1, g2, g3, g4, g5, -, g7⟩ := hKF.2.2.2.2.1.2
  have hz : xde X < xN X := Nat.not_le.mp g7
  exact W.alen (n := nI 0) C.1 C.2.1 (by rw [h.1.2.2.2.1 _ hz]; exact g1) g2 g5 rfl rfl hd (kk H locs ls h hl)
end HROWS
end
