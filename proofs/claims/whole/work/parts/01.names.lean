-- ===== PART A: goes FIRST, ahead of the names: the tables' words, and 'selects' of the private methods out of them =====
/-- a private method of a class that the tables say can be made, by its rows of tables_1 -/
def lw_okq (q : MethodName × Nat) : Prop := (q.1.cls ≠ "java/lang/invoke/MethodHandle" ∧ q.1.cls ≠ "java/lang/invoke/VarHandle") ∧ Cond.instantiable q.1.cls q.2 ∈ tables_1 ∧ Cond.privateMethod q.1 ∈ tables_1 ∧ Cond.instanceMethod q.1 ∈ tables_1
theorem lw_p0 : lw_okq (⟨"WetPaint$Reader", "next", "()V"⟩, 14) := ⟨⟨by decide +kernel, by decide +kernel⟩, List.mem_of_getElem? (i := 174) (by decide +kernel), List.mem_of_getElem? (i := 422) (by decide +kernel), List.mem_of_getElem? (i := 423) (by decide +kernel)⟩
theorem lw_p1 : lw_okq (⟨"WetPaint$Reader", "byteAt", "(I)I"⟩, 14) := ⟨⟨by decide +kernel, by decide +kernel⟩, List.mem_of_getElem? (i := 174) (by decide +kernel), List.mem_of_getElem? (i := 426) (by decide +kernel), List.mem_of_getElem? (i := 427) (by decide +kernel)⟩
theorem lw_p2 : lw_okq (⟨"WetPaint$Reader", "takeDigits", "()V"⟩, 14) := ⟨⟨by decide +kernel, by decide +kernel⟩, List.mem_of_getElem? (i := 174) (by decide +kernel), List.mem_of_getElem? (i := 439) (by decide +kernel), List.mem_of_getElem? (i := 440) (by decide +kernel)⟩
theorem lw_p3 : lw_okq (⟨"WetPaint$Reader", "readLine", "(I)V"⟩, 14) := ⟨⟨by decide +kernel, by decide +kernel⟩, List.mem_of_getElem? (i := 174) (by decide +kernel), List.mem_of_getElem? (i := 443) (by decide +kernel), List.mem_of_getElem? (i := 444) (by decide +kernel)⟩
theorem lw_p4 : lw_okq (⟨"WetPaint$Reader", "lineHere", "(I)I"⟩, 14) := ⟨⟨by decide +kernel, by decide +kernel⟩, List.mem_of_getElem? (i := 174) (by decide +kernel), List.mem_of_getElem? (i := 447) (by decide +kernel), List.mem_of_getElem? (i := 448) (by decide +kernel)⟩
theorem lw_p5 : lw_okq (⟨"WetPaint$Reader", "isWord", "(Ljava/lang/String;)Z"⟩, 14) := ⟨⟨by decide +kernel, by decide +kernel⟩, List.mem_of_getElem? (i := 174) (by decide +kernel), List.mem_of_getElem? (i := 472) (by decide +kernel), List.mem_of_getElem? (i := 473) (by decide +kernel)⟩
theorem lw_p6 : lw_okq (⟨"WetPaint$Reader", "breakOff", "()V"⟩, 14) := ⟨⟨by decide +kernel, by decide +kernel⟩, List.mem_of_getElem? (i := 174) (by decide +kernel), List.mem_of_getElem? (i := 524) (by decide +kernel), List.mem_of_getElem? (i := 525) (by decide +kernel)⟩
theorem lw_p7 : lw_okq (⟨"WetPaint$Reader", "isFull", "(I)Z"⟩, 14) := ⟨⟨by decide +kernel, by decide +kernel⟩, List.mem_of_getElem? (i := 174) (by decide +kernel), List.mem_of_getElem? (i := 528) (by decide +kernel), List.mem_of_getElem? (i := 529) (by decide +kernel)⟩
theorem lw_p8 : lw_okq (⟨"WetPaint$Reader", "noteFault", "(II)V"⟩, 14) := ⟨⟨by decide +kernel, by decide +kernel⟩, List.mem_of_getElem? (i := 174) (by decide +kernel), List.mem_of_getElem? (i := 536) (by decide +kernel), List.mem_of_getElem? (i := 537) (by decide +kernel)⟩
theorem lw_p9 : lw_okq (⟨"WetPaint$Reader", "takeNumber", "(CI)Z"⟩, 14) := ⟨⟨by decide +kernel, by decide +kernel⟩, List.mem_of_getElem? (i := 174) (by decide +kernel), List.mem_of_getElem? (i := 554) (by decide +kernel), List.mem_of_getElem? (i := 555) (by decide +kernel)⟩
theorem lw_p10 : lw_okq (⟨"WetPaint$Reader", "habitHere", "()I"⟩, 14) := ⟨⟨by decide +kernel, by decide +kernel⟩, List.mem_of_getElem? (i := 174) (by decide +kernel), List.mem_of_getElem? (i := 558) (by decide +kernel), List.mem_of_getElem? (i := 559) (by decide +kernel)⟩
theorem lw_p11 : lw_okq (⟨"WetPaint$Reader", "tell", "(I)V"⟩, 14) := ⟨⟨by decide +kernel, by decide +kernel⟩, List.mem_of_getElem? (i := 174) (by decide +kernel), List.mem_of_getElem? (i := 576) (by decide +kernel), List.mem_of_getElem? (i := 577) (by decide +kernel)⟩
theorem lw_p12 : lw_okq (⟨"WetPaint$Reader", "tellPrint", "(I)V"⟩, 14) := ⟨⟨by decide +kernel, by decide +kernel⟩, List.mem_of_getElem? (i := 174) (by decide +kernel), List.mem_of_getElem? (i := 614) (by decide +kernel), List.mem_of_getElem? (i := 615) (by decide +kernel)⟩
theorem lw_p13 : lw_okq (⟨"WetPaint$Reader", "endPark", "()V"⟩, 14) := ⟨⟨by decide +kernel, by decide +kernel⟩, List.mem_of_getElem? (i := 174) (by decide +kernel), List.mem_of_getElem? (i := 620) (by decide +kernel), List.mem_of_getElem? (i := 621) (by decide +kernel)⟩
theorem lw_p14 : lw_okq (⟨"WetPaint$Park", "stageBy", "(I)I"⟩, 13) := ⟨⟨by decide +kernel, by decide +kernel⟩, List.mem_of_getElem? (i := 36) (by decide +kernel), List.mem_of_getElem? (i := 700) (by decide +kernel), List.mem_of_getElem? (i := 701) (by decide +kernel)⟩
theorem lw_p15 : lw_okq (⟨"WetPaint$Day", "clear", "(I)V"⟩, 15) := ⟨⟨by decide +kernel, by decide +kernel⟩, List.mem_of_getElem? (i := 230) (by decide +kernel), List.mem_of_getElem? (i := 720) (by decide +kernel), List.mem_of_getElem? (i := 721) (by decide +kernel)⟩
def lw_privs_1 : List (MethodName × Nat) := [(⟨"WetPaint$Reader", "next", "()V"⟩, 14), (⟨"WetPaint$Reader", "byteAt", "(I)I"⟩, 14), (⟨"WetPaint$Reader", "takeDigits", "()V"⟩, 14), (⟨"WetPaint$Reader", "readLine", "(I)V"⟩, 14), (⟨"WetPaint$Reader", "lineHere", "(I)I"⟩, 14), (⟨"WetPaint$Reader", "isWord", "(Ljava/lang/String;)Z"⟩, 14), (⟨"WetPaint$Reader", "breakOff", "()V"⟩, 14), (⟨"WetPaint$Reader", "isFull", "(I)Z"⟩, 14), (⟨"WetPaint$Reader", "noteFault", "(II)V"⟩, 14), (⟨"WetPaint$Reader", "takeNumber", "(CI)Z"⟩, 14), (⟨"WetPaint$Reader", "habitHere", "()I"⟩, 14), (⟨"WetPaint$Reader", "tell", "(I)V"⟩, 14), (⟨"WetPaint$Reader", "tellPrint", "(I)V"⟩, 14), (⟨"WetPaint$Reader", "endPark", "()V"⟩, 14), (⟨"WetPaint$Park", "stageBy", "(I)I"⟩, 13), (⟨"WetPaint$Day", "clear", "(I)V"⟩, 15)]
theorem lw_r1 : ∀ q ∈ lw_privs_1, lw_okq q := List.forall_mem_cons.mpr ⟨lw_p0, List.forall_mem_cons.mpr ⟨lw_p1, List.forall_mem_cons.mpr ⟨lw_p2, List.forall_mem_cons.mpr ⟨lw_p3, List.forall_mem_cons.mpr ⟨lw_p4, List.forall_mem_cons.mpr ⟨lw_p5, List.forall_mem_cons.mpr ⟨lw_p6, List.forall_mem_cons.mpr ⟨lw_p7, List.forall_mem_cons.mpr ⟨lw_p8, List.forall_mem_cons.mpr ⟨lw_p9, List.forall_mem_cons.mpr ⟨lw_p10, List.forall_mem_cons.mpr ⟨lw_p11, List.forall_mem_cons.mpr ⟨lw_p12, List.forall_mem_cons.mpr ⟨lw_p13, List.forall_mem_cons.mpr ⟨lw_p14, List.forall_mem_cons.mpr ⟨lw_p15, fun _ h => absurd h List.not_mem_nil⟩⟩⟩⟩⟩⟩⟩⟩⟩⟩⟩⟩⟩⟩⟩⟩
theorem lw_p16 : lw_okq (⟨"WetPaint$Day", "lineUp", "(LWetPaint$Park;)V"⟩, 15) := ⟨⟨by decide +kernel, by decide +kernel⟩, List.mem_of_getElem? (i := 230) (by decide +kernel), List.mem_of_getElem? (i := 726) (by decide +kernel), List.mem_of_getElem? (i := 727) (by decide +kernel)⟩
theorem lw_p17 : lw_okq (⟨"WetPaint$Day", "queueUp", "(II)V"⟩, 15) := ⟨⟨by decide +kernel, by decide +kernel⟩, List.mem_of_getElem? (i := 230) (by decide +kernel), List.mem_of_getElem? (i := 731) (by decide +kernel), List.mem_of_getElem? (i := 732) (by decide +kernel)⟩
theorem lw_p18 : lw_okq (⟨"WetPaint$Day", "come", "(LWetPaint$Park;I)V"⟩, 15) := ⟨⟨by decide +kernel, by decide +kernel⟩, List.mem_of_getElem? (i := 230) (by decide +kernel), List.mem_of_getElem? (i := 735) (by decide +kernel), List.mem_of_getElem? (i := 736) (by decide +kernel)⟩
theorem lw_p19 : lw_okq (⟨"WetPaint$Day", "choose", "(LWetPaint$Park;IIZ)I"⟩, 15) := ⟨⟨by decide +kernel, by decide +kernel⟩, List.mem_of_getElem? (i := 230) (by decide +kernel), List.mem_of_getElem? (i := 745) (by decide +kernel), List.mem_of_getElem? (i := 746) (by decide +kernel)⟩
theorem lw_p20 : lw_okq (⟨"WetPaint$Day", "latestPrint", "(II)I"⟩, 15) := ⟨⟨by decide +kernel, by decide +kernel⟩, List.mem_of_getElem? (i := 230) (by decide +kernel), List.mem_of_getElem? (i := 752) (by decide +kernel), List.mem_of_getElem? (i := 753) (by decide +kernel)⟩
theorem lw_p21 : lw_okq (⟨"WetPaint$Day", "print", "(III)V"⟩, 15) := ⟨⟨by decide +kernel, by decide +kernel⟩, List.mem_of_getElem? (i := 230) (by decide +kernel), List.mem_of_getElem? (i := 757) (by decide +kernel), List.mem_of_getElem? (i := 758) (by decide +kernel)⟩
theorem lw_p22 : lw_okq (⟨"WetPaint$Day", "findOut", "(ZI)V"⟩, 15) := ⟨⟨by decide +kernel, by decide +kernel⟩, List.mem_of_getElem? (i := 230) (by decide +kernel), List.mem_of_getElem? (i := 761) (by decide +kernel), List.mem_of_getElem? (i := 762) (by decide +kernel)⟩
theorem lw_p23 : lw_okq (⟨"WetPaint$Day", "sit", "(LWetPaint$Park;II)V"⟩, 15) := ⟨⟨by decide +kernel, by decide +kernel⟩, List.mem_of_getElem? (i := 230) (by decide +kernel), List.mem_of_getElem? (i := 765) (by decide +kernel), List.mem_of_getElem? (i := 766) (by decide +kernel)⟩
theorem lw_p24 : lw_okq (⟨"WetPaint$Trial", "harmNow", "()I"⟩, 5) := ⟨⟨by decide +kernel, by decide +kernel⟩, List.mem_of_getElem? (i := 290) (by decide +kernel), List.mem_of_getElem? (i := 791) (by decide +kernel), List.mem_of_getElem? (i := 792) (by decide +kernel)⟩
theorem lw_p25 : lw_okq (⟨"WetPaint$Trial", "first", "(II)V"⟩, 5) := ⟨⟨by decide +kernel, by decide +kernel⟩, List.mem_of_getElem? (i := 290) (by decide +kernel), List.mem_of_getElem? (i := 797) (by decide +kernel), List.mem_of_getElem? (i := 798) (by decide +kernel)⟩
theorem lw_p26 : lw_okq (⟨"WetPaint$Trial", "less", "(II)V"⟩, 5) := ⟨⟨by decide +kernel, by decide +kernel⟩, List.mem_of_getElem? (i := 290) (by decide +kernel), List.mem_of_getElem? (i := 802) (by decide +kernel), List.mem_of_getElem? (i := 803) (by decide +kernel)⟩
theorem lw_p27 : lw_okq (⟨"WetPaint", "findFits", "(III)Z"⟩, 7) := ⟨⟨by decide +kernel, by decide +kernel⟩, List.mem_of_getElem? (i := 19) (by decide +kernel), List.mem_of_getElem? (i := 888) (by decide +kernel), List.mem_of_getElem? (i := 889) (by decide +kernel)⟩
theorem lw_p28 : lw_okq (⟨"WetPaint$Fits", "weigh", "(IILWetPaint$Rows;I)V"⟩, 7) := ⟨⟨by decide +kernel, by decide +kernel⟩, List.mem_of_getElem? (i := 319) (by decide +kernel), List.mem_of_getElem? (i := 898) (by decide +kernel), List.mem_of_getElem? (i := 899) (by decide +kernel)⟩
theorem lw_p29 : lw_okq (⟨"WetPaint$Fits", "isFit", "(ILWetPaint$Rows;I)Z"⟩, 7) := ⟨⟨by decide +kernel, by decide +kernel⟩, List.mem_of_getElem? (i := 319) (by decide +kernel), List.mem_of_getElem? (i := 902) (by decide +kernel), List.mem_of_getElem? (i := 903) (by decide +kernel)⟩
theorem lw_p30 : lw_okq (⟨"WetPaint$Fits", "isThere", "(I)Z"⟩, 7) := ⟨⟨by decide +kernel, by decide +kernel⟩, List.mem_of_getElem? (i := 319) (by decide +kernel), List.mem_of_getElem? (i := 939) (by decide +kernel), List.mem_of_getElem? (i := 940) (by decide +kernel)⟩
theorem lw_p31 : lw_okq (⟨"WetPaint$Trial", "drawBelow", "(I)I"⟩, 5) := ⟨⟨by decide +kernel, by decide +kernel⟩, List.mem_of_getElem? (i := 290) (by decide +kernel), List.mem_of_getElem? (i := 1006) (by decide +kernel), List.mem_of_getElem? (i := 1007) (by decide +kernel)⟩
def lw_privs_2 : List (MethodName × Nat) := [(⟨"WetPaint$Day", "lineUp", "(LWetPaint$Park;)V"⟩, 15), (⟨"WetPaint$Day", "queueUp", "(II)V"⟩, 15), (⟨"WetPaint$Day", "come", "(LWetPaint$Park;I)V"⟩, 15), (⟨"WetPaint$Day", "choose", "(LWetPaint$Park;IIZ)I"⟩, 15), (⟨"WetPaint$Day", "latestPrint", "(II)I"⟩, 15), (⟨"WetPaint$Day", "print", "(III)V"⟩, 15), (⟨"WetPaint$Day", "findOut", "(ZI)V"⟩, 15), (⟨"WetPaint$Day", "sit", "(LWetPaint$Park;II)V"⟩, 15), (⟨"WetPaint$Trial", "harmNow", "()I"⟩, 5), (⟨"WetPaint$Trial", "first", "(II)V"⟩, 5), (⟨"WetPaint$Trial", "less", "(II)V"⟩, 5), (⟨"WetPaint", "findFits", "(III)Z"⟩, 7), (⟨"WetPaint$Fits", "weigh", "(IILWetPaint$Rows;I)V"⟩, 7), (⟨"WetPaint$Fits", "isFit", "(ILWetPaint$Rows;I)Z"⟩, 7), (⟨"WetPaint$Fits", "isThere", "(I)Z"⟩, 7), (⟨"WetPaint$Trial", "drawBelow", "(I)I"⟩, 5)]
theorem lw_r2 : ∀ q ∈ lw_privs_2, lw_okq q := List.forall_mem_cons.mpr ⟨lw_p16, List.forall_mem_cons.mpr ⟨lw_p17, List.forall_mem_cons.mpr ⟨lw_p18, List.forall_mem_cons.mpr ⟨lw_p19, List.forall_mem_cons.mpr ⟨lw_p20, List.forall_mem_cons.mpr ⟨lw_p21, List.forall_mem_cons.mpr ⟨lw_p22, List.forall_mem_cons.mpr ⟨lw_p23, List.forall_mem_cons.mpr ⟨lw_p24, List.forall_mem_cons.mpr ⟨lw_p25, List.forall_mem_cons.mpr ⟨lw_p26, List.forall_mem_cons.mpr ⟨lw_p27, List.forall_mem_cons.mpr ⟨lw_p28, List.forall_mem_cons.mpr ⟨lw_p29, List.forall_mem_cons.mpr ⟨lw_p30, List.forall_mem_cons.mpr ⟨lw_p31, fun _ h => absurd h List.not_mem_nil⟩⟩⟩⟩⟩⟩⟩⟩⟩⟩⟩⟩⟩⟩⟩⟩
theorem lw_p32 : lw_okq (⟨"WetPaint$Trial", "hasNow", "(I)I"⟩, 5) := ⟨⟨by decide +kernel, by decide +kernel⟩, List.mem_of_getElem? (i := 290) (by decide +kernel), List.mem_of_getElem? (i := 1019) (by decide +kernel), List.mem_of_getElem? (i := 1020) (by decide +kernel)⟩
theorem lw_p33 : lw_okq (⟨"WetPaint$Trial", "more", "(II)V"⟩, 5) := ⟨⟨by decide +kernel, by decide +kernel⟩, List.mem_of_getElem? (i := 290) (by decide +kernel), List.mem_of_getElem? (i := 1032) (by decide +kernel), List.mem_of_getElem? (i := 1033) (by decide +kernel)⟩
theorem lw_p34 : lw_okq (⟨"WetPaintModel", "four", "(I)V"⟩, 52) := ⟨⟨by decide +kernel, by decide +kernel⟩, List.mem_of_getElem? (i := 1083) (by decide +kernel), List.mem_of_getElem? (i := 1251) (by decide +kernel), List.mem_of_getElem? (i := 1252) (by decide +kernel)⟩
theorem lw_p35 : lw_okq (⟨"WetPaintModel", "is", "(II)Z"⟩, 52) := ⟨⟨by decide +kernel, by decide +kernel⟩, List.mem_of_getElem? (i := 1083) (by decide +kernel), List.mem_of_getElem? (i := 1266) (by decide +kernel), List.mem_of_getElem? (i := 1267) (by decide +kernel)⟩
theorem lw_p36 : lw_okq (⟨"WetPaintModel", "readText", "(I)Z"⟩, 52) := ⟨⟨by decide +kernel, by decide +kernel⟩, List.mem_of_getElem? (i := 1083) (by decide +kernel), List.mem_of_getElem? (i := 1270) (by decide +kernel), List.mem_of_getElem? (i := 1271) (by decide +kernel)⟩
theorem lw_p37 : lw_okq (⟨"WetPaintModel", "blank", "(I)V"⟩, 52) := ⟨⟨by decide +kernel, by decide +kernel⟩, List.mem_of_getElem? (i := 1083) (by decide +kernel), List.mem_of_getElem? (i := 1274) (by decide +kernel), List.mem_of_getElem? (i := 1275) (by decide +kernel)⟩
theorem lw_p38 : lw_okq (⟨"WetPaintModel", "token", "()V"⟩, 52) := ⟨⟨by decide +kernel, by decide +kernel⟩, List.mem_of_getElem? (i := 1083) (by decide +kernel), List.mem_of_getElem? (i := 1278) (by decide +kernel), List.mem_of_getElem? (i := 1279) (by decide +kernel)⟩
theorem lw_p39 : lw_okq (⟨"WetPaintModel", "see", "()I"⟩, 52) := ⟨⟨by decide +kernel, by decide +kernel⟩, List.mem_of_getElem? (i := 1083) (by decide +kernel), List.mem_of_getElem? (i := 1282) (by decide +kernel), List.mem_of_getElem? (i := 1283) (by decide +kernel)⟩
theorem lw_p40 : lw_okq (⟨"WetPaintModel", "lines", "(I)Z"⟩, 52) := ⟨⟨by decide +kernel, by decide +kernel⟩, List.mem_of_getElem? (i := 1083) (by decide +kernel), List.mem_of_getElem? (i := 1286) (by decide +kernel), List.mem_of_getElem? (i := 1287) (by decide +kernel)⟩
theorem lw_p41 : lw_okq (⟨"WetPaintModel", "lineOf", "(IJI)Z"⟩, 52) := ⟨⟨by decide +kernel, by decide +kernel⟩, List.mem_of_getElem? (i := 1083) (by decide +kernel), List.mem_of_getElem? (i := 1290) (by decide +kernel), List.mem_of_getElem? (i := 1291) (by decide +kernel)⟩
theorem lw_p42 : lw_okq (⟨"WetPaintModel", "parkLine", "(JI)Z"⟩, 52) := ⟨⟨by decide +kernel, by decide +kernel⟩, List.mem_of_getElem? (i := 1083) (by decide +kernel), List.mem_of_getElem? (i := 1294) (by decide +kernel), List.mem_of_getElem? (i := 1295) (by decide +kernel)⟩
theorem lw_p43 : lw_okq (⟨"WetPaintModel", "fails", "()Z"⟩, 52) := ⟨⟨by decide +kernel, by decide +kernel⟩, List.mem_of_getElem? (i := 1083) (by decide +kernel), List.mem_of_getElem? (i := 1308) (by decide +kernel), List.mem_of_getElem? (i := 1309) (by decide +kernel)⟩
theorem lw_p44 : lw_okq (⟨"WetPaintModel", "rateLine", "()Z"⟩, 52) := ⟨⟨by decide +kernel, by decide +kernel⟩, List.mem_of_getElem? (i := 1083) (by decide +kernel), List.mem_of_getElem? (i := 1312) (by decide +kernel), List.mem_of_getElem? (i := 1313) (by decide +kernel)⟩
theorem lw_p45 : lw_okq (⟨"WetPaintModel", "take", "(III)Z"⟩, 52) := ⟨⟨by decide +kernel, by decide +kernel⟩, List.mem_of_getElem? (i := 1083) (by decide +kernel), List.mem_of_getElem? (i := 1316) (by decide +kernel), List.mem_of_getElem? (i := 1317) (by decide +kernel)⟩
theorem lw_p46 : lw_okq (⟨"WetPaintModel", "later", "(II)V"⟩, 52) := ⟨⟨by decide +kernel, by decide +kernel⟩, List.mem_of_getElem? (i := 1083) (by decide +kernel), List.mem_of_getElem? (i := 1320) (by decide +kernel), List.mem_of_getElem? (i := 1321) (by decide +kernel)⟩
theorem lw_p47 : lw_okq (⟨"WetPaintModel", "plainLine", "(III)Z"⟩, 52) := ⟨⟨by decide +kernel, by decide +kernel⟩, List.mem_of_getElem? (i := 1083) (by decide +kernel), List.mem_of_getElem? (i := 1324) (by decide +kernel), List.mem_of_getElem? (i := 1325) (by decide +kernel)⟩
def lw_privs_3 : List (MethodName × Nat) := [(⟨"WetPaint$Trial", "hasNow", "(I)I"⟩, 5), (⟨"WetPaint$Trial", "more", "(II)V"⟩, 5), (⟨"WetPaintModel", "four", "(I)V"⟩, 52), (⟨"WetPaintModel", "is", "(II)Z"⟩, 52), (⟨"WetPaintModel", "readText", "(I)Z"⟩, 52), (⟨"WetPaintModel", "blank", "(I)V"⟩, 52), (⟨"WetPaintModel", "token", "()V"⟩, 52), (⟨"WetPaintModel", "see", "()I"⟩, 52), (⟨"WetPaintModel", "lines", "(I)Z"⟩, 52), (⟨"WetPaintModel", "lineOf", "(IJI)Z"⟩, 52), (⟨"WetPaintModel", "parkLine", "(JI)Z"⟩, 52), (⟨"WetPaintModel", "fails", "()Z"⟩, 52), (⟨"WetPaintModel", "rateLine", "()Z"⟩, 52), (⟨"WetPaintModel", "take", "(III)Z"⟩, 52), (⟨"WetPaintModel", "later", "(II)V"⟩, 52), (⟨"WetPaintModel", "plainLine", "(III)Z"⟩, 52)]
theorem lw_r3 : ∀ q ∈ lw_privs_3, lw_okq q := List.forall_mem_cons.mpr ⟨lw_p32, List.forall_mem_cons.mpr ⟨lw_p33, List.forall_mem_cons.mpr ⟨lw_p34, List.forall_mem_cons.mpr ⟨lw_p35, List.forall_mem_cons.mpr ⟨lw_p36, List.forall_mem_cons.mpr ⟨lw_p37, List.forall_mem_cons.mpr ⟨lw_p38, List.forall_mem_cons.mpr ⟨lw_p39, List.forall_mem_cons.mpr ⟨lw_p40, List.forall_mem_cons.mpr ⟨lw_p41, List.forall_mem_cons.mpr ⟨lw_p42, List.forall_mem_cons.mpr ⟨lw_p43, List.forall_mem_cons.mpr ⟨lw_p44, List.forall_mem_cons.mpr ⟨lw_p45, List.forall_mem_cons.mpr ⟨lw_p46, List.forall_mem_cons.mpr ⟨lw_p47, fun _ h => absurd h List.not_mem_nil⟩⟩⟩⟩⟩⟩⟩⟩⟩⟩⟩⟩⟩⟩⟩⟩
theorem lw_p48 : lw_okq (⟨"WetPaintModel", "benchLine", "(I)Z"⟩, 52) := ⟨⟨by decide +kernel, by decide +kernel⟩, List.mem_of_getElem? (i := 1083) (by decide +kernel), List.mem_of_getElem? (i := 1328) (by decide +kernel), List.mem_of_getElem? (i := 1329) (by decide +kernel)⟩
theorem lw_p49 : lw_okq (⟨"WetPaintModel", "full", "(III)V"⟩, 52) := ⟨⟨by decide +kernel, by decide +kernel⟩, List.mem_of_getElem? (i := 1083) (by decide +kernel), List.mem_of_getElem? (i := 1332) (by decide +kernel), List.mem_of_getElem? (i := 1333) (by decide +kernel)⟩
theorem lw_p50 : lw_okq (⟨"WetPaintModel", "keep", "(IIIII)V"⟩, 52) := ⟨⟨by decide +kernel, by decide +kernel⟩, List.mem_of_getElem? (i := 1083) (by decide +kernel), List.mem_of_getElem? (i := 1336) (by decide +kernel), List.mem_of_getElem? (i := 1337) (by decide +kernel)⟩
theorem lw_p51 : lw_okq (⟨"WetPaintModel", "paintedLine", "()Z"⟩, 52) := ⟨⟨by decide +kernel, by decide +kernel⟩, List.mem_of_getElem? (i := 1083) (by decide +kernel), List.mem_of_getElem? (i := 1340) (by decide +kernel), List.mem_of_getElem? (i := 1341) (by decide +kernel)⟩
theorem lw_p52 : lw_okq (⟨"WetPaintModel", "takeBench", "(I)Z"⟩, 52) := ⟨⟨by decide +kernel, by decide +kernel⟩, List.mem_of_getElem? (i := 1083) (by decide +kernel), List.mem_of_getElem? (i := 1344) (by decide +kernel), List.mem_of_getElem? (i := 1345) (by decide +kernel)⟩
theorem lw_p53 : lw_okq (⟨"WetPaintModel", "cardLine", "()Z"⟩, 52) := ⟨⟨by decide +kernel, by decide +kernel⟩, List.mem_of_getElem? (i := 1083) (by decide +kernel), List.mem_of_getElem? (i := 1351) (by decide +kernel), List.mem_of_getElem? (i := 1352) (by decide +kernel)⟩
theorem lw_p54 : lw_okq (⟨"WetPaintModel", "maybeLine", "(I)Z"⟩, 52) := ⟨⟨by decide +kernel, by decide +kernel⟩, List.mem_of_getElem? (i := 1083) (by decide +kernel), List.mem_of_getElem? (i := 1355) (by decide +kernel), List.mem_of_getElem? (i := 1356) (by decide +kernel)⟩
theorem lw_p55 : lw_okq (⟨"WetPaintModel", "pigeonLine", "(I)Z"⟩, 52) := ⟨⟨by decide +kernel, by decide +kernel⟩, List.mem_of_getElem? (i := 1083) (by decide +kernel), List.mem_of_getElem? (i := 1359) (by decide +kernel), List.mem_of_getElem? (i := 1360) (by decide +kernel)⟩
theorem lw_p56 : lw_okq (⟨"WetPaintModel", "comerLine", "(I)Z"⟩, 52) := ⟨⟨by decide +kernel, by decide +kernel⟩, List.mem_of_getElem? (i := 1083) (by decide +kernel), List.mem_of_getElem? (i := 1363) (by decide +kernel), List.mem_of_getElem? (i := 1364) (by decide +kernel)⟩
theorem lw_p57 : lw_okq (⟨"WetPaintModel", "sightLine", "(JI)Z"⟩, 52) := ⟨⟨by decide +kernel, by decide +kernel⟩, List.mem_of_getElem? (i := 1083) (by decide +kernel), List.mem_of_getElem? (i := 1374) (by decide +kernel), List.mem_of_getElem? (i := 1375) (by decide +kernel)⟩
theorem lw_p58 : lw_okq (⟨"WetPaintModel", "alarmLine", "(JI)Z"⟩, 52) := ⟨⟨by decide +kernel, by decide +kernel⟩, List.mem_of_getElem? (i := 1083) (by decide +kernel), List.mem_of_getElem? (i := 1381) (by decide +kernel), List.mem_of_getElem? (i := 1382) (by decide +kernel)⟩
theorem lw_p59 : lw_okq (⟨"WetPaintModel", "planLine", "(JI)Z"⟩, 52) := ⟨⟨by decide +kernel, by decide +kernel⟩, List.mem_of_getElem? (i := 1083) (by decide +kernel), List.mem_of_getElem? (i := 1386) (by decide +kernel), List.mem_of_getElem? (i := 1387) (by decide +kernel)⟩
theorem lw_p60 : lw_okq (⟨"WetPaintModel", "storeAll", "(II)V"⟩, 52) := ⟨⟨by decide +kernel, by decide +kernel⟩, List.mem_of_getElem? (i := 1083) (by decide +kernel), List.mem_of_getElem? (i := 1391) (by decide +kernel), List.mem_of_getElem? (i := 1392) (by decide +kernel)⟩
theorem lw_p61 : lw_okq (⟨"WetPaintModel", "store", "([III)V"⟩, 52) := ⟨⟨by decide +kernel, by decide +kernel⟩, List.mem_of_getElem? (i := 1083) (by decide +kernel), List.mem_of_getElem? (i := 1395) (by decide +kernel), List.mem_of_getElem? (i := 1396) (by decide +kernel)⟩
theorem lw_p62 : lw_okq (⟨"WetPaintModel", "hand", "(I)Z"⟩, 52) := ⟨⟨by decide +kernel, by decide +kernel⟩, List.mem_of_getElem? (i := 1083) (by decide +kernel), List.mem_of_getElem? (i := 1407) (by decide +kernel), List.mem_of_getElem? (i := 1408) (by decide +kernel)⟩
theorem lw_p63 : lw_okq (⟨"WetPaintModel", "isBench", "(I)Z"⟩, 52) := ⟨⟨by decide +kernel, by decide +kernel⟩, List.mem_of_getElem? (i := 1083) (by decide +kernel), List.mem_of_getElem? (i := 1415) (by decide +kernel), List.mem_of_getElem? (i := 1416) (by decide +kernel)⟩
def lw_privs_4 : List (MethodName × Nat) := [(⟨"WetPaintModel", "benchLine", "(I)Z"⟩, 52), (⟨"WetPaintModel", "full", "(III)V"⟩, 52), (⟨"WetPaintModel", "keep", "(IIIII)V"⟩, 52), (⟨"WetPaintModel", "paintedLine", "()Z"⟩, 52), (⟨"WetPaintModel", "takeBench", "(I)Z"⟩, 52), (⟨"WetPaintModel", "cardLine", "()Z"⟩, 52), (⟨"WetPaintModel", "maybeLine", "(I)Z"⟩, 52), (⟨"WetPaintModel", "pigeonLine", "(I)Z"⟩, 52), (⟨"WetPaintModel", "comerLine", "(I)Z"⟩, 52), (⟨"WetPaintModel", "sightLine", "(JI)Z"⟩, 52), (⟨"WetPaintModel", "alarmLine", "(JI)Z"⟩, 52), (⟨"WetPaintModel", "planLine", "(JI)Z"⟩, 52), (⟨"WetPaintModel", "storeAll", "(II)V"⟩, 52), (⟨"WetPaintModel", "store", "([III)V"⟩, 52), (⟨"WetPaintModel", "hand", "(I)Z"⟩, 52), (⟨"WetPaintModel", "isBench", "(I)Z"⟩, 52)]
theorem lw_r4 : ∀ q ∈ lw_privs_4, lw_okq q := List.forall_mem_cons.mpr ⟨lw_p48, List.forall_mem_cons.mpr ⟨lw_p49, List.forall_mem_cons.mpr ⟨lw_p50, List.forall_mem_cons.mpr ⟨lw_p51, List.forall_mem_cons.mpr ⟨lw_p52, List.forall_mem_cons.mpr ⟨lw_p53, List.forall_mem_cons.mpr ⟨lw_p54, List.forall_mem_cons.mpr ⟨lw_p55, List.forall_mem_cons.mpr ⟨lw_p56, List.forall_mem_cons.mpr ⟨lw_p57, List.forall_mem_cons.mpr ⟨lw_p58, List.forall_mem_cons.mpr ⟨lw_p59, List.forall_mem_cons.mpr ⟨lw_p60, List.forall_mem_cons.mpr ⟨lw_p61, List.forall_mem_cons.mpr ⟨lw_p62, List.forall_mem_cons.mpr ⟨lw_p63, fun _ h => absurd h List.not_mem_nil⟩⟩⟩⟩⟩⟩⟩⟩⟩⟩⟩⟩⟩⟩⟩⟩
theorem lw_p64 : lw_okq (⟨"WetPaintModel", "painted", "(I)I"⟩, 52) := ⟨⟨by decide +kernel, by decide +kernel⟩, List.mem_of_getElem? (i := 1083) (by decide +kernel), List.mem_of_getElem? (i := 1427) (by decide +kernel), List.mem_of_getElem? (i := 1428) (by decide +kernel)⟩
theorem lw_p65 : lw_okq (⟨"WetPaintModel", "wetness", "(II)I"⟩, 52) := ⟨⟨by decide +kernel, by decide +kernel⟩, List.mem_of_getElem? (i := 1083) (by decide +kernel), List.mem_of_getElem? (i := 1431) (by decide +kernel), List.mem_of_getElem? (i := 1432) (by decide +kernel)⟩
theorem lw_p66 : lw_okq (⟨"WetPaintModel", "rateOf", "(I)I"⟩, 52) := ⟨⟨by decide +kernel, by decide +kernel⟩, List.mem_of_getElem? (i := 1083) (by decide +kernel), List.mem_of_getElem? (i := 1435) (by decide +kernel), List.mem_of_getElem? (i := 1436) (by decide +kernel)⟩
theorem lw_p67 : lw_okq (⟨"WetPaintModel", "stage", "(II)I"⟩, 52) := ⟨⟨by decide +kernel, by decide +kernel⟩, List.mem_of_getElem? (i := 1083) (by decide +kernel), List.mem_of_getElem? (i := 1442) (by decide +kernel), List.mem_of_getElem? (i := 1443) (by decide +kernel)⟩
theorem lw_p68 : lw_okq (⟨"WetPaintModel", "dries", "(II)I"⟩, 52) := ⟨⟨by decide +kernel, by decide +kernel⟩, List.mem_of_getElem? (i := 1083) (by decide +kernel), List.mem_of_getElem? (i := 1446) (by decide +kernel), List.mem_of_getElem? (i := 1447) (by decide +kernel)⟩
theorem lw_p69 : lw_okq (⟨"WetPaintModel", "isComer", "(I)Z"⟩, 52) := ⟨⟨by decide +kernel, by decide +kernel⟩, List.mem_of_getElem? (i := 1083) (by decide +kernel), List.mem_of_getElem? (i := 1454) (by decide +kernel), List.mem_of_getElem? (i := 1455) (by decide +kernel)⟩
theorem lw_p70 : lw_okq (⟨"WetPaintModel", "harmOf", "()I"⟩, 52) := ⟨⟨by decide +kernel, by decide +kernel⟩, List.mem_of_getElem? (i := 1083) (by decide +kernel), List.mem_of_getElem? (i := 1458) (by decide +kernel), List.mem_of_getElem? (i := 1459) (by decide +kernel)⟩
theorem lw_p71 : lw_okq (⟨"WetPaintModel", "goDay", "()V"⟩, 52) := ⟨⟨by decide +kernel, by decide +kernel⟩, List.mem_of_getElem? (i := 1083) (by decide +kernel), List.mem_of_getElem? (i := 1462) (by decide +kernel), List.mem_of_getElem? (i := 1463) (by decide +kernel)⟩
theorem lw_p72 : lw_okq (⟨"WetPaintModel", "print", "(III)V"⟩, 52) := ⟨⟨by decide +kernel, by decide +kernel⟩, List.mem_of_getElem? (i := 1083) (by decide +kernel), List.mem_of_getElem? (i := 1466) (by decide +kernel), List.mem_of_getElem? (i := 1467) (by decide +kernel)⟩
theorem lw_p73 : lw_okq (⟨"WetPaintModel", "comer", "(II)I"⟩, 52) := ⟨⟨by decide +kernel, by decide +kernel⟩, List.mem_of_getElem? (i := 1083) (by decide +kernel), List.mem_of_getElem? (i := 1470) (by decide +kernel), List.mem_of_getElem? (i := 1471) (by decide +kernel)⟩
theorem lw_p74 : lw_okq (⟨"WetPaintModel", "comes", "(I)V"⟩, 52) := ⟨⟨by decide +kernel, by decide +kernel⟩, List.mem_of_getElem? (i := 1083) (by decide +kernel), List.mem_of_getElem? (i := 1474) (by decide +kernel), List.mem_of_getElem? (i := 1475) (by decide +kernel)⟩
theorem lw_p75 : lw_okq (⟨"WetPaintModel", "choice", "(IIII)I"⟩, 52) := ⟨⟨by decide +kernel, by decide +kernel⟩, List.mem_of_getElem? (i := 1083) (by decide +kernel), List.mem_of_getElem? (i := 1478) (by decide +kernel), List.mem_of_getElem? (i := 1479) (by decide +kernel)⟩
theorem lw_p76 : lw_okq (⟨"WetPaintModel", "hangs", "(II)Z"⟩, 52) := ⟨⟨by decide +kernel, by decide +kernel⟩, List.mem_of_getElem? (i := 1083) (by decide +kernel), List.mem_of_getElem? (i := 1482) (by decide +kernel), List.mem_of_getElem? (i := 1483) (by decide +kernel)⟩
theorem lw_p77 : lw_okq (⟨"WetPaintModel", "believes", "()Z"⟩, 52) := ⟨⟨by decide +kernel, by decide +kernel⟩, List.mem_of_getElem? (i := 1083) (by decide +kernel), List.mem_of_getElem? (i := 1486) (by decide +kernel), List.mem_of_getElem? (i := 1487) (by decide +kernel)⟩
theorem lw_p78 : lw_okq (⟨"WetPaintModel", "sits", "(IIII)V"⟩, 52) := ⟨⟨by decide +kernel, by decide +kernel⟩, List.mem_of_getElem? (i := 1083) (by decide +kernel), List.mem_of_getElem? (i := 1493) (by decide +kernel), List.mem_of_getElem? (i := 1494) (by decide +kernel)⟩
theorem lw_p79 : lw_okq (⟨"WetPaintModel", "ofDay", "(I)I"⟩, 52) := ⟨⟨by decide +kernel, by decide +kernel⟩, List.mem_of_getElem? (i := 1083) (by decide +kernel), List.mem_of_getElem? (i := 1501) (by decide +kernel), List.mem_of_getElem? (i := 1502) (by decide +kernel)⟩
def lw_privs_5 : List (MethodName × Nat) := [(⟨"WetPaintModel", "painted", "(I)I"⟩, 52), (⟨"WetPaintModel", "wetness", "(II)I"⟩, 52), (⟨"WetPaintModel", "rateOf", "(I)I"⟩, 52), (⟨"WetPaintModel", "stage", "(II)I"⟩, 52), (⟨"WetPaintModel", "dries", "(II)I"⟩, 52), (⟨"WetPaintModel", "isComer", "(I)Z"⟩, 52), (⟨"WetPaintModel", "harmOf", "()I"⟩, 52), (⟨"WetPaintModel", "goDay", "()V"⟩, 52), (⟨"WetPaintModel", "print", "(III)V"⟩, 52), (⟨"WetPaintModel", "comer", "(II)I"⟩, 52), (⟨"WetPaintModel", "comes", "(I)V"⟩, 52), (⟨"WetPaintModel", "choice", "(IIII)I"⟩, 52), (⟨"WetPaintModel", "hangs", "(II)Z"⟩, 52), (⟨"WetPaintModel", "believes", "()Z"⟩, 52), (⟨"WetPaintModel", "sits", "(IIII)V"⟩, 52), (⟨"WetPaintModel", "ofDay", "(I)I"⟩, 52)]
theorem lw_r5 : ∀ q ∈ lw_privs_5, lw_okq q := List.forall_mem_cons.mpr ⟨lw_p64, List.forall_mem_cons.mpr ⟨lw_p65, List.forall_mem_cons.mpr ⟨lw_p66, List.forall_mem_cons.mpr ⟨lw_p67, List.forall_mem_cons.mpr ⟨lw_p68, List.forall_mem_cons.mpr ⟨lw_p69, List.forall_mem_cons.mpr ⟨lw_p70, List.forall_mem_cons.mpr ⟨lw_p71, List.forall_mem_cons.mpr ⟨lw_p72, List.forall_mem_cons.mpr ⟨lw_p73, List.forall_mem_cons.mpr ⟨lw_p74, List.forall_mem_cons.mpr ⟨lw_p75, List.forall_mem_cons.mpr ⟨lw_p76, List.forall_mem_cons.mpr ⟨lw_p77, List.forall_mem_cons.mpr ⟨lw_p78, List.forall_mem_cons.mpr ⟨lw_p79, fun _ h => absurd h List.not_mem_nil⟩⟩⟩⟩⟩⟩⟩⟩⟩⟩⟩⟩⟩⟩⟩⟩
theorem lw_p80 : lw_okq (⟨"WetPaintModel", "harmBy", "(I)I"⟩, 52) := ⟨⟨by decide +kernel, by decide +kernel⟩, List.mem_of_getElem? (i := 1083) (by decide +kernel), List.mem_of_getElem? (i := 1516) (by decide +kernel), List.mem_of_getElem? (i := 1517) (by decide +kernel)⟩
theorem lw_p81 : lw_okq (⟨"WetPaintModel", "late", "(I)I"⟩, 52) := ⟨⟨by decide +kernel, by decide +kernel⟩, List.mem_of_getElem? (i := 1083) (by decide +kernel), List.mem_of_getElem? (i := 1524) (by decide +kernel), List.mem_of_getElem? (i := 1525) (by decide +kernel)⟩
theorem lw_p82 : lw_okq (⟨"WetPaintModel", "longest", "(I)I"⟩, 52) := ⟨⟨by decide +kernel, by decide +kernel⟩, List.mem_of_getElem? (i := 1083) (by decide +kernel), List.mem_of_getElem? (i := 1528) (by decide +kernel), List.mem_of_getElem? (i := 1529) (by decide +kernel)⟩
theorem lw_p83 : lw_okq (⟨"WetPaintModel", "layLine", "(I)Z"⟩, 52) := ⟨⟨by decide +kernel, by decide +kernel⟩, List.mem_of_getElem? (i := 1083) (by decide +kernel), List.mem_of_getElem? (i := 1547) (by decide +kernel), List.mem_of_getElem? (i := 1548) (by decide +kernel)⟩
theorem lw_p84 : lw_okq (⟨"WetPaintModel", "finish", "(I)I"⟩, 52) := ⟨⟨by decide +kernel, by decide +kernel⟩, List.mem_of_getElem? (i := 1083) (by decide +kernel), List.mem_of_getElem? (i := 1551) (by decide +kernel), List.mem_of_getElem? (i := 1552) (by decide +kernel)⟩
theorem lw_p85 : lw_okq (⟨"WetPaintModel", "isOtherDry", "(II)Z"⟩, 52) := ⟨⟨by decide +kernel, by decide +kernel⟩, List.mem_of_getElem? (i := 1083) (by decide +kernel), List.mem_of_getElem? (i := 1555) (by decide +kernel), List.mem_of_getElem? (i := 1556) (by decide +kernel)⟩
theorem lw_p86 : lw_okq (⟨"WetPaintModel", "hasSight", "(I)Z"⟩, 52) := ⟨⟨by decide +kernel, by decide +kernel⟩, List.mem_of_getElem? (i := 1083) (by decide +kernel), List.mem_of_getElem? (i := 1563) (by decide +kernel), List.mem_of_getElem? (i := 1564) (by decide +kernel)⟩
theorem lw_p87 : lw_okq (⟨"WetPaintModel", "prints", "()I"⟩, 52) := ⟨⟨by decide +kernel, by decide +kernel⟩, List.mem_of_getElem? (i := 1083) (by decide +kernel), List.mem_of_getElem? (i := 1567) (by decide +kernel), List.mem_of_getElem? (i := 1568) (by decide +kernel)⟩
theorem lw_p88 : lw_okq (⟨"WetPaintModel", "printOf", "(II)I"⟩, 52) := ⟨⟨by decide +kernel, by decide +kernel⟩, List.mem_of_getElem? (i := 1083) (by decide +kernel), List.mem_of_getElem? (i := 1571) (by decide +kernel), List.mem_of_getElem? (i := 1572) (by decide +kernel)⟩
theorem lw_p89 : lw_okq (⟨"WetPaintModel", "layFits", "(III)Z"⟩, 52) := ⟨⟨by decide +kernel, by decide +kernel⟩, List.mem_of_getElem? (i := 1083) (by decide +kernel), List.mem_of_getElem? (i := 1579) (by decide +kernel), List.mem_of_getElem? (i := 1580) (by decide +kernel)⟩
theorem lw_p90 : lw_okq (⟨"WetPaintModel", "findFits", "(I)V"⟩, 52) := ⟨⟨by decide +kernel, by decide +kernel⟩, List.mem_of_getElem? (i := 1083) (by decide +kernel), List.mem_of_getElem? (i := 1583) (by decide +kernel), List.mem_of_getElem? (i := 1584) (by decide +kernel)⟩
theorem lw_p91 : lw_okq (⟨"WetPaintModel", "isFit", "(II)Z"⟩, 52) := ⟨⟨by decide +kernel, by decide +kernel⟩, List.mem_of_getElem? (i := 1083) (by decide +kernel), List.mem_of_getElem? (i := 1587) (by decide +kernel), List.mem_of_getElem? (i := 1588) (by decide +kernel)⟩
theorem lw_p92 : lw_okq (⟨"WetPaintModel", "weightOf", "(II)I"⟩, 52) := ⟨⟨by decide +kernel, by decide +kernel⟩, List.mem_of_getElem? (i := 1083) (by decide +kernel), List.mem_of_getElem? (i := 1591) (by decide +kernel), List.mem_of_getElem? (i := 1592) (by decide +kernel)⟩
theorem lw_p93 : lw_okq (⟨"WetPaintModel", "actWorth", "(III)I"⟩, 52) := ⟨⟨by decide +kernel, by decide +kernel⟩, List.mem_of_getElem? (i := 1083) (by decide +kernel), List.mem_of_getElem? (i := 1600) (by decide +kernel), List.mem_of_getElem? (i := 1601) (by decide +kernel)⟩
theorem lw_p94 : lw_okq (⟨"WetPaintModel", "tells", "(I)I"⟩, 52) := ⟨⟨by decide +kernel, by decide +kernel⟩, List.mem_of_getElem? (i := 1083) (by decide +kernel), List.mem_of_getElem? (i := 1608) (by decide +kernel), List.mem_of_getElem? (i := 1609) (by decide +kernel)⟩
theorem lw_p95 : lw_okq (⟨"WetPaintModel", "alarmMany", "()I"⟩, 52) := ⟨⟨by decide +kernel, by decide +kernel⟩, List.mem_of_getElem? (i := 1083) (by decide +kernel), List.mem_of_getElem? (i := 1616) (by decide +kernel), List.mem_of_getElem? (i := 1617) (by decide +kernel)⟩
def lw_privs_6 : List (MethodName × Nat) := [(⟨"WetPaintModel", "harmBy", "(I)I"⟩, 52), (⟨"WetPaintModel", "late", "(I)I"⟩, 52), (⟨"WetPaintModel", "longest", "(I)I"⟩, 52), (⟨"WetPaintModel", "layLine", "(I)Z"⟩, 52), (⟨"WetPaintModel", "finish", "(I)I"⟩, 52), (⟨"WetPaintModel", "isOtherDry", "(II)Z"⟩, 52), (⟨"WetPaintModel", "hasSight", "(I)Z"⟩, 52), (⟨"WetPaintModel", "prints", "()I"⟩, 52), (⟨"WetPaintModel", "printOf", "(II)I"⟩, 52), (⟨"WetPaintModel", "layFits", "(III)Z"⟩, 52), (⟨"WetPaintModel", "findFits", "(I)V"⟩, 52), (⟨"WetPaintModel", "isFit", "(II)Z"⟩, 52), (⟨"WetPaintModel", "weightOf", "(II)I"⟩, 52), (⟨"WetPaintModel", "actWorth", "(III)I"⟩, 52), (⟨"WetPaintModel", "tells", "(I)I"⟩, 52), (⟨"WetPaintModel", "alarmMany", "()I"⟩, 52)]
theorem lw_r6 : ∀ q ∈ lw_privs_6, lw_okq q := List.forall_mem_cons.mpr ⟨lw_p80, List.forall_mem_cons.mpr ⟨lw_p81, List.forall_mem_cons.mpr ⟨lw_p82, List.forall_mem_cons.mpr ⟨lw_p83, List.forall_mem_cons.mpr ⟨lw_p84, List.forall_mem_cons.mpr ⟨lw_p85, List.forall_mem_cons.mpr ⟨lw_p86, List.forall_mem_cons.mpr ⟨lw_p87, List.forall_mem_cons.mpr ⟨lw_p88, List.forall_mem_cons.mpr ⟨lw_p89, List.forall_mem_cons.mpr ⟨lw_p90, List.forall_mem_cons.mpr ⟨lw_p91, List.forall_mem_cons.mpr ⟨lw_p92, List.forall_mem_cons.mpr ⟨lw_p93, List.forall_mem_cons.mpr ⟨lw_p94, List.forall_mem_cons.mpr ⟨lw_p95, fun _ h => absurd h List.not_mem_nil⟩⟩⟩⟩⟩⟩⟩⟩⟩⟩⟩⟩⟩⟩⟩⟩
theorem lw_p96 : lw_okq (⟨"WetPaintModel", "mend", "()I"⟩, 52) := ⟨⟨by decide +kernel, by decide +kernel⟩, List.mem_of_getElem? (i := 1083) (by decide +kernel), List.mem_of_getElem? (i := 1620) (by decide +kernel), List.mem_of_getElem? (i := 1621) (by decide +kernel)⟩
theorem lw_p97 : lw_okq (⟨"WetPaintModel", "falls", "(I)I"⟩, 52) := ⟨⟨by decide +kernel, by decide +kernel⟩, List.mem_of_getElem? (i := 1083) (by decide +kernel), List.mem_of_getElem? (i := 1624) (by decide +kernel), List.mem_of_getElem? (i := 1625) (by decide +kernel)⟩
theorem lw_p98 : lw_okq (⟨"WetPaintModel", "costOf", "(I)I"⟩, 52) := ⟨⟨by decide +kernel, by decide +kernel⟩, List.mem_of_getElem? (i := 1083) (by decide +kernel), List.mem_of_getElem? (i := 1628) (by decide +kernel), List.mem_of_getElem? (i := 1629) (by decide +kernel)⟩
theorem lw_p99 : lw_okq (⟨"WetPaintModel", "alarmOf", "(II)I"⟩, 52) := ⟨⟨by decide +kernel, by decide +kernel⟩, List.mem_of_getElem? (i := 1083) (by decide +kernel), List.mem_of_getElem? (i := 1632) (by decide +kernel), List.mem_of_getElem? (i := 1633) (by decide +kernel)⟩
theorem lw_p100 : lw_okq (⟨"WetPaintModel", "hasPlan", "(I)Z"⟩, 52) := ⟨⟨by decide +kernel, by decide +kernel⟩, List.mem_of_getElem? (i := 1083) (by decide +kernel), List.mem_of_getElem? (i := 1640) (by decide +kernel), List.mem_of_getElem? (i := 1641) (by decide +kernel)⟩
theorem lw_p101 : lw_okq (⟨"WetPaintModel", "planMany", "()I"⟩, 52) := ⟨⟨by decide +kernel, by decide +kernel⟩, List.mem_of_getElem? (i := 1083) (by decide +kernel), List.mem_of_getElem? (i := 1644) (by decide +kernel), List.mem_of_getElem? (i := 1645) (by decide +kernel)⟩
theorem lw_p102 : lw_okq (⟨"WetPaintModel", "planOf", "(II)I"⟩, 52) := ⟨⟨by decide +kernel, by decide +kernel⟩, List.mem_of_getElem? (i := 1083) (by decide +kernel), List.mem_of_getElem? (i := 1648) (by decide +kernel), List.mem_of_getElem? (i := 1649) (by decide +kernel)⟩
theorem lw_p103 : lw_okq (⟨"WetPaintModel", "isAlways", "()Z"⟩, 52) := ⟨⟨by decide +kernel, by decide +kernel⟩, List.mem_of_getElem? (i := 1083) (by decide +kernel), List.mem_of_getElem? (i := 1656) (by decide +kernel), List.mem_of_getElem? (i := 1657) (by decide +kernel)⟩
theorem lw_p104 : lw_okq (⟨"WetPaintModel", "hasDry", "(II)Z"⟩, 52) := ⟨⟨by decide +kernel, by decide +kernel⟩, List.mem_of_getElem? (i := 1083) (by decide +kernel), List.mem_of_getElem? (i := 1660) (by decide +kernel), List.mem_of_getElem? (i := 1661) (by decide +kernel)⟩
theorem lw_p105 : lw_okq (⟨"WetPaintModel", "isDry", "(II)Z"⟩, 52) := ⟨⟨by decide +kernel, by decide +kernel⟩, List.mem_of_getElem? (i := 1083) (by decide +kernel), List.mem_of_getElem? (i := 1664) (by decide +kernel), List.mem_of_getElem? (i := 1665) (by decide +kernel)⟩
theorem lw_p106 : lw_okq (⟨"WetPaintModel", "dryHours", "(IZ)I"⟩, 52) := ⟨⟨by decide +kernel, by decide +kernel⟩, List.mem_of_getElem? (i := 1083) (by decide +kernel), List.mem_of_getElem? (i := 1668) (by decide +kernel), List.mem_of_getElem? (i := 1669) (by decide +kernel)⟩
theorem lw_p107 : lw_okq (⟨"WetPaintModel", "draw", "(I)I"⟩, 52) := ⟨⟨by decide +kernel, by decide +kernel⟩, List.mem_of_getElem? (i := 1083) (by decide +kernel), List.mem_of_getElem? (i := 1676) (by decide +kernel), List.mem_of_getElem? (i := 1677) (by decide +kernel)⟩
theorem lw_p108 : lw_okq (⟨"WetPaintModel", "hasOf", "(I)I"⟩, 52) := ⟨⟨by decide +kernel, by decide +kernel⟩, List.mem_of_getElem? (i := 1083) (by decide +kernel), List.mem_of_getElem? (i := 1685) (by decide +kernel), List.mem_of_getElem? (i := 1686) (by decide +kernel)⟩
theorem lw_p109 : lw_okq (⟨"WetPaintModel", "tryAll", "(IIIIZ)V"⟩, 52) := ⟨⟨by decide +kernel, by decide +kernel⟩, List.mem_of_getElem? (i := 1083) (by decide +kernel), List.mem_of_getElem? (i := 1689) (by decide +kernel), List.mem_of_getElem? (i := 1690) (by decide +kernel)⟩
theorem lw_p110 : lw_okq (⟨"WetPaintModel", "without", "(II)I"⟩, 52) := ⟨⟨by decide +kernel, by decide +kernel⟩, List.mem_of_getElem? (i := 1083) (by decide +kernel), List.mem_of_getElem? (i := 1697) (by decide +kernel), List.mem_of_getElem? (i := 1698) (by decide +kernel)⟩
theorem lw_p111 : lw_okq (⟨"WetPaintModel", "copyAll", "(II)V"⟩, 52) := ⟨⟨by decide +kernel, by decide +kernel⟩, List.mem_of_getElem? (i := 1083) (by decide +kernel), List.mem_of_getElem? (i := 1713) (by decide +kernel), List.mem_of_getElem? (i := 1714) (by decide +kernel)⟩
def lw_privs_7 : List (MethodName × Nat) := [(⟨"WetPaintModel", "mend", "()I"⟩, 52), (⟨"WetPaintModel", "falls", "(I)I"⟩, 52), (⟨"WetPaintModel", "costOf", "(I)I"⟩, 52), (⟨"WetPaintModel", "alarmOf", "(II)I"⟩, 52), (⟨"WetPaintModel", "hasPlan", "(I)Z"⟩, 52), (⟨"WetPaintModel", "planMany", "()I"⟩, 52), (⟨"WetPaintModel", "planOf", "(II)I"⟩, 52), (⟨"WetPaintModel", "isAlways", "()Z"⟩, 52), (⟨"WetPaintModel", "hasDry", "(II)Z"⟩, 52), (⟨"WetPaintModel", "isDry", "(II)Z"⟩, 52), (⟨"WetPaintModel", "dryHours", "(IZ)I"⟩, 52), (⟨"WetPaintModel", "draw", "(I)I"⟩, 52), (⟨"WetPaintModel", "hasOf", "(I)I"⟩, 52), (⟨"WetPaintModel", "tryAll", "(IIIIZ)V"⟩, 52), (⟨"WetPaintModel", "without", "(II)I"⟩, 52), (⟨"WetPaintModel", "copyAll", "(II)V"⟩, 52)]
theorem lw_r7 : ∀ q ∈ lw_privs_7, lw_okq q := List.forall_mem_cons.mpr ⟨lw_p96, List.forall_mem_cons.mpr ⟨lw_p97, List.forall_mem_cons.mpr ⟨lw_p98, List.forall_mem_cons.mpr ⟨lw_p99, List.forall_mem_cons.mpr ⟨lw_p100, List.forall_mem_cons.mpr ⟨lw_p101, List.forall_mem_cons.mpr ⟨lw_p102, List.forall_mem_cons.mpr ⟨lw_p103, List.forall_mem_cons.mpr ⟨lw_p104, List.forall_mem_cons.mpr ⟨lw_p105, List.forall_mem_cons.mpr ⟨lw_p106, List.forall_mem_cons.mpr ⟨lw_p107, List.forall_mem_cons.mpr ⟨lw_p108, List.forall_mem_cons.mpr ⟨lw_p109, List.forall_mem_cons.mpr ⟨lw_p110, List.forall_mem_cons.mpr ⟨lw_p111, fun _ h => absurd h List.not_mem_nil⟩⟩⟩⟩⟩⟩⟩⟩⟩⟩⟩⟩⟩⟩⟩⟩
def lw_privs : List (MethodName × Nat) := lw_privs_1 ++ (lw_privs_2 ++ (lw_privs_3 ++ (lw_privs_4 ++ (lw_privs_5 ++ (lw_privs_6 ++ (lw_privs_7))))))
def lw_tbl : List Cond := k2_sels lw_privs ++ tables_1
theorem lw_privs_ok : ∀ q ∈ lw_privs, lw_okq q := by
  show ∀ q ∈ lw_privs_1 ++ (lw_privs_2 ++ (lw_privs_3 ++ (lw_privs_4 ++ (lw_privs_5 ++ (lw_privs_6 ++ (lw_privs_7)))))), lw_okq q
  exact List.forall_mem_append.mpr ⟨lw_r1, List.forall_mem_append.mpr ⟨lw_r2, List.forall_mem_append.mpr ⟨lw_r3, List.forall_mem_append.mpr ⟨lw_r4, List.forall_mem_append.mpr ⟨lw_r5, List.forall_mem_append.mpr ⟨lw_r6, lw_r7⟩⟩⟩⟩⟩⟩

def RX0 : String := "WetPaint$Day"
def TX0 : u_T := fun k => match k with
  | 0 => ("WetPaint$Day", "harm", "I", false)
  | 1 => ("WetPaint$Day", "trues", "I", false)
  | 2 => ("WetPaint$Day", "found", "I", false)
  | 3 => ("WetPaint$Day", "done", "LWetPaint$Rows;", true)
  | 4 => ("WetPaint$Day", "worth", "I", false)
  | 5 => ("WetPaint$Day", "stripes", "I", false)
  | 6 => ("WetPaint$Day", "sat", "I", false)
  | 7 => ("WetPaint$Day", "deepOf", "[I", true)
  | 8 => ("WetPaint$Day", "faintOf", "[I", true)
  | 9 => ("WetPaint$Day", "printHour", "[I", true)
  | 10 => ("WetPaint$Day", "printKind", "[I", true)
  | 11 => ("WetPaint$Day", "satSince", "[I", true)
  | 12 => ("WetPaint$Day", "queue", "[I", true)
  | 13 => ("WetPaint$Day", "queueHours", "[I", true)
  | _ => ("WetPaint$Day", "queued", "I", false)
def tyX0 : Nat → FieldType := fun k => match k with
  | 0 => .int
  | 1 => .int
  | 2 => .int
  | 3 => .object "WetPaint$Rows"
  | 4 => .int
  | 5 => .int
  | 6 => .int
  | 7 => .array .int
  | 8 => .array .int
  | 9 => .array .int
  | 10 => .array .int
  | 11 => .array .int
  | 12 => .array .int
  | 13 => .array .int
  | _ => .int
abbrev wsX00 : List Cond := u_ws RX0 TX0 15
theorem nmX0 : ∀ a, a < 15 → ∀ b, b < 15 → a ≠ b → (TX0 a).2.1 ≠ (TX0 b).2.1 := by decide +kernel
theorem tyX0_ok : ∀ k, k < 15 → parseFieldDescriptor (TX0 k).2.2.1 = some (tyX0 k) := by decide +kernel
abbrev cX0_init : ByteArray := prog_2_method_1_code
def yX0_init : MethodName := ⟨RX0, "<init>", "()V"⟩
abbrev cX0_forget : ByteArray := prog_2_method_2_code
def yX0_forget : MethodName := ⟨RX0, "forget", "()V"⟩
abbrev cX0_runDays : ByteArray := prog_2_method_3_code
def yX0_runDays : MethodName := ⟨RX0, "runDays", "(LWetPaint$Park;I)I"⟩
abbrev cX0_goThrough : ByteArray := prog_2_method_4_code
def yX0_goThrough : MethodName := ⟨RX0, "goThrough", "(LWetPaint$Park;)V"⟩
abbrev cX0_clear : ByteArray := prog_2_method_5_code
def yX0_clear : MethodName := ⟨RX0, "clear", "(I)V"⟩
abbrev cX0_lineUp : ByteArray := prog_2_method_6_code
def yX0_lineUp : MethodName := ⟨RX0, "lineUp", "(LWetPaint$Park;)V"⟩
abbrev cX0_queueUp : ByteArray := prog_2_method_7_code
def yX0_queueUp : MethodName := ⟨RX0, "queueUp", "(II)V"⟩
abbrev cX0_print : ByteArray := prog_2_method_8_code
def yX0_print : MethodName := ⟨RX0, "print", "(III)V"⟩
abbrev cX0_come : ByteArray := prog_2_method_9_code
def yX0_come : MethodName := ⟨RX0, "come", "(LWetPaint$Park;I)V"⟩
abbrev cX0_findOut : ByteArray := prog_2_method_10_code
def yX0_findOut : MethodName := ⟨RX0, "findOut", "(ZI)V"⟩
abbrev cX0_sit : ByteArray := prog_2_method_11_code
def yX0_sit : MethodName := ⟨RX0, "sit", "(LWetPaint$Park;II)V"⟩
abbrev cX0_choose : ByteArray := prog_2_method_12_code
def yX0_choose : MethodName := ⟨RX0, "choose", "(LWetPaint$Park;IIZ)I"⟩
abbrev cX0_latestPrint : ByteArray := prog_2_method_13_code
def yX0_latestPrint : MethodName := ⟨RX0, "latestPrint", "(II)I"⟩
abbrev cX0_has : ByteArray := prog_2_method_14_code
def yX0_has : MethodName := ⟨RX0, "has", "(II)I"⟩
abbrev cX0_sum : ByteArray := prog_2_method_15_code
def yX0_sum : MethodName := ⟨RX0, "sum", "(II)I"⟩
abbrev cX0_sumOf : ByteArray := prog_2_method_16_code
def yX0_sumOf : MethodName := ⟨RX0, "sumOf", "([I)I"⟩
def RX1 : String := "WetPaint$Fits"
def TX1 : u_T := fun k => match k with
  | 0 => ("WetPaint$Fits", "all", "I", false)
  | 1 => ("WetPaint$Fits", "ofStage", "[I", true)
  | 2 => ("WetPaint$Fits", "hours", "[I", true)
  | 3 => ("WetPaint$Fits", "weights", "[I", true)
  | 4 => ("WetPaint$Fits", "size", "I", false)
  | 5 => ("WetPaint$Fits", "lastPrint", "I", false)
  | _ => ("WetPaint$Fits", "park", "LWetPaint$Park;", false)
def tyX1 : Nat → FieldType := fun k => match k with
  | 0 => .int
  | 1 => .array .int
  | 2 => .array .int
  | 3 => .array .int
  | 4 => .int
  | 5 => .int
  | _ => .object "WetPaint$Park"
abbrev wsX10 : List Cond := u_ws RX1 TX1 7
theorem nmX1 : ∀ a, a < 7 → ∀ b, b < 7 → a ≠ b → (TX1 a).2.1 ≠ (TX1 b).2.1 := by decide +kernel
theorem tyX1_ok : ∀ k, k < 7 → parseFieldDescriptor (TX1 k).2.2.1 = some (tyX1 k) := by decide +kernel
abbrev cX1_init : ByteArray := prog_3_method_1_code
def yX1_init : MethodName := ⟨RX1, "<init>", "()V"⟩
abbrev cX1_find : ByteArray := prog_3_method_2_code
def yX1_find : MethodName := ⟨RX1, "find", "(LWetPaint$Park;LWetPaint$Rows;I)V"⟩
abbrev cX1_weigh : ByteArray := prog_3_method_3_code
def yX1_weigh : MethodName := ⟨RX1, "weigh", "(IILWetPaint$Rows;I)V"⟩
abbrev cX1_isFit : ByteArray := prog_3_method_4_code
def yX1_isFit : MethodName := ⟨RX1, "isFit", "(ILWetPaint$Rows;I)Z"⟩
abbrev cX1_weighStages : ByteArray := prog_3_method_5_code
def yX1_weighStages : MethodName := ⟨RX1, "weighStages", "(I)V"⟩
abbrev cX1_worthOf : ByteArray := prog_3_method_6_code
def yX1_worthOf : MethodName := ⟨RX1, "worthOf", "(ILWetPaint$Rows;I)I"⟩
abbrev cX1_bestAct : ByteArray := prog_3_method_7_code
def yX1_bestAct : MethodName := ⟨RX1, "bestAct", "(LWetPaint$Rows;I)I"⟩
abbrev cX1_unlikeHours : ByteArray := prog_3_method_8_code
def yX1_unlikeHours : MethodName := ⟨RX1, "unlikeHours", "()I"⟩
abbrev cX1_firstHour : ByteArray := prog_3_method_9_code
def yX1_firstHour : MethodName := ⟨RX1, "firstHour", "()I"⟩
abbrev cX1_lastHour : ByteArray := prog_3_method_10_code
def yX1_lastHour : MethodName := ⟨RX1, "lastHour", "()I"⟩
abbrev cX1_isThere : ByteArray := prog_3_method_11_code
def yX1_isThere : MethodName := ⟨RX1, "isThere", "(I)Z"⟩
abbrev cX1_tellingHour : ByteArray := prog_3_method_12_code
def yX1_tellingHour : MethodName := ⟨RX1, "tellingHour", "()I"⟩
def RX2 : String := "WetPaint$Painter"
def TX2 : u_T := fun k => match k with
  | 0 => ("WetPaint$Painter", "allDry", "I", false)
  | 1 => ("WetPaint$Painter", "first", "I", false)
  | _ => ("WetPaint$Painter", "last", "I", false)
def tyX2 : Nat → FieldType := fun k => match k with
  | 0 => .int
  | 1 => .int
  | _ => .int
abbrev wsX20 : List Cond := u_ws RX2 TX2 3
theorem nmX2 : ∀ a, a < 3 → ∀ b, b < 3 → a ≠ b → (TX2 a).2.1 ≠ (TX2 b).2.1 := by decide +kernel
theorem tyX2_ok : ∀ k, k < 3 → parseFieldDescriptor (TX2 k).2.2.1 = some (tyX2 k) := by decide +kernel
abbrev cX2_init : ByteArray := prog_4_method_1_code
def yX2_init : MethodName := ⟨RX2, "<init>", "()V"⟩
abbrev cX2_choose : ByteArray := prog_4_method_2_code
def yX2_choose : MethodName := ⟨RX2, "choose", "(LWetPaint$Park;I)V"⟩
abbrev cX2_hoursFor : ByteArray := prog_4_method_3_code
def yX2_hoursFor : MethodName := ⟨RX2, "hoursFor", "(LWetPaint$Park;I)I"⟩
abbrev cX2_dryAt : ByteArray := prog_4_method_4_code
def yX2_dryAt : MethodName := ⟨RX2, "dryAt", "(LWetPaint$Park;I)I"⟩
abbrev cX2_benchAt : ByteArray := prog_4_method_5_code
def yX2_benchAt : MethodName := ⟨RX2, "benchAt", "(II)I"⟩
def RX3 : String := "WetPaint$Park"
def TX3 : u_T := fun k => match k with
  | 0 => ("WetPaint$Park", "fresh", "I", false)
  | 1 => ("WetPaint$Park", "sticky", "I", false)
  | 2 => ("WetPaint$Park", "belief", "I", false)
  | 3 => ("WetPaint$Park", "benches", "I", false)
  | 4 => ("WetPaint$Park", "rates", "[I", true)
  | 5 => ("WetPaint$Park", "sums", "[I", true)
  | 6 => ("WetPaint$Park", "slats", "[I", true)
  | 7 => ("WetPaint$Park", "painted", "[I", true)
  | 8 => ("WetPaint$Park", "cardFrom", "[I", true)
  | 9 => ("WetPaint$Park", "cardTo", "[I", true)
  | 10 => ("WetPaint$Park", "maybes", "LWetPaint$Rows;", true)
  | 11 => ("WetPaint$Park", "pigeons", "LWetPaint$Rows;", true)
  | _ => ("WetPaint$Park", "comers", "LWetPaint$Rows;", true)
def tyX3 : Nat → FieldType := fun k => match k with
  | 0 => .int
  | 1 => .int
  | 2 => .int
  | 3 => .int
  | 4 => .array .int
  | 5 => .array .int
  | 6 => .array .int
  | 7 => .array .int
  | 8 => .array .int
  | 9 => .array .int
  | 10 => .object "WetPaint$Rows"
  | 11 => .object "WetPaint$Rows"
  | _ => .object "WetPaint$Rows"
abbrev wsX30 : List Cond := u_ws RX3 TX3 13
theorem nmX3 : ∀ a, a < 13 → ∀ b, b < 13 → a ≠ b → (TX3 a).2.1 ≠ (TX3 b).2.1 := by decide +kernel
theorem tyX3_ok : ∀ k, k < 13 → parseFieldDescriptor (TX3 k).2.2.1 = some (tyX3 k) := by decide +kernel
abbrev cX3_init : ByteArray := prog_5_method_1_code
def yX3_init : MethodName := ⟨RX3, "<init>", "()V"⟩
abbrev cX3_clear : ByteArray := prog_5_method_2_code
def yX3_clear : MethodName := ⟨RX3, "clear", "()V"⟩
abbrev cX3_copyFrom : ByteArray := prog_5_method_3_code
def yX3_copyFrom : MethodName := ⟨RX3, "copyFrom", "(LWetPaint$Park;)V"⟩
abbrev cX3_sumRates : ByteArray := prog_5_method_4_code
def yX3_sumRates : MethodName := ⟨RX3, "sumRates", "()V"⟩
abbrev cX3_hasBench : ByteArray := prog_5_method_5_code
def yX3_hasBench : MethodName := ⟨RX3, "hasBench", "(I)Z"⟩
abbrev cX3_wetness : ByteArray := prog_5_method_6_code
def yX3_wetness : MethodName := ⟨RX3, "wetness", "(II)I"⟩
abbrev cX3_stageBy : ByteArray := prog_5_method_7_code
def yX3_stageBy : MethodName := ⟨RX3, "stageBy", "(I)I"⟩
abbrev cX3_stage : ByteArray := prog_5_method_8_code
def yX3_stage : MethodName := ⟨RX3, "stage", "(II)I"⟩
abbrev cX3_stageOf : ByteArray := prog_5_method_9_code
def yX3_stageOf : MethodName := ⟨RX3, "stageOf", "(II)I"⟩
abbrev cX3_setRates : ByteArray := prog_5_method_10_code
def yX3_setRates : MethodName := ⟨RX3, "setRates", "(III)V"⟩
abbrev cX3_addBench : ByteArray := prog_5_method_11_code
def yX3_addBench : MethodName := ⟨RX3, "addBench", "(I)V"⟩
abbrev cX3_setPainted : ByteArray := prog_5_method_12_code
def yX3_setPainted : MethodName := ⟨RX3, "setPainted", "(II)V"⟩
abbrev cX3_setCard : ByteArray := prog_5_method_13_code
def yX3_setCard : MethodName := ⟨RX3, "setCard", "(III)V"⟩
abbrev cX3_dries : ByteArray := prog_5_method_14_code
def yX3_dries : MethodName := ⟨RX3, "dries", "(I)I"⟩
abbrev cX3_hasCard : ByteArray := prog_5_method_15_code
def yX3_hasCard : MethodName := ⟨RX3, "hasCard", "(II)Z"⟩
abbrev cX3_late : ByteArray := prog_5_method_16_code
def yX3_late : MethodName := ⟨RX3, "late", "(I)I"⟩
abbrev cX3_longestDry : ByteArray := prog_5_method_17_code
def yX3_longestDry : MethodName := ⟨RX3, "longestDry", "(I)I"⟩
abbrev cX3_rateAt : ByteArray := prog_5_method_18_code
def yX3_rateAt : MethodName := ⟨RX3, "rateAt", "(I)I"⟩
def RX4 : String := "WetPaint$Reader"
def TX4 : u_T := fun k => match k with
  | 0 => ("WetPaint$Reader", "park", "LWetPaint$Park;", true)
  | 1 => ("WetPaint$Reader", "prints", "LWetPaint$Rows;", true)
  | 2 => ("WetPaint$Reader", "alarms", "LWetPaint$Rows;", true)
  | 3 => ("WetPaint$Reader", "halves", "LWetPaint$Rows;", true)
  | 4 => ("WetPaint$Reader", "fault", "I", false)
  | 5 => ("WetPaint$Reader", "place", "I", false)
  | 6 => ("WetPaint$Reader", "numbers", "[I", true)
  | 7 => ("WetPaint$Reader", "tape", "[B", false)
  | 8 => ("WetPaint$Reader", "length", "I", false)
  | 9 => ("WetPaint$Reader", "at", "I", false)
  | 10 => ("WetPaint$Reader", "token", "I", false)
  | 11 => ("WetPaint$Reader", "from", "I", false)
  | 12 => ("WetPaint$Reader", "value", "I", false)
  | _ => ("WetPaint$Reader", "farthestBench", "I", false)
def tyX4 : Nat → FieldType := fun k => match k with
  | 0 => .object "WetPaint$Park"
  | 1 => .object "WetPaint$Rows"
  | 2 => .object "WetPaint$Rows"
  | 3 => .object "WetPaint$Rows"
  | 4 => .int
  | 5 => .int
  | 6 => .array .int
  | 7 => .array .byte
  | 8 => .int
  | 9 => .int
  | 10 => .int
  | 11 => .int
  | 12 => .int
  | _ => .int
abbrev wsX40 : List Cond := u_ws RX4 TX4 14
theorem nmX4 : ∀ a, a < 14 → ∀ b, b < 14 → a ≠ b → (TX4 a).2.1 ≠ (TX4 b).2.1 := by decide +kernel
theorem tyX4_ok : ∀ k, k < 14 → parseFieldDescriptor (TX4 k).2.2.1 = some (tyX4 k) := by decide +kernel
abbrev cX4_init : ByteArray := prog_6_method_1_code
def yX4_init : MethodName := ⟨RX4, "<init>", "()V"⟩
abbrev cX4_rowsOf : ByteArray := prog_6_method_2_code
def yX4_rowsOf : MethodName := ⟨RX4, "rowsOf", "(I)LWetPaint$Rows;"⟩
abbrev cX4_readText : ByteArray := prog_6_method_3_code
def yX4_readText : MethodName := ⟨RX4, "readText", "([BII)V"⟩
abbrev cX4_endPark : ByteArray := prog_6_method_4_code
def yX4_endPark : MethodName := ⟨RX4, "endPark", "()V"⟩
abbrev cX4_noteFault : ByteArray := prog_6_method_5_code
def yX4_noteFault : MethodName := ⟨RX4, "noteFault", "(II)V"⟩
abbrev cX4_breakOff : ByteArray := prog_6_method_6_code
def yX4_breakOff : MethodName := ⟨RX4, "breakOff", "()V"⟩
abbrev cX4_readLine : ByteArray := prog_6_method_7_code
def yX4_readLine : MethodName := ⟨RX4, "readLine", "(I)V"⟩
abbrev cX4_takeNumber : ByteArray := prog_6_method_8_code
def yX4_takeNumber : MethodName := ⟨RX4, "takeNumber", "(CI)Z"⟩
abbrev cX4_tell : ByteArray := prog_6_method_9_code
def yX4_tell : MethodName := ⟨RX4, "tell", "(I)V"⟩
abbrev cX4_tellPrint : ByteArray := prog_6_method_10_code
def yX4_tellPrint : MethodName := ⟨RX4, "tellPrint", "(I)V"⟩
abbrev cX4_isFull : ByteArray := prog_6_method_11_code
def yX4_isFull : MethodName := ⟨RX4, "isFull", "(I)Z"⟩
abbrev cX4_lineHere : ByteArray := prog_6_method_12_code
def yX4_lineHere : MethodName := ⟨RX4, "lineHere", "(I)I"⟩
abbrev cX4_firstLine : ByteArray := prog_6_method_13_code
def yX4_firstLine : MethodName := ⟨RX4, "firstLine", "(I)I"⟩
abbrev cX4_wordOf : ByteArray := prog_6_method_14_code
def yX4_wordOf : MethodName := ⟨RX4, "wordOf", "(I)Ljava/lang/String;"⟩
abbrev cX4_shapeOf : ByteArray := prog_6_method_15_code
def yX4_shapeOf : MethodName := ⟨RX4, "shapeOf", "(I)Ljava/lang/String;"⟩
abbrev cX4_leastOf : ByteArray := prog_6_method_16_code
def yX4_leastOf : MethodName := ⟨RX4, "leastOf", "(C)I"⟩
abbrev cX4_mostOf : ByteArray := prog_6_method_17_code
def yX4_mostOf : MethodName := ⟨RX4, "mostOf", "(C)I"⟩
abbrev cX4_habitHere : ByteArray := prog_6_method_18_code
def yX4_habitHere : MethodName := ⟨RX4, "habitHere", "()I"⟩
abbrev cX4_habitWord : ByteArray := prog_6_method_19_code
def yX4_habitWord : MethodName := ⟨RX4, "habitWord", "(I)Ljava/lang/String;"⟩
abbrev cX4_isWord : ByteArray := prog_6_method_20_code
def yX4_isWord : MethodName := ⟨RX4, "isWord", "(Ljava/lang/String;)Z"⟩
abbrev cX4_next : ByteArray := prog_6_method_21_code
def yX4_next : MethodName := ⟨RX4, "next", "()V"⟩
abbrev cX4_takeDigits : ByteArray := prog_6_method_22_code
def yX4_takeDigits : MethodName := ⟨RX4, "takeDigits", "()V"⟩
abbrev cX4_byteAt : ByteArray := prog_6_method_23_code
def yX4_byteAt : MethodName := ⟨RX4, "byteAt", "(I)I"⟩
abbrev cX4_isBlank : ByteArray := prog_6_method_24_code
def yX4_isBlank : MethodName := ⟨RX4, "isBlank", "(I)Z"⟩
abbrev cX4_isLetter : ByteArray := prog_6_method_25_code
def yX4_isLetter : MethodName := ⟨RX4, "isLetter", "(I)Z"⟩
abbrev cX4_isDigit : ByteArray := prog_6_method_26_code
def yX4_isDigit : MethodName := ⟨RX4, "isDigit", "(I)Z"⟩
def RX5 : String := "WetPaint$Rows"
def TX5 : u_T := fun k => match k with
  | 0 => ("WetPaint$Rows", "width", "I", true)
  | 1 => ("WetPaint$Rows", "limit", "I", true)
  | 2 => ("WetPaint$Rows", "cells", "[I", true)
  | _ => ("WetPaint$Rows", "size", "I", false)
def tyX5 : Nat → FieldType := fun k => match k with
  | 0 => .int
  | 1 => .int
  | 2 => .array .int
  | _ => .int
abbrev wsX50 : List Cond := u_ws RX5 TX5 4
theorem nmX5 : ∀ a, a < 4 → ∀ b, b < 4 → a ≠ b → (TX5 a).2.1 ≠ (TX5 b).2.1 := by decide +kernel
theorem tyX5_ok : ∀ k, k < 4 → parseFieldDescriptor (TX5 k).2.2.1 = some (tyX5 k) := by decide +kernel
abbrev cX5_init : ByteArray := prog_7_method_1_code
def yX5_init : MethodName := ⟨RX5, "<init>", "(II)V"⟩
abbrev cX5_has : ByteArray := prog_7_method_2_code
def yX5_has : MethodName := ⟨RX5, "has", "(II)Z"⟩
abbrev cX5_isFull : ByteArray := prog_7_method_3_code
def yX5_isFull : MethodName := ⟨RX5, "isFull", "()Z"⟩
abbrev cX5_get : ByteArray := prog_7_method_4_code
def yX5_get : MethodName := ⟨RX5, "get", "(II)I"⟩
abbrev cX5_set : ByteArray := prog_7_method_5_code
def yX5_set : MethodName := ⟨RX5, "set", "(III)V"⟩
abbrev cX5_open : ByteArray := prog_7_method_6_code
def yX5_open : MethodName := ⟨RX5, "open", "()I"⟩
abbrev cX5_add : ByteArray := prog_7_method_7_code
def yX5_add : MethodName := ⟨RX5, "add", "([I)V"⟩
abbrev cX5_remove : ByteArray := prog_7_method_8_code
def yX5_remove : MethodName := ⟨RX5, "remove", "(I)V"⟩
abbrev cX5_copyFrom : ByteArray := prog_7_method_9_code
def yX5_copyFrom : MethodName := ⟨RX5, "copyFrom", "(LWetPaint$Rows;)V"⟩
def RX6 : String := "WetPaint$Told"
def TX6 : u_T := fun k => match k with
  | 0 => ("WetPaint$Told", "tape", "[B", true)
  | 1 => ("WetPaint$Told", "length", "I", false)
  | 2 => ("WetPaint$Told", "fault", "I", false)
  | 3 => ("WetPaint$Told", "place", "I", false)
  | 4 => ("WetPaint$Told", "counts", "[I", true)
  | 5 => ("WetPaint$Told", "parks", "[LWetPaint$Park;", true)
  | _ => ("WetPaint$Told", "rows", "[LWetPaint$Rows;", true)
def tyX6 : Nat → FieldType := fun k => match k with
  | 0 => .array .byte
  | 1 => .int
  | 2 => .int
  | 3 => .int
  | 4 => .array .int
  | 5 => .array (.object "WetPaint$Park")
  | _ => .array (.object "WetPaint$Rows")
abbrev wsX60 : List Cond := u_ws RX6 TX6 7
theorem nmX6 : ∀ a, a < 7 → ∀ b, b < 7 → a ≠ b → (TX6 a).2.1 ≠ (TX6 b).2.1 := by decide +kernel
theorem tyX6_ok : ∀ k, k < 7 → parseFieldDescriptor (TX6 k).2.2.1 = some (tyX6 k) := by decide +kernel
abbrev cX6_init : ByteArray := prog_8_method_1_code
def yX6_init : MethodName := ⟨RX6, "<init>", "()V"⟩
abbrev cX6_put : ByteArray := prog_8_method_2_code
def yX6_put : MethodName := ⟨RX6, "put", "(I)V"⟩
abbrev cX6_howMany : ByteArray := prog_8_method_3_code
def yX6_howMany : MethodName := ⟨RX6, "howMany", "(I)I"⟩
abbrev cX6_parkAt : ByteArray := prog_8_method_4_code
def yX6_parkAt : MethodName := ⟨RX6, "parkAt", "(I)LWetPaint$Park;"⟩
abbrev cX6_rowsAt : ByteArray := prog_8_method_5_code
def yX6_rowsAt : MethodName := ⟨RX6, "rowsAt", "(II)LWetPaint$Rows;"⟩
abbrev cX6_keep : ByteArray := prog_8_method_6_code
def yX6_keep : MethodName := ⟨RX6, "keep", "(IILWetPaint$Reader;)V"⟩
abbrev cX6_copyFrom : ByteArray := prog_8_method_7_code
def yX6_copyFrom : MethodName := ⟨RX6, "copyFrom", "(LWetPaint$Told;)V"⟩
def RX7 : String := "WetPaint$Trial"
def TX7 : u_T := fun k => match k with
  | 0 => ("WetPaint$Trial", "which", "I", false)
  | 1 => ("WetPaint$Trial", "best", "I", false)
  | 2 => ("WetPaint$Trial", "day", "LWetPaint$Day;", true)
  | 3 => ("WetPaint$Trial", "park", "LWetPaint$Park;", true)
  | _ => ("WetPaint$Trial", "seed", "I", false)
def tyX7 : Nat → FieldType := fun k => match k with
  | 0 => .int
  | 1 => .int
  | 2 => .object "WetPaint$Day"
  | 3 => .object "WetPaint$Park"
  | _ => .int
abbrev wsX70 : List Cond := u_ws RX7 TX7 5
theorem nmX7 : ∀ a, a < 5 → ∀ b, b < 5 → a ≠ b → (TX7 a).2.1 ≠ (TX7 b).2.1 := by decide +kernel
theorem tyX7_ok : ∀ k, k < 5 → parseFieldDescriptor (TX7 k).2.2.1 = some (tyX7 k) := by decide +kernel
abbrev cX7_init : ByteArray := prog_9_method_1_code
def yX7_init : MethodName := ⟨RX7, "<init>", "()V"⟩
abbrev cX7_harmNow : ByteArray := prog_9_method_2_code
def yX7_harmNow : MethodName := ⟨RX7, "harmNow", "()I"⟩
abbrev cX7_first : ByteArray := prog_9_method_3_code
def yX7_first : MethodName := ⟨RX7, "first", "(II)V"⟩
abbrev cX7_less : ByteArray := prog_9_method_4_code
def yX7_less : MethodName := ⟨RX7, "less", "(II)V"⟩
abbrev cX7_more : ByteArray := prog_9_method_5_code
def yX7_more : MethodName := ⟨RX7, "more", "(II)V"⟩
abbrev cX7_hangCard : ByteArray := prog_9_method_6_code
def yX7_hangCard : MethodName := ⟨RX7, "hangCard", "(LWetPaint$Park;I)V"⟩
abbrev cX7_harmByHabit : ByteArray := prog_9_method_7_code
def yX7_harmByHabit : MethodName := ⟨RX7, "harmByHabit", "(LWetPaint$Park;I)I"⟩
abbrev cX7_chooseHabit : ByteArray := prog_9_method_8_code
def yX7_chooseHabit : MethodName := ⟨RX7, "chooseHabit", "(LWetPaint$Park;)V"⟩
abbrev cX7_draw : ByteArray := prog_9_method_9_code
def yX7_draw : MethodName := ⟨RX7, "draw", "(LWetPaint$Park;II)V"⟩
abbrev cX7_drawBelow : ByteArray := prog_9_method_10_code
def yX7_drawBelow : MethodName := ⟨RX7, "drawBelow", "(I)I"⟩
abbrev cX7_hasAsTold : ByteArray := prog_9_method_11_code
def yX7_hasAsTold : MethodName := ⟨RX7, "hasAsTold", "(LWetPaint$Park;I)I"⟩
abbrev cX7_hasNow : ByteArray := prog_9_method_12_code
def yX7_hasNow : MethodName := ⟨RX7, "hasNow", "(I)I"⟩
abbrev cX7_comeLater : ByteArray := prog_9_method_13_code
def yX7_comeLater : MethodName := ⟨RX7, "comeLater", "(LWetPaint$Park;I)V"⟩
abbrev cX7_comeElsewhere : ByteArray := prog_9_method_14_code
def yX7_comeElsewhere : MethodName := ⟨RX7, "comeElsewhere", "(LWetPaint$Park;I)V"⟩
abbrev cX7_leaveOneOut : ByteArray := prog_9_method_15_code
def yX7_leaveOneOut : MethodName := ⟨RX7, "leaveOneOut", "(LWetPaint$Park;)V"⟩
abbrev cX7_findWorst : ByteArray := prog_9_method_16_code
def yX7_findWorst : MethodName := ⟨RX7, "findWorst", "(LWetPaint$Park;)V"⟩
abbrev cX7_paintAnew : ByteArray := prog_9_method_17_code
def yX7_paintAnew : MethodName := ⟨RX7, "paintAnew", "(LWetPaint$Park;I)V"⟩
def RX8 : String := "WetPaint"
def TX8 : u_T := fun k => match k with
  | 0 => ("WetPaint", "now", "LWetPaint$Told;", true)
  | 1 => ("WetPaint", "images", "[LWetPaint$Told;", true)
  | 2 => ("WetPaint", "reader", "LWetPaint$Reader;", true)
  | 3 => ("WetPaint", "today", "LWetPaint$Day;", true)
  | 4 => ("WetPaint", "trial", "LWetPaint$Trial;", true)
  | 5 => ("WetPaint", "fits", "LWetPaint$Fits;", true)
  | _ => ("WetPaint", "painter", "LWetPaint$Painter;", true)
def tyX8 : Nat → FieldType := fun k => match k with
  | 0 => .object "WetPaint$Told"
  | 1 => .array (.object "WetPaint$Told")
  | 2 => .object "WetPaint$Reader"
  | 3 => .object "WetPaint$Day"
  | 4 => .object "WetPaint$Trial"
  | 5 => .object "WetPaint$Fits"
  | _ => .object "WetPaint$Painter"
abbrev wsX80 : List Cond := u_ws RX8 TX8 7
theorem nmX8 : ∀ a, a < 7 → ∀ b, b < 7 → a ≠ b → (TX8 a).2.1 ≠ (TX8 b).2.1 := by decide +kernel
theorem tyX8_ok : ∀ k, k < 7 → parseFieldDescriptor (TX8 k).2.2.1 = some (tyX8 k) := by decide +kernel
abbrev cX8_init : ByteArray := prog_1_method_1_code
def yX8_init : MethodName := ⟨RX8, "<init>", "()V"⟩
abbrev cX8_feed : ByteArray := prog_1_method_2_code
def yX8_feed : MethodName := ⟨RX8, "feed", "(IIIII)I"⟩
abbrev cX8_end : ByteArray := prog_1_method_3_code
def yX8_end : MethodName := ⟨RX8, "end", "(I)I"⟩
abbrev cX8_text : ByteArray := prog_1_method_4_code
def yX8_text : MethodName := ⟨RX8, "text", "(II)I"⟩
abbrev cX8_fault : ByteArray := prog_1_method_5_code
def yX8_fault : MethodName := ⟨RX8, "fault", "(I)I"⟩
abbrev cX8_park : ByteArray := prog_1_method_6_code
def yX8_park : MethodName := ⟨RX8, "park", "(II)I"⟩
abbrev cX8_bench : ByteArray := prog_1_method_7_code
def yX8_bench : MethodName := ⟨RX8, "bench", "(III)I"⟩
abbrev cX8_told : ByteArray := prog_1_method_8_code
def yX8_told : MethodName := ⟨RX8, "told", "(IIII)I"⟩
abbrev cX8_wet : ByteArray := prog_1_method_9_code
def yX8_wet : MethodName := ⟨RX8, "wet", "(IIII)I"⟩
abbrev cX8_did : ByteArray := prog_1_method_10_code
def yX8_did : MethodName := ⟨RX8, "did", "(III)I"⟩
abbrev cX8_day : ByteArray := prog_1_method_11_code
def yX8_day : MethodName := ⟨RX8, "day", "(II)I"⟩
abbrev cX8_hang : ByteArray := prog_1_method_12_code
def yX8_hang : MethodName := ⟨RX8, "hang", "(IIZ)I"⟩
abbrev cX8_rule : ByteArray := prog_1_method_13_code
def yX8_rule : MethodName := ⟨RX8, "rule", "(II)I"⟩
abbrev cX8_card : ByteArray := prog_1_method_14_code
def yX8_card : MethodName := ⟨RX8, "card", "(III)I"⟩
abbrev cX8_days : ByteArray := prog_1_method_15_code
def yX8_days : MethodName := ⟨RX8, "days", "(III)I"⟩
abbrev cX8_order : ByteArray := prog_1_method_16_code
def yX8_order : MethodName := ⟨RX8, "order", "(III)I"⟩
abbrev cX8_sight : ByteArray := prog_1_method_17_code
def yX8_sight : MethodName := ⟨RX8, "sight", "(III)I"⟩
abbrev cX8_likely : ByteArray := prog_1_method_18_code
def yX8_likely : MethodName := ⟨RX8, "likely", "(IIIIIZ)I"⟩
abbrev cX8_act : ByteArray := prog_1_method_19_code
def yX8_act : MethodName := ⟨RX8, "act", "(IIIIII)I"⟩
abbrev cX8_read : ByteArray := prog_1_method_20_code
def yX8_read : MethodName := ⟨RX8, "read", "(IIII)I"⟩
abbrev cX8_alarm : ByteArray := prog_1_method_21_code
def yX8_alarm : MethodName := ⟨RX8, "alarm", "(III)I"⟩
abbrev cX8_plan : ByteArray := prog_1_method_22_code
def yX8_plan : MethodName := ⟨RX8, "plan", "(III)I"⟩
abbrev cX8_halves : ByteArray := prog_1_method_23_code
def yX8_halves : MethodName := ⟨RX8, "halves", "(IIII)I"⟩
abbrev cX8_drawn : ByteArray := prog_1_method_24_code
def yX8_drawn : MethodName := ⟨RX8, "drawn", "(IIII)I"⟩
abbrev cX8_otherwise : ByteArray := prog_1_method_25_code
def yX8_otherwise : MethodName := ⟨RX8, "otherwise", "(III)I"⟩
abbrev cX8_spare : ByteArray := prog_1_method_26_code
def yX8_spare : MethodName := ⟨RX8, "spare", "(II)I"⟩
abbrev cX8_anew : ByteArray := prog_1_method_27_code
def yX8_anew : MethodName := ⟨RX8, "anew", "(IIZ)I"⟩
abbrev cX8_count : ByteArray := prog_1_method_28_code
def yX8_count : MethodName := ⟨RX8, "count", "(I)I"⟩
abbrev cX8_image : ByteArray := prog_1_method_29_code
def yX8_image : MethodName := ⟨RX8, "image", "(I)Z"⟩
abbrev cX8_again : ByteArray := prog_1_method_30_code
def yX8_again : MethodName := ⟨RX8, "again", "(I)Z"⟩
abbrev cX8_isHour : ByteArray := prog_1_method_31_code
def yX8_isHour : MethodName := ⟨RX8, "isHour", "(I)Z"⟩
abbrev cX8_atStage : ByteArray := prog_1_method_32_code
def yX8_atStage : MethodName := ⟨RX8, "atStage", "(II)I"⟩
abbrev cX8_inLeastTerms : ByteArray := prog_1_method_33_code
def yX8_inLeastTerms : MethodName := ⟨RX8, "inLeastTerms", "(IIZ)I"⟩
abbrev cX8_rowsAnswer : ByteArray := prog_1_method_34_code
def yX8_rowsAnswer : MethodName := ⟨RX8, "rowsAnswer", "(LWetPaint$Rows;II)I"⟩
abbrev cX8_findFits : ByteArray := prog_1_method_35_code
def yX8_findFits : MethodName := ⟨RX8, "findFits", "(III)Z"⟩
abbrev cX8_costUnheeded : ByteArray := prog_1_method_36_code
def yX8_costUnheeded : MethodName := ⟨RX8, "costUnheeded", "(LWetPaint$Rows;I)I"⟩
abbrev cX8_costHeeded : ByteArray := prog_1_method_37_code
def yX8_costHeeded : MethodName := ⟨RX8, "costHeeded", "(LWetPaint$Rows;I)I"⟩
abbrev cX8_costTimesOf : ByteArray := prog_1_method_38_code
def yX8_costTimesOf : MethodName := ⟨RX8, "costTimesOf", "(LWetPaint$Rows;I)I"⟩
abbrev cX8_fallTimesOf : ByteArray := prog_1_method_39_code
def yX8_fallTimesOf : MethodName := ⟨RX8, "fallTimesOf", "(LWetPaint$Rows;I)I"⟩
abbrev cX8_alarmToMend : ByteArray := prog_1_method_40_code
def yX8_alarmToMend : MethodName := ⟨RX8, "alarmToMend", "(LWetPaint$Rows;)I"⟩
abbrev cX8_allThere : ByteArray := prog_1_method_41_code
def yX8_allThere : MethodName := ⟨RX8, "allThere", "(LWetPaint$Park;LWetPaint$Rows;)Z"⟩
abbrev cX8_dryHalves : ByteArray := prog_1_method_42_code
def yX8_dryHalves : MethodName := ⟨RX8, "dryHalves", "(LWetPaint$Park;LWetPaint$Rows;II)I"⟩
abbrev cX8_oneAlwaysDry : ByteArray := prog_1_method_43_code
def yX8_oneAlwaysDry : MethodName := ⟨RX8, "oneAlwaysDry", "(LWetPaint$Park;LWetPaint$Rows;)I"⟩
abbrev cX8_lastToldOf : ByteArray := prog_1_method_44_code
def yX8_lastToldOf : MethodName := ⟨RX8, "lastToldOf", "(LWetPaint$Rows;I)I"⟩
def RX9 : String := "WetPaintModel"
def TX9 : u_T := fun k => match k with
  | 0 => ("WetPaintModel", "code", "I", false)
  | 1 => ("WetPaintModel", "tape", "[B", true)
  | 2 => ("WetPaintModel", "size", "[I", true)
  | 3 => ("WetPaintModel", "fault", "[I", true)
  | 4 => ("WetPaintModel", "faultPlace", "[I", true)
  | 5 => ("WetPaintModel", "many", "[I", true)
  | 6 => ("WetPaintModel", "parks", "[I", true)
  | 7 => ("WetPaintModel", "sights", "[I", true)
  | 8 => ("WetPaintModel", "alarms", "[I", true)
  | 9 => ("WetPaintModel", "plans", "[I", true)
  | 10 => ("WetPaintModel", "reached", "I", false)
  | 11 => ("WetPaintModel", "length", "I", false)
  | 12 => ("WetPaintModel", "begins", "I", false)
  | 13 => ("WetPaintModel", "sort", "I", false)
  | 14 => ("WetPaintModel", "value", "I", false)
  | 15 => ("WetPaintModel", "word", "J", false)
  | 16 => ("WetPaintModel", "wrongAt", "I", false)
  | 17 => ("WetPaintModel", "laterFault", "I", false)
  | 18 => ("WetPaintModel", "laterPlace", "I", false)
  | 19 => ("WetPaintModel", "told", "[I", true)
  | 20 => ("WetPaintModel", "read", "[I", true)
  | 21 => ("WetPaintModel", "farBench", "I", false)
  | 22 => ("WetPaintModel", "good", "Z", false)
  | 23 => ("WetPaintModel", "now", "[I", true)
  | 24 => ("WetPaintModel", "did", "[I", true)
  | 25 => ("WetPaintModel", "stageAt", "[I", true)
  | 26 => ("WetPaintModel", "cost", "[I", true)
  | 27 => ("WetPaintModel", "missed", "[I", true)
  | 28 => ("WetPaintModel", "hung", "[I", true)
  | 29 => ("WetPaintModel", "trusts", "[I", true)
  | 30 => ("WetPaintModel", "lastPrint", "[I", true)
  | 31 => ("WetPaintModel", "lastDeep", "[I", true)
  | 32 => ("WetPaintModel", "lastSat", "[I", true)
  | 33 => ("WetPaintModel", "deep", "[I", true)
  | 34 => ("WetPaintModel", "faint", "[I", true)
  | 35 => ("WetPaintModel", "harm", "I", false)
  | 36 => ("WetPaintModel", "enjoyed", "I", false)
  | 37 => ("WetPaintModel", "stripes", "I", false)
  | 38 => ("WetPaintModel", "seats", "I", false)
  | 39 => ("WetPaintModel", "trueOnes", "I", false)
  | 40 => ("WetPaintModel", "foundOnes", "I", false)
  | 41 => ("WetPaintModel", "line", "[I", true)
  | 42 => ("WetPaintModel", "done", "[I", true)
  | 43 => ("WetPaintModel", "sight", "I", false)
  | 44 => ("WetPaintModel", "fitWeight", "[I", true)
  | 45 => ("WetPaintModel", "fitAll", "I", false)
  | 46 => ("WetPaintModel", "alarm", "I", false)
  | 47 => ("WetPaintModel", "plan", "I", false)
  | 48 => ("WetPaintModel", "seed", "I", false)
  | 49 => ("WetPaintModel", "otherBest", "I", false)
  | 50 => ("WetPaintModel", "otherMost", "I", false)
  | _ => ("WetPaintModel", "kept", "[Z", true)
def tyX9 : Nat → FieldType := fun k => match k with
  | 0 => .int
  | 1 => .array .byte
  | 2 => .array .int
  | 3 => .array .int
  | 4 => .array .int
  | 5 => .array .int
  | 6 => .array .int
  | 7 => .array .int
  | 8 => .array .int
  | 9 => .array .int
  | 10 => .int
  | 11 => .int
  | 12 => .int
  | 13 => .int
  | 14 => .int
  | 15 => .long
  | 16 => .int
  | 17 => .int
  | 18 => .int
  | 19 => .array .int
  | 20 => .array .int
  | 21 => .int
  | 22 => .boolean
  | 23 => .array .int
  | 24 => .array .int
  | 25 => .array .int
  | 26 => .array .int
  | 27 => .array .int
  | 28 => .array .int
  | 29 => .array .int
  | 30 => .array .int
  | 31 => .array .int
  | 32 => .array .int
  | 33 => .array .int
  | 34 => .array .int
  | 35 => .int
  | 36 => .int
  | 37 => .int
  | 38 => .int
  | 39 => .int
  | 40 => .int
  | 41 => .array .int
  | 42 => .array .int
  | 43 => .int
  | 44 => .array .int
  | 45 => .int
  | 46 => .int
  | 47 => .int
  | 48 => .int
  | 49 => .int
  | 50 => .int
  | _ => .array .boolean
abbrev wsX90 : List Cond := u_ws RX9 TX9 52
theorem nmX9 : ∀ a, a < 52 → ∀ b, b < 52 → a ≠ b → (TX9 a).2.1 ≠ (TX9 b).2.1 := by decide +kernel
theorem tyX9_ok : ∀ k, k < 52 → parseFieldDescriptor (TX9 k).2.2.1 = some (tyX9 k) := by decide +kernel
abbrev cX9_init : ByteArray := prog_11_method_1_code
def yX9_init : MethodName := ⟨RX9, "<init>", "()V"⟩
abbrev cX9_in : ByteArray := prog_11_method_3_code
def yX9_in : MethodName := ⟨RX9, "in", "(III)Z"⟩
abbrev cX9_greater : ByteArray := prog_11_method_4_code
def yX9_greater : MethodName := ⟨RX9, "greater", "(II)I"⟩
abbrev cX9_lesser : ByteArray := prog_11_method_5_code
def yX9_lesser : MethodName := ⟨RX9, "lesser", "(II)I"⟩
abbrev cX9_copyRow : ByteArray := prog_11_method_6_code
def yX9_copyRow : MethodName := ⟨RX9, "copyRow", "([IIII)V"⟩
abbrev cX9_copyAll : ByteArray := prog_11_method_7_code
def yX9_copyAll : MethodName := ⟨RX9, "copyAll", "(II)V"⟩
abbrev cX9_is : ByteArray := prog_11_method_8_code
def yX9_is : MethodName := ⟨RX9, "is", "(II)Z"⟩
abbrev cX9_feed : ByteArray := prog_11_method_9_code
def yX9_feed : MethodName := ⟨RX9, "feed", "(IIIII)I"⟩
abbrev cX9_four : ByteArray := prog_11_method_10_code
def yX9_four : MethodName := ⟨RX9, "four", "(I)V"⟩
abbrev cX9_end : ByteArray := prog_11_method_11_code
def yX9_end : MethodName := ⟨RX9, "end", "(I)I"⟩
abbrev cX9_see : ByteArray := prog_11_method_12_code
def yX9_see : MethodName := ⟨RX9, "see", "()I"⟩
abbrev cX9_token : ByteArray := prog_11_method_13_code
def yX9_token : MethodName := ⟨RX9, "token", "()V"⟩
abbrev cX9_fails : ByteArray := prog_11_method_14_code
def yX9_fails : MethodName := ⟨RX9, "fails", "()Z"⟩
abbrev cX9_later : ByteArray := prog_11_method_15_code
def yX9_later : MethodName := ⟨RX9, "later", "(II)V"⟩
abbrev cX9_take : ByteArray := prog_11_method_16_code
def yX9_take : MethodName := ⟨RX9, "take", "(III)Z"⟩
abbrev cX9_takeBench : ByteArray := prog_11_method_17_code
def yX9_takeBench : MethodName := ⟨RX9, "takeBench", "(I)Z"⟩
abbrev cX9_full : ByteArray := prog_11_method_18_code
def yX9_full : MethodName := ⟨RX9, "full", "(III)V"⟩
abbrev cX9_keep : ByteArray := prog_11_method_19_code
def yX9_keep : MethodName := ⟨RX9, "keep", "(IIIII)V"⟩
abbrev cX9_rateLine : ByteArray := prog_11_method_20_code
def yX9_rateLine : MethodName := ⟨RX9, "rateLine", "()Z"⟩
abbrev cX9_cardLine : ByteArray := prog_11_method_21_code
def yX9_cardLine : MethodName := ⟨RX9, "cardLine", "()Z"⟩
abbrev cX9_paintedLine : ByteArray := prog_11_method_22_code
def yX9_paintedLine : MethodName := ⟨RX9, "paintedLine", "()Z"⟩
abbrev cX9_maybeLine : ByteArray := prog_11_method_23_code
def yX9_maybeLine : MethodName := ⟨RX9, "maybeLine", "(I)Z"⟩
abbrev cX9_pigeonLine : ByteArray := prog_11_method_24_code
def yX9_pigeonLine : MethodName := ⟨RX9, "pigeonLine", "(I)Z"⟩
abbrev cX9_habitBy : ByteArray := prog_11_method_25_code
def yX9_habitBy : MethodName := ⟨RX9, "habitBy", "(J)I"⟩
abbrev cX9_comerLine : ByteArray := prog_11_method_26_code
def yX9_comerLine : MethodName := ⟨RX9, "comerLine", "(I)Z"⟩
abbrev cX9_benchLine : ByteArray := prog_11_method_27_code
def yX9_benchLine : MethodName := ⟨RX9, "benchLine", "(I)Z"⟩
abbrev cX9_plainLine : ByteArray := prog_11_method_28_code
def yX9_plainLine : MethodName := ⟨RX9, "plainLine", "(III)Z"⟩
abbrev cX9_parkLine : ByteArray := prog_11_method_29_code
def yX9_parkLine : MethodName := ⟨RX9, "parkLine", "(JI)Z"⟩
abbrev cX9_sightLine : ByteArray := prog_11_method_30_code
def yX9_sightLine : MethodName := ⟨RX9, "sightLine", "(JI)Z"⟩
abbrev cX9_alarmLine : ByteArray := prog_11_method_31_code
def yX9_alarmLine : MethodName := ⟨RX9, "alarmLine", "(JI)Z"⟩
abbrev cX9_planLine : ByteArray := prog_11_method_32_code
def yX9_planLine : MethodName := ⟨RX9, "planLine", "(JI)Z"⟩
abbrev cX9_lineOf : ByteArray := prog_11_method_33_code
def yX9_lineOf : MethodName := ⟨RX9, "lineOf", "(IJI)Z"⟩
abbrev cX9_lines : ByteArray := prog_11_method_34_code
def yX9_lines : MethodName := ⟨RX9, "lines", "(I)Z"⟩
abbrev cX9_blank : ByteArray := prog_11_method_35_code
def yX9_blank : MethodName := ⟨RX9, "blank", "(I)V"⟩
abbrev cX9_readText : ByteArray := prog_11_method_36_code
def yX9_readText : MethodName := ⟨RX9, "readText", "(I)Z"⟩
abbrev cX9_store : ByteArray := prog_11_method_37_code
def yX9_store : MethodName := ⟨RX9, "store", "([III)V"⟩
abbrev cX9_storeAll : ByteArray := prog_11_method_38_code
def yX9_storeAll : MethodName := ⟨RX9, "storeAll", "(II)V"⟩
abbrev cX9_text : ByteArray := prog_11_method_39_code
def yX9_text : MethodName := ⟨RX9, "text", "(II)I"⟩
abbrev cX9_fault : ByteArray := prog_11_method_40_code
def yX9_fault : MethodName := ⟨RX9, "fault", "(I)I"⟩
abbrev cX9_hand : ByteArray := prog_11_method_41_code
def yX9_hand : MethodName := ⟨RX9, "hand", "(I)Z"⟩
abbrev cX9_isBench : ByteArray := prog_11_method_42_code
def yX9_isBench : MethodName := ⟨RX9, "isBench", "(I)Z"⟩
abbrev cX9_isComer : ByteArray := prog_11_method_43_code
def yX9_isComer : MethodName := ⟨RX9, "isComer", "(I)Z"⟩
abbrev cX9_painted : ByteArray := prog_11_method_44_code
def yX9_painted : MethodName := ⟨RX9, "painted", "(I)I"⟩
abbrev cX9_comer : ByteArray := prog_11_method_45_code
def yX9_comer : MethodName := ⟨RX9, "comer", "(II)I"⟩
abbrev cX9_park : ByteArray := prog_11_method_46_code
def yX9_park : MethodName := ⟨RX9, "park", "(II)I"⟩
abbrev cX9_bench : ByteArray := prog_11_method_47_code
def yX9_bench : MethodName := ⟨RX9, "bench", "(III)I"⟩
abbrev cX9_told : ByteArray := prog_11_method_48_code
def yX9_told : MethodName := ⟨RX9, "told", "(IIII)I"⟩
abbrev cX9_rateOf : ByteArray := prog_11_method_49_code
def yX9_rateOf : MethodName := ⟨RX9, "rateOf", "(I)I"⟩
abbrev cX9_wetness : ByteArray := prog_11_method_50_code
def yX9_wetness : MethodName := ⟨RX9, "wetness", "(II)I"⟩
abbrev cX9_stage : ByteArray := prog_11_method_51_code
def yX9_stage : MethodName := ⟨RX9, "stage", "(II)I"⟩
abbrev cX9_dries : ByteArray := prog_11_method_52_code
def yX9_dries : MethodName := ⟨RX9, "dries", "(II)I"⟩
abbrev cX9_wet : ByteArray := prog_11_method_53_code
def yX9_wet : MethodName := ⟨RX9, "wet", "(IIII)I"⟩
abbrev cX9_hangs : ByteArray := prog_11_method_54_code
def yX9_hangs : MethodName := ⟨RX9, "hangs", "(II)Z"⟩
abbrev cX9_believes : ByteArray := prog_11_method_55_code
def yX9_believes : MethodName := ⟨RX9, "believes", "()Z"⟩
abbrev cX9_print : ByteArray := prog_11_method_56_code
def yX9_print : MethodName := ⟨RX9, "print", "(III)V"⟩
abbrev cX9_costs : ByteArray := prog_11_method_57_code
def yX9_costs : MethodName := ⟨RX9, "costs", "(II)I"⟩
abbrev cX9_choice : ByteArray := prog_11_method_58_code
def yX9_choice : MethodName := ⟨RX9, "choice", "(IIII)I"⟩
abbrev cX9_sits : ByteArray := prog_11_method_59_code
def yX9_sits : MethodName := ⟨RX9, "sits", "(IIII)V"⟩
abbrev cX9_comes : ByteArray := prog_11_method_60_code
def yX9_comes : MethodName := ⟨RX9, "comes", "(I)V"⟩
abbrev cX9_goDay : ByteArray := prog_11_method_61_code
def yX9_goDay : MethodName := ⟨RX9, "goDay", "()V"⟩
abbrev cX9_harmOf : ByteArray := prog_11_method_62_code
def yX9_harmOf : MethodName := ⟨RX9, "harmOf", "()I"⟩
abbrev cX9_did : ByteArray := prog_11_method_63_code
def yX9_did : MethodName := ⟨RX9, "did", "(III)I"⟩
abbrev cX9_sum : ByteArray := prog_11_method_64_code
def yX9_sum : MethodName := ⟨RX9, "sum", "([I)I"⟩
abbrev cX9_ofDay : ByteArray := prog_11_method_65_code
def yX9_ofDay : MethodName := ⟨RX9, "ofDay", "(I)I"⟩
abbrev cX9_day : ByteArray := prog_11_method_66_code
def yX9_day : MethodName := ⟨RX9, "day", "(II)I"⟩
abbrev cX9_hang : ByteArray := prog_11_method_67_code
def yX9_hang : MethodName := ⟨RX9, "hang", "(IIZ)I"⟩
abbrev cX9_harmBy : ByteArray := prog_11_method_68_code
def yX9_harmBy : MethodName := ⟨RX9, "harmBy", "(I)I"⟩
abbrev cX9_rule : ByteArray := prog_11_method_69_code
def yX9_rule : MethodName := ⟨RX9, "rule", "(II)I"⟩
abbrev cX9_late : ByteArray := prog_11_method_70_code
def yX9_late : MethodName := ⟨RX9, "late", "(I)I"⟩
abbrev cX9_longest : ByteArray := prog_11_method_71_code
def yX9_longest : MethodName := ⟨RX9, "longest", "(I)I"⟩
abbrev cX9_card : ByteArray := prog_11_method_72_code
def yX9_card : MethodName := ⟨RX9, "card", "(III)I"⟩
abbrev cX9_common : ByteArray := prog_11_method_73_code
def yX9_common : MethodName := ⟨RX9, "common", "(JJ)J"⟩
abbrev cX9_least : ByteArray := prog_11_method_74_code
def yX9_least : MethodName := ⟨RX9, "least", "(JJZ)I"⟩
abbrev cX9_days : ByteArray := prog_11_method_75_code
def yX9_days : MethodName := ⟨RX9, "days", "(III)I"⟩
abbrev cX9_isOtherDry : ByteArray := prog_11_method_76_code
def yX9_isOtherDry : MethodName := ⟨RX9, "isOtherDry", "(II)Z"⟩
abbrev cX9_finish : ByteArray := prog_11_method_77_code
def yX9_finish : MethodName := ⟨RX9, "finish", "(I)I"⟩
abbrev cX9_layLine : ByteArray := prog_11_method_78_code
def yX9_layLine : MethodName := ⟨RX9, "layLine", "(I)Z"⟩
abbrev cX9_order : ByteArray := prog_11_method_79_code
def yX9_order : MethodName := ⟨RX9, "order", "(III)I"⟩
abbrev cX9_prints : ByteArray := prog_11_method_80_code
def yX9_prints : MethodName := ⟨RX9, "prints", "()I"⟩
abbrev cX9_printOf : ByteArray := prog_11_method_81_code
def yX9_printOf : MethodName := ⟨RX9, "printOf", "(II)I"⟩
abbrev cX9_hasSight : ByteArray := prog_11_method_82_code
def yX9_hasSight : MethodName := ⟨RX9, "hasSight", "(I)Z"⟩
abbrev cX9_sight : ByteArray := prog_11_method_83_code
def yX9_sight : MethodName := ⟨RX9, "sight", "(III)I"⟩
abbrev cX9_isFit : ByteArray := prog_11_method_84_code
def yX9_isFit : MethodName := ⟨RX9, "isFit", "(II)Z"⟩
abbrev cX9_findFits : ByteArray := prog_11_method_85_code
def yX9_findFits : MethodName := ⟨RX9, "findFits", "(I)V"⟩
abbrev cX9_weightOf : ByteArray := prog_11_method_86_code
def yX9_weightOf : MethodName := ⟨RX9, "weightOf", "(II)I"⟩
abbrev cX9_layFits : ByteArray := prog_11_method_87_code
def yX9_layFits : MethodName := ⟨RX9, "layFits", "(III)Z"⟩
abbrev cX9_likely : ByteArray := prog_11_method_88_code
def yX9_likely : MethodName := ⟨RX9, "likely", "(IIIIIZ)I"⟩
abbrev cX9_actWorth : ByteArray := prog_11_method_89_code
def yX9_actWorth : MethodName := ⟨RX9, "actWorth", "(III)I"⟩
abbrev cX9_act : ByteArray := prog_11_method_90_code
def yX9_act : MethodName := ⟨RX9, "act", "(IIIIII)I"⟩
abbrev cX9_tells : ByteArray := prog_11_method_91_code
def yX9_tells : MethodName := ⟨RX9, "tells", "(I)I"⟩
abbrev cX9_read : ByteArray := prog_11_method_92_code
def yX9_read : MethodName := ⟨RX9, "read", "(IIII)I"⟩
abbrev cX9_alarmMany : ByteArray := prog_11_method_93_code
def yX9_alarmMany : MethodName := ⟨RX9, "alarmMany", "()I"⟩
abbrev cX9_alarmOf : ByteArray := prog_11_method_94_code
def yX9_alarmOf : MethodName := ⟨RX9, "alarmOf", "(II)I"⟩
abbrev cX9_costOf : ByteArray := prog_11_method_95_code
def yX9_costOf : MethodName := ⟨RX9, "costOf", "(I)I"⟩
abbrev cX9_falls : ByteArray := prog_11_method_96_code
def yX9_falls : MethodName := ⟨RX9, "falls", "(I)I"⟩
abbrev cX9_mend : ByteArray := prog_11_method_97_code
def yX9_mend : MethodName := ⟨RX9, "mend", "()I"⟩
abbrev cX9_alarm : ByteArray := prog_11_method_98_code
def yX9_alarm : MethodName := ⟨RX9, "alarm", "(III)I"⟩
abbrev cX9_planMany : ByteArray := prog_11_method_99_code
def yX9_planMany : MethodName := ⟨RX9, "planMany", "()I"⟩
abbrev cX9_planOf : ByteArray := prog_11_method_100_code
def yX9_planOf : MethodName := ⟨RX9, "planOf", "(II)I"⟩
abbrev cX9_hasPlan : ByteArray := prog_11_method_101_code
def yX9_hasPlan : MethodName := ⟨RX9, "hasPlan", "(I)Z"⟩
abbrev cX9_plan : ByteArray := prog_11_method_102_code
def yX9_plan : MethodName := ⟨RX9, "plan", "(III)I"⟩
abbrev cX9_isDry : ByteArray := prog_11_method_103_code
def yX9_isDry : MethodName := ⟨RX9, "isDry", "(II)Z"⟩
abbrev cX9_hasDry : ByteArray := prog_11_method_104_code
def yX9_hasDry : MethodName := ⟨RX9, "hasDry", "(II)Z"⟩
abbrev cX9_isAlways : ByteArray := prog_11_method_105_code
def yX9_isAlways : MethodName := ⟨RX9, "isAlways", "()Z"⟩
abbrev cX9_dryHours : ByteArray := prog_11_method_106_code
def yX9_dryHours : MethodName := ⟨RX9, "dryHours", "(IZ)I"⟩
abbrev cX9_halves : ByteArray := prog_11_method_107_code
def yX9_halves : MethodName := ⟨RX9, "halves", "(IIII)I"⟩
abbrev cX9_draw : ByteArray := prog_11_method_108_code
def yX9_draw : MethodName := ⟨RX9, "draw", "(I)I"⟩
abbrev cX9_drawn : ByteArray := prog_11_method_109_code
def yX9_drawn : MethodName := ⟨RX9, "drawn", "(IIII)I"⟩
abbrev cX9_hasOf : ByteArray := prog_11_method_110_code
def yX9_hasOf : MethodName := ⟨RX9, "hasOf", "(I)I"⟩
abbrev cX9_tryAll : ByteArray := prog_11_method_111_code
def yX9_tryAll : MethodName := ⟨RX9, "tryAll", "(IIIIZ)V"⟩
abbrev cX9_otherwise : ByteArray := prog_11_method_112_code
def yX9_otherwise : MethodName := ⟨RX9, "otherwise", "(III)I"⟩
abbrev cX9_without : ByteArray := prog_11_method_113_code
def yX9_without : MethodName := ⟨RX9, "without", "(II)I"⟩
abbrev cX9_spare : ByteArray := prog_11_method_114_code
def yX9_spare : MethodName := ⟨RX9, "spare", "(II)I"⟩
abbrev cX9_anew : ByteArray := prog_11_method_115_code
def yX9_anew : MethodName := ⟨RX9, "anew", "(IIZ)I"⟩
abbrev cX9_count : ByteArray := prog_11_method_116_code
def yX9_count : MethodName := ⟨RX9, "count", "(I)I"⟩
abbrev cX9_image : ByteArray := prog_11_method_117_code
def yX9_image : MethodName := ⟨RX9, "image", "(I)Z"⟩
abbrev cX9_again : ByteArray := prog_11_method_118_code
def yX9_again : MethodName := ⟨RX9, "again", "(I)Z"⟩
def RJx145de : String := "java/io/Serializable"
def TJx145de : u_T := fun k => match k with
  | _ => ("", "", "", false)
def tyJx145de : Nat → FieldType := fun k => match k with
  | _ => .int
abbrev wsJx145de0 : List Cond := u_ws RJx145de TJx145de 0
theorem nmJx145de : ∀ a, a < 0 → ∀ b, b < 0 → a ≠ b → (TJx145de a).2.1 ≠ (TJx145de b).2.1 := by decide +kernel
theorem tyJx145de_ok : ∀ k, k < 0 → parseFieldDescriptor (TJx145de k).2.2.1 = some (tyJx145de k) := by decide +kernel
def RJx9f9b0 : String := "java/lang/CharSequence"
def TJx9f9b0 : u_T := fun k => match k with
  | _ => ("", "", "", false)
def tyJx9f9b0 : Nat → FieldType := fun k => match k with
  | _ => .int
abbrev wsJx9f9b00 : List Cond := u_ws RJx9f9b0 TJx9f9b0 0
theorem nmJx9f9b0 : ∀ a, a < 0 → ∀ b, b < 0 → a ≠ b → (TJx9f9b0 a).2.1 ≠ (TJx9f9b0 b).2.1 := by decide +kernel
theorem tyJx9f9b0_ok : ∀ k, k < 0 → parseFieldDescriptor (TJx9f9b0 k).2.2.1 = some (tyJx9f9b0 k) := by decide +kernel
def RJxb160c : String := "java/lang/Comparable"
def TJxb160c : u_T := fun k => match k with
  | _ => ("", "", "", false)
def tyJxb160c : Nat → FieldType := fun k => match k with
  | _ => .int
abbrev wsJxb160c0 : List Cond := u_ws RJxb160c TJxb160c 0
theorem nmJxb160c : ∀ a, a < 0 → ∀ b, b < 0 → a ≠ b → (TJxb160c a).2.1 ≠ (TJxb160c b).2.1 := by decide +kernel
theorem tyJxb160c_ok : ∀ k, k < 0 → parseFieldDescriptor (TJxb160c k).2.2.1 = some (tyJxb160c k) := by decide +kernel
def RJ9 : String := "java/lang/Math"
def TJ9 : u_T := fun k => match k with
  | _ => ("", "", "", false)
def tyJ9 : Nat → FieldType := fun k => match k with
  | _ => .int
abbrev wsJ90 : List Cond := u_ws RJ9 TJ9 0
theorem nmJ9 : ∀ a, a < 0 → ∀ b, b < 0 → a ≠ b → (TJ9 a).2.1 ≠ (TJ9 b).2.1 := by decide +kernel
theorem tyJ9_ok : ∀ k, k < 0 → parseFieldDescriptor (TJ9 k).2.2.1 = some (tyJ9 k) := by decide +kernel
abbrev cJ9_abs_0f7a4 : ByteArray := prog_12_method_59_code
def yJ9_abs_0f7a4 : MethodName := ⟨RJ9, "abs", "(I)I"⟩
abbrev cJ9_max_7cf53 : ByteArray := prog_12_method_65_code
def yJ9_max_7cf53 : MethodName := ⟨RJ9, "max", "(II)I"⟩
abbrev cJ9_min_7cf53 : ByteArray := prog_12_method_69_code
def yJ9_min_7cf53 : MethodName := ⟨RJ9, "min", "(II)I"⟩
def RJ0 : String := "java/lang/String"
def TJ0 : u_T := fun k => match k with
  | _ => ("", "", "", false)
def tyJ0 : Nat → FieldType := fun k => match k with
  | _ => .int
abbrev wsJ00 : List Cond := u_ws RJ0 TJ0 0
theorem nmJ0 : ∀ a, a < 0 → ∀ b, b < 0 → a ≠ b → (TJ0 a).2.1 ≠ (TJ0 b).2.1 := by decide +kernel
theorem tyJ0_ok : ∀ k, k < 0 → parseFieldDescriptor (TJ0 k).2.2.1 = some (tyJ0 k) := by decide +kernel
abbrev cJ0_length_8abf5 : ByteArray := prog_13_method_54_code
def yJ0_length_8abf5 : MethodName := ⟨RJ0, "length", "()I"⟩
abbrev cJ0_charAt_5068e : ByteArray := prog_13_method_56_code
def yJ0_charAt_5068e : MethodName := ⟨RJ0, "charAt", "(I)C"⟩
abbrev cJ0_coder_7d493 : ByteArray := prog_13_method_152_code
def yJ0_coder_7d493 : MethodName := ⟨RJ0, "coder", "()B"⟩
abbrev cJ0_isLatin1_aae02 : ByteArray := prog_13_method_154_code
def yJ0_isLatin1_aae02 : MethodName := ⟨RJ0, "isLatin1", "()Z"⟩
abbrev cJ0_checkIndex_df160 : ByteArray := prog_13_method_155_code
def yJ0_checkIndex_df160 : MethodName := ⟨RJ0, "checkIndex", "(II)V"⟩
def RJ1 : String := "java/lang/StringLatin1"
def TJ1 : u_T := fun k => match k with
  | _ => ("", "", "", false)
def tyJ1 : Nat → FieldType := fun k => match k with
  | _ => .int
abbrev wsJ10 : List Cond := u_ws RJ1 TJ1 0
theorem nmJ1 : ∀ a, a < 0 → ∀ b, b < 0 → a ≠ b → (TJ1 a).2.1 ≠ (TJ1 b).2.1 := by decide +kernel
theorem tyJ1_ok : ∀ k, k < 0 → parseFieldDescriptor (TJ1 k).2.2.1 = some (tyJ1 k) := by decide +kernel
abbrev cJ1_charAt_3b067 : ByteArray := prog_14_method_2_code
def yJ1_charAt_3b067 : MethodName := ⟨RJ1, "charAt", "([BI)C"⟩
def RJ2 : String := "java/lang/StringUTF16"
def TJ2 : u_T := fun k => match k with
  | _ => ("", "", "", false)
def tyJ2 : Nat → FieldType := fun k => match k with
  | _ => .int
abbrev wsJ20 : List Cond := u_ws RJ2 TJ2 0
theorem nmJ2 : ∀ a, a < 0 → ∀ b, b < 0 → a ≠ b → (TJ2 a).2.1 ≠ (TJ2 b).2.1 := by decide +kernel
theorem tyJ2_ok : ∀ k, k < 0 → parseFieldDescriptor (TJ2 k).2.2.1 = some (tyJ2 k) := by decide +kernel
abbrev cJ2_getChar_3b067 : ByteArray := prog_15_method_5_code
def yJ2_getChar_3b067 : MethodName := ⟨RJ2, "getChar", "([BI)C"⟩
abbrev cJ2_length_9d52b : ByteArray := prog_15_method_6_code
def yJ2_length_9d52b : MethodName := ⟨RJ2, "length", "([B)I"⟩
abbrev cJ2_charAt_3b067 : ByteArray := prog_15_method_83_code
def yJ2_charAt_3b067 : MethodName := ⟨RJ2, "charAt", "([BI)C"⟩
abbrev cJ2_checkIndex_2214a : ByteArray := prog_15_method_91_code
def yJ2_checkIndex_2214a : MethodName := ⟨RJ2, "checkIndex", "(I[B)V"⟩
def RJ10 : String := "java/lang/System"
def TJ10 : u_T := fun k => match k with
  | _ => ("", "", "", false)
def tyJ10 : Nat → FieldType := fun k => match k with
  | _ => .int
abbrev wsJ100 : List Cond := u_ws RJ10 TJ10 0
theorem nmJ10 : ∀ a, a < 0 → ∀ b, b < 0 → a ≠ b → (TJ10 a).2.1 ≠ (TJ10 b).2.1 := by decide +kernel
theorem tyJ10_ok : ∀ k, k < 0 → parseFieldDescriptor (TJ10 k).2.2.1 = some (tyJ10 k) := by decide +kernel
def RJxfd54e : String := "java/lang/constant/Constable"
def TJxfd54e : u_T := fun k => match k with
  | _ => ("", "", "", false)
def tyJxfd54e : Nat → FieldType := fun k => match k with
  | _ => .int
abbrev wsJxfd54e0 : List Cond := u_ws RJxfd54e TJxfd54e 0
theorem nmJxfd54e : ∀ a, a < 0 → ∀ b, b < 0 → a ≠ b → (TJxfd54e a).2.1 ≠ (TJxfd54e b).2.1 := by decide +kernel
theorem tyJxfd54e_ok : ∀ k, k < 0 → parseFieldDescriptor (TJxfd54e k).2.2.1 = some (tyJxfd54e k) := by decide +kernel
def RJx3cf43 : String := "java/lang/constant/ConstantDesc"
def TJx3cf43 : u_T := fun k => match k with
  | _ => ("", "", "", false)
def tyJx3cf43 : Nat → FieldType := fun k => match k with
  | _ => .int
abbrev wsJx3cf430 : List Cond := u_ws RJx3cf43 TJx3cf43 0
theorem nmJx3cf43 : ∀ a, a < 0 → ∀ b, b < 0 → a ≠ b → (TJx3cf43 a).2.1 ≠ (TJx3cf43 b).2.1 := by decide +kernel
theorem tyJx3cf43_ok : ∀ k, k < 0 → parseFieldDescriptor (TJx3cf43 k).2.2.1 = some (tyJx3cf43 k) := by decide +kernel
def RJ7 : String := "java/util/Arrays"
def TJ7 : u_T := fun k => match k with
  | _ => ("", "", "", false)
def tyJ7 : Nat → FieldType := fun k => match k with
  | _ => .int
abbrev wsJ70 : List Cond := u_ws RJ7 TJ7 0
theorem nmJ7 : ∀ a, a < 0 → ∀ b, b < 0 → a ≠ b → (TJ7 a).2.1 ≠ (TJ7 b).2.1 := by decide +kernel
theorem tyJ7_ok : ∀ k, k < 0 → parseFieldDescriptor (TJ7 k).2.2.1 = some (tyJ7 k) := by decide +kernel
abbrev cJ7_fill_53178 : ByteArray := prog_17_method_103_code
def yJ7_fill_53178 : MethodName := ⟨RJ7, "fill", "([II)V"⟩
def RJ3 : String := "jdk/internal/util/Preconditions"
def TJ3 : u_T := fun k => match k with
  | _ => ("", "", "", false)
def tyJ3 : Nat → FieldType := fun k => match k with
  | _ => .int
abbrev wsJ30 : List Cond := u_ws RJ3 TJ3 0
theorem nmJ3 : ∀ a, a < 0 → ∀ b, b < 0 → a ≠ b → (TJ3 a).2.1 ≠ (TJ3 b).2.1 := by decide +kernel
theorem tyJ3_ok : ∀ k, k < 0 → parseFieldDescriptor (TJ3 k).2.2.1 = some (tyJ3 k) := by decide +kernel
abbrev cJ3_checkIndex_8e157 : ByteArray := prog_18_method_11_code
def yJ3_checkIndex_8e157 : MethodName := ⟨RJ3, "checkIndex", "(IILjava/util/function/BiFunction;)I"⟩
def RL : String := "WetPaintLaw"
abbrev cL_law : ByteArray := code
def yL_law : MethodName := ⟨RL, "law", "([I)Z"⟩

abbrev vwCl : List vw_C := [(RX0, TX0, 15), (RX1, TX1, 7), (RX2, TX2, 3), (RX3, TX3, 13), (RX4, TX4, 14), (RX5, TX5, 4), (RX6, TX6, 7), (RX7, TX7, 5), (RX8, TX8, 7), (RX9, TX9, 52)]
