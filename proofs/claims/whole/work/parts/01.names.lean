-- ===== PART A: goes FIRST, ahead of the names: the tables' words, and 'selects' of the private methods out of them =====
/-- a private method of a class that the tables say can be made, by its rows of tables_1 -/
def lw_okq (q : MethodName × Nat) : Prop := (q.1.cls ≠ "java/lang/invoke/MethodHandle" ∧ q.1.cls ≠ "java/lang/invoke/VarHandle") ∧ Cond.instantiable q.1.cls q.2 ∈ tables_1 ∧ Cond.privateMethod q.1 ∈ tables_1 ∧ Cond.instanceMethod q.1 ∈ tables_1
theorem lw_p0 : lw_okq (⟨"PrinterLights$Tones", "toneAt", "(II)I"⟩, 5) := ⟨⟨by decide +kernel, by decide +kernel⟩, List.mem_of_getElem? (i := 26) (by decide +kernel), List.mem_of_getElem? (i := 451) (by decide +kernel), List.mem_of_getElem? (i := 452) (by decide +kernel)⟩
theorem lw_p1 : lw_okq (⟨"PrinterLights$Text", "takesItem", "(IILPrinterLights$Scenes;)Z"⟩, 4) := ⟨⟨by decide +kernel, by decide +kernel⟩, List.mem_of_getElem? (i := 64) (by decide +kernel), List.mem_of_getElem? (i := 485) (by decide +kernel), List.mem_of_getElem? (i := 486) (by decide +kernel)⟩
theorem lw_p2 : lw_okq (⟨"PrinterLights$Text", "readNumbers", "(II)Z"⟩, 4) := ⟨⟨by decide +kernel, by decide +kernel⟩, List.mem_of_getElem? (i := 64) (by decide +kernel), List.mem_of_getElem? (i := 489) (by decide +kernel), List.mem_of_getElem? (i := 490) (by decide +kernel)⟩
theorem lw_p3 : lw_okq (⟨"PrinterLights$Text", "takesShot", "(LPrinterLights$Scenes;)Z"⟩, 4) := ⟨⟨by decide +kernel, by decide +kernel⟩, List.mem_of_getElem? (i := 64) (by decide +kernel), List.mem_of_getElem? (i := 493) (by decide +kernel), List.mem_of_getElem? (i := 494) (by decide +kernel)⟩
theorem lw_p4 : lw_okq (⟨"PrinterLights$Text", "areLights", "(I)Z"⟩, 4) := ⟨⟨by decide +kernel, by decide +kernel⟩, List.mem_of_getElem? (i := 64) (by decide +kernel), List.mem_of_getElem? (i := 498) (by decide +kernel), List.mem_of_getElem? (i := 499) (by decide +kernel)⟩
theorem lw_p5 : lw_okq (⟨"PrinterLights$Text", "takesFade", "(LPrinterLights$Scenes;)Z"⟩, 4) := ⟨⟨by decide +kernel, by decide +kernel⟩, List.mem_of_getElem? (i := 64) (by decide +kernel), List.mem_of_getElem? (i := 509) (by decide +kernel), List.mem_of_getElem? (i := 510) (by decide +kernel)⟩
theorem lw_p6 : lw_okq (⟨"PrinterLights$Text", "takesEffect", "(LPrinterLights$Scenes;)Z"⟩, 4) := ⟨⟨by decide +kernel, by decide +kernel⟩, List.mem_of_getElem? (i := 64) (by decide +kernel), List.mem_of_getElem? (i := 521) (by decide +kernel), List.mem_of_getElem? (i := 522) (by decide +kernel)⟩
theorem lw_p7 : lw_okq (⟨"PrinterLights$Text", "takesCopies", "(LPrinterLights$Scenes;)Z"⟩, 4) := ⟨⟨by decide +kernel, by decide +kernel⟩, List.mem_of_getElem? (i := 64) (by decide +kernel), List.mem_of_getElem? (i := 529) (by decide +kernel), List.mem_of_getElem? (i := 530) (by decide +kernel)⟩
theorem lw_p8 : lw_okq (⟨"PrinterLights$Clock", "changeAtCut", "(LPrinterLights$Scenes;II)V"⟩, 4) := ⟨⟨by decide +kernel, by decide +kernel⟩, List.mem_of_getElem? (i := 194) (by decide +kernel), List.mem_of_getElem? (i := 603) (by decide +kernel), List.mem_of_getElem? (i := 604) (by decide +kernel)⟩
theorem lw_p9 : lw_okq (⟨"PrinterLights$Clock", "note", "(I)V"⟩, 4) := ⟨⟨by decide +kernel, by decide +kernel⟩, List.mem_of_getElem? (i := 194) (by decide +kernel), List.mem_of_getElem? (i := 616) (by decide +kernel), List.mem_of_getElem? (i := 617) (by decide +kernel)⟩
theorem lw_p10 : lw_okq (⟨"PrinterLights$Clock", "walkWithin", "(LPrinterLights$Scenes;I)V"⟩, 4) := ⟨⟨by decide +kernel, by decide +kernel⟩, List.mem_of_getElem? (i := 194) (by decide +kernel), List.mem_of_getElem? (i := 620) (by decide +kernel), List.mem_of_getElem? (i := 621) (by decide +kernel)⟩
theorem lw_p11 : lw_okq (⟨"PrinterLights$Grader", "reachFrom", "(I)V"⟩, 4) := ⟨⟨by decide +kernel, by decide +kernel⟩, List.mem_of_getElem? (i := 216) (by decide +kernel), List.mem_of_getElem? (i := 658) (by decide +kernel), List.mem_of_getElem? (i := 659) (by decide +kernel)⟩
theorem lw_p12 : lw_okq (⟨"PrinterLights$Grader", "choose", "(I)Z"⟩, 4) := ⟨⟨by decide +kernel, by decide +kernel⟩, List.mem_of_getElem? (i := 216) (by decide +kernel), List.mem_of_getElem? (i := 663) (by decide +kernel), List.mem_of_getElem? (i := 664) (by decide +kernel)⟩
theorem lw_p13 : lw_okq (⟨"PrinterLights$Strips", "weighStrip", "(II)V"⟩, 7) := ⟨⟨by decide +kernel, by decide +kernel⟩, List.mem_of_getElem? (i := 237) (by decide +kernel), List.mem_of_getElem? (i := 692) (by decide +kernel), List.mem_of_getElem? (i := 693) (by decide +kernel)⟩
theorem lw_p14 : lw_okq (⟨"PrinterLights$Strips", "explains", "(I)Z"⟩, 7) := ⟨⟨by decide +kernel, by decide +kernel⟩, List.mem_of_getElem? (i := 237) (by decide +kernel), List.mem_of_getElem? (i := 703) (by decide +kernel), List.mem_of_getElem? (i := 704) (by decide +kernel)⟩
theorem lw_p15 : lw_okq (⟨"PrinterLights$Job", "isOpen", "(I)Z"⟩, 7) := ⟨⟨by decide +kernel, by decide +kernel⟩, List.mem_of_getElem? (i := 133) (by decide +kernel), List.mem_of_getElem? (i := 782) (by decide +kernel), List.mem_of_getElem? (i := 783) (by decide +kernel)⟩
def lw_privs_1 : List (MethodName × Nat) := [(⟨"PrinterLights$Tones", "toneAt", "(II)I"⟩, 5), (⟨"PrinterLights$Text", "takesItem", "(IILPrinterLights$Scenes;)Z"⟩, 4), (⟨"PrinterLights$Text", "readNumbers", "(II)Z"⟩, 4), (⟨"PrinterLights$Text", "takesShot", "(LPrinterLights$Scenes;)Z"⟩, 4), (⟨"PrinterLights$Text", "areLights", "(I)Z"⟩, 4), (⟨"PrinterLights$Text", "takesFade", "(LPrinterLights$Scenes;)Z"⟩, 4), (⟨"PrinterLights$Text", "takesEffect", "(LPrinterLights$Scenes;)Z"⟩, 4), (⟨"PrinterLights$Text", "takesCopies", "(LPrinterLights$Scenes;)Z"⟩, 4), (⟨"PrinterLights$Clock", "changeAtCut", "(LPrinterLights$Scenes;II)V"⟩, 4), (⟨"PrinterLights$Clock", "note", "(I)V"⟩, 4), (⟨"PrinterLights$Clock", "walkWithin", "(LPrinterLights$Scenes;I)V"⟩, 4), (⟨"PrinterLights$Grader", "reachFrom", "(I)V"⟩, 4), (⟨"PrinterLights$Grader", "choose", "(I)Z"⟩, 4), (⟨"PrinterLights$Strips", "weighStrip", "(II)V"⟩, 7), (⟨"PrinterLights$Strips", "explains", "(I)Z"⟩, 7), (⟨"PrinterLights$Job", "isOpen", "(I)Z"⟩, 7)]
theorem lw_r1 : ∀ q ∈ lw_privs_1, lw_okq q := List.forall_mem_cons.mpr ⟨lw_p0, List.forall_mem_cons.mpr ⟨lw_p1, List.forall_mem_cons.mpr ⟨lw_p2, List.forall_mem_cons.mpr ⟨lw_p3, List.forall_mem_cons.mpr ⟨lw_p4, List.forall_mem_cons.mpr ⟨lw_p5, List.forall_mem_cons.mpr ⟨lw_p6, List.forall_mem_cons.mpr ⟨lw_p7, List.forall_mem_cons.mpr ⟨lw_p8, List.forall_mem_cons.mpr ⟨lw_p9, List.forall_mem_cons.mpr ⟨lw_p10, List.forall_mem_cons.mpr ⟨lw_p11, List.forall_mem_cons.mpr ⟨lw_p12, List.forall_mem_cons.mpr ⟨lw_p13, List.forall_mem_cons.mpr ⟨lw_p14, List.forall_mem_cons.mpr ⟨lw_p15, fun _ h => absurd h List.not_mem_nil⟩⟩⟩⟩⟩⟩⟩⟩⟩⟩⟩⟩⟩⟩⟩⟩
theorem lw_p16 : lw_okq (⟨"PrinterLights$Planner", "weighSets", "(LPrinterLights$Orders;I)V"⟩, 7) := ⟨⟨by decide +kernel, by decide +kernel⟩, List.mem_of_getElem? (i := 291) (by decide +kernel), List.mem_of_getElem? (i := 826) (by decide +kernel), List.mem_of_getElem? (i := 827) (by decide +kernel)⟩
theorem lw_p17 : lw_okq (⟨"PrinterLights$Planner", "arrange", "(LPrinterLights$Orders;II)V"⟩, 7) := ⟨⟨by decide +kernel, by decide +kernel⟩, List.mem_of_getElem? (i := 291) (by decide +kernel), List.mem_of_getElem? (i := 849) (by decide +kernel), List.mem_of_getElem? (i := 850) (by decide +kernel)⟩
theorem lw_p18 : lw_okq (⟨"PrinterLights$Planner", "weighEndings", "(LPrinterLights$Orders;I)V"⟩, 7) := ⟨⟨by decide +kernel, by decide +kernel⟩, List.mem_of_getElem? (i := 291) (by decide +kernel), List.mem_of_getElem? (i := 853) (by decide +kernel), List.mem_of_getElem? (i := 854) (by decide +kernel)⟩
theorem lw_p19 : lw_okq (⟨"PrinterLights$Planner", "bestNext", "(LPrinterLights$Orders;II)I"⟩, 7) := ⟨⟨by decide +kernel, by decide +kernel⟩, List.mem_of_getElem? (i := 291) (by decide +kernel), List.mem_of_getElem? (i := 857) (by decide +kernel), List.mem_of_getElem? (i := 858) (by decide +kernel)⟩
theorem lw_p20 : lw_okq (⟨"PrinterLights$Planner", "lateWith", "(LPrinterLights$Orders;III)I"⟩, 7) := ⟨⟨by decide +kernel, by decide +kernel⟩, List.mem_of_getElem? (i := 291) (by decide +kernel), List.mem_of_getElem? (i := 861) (by decide +kernel), List.mem_of_getElem? (i := 862) (by decide +kernel)⟩
theorem lw_p21 : lw_okq (⟨"PrinterLightsModel", "activity", "(I)I"⟩, 49) := ⟨⟨by decide +kernel, by decide +kernel⟩, List.mem_of_getElem? (i := 902) (by decide +kernel), List.mem_of_getElem? (i := 1079) (by decide +kernel), List.mem_of_getElem? (i := 1080) (by decide +kernel)⟩
theorem lw_p22 : lw_okq (⟨"PrinterLightsModel", "go", "(II)V"⟩, 49) := ⟨⟨by decide +kernel, by decide +kernel⟩, List.mem_of_getElem? (i := 902) (by decide +kernel), List.mem_of_getElem? (i := 1087) (by decide +kernel), List.mem_of_getElem? (i := 1088) (by decide +kernel)⟩
theorem lw_p23 : lw_okq (⟨"PrinterLightsModel", "exposed", "(IIII)I"⟩, 49) := ⟨⟨by decide +kernel, by decide +kernel⟩, List.mem_of_getElem? (i := 902) (by decide +kernel), List.mem_of_getElem? (i := 1098) (by decide +kernel), List.mem_of_getElem? (i := 1099) (by decide +kernel)⟩
theorem lw_p24 : lw_okq (⟨"PrinterLightsModel", "printed", "(IIIII)I"⟩, 49) := ⟨⟨by decide +kernel, by decide +kernel⟩, List.mem_of_getElem? (i := 902) (by decide +kernel), List.mem_of_getElem? (i := 1106) (by decide +kernel), List.mem_of_getElem? (i := 1107) (by decide +kernel)⟩
theorem lw_p25 : lw_okq (⟨"PrinterLightsModel", "toneAt", "(III)I"⟩, 49) := ⟨⟨by decide +kernel, by decide +kernel⟩, List.mem_of_getElem? (i := 902) (by decide +kernel), List.mem_of_getElem? (i := 1110) (by decide +kernel), List.mem_of_getElem? (i := 1111) (by decide +kernel)⟩
theorem lw_p26 : lw_okq (⟨"PrinterLightsModel", "readAll", "()I"⟩, 49) := ⟨⟨by decide +kernel, by decide +kernel⟩, List.mem_of_getElem? (i := 902) (by decide +kernel), List.mem_of_getElem? (i := 1127) (by decide +kernel), List.mem_of_getElem? (i := 1128) (by decide +kernel)⟩
theorem lw_p27 : lw_okq (⟨"PrinterLightsModel", "shotItem", "()Z"⟩, 49) := ⟨⟨by decide +kernel, by decide +kernel⟩, List.mem_of_getElem? (i := 902) (by decide +kernel), List.mem_of_getElem? (i := 1131) (by decide +kernel), List.mem_of_getElem? (i := 1132) (by decide +kernel)⟩
theorem lw_p28 : lw_okq (⟨"PrinterLightsModel", "numbers", "(I)Z"⟩, 49) := ⟨⟨by decide +kernel, by decide +kernel⟩, List.mem_of_getElem? (i := 902) (by decide +kernel), List.mem_of_getElem? (i := 1135) (by decide +kernel), List.mem_of_getElem? (i := 1136) (by decide +kernel)⟩
theorem lw_p29 : lw_okq (⟨"PrinterLightsModel", "areLights", "(I)Z"⟩, 49) := ⟨⟨by decide +kernel, by decide +kernel⟩, List.mem_of_getElem? (i := 902) (by decide +kernel), List.mem_of_getElem? (i := 1139) (by decide +kernel), List.mem_of_getElem? (i := 1140) (by decide +kernel)⟩
theorem lw_p30 : lw_okq (⟨"PrinterLightsModel", "fadeItem", "()Z"⟩, 49) := ⟨⟨by decide +kernel, by decide +kernel⟩, List.mem_of_getElem? (i := 902) (by decide +kernel), List.mem_of_getElem? (i := 1143) (by decide +kernel), List.mem_of_getElem? (i := 1144) (by decide +kernel)⟩
theorem lw_p31 : lw_okq (⟨"PrinterLightsModel", "effectItem", "()Z"⟩, 49) := ⟨⟨by decide +kernel, by decide +kernel⟩, List.mem_of_getElem? (i := 902) (by decide +kernel), List.mem_of_getElem? (i := 1147) (by decide +kernel), List.mem_of_getElem? (i := 1148) (by decide +kernel)⟩
def lw_privs_2 : List (MethodName × Nat) := [(⟨"PrinterLights$Planner", "weighSets", "(LPrinterLights$Orders;I)V"⟩, 7), (⟨"PrinterLights$Planner", "arrange", "(LPrinterLights$Orders;II)V"⟩, 7), (⟨"PrinterLights$Planner", "weighEndings", "(LPrinterLights$Orders;I)V"⟩, 7), (⟨"PrinterLights$Planner", "bestNext", "(LPrinterLights$Orders;II)I"⟩, 7), (⟨"PrinterLights$Planner", "lateWith", "(LPrinterLights$Orders;III)I"⟩, 7), (⟨"PrinterLightsModel", "activity", "(I)I"⟩, 49), (⟨"PrinterLightsModel", "go", "(II)V"⟩, 49), (⟨"PrinterLightsModel", "exposed", "(IIII)I"⟩, 49), (⟨"PrinterLightsModel", "printed", "(IIIII)I"⟩, 49), (⟨"PrinterLightsModel", "toneAt", "(III)I"⟩, 49), (⟨"PrinterLightsModel", "readAll", "()I"⟩, 49), (⟨"PrinterLightsModel", "shotItem", "()Z"⟩, 49), (⟨"PrinterLightsModel", "numbers", "(I)Z"⟩, 49), (⟨"PrinterLightsModel", "areLights", "(I)Z"⟩, 49), (⟨"PrinterLightsModel", "fadeItem", "()Z"⟩, 49), (⟨"PrinterLightsModel", "effectItem", "()Z"⟩, 49)]
theorem lw_r2 : ∀ q ∈ lw_privs_2, lw_okq q := List.forall_mem_cons.mpr ⟨lw_p16, List.forall_mem_cons.mpr ⟨lw_p17, List.forall_mem_cons.mpr ⟨lw_p18, List.forall_mem_cons.mpr ⟨lw_p19, List.forall_mem_cons.mpr ⟨lw_p20, List.forall_mem_cons.mpr ⟨lw_p21, List.forall_mem_cons.mpr ⟨lw_p22, List.forall_mem_cons.mpr ⟨lw_p23, List.forall_mem_cons.mpr ⟨lw_p24, List.forall_mem_cons.mpr ⟨lw_p25, List.forall_mem_cons.mpr ⟨lw_p26, List.forall_mem_cons.mpr ⟨lw_p27, List.forall_mem_cons.mpr ⟨lw_p28, List.forall_mem_cons.mpr ⟨lw_p29, List.forall_mem_cons.mpr ⟨lw_p30, List.forall_mem_cons.mpr ⟨lw_p31, fun _ h => absurd h List.not_mem_nil⟩⟩⟩⟩⟩⟩⟩⟩⟩⟩⟩⟩⟩⟩⟩⟩
theorem lw_p32 : lw_okq (⟨"PrinterLightsModel", "copyItem", "()Z"⟩, 49) := ⟨⟨by decide +kernel, by decide +kernel⟩, List.mem_of_getElem? (i := 902) (by decide +kernel), List.mem_of_getElem? (i := 1151) (by decide +kernel), List.mem_of_getElem? (i := 1152) (by decide +kernel)⟩
theorem lw_p33 : lw_okq (⟨"PrinterLightsModel", "copyList", "(II)V"⟩, 49) := ⟨⟨by decide +kernel, by decide +kernel⟩, List.mem_of_getElem? (i := 902) (by decide +kernel), List.mem_of_getElem? (i := 1159) (by decide +kernel), List.mem_of_getElem? (i := 1160) (by decide +kernel)⟩
theorem lw_p34 : lw_okq (⟨"PrinterLightsModel", "frameMany", "()I"⟩, 49) := ⟨⟨by decide +kernel, by decide +kernel⟩, List.mem_of_getElem? (i := 902) (by decide +kernel), List.mem_of_getElem? (i := 1163) (by decide +kernel), List.mem_of_getElem? (i := 1164) (by decide +kernel)⟩
theorem lw_p35 : lw_okq (⟨"PrinterLightsModel", "find", "(I)Z"⟩, 49) := ⟨⟨by decide +kernel, by decide +kernel⟩, List.mem_of_getElem? (i := 902) (by decide +kernel), List.mem_of_getElem? (i := 1171) (by decide +kernel), List.mem_of_getElem? (i := 1172) (by decide +kernel)⟩
theorem lw_p36 : lw_okq (⟨"PrinterLightsModel", "lightHere", "(I)I"⟩, 49) := ⟨⟨by decide +kernel, by decide +kernel⟩, List.mem_of_getElem? (i := 902) (by decide +kernel), List.mem_of_getElem? (i := 1175) (by decide +kernel), List.mem_of_getElem? (i := 1176) (by decide +kernel)⟩
theorem lw_p37 : lw_okq (⟨"PrinterLightsModel", "changes", "(I)Z"⟩, 49) := ⟨⟨by decide +kernel, by decide +kernel⟩, List.mem_of_getElem? (i := 902) (by decide +kernel), List.mem_of_getElem? (i := 1187) (by decide +kernel), List.mem_of_getElem? (i := 1188) (by decide +kernel)⟩
theorem lw_p38 : lw_okq (⟨"PrinterLightsModel", "lightOf", "(II)I"⟩, 49) := ⟨⟨by decide +kernel, by decide +kernel⟩, List.mem_of_getElem? (i := 902) (by decide +kernel), List.mem_of_getElem? (i := 1191) (by decide +kernel), List.mem_of_getElem? (i := 1192) (by decide +kernel)⟩
theorem lw_p39 : lw_okq (⟨"PrinterLightsModel", "isLet", "(I)Z"⟩, 49) := ⟨⟨by decide +kernel, by decide +kernel⟩, List.mem_of_getElem? (i := 902) (by decide +kernel), List.mem_of_getElem? (i := 1195) (by decide +kernel), List.mem_of_getElem? (i := 1196) (by decide +kernel)⟩
theorem lw_p40 : lw_okq (⟨"PrinterLightsModel", "laySteps", "(III)V"⟩, 49) := ⟨⟨by decide +kernel, by decide +kernel⟩, List.mem_of_getElem? (i := 902) (by decide +kernel), List.mem_of_getElem? (i := 1211) (by decide +kernel), List.mem_of_getElem? (i := 1212) (by decide +kernel)⟩
theorem lw_p41 : lw_okq (⟨"PrinterLightsModel", "mayBe", "(IIIII)Z"⟩, 49) := ⟨⟨by decide +kernel, by decide +kernel⟩, List.mem_of_getElem? (i := 902) (by decide +kernel), List.mem_of_getElem? (i := 1216) (by decide +kernel), List.mem_of_getElem? (i := 1217) (by decide +kernel)⟩
theorem lw_p42 : lw_okq (⟨"PrinterLightsModel", "explains", "(I)Z"⟩, 49) := ⟨⟨by decide +kernel, by decide +kernel⟩, List.mem_of_getElem? (i := 902) (by decide +kernel), List.mem_of_getElem? (i := 1239) (by decide +kernel), List.mem_of_getElem? (i := 1240) (by decide +kernel)⟩
theorem lw_p43 : lw_okq (⟨"PrinterLightsModel", "isSpliced", "(I)Z"⟩, 49) := ⟨⟨by decide +kernel, by decide +kernel⟩, List.mem_of_getElem? (i := 902) (by decide +kernel), List.mem_of_getElem? (i := 1272) (by decide +kernel), List.mem_of_getElem? (i := 1273) (by decide +kernel)⟩
theorem lw_p44 : lw_okq (⟨"PrinterLightsModel", "openMany", "()I"⟩, 49) := ⟨⟨by decide +kernel, by decide +kernel⟩, List.mem_of_getElem? (i := 902) (by decide +kernel), List.mem_of_getElem? (i := 1280) (by decide +kernel), List.mem_of_getElem? (i := 1281) (by decide +kernel)⟩
theorem lw_p45 : lw_okq (⟨"PrinterLightsModel", "layBest", "()I"⟩, 49) := ⟨⟨by decide +kernel, by decide +kernel⟩, List.mem_of_getElem? (i := 902) (by decide +kernel), List.mem_of_getElem? (i := 1300) (by decide +kernel), List.mem_of_getElem? (i := 1301) (by decide +kernel)⟩
theorem lw_p46 : lw_okq (⟨"PrinterLightsModel", "setOf", "(II)I"⟩, 49) := ⟨⟨by decide +kernel, by decide +kernel⟩, List.mem_of_getElem? (i := 902) (by decide +kernel), List.mem_of_getElem? (i := 1305) (by decide +kernel), List.mem_of_getElem? (i := 1306) (by decide +kernel)⟩
theorem lw_p47 : lw_okq (⟨"PrinterLightsModel", "layLate", "(I)I"⟩, 49) := ⟨⟨by decide +kernel, by decide +kernel⟩, List.mem_of_getElem? (i := 902) (by decide +kernel), List.mem_of_getElem? (i := 1309) (by decide +kernel), List.mem_of_getElem? (i := 1310) (by decide +kernel)⟩
def lw_privs_3 : List (MethodName × Nat) := [(⟨"PrinterLightsModel", "copyItem", "()Z"⟩, 49), (⟨"PrinterLightsModel", "copyList", "(II)V"⟩, 49), (⟨"PrinterLightsModel", "frameMany", "()I"⟩, 49), (⟨"PrinterLightsModel", "find", "(I)Z"⟩, 49), (⟨"PrinterLightsModel", "lightHere", "(I)I"⟩, 49), (⟨"PrinterLightsModel", "changes", "(I)Z"⟩, 49), (⟨"PrinterLightsModel", "lightOf", "(II)I"⟩, 49), (⟨"PrinterLightsModel", "isLet", "(I)Z"⟩, 49), (⟨"PrinterLightsModel", "laySteps", "(III)V"⟩, 49), (⟨"PrinterLightsModel", "mayBe", "(IIIII)Z"⟩, 49), (⟨"PrinterLightsModel", "explains", "(I)Z"⟩, 49), (⟨"PrinterLightsModel", "isSpliced", "(I)Z"⟩, 49), (⟨"PrinterLightsModel", "openMany", "()I"⟩, 49), (⟨"PrinterLightsModel", "layBest", "()I"⟩, 49), (⟨"PrinterLightsModel", "setOf", "(II)I"⟩, 49), (⟨"PrinterLightsModel", "layLate", "(I)I"⟩, 49)]
theorem lw_r3 : ∀ q ∈ lw_privs_3, lw_okq q := List.forall_mem_cons.mpr ⟨lw_p32, List.forall_mem_cons.mpr ⟨lw_p33, List.forall_mem_cons.mpr ⟨lw_p34, List.forall_mem_cons.mpr ⟨lw_p35, List.forall_mem_cons.mpr ⟨lw_p36, List.forall_mem_cons.mpr ⟨lw_p37, List.forall_mem_cons.mpr ⟨lw_p38, List.forall_mem_cons.mpr ⟨lw_p39, List.forall_mem_cons.mpr ⟨lw_p40, List.forall_mem_cons.mpr ⟨lw_p41, List.forall_mem_cons.mpr ⟨lw_p42, List.forall_mem_cons.mpr ⟨lw_p43, List.forall_mem_cons.mpr ⟨lw_p44, List.forall_mem_cons.mpr ⟨lw_p45, List.forall_mem_cons.mpr ⟨lw_p46, List.forall_mem_cons.mpr ⟨lw_p47, fun _ h => absurd h List.not_mem_nil⟩⟩⟩⟩⟩⟩⟩⟩⟩⟩⟩⟩⟩⟩⟩⟩
theorem lw_p48 : lw_okq (⟨"PrinterLightsModel", "lateBy", "(II)I"⟩, 49) := ⟨⟨by decide +kernel, by decide +kernel⟩, List.mem_of_getElem? (i := 902) (by decide +kernel), List.mem_of_getElem? (i := 1313) (by decide +kernel), List.mem_of_getElem? (i := 1314) (by decide +kernel)⟩
theorem lw_p49 : lw_okq (⟨"PrinterLightsModel", "orderAt", "(II)I"⟩, 49) := ⟨⟨by decide +kernel, by decide +kernel⟩, List.mem_of_getElem? (i := 902) (by decide +kernel), List.mem_of_getElem? (i := 1320) (by decide +kernel), List.mem_of_getElem? (i := 1321) (by decide +kernel)⟩
theorem lw_p50 : lw_okq (⟨"PrinterLightsModel", "copyShots", "(II)V"⟩, 49) := ⟨⟨by decide +kernel, by decide +kernel⟩, List.mem_of_getElem? (i := 902) (by decide +kernel), List.mem_of_getElem? (i := 1328) (by decide +kernel), List.mem_of_getElem? (i := 1329) (by decide +kernel)⟩
def lw_privs_4 : List (MethodName × Nat) := [(⟨"PrinterLightsModel", "lateBy", "(II)I"⟩, 49), (⟨"PrinterLightsModel", "orderAt", "(II)I"⟩, 49), (⟨"PrinterLightsModel", "copyShots", "(II)V"⟩, 49)]
theorem lw_r4 : ∀ q ∈ lw_privs_4, lw_okq q := List.forall_mem_cons.mpr ⟨lw_p48, List.forall_mem_cons.mpr ⟨lw_p49, List.forall_mem_cons.mpr ⟨lw_p50, fun _ h => absurd h List.not_mem_nil⟩⟩⟩
def lw_privs : List (MethodName × Nat) := lw_privs_1 ++ (lw_privs_2 ++ (lw_privs_3 ++ (lw_privs_4)))
def lw_tbl : List Cond := k2_sels lw_privs ++ tables_1
theorem lw_privs_ok : ∀ q ∈ lw_privs, lw_okq q := by
  show ∀ q ∈ lw_privs_1 ++ (lw_privs_2 ++ (lw_privs_3 ++ (lw_privs_4))), lw_okq q
  exact List.forall_mem_append.mpr ⟨lw_r1, List.forall_mem_append.mpr ⟨lw_r2, List.forall_mem_append.mpr ⟨lw_r3, lw_r4⟩⟩⟩
def RX0 : String := "PrinterLights$Clock"
def TX0 : u_T := fun k => match k with
  | 0 => ("PrinterLights$Clock", "tooSoon", "[I", true)
  | 1 => ("PrinterLights$Clock", "soonCount", "I", false)
  | 2 => ("PrinterLights$Clock", "changes", "I", false)
  | _ => ("PrinterLights$Clock", "latest", "I", false)
def tyX0 : Nat → FieldType := fun k => match k with
  | 0 => .array .int
  | 1 => .int
  | 2 => .int
  | _ => .int
abbrev wsX00 : List Cond := u_ws RX0 TX0 4
theorem nmX0 : ∀ a, a < 4 → ∀ b, b < 4 → a ≠ b → (TX0 a).2.1 ≠ (TX0 b).2.1 := by decide +kernel
theorem tyX0_ok : ∀ k, k < 4 → parseFieldDescriptor (TX0 k).2.2.1 = some (tyX0 k) := by decide +kernel
abbrev cX0_init : ByteArray := prog_2_method_1_code
def yX0_init : MethodName := ⟨RX0, "<init>", "()V"⟩
abbrev cX0_walk : ByteArray := prog_2_method_2_code
def yX0_walk : MethodName := ⟨RX0, "walk", "(LPrinterLights$Scenes;I)V"⟩
abbrev cX0_changeAtCut : ByteArray := prog_2_method_3_code
def yX0_changeAtCut : MethodName := ⟨RX0, "changeAtCut", "(LPrinterLights$Scenes;II)V"⟩
abbrev cX0_isFree : ByteArray := prog_2_method_4_code
def yX0_isFree : MethodName := ⟨RX0, "isFree", "(LPrinterLights$Scenes;I)Z"⟩
abbrev cX0_walkWithin : ByteArray := prog_2_method_5_code
def yX0_walkWithin : MethodName := ⟨RX0, "walkWithin", "(LPrinterLights$Scenes;I)V"⟩
abbrev cX0_note : ByteArray := prog_2_method_6_code
def yX0_note : MethodName := ⟨RX0, "note", "(I)V"⟩
def RX1 : String := "PrinterLights$Grader"
def TX1 : u_T := fun k => match k with
  | 0 => ("PrinterLights$Grader", "toGo", "[I", true)
  | 1 => ("PrinterLights$Grader", "reach", "[I", true)
  | 2 => ("PrinterLights$Grader", "chosen", "[I", true)
  | _ => ("PrinterLights$Grader", "steps", "I", false)
def tyX1 : Nat → FieldType := fun k => match k with
  | 0 => .array .int
  | 1 => .array .int
  | 2 => .array .int
  | _ => .int
abbrev wsX10 : List Cond := u_ws RX1 TX1 4
theorem nmX1 : ∀ a, a < 4 → ∀ b, b < 4 → a ≠ b → (TX1 a).2.1 ≠ (TX1 b).2.1 := by decide +kernel
theorem tyX1_ok : ∀ k, k < 4 → parseFieldDescriptor (TX1 k).2.2.1 = some (tyX1 k) := by decide +kernel
abbrev cX1_init : ByteArray := prog_3_method_1_code
def yX1_init : MethodName := ⟨RX1, "<init>", "()V"⟩
abbrev cX1_solve : ByteArray := prog_3_method_2_code
def yX1_solve : MethodName := ⟨RX1, "solve", "(LPrinterLights$Tones;LPrinterLights$Job;IIII)Z"⟩
abbrev cX1_reachFrom : ByteArray := prog_3_method_3_code
def yX1_reachFrom : MethodName := ⟨RX1, "reachFrom", "(I)V"⟩
abbrev cX1_choose : ByteArray := prog_3_method_4_code
def yX1_choose : MethodName := ⟨RX1, "choose", "(I)Z"⟩
def RX2 : String := "PrinterLights$Job"
def TX2 : u_T := fun k => match k with
  | 0 => ("PrinterLights$Job", "scenes", "LPrinterLights$Scenes;", true)
  | 1 => ("PrinterLights$Job", "density", "[I", true)
  | 2 => ("PrinterLights$Job", "aim", "[I", true)
  | 3 => ("PrinterLights$Job", "reelOf", "[I", true)
  | 4 => ("PrinterLights$Job", "edgeOf", "[I", true)
  | 5 => ("PrinterLights$Job", "reels", "LPrinterLights$Reels;", true)
  | _ => ("PrinterLights$Job", "hold", "[I", true)
def tyX2 : Nat → FieldType := fun k => match k with
  | 0 => .object "PrinterLights$Scenes"
  | 1 => .array .int
  | 2 => .array .int
  | 3 => .array .int
  | 4 => .array .int
  | 5 => .object "PrinterLights$Reels"
  | _ => .array .int
abbrev wsX20 : List Cond := u_ws RX2 TX2 7
theorem nmX2 : ∀ a, a < 7 → ∀ b, b < 7 → a ≠ b → (TX2 a).2.1 ≠ (TX2 b).2.1 := by decide +kernel
theorem tyX2_ok : ∀ k, k < 7 → parseFieldDescriptor (TX2 k).2.2.1 = some (tyX2 k) := by decide +kernel
abbrev cX2_init : ByteArray := prog_4_method_1_code
def yX2_init : MethodName := ⟨RX2, "<init>", "()V"⟩
abbrev cX2_begin : ByteArray := prog_4_method_2_code
def yX2_begin : MethodName := ⟨RX2, "begin", "(LPrinterLights$Scenes;)V"⟩
abbrev cX2_edgeAt : ByteArray := prog_4_method_3_code
def yX2_edgeAt : MethodName := ⟨RX2, "edgeAt", "(I)I"⟩
abbrev cX2_frameWith : ByteArray := prog_4_method_4_code
def yX2_frameWith : MethodName := ⟨RX2, "frameWith", "(II)I"⟩
abbrev cX2_isMissing : ByteArray := prog_4_method_5_code
def yX2_isMissing : MethodName := ⟨RX2, "isMissing", "(I)Z"⟩
abbrev cX2_isSpliced : ByteArray := prog_4_method_6_code
def yX2_isSpliced : MethodName := ⟨RX2, "isSpliced", "(I)Z"⟩
abbrev cX2_wearSplices : ByteArray := prog_4_method_7_code
def yX2_wearSplices : MethodName := ⟨RX2, "wearSplices", "(I)I"⟩
abbrev cX2_countOpen : ByteArray := prog_4_method_8_code
def yX2_countOpen : MethodName := ⟨RX2, "countOpen", "()I"⟩
abbrev cX2_mendOpen : ByteArray := prog_4_method_9_code
def yX2_mendOpen : MethodName := ⟨RX2, "mendOpen", "()I"⟩
abbrev cX2_copyFrom : ByteArray := prog_4_method_10_code
def yX2_copyFrom : MethodName := ⟨RX2, "copyFrom", "(LPrinterLights$Job;)V"⟩
abbrev cX2_isOpen : ByteArray := prog_4_method_11_code
def yX2_isOpen : MethodName := ⟨RX2, "isOpen", "(I)Z"⟩
def RX3 : String := "PrinterLights$Orders"
def TX3 : u_T := fun k => match k with
  | 0 => ("PrinterLights$Orders", "hours", "[I", true)
  | 1 => ("PrinterLights$Orders", "due", "[I", true)
  | 2 => ("PrinterLights$Orders", "weight", "[I", true)
  | 3 => ("PrinterLights$Orders", "negative", "[I", true)
  | _ => ("PrinterLights$Orders", "size", "I", false)
def tyX3 : Nat → FieldType := fun k => match k with
  | 0 => .array .int
  | 1 => .array .int
  | 2 => .array .int
  | 3 => .array .int
  | _ => .int
abbrev wsX30 : List Cond := u_ws RX3 TX3 5
theorem nmX3 : ∀ a, a < 5 → ∀ b, b < 5 → a ≠ b → (TX3 a).2.1 ≠ (TX3 b).2.1 := by decide +kernel
theorem tyX3_ok : ∀ k, k < 5 → parseFieldDescriptor (TX3 k).2.2.1 = some (tyX3 k) := by decide +kernel
abbrev cX3_init : ByteArray := prog_5_method_1_code
def yX3_init : MethodName := ⟨RX3, "<init>", "()V"⟩
abbrev cX3_add : ByteArray := prog_5_method_2_code
def yX3_add : MethodName := ⟨RX3, "add", "(IIII)Z"⟩
abbrev cX3_remove : ByteArray := prog_5_method_3_code
def yX3_remove : MethodName := ⟨RX3, "remove", "(I)V"⟩
abbrev cX3_lateness : ByteArray := prog_5_method_4_code
def yX3_lateness : MethodName := ⟨RX3, "lateness", "(II)I"⟩
abbrev cX3_setOn : ByteArray := prog_5_method_5_code
def yX3_setOn : MethodName := ⟨RX3, "setOn", "(I)I"⟩
def RX4 : String := "PrinterLights$Planner"
def TX4 : u_T := fun k => match k with
  | 0 => ("PrinterLights$Planner", "work", "[I", true)
  | 1 => ("PrinterLights$Planner", "leastFirst", "[I", true)
  | 2 => ("PrinterLights$Planner", "leastLast", "[I", true)
  | 3 => ("PrinterLights$Planner", "sequences", "[I", true)
  | 4 => ("PrinterLights$Planner", "sizes", "[I", true)
  | 5 => ("PrinterLights$Planner", "late", "I", false)
  | _ => ("PrinterLights$Planner", "bits", "I", false)
def tyX4 : Nat → FieldType := fun k => match k with
  | 0 => .array .int
  | 1 => .array .int
  | 2 => .array .int
  | 3 => .array .int
  | 4 => .array .int
  | 5 => .int
  | _ => .int
abbrev wsX40 : List Cond := u_ws RX4 TX4 7
theorem nmX4 : ∀ a, a < 7 → ∀ b, b < 7 → a ≠ b → (TX4 a).2.1 ≠ (TX4 b).2.1 := by decide +kernel
theorem tyX4_ok : ∀ k, k < 7 → parseFieldDescriptor (TX4 k).2.2.1 = some (tyX4 k) := by decide +kernel
abbrev cX4_init : ByteArray := prog_6_method_1_code
def yX4_init : MethodName := ⟨RX4, "<init>", "()V"⟩
abbrev cX4_solve : ByteArray := prog_6_method_2_code
def yX4_solve : MethodName := ⟨RX4, "solve", "(LPrinterLights$Orders;)V"⟩
abbrev cX4_orderAt : ByteArray := prog_6_method_3_code
def yX4_orderAt : MethodName := ⟨RX4, "orderAt", "(II)I"⟩
abbrev cX4_weighSets : ByteArray := prog_6_method_4_code
def yX4_weighSets : MethodName := ⟨RX4, "weighSets", "(LPrinterLights$Orders;I)V"⟩
abbrev cX4_arrange : ByteArray := prog_6_method_5_code
def yX4_arrange : MethodName := ⟨RX4, "arrange", "(LPrinterLights$Orders;II)V"⟩
abbrev cX4_weighEndings : ByteArray := prog_6_method_6_code
def yX4_weighEndings : MethodName := ⟨RX4, "weighEndings", "(LPrinterLights$Orders;I)V"⟩
abbrev cX4_bestNext : ByteArray := prog_6_method_7_code
def yX4_bestNext : MethodName := ⟨RX4, "bestNext", "(LPrinterLights$Orders;II)I"⟩
abbrev cX4_lateWith : ByteArray := prog_6_method_8_code
def yX4_lateWith : MethodName := ⟨RX4, "lateWith", "(LPrinterLights$Orders;III)I"⟩
def RX5 : String := "PrinterLights$Reels"
def TX5 : u_T := fun k => match k with
  | 0 => ("PrinterLights$Reels", "first", "[I", true)
  | 1 => ("PrinterLights$Reels", "frames", "[I", true)
  | _ => ("PrinterLights$Reels", "lost", "[Z", true)
def tyX5 : Nat → FieldType := fun k => match k with
  | 0 => .array .int
  | 1 => .array .int
  | _ => .array .boolean
abbrev wsX50 : List Cond := u_ws RX5 TX5 3
theorem nmX5 : ∀ a, a < 3 → ∀ b, b < 3 → a ≠ b → (TX5 a).2.1 ≠ (TX5 b).2.1 := by decide +kernel
theorem tyX5_ok : ∀ k, k < 3 → parseFieldDescriptor (TX5 k).2.2.1 = some (tyX5 k) := by decide +kernel
abbrev cX5_init : ByteArray := prog_7_method_1_code
def yX5_init : MethodName := ⟨RX5, "<init>", "()V"⟩
abbrev cX5_tell : ByteArray := prog_7_method_2_code
def yX5_tell : MethodName := ⟨RX5, "tell", "(III)V"⟩
abbrev cX5_copyFrom : ByteArray := prog_7_method_3_code
def yX5_copyFrom : MethodName := ⟨RX5, "copyFrom", "(LPrinterLights$Reels;)V"⟩
abbrev cX5_isTold : ByteArray := prog_7_method_4_code
def yX5_isTold : MethodName := ⟨RX5, "isTold", "(I)Z"⟩
abbrev cX5_countTold : ByteArray := prog_7_method_5_code
def yX5_countTold : MethodName := ⟨RX5, "countTold", "()I"⟩
abbrev cX5_hasAll : ByteArray := prog_7_method_6_code
def yX5_hasAll : MethodName := ⟨RX5, "hasAll", "(III)Z"⟩
def RX6 : String := "PrinterLights$Scenes"
def TX6 : u_T := fun k => match k with
  | 0 => ("PrinterLights$Scenes", "shots", "I", false)
  | 1 => ("PrinterLights$Scenes", "copies", "I", false)
  | 2 => ("PrinterLights$Scenes", "start", "[I", true)
  | 3 => ("PrinterLights$Scenes", "own", "[I", true)
  | 4 => ("PrinterLights$Scenes", "fade", "[I", true)
  | 5 => ("PrinterLights$Scenes", "fadeTo", "[I", true)
  | 6 => ("PrinterLights$Scenes", "effects", "[I", true)
  | 7 => ("PrinterLights$Scenes", "effectFrom", "[I", true)
  | 8 => ("PrinterLights$Scenes", "effectEnd", "[I", true)
  | _ => ("PrinterLights$Scenes", "effectLess", "[I", true)
def tyX6 : Nat → FieldType := fun k => match k with
  | 0 => .int
  | 1 => .int
  | 2 => .array .int
  | 3 => .array .int
  | 4 => .array .int
  | 5 => .array .int
  | 6 => .array .int
  | 7 => .array .int
  | 8 => .array .int
  | _ => .array .int
abbrev wsX60 : List Cond := u_ws RX6 TX6 10
theorem nmX6 : ∀ a, a < 10 → ∀ b, b < 10 → a ≠ b → (TX6 a).2.1 ≠ (TX6 b).2.1 := by decide +kernel
theorem tyX6_ok : ∀ k, k < 10 → parseFieldDescriptor (TX6 k).2.2.1 = some (tyX6 k) := by decide +kernel
abbrev cX6_init : ByteArray := prog_8_method_1_code
def yX6_init : MethodName := ⟨RX6, "<init>", "()V"⟩
abbrev cX6_empty : ByteArray := prog_8_method_2_code
def yX6_empty : MethodName := ⟨RX6, "empty", "()V"⟩
abbrev cX6_addShot : ByteArray := prog_8_method_3_code
def yX6_addShot : MethodName := ⟨RX6, "addShot", "(IIII)V"⟩
abbrev cX6_addFade : ByteArray := prog_8_method_4_code
def yX6_addFade : MethodName := ⟨RX6, "addFade", "(IIII)V"⟩
abbrev cX6_addEffect : ByteArray := prog_8_method_5_code
def yX6_addEffect : MethodName := ⟨RX6, "addEffect", "(III)V"⟩
abbrev cX6_frames : ByteArray := prog_8_method_6_code
def yX6_frames : MethodName := ⟨RX6, "frames", "()I"⟩
abbrev cX6_framesOf : ByteArray := prog_8_method_7_code
def yX6_framesOf : MethodName := ⟨RX6, "framesOf", "(I)I"⟩
abbrev cX6_copiesOrOne : ByteArray := prog_8_method_8_code
def yX6_copiesOrOne : MethodName := ⟨RX6, "copiesOrOne", "()I"⟩
abbrev cX6_hasFrame : ByteArray := prog_8_method_9_code
def yX6_hasFrame : MethodName := ⟨RX6, "hasFrame", "(I)Z"⟩
abbrev cX6_shotAt : ByteArray := prog_8_method_10_code
def yX6_shotAt : MethodName := ⟨RX6, "shotAt", "(I)I"⟩
abbrev cX6_lightAt : ByteArray := prog_8_method_11_code
def yX6_lightAt : MethodName := ⟨RX6, "lightAt", "(II)I"⟩
abbrev cX6_lightIn : ByteArray := prog_8_method_12_code
def yX6_lightIn : MethodName := ⟨RX6, "lightIn", "(III)I"⟩
abbrev cX6_isInFade : ByteArray := prog_8_method_13_code
def yX6_isInFade : MethodName := ⟨RX6, "isInFade", "(II)Z"⟩
abbrev cX6_isAtEffect : ByteArray := prog_8_method_14_code
def yX6_isAtEffect : MethodName := ⟨RX6, "isAtEffect", "(II)Z"⟩
abbrev cX6_jumpBehind : ByteArray := prog_8_method_15_code
def yX6_jumpBehind : MethodName := ⟨RX6, "jumpBehind", "(I)I"⟩
abbrev cX6_changesWithin : ByteArray := prog_8_method_16_code
def yX6_changesWithin : MethodName := ⟨RX6, "changesWithin", "(II)Z"⟩
abbrev cX6_copyFrom : ByteArray := prog_8_method_17_code
def yX6_copyFrom : MethodName := ⟨RX6, "copyFrom", "(LPrinterLights$Scenes;)V"⟩
abbrev cX6_putLights : ByteArray := prog_8_method_18_code
def yX6_putLights : MethodName := ⟨RX6, "putLights", "([IIIII)V"⟩
def RX7 : String := "PrinterLights$Strips"
def TX7 : u_T := fun k => match k with
  | 0 => ("PrinterLights$Strips", "hour", "[I", true)
  | 1 => ("PrinterLights$Strips", "colourOf", "[I", true)
  | 2 => ("PrinterLights$Strips", "off", "[I", true)
  | 3 => ("PrinterLights$Strips", "size", "I", false)
  | 4 => ("PrinterLights$Strips", "earliest", "[I", true)
  | 5 => ("PrinterLights$Strips", "latest", "[I", true)
  | _ => ("PrinterLights$Strips", "isSteady", "Z", false)
def tyX7 : Nat → FieldType := fun k => match k with
  | 0 => .array .int
  | 1 => .array .int
  | 2 => .array .int
  | 3 => .int
  | 4 => .array .int
  | 5 => .array .int
  | _ => .boolean
abbrev wsX70 : List Cond := u_ws RX7 TX7 7
theorem nmX7 : ∀ a, a < 7 → ∀ b, b < 7 → a ≠ b → (TX7 a).2.1 ≠ (TX7 b).2.1 := by decide +kernel
theorem tyX7_ok : ∀ k, k < 7 → parseFieldDescriptor (TX7 k).2.2.1 = some (tyX7 k) := by decide +kernel
abbrev cX7_init : ByteArray := prog_9_method_1_code
def yX7_init : MethodName := ⟨RX7, "<init>", "()V"⟩
abbrev cX7_add : ByteArray := prog_9_method_2_code
def yX7_add : MethodName := ⟨RX7, "add", "(III)Z"⟩
abbrev cX7_weigh : ByteArray := prog_9_method_3_code
def yX7_weigh : MethodName := ⟨RX7, "weigh", "(I)V"⟩
abbrev cX7_countDrifts : ByteArray := prog_9_method_4_code
def yX7_countDrifts : MethodName := ⟨RX7, "countDrifts", "()I"⟩
abbrev cX7_driftNumber : ByteArray := prog_9_method_5_code
def yX7_driftNumber : MethodName := ⟨RX7, "driftNumber", "(I)I"⟩
abbrev cX7_weighStrip : ByteArray := prog_9_method_6_code
def yX7_weighStrip : MethodName := ⟨RX7, "weighStrip", "(II)V"⟩
abbrev cX7_explains : ByteArray := prog_9_method_7_code
def yX7_explains : MethodName := ⟨RX7, "explains", "(I)Z"⟩
def RX8 : String := "PrinterLights$Text"
def TX8 : u_T := fun k => match k with
  | 0 => ("PrinterLights$Text", "bytes", "[B", true)
  | 1 => ("PrinterLights$Text", "length", "I", false)
  | 2 => ("PrinterLights$Text", "numbers", "[I", true)
  | _ => ("PrinterLights$Text", "found", "I", false)
def tyX8 : Nat → FieldType := fun k => match k with
  | 0 => .array .byte
  | 1 => .int
  | 2 => .array .int
  | _ => .int
abbrev wsX80 : List Cond := u_ws RX8 TX8 4
theorem nmX8 : ∀ a, a < 4 → ∀ b, b < 4 → a ≠ b → (TX8 a).2.1 ≠ (TX8 b).2.1 := by decide +kernel
theorem tyX8_ok : ∀ k, k < 4 → parseFieldDescriptor (TX8 k).2.2.1 = some (tyX8 k) := by decide +kernel
abbrev cX8_init : ByteArray := prog_10_method_1_code
def yX8_init : MethodName := ⟨RX8, "<init>", "()V"⟩
abbrev cX8_append : ByteArray := prog_10_method_2_code
def yX8_append : MethodName := ⟨RX8, "append", "(IJ)Z"⟩
abbrev cX8_readInto : ByteArray := prog_10_method_3_code
def yX8_readInto : MethodName := ⟨RX8, "readInto", "(LPrinterLights$Scenes;)I"⟩
abbrev cX8_takesItem : ByteArray := prog_10_method_4_code
def yX8_takesItem : MethodName := ⟨RX8, "takesItem", "(IILPrinterLights$Scenes;)Z"⟩
abbrev cX8_readNumbers : ByteArray := prog_10_method_5_code
def yX8_readNumbers : MethodName := ⟨RX8, "readNumbers", "(II)Z"⟩
abbrev cX8_takesShot : ByteArray := prog_10_method_6_code
def yX8_takesShot : MethodName := ⟨RX8, "takesShot", "(LPrinterLights$Scenes;)Z"⟩
abbrev cX8_takesFade : ByteArray := prog_10_method_7_code
def yX8_takesFade : MethodName := ⟨RX8, "takesFade", "(LPrinterLights$Scenes;)Z"⟩
abbrev cX8_takesEffect : ByteArray := prog_10_method_8_code
def yX8_takesEffect : MethodName := ⟨RX8, "takesEffect", "(LPrinterLights$Scenes;)Z"⟩
abbrev cX8_takesCopies : ByteArray := prog_10_method_9_code
def yX8_takesCopies : MethodName := ⟨RX8, "takesCopies", "(LPrinterLights$Scenes;)Z"⟩
abbrev cX8_areLights : ByteArray := prog_10_method_10_code
def yX8_areLights : MethodName := ⟨RX8, "areLights", "(I)Z"⟩
def RX9 : String := "PrinterLights$Tones"
def TX9 : u_T := fun k => match k with
  | 0 => ("PrinterLights$Tones", "tables", "[I", true)
  | 1 => ("PrinterLights$Tones", "strength", "[I", true)
  | 2 => ("PrinterLights$Tones", "tire", "[I", true)
  | 3 => ("PrinterLights$Tones", "footage", "[I", true)
  | _ => ("PrinterLights$Tones", "sunk", "[I", true)
def tyX9 : Nat → FieldType := fun k => match k with
  | 0 => .array .int
  | 1 => .array .int
  | 2 => .array .int
  | 3 => .array .int
  | _ => .array .int
abbrev wsX90 : List Cond := u_ws RX9 TX9 5
theorem nmX9 : ∀ a, a < 5 → ∀ b, b < 5 → a ≠ b → (TX9 a).2.1 ≠ (TX9 b).2.1 := by decide +kernel
theorem tyX9_ok : ∀ k, k < 5 → parseFieldDescriptor (TX9 k).2.2.1 = some (tyX9 k) := by decide +kernel
abbrev cX9_init : ByteArray := prog_11_method_1_code
def yX9_init : MethodName := ⟨RX9, "<init>", "()V"⟩
abbrev cX9_tell : ByteArray := prog_11_method_2_code
def yX9_tell : MethodName := ⟨RX9, "tell", "(IIII)I"⟩
abbrev cX9_activity : ByteArray := prog_11_method_3_code
def yX9_activity : MethodName := ⟨RX9, "activity", "(I)I"⟩
abbrev cX9_pass : ByteArray := prog_11_method_4_code
def yX9_pass : MethodName := ⟨RX9, "pass", "(II)V"⟩
abbrev cX9_exposureOf : ByteArray := prog_11_method_5_code
def yX9_exposureOf : MethodName := ⟨RX9, "exposureOf", "(IIII)I"⟩
abbrev cX9_printed : ByteArray := prog_11_method_6_code
def yX9_printed : MethodName := ⟨RX9, "printed", "(IIIII)I"⟩
abbrev cX9_densityOf : ByteArray := prog_11_method_7_code
def yX9_densityOf : MethodName := ⟨RX9, "densityOf", "(I)I"⟩
abbrev cX9_toneAt : ByteArray := prog_11_method_8_code
def yX9_toneAt : MethodName := ⟨RX9, "toneAt", "(II)I"⟩
abbrev cX9_tableStart : ByteArray := prog_11_method_9_code
def yX9_tableStart : MethodName := ⟨RX9, "tableStart", "(II)I"⟩
def RX10 : String := "PrinterLights"
def TX10 : u_T := fun k => match k with
  | 0 => ("PrinterLights", "tones", "LPrinterLights$Tones;", true)
  | 1 => ("PrinterLights", "rules", "[I", true)
  | 2 => ("PrinterLights", "text", "LPrinterLights$Text;", true)
  | 3 => ("PrinterLights", "draft", "LPrinterLights$Scenes;", true)
  | 4 => ("PrinterLights", "job", "LPrinterLights$Job;", true)
  | 5 => ("PrinterLights", "firstKept", "LPrinterLights$Job;", true)
  | 6 => ("PrinterLights", "secondKept", "LPrinterLights$Job;", true)
  | 7 => ("PrinterLights", "clock", "LPrinterLights$Clock;", true)
  | 8 => ("PrinterLights", "grader", "LPrinterLights$Grader;", true)
  | 9 => ("PrinterLights", "strips", "LPrinterLights$Strips;", true)
  | 10 => ("PrinterLights", "orders", "LPrinterLights$Orders;", true)
  | 11 => ("PrinterLights", "planner", "LPrinterLights$Planner;", true)
  | 12 => ("PrinterLights", "kept", "I", false)
  | _ => ("PrinterLights", "runs", "I", false)
def tyX10 : Nat → FieldType := fun k => match k with
  | 0 => .object "PrinterLights$Tones"
  | 1 => .array .int
  | 2 => .object "PrinterLights$Text"
  | 3 => .object "PrinterLights$Scenes"
  | 4 => .object "PrinterLights$Job"
  | 5 => .object "PrinterLights$Job"
  | 6 => .object "PrinterLights$Job"
  | 7 => .object "PrinterLights$Clock"
  | 8 => .object "PrinterLights$Grader"
  | 9 => .object "PrinterLights$Strips"
  | 10 => .object "PrinterLights$Orders"
  | 11 => .object "PrinterLights$Planner"
  | 12 => .int
  | _ => .int
abbrev wsX100 : List Cond := u_ws RX10 TX10 14
theorem nmX10 : ∀ a, a < 14 → ∀ b, b < 14 → a ≠ b → (TX10 a).2.1 ≠ (TX10 b).2.1 := by decide +kernel
theorem tyX10_ok : ∀ k, k < 14 → parseFieldDescriptor (TX10 k).2.2.1 = some (tyX10 k) := by decide +kernel
abbrev cX10_init : ByteArray := prog_1_method_1_code
def yX10_init : MethodName := ⟨RX10, "<init>", "()V"⟩
abbrev cX10_table : ByteArray := prog_1_method_2_code
def yX10_table : MethodName := ⟨RX10, "table", "(IIII)I"⟩
abbrev cX10_bath : ByteArray := prog_1_method_3_code
def yX10_bath : MethodName := ⟨RX10, "bath", "(III)I"⟩
abbrev cX10_lamp : ByteArray := prog_1_method_4_code
def yX10_lamp : MethodName := ⟨RX10, "lamp", "(II)I"⟩
abbrev cX10_rule : ByteArray := prog_1_method_5_code
def yX10_rule : MethodName := ⟨RX10, "rule", "(II)I"⟩
abbrev cX10_bathTold : ByteArray := prog_1_method_6_code
def yX10_bathTold : MethodName := ⟨RX10, "bathTold", "(II)I"⟩
abbrev cX10_feet : ByteArray := prog_1_method_7_code
def yX10_feet : MethodName := ⟨RX10, "feet", "(II)I"⟩
abbrev cX10_exposure : ByteArray := prog_1_method_8_code
def yX10_exposure : MethodName := ⟨RX10, "exposure", "(IIII)I"⟩
abbrev cX10_tone : ByteArray := prog_1_method_9_code
def yX10_tone : MethodName := ⟨RX10, "tone", "(IIIIII)I"⟩
abbrev cX10_write : ByteArray := prog_1_method_10_code
def yX10_write : MethodName := ⟨RX10, "write", "(IJ)I"⟩
abbrev cX10_clear : ByteArray := prog_1_method_11_code
def yX10_clear : MethodName := ⟨RX10, "clear", "()I"⟩
abbrev cX10_fault : ByteArray := prog_1_method_12_code
def yX10_fault : MethodName := ⟨RX10, "fault", "()I"⟩
abbrev cX10_load : ByteArray := prog_1_method_13_code
def yX10_load : MethodName := ⟨RX10, "load", "()I"⟩
abbrev cX10_light : ByteArray := prog_1_method_14_code
def yX10_light : MethodName := ⟨RX10, "light", "(II)I"⟩
abbrev cX10_shotOf : ByteArray := prog_1_method_15_code
def yX10_shotOf : MethodName := ⟨RX10, "shotOf", "(I)I"⟩
abbrev cX10_soon : ByteArray := prog_1_method_16_code
def yX10_soon : MethodName := ⟨RX10, "soon", "(I)I"⟩
abbrev cX10_list : ByteArray := prog_1_method_17_code
def yX10_list : MethodName := ⟨RX10, "list", "(I)I"⟩
abbrev cX10_shot : ByteArray := prog_1_method_18_code
def yX10_shot : MethodName := ⟨RX10, "shot", "(IIII)I"⟩
abbrev cX10_grade : ByteArray := prog_1_method_19_code
def yX10_grade : MethodName := ⟨RX10, "grade", "(IIII)I"⟩
abbrev cX10_frameTone : ByteArray := prog_1_method_20_code
def yX10_frameTone : MethodName := ⟨RX10, "frameTone", "(IIII)I"⟩
abbrev cX10_strip : ByteArray := prog_1_method_21_code
def yX10_strip : MethodName := ⟨RX10, "strip", "(III)I"⟩
abbrev cX10_noStrips : ByteArray := prog_1_method_22_code
def yX10_noStrips : MethodName := ⟨RX10, "noStrips", "()I"⟩
abbrev cX10_drift : ByteArray := prog_1_method_23_code
def yX10_drift : MethodName := ⟨RX10, "drift", "(I)I"⟩
abbrev cX10_reel : ByteArray := prog_1_method_24_code
def yX10_reel : MethodName := ⟨RX10, "reel", "(III)I"⟩
abbrev cX10_lose : ByteArray := prog_1_method_25_code
def yX10_lose : MethodName := ⟨RX10, "lose", "(IZ)I"⟩
abbrev cX10_from : ByteArray := prog_1_method_26_code
def yX10_from : MethodName := ⟨RX10, "from", "(III)I"⟩
abbrev cX10_edge : ByteArray := prog_1_method_27_code
def yX10_edge : MethodName := ⟨RX10, "edge", "(I)I"⟩
abbrev cX10_missing : ByteArray := prog_1_method_28_code
def yX10_missing : MethodName := ⟨RX10, "missing", "()I"⟩
abbrev cX10_where : ByteArray := prog_1_method_29_code
def yX10_where : MethodName := ⟨RX10, "where", "(II)I"⟩
abbrev cX10_splice : ByteArray := prog_1_method_30_code
def yX10_splice : MethodName := ⟨RX10, "splice", "(I)I"⟩
abbrev cX10_run : ByteArray := prog_1_method_31_code
def yX10_run : MethodName := ⟨RX10, "run", "(I)I"⟩
abbrev cX10_mend : ByteArray := prog_1_method_32_code
def yX10_mend : MethodName := ⟨RX10, "mend", "()I"⟩
abbrev cX10_order : ByteArray := prog_1_method_33_code
def yX10_order : MethodName := ⟨RX10, "order", "(IIII)I"⟩
abbrev cX10_drop : ByteArray := prog_1_method_34_code
def yX10_drop : MethodName := ⟨RX10, "drop", "(I)I"⟩
abbrev cX10_plan : ByteArray := prog_1_method_35_code
def yX10_plan : MethodName := ⟨RX10, "plan", "(I)I"⟩
abbrev cX10_keep : ByteArray := prog_1_method_36_code
def yX10_keep : MethodName := ⟨RX10, "keep", "()I"⟩
abbrev cX10_back : ByteArray := prog_1_method_37_code
def yX10_back : MethodName := ⟨RX10, "back", "()I"⟩
abbrev cX10_count : ByteArray := prog_1_method_38_code
def yX10_count : MethodName := ⟨RX10, "count", "(I)I"⟩
abbrev cX10_isWithin : ByteArray := prog_1_method_39_code
def yX10_isWithin : MethodName := ⟨RX10, "isWithin", "(III)Z"⟩
abbrev cX10_isStock : ByteArray := prog_1_method_40_code
def yX10_isStock : MethodName := ⟨RX10, "isStock", "(I)Z"⟩
abbrev cX10_isColour : ByteArray := prog_1_method_41_code
def yX10_isColour : MethodName := ⟨RX10, "isColour", "(I)Z"⟩
abbrev cX10_isBath : ByteArray := prog_1_method_42_code
def yX10_isBath : MethodName := ⟨RX10, "isBath", "(I)Z"⟩
abbrev cX10_isShot : ByteArray := prog_1_method_43_code
def yX10_isShot : MethodName := ⟨RX10, "isShot", "(I)Z"⟩
abbrev cX10_isReel : ByteArray := prog_1_method_44_code
def yX10_isReel : MethodName := ⟨RX10, "isReel", "(I)Z"⟩
abbrev cX10_isPrint : ByteArray := prog_1_method_45_code
def yX10_isPrint : MethodName := ⟨RX10, "isPrint", "(II)Z"⟩
abbrev cX10_feetOf : ByteArray := prog_1_method_46_code
def yX10_feetOf : MethodName := ⟨RX10, "feetOf", "(I)I"⟩
abbrev cX10_swap : ByteArray := prog_1_method_47_code
def yX10_swap : MethodName := ⟨RX10, "swap", "([III)I"⟩
abbrev cX10_isIn : ByteArray := prog_1_method_48_code
def yX10_isIn : MethodName := ⟨RX10, "isIn", "(II)Z"⟩
abbrev cX10_copy : ByteArray := prog_1_method_49_code
def yX10_copy : MethodName := ⟨RX10, "copy", "([I[I)V"⟩
def RX11 : String := "PrinterLightsModel"
def TX11 : u_T := fun k => match k with
  | 0 => ("PrinterLightsModel", "tables", "[I", true)
  | 1 => ("PrinterLightsModel", "strength", "[I", true)
  | 2 => ("PrinterLightsModel", "tire", "[I", true)
  | 3 => ("PrinterLightsModel", "through", "[I", true)
  | 4 => ("PrinterLightsModel", "sunk", "[I", true)
  | 5 => ("PrinterLightsModel", "wait", "I", false)
  | 6 => ("PrinterLightsModel", "near", "I", false)
  | 7 => ("PrinterLightsModel", "doubt", "I", false)
  | 8 => ("PrinterLightsModel", "wear", "I", false)
  | 9 => ("PrinterLightsModel", "shotMany", "[I", true)
  | 10 => ("PrinterLightsModel", "copies", "[I", true)
  | 11 => ("PrinterLightsModel", "frames", "[I", true)
  | 12 => ("PrinterLightsModel", "own", "[I", true)
  | 13 => ("PrinterLightsModel", "fade", "[I", true)
  | 14 => ("PrinterLightsModel", "fadeTo", "[I", true)
  | 15 => ("PrinterLightsModel", "effectMany", "[I", true)
  | 16 => ("PrinterLightsModel", "effectAt", "[I", true)
  | 17 => ("PrinterLightsModel", "effectLong", "[I", true)
  | 18 => ("PrinterLightsModel", "effectBy", "[I", true)
  | 19 => ("PrinterLightsModel", "isLoaded", "Z", false)
  | 20 => ("PrinterLightsModel", "length", "I", false)
  | 21 => ("PrinterLightsModel", "text", "[I", true)
  | 22 => ("PrinterLightsModel", "density", "[I", true)
  | 23 => ("PrinterLightsModel", "aim", "[I", true)
  | 24 => ("PrinterLightsModel", "reelOf", "[I", true)
  | 25 => ("PrinterLightsModel", "edgeOf", "[I", true)
  | 26 => ("PrinterLightsModel", "reelFirst", "[I", true)
  | 27 => ("PrinterLightsModel", "reelLong", "[I", true)
  | 28 => ("PrinterLightsModel", "reelState", "[I", true)
  | 29 => ("PrinterLightsModel", "hold", "[I", true)
  | 30 => ("PrinterLightsModel", "wasLoaded", "[I", true)
  | 31 => ("PrinterLightsModel", "keptMany", "I", false)
  | 32 => ("PrinterLightsModel", "runs", "I", false)
  | 33 => ("PrinterLightsModel", "at", "I", false)
  | 34 => ("PrinterLightsModel", "told", "[I", true)
  | 35 => ("PrinterLightsModel", "shot", "I", false)
  | 36 => ("PrinterLightsModel", "inShot", "I", false)
  | 37 => ("PrinterLightsModel", "steps", "[I", true)
  | 38 => ("PrinterLightsModel", "stripMany", "I", false)
  | 39 => ("PrinterLightsModel", "stripHour", "[I", true)
  | 40 => ("PrinterLightsModel", "stripColour", "[I", true)
  | 41 => ("PrinterLightsModel", "stripOff", "[I", true)
  | 42 => ("PrinterLightsModel", "orderMany", "I", false)
  | 43 => ("PrinterLightsModel", "hours", "[I", true)
  | 44 => ("PrinterLightsModel", "due", "[I", true)
  | 45 => ("PrinterLightsModel", "weight", "[I", true)
  | 46 => ("PrinterLightsModel", "negative", "[I", true)
  | 47 => ("PrinterLightsModel", "late", "[I", true)
  | _ => ("PrinterLightsModel", "bestBits", "I", false)
def tyX11 : Nat → FieldType := fun k => match k with
  | 0 => .array .int
  | 1 => .array .int
  | 2 => .array .int
  | 3 => .array .int
  | 4 => .array .int
  | 5 => .int
  | 6 => .int
  | 7 => .int
  | 8 => .int
  | 9 => .array .int
  | 10 => .array .int
  | 11 => .array .int
  | 12 => .array .int
  | 13 => .array .int
  | 14 => .array .int
  | 15 => .array .int
  | 16 => .array .int
  | 17 => .array .int
  | 18 => .array .int
  | 19 => .boolean
  | 20 => .int
  | 21 => .array .int
  | 22 => .array .int
  | 23 => .array .int
  | 24 => .array .int
  | 25 => .array .int
  | 26 => .array .int
  | 27 => .array .int
  | 28 => .array .int
  | 29 => .array .int
  | 30 => .array .int
  | 31 => .int
  | 32 => .int
  | 33 => .int
  | 34 => .array .int
  | 35 => .int
  | 36 => .int
  | 37 => .array .int
  | 38 => .int
  | 39 => .array .int
  | 40 => .array .int
  | 41 => .array .int
  | 42 => .int
  | 43 => .array .int
  | 44 => .array .int
  | 45 => .array .int
  | 46 => .array .int
  | 47 => .array .int
  | _ => .int
abbrev wsX110 : List Cond := u_ws RX11 TX11 49
theorem nmX11 : ∀ a, a < 49 → ∀ b, b < 49 → a ≠ b → (TX11 a).2.1 ≠ (TX11 b).2.1 := by decide +kernel
theorem tyX11_ok : ∀ k, k < 49 → parseFieldDescriptor (TX11 k).2.2.1 = some (tyX11 k) := by decide +kernel
abbrev cX11_init : ByteArray := prog_13_method_1_code
def yX11_init : MethodName := ⟨RX11, "<init>", "()V"⟩
abbrev cX11_in : ByteArray := prog_13_method_2_code
def yX11_in : MethodName := ⟨RX11, "in", "(III)Z"⟩
abbrev cX11_table : ByteArray := prog_13_method_3_code
def yX11_table : MethodName := ⟨RX11, "table", "(IIII)I"⟩
abbrev cX11_bath : ByteArray := prog_13_method_4_code
def yX11_bath : MethodName := ⟨RX11, "bath", "(III)I"⟩
abbrev cX11_lamp : ByteArray := prog_13_method_5_code
def yX11_lamp : MethodName := ⟨RX11, "lamp", "(II)I"⟩
abbrev cX11_rule : ByteArray := prog_13_method_6_code
def yX11_rule : MethodName := ⟨RX11, "rule", "(II)I"⟩
abbrev cX11_activity : ByteArray := prog_13_method_7_code
def yX11_activity : MethodName := ⟨RX11, "activity", "(I)I"⟩
abbrev cX11_bathTold : ByteArray := prog_13_method_8_code
def yX11_bathTold : MethodName := ⟨RX11, "bathTold", "(II)I"⟩
abbrev cX11_go : ByteArray := prog_13_method_9_code
def yX11_go : MethodName := ⟨RX11, "go", "(II)V"⟩
abbrev cX11_feet : ByteArray := prog_13_method_10_code
def yX11_feet : MethodName := ⟨RX11, "feet", "(II)I"⟩
abbrev cX11_exposed : ByteArray := prog_13_method_11_code
def yX11_exposed : MethodName := ⟨RX11, "exposed", "(IIII)I"⟩
abbrev cX11_toneAt : ByteArray := prog_13_method_12_code
def yX11_toneAt : MethodName := ⟨RX11, "toneAt", "(III)I"⟩
abbrev cX11_printed : ByteArray := prog_13_method_13_code
def yX11_printed : MethodName := ⟨RX11, "printed", "(IIIII)I"⟩
abbrev cX11_isPrint : ByteArray := prog_13_method_14_code
def yX11_isPrint : MethodName := ⟨RX11, "isPrint", "(IIII)Z"⟩
abbrev cX11_exposure : ByteArray := prog_13_method_15_code
def yX11_exposure : MethodName := ⟨RX11, "exposure", "(IIII)I"⟩
abbrev cX11_tone : ByteArray := prog_13_method_16_code
def yX11_tone : MethodName := ⟨RX11, "tone", "(IIIIII)I"⟩
abbrev cX11_write : ByteArray := prog_13_method_17_code
def yX11_write : MethodName := ⟨RX11, "write", "(IJ)I"⟩
abbrev cX11_clear : ByteArray := prog_13_method_18_code
def yX11_clear : MethodName := ⟨RX11, "clear", "()I"⟩
abbrev cX11_numbers : ByteArray := prog_13_method_19_code
def yX11_numbers : MethodName := ⟨RX11, "numbers", "(I)Z"⟩
abbrev cX11_areLights : ByteArray := prog_13_method_20_code
def yX11_areLights : MethodName := ⟨RX11, "areLights", "(I)Z"⟩
abbrev cX11_shotItem : ByteArray := prog_13_method_21_code
def yX11_shotItem : MethodName := ⟨RX11, "shotItem", "()Z"⟩
abbrev cX11_fadeItem : ByteArray := prog_13_method_22_code
def yX11_fadeItem : MethodName := ⟨RX11, "fadeItem", "()Z"⟩
abbrev cX11_effectItem : ByteArray := prog_13_method_23_code
def yX11_effectItem : MethodName := ⟨RX11, "effectItem", "()Z"⟩
abbrev cX11_copyItem : ByteArray := prog_13_method_24_code
def yX11_copyItem : MethodName := ⟨RX11, "copyItem", "()Z"⟩
abbrev cX11_readAll : ByteArray := prog_13_method_25_code
def yX11_readAll : MethodName := ⟨RX11, "readAll", "()I"⟩
abbrev cX11_fault : ByteArray := prog_13_method_26_code
def yX11_fault : MethodName := ⟨RX11, "fault", "()I"⟩
abbrev cX11_copyList : ByteArray := prog_13_method_27_code
def yX11_copyList : MethodName := ⟨RX11, "copyList", "(II)V"⟩
abbrev cX11_frameMany : ByteArray := prog_13_method_28_code
def yX11_frameMany : MethodName := ⟨RX11, "frameMany", "()I"⟩
abbrev cX11_load : ByteArray := prog_13_method_29_code
def yX11_load : MethodName := ⟨RX11, "load", "()I"⟩
abbrev cX11_find : ByteArray := prog_13_method_30_code
def yX11_find : MethodName := ⟨RX11, "find", "(I)Z"⟩
abbrev cX11_lightHere : ByteArray := prog_13_method_31_code
def yX11_lightHere : MethodName := ⟨RX11, "lightHere", "(I)I"⟩
abbrev cX11_lightOf : ByteArray := prog_13_method_32_code
def yX11_lightOf : MethodName := ⟨RX11, "lightOf", "(II)I"⟩
abbrev cX11_light : ByteArray := prog_13_method_33_code
def yX11_light : MethodName := ⟨RX11, "light", "(II)I"⟩
abbrev cX11_shotOf : ByteArray := prog_13_method_34_code
def yX11_shotOf : MethodName := ⟨RX11, "shotOf", "(I)I"⟩
abbrev cX11_isLet : ByteArray := prog_13_method_35_code
def yX11_isLet : MethodName := ⟨RX11, "isLet", "(I)Z"⟩
abbrev cX11_changes : ByteArray := prog_13_method_36_code
def yX11_changes : MethodName := ⟨RX11, "changes", "(I)Z"⟩
abbrev cX11_soon : ByteArray := prog_13_method_37_code
def yX11_soon : MethodName := ⟨RX11, "soon", "(I)I"⟩
abbrev cX11_list : ByteArray := prog_13_method_38_code
def yX11_list : MethodName := ⟨RX11, "list", "(I)I"⟩
abbrev cX11_shot : ByteArray := prog_13_method_39_code
def yX11_shot : MethodName := ⟨RX11, "shot", "(IIII)I"⟩
abbrev cX11_mayBe : ByteArray := prog_13_method_40_code
def yX11_mayBe : MethodName := ⟨RX11, "mayBe", "(IIIII)Z"⟩
abbrev cX11_size : ByteArray := prog_13_method_41_code
def yX11_size : MethodName := ⟨RX11, "size", "(I)I"⟩
abbrev cX11_laySteps : ByteArray := prog_13_method_42_code
def yX11_laySteps : MethodName := ⟨RX11, "laySteps", "(III)V"⟩
abbrev cX11_grade : ByteArray := prog_13_method_43_code
def yX11_grade : MethodName := ⟨RX11, "grade", "(IIII)I"⟩
abbrev cX11_frameTone : ByteArray := prog_13_method_44_code
def yX11_frameTone : MethodName := ⟨RX11, "frameTone", "(IIII)I"⟩
abbrev cX11_strip : ByteArray := prog_13_method_45_code
def yX11_strip : MethodName := ⟨RX11, "strip", "(III)I"⟩
abbrev cX11_noStrips : ByteArray := prog_13_method_46_code
def yX11_noStrips : MethodName := ⟨RX11, "noStrips", "()I"⟩
abbrev cX11_explains : ByteArray := prog_13_method_47_code
def yX11_explains : MethodName := ⟨RX11, "explains", "(I)Z"⟩
abbrev cX11_drift : ByteArray := prog_13_method_48_code
def yX11_drift : MethodName := ⟨RX11, "drift", "(I)I"⟩
abbrev cX11_reel : ByteArray := prog_13_method_49_code
def yX11_reel : MethodName := ⟨RX11, "reel", "(III)I"⟩
abbrev cX11_lose : ByteArray := prog_13_method_50_code
def yX11_lose : MethodName := ⟨RX11, "lose", "(IZ)I"⟩
abbrev cX11_from : ByteArray := prog_13_method_51_code
def yX11_from : MethodName := ⟨RX11, "from", "(III)I"⟩
abbrev cX11_edge : ByteArray := prog_13_method_52_code
def yX11_edge : MethodName := ⟨RX11, "edge", "(I)I"⟩
abbrev cX11_missing : ByteArray := prog_13_method_53_code
def yX11_missing : MethodName := ⟨RX11, "missing", "()I"⟩
abbrev cX11_where : ByteArray := prog_13_method_54_code
def yX11_where : MethodName := ⟨RX11, "where", "(II)I"⟩
abbrev cX11_isSpliced : ByteArray := prog_13_method_55_code
def yX11_isSpliced : MethodName := ⟨RX11, "isSpliced", "(I)Z"⟩
abbrev cX11_openMany : ByteArray := prog_13_method_56_code
def yX11_openMany : MethodName := ⟨RX11, "openMany", "()I"⟩
abbrev cX11_splice : ByteArray := prog_13_method_57_code
def yX11_splice : MethodName := ⟨RX11, "splice", "(I)I"⟩
abbrev cX11_run : ByteArray := prog_13_method_58_code
def yX11_run : MethodName := ⟨RX11, "run", "(I)I"⟩
abbrev cX11_mend : ByteArray := prog_13_method_59_code
def yX11_mend : MethodName := ⟨RX11, "mend", "()I"⟩
abbrev cX11_order : ByteArray := prog_13_method_60_code
def yX11_order : MethodName := ⟨RX11, "order", "(IIII)I"⟩
abbrev cX11_drop : ByteArray := prog_13_method_61_code
def yX11_drop : MethodName := ⟨RX11, "drop", "(I)I"⟩
abbrev cX11_lateBy : ByteArray := prog_13_method_62_code
def yX11_lateBy : MethodName := ⟨RX11, "lateBy", "(II)I"⟩
abbrev cX11_layLate : ByteArray := prog_13_method_63_code
def yX11_layLate : MethodName := ⟨RX11, "layLate", "(I)I"⟩
abbrev cX11_setOf : ByteArray := prog_13_method_64_code
def yX11_setOf : MethodName := ⟨RX11, "setOf", "(II)I"⟩
abbrev cX11_layBest : ByteArray := prog_13_method_65_code
def yX11_layBest : MethodName := ⟨RX11, "layBest", "()I"⟩
abbrev cX11_ones : ByteArray := prog_13_method_66_code
def yX11_ones : MethodName := ⟨RX11, "ones", "(I)I"⟩
abbrev cX11_orderAt : ByteArray := prog_13_method_67_code
def yX11_orderAt : MethodName := ⟨RX11, "orderAt", "(II)I"⟩
abbrev cX11_plan : ByteArray := prog_13_method_68_code
def yX11_plan : MethodName := ⟨RX11, "plan", "(I)I"⟩
abbrev cX11_copyShots : ByteArray := prog_13_method_69_code
def yX11_copyShots : MethodName := ⟨RX11, "copyShots", "(II)V"⟩
abbrev cX11_keep : ByteArray := prog_13_method_70_code
def yX11_keep : MethodName := ⟨RX11, "keep", "()I"⟩
abbrev cX11_back : ByteArray := prog_13_method_71_code
def yX11_back : MethodName := ⟨RX11, "back", "()I"⟩
abbrev cX11_count : ByteArray := prog_13_method_72_code
def yX11_count : MethodName := ⟨RX11, "count", "(I)I"⟩
def RJx8e188 : String := "java/lang/Cloneable"
def TJx8e188 : u_T := fun k => match k with
  | _ => ("", "", "", false)
def tyJx8e188 : Nat → FieldType := fun k => match k with
  | _ => .int
abbrev wsJx8e1880 : List Cond := u_ws RJx8e188 TJx8e188 0
theorem nmJx8e188 : ∀ a, a < 0 → ∀ b, b < 0 → a ≠ b → (TJx8e188 a).2.1 ≠ (TJx8e188 b).2.1 := by decide +kernel
theorem tyJx8e188_ok : ∀ k, k < 0 → parseFieldDescriptor (TJx8e188 k).2.2.1 = some (tyJx8e188 k) := by decide +kernel
def RJ6 : String := "java/lang/Integer"
def TJ6 : u_T := fun k => match k with
  | _ => ("", "", "", false)
def tyJ6 : Nat → FieldType := fun k => match k with
  | _ => .int
abbrev wsJ60 : List Cond := u_ws RJ6 TJ6 0
theorem nmJ6 : ∀ a, a < 0 → ∀ b, b < 0 → a ≠ b → (TJ6 a).2.1 ≠ (TJ6 b).2.1 := by decide +kernel
theorem tyJ6_ok : ∀ k, k < 0 → parseFieldDescriptor (TJ6 k).2.2.1 = some (tyJ6 k) := by decide +kernel
abbrev cJ6_numberOfTrailingZeros_0f7a4 : ByteArray := prog_15_method_48_code
def yJ6_numberOfTrailingZeros_0f7a4 : MethodName := ⟨RJ6, "numberOfTrailingZeros", "(I)I"⟩
abbrev cJ6_bitCount_0f7a4 : ByteArray := prog_15_method_49_code
def yJ6_bitCount_0f7a4 : MethodName := ⟨RJ6, "bitCount", "(I)I"⟩
def RJ9 : String := "java/lang/Math"
def TJ9 : u_T := fun k => match k with
  | _ => ("", "", "", false)
def tyJ9 : Nat → FieldType := fun k => match k with
  | _ => .int
abbrev wsJ90 : List Cond := u_ws RJ9 TJ9 0
theorem nmJ9 : ∀ a, a < 0 → ∀ b, b < 0 → a ≠ b → (TJ9 a).2.1 ≠ (TJ9 b).2.1 := by decide +kernel
theorem tyJ9_ok : ∀ k, k < 0 → parseFieldDescriptor (TJ9 k).2.2.1 = some (tyJ9 k) := by decide +kernel
abbrev cJ9_floorDiv_7cf53 : ByteArray := prog_16_method_47_code
def yJ9_floorDiv_7cf53 : MethodName := ⟨RJ9, "floorDiv", "(II)I"⟩
abbrev cJ9_abs_0f7a4 : ByteArray := prog_16_method_59_code
def yJ9_abs_0f7a4 : MethodName := ⟨RJ9, "abs", "(I)I"⟩
abbrev cJ9_max_7cf53 : ByteArray := prog_16_method_65_code
def yJ9_max_7cf53 : MethodName := ⟨RJ9, "max", "(II)I"⟩
abbrev cJ9_min_7cf53 : ByteArray := prog_16_method_69_code
def yJ9_min_7cf53 : MethodName := ⟨RJ9, "min", "(II)I"⟩
def RJ10 : String := "java/lang/System"
def TJ10 : u_T := fun k => match k with
  | _ => ("", "", "", false)
def tyJ10 : Nat → FieldType := fun k => match k with
  | _ => .int
abbrev wsJ100 : List Cond := u_ws RJ10 TJ10 0
theorem nmJ10 : ∀ a, a < 0 → ∀ b, b < 0 → a ≠ b → (TJ10 a).2.1 ≠ (TJ10 b).2.1 := by decide +kernel
theorem tyJ10_ok : ∀ k, k < 0 → parseFieldDescriptor (TJ10 k).2.2.1 = some (tyJ10 k) := by decide +kernel
def RJ7 : String := "java/util/Arrays"
def TJ7 : u_T := fun k => match k with
  | _ => ("", "", "", false)
def tyJ7 : Nat → FieldType := fun k => match k with
  | _ => .int
abbrev wsJ70 : List Cond := u_ws RJ7 TJ7 0
theorem nmJ7 : ∀ a, a < 0 → ∀ b, b < 0 → a ≠ b → (TJ7 a).2.1 ≠ (TJ7 b).2.1 := by decide +kernel
theorem tyJ7_ok : ∀ k, k < 0 → parseFieldDescriptor (TJ7 k).2.2.1 = some (tyJ7 k) := by decide +kernel
abbrev cJ7_fill_53178 : ByteArray := prog_18_method_103_code
def yJ7_fill_53178 : MethodName := ⟨RJ7, "fill", "([II)V"⟩
def RL : String := "PrinterLightsLaw"
abbrev cL_law : ByteArray := code
def yL_law : MethodName := ⟨RL, "law", "([I)Z"⟩
abbrev vwCl : List vw_C := [(RX0, TX0, 4), (RX1, TX1, 4), (RX2, TX2, 7), (RX3, TX3, 5), (RX4, TX4, 7), (RX5, TX5, 3), (RX6, TX6, 10), (RX7, TX7, 7), (RX8, TX8, 4), (RX9, TX9, 5), (RX10, TX10, 14), (RX11, TX11, 49)]
/-- every word of the tables that a contract may carry -/
def TT : List Cond := lw_tbl.filter goodWord
theorem TT_good {w : Cond} (h : w ∈ TT) : goodWord w = true := (List.mem_filter.mp h).2
theorem TT_tbl {w : Cond} (h : w ∈ TT) : w ∈ lw_tbl := (List.mem_filter.mp h).1
theorem TT_i (i : Nat) {w : Cond} (h : tables_1[i]? = some w) (hg : goodWord w = true) : w ∈ TT :=
  List.mem_filter.mpr ⟨List.mem_append_right _ (List.mem_of_getElem? h), hg⟩
theorem TT_s (i : Nat) {q : MethodName × Nat} (h : lw_privs[i]? = some q) : Cond.selects q.1.cls q.1 q.1 ∈ TT :=
  List.mem_filter.mpr ⟨List.mem_append_left _ (List.mem_map.mpr ⟨q, List.mem_of_getElem? h, rfl⟩), rfl⟩
theorem TT_in {c0 : Cond} {ws : List Cond} (h : ∀ w ∈ ws, w ∈ TT) : GoodIn (c0 :: TT) ws := fun w hw => ⟨List.mem_cons_of_mem _ (h w hw), good_of_word (TT_good (h w hw))⟩
theorem TT_laysX (ci : Nat) {C : String} {T : u_T} {N : Nat} (hq : vwCl[ci]? = some (C, T, N)) (h : (u_ws C T N).all (fun w => decide (w ∈ tables_1) && goodWord w) = true) : ∀ w ∈ u_ws C T N, w ∈ TT := by
  intro w hw
  have h1 := List.all_eq_true.mp h w hw
  simp only [Bool.and_eq_true, decide_eq_true_eq] at h1
  exact List.mem_filter.mpr ⟨List.mem_append_right _ h1.1, h1.2⟩
theorem lays_0 : ∀ w ∈ u_ws RX0 TX0 4, w ∈ TT := TT_laysX 0 rfl (by decide +kernel)
theorem lays_1 : ∀ w ∈ u_ws RX1 TX1 4, w ∈ TT := TT_laysX 1 rfl (by decide +kernel)
theorem lays_2 : ∀ w ∈ u_ws RX2 TX2 7, w ∈ TT := TT_laysX 2 rfl (by decide +kernel)
theorem lays_3 : ∀ w ∈ u_ws RX3 TX3 5, w ∈ TT := TT_laysX 3 rfl (by decide +kernel)
theorem lays_4 : ∀ w ∈ u_ws RX4 TX4 7, w ∈ TT := TT_laysX 4 rfl (by decide +kernel)
theorem lays_5 : ∀ w ∈ u_ws RX5 TX5 3, w ∈ TT := TT_laysX 5 rfl (by decide +kernel)
theorem lays_6 : ∀ w ∈ u_ws RX6 TX6 10, w ∈ TT := TT_laysX 6 rfl (by decide +kernel)
theorem lays_7 : ∀ w ∈ u_ws RX7 TX7 7, w ∈ TT := TT_laysX 7 rfl (by decide +kernel)
theorem lays_8 : ∀ w ∈ u_ws RX8 TX8 4, w ∈ TT := TT_laysX 8 rfl (by decide +kernel)
theorem lays_9 : ∀ w ∈ u_ws RX9 TX9 5, w ∈ TT := TT_laysX 9 rfl (by decide +kernel)
theorem lays_10 : ∀ w ∈ u_ws RX10 TX10 14, w ∈ TT := TT_laysX 10 rfl (by decide +kernel)
theorem lays_11 : ∀ w ∈ u_ws RX11 TX11 49, w ∈ TT := TT_laysX 11 rfl (by decide +kernel)
