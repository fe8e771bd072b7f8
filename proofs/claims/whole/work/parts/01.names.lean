-- ===== PART A: goes FIRST, ahead of the names: the tables' words, and 'selects' of the private methods out of them =====
/-- a private method of a class that the tables say can be made, by its rows of tables_1 -/
def lw_okq (q : MethodName × Nat) : Prop := (q.1.cls ≠ "java/lang/invoke/MethodHandle" ∧ q.1.cls ≠ "java/lang/invoke/VarHandle") ∧ Cond.instantiable q.1.cls q.2 ∈ tables_1 ∧ Cond.privateMethod q.1 ∈ tables_1 ∧ Cond.instanceMethod q.1 ∈ tables_1
theorem lw_p0 : lw_okq (⟨"PackDesk", "found", "(I)I"⟩, 14) := ⟨⟨by decide +kernel, by decide +kernel⟩, List.mem_of_getElem? (i := 19) (by decide +kernel), List.mem_of_getElem? (i := 161) (by decide +kernel), List.mem_of_getElem? (i := 162) (by decide +kernel)⟩
theorem lw_p1 : lw_okq (⟨"PackDesk", "newRow", "(II)I"⟩, 14) := ⟨⟨by decide +kernel, by decide +kernel⟩, List.mem_of_getElem? (i := 19) (by decide +kernel), List.mem_of_getElem? (i := 165) (by decide +kernel), List.mem_of_getElem? (i := 166) (by decide +kernel)⟩
theorem lw_p2 : lw_okq (⟨"PackDesk", "rowNumbered", "(I)LPackDesk$Row;"⟩, 14) := ⟨⟨by decide +kernel, by decide +kernel⟩, List.mem_of_getElem? (i := 19) (by decide +kernel), List.mem_of_getElem? (i := 190) (by decide +kernel), List.mem_of_getElem? (i := 191) (by decide +kernel)⟩
theorem lw_p3 : lw_okq (⟨"PackDesk", "newStream", "()I"⟩, 14) := ⟨⟨by decide +kernel, by decide +kernel⟩, List.mem_of_getElem? (i := 19) (by decide +kernel), List.mem_of_getElem? (i := 366) (by decide +kernel), List.mem_of_getElem? (i := 367) (by decide +kernel)⟩
theorem lw_p4 : lw_okq (⟨"PackDesk", "streamNumbered", "(I)LPackDesk$Stream;"⟩, 14) := ⟨⟨by decide +kernel, by decide +kernel⟩, List.mem_of_getElem? (i := 19) (by decide +kernel), List.mem_of_getElem? (i := 399) (by decide +kernel), List.mem_of_getElem? (i := 400) (by decide +kernel)⟩
theorem lw_p5 : lw_okq (⟨"PackDesk$Packer", "makeSteps", "(I)V"⟩, 8) := ⟨⟨by decide +kernel, by decide +kernel⟩, List.mem_of_getElem? (i := 55) (by decide +kernel), List.mem_of_getElem? (i := 411) (by decide +kernel), List.mem_of_getElem? (i := 412) (by decide +kernel)⟩
theorem lw_p6 : lw_okq (⟨"PackDesk$Packer", "packRuns", "(I)V"⟩, 8) := ⟨⟨by decide +kernel, by decide +kernel⟩, List.mem_of_getElem? (i := 55) (by decide +kernel), List.mem_of_getElem? (i := 415) (by decide +kernel), List.mem_of_getElem? (i := 416) (by decide +kernel)⟩
theorem lw_p7 : lw_okq (⟨"PackDesk$Packer", "packPlain", "(J)V"⟩, 8) := ⟨⟨by decide +kernel, by decide +kernel⟩, List.mem_of_getElem? (i := 55) (by decide +kernel), List.mem_of_getElem? (i := 419) (by decide +kernel), List.mem_of_getElem? (i := 420) (by decide +kernel)⟩
theorem lw_p8 : lw_okq (⟨"PackDesk$Packer", "packByte", "(J)V"⟩, 8) := ⟨⟨by decide +kernel, by decide +kernel⟩, List.mem_of_getElem? (i := 55) (by decide +kernel), List.mem_of_getElem? (i := 425) (by decide +kernel), List.mem_of_getElem? (i := 426) (by decide +kernel)⟩
theorem lw_p9 : lw_okq (⟨"PackDesk$Packer", "packWide", "(I)V"⟩, 8) := ⟨⟨by decide +kernel, by decide +kernel⟩, List.mem_of_getElem? (i := 55) (by decide +kernel), List.mem_of_getElem? (i := 429) (by decide +kernel), List.mem_of_getElem? (i := 430) (by decide +kernel)⟩
theorem lw_p10 : lw_okq (⟨"PackDesk", "appendPiece", "(LPackDesk$Stream;ILPackDesk$Row;)V"⟩, 14) := ⟨⟨by decide +kernel, by decide +kernel⟩, List.mem_of_getElem? (i := 19) (by decide +kernel), List.mem_of_getElem? (i := 438) (by decide +kernel), List.mem_of_getElem? (i := 439) (by decide +kernel)⟩
theorem lw_p11 : lw_okq (⟨"PackDesk$Packer", "openRuns", "(I)V"⟩, 8) := ⟨⟨by decide +kernel, by decide +kernel⟩, List.mem_of_getElem? (i := 55) (by decide +kernel), List.mem_of_getElem? (i := 523) (by decide +kernel), List.mem_of_getElem? (i := 524) (by decide +kernel)⟩
theorem lw_p12 : lw_okq (⟨"PackDesk$Packer", "openPlain", "()J"⟩, 8) := ⟨⟨by decide +kernel, by decide +kernel⟩, List.mem_of_getElem? (i := 55) (by decide +kernel), List.mem_of_getElem? (i := 527) (by decide +kernel), List.mem_of_getElem? (i := 528) (by decide +kernel)⟩
theorem lw_p13 : lw_okq (⟨"PackDesk$Packer", "openByte", "()I"⟩, 8) := ⟨⟨by decide +kernel, by decide +kernel⟩, List.mem_of_getElem? (i := 55) (by decide +kernel), List.mem_of_getElem? (i := 531) (by decide +kernel), List.mem_of_getElem? (i := 532) (by decide +kernel)⟩
theorem lw_p14 : lw_okq (⟨"PackDesk$Packer", "openWide", "(I)V"⟩, 8) := ⟨⟨by decide +kernel, by decide +kernel⟩, List.mem_of_getElem? (i := 55) (by decide +kernel), List.mem_of_getElem? (i := 536) (by decide +kernel), List.mem_of_getElem? (i := 537) (by decide +kernel)⟩
theorem lw_p15 : lw_okq (⟨"PackDesk$Packer", "undoSteps", "(I)V"⟩, 8) := ⟨⟨by decide +kernel, by decide +kernel⟩, List.mem_of_getElem? (i := 55) (by decide +kernel), List.mem_of_getElem? (i := 540) (by decide +kernel), List.mem_of_getElem? (i := 541) (by decide +kernel)⟩
def lw_privs_1 : List (MethodName × Nat) := [(⟨"PackDesk", "found", "(I)I"⟩, 14), (⟨"PackDesk", "newRow", "(II)I"⟩, 14), (⟨"PackDesk", "rowNumbered", "(I)LPackDesk$Row;"⟩, 14), (⟨"PackDesk", "newStream", "()I"⟩, 14), (⟨"PackDesk", "streamNumbered", "(I)LPackDesk$Stream;"⟩, 14), (⟨"PackDesk$Packer", "makeSteps", "(I)V"⟩, 8), (⟨"PackDesk$Packer", "packRuns", "(I)V"⟩, 8), (⟨"PackDesk$Packer", "packPlain", "(J)V"⟩, 8), (⟨"PackDesk$Packer", "packByte", "(J)V"⟩, 8), (⟨"PackDesk$Packer", "packWide", "(I)V"⟩, 8), (⟨"PackDesk", "appendPiece", "(LPackDesk$Stream;ILPackDesk$Row;)V"⟩, 14), (⟨"PackDesk$Packer", "openRuns", "(I)V"⟩, 8), (⟨"PackDesk$Packer", "openPlain", "()J"⟩, 8), (⟨"PackDesk$Packer", "openByte", "()I"⟩, 8), (⟨"PackDesk$Packer", "openWide", "(I)V"⟩, 8), (⟨"PackDesk$Packer", "undoSteps", "(I)V"⟩, 8)]
theorem lw_r1 : ∀ q ∈ lw_privs_1, lw_okq q := List.forall_mem_cons.mpr ⟨lw_p0, List.forall_mem_cons.mpr ⟨lw_p1, List.forall_mem_cons.mpr ⟨lw_p2, List.forall_mem_cons.mpr ⟨lw_p3, List.forall_mem_cons.mpr ⟨lw_p4, List.forall_mem_cons.mpr ⟨lw_p5, List.forall_mem_cons.mpr ⟨lw_p6, List.forall_mem_cons.mpr ⟨lw_p7, List.forall_mem_cons.mpr ⟨lw_p8, List.forall_mem_cons.mpr ⟨lw_p9, List.forall_mem_cons.mpr ⟨lw_p10, List.forall_mem_cons.mpr ⟨lw_p11, List.forall_mem_cons.mpr ⟨lw_p12, List.forall_mem_cons.mpr ⟨lw_p13, List.forall_mem_cons.mpr ⟨lw_p14, List.forall_mem_cons.mpr ⟨lw_p15, fun _ h => absurd h List.not_mem_nil⟩⟩⟩⟩⟩⟩⟩⟩⟩⟩⟩⟩⟩⟩⟩⟩
theorem lw_p16 : lw_okq (⟨"PackDesk$Packer", "areTold", "(II)Z"⟩, 8) := ⟨⟨by decide +kernel, by decide +kernel⟩, List.mem_of_getElem? (i := 55) (by decide +kernel), List.mem_of_getElem? (i := 544) (by decide +kernel), List.mem_of_getElem? (i := 545) (by decide +kernel)⟩
theorem lw_p17 : lw_okq (⟨"PackDesk", "houseNumbered", "(I)LPackDesk$House;"⟩, 14) := ⟨⟨by decide +kernel, by decide +kernel⟩, List.mem_of_getElem? (i := 19) (by decide +kernel), List.mem_of_getElem? (i := 585) (by decide +kernel), List.mem_of_getElem? (i := 586) (by decide +kernel)⟩
theorem lw_p18 : lw_okq (⟨"PackDesk$Delta", "addByte", "(I)V"⟩, 8) := ⟨⟨by decide +kernel, by decide +kernel⟩, List.mem_of_getElem? (i := 665) (by decide +kernel), List.mem_of_getElem? (i := 710) (by decide +kernel), List.mem_of_getElem? (i := 711) (by decide +kernel)⟩
theorem lw_p19 : lw_okq (⟨"PackDesk$Delta", "newAct", "(II)V"⟩, 8) := ⟨⟨by decide +kernel, by decide +kernel⟩, List.mem_of_getElem? (i := 665) (by decide +kernel), List.mem_of_getElem? (i := 714) (by decide +kernel), List.mem_of_getElem? (i := 715) (by decide +kernel)⟩
theorem lw_p20 : lw_okq (⟨"PackDesk", "deltaNumbered", "(I)LPackDesk$Delta;"⟩, 14) := ⟨⟨by decide +kernel, by decide +kernel⟩, List.mem_of_getElem? (i := 19) (by decide +kernel), List.mem_of_getElem? (i := 722) (by decide +kernel), List.mem_of_getElem? (i := 723) (by decide +kernel)⟩
theorem lw_p21 : lw_okq (⟨"PackDeskModel", "meets", "(I)I"⟩, 37) := ⟨⟨by decide +kernel, by decide +kernel⟩, List.mem_of_getElem? (i := 778) (by decide +kernel), List.mem_of_getElem? (i := 905) (by decide +kernel), List.mem_of_getElem? (i := 906) (by decide +kernel)⟩
theorem lw_p22 : lw_okq (⟨"PackDeskModel", "newRow", "(II)I"⟩, 37) := ⟨⟨by decide +kernel, by decide +kernel⟩, List.mem_of_getElem? (i := 778) (by decide +kernel), List.mem_of_getElem? (i := 909) (by decide +kernel), List.mem_of_getElem? (i := 910) (by decide +kernel)⟩
theorem lw_p23 : lw_okq (⟨"PackDeskModel", "isRow", "(I)Z"⟩, 37) := ⟨⟨by decide +kernel, by decide +kernel⟩, List.mem_of_getElem? (i := 778) (by decide +kernel), List.mem_of_getElem? (i := 917) (by decide +kernel), List.mem_of_getElem? (i := 918) (by decide +kernel)⟩
theorem lw_p24 : lw_okq (⟨"PackDeskModel", "against", "(II)I"⟩, 37) := ⟨⟨by decide +kernel, by decide +kernel⟩, List.mem_of_getElem? (i := 778) (by decide +kernel), List.mem_of_getElem? (i := 933) (by decide +kernel), List.mem_of_getElem? (i := 934) (by decide +kernel)⟩
theorem lw_p25 : lw_okq (⟨"PackDeskModel", "newStream", "()I"⟩, 37) := ⟨⟨by decide +kernel, by decide +kernel⟩, List.mem_of_getElem? (i := 778) (by decide +kernel), List.mem_of_getElem? (i := 1046) (by decide +kernel), List.mem_of_getElem? (i := 1047) (by decide +kernel)⟩
theorem lw_p26 : lw_okq (⟨"PackDeskModel", "isStream", "(I)Z"⟩, 37) := ⟨⟨by decide +kernel, by decide +kernel⟩, List.mem_of_getElem? (i := 778) (by decide +kernel), List.mem_of_getElem? (i := 1054) (by decide +kernel), List.mem_of_getElem? (i := 1055) (by decide +kernel)⟩
theorem lw_p27 : lw_okq (⟨"PackDeskModel", "codeRow", "(II)V"⟩, 37) := ⟨⟨by decide +kernel, by decide +kernel⟩, List.mem_of_getElem? (i := 778) (by decide +kernel), List.mem_of_getElem? (i := 1059) (by decide +kernel), List.mem_of_getElem? (i := 1060) (by decide +kernel)⟩
theorem lw_p28 : lw_okq (⟨"PackDeskModel", "code", "(I)V"⟩, 37) := ⟨⟨by decide +kernel, by decide +kernel⟩, List.mem_of_getElem? (i := 778) (by decide +kernel), List.mem_of_getElem? (i := 1063) (by decide +kernel), List.mem_of_getElem? (i := 1064) (by decide +kernel)⟩
theorem lw_p29 : lw_okq (⟨"PackDeskModel", "plain", "(J)V"⟩, 37) := ⟨⟨by decide +kernel, by decide +kernel⟩, List.mem_of_getElem? (i := 778) (by decide +kernel), List.mem_of_getElem? (i := 1067) (by decide +kernel), List.mem_of_getElem? (i := 1068) (by decide +kernel)⟩
theorem lw_p30 : lw_okq (⟨"PackDeskModel", "differences", "()V"⟩, 37) := ⟨⟨by decide +kernel, by decide +kernel⟩, List.mem_of_getElem? (i := 778) (by decide +kernel), List.mem_of_getElem? (i := 1073) (by decide +kernel), List.mem_of_getElem? (i := 1074) (by decide +kernel)⟩
theorem lw_p31 : lw_okq (⟨"PackDeskModel", "wide", "()V"⟩, 37) := ⟨⟨by decide +kernel, by decide +kernel⟩, List.mem_of_getElem? (i := 778) (by decide +kernel), List.mem_of_getElem? (i := 1077) (by decide +kernel), List.mem_of_getElem? (i := 1078) (by decide +kernel)⟩
def lw_privs_2 : List (MethodName × Nat) := [(⟨"PackDesk$Packer", "areTold", "(II)Z"⟩, 8), (⟨"PackDesk", "houseNumbered", "(I)LPackDesk$House;"⟩, 14), (⟨"PackDesk$Delta", "addByte", "(I)V"⟩, 8), (⟨"PackDesk$Delta", "newAct", "(II)V"⟩, 8), (⟨"PackDesk", "deltaNumbered", "(I)LPackDesk$Delta;"⟩, 14), (⟨"PackDeskModel", "meets", "(I)I"⟩, 37), (⟨"PackDeskModel", "newRow", "(II)I"⟩, 37), (⟨"PackDeskModel", "isRow", "(I)Z"⟩, 37), (⟨"PackDeskModel", "against", "(II)I"⟩, 37), (⟨"PackDeskModel", "newStream", "()I"⟩, 37), (⟨"PackDeskModel", "isStream", "(I)Z"⟩, 37), (⟨"PackDeskModel", "codeRow", "(II)V"⟩, 37), (⟨"PackDeskModel", "code", "(I)V"⟩, 37), (⟨"PackDeskModel", "plain", "(J)V"⟩, 37), (⟨"PackDeskModel", "differences", "()V"⟩, 37), (⟨"PackDeskModel", "wide", "()V"⟩, 37)]
theorem lw_r2 : ∀ q ∈ lw_privs_2, lw_okq q := List.forall_mem_cons.mpr ⟨lw_p16, List.forall_mem_cons.mpr ⟨lw_p17, List.forall_mem_cons.mpr ⟨lw_p18, List.forall_mem_cons.mpr ⟨lw_p19, List.forall_mem_cons.mpr ⟨lw_p20, List.forall_mem_cons.mpr ⟨lw_p21, List.forall_mem_cons.mpr ⟨lw_p22, List.forall_mem_cons.mpr ⟨lw_p23, List.forall_mem_cons.mpr ⟨lw_p24, List.forall_mem_cons.mpr ⟨lw_p25, List.forall_mem_cons.mpr ⟨lw_p26, List.forall_mem_cons.mpr ⟨lw_p27, List.forall_mem_cons.mpr ⟨lw_p28, List.forall_mem_cons.mpr ⟨lw_p29, List.forall_mem_cons.mpr ⟨lw_p30, List.forall_mem_cons.mpr ⟨lw_p31, fun _ h => absurd h List.not_mem_nil⟩⟩⟩⟩⟩⟩⟩⟩⟩⟩⟩⟩⟩⟩⟩⟩
theorem lw_p32 : lw_okq (⟨"PackDeskModel", "sums", "()V"⟩, 37) := ⟨⟨by decide +kernel, by decide +kernel⟩, List.mem_of_getElem? (i := 778) (by decide +kernel), List.mem_of_getElem? (i := 1081) (by decide +kernel), List.mem_of_getElem? (i := 1082) (by decide +kernel)⟩
theorem lw_p33 : lw_okq (⟨"PackDeskModel", "lay", "(II)V"⟩, 37) := ⟨⟨by decide +kernel, by decide +kernel⟩, List.mem_of_getElem? (i := 778) (by decide +kernel), List.mem_of_getElem? (i := 1085) (by decide +kernel), List.mem_of_getElem? (i := 1086) (by decide +kernel)⟩
theorem lw_p34 : lw_okq (⟨"PackDeskModel", "sumOf", "(III)I"⟩, 37) := ⟨⟨by decide +kernel, by decide +kernel⟩, List.mem_of_getElem? (i := 778) (by decide +kernel), List.mem_of_getElem? (i := 1089) (by decide +kernel), List.mem_of_getElem? (i := 1090) (by decide +kernel)⟩
theorem lw_p35 : lw_okq (⟨"PackDeskModel", "piece", "(II)I"⟩, 37) := ⟨⟨by decide +kernel, by decide +kernel⟩, List.mem_of_getElem? (i := 778) (by decide +kernel), List.mem_of_getElem? (i := 1130) (by decide +kernel), List.mem_of_getElem? (i := 1131) (by decide +kernel)⟩
theorem lw_p36 : lw_okq (⟨"PackDeskModel", "decode", "(III)Z"⟩, 37) := ⟨⟨by decide +kernel, by decide +kernel⟩, List.mem_of_getElem? (i := 778) (by decide +kernel), List.mem_of_getElem? (i := 1134) (by decide +kernel), List.mem_of_getElem? (i := 1135) (by decide +kernel)⟩
theorem lw_p37 : lw_okq (⟨"PackDeskModel", "takes", "(I)Z"⟩, 37) := ⟨⟨by decide +kernel, by decide +kernel⟩, List.mem_of_getElem? (i := 778) (by decide +kernel), List.mem_of_getElem? (i := 1139) (by decide +kernel), List.mem_of_getElem? (i := 1140) (by decide +kernel)⟩
theorem lw_p38 : lw_okq (⟨"PackDeskModel", "isHouse", "(I)Z"⟩, 37) := ⟨⟨by decide +kernel, by decide +kernel⟩, List.mem_of_getElem? (i := 778) (by decide +kernel), List.mem_of_getElem? (i := 1155) (by decide +kernel), List.mem_of_getElem? (i := 1156) (by decide +kernel)⟩
theorem lw_p39 : lw_okq (⟨"PackDeskModel", "entry", "(IJ)I"⟩, 37) := ⟨⟨by decide +kernel, by decide +kernel⟩, List.mem_of_getElem? (i := 778) (by decide +kernel), List.mem_of_getElem? (i := 1159) (by decide +kernel), List.mem_of_getElem? (i := 1160) (by decide +kernel)⟩
theorem lw_p40 : lw_okq (⟨"PackDeskModel", "likeBody", "(I)I"⟩, 37) := ⟨⟨by decide +kernel, by decide +kernel⟩, List.mem_of_getElem? (i := 778) (by decide +kernel), List.mem_of_getElem? (i := 1163) (by decide +kernel), List.mem_of_getElem? (i := 1164) (by decide +kernel)⟩
theorem lw_p41 : lw_okq (⟨"PackDeskModel", "freeBody", "()I"⟩, 37) := ⟨⟨by decide +kernel, by decide +kernel⟩, List.mem_of_getElem? (i := 778) (by decide +kernel), List.mem_of_getElem? (i := 1167) (by decide +kernel), List.mem_of_getElem? (i := 1168) (by decide +kernel)⟩
theorem lw_p42 : lw_okq (⟨"PackDeskModel", "leave", "(I)V"⟩, 37) := ⟨⟨by decide +kernel, by decide +kernel⟩, List.mem_of_getElem? (i := 778) (by decide +kernel), List.mem_of_getElem? (i := 1171) (by decide +kernel), List.mem_of_getElem? (i := 1172) (by decide +kernel)⟩
theorem lw_p43 : lw_okq (⟨"PackDeskModel", "matching", "(IIII)I"⟩, 37) := ⟨⟨by decide +kernel, by decide +kernel⟩, List.mem_of_getElem? (i := 778) (by decide +kernel), List.mem_of_getElem? (i := 1199) (by decide +kernel), List.mem_of_getElem? (i := 1200) (by decide +kernel)⟩
theorem lw_p44 : lw_okq (⟨"PackDeskModel", "isDelta", "(I)Z"⟩, 37) := ⟨⟨by decide +kernel, by decide +kernel⟩, List.mem_of_getElem? (i := 778) (by decide +kernel), List.mem_of_getElem? (i := 1207) (by decide +kernel), List.mem_of_getElem? (i := 1208) (by decide +kernel)⟩
theorem lw_p45 : lw_okq (⟨"PackDeskModel", "total", "(IZ)I"⟩, 37) := ⟨⟨by decide +kernel, by decide +kernel⟩, List.mem_of_getElem? (i := 778) (by decide +kernel), List.mem_of_getElem? (i := 1211) (by decide +kernel), List.mem_of_getElem? (i := 1212) (by decide +kernel)⟩
theorem lw_p46 : lw_okq (⟨"PackDeskModel", "bodiesNow", "()I"⟩, 37) := ⟨⟨by decide +kernel, by decide +kernel⟩, List.mem_of_getElem? (i := 778) (by decide +kernel), List.mem_of_getElem? (i := 1232) (by decide +kernel), List.mem_of_getElem? (i := 1233) (by decide +kernel)⟩
def lw_privs_3 : List (MethodName × Nat) := [(⟨"PackDeskModel", "sums", "()V"⟩, 37), (⟨"PackDeskModel", "lay", "(II)V"⟩, 37), (⟨"PackDeskModel", "sumOf", "(III)I"⟩, 37), (⟨"PackDeskModel", "piece", "(II)I"⟩, 37), (⟨"PackDeskModel", "decode", "(III)Z"⟩, 37), (⟨"PackDeskModel", "takes", "(I)Z"⟩, 37), (⟨"PackDeskModel", "isHouse", "(I)Z"⟩, 37), (⟨"PackDeskModel", "entry", "(IJ)I"⟩, 37), (⟨"PackDeskModel", "likeBody", "(I)I"⟩, 37), (⟨"PackDeskModel", "freeBody", "()I"⟩, 37), (⟨"PackDeskModel", "leave", "(I)V"⟩, 37), (⟨"PackDeskModel", "matching", "(IIII)I"⟩, 37), (⟨"PackDeskModel", "isDelta", "(I)Z"⟩, 37), (⟨"PackDeskModel", "total", "(IZ)I"⟩, 37), (⟨"PackDeskModel", "bodiesNow", "()I"⟩, 37)]
theorem lw_r3 : ∀ q ∈ lw_privs_3, lw_okq q := List.forall_mem_cons.mpr ⟨lw_p32, List.forall_mem_cons.mpr ⟨lw_p33, List.forall_mem_cons.mpr ⟨lw_p34, List.forall_mem_cons.mpr ⟨lw_p35, List.forall_mem_cons.mpr ⟨lw_p36, List.forall_mem_cons.mpr ⟨lw_p37, List.forall_mem_cons.mpr ⟨lw_p38, List.forall_mem_cons.mpr ⟨lw_p39, List.forall_mem_cons.mpr ⟨lw_p40, List.forall_mem_cons.mpr ⟨lw_p41, List.forall_mem_cons.mpr ⟨lw_p42, List.forall_mem_cons.mpr ⟨lw_p43, List.forall_mem_cons.mpr ⟨lw_p44, List.forall_mem_cons.mpr ⟨lw_p45, List.forall_mem_cons.mpr ⟨lw_p46, fun _ h => absurd h List.not_mem_nil⟩⟩⟩⟩⟩⟩⟩⟩⟩⟩⟩⟩⟩⟩⟩
def lw_privs : List (MethodName × Nat) := lw_privs_1 ++ (lw_privs_2 ++ (lw_privs_3))
def lw_tbl : List Cond := k2_sels lw_privs ++ tables_1
theorem lw_privs_ok : ∀ q ∈ lw_privs, lw_okq q := by
  show ∀ q ∈ lw_privs_1 ++ (lw_privs_2 ++ (lw_privs_3)), lw_okq q
  exact List.forall_mem_append.mpr ⟨lw_r1, List.forall_mem_append.mpr ⟨lw_r2, lw_r3⟩⟩
/-- the streams that the claim lets the run draw from -/
abbrev lw_cs : List Choice := [Jvm.Choice.named "NaN.bits", Jvm.Choice.named "NaN.copy"]
theorem lw_bits : nanBits ∈ lw_cs := by first | decide | exact List.mem_cons_self | simp [lw_cs, nanBits]
def RX0 : String := "PackDesk$Body"
def TX0 : u_T := fun k => match k with
  | 0 => ("PackDesk$Body", "bytes", "[B", true)
  | 1 => ("PackDesk$Body", "size", "I", false)
  | 2 => ("PackDesk$Body", "number", "I", false)
  | _ => ("PackDesk$Body", "users", "I", false)
def tyX0 : Nat → FieldType := fun k => match k with
  | 0 => .array .byte
  | 1 => .int
  | 2 => .int
  | _ => .int
theorem nmX0 : ∀ a, a < 4 → ∀ b, b < 4 → a ≠ b → (TX0 a).2.1 ≠ (TX0 b).2.1 := by decide +kernel
theorem tyX0_ok : ∀ k, k < 4 → parseFieldDescriptor (TX0 k).2.2.1 = some (tyX0 k) := by decide +kernel
abbrev cX0_init : ByteArray := prog_2_method_1_code
def yX0_init : MethodName := ⟨RX0, "<init>", "()V"⟩
def RX1 : String := "PackDesk$Delta"
def TX1 : u_T := fun k => match k with
  | 0 => ("PackDesk$Delta", "fromSize", "I", true)
  | 1 => ("PackDesk$Delta", "fromSum", "I", true)
  | 2 => ("PackDesk$Delta", "places", "[I", true)
  | 3 => ("PackDesk$Delta", "lengths", "[I", true)
  | 4 => ("PackDesk$Delta", "added", "[B", true)
  | 5 => ("PackDesk$Delta", "acts", "I", false)
  | 6 => ("PackDesk$Delta", "bytesAdded", "I", false)
  | _ => ("PackDesk$Delta", "bytesCopied", "I", false)
def tyX1 : Nat → FieldType := fun k => match k with
  | 0 => .int
  | 1 => .int
  | 2 => .array .int
  | 3 => .array .int
  | 4 => .array .byte
  | 5 => .int
  | 6 => .int
  | _ => .int
theorem nmX1 : ∀ a, a < 8 → ∀ b, b < 8 → a ≠ b → (TX1 a).2.1 ≠ (TX1 b).2.1 := by decide +kernel
theorem tyX1_ok : ∀ k, k < 8 → parseFieldDescriptor (TX1 k).2.2.1 = some (tyX1 k) := by decide +kernel
abbrev cX1_init : ByteArray := prog_3_method_1_code
def yX1_init : MethodName := ⟨RX1, "<init>", "(LPackDesk$Stream;LPackDesk$Stream;)V"⟩
abbrev cX1_fill : ByteArray := prog_3_method_2_code
def yX1_fill : MethodName := ⟨RX1, "fill", "(LPackDesk$Stream;LPackDesk$Stream;)V"⟩
abbrev cX1_longestLike : ByteArray := prog_3_method_3_code
def yX1_longestLike : MethodName := ⟨RX1, "longestLike", "(LPackDesk$Stream;LPackDesk$Stream;I)I"⟩
abbrev cX1_likeBytes : ByteArray := prog_3_method_4_code
def yX1_likeBytes : MethodName := ⟨RX1, "likeBytes", "(LPackDesk$Stream;ILPackDesk$Stream;I)I"⟩
abbrev cX1_newAct : ByteArray := prog_3_method_5_code
def yX1_newAct : MethodName := ⟨RX1, "newAct", "(II)V"⟩
abbrev cX1_addByte : ByteArray := prog_3_method_6_code
def yX1_addByte : MethodName := ⟨RX1, "addByte", "(I)V"⟩
abbrev cX1_told : ByteArray := prog_3_method_7_code
def yX1_told : MethodName := ⟨RX1, "told", "(I)I"⟩
abbrev cX1_toldOfAct : ByteArray := prog_3_method_8_code
def yX1_toldOfAct : MethodName := ⟨RX1, "toldOfAct", "(II)I"⟩
abbrev cX1_fits : ByteArray := prog_3_method_9_code
def yX1_fits : MethodName := ⟨RX1, "fits", "(LPackDesk$Stream;)Z"⟩
abbrev cX1_make : ByteArray := prog_3_method_10_code
def yX1_make : MethodName := ⟨RX1, "make", "(LPackDesk$Stream;LPackDesk$Stream;)V"⟩
def RX2 : String := "PackDesk$Floating"
def TX2 : u_T := fun k => match k with
  | _ => ("", "", "", false)
def tyX2 : Nat → FieldType := fun k => match k with
  | _ => .int
theorem nmX2 : ∀ a, a < 0 → ∀ b, b < 0 → a ≠ b → (TX2 a).2.1 ≠ (TX2 b).2.1 := by decide +kernel
theorem tyX2_ok : ∀ k, k < 0 → parseFieldDescriptor (TX2 k).2.2.1 = some (tyX2 k) := by decide +kernel
abbrev cX2_fractionBits : ByteArray := prog_4_method_2_code
def yX2_fractionBits : MethodName := ⟨RX2, "fractionBits", "(I)I"⟩
abbrev cX2_bias : ByteArray := prog_4_method_3_code
def yX2_bias : MethodName := ⟨RX2, "bias", "(I)I"⟩
abbrev cX2_signBit : ByteArray := prog_4_method_4_code
def yX2_signBit : MethodName := ⟨RX2, "signBit", "(I)J"⟩
abbrev cX2_endless : ByteArray := prog_4_method_5_code
def yX2_endless : MethodName := ⟨RX2, "endless", "(I)J"⟩
abbrev cX2_oneOf : ByteArray := prog_4_method_6_code
def yX2_oneOf : MethodName := ⟨RX2, "oneOf", "(I)J"⟩
abbrev cX2_sizeOf : ByteArray := prog_4_method_7_code
def yX2_sizeOf : MethodName := ⟨RX2, "sizeOf", "(IJ)J"⟩
abbrev cX2_withSign : ByteArray := prog_4_method_8_code
def yX2_withSign : MethodName := ⟨RX2, "withSign", "(IJZ)J"⟩
abbrev cX2_isNone : ByteArray := prog_4_method_9_code
def yX2_isNone : MethodName := ⟨RX2, "isNone", "(IJ)Z"⟩
abbrev cX2_orGap : ByteArray := prog_4_method_10_code
def yX2_orGap : MethodName := ⟨RX2, "orGap", "(IJ)J"⟩
abbrev cX2_signOf : ByteArray := prog_4_method_11_code
def yX2_signOf : MethodName := ⟨RX2, "signOf", "(IJ)J"⟩
abbrev cX2_rounded : ByteArray := prog_4_method_12_code
def yX2_rounded : MethodName := ⟨RX2, "rounded", "(IJI)J"⟩
abbrev cX2_halfOf : ByteArray := prog_4_method_13_code
def yX2_halfOf : MethodName := ⟨RX2, "halfOf", "(I)J"⟩
abbrev cX2_goesUp : ByteArray := prog_4_method_14_code
def yX2_goesUp : MethodName := ⟨RX2, "goesUp", "(IZIZ)Z"⟩
abbrev cX2_leaveRest : ByteArray := prog_4_method_15_code
def yX2_leaveRest : MethodName := ⟨RX2, "leaveRest", "(IJJ)Z"⟩
abbrev cX2_restOf : ByteArray := prog_4_method_16_code
def yX2_restOf : MethodName := ⟨RX2, "restOf", "(IJJ)J"⟩
abbrev cX2_scaledFraction : ByteArray := prog_4_method_17_code
def yX2_scaledFraction : MethodName := ⟨RX2, "scaledFraction", "(IJ)J"⟩
abbrev cX2_scaleOf : ByteArray := prog_4_method_18_code
def yX2_scaleOf : MethodName := ⟨RX2, "scaleOf", "(IJ)I"⟩
abbrev cX2_sizeFrom : ByteArray := prog_4_method_19_code
def yX2_sizeFrom : MethodName := ⟨RX2, "sizeFrom", "(IJI)J"⟩
def RX3 : String := "PackDesk$House"
def TX3 : u_T := fun k => match k with
  | 0 => ("PackDesk$House", "paths", "[J", true)
  | 1 => ("PackDesk$House", "bodies", "[LPackDesk$Body;", true)
  | _ => ("PackDesk$House", "entries", "I", false)
def tyX3 : Nat → FieldType := fun k => match k with
  | 0 => .array .long
  | 1 => .array (.object "PackDesk$Body")
  | _ => .int
theorem nmX3 : ∀ a, a < 3 → ∀ b, b < 3 → a ≠ b → (TX3 a).2.1 ≠ (TX3 b).2.1 := by decide +kernel
theorem tyX3_ok : ∀ k, k < 3 → parseFieldDescriptor (TX3 k).2.2.1 = some (tyX3 k) := by decide +kernel
abbrev cX3_init : ByteArray := prog_5_method_1_code
def yX3_init : MethodName := ⟨RX3, "<init>", "()V"⟩
abbrev cX3_entryOf : ByteArray := prog_5_method_2_code
def yX3_entryOf : MethodName := ⟨RX3, "entryOf", "(J)I"⟩
abbrev cX3_insert : ByteArray := prog_5_method_3_code
def yX3_insert : MethodName := ⟨RX3, "insert", "(JLPackDesk$Body;)V"⟩
abbrev cX3_remove : ByteArray := prog_5_method_4_code
def yX3_remove : MethodName := ⟨RX3, "remove", "(I)V"⟩
def RX4 : String := "PackDesk$Kinds"
def TX4 : u_T := fun k => match k with
  | _ => ("", "", "", false)
def tyX4 : Nat → FieldType := fun k => match k with
  | _ => .int
theorem nmX4 : ∀ a, a < 0 → ∀ b, b < 0 → a ≠ b → (TX4 a).2.1 ≠ (TX4 b).2.1 := by decide +kernel
theorem tyX4_ok : ∀ k, k < 0 → parseFieldDescriptor (TX4 k).2.2.1 = some (tyX4 k) := by decide +kernel
abbrev cX4_areFloating : ByteArray := prog_6_method_2_code
def yX4_areFloating : MethodName := ⟨RX4, "areFloating", "(I)Z"⟩
abbrev cX4_told : ByteArray := prog_6_method_3_code
def yX4_told : MethodName := ⟨RX4, "told", "(IJ)J"⟩
abbrev cX4_isGap : ByteArray := prog_6_method_4_code
def yX4_isGap : MethodName := ⟨RX4, "isGap", "(IJ)Z"⟩
abbrev cX4_rank : ByteArray := prog_6_method_5_code
def yX4_rank : MethodName := ⟨RX4, "rank", "(IJ)J"⟩
abbrev cX4_compared : ByteArray := prog_6_method_6_code
def yX4_compared : MethodName := ⟨RX4, "compared", "(IJJ)I"⟩
abbrev cX4_unsignedZero : ByteArray := prog_6_method_7_code
def yX4_unsignedZero : MethodName := ⟨RX4, "unsignedZero", "(IJ)J"⟩
abbrev cX4_shaped : ByteArray := prog_6_method_8_code
def yX4_shaped : MethodName := ⟨RX4, "shaped", "(IJI)J"⟩
abbrev cX4_turned : ByteArray := prog_6_method_9_code
def yX4_turned : MethodName := ⟨RX4, "turned", "(IJ)J"⟩
abbrev cX4_leaveRest : ByteArray := prog_6_method_10_code
def yX4_leaveRest : MethodName := ⟨RX4, "leaveRest", "(IJJ)Z"⟩
abbrev cX4_restOf : ByteArray := prog_6_method_11_code
def yX4_restOf : MethodName := ⟨RX4, "restOf", "(IJJ)J"⟩
def RX5 : String := "PackDesk$Packer"
def TX5 : u_T := fun k => match k with
  | 0 => ("PackDesk$Packer", "made", "[B", true)
  | 1 => ("PackDesk$Packer", "size", "I", false)
  | 2 => ("PackDesk$Packer", "opened", "[J", true)
  | 3 => ("PackDesk$Packer", "worked", "[J", true)
  | 4 => ("PackDesk$Packer", "source", "LPackDesk$Stream;", false)
  | 5 => ("PackDesk$Packer", "from", "I", false)
  | 6 => ("PackDesk$Packer", "until", "I", false)
  | _ => ("PackDesk$Packer", "astray", "Z", false)
def tyX5 : Nat → FieldType := fun k => match k with
  | 0 => .array .byte
  | 1 => .int
  | 2 => .array .long
  | 3 => .array .long
  | 4 => .object "PackDesk$Stream"
  | 5 => .int
  | 6 => .int
  | _ => .boolean
theorem nmX5 : ∀ a, a < 8 → ∀ b, b < 8 → a ≠ b → (TX5 a).2.1 ≠ (TX5 b).2.1 := by decide +kernel
theorem tyX5_ok : ∀ k, k < 8 → parseFieldDescriptor (TX5 k).2.2.1 = some (tyX5 k) := by decide +kernel
abbrev cX5_init : ByteArray := prog_7_method_1_code
def yX5_init : MethodName := ⟨RX5, "<init>", "()V"⟩
abbrev cX5_pack : ByteArray := prog_7_method_2_code
def yX5_pack : MethodName := ⟨RX5, "pack", "(I[JI)V"⟩
abbrev cX5_makeSteps : ByteArray := prog_7_method_3_code
def yX5_makeSteps : MethodName := ⟨RX5, "makeSteps", "(I)V"⟩
abbrev cX5_packByte : ByteArray := prog_7_method_4_code
def yX5_packByte : MethodName := ⟨RX5, "packByte", "(J)V"⟩
abbrev cX5_packPlain : ByteArray := prog_7_method_5_code
def yX5_packPlain : MethodName := ⟨RX5, "packPlain", "(J)V"⟩
abbrev cX5_packRuns : ByteArray := prog_7_method_6_code
def yX5_packRuns : MethodName := ⟨RX5, "packRuns", "(I)V"⟩
abbrev cX5_packWide : ByteArray := prog_7_method_7_code
def yX5_packWide : MethodName := ⟨RX5, "packWide", "(I)V"⟩
abbrev cX5_widthOf : ByteArray := prog_7_method_8_code
def yX5_widthOf : MethodName := ⟨RX5, "widthOf", "(J)I"⟩
abbrev cX5_unpack : ByteArray := prog_7_method_9_code
def yX5_unpack : MethodName := ⟨RX5, "unpack", "(IIILPackDesk$Stream;II)Z"⟩
abbrev cX5_undoSteps : ByteArray := prog_7_method_10_code
def yX5_undoSteps : MethodName := ⟨RX5, "undoSteps", "(I)V"⟩
abbrev cX5_areTold : ByteArray := prog_7_method_11_code
def yX5_areTold : MethodName := ⟨RX5, "areTold", "(II)Z"⟩
abbrev cX5_openByte : ByteArray := prog_7_method_12_code
def yX5_openByte : MethodName := ⟨RX5, "openByte", "()I"⟩
abbrev cX5_openPlain : ByteArray := prog_7_method_13_code
def yX5_openPlain : MethodName := ⟨RX5, "openPlain", "()J"⟩
abbrev cX5_openRuns : ByteArray := prog_7_method_14_code
def yX5_openRuns : MethodName := ⟨RX5, "openRuns", "(I)V"⟩
abbrev cX5_openWide : ByteArray := prog_7_method_15_code
def yX5_openWide : MethodName := ⟨RX5, "openWide", "(I)V"⟩
def RX6 : String := "PackDesk$PieceReader"
def TX6 : u_T := fun k => match k with
  | 0 => ("PackDesk$PieceReader", "ofKind", "I", false)
  | 1 => ("PackDesk$PieceReader", "howMany", "I", false)
  | _ => ("PackDesk$PieceReader", "behind", "I", false)
def tyX6 : Nat → FieldType := fun k => match k with
  | 0 => .int
  | 1 => .int
  | _ => .int
theorem nmX6 : ∀ a, a < 3 → ∀ b, b < 3 → a ≠ b → (TX6 a).2.1 ≠ (TX6 b).2.1 := by decide +kernel
theorem tyX6_ok : ∀ k, k < 3 → parseFieldDescriptor (TX6 k).2.2.1 = some (tyX6 k) := by decide +kernel
abbrev cX6_init : ByteArray := prog_8_method_1_code
def yX6_init : MethodName := ⟨RX6, "<init>", "()V"⟩
abbrev cX6_examine : ByteArray := prog_8_method_2_code
def yX6_examine : MethodName := ⟨RX6, "examine", "(LPackDesk$Packer;LPackDesk$Stream;I)I"⟩
def RX7 : String := "PackDesk$Row"
def TX7 : u_T := fun k => match k with
  | 0 => ("PackDesk$Row", "ofKind", "I", true)
  | 1 => ("PackDesk$Row", "numbers", "[J", true)
  | _ => ("PackDesk$Row", "lost", "Z", false)
def tyX7 : Nat → FieldType := fun k => match k with
  | 0 => .int
  | 1 => .array .long
  | _ => .boolean
theorem nmX7 : ∀ a, a < 3 → ∀ b, b < 3 → a ≠ b → (TX7 a).2.1 ≠ (TX7 b).2.1 := by decide +kernel
theorem tyX7_ok : ∀ k, k < 3 → parseFieldDescriptor (TX7 k).2.2.1 = some (tyX7 k) := by decide +kernel
abbrev cX7_init : ByteArray := prog_9_method_1_code
def yX7_init : MethodName := ⟨RX7, "<init>", "(II)V"⟩
abbrev cX7_has : ByteArray := prog_9_method_2_code
def yX7_has : MethodName := ⟨RX7, "has", "(I)Z"⟩
abbrev cX7_hasStretch : ByteArray := prog_9_method_3_code
def yX7_hasStretch : MethodName := ⟨RX7, "hasStretch", "(II)Z"⟩
abbrev cX7_gaps : ByteArray := prog_9_method_4_code
def yX7_gaps : MethodName := ⟨RX7, "gaps", "()I"⟩
abbrev cX7_utmost : ByteArray := prog_9_method_5_code
def yX7_utmost : MethodName := ⟨RX7, "utmost", "(Z)J"⟩
def RX8 : String := "PackDesk$Store"
def TX8 : u_T := fun k => match k with
  | 0 => ("PackDesk$Store", "bodies", "[LPackDesk$Body;", true)
  | 1 => ("PackDesk$Store", "atHand", "I", false)
  | _ => ("PackDesk$Store", "ever", "I", false)
def tyX8 : Nat → FieldType := fun k => match k with
  | 0 => .array (.object "PackDesk$Body")
  | 1 => .int
  | _ => .int
theorem nmX8 : ∀ a, a < 3 → ∀ b, b < 3 → a ≠ b → (TX8 a).2.1 ≠ (TX8 b).2.1 := by decide +kernel
theorem tyX8_ok : ∀ k, k < 3 → parseFieldDescriptor (TX8 k).2.2.1 = some (tyX8 k) := by decide +kernel
abbrev cX8_init : ByteArray := prog_10_method_1_code
def yX8_init : MethodName := ⟨RX8, "<init>", "()V"⟩
abbrev cX8_bodyLike : ByteArray := prog_10_method_2_code
def yX8_bodyLike : MethodName := ⟨RX8, "bodyLike", "(LPackDesk$Stream;)LPackDesk$Body;"⟩
abbrev cX8_newBody : ByteArray := prog_10_method_3_code
def yX8_newBody : MethodName := ⟨RX8, "newBody", "(LPackDesk$Stream;)LPackDesk$Body;"⟩
abbrev cX8_release : ByteArray := prog_10_method_4_code
def yX8_release : MethodName := ⟨RX8, "release", "(LPackDesk$Body;)V"⟩
abbrev cX8_usersOf : ByteArray := prog_10_method_5_code
def yX8_usersOf : MethodName := ⟨RX8, "usersOf", "(I)I"⟩
def RX9 : String := "PackDesk$Stream"
def TX9 : u_T := fun k => match k with
  | 0 => ("PackDesk$Stream", "bytes", "[B", true)
  | 1 => ("PackDesk$Stream", "size", "I", false)
  | 2 => ("PackDesk$Stream", "place", "I", false)
  | _ => ("PackDesk$Stream", "ended", "Z", false)
def tyX9 : Nat → FieldType := fun k => match k with
  | 0 => .array .byte
  | 1 => .int
  | 2 => .int
  | _ => .boolean
theorem nmX9 : ∀ a, a < 4 → ∀ b, b < 4 → a ≠ b → (TX9 a).2.1 ≠ (TX9 b).2.1 := by decide +kernel
theorem tyX9_ok : ∀ k, k < 4 → parseFieldDescriptor (TX9 k).2.2.1 = some (tyX9 k) := by decide +kernel
abbrev cX9_init : ByteArray := prog_11_method_1_code
def yX9_init : MethodName := ⟨RX9, "<init>", "()V"⟩
abbrev cX9_has : ByteArray := prog_11_method_2_code
def yX9_has : MethodName := ⟨RX9, "has", "(I)Z"⟩
abbrev cX9_byteAt : ByteArray := prog_11_method_3_code
def yX9_byteAt : MethodName := ⟨RX9, "byteAt", "(I)I"⟩
abbrev cX9_append : ByteArray := prog_11_method_4_code
def yX9_append : MethodName := ⟨RX9, "append", "(I)V"⟩
abbrev cX9_appendPair : ByteArray := prog_11_method_5_code
def yX9_appendPair : MethodName := ⟨RX9, "appendPair", "(I)V"⟩
abbrev cX9_appendAll : ByteArray := prog_11_method_6_code
def yX9_appendAll : MethodName := ⟨RX9, "appendAll", "([BII)V"⟩
abbrev cX9_pairAt : ByteArray := prog_11_method_7_code
def yX9_pairAt : MethodName := ⟨RX9, "pairAt", "(I)I"⟩
abbrev cX9_sum : ByteArray := prog_11_method_8_code
def yX9_sum : MethodName := ⟨RX9, "sum", "(II)I"⟩
abbrev cX9_hasAt : ByteArray := prog_11_method_9_code
def yX9_hasAt : MethodName := ⟨RX9, "hasAt", "(II[BI)Z"⟩
def RX10 : String := "PackDesk"
def TX10 : u_T := fun k => match k with
  | 0 => ("PackDesk", "rows", "[LPackDesk$Row;", true)
  | 1 => ("PackDesk", "streams", "[LPackDesk$Stream;", true)
  | 2 => ("PackDesk", "houses", "[LPackDesk$House;", true)
  | 3 => ("PackDesk", "deltas", "[LPackDesk$Delta;", true)
  | 4 => ("PackDesk", "store", "LPackDesk$Store;", true)
  | 5 => ("PackDesk", "packer", "LPackDesk$Packer;", true)
  | 6 => ("PackDesk", "reader", "LPackDesk$PieceReader;", true)
  | 7 => ("PackDesk", "timesFound", "[I", true)
  | 8 => ("PackDesk", "rowsMade", "I", false)
  | 9 => ("PackDesk", "streamsMade", "I", false)
  | 10 => ("PackDesk", "housesMade", "I", false)
  | 11 => ("PackDesk", "deltasMade", "I", false)
  | 12 => ("PackDesk", "latestFinding", "I", false)
  | _ => ("PackDesk", "whatWasSeen", "J", false)
def tyX10 : Nat → FieldType := fun k => match k with
  | 0 => .array (.object "PackDesk$Row")
  | 1 => .array (.object "PackDesk$Stream")
  | 2 => .array (.object "PackDesk$House")
  | 3 => .array (.object "PackDesk$Delta")
  | 4 => .object "PackDesk$Store"
  | 5 => .object "PackDesk$Packer"
  | 6 => .object "PackDesk$PieceReader"
  | 7 => .array .int
  | 8 => .int
  | 9 => .int
  | 10 => .int
  | 11 => .int
  | 12 => .int
  | _ => .long
theorem nmX10 : ∀ a, a < 14 → ∀ b, b < 14 → a ≠ b → (TX10 a).2.1 ≠ (TX10 b).2.1 := by decide +kernel
theorem tyX10_ok : ∀ k, k < 14 → parseFieldDescriptor (TX10 k).2.2.1 = some (tyX10 k) := by decide +kernel
abbrev cX10_init : ByteArray := prog_1_method_1_code
def yX10_init : MethodName := ⟨RX10, "<init>", "()V"⟩
abbrev cX10_row : ByteArray := prog_1_method_2_code
def yX10_row : MethodName := ⟨RX10, "row", "(II)I"⟩
abbrev cX10_lose : ByteArray := prog_1_method_3_code
def yX10_lose : MethodName := ⟨RX10, "lose", "(I)I"⟩
abbrev cX10_kind : ByteArray := prog_1_method_4_code
def yX10_kind : MethodName := ⟨RX10, "kind", "(I)I"⟩
abbrev cX10_length : ByteArray := prog_1_method_5_code
def yX10_length : MethodName := ⟨RX10, "length", "(I)I"⟩
abbrev cX10_put : ByteArray := prog_1_method_6_code
def yX10_put : MethodName := ⟨RX10, "put", "(IIJ)I"⟩
abbrev cX10_get : ByteArray := prog_1_method_7_code
def yX10_get : MethodName := ⟨RX10, "get", "(II)I"⟩
abbrev cX10_copy : ByteArray := prog_1_method_8_code
def yX10_copy : MethodName := ⟨RX10, "copy", "(IIIII)I"⟩
abbrev cX10_compare : ByteArray := prog_1_method_9_code
def yX10_compare : MethodName := ⟨RX10, "compare", "(III)I"⟩
abbrev cX10_shape : ByteArray := prog_1_method_10_code
def yX10_shape : MethodName := ⟨RX10, "shape", "(III)I"⟩
abbrev cX10_rest : ByteArray := prog_1_method_11_code
def yX10_rest : MethodName := ⟨RX10, "rest", "(III)I"⟩
abbrev cX10_most : ByteArray := prog_1_method_12_code
def yX10_most : MethodName := ⟨RX10, "most", "(II)I"⟩
abbrev cX10_seen : ByteArray := prog_1_method_13_code
def yX10_seen : MethodName := ⟨RX10, "seen", "()J"⟩
abbrev cX10_stream : ByteArray := prog_1_method_14_code
def yX10_stream : MethodName := ⟨RX10, "stream", "()I"⟩
abbrev cX10_write : ByteArray := prog_1_method_15_code
def yX10_write : MethodName := ⟨RX10, "write", "(III)I"⟩
abbrev cX10_cost : ByteArray := prog_1_method_16_code
def yX10_cost : MethodName := ⟨RX10, "cost", "(II)I"⟩
abbrev cX10_best : ByteArray := prog_1_method_17_code
def yX10_best : MethodName := ⟨RX10, "best", "(I)I"⟩
abbrev cX10_add : ByteArray := prog_1_method_18_code
def yX10_add : MethodName := ⟨RX10, "add", "(II)I"⟩
abbrev cX10_end : ByteArray := prog_1_method_19_code
def yX10_end : MethodName := ⟨RX10, "end", "(I)I"⟩
abbrev cX10_about : ByteArray := prog_1_method_20_code
def yX10_about : MethodName := ⟨RX10, "about", "(II)I"⟩
abbrev cX10_at : ByteArray := prog_1_method_21_code
def yX10_at : MethodName := ⟨RX10, "at", "(II)I"⟩
abbrev cX10_harm : ByteArray := prog_1_method_22_code
def yX10_harm : MethodName := ⟨RX10, "harm", "(III)I"⟩
abbrev cX10_seek : ByteArray := prog_1_method_23_code
def yX10_seek : MethodName := ⟨RX10, "seek", "(II)I"⟩
abbrev cX10_read : ByteArray := prog_1_method_24_code
def yX10_read : MethodName := ⟨RX10, "read", "(I)I"⟩
abbrev cX10_pieces : ByteArray := prog_1_method_25_code
def yX10_pieces : MethodName := ⟨RX10, "pieces", "(I)I"⟩
abbrev cX10_house : ByteArray := prog_1_method_26_code
def yX10_house : MethodName := ⟨RX10, "house", "()I"⟩
abbrev cX10_keep : ByteArray := prog_1_method_27_code
def yX10_keep : MethodName := ⟨RX10, "keep", "(IJI)I"⟩
abbrev cX10_find : ByteArray := prog_1_method_28_code
def yX10_find : MethodName := ⟨RX10, "find", "(IJ)I"⟩
abbrev cX10_drop : ByteArray := prog_1_method_29_code
def yX10_drop : MethodName := ⟨RX10, "drop", "(IJ)I"⟩
abbrev cX10_list : ByteArray := prog_1_method_30_code
def yX10_list : MethodName := ⟨RX10, "list", "(II)I"⟩
abbrev cX10_take : ByteArray := prog_1_method_31_code
def yX10_take : MethodName := ⟨RX10, "take", "(IJ)I"⟩
abbrev cX10_uses : ByteArray := prog_1_method_32_code
def yX10_uses : MethodName := ⟨RX10, "uses", "(I)I"⟩
abbrev cX10_delta : ByteArray := prog_1_method_33_code
def yX10_delta : MethodName := ⟨RX10, "delta", "(II)I"⟩
abbrev cX10_act : ByteArray := prog_1_method_34_code
def yX10_act : MethodName := ⟨RX10, "act", "(III)I"⟩
abbrev cX10_apply : ByteArray := prog_1_method_35_code
def yX10_apply : MethodName := ⟨RX10, "apply", "(II)I"⟩
abbrev cX10_finding : ByteArray := prog_1_method_36_code
def yX10_finding : MethodName := ⟨RX10, "finding", "()I"⟩
abbrev cX10_findings : ByteArray := prog_1_method_37_code
def yX10_findings : MethodName := ⟨RX10, "findings", "(I)I"⟩
abbrev cX10_count : ByteArray := prog_1_method_38_code
def yX10_count : MethodName := ⟨RX10, "count", "(I)I"⟩
abbrev cX10_digest : ByteArray := prog_1_method_39_code
def yX10_digest : MethodName := ⟨RX10, "digest", "()J"⟩
abbrev cX10_isKind : ByteArray := prog_1_method_40_code
def yX10_isKind : MethodName := ⟨RX10, "isKind", "(I)Z"⟩
abbrev cX10_isCoder : ByteArray := prog_1_method_41_code
def yX10_isCoder : MethodName := ⟨RX10, "isCoder", "(I)Z"⟩
abbrev cX10_found : ByteArray := prog_1_method_42_code
def yX10_found : MethodName := ⟨RX10, "found", "(I)I"⟩
abbrev cX10_rowNumbered : ByteArray := prog_1_method_43_code
def yX10_rowNumbered : MethodName := ⟨RX10, "rowNumbered", "(I)LPackDesk$Row;"⟩
abbrev cX10_streamNumbered : ByteArray := prog_1_method_44_code
def yX10_streamNumbered : MethodName := ⟨RX10, "streamNumbered", "(I)LPackDesk$Stream;"⟩
abbrev cX10_houseNumbered : ByteArray := prog_1_method_45_code
def yX10_houseNumbered : MethodName := ⟨RX10, "houseNumbered", "(I)LPackDesk$House;"⟩
abbrev cX10_deltaNumbered : ByteArray := prog_1_method_46_code
def yX10_deltaNumbered : MethodName := ⟨RX10, "deltaNumbered", "(I)LPackDesk$Delta;"⟩
abbrev cX10_newRow : ByteArray := prog_1_method_47_code
def yX10_newRow : MethodName := ⟨RX10, "newRow", "(II)I"⟩
abbrev cX10_newStream : ByteArray := prog_1_method_48_code
def yX10_newStream : MethodName := ⟨RX10, "newStream", "()I"⟩
abbrev cX10_appendPiece : ByteArray := prog_1_method_49_code
def yX10_appendPiece : MethodName := ⟨RX10, "appendPiece", "(LPackDesk$Stream;ILPackDesk$Row;)V"⟩
abbrev cX10_mixed : ByteArray := prog_1_method_50_code
def yX10_mixed : MethodName := ⟨RX10, "mixed", "(JJ)J"⟩
abbrev cX10_mixedWithRow : ByteArray := prog_1_method_51_code
def yX10_mixedWithRow : MethodName := ⟨RX10, "mixedWithRow", "(JLPackDesk$Row;)J"⟩
abbrev cX10_mixedWithStream : ByteArray := prog_1_method_52_code
def yX10_mixedWithStream : MethodName := ⟨RX10, "mixedWithStream", "(JLPackDesk$Stream;)J"⟩
abbrev cX10_mixedWithHouse : ByteArray := prog_1_method_53_code
def yX10_mixedWithHouse : MethodName := ⟨RX10, "mixedWithHouse", "(JLPackDesk$House;)J"⟩
def RX11 : String := "PackDeskModel"
def TX11 : u_T := fun k => match k with
  | 0 => ("PackDeskModel", "latest", "I", false)
  | 1 => ("PackDeskModel", "came", "[I", true)
  | 2 => ("PackDeskModel", "seen", "J", false)
  | 3 => ("PackDeskModel", "rows", "I", false)
  | 4 => ("PackDeskModel", "rKind", "[I", true)
  | 5 => ("PackDeskModel", "rSize", "[I", true)
  | 6 => ("PackDeskModel", "rLost", "[Z", true)
  | 7 => ("PackDeskModel", "words", "[J", true)
  | 8 => ("PackDeskModel", "held", "[J", true)
  | 9 => ("PackDeskModel", "value", "[J", true)
  | 10 => ("PackDeskModel", "values", "I", false)
  | 11 => ("PackDeskModel", "made", "[I", true)
  | 12 => ("PackDeskModel", "madeSize", "I", false)
  | 13 => ("PackDeskModel", "streams", "I", false)
  | 14 => ("PackDeskModel", "bytes", "[I", true)
  | 15 => ("PackDeskModel", "sSize", "[I", true)
  | 16 => ("PackDeskModel", "sPlace", "[I", true)
  | 17 => ("PackDeskModel", "sEnded", "[Z", true)
  | 18 => ("PackDeskModel", "from", "I", false)
  | 19 => ("PackDeskModel", "to", "I", false)
  | 20 => ("PackDeskModel", "taken", "J", false)
  | 21 => ("PackDeskModel", "bodyNumber", "[I", true)
  | 22 => ("PackDeskModel", "bodySize", "[I", true)
  | 23 => ("PackDeskModel", "bodyUses", "[I", true)
  | 24 => ("PackDeskModel", "body", "[I", true)
  | 25 => ("PackDeskModel", "bodiesEver", "I", false)
  | 26 => ("PackDeskModel", "houses", "I", false)
  | 27 => ("PackDeskModel", "entries", "[I", true)
  | 28 => ("PackDeskModel", "paths", "[J", true)
  | 29 => ("PackDeskModel", "bodyOf", "[I", true)
  | 30 => ("PackDeskModel", "deltas", "I", false)
  | 31 => ("PackDeskModel", "dFrom", "[I", true)
  | 32 => ("PackDeskModel", "dSum", "[I", true)
  | 33 => ("PackDeskModel", "dActs", "[I", true)
  | 34 => ("PackDeskModel", "actPlace", "[I", true)
  | 35 => ("PackDeskModel", "actSize", "[I", true)
  | _ => ("PackDeskModel", "added", "[I", true)
def tyX11 : Nat → FieldType := fun k => match k with
  | 0 => .int
  | 1 => .array .int
  | 2 => .long
  | 3 => .int
  | 4 => .array .int
  | 5 => .array .int
  | 6 => .array .boolean
  | 7 => .array .long
  | 8 => .array .long
  | 9 => .array .long
  | 10 => .int
  | 11 => .array .int
  | 12 => .int
  | 13 => .int
  | 14 => .array .int
  | 15 => .array .int
  | 16 => .array .int
  | 17 => .array .boolean
  | 18 => .int
  | 19 => .int
  | 20 => .long
  | 21 => .array .int
  | 22 => .array .int
  | 23 => .array .int
  | 24 => .array .int
  | 25 => .int
  | 26 => .int
  | 27 => .array .int
  | 28 => .array .long
  | 29 => .array .int
  | 30 => .int
  | 31 => .array .int
  | 32 => .array .int
  | 33 => .array .int
  | 34 => .array .int
  | 35 => .array .int
  | _ => .array .int
theorem nmX11 : ∀ a, a < 37 → ∀ b, b < 37 → a ≠ b → (TX11 a).2.1 ≠ (TX11 b).2.1 := by decide +kernel
theorem tyX11_ok : ∀ k, k < 37 → parseFieldDescriptor (TX11 k).2.2.1 = some (tyX11 k) := by decide +kernel
abbrev cX11_init : ByteArray := prog_13_method_1_code
def yX11_init : MethodName := ⟨RX11, "<init>", "()V"⟩
abbrev cX11_meets : ByteArray := prog_13_method_2_code
def yX11_meets : MethodName := ⟨RX11, "meets", "(I)I"⟩
abbrev cX11_in : ByteArray := prog_13_method_3_code
def yX11_in : MethodName := ⟨RX11, "in", "(JJJ)Z"⟩
abbrev cX11_isGap : ByteArray := prog_13_method_4_code
def yX11_isGap : MethodName := ⟨RX11, "isGap", "(IJ)Z"⟩
abbrev cX11_cut : ByteArray := prog_13_method_5_code
def yX11_cut : MethodName := ⟨RX11, "cut", "(IJ)J"⟩
abbrev cX11_real : ByteArray := prog_13_method_6_code
def yX11_real : MethodName := ⟨RX11, "real", "(IJ)D"⟩
abbrev cX11_wordOf : ByteArray := prog_13_method_7_code
def yX11_wordOf : MethodName := ⟨RX11, "wordOf", "(ID)J"⟩
abbrev cX11_isBelow : ByteArray := prog_13_method_8_code
def yX11_isBelow : MethodName := ⟨RX11, "isBelow", "(IJJ)Z"⟩
abbrev cX11_isLike : ByteArray := prog_13_method_9_code
def yX11_isLike : MethodName := ⟨RX11, "isLike", "(IJJ)Z"⟩
abbrev cX11_rank : ByteArray := prog_13_method_10_code
def yX11_rank : MethodName := ⟨RX11, "rank", "(IJ)J"⟩
abbrev cX11_isRow : ByteArray := prog_13_method_11_code
def yX11_isRow : MethodName := ⟨RX11, "isRow", "(I)Z"⟩
abbrev cX11_newRow : ByteArray := prog_13_method_12_code
def yX11_newRow : MethodName := ⟨RX11, "newRow", "(II)I"⟩
abbrev cX11_row : ByteArray := prog_13_method_13_code
def yX11_row : MethodName := ⟨RX11, "row", "(II)I"⟩
abbrev cX11_lose : ByteArray := prog_13_method_14_code
def yX11_lose : MethodName := ⟨RX11, "lose", "(I)I"⟩
abbrev cX11_kind : ByteArray := prog_13_method_15_code
def yX11_kind : MethodName := ⟨RX11, "kind", "(I)I"⟩
abbrev cX11_length : ByteArray := prog_13_method_16_code
def yX11_length : MethodName := ⟨RX11, "length", "(I)I"⟩
abbrev cX11_against : ByteArray := prog_13_method_17_code
def yX11_against : MethodName := ⟨RX11, "against", "(II)I"⟩
abbrev cX11_put : ByteArray := prog_13_method_18_code
def yX11_put : MethodName := ⟨RX11, "put", "(IIJ)I"⟩
abbrev cX11_get : ByteArray := prog_13_method_19_code
def yX11_get : MethodName := ⟨RX11, "get", "(II)I"⟩
abbrev cX11_copy : ByteArray := prog_13_method_20_code
def yX11_copy : MethodName := ⟨RX11, "copy", "(IIIII)I"⟩
abbrev cX11_compare : ByteArray := prog_13_method_21_code
def yX11_compare : MethodName := ⟨RX11, "compare", "(III)I"⟩
abbrev cX11_signOf : ByteArray := prog_13_method_22_code
def yX11_signOf : MethodName := ⟨RX11, "signOf", "(I)J"⟩
abbrev cX11_rounded : ByteArray := prog_13_method_23_code
def yX11_rounded : MethodName := ⟨RX11, "rounded", "(IJI)J"⟩
abbrev cX11_shapedReal : ByteArray := prog_13_method_24_code
def yX11_shapedReal : MethodName := ⟨RX11, "shapedReal", "(IJI)J"⟩
abbrev cX11_shape : ByteArray := prog_13_method_25_code
def yX11_shape : MethodName := ⟨RX11, "shape", "(III)I"⟩
abbrev cX11_rest : ByteArray := prog_13_method_26_code
def yX11_rest : MethodName := ⟨RX11, "rest", "(III)I"⟩
abbrev cX11_kMask : ByteArray := prog_13_method_27_code
def yX11_kMask : MethodName := ⟨RX11, "kMask", "(I)J"⟩
abbrev cX11_kEndless : ByteArray := prog_13_method_28_code
def yX11_kEndless : MethodName := ⟨RX11, "kEndless", "(I)J"⟩
abbrev cX11_most : ByteArray := prog_13_method_29_code
def yX11_most : MethodName := ⟨RX11, "most", "(II)I"⟩
abbrev cX11_seen : ByteArray := prog_13_method_30_code
def yX11_seen : MethodName := ⟨RX11, "seen", "()J"⟩
abbrev cX11_plain : ByteArray := prog_13_method_31_code
def yX11_plain : MethodName := ⟨RX11, "plain", "(J)V"⟩
abbrev cX11_differences : ByteArray := prog_13_method_32_code
def yX11_differences : MethodName := ⟨RX11, "differences", "()V"⟩
abbrev cX11_sums : ByteArray := prog_13_method_33_code
def yX11_sums : MethodName := ⟨RX11, "sums", "()V"⟩
abbrev cX11_code : ByteArray := prog_13_method_34_code
def yX11_code : MethodName := ⟨RX11, "code", "(I)V"⟩
abbrev cX11_wide : ByteArray := prog_13_method_35_code
def yX11_wide : MethodName := ⟨RX11, "wide", "()V"⟩
abbrev cX11_codeRow : ByteArray := prog_13_method_36_code
def yX11_codeRow : MethodName := ⟨RX11, "codeRow", "(II)V"⟩
abbrev cX11_isStream : ByteArray := prog_13_method_37_code
def yX11_isStream : MethodName := ⟨RX11, "isStream", "(I)Z"⟩
abbrev cX11_newStream : ByteArray := prog_13_method_38_code
def yX11_newStream : MethodName := ⟨RX11, "newStream", "()I"⟩
abbrev cX11_lay : ByteArray := prog_13_method_39_code
def yX11_lay : MethodName := ⟨RX11, "lay", "(II)V"⟩
abbrev cX11_sumOf : ByteArray := prog_13_method_40_code
def yX11_sumOf : MethodName := ⟨RX11, "sumOf", "(III)I"⟩
abbrev cX11_stream : ByteArray := prog_13_method_41_code
def yX11_stream : MethodName := ⟨RX11, "stream", "()I"⟩
abbrev cX11_write : ByteArray := prog_13_method_42_code
def yX11_write : MethodName := ⟨RX11, "write", "(III)I"⟩
abbrev cX11_cost : ByteArray := prog_13_method_43_code
def yX11_cost : MethodName := ⟨RX11, "cost", "(II)I"⟩
abbrev cX11_best : ByteArray := prog_13_method_44_code
def yX11_best : MethodName := ⟨RX11, "best", "(I)I"⟩
abbrev cX11_add : ByteArray := prog_13_method_45_code
def yX11_add : MethodName := ⟨RX11, "add", "(II)I"⟩
abbrev cX11_end : ByteArray := prog_13_method_46_code
def yX11_end : MethodName := ⟨RX11, "end", "(I)I"⟩
abbrev cX11_about : ByteArray := prog_13_method_47_code
def yX11_about : MethodName := ⟨RX11, "about", "(II)I"⟩
abbrev cX11_at : ByteArray := prog_13_method_48_code
def yX11_at : MethodName := ⟨RX11, "at", "(II)I"⟩
abbrev cX11_harm : ByteArray := prog_13_method_49_code
def yX11_harm : MethodName := ⟨RX11, "harm", "(III)I"⟩
abbrev cX11_seek : ByteArray := prog_13_method_50_code
def yX11_seek : MethodName := ⟨RX11, "seek", "(II)I"⟩
abbrev cX11_takes : ByteArray := prog_13_method_51_code
def yX11_takes : MethodName := ⟨RX11, "takes", "(I)Z"⟩
abbrev cX11_decode : ByteArray := prog_13_method_52_code
def yX11_decode : MethodName := ⟨RX11, "decode", "(III)Z"⟩
abbrev cX11_piece : ByteArray := prog_13_method_53_code
def yX11_piece : MethodName := ⟨RX11, "piece", "(II)I"⟩
abbrev cX11_read : ByteArray := prog_13_method_54_code
def yX11_read : MethodName := ⟨RX11, "read", "(I)I"⟩
abbrev cX11_pieces : ByteArray := prog_13_method_55_code
def yX11_pieces : MethodName := ⟨RX11, "pieces", "(I)I"⟩
abbrev cX11_isHouse : ByteArray := prog_13_method_56_code
def yX11_isHouse : MethodName := ⟨RX11, "isHouse", "(I)Z"⟩
abbrev cX11_house : ByteArray := prog_13_method_57_code
def yX11_house : MethodName := ⟨RX11, "house", "()I"⟩
abbrev cX11_entry : ByteArray := prog_13_method_58_code
def yX11_entry : MethodName := ⟨RX11, "entry", "(IJ)I"⟩
abbrev cX11_likeBody : ByteArray := prog_13_method_59_code
def yX11_likeBody : MethodName := ⟨RX11, "likeBody", "(I)I"⟩
abbrev cX11_freeBody : ByteArray := prog_13_method_60_code
def yX11_freeBody : MethodName := ⟨RX11, "freeBody", "()I"⟩
abbrev cX11_leave : ByteArray := prog_13_method_61_code
def yX11_leave : MethodName := ⟨RX11, "leave", "(I)V"⟩
abbrev cX11_keep : ByteArray := prog_13_method_62_code
def yX11_keep : MethodName := ⟨RX11, "keep", "(IJI)I"⟩
abbrev cX11_find : ByteArray := prog_13_method_63_code
def yX11_find : MethodName := ⟨RX11, "find", "(IJ)I"⟩
abbrev cX11_drop : ByteArray := prog_13_method_64_code
def yX11_drop : MethodName := ⟨RX11, "drop", "(IJ)I"⟩
abbrev cX11_list : ByteArray := prog_13_method_65_code
def yX11_list : MethodName := ⟨RX11, "list", "(II)I"⟩
abbrev cX11_take : ByteArray := prog_13_method_66_code
def yX11_take : MethodName := ⟨RX11, "take", "(IJ)I"⟩
abbrev cX11_uses : ByteArray := prog_13_method_67_code
def yX11_uses : MethodName := ⟨RX11, "uses", "(I)I"⟩
abbrev cX11_isDelta : ByteArray := prog_13_method_68_code
def yX11_isDelta : MethodName := ⟨RX11, "isDelta", "(I)Z"⟩
abbrev cX11_matching : ByteArray := prog_13_method_69_code
def yX11_matching : MethodName := ⟨RX11, "matching", "(IIII)I"⟩
abbrev cX11_delta : ByteArray := prog_13_method_70_code
def yX11_delta : MethodName := ⟨RX11, "delta", "(II)I"⟩
abbrev cX11_total : ByteArray := prog_13_method_71_code
def yX11_total : MethodName := ⟨RX11, "total", "(IZ)I"⟩
abbrev cX11_act : ByteArray := prog_13_method_72_code
def yX11_act : MethodName := ⟨RX11, "act", "(III)I"⟩
abbrev cX11_apply : ByteArray := prog_13_method_73_code
def yX11_apply : MethodName := ⟨RX11, "apply", "(II)I"⟩
abbrev cX11_finding : ByteArray := prog_13_method_74_code
def yX11_finding : MethodName := ⟨RX11, "finding", "()I"⟩
abbrev cX11_findings : ByteArray := prog_13_method_75_code
def yX11_findings : MethodName := ⟨RX11, "findings", "(I)I"⟩
abbrev cX11_bodiesNow : ByteArray := prog_13_method_76_code
def yX11_bodiesNow : MethodName := ⟨RX11, "bodiesNow", "()I"⟩
abbrev cX11_count : ByteArray := prog_13_method_77_code
def yX11_count : MethodName := ⟨RX11, "count", "(I)I"⟩
abbrev cX11_digest : ByteArray := prog_13_method_78_code
def yX11_digest : MethodName := ⟨RX11, "digest", "()J"⟩
def RJxe99ae : String := "java/lang/Double"
def TJxe99ae : u_T := fun k => match k with
  | _ => ("", "", "", false)
def tyJxe99ae : Nat → FieldType := fun k => match k with
  | _ => .int
theorem nmJxe99ae : ∀ a, a < 0 → ∀ b, b < 0 → a ≠ b → (TJxe99ae a).2.1 ≠ (TJxe99ae b).2.1 := by decide +kernel
theorem tyJxe99ae_ok : ∀ k, k < 0 → parseFieldDescriptor (TJxe99ae k).2.2.1 = some (tyJxe99ae k) := by decide +kernel
abbrev cJxe99ae_isNaN_b9ae7 : ByteArray := prog_14_method_6_code
def yJxe99ae_isNaN_b9ae7 : MethodName := ⟨RJxe99ae, "isNaN", "(D)Z"⟩
abbrev cJxe99ae_doubleToLongBits_ccdee : ByteArray := prog_14_method_23_code
def yJxe99ae_doubleToLongBits_ccdee : MethodName := ⟨RJxe99ae, "doubleToLongBits", "(D)J"⟩
def RJxf58ca : String := "java/lang/Float"
def TJxf58ca : u_T := fun k => match k with
  | _ => ("", "", "", false)
def tyJxf58ca : Nat → FieldType := fun k => match k with
  | _ => .int
theorem nmJxf58ca : ∀ a, a < 0 → ∀ b, b < 0 → a ≠ b → (TJxf58ca a).2.1 ≠ (TJxf58ca b).2.1 := by decide +kernel
theorem tyJxf58ca_ok : ∀ k, k < 0 → parseFieldDescriptor (TJxf58ca k).2.2.1 = some (tyJxf58ca k) := by decide +kernel
abbrev cJxf58ca_isNaN_12338 : ByteArray := prog_15_method_6_code
def yJxf58ca_isNaN_12338 : MethodName := ⟨RJxf58ca, "isNaN", "(F)Z"⟩
abbrev cJxf58ca_floatToIntBits_5c35a : ByteArray := prog_15_method_24_code
def yJxf58ca_floatToIntBits_5c35a : MethodName := ⟨RJxf58ca, "floatToIntBits", "(F)I"⟩
def RJ13 : String := "java/lang/Long"
def TJ13 : u_T := fun k => match k with
  | _ => ("", "", "", false)
def tyJ13 : Nat → FieldType := fun k => match k with
  | _ => .int
theorem nmJ13 : ∀ a, a < 0 → ∀ b, b < 0 → a ≠ b → (TJ13 a).2.1 ≠ (TJ13 b).2.1 := by decide +kernel
theorem tyJ13_ok : ∀ k, k < 0 → parseFieldDescriptor (TJ13 k).2.2.1 = some (tyJ13 k) := by decide +kernel
abbrev cJ13_compare_74951 : ByteArray := prog_16_method_42_code
def yJ13_compare_74951 : MethodName := ⟨RJ13, "compare", "(JJ)I"⟩
def RJ9 : String := "java/lang/Math"
def TJ9 : u_T := fun k => match k with
  | _ => ("", "", "", false)
def tyJ9 : Nat → FieldType := fun k => match k with
  | _ => .int
theorem nmJ9 : ∀ a, a < 0 → ∀ b, b < 0 → a ≠ b → (TJ9 a).2.1 ≠ (TJ9 b).2.1 := by decide +kernel
theorem tyJ9_ok : ∀ k, k < 0 → parseFieldDescriptor (TJ9 k).2.2.1 = some (tyJ9 k) := by decide +kernel
abbrev cJ9_max_7cf53 : ByteArray := prog_17_method_65_code
def yJ9_max_7cf53 : MethodName := ⟨RJ9, "max", "(II)I"⟩
abbrev cJ9_min_7cf53 : ByteArray := prog_17_method_69_code
def yJ9_min_7cf53 : MethodName := ⟨RJ9, "min", "(II)I"⟩
def RJ10 : String := "java/lang/System"
def TJ10 : u_T := fun k => match k with
  | _ => ("", "", "", false)
def tyJ10 : Nat → FieldType := fun k => match k with
  | _ => .int
theorem nmJ10 : ∀ a, a < 0 → ∀ b, b < 0 → a ≠ b → (TJ10 a).2.1 ≠ (TJ10 b).2.1 := by decide +kernel
theorem tyJ10_ok : ∀ k, k < 0 → parseFieldDescriptor (TJ10 k).2.2.1 = some (tyJ10 k) := by decide +kernel
def RL : String := "PackDeskLaw"
abbrev cL_law : ByteArray := code
def yL_law : MethodName := ⟨RL, "law", "([I)Z"⟩
abbrev vwCl : List vw_C := [(RX0, TX0, 4), (RX1, TX1, 8), (RX3, TX3, 3), (RX5, TX5, 8), (RX6, TX6, 3), (RX7, TX7, 3), (RX8, TX8, 3), (RX9, TX9, 4), (RX10, TX10, 14), (RX11, TX11, 37)]
