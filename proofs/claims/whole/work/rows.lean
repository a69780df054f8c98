section
-- ===== PART A: goes FIRST, ahead of the names: the tables' words, and 'selects' of the private methods out of them =====
/-- a private method of a class that the tables say can be made, by its rows of tables_1 -/
def lw_okq (q : MethodName × Nat) : Prop := (q.1.cls ≠ "java/lang/invoke/MethodHandle" ∧ q.1.cls ≠ "java/lang/invoke/VarHandle") ∧ Cond.instantiable q.1.cls q.2 ∈ tables_1 ∧ Cond.privateMethod q.1 ∈ tables_1 ∧ Cond.instanceMethod q.1 ∈ tables_1
theorem lw_p0 : lw_okq (⟨"DummyInches", "found", "(I)I"⟩, 12) := ⟨⟨by decide +kernel, by decide +kernel⟩, List.mem_of_getElem? (i := 19) (by decide +kernel), List.mem_of_getElem? (i := 209) (by decide +kernel), List.mem_of_getElem? (i := 210) (by decide +kernel)⟩
theorem lw_p1 : lw_okq (⟨"DummyInches", "answered", "(I)I"⟩, 12) := ⟨⟨by decide +kernel, by decide +kernel⟩, List.mem_of_getElem? (i := 19) (by decide +kernel), List.mem_of_getElem? (i := 221) (by decide +kernel), List.mem_of_getElem? (i := 222) (by decide +kernel)⟩
theorem lw_p2 : lw_okq (⟨"DummyInches$Rows", "holds", "(III)Z"⟩, 4) := ⟨⟨by decide +kernel, by decide +kernel⟩, List.mem_of_getElem? (i := 27) (by decide +kernel), List.mem_of_getElem? (i := 237) (by decide +kernel), List.mem_of_getElem? (i := 238) (by decide +kernel)⟩
theorem lw_p3 : lw_okq (⟨"DummyInches$Tape", "readLaw", "(LDummyInches$Street;)Z"⟩, 6) := ⟨⟨by decide +kernel, by decide +kernel⟩, List.mem_of_getElem? (i := 50) (by decide +kernel), List.mem_of_getElem? (i := 297) (by decide +kernel), List.mem_of_getElem? (i := 298) (by decide +kernel)⟩
theorem lw_p4 : lw_okq (⟨"DummyInches$Tape", "readByte", "(C)Z"⟩, 6) := ⟨⟨by decide +kernel, by decide +kernel⟩, List.mem_of_getElem? (i := 50) (by decide +kernel), List.mem_of_getElem? (i := 301) (by decide +kernel), List.mem_of_getElem? (i := 302) (by decide +kernel)⟩
theorem lw_p5 : lw_okq (⟨"DummyInches$Tape", "comes", "(C)Z"⟩, 6) := ⟨⟨by decide +kernel, by decide +kernel⟩, List.mem_of_getElem? (i := 50) (by decide +kernel), List.mem_of_getElem? (i := 305) (by decide +kernel), List.mem_of_getElem? (i := 306) (by decide +kernel)⟩
theorem lw_p6 : lw_okq (⟨"DummyInches$Tape", "isFault", "(I)Z"⟩, 6) := ⟨⟨by decide +kernel, by decide +kernel⟩, List.mem_of_getElem? (i := 50) (by decide +kernel), List.mem_of_getElem? (i := 309) (by decide +kernel), List.mem_of_getElem? (i := 310) (by decide +kernel)⟩
theorem lw_p7 : lw_okq (⟨"DummyInches$Tape", "readNumber", "(II)Z"⟩, 6) := ⟨⟨by decide +kernel, by decide +kernel⟩, List.mem_of_getElem? (i := 50) (by decide +kernel), List.mem_of_getElem? (i := 313) (by decide +kernel), List.mem_of_getElem? (i := 314) (by decide +kernel)⟩
theorem lw_p8 : lw_okq (⟨"DummyInches$Tape", "isFigure", "(I)Z"⟩, 6) := ⟨⟨by decide +kernel, by decide +kernel⟩, List.mem_of_getElem? (i := 50) (by decide +kernel), List.mem_of_getElem? (i := 317) (by decide +kernel), List.mem_of_getElem? (i := 318) (by decide +kernel)⟩
theorem lw_p9 : lw_okq (⟨"DummyInches$Tape", "readDummies", "(LDummyInches$Street;)Z"⟩, 6) := ⟨⟨by decide +kernel, by decide +kernel⟩, List.mem_of_getElem? (i := 50) (by decide +kernel), List.mem_of_getElem? (i := 321) (by decide +kernel), List.mem_of_getElem? (i := 322) (by decide +kernel)⟩
theorem lw_p10 : lw_okq (⟨"DummyInches$Tape", "readInches", "(LDummyInches$Street;I)Z"⟩, 6) := ⟨⟨by decide +kernel, by decide +kernel⟩, List.mem_of_getElem? (i := 50) (by decide +kernel), List.mem_of_getElem? (i := 325) (by decide +kernel), List.mem_of_getElem? (i := 326) (by decide +kernel)⟩
theorem lw_p11 : lw_okq (⟨"DummyInches$Tape", "readMouths", "(LDummyInches$Street;)Z"⟩, 6) := ⟨⟨by decide +kernel, by decide +kernel⟩, List.mem_of_getElem? (i := 50) (by decide +kernel), List.mem_of_getElem? (i := 336) (by decide +kernel), List.mem_of_getElem? (i := 337) (by decide +kernel)⟩
theorem lw_p12 : lw_okq (⟨"DummyInches", "keepAct", "()V"⟩, 12) := ⟨⟨by decide +kernel, by decide +kernel⟩, List.mem_of_getElem? (i := 19) (by decide +kernel), List.mem_of_getElem? (i := 470) (by decide +kernel), List.mem_of_getElem? (i := 471) (by decide +kernel)⟩
theorem lw_p13 : lw_okq (⟨"DummyInches", "copyOver", "(LDummyInches$Street;)LDummyInches$Street;"⟩, 12) := ⟨⟨by decide +kernel, by decide +kernel⟩, List.mem_of_getElem? (i := 19) (by decide +kernel), List.mem_of_getElem? (i := 474) (by decide +kernel), List.mem_of_getElem? (i := 475) (by decide +kernel)⟩
theorem lw_p14 : lw_okq (⟨"DummyInches$Street", "addLine", "(IIIIII)V"⟩, 10) := ⟨⟨by decide +kernel, by decide +kernel⟩, List.mem_of_getElem? (i := 78) (by decide +kernel), List.mem_of_getElem? (i := 485) (by decide +kernel), List.mem_of_getElem? (i := 486) (by decide +kernel)⟩
theorem lw_p15 : lw_okq (⟨"DummyInches$Street", "shrinkAll", "()I"⟩, 10) := ⟨⟨by decide +kernel, by decide +kernel⟩, List.mem_of_getElem? (i := 78) (by decide +kernel), List.mem_of_getElem? (i := 499) (by decide +kernel), List.mem_of_getElem? (i := 500) (by decide +kernel)⟩
def lw_privs_1 : List (MethodName × Nat) := [(⟨"DummyInches", "found", "(I)I"⟩, 12), (⟨"DummyInches", "answered", "(I)I"⟩, 12), (⟨"DummyInches$Rows", "holds", "(III)Z"⟩, 4), (⟨"DummyInches$Tape", "readLaw", "(LDummyInches$Street;)Z"⟩, 6), (⟨"DummyInches$Tape", "readByte", "(C)Z"⟩, 6), (⟨"DummyInches$Tape", "comes", "(C)Z"⟩, 6), (⟨"DummyInches$Tape", "isFault", "(I)Z"⟩, 6), (⟨"DummyInches$Tape", "readNumber", "(II)Z"⟩, 6), (⟨"DummyInches$Tape", "isFigure", "(I)Z"⟩, 6), (⟨"DummyInches$Tape", "readDummies", "(LDummyInches$Street;)Z"⟩, 6), (⟨"DummyInches$Tape", "readInches", "(LDummyInches$Street;I)Z"⟩, 6), (⟨"DummyInches$Tape", "readMouths", "(LDummyInches$Street;)Z"⟩, 6), (⟨"DummyInches", "keepAct", "()V"⟩, 12), (⟨"DummyInches", "copyOver", "(LDummyInches$Street;)LDummyInches$Street;"⟩, 12), (⟨"DummyInches$Street", "addLine", "(IIIIII)V"⟩, 10), (⟨"DummyInches$Street", "shrinkAll", "()I"⟩, 10)]
theorem lw_r1 : ∀ q ∈ lw_privs_1, lw_okq q := List.forall_mem_cons.mpr ⟨lw_p0, List.forall_mem_cons.mpr ⟨lw_p1, List.forall_mem_cons.mpr ⟨lw_p2, List.forall_mem_cons.mpr ⟨lw_p3, List.forall_mem_cons.mpr ⟨lw_p4, List.forall_mem_cons.mpr ⟨lw_p5, List.forall_mem_cons.mpr ⟨lw_p6, List.forall_mem_cons.mpr ⟨lw_p7, List.forall_mem_cons.mpr ⟨lw_p8, List.forall_mem_cons.mpr ⟨lw_p9, List.forall_mem_cons.mpr ⟨lw_p10, List.forall_mem_cons.mpr ⟨lw_p11, List.forall_mem_cons.mpr ⟨lw_p12, List.forall_mem_cons.mpr ⟨lw_p13, List.forall_mem_cons.mpr ⟨lw_p14, List.forall_mem_cons.mpr ⟨lw_p15, fun _ h => absurd h List.not_mem_nil⟩⟩⟩⟩⟩⟩⟩⟩⟩⟩⟩⟩⟩⟩⟩⟩
theorem lw_p16 : lw_okq (⟨"DummyInches$Street", "exchange", "(II)V"⟩, 10) := ⟨⟨by decide +kernel, by decide +kernel⟩, List.mem_of_getElem? (i := 78) (by decide +kernel), List.mem_of_getElem? (i := 515) (by decide +kernel), List.mem_of_getElem? (i := 516) (by decide +kernel)⟩
theorem lw_p17 : lw_okq (⟨"DummyInches$Street", "doAgain", "(I)V"⟩, 10) := ⟨⟨by decide +kernel, by decide +kernel⟩, List.mem_of_getElem? (i := 78) (by decide +kernel), List.mem_of_getElem? (i := 556) (by decide +kernel), List.mem_of_getElem? (i := 557) (by decide +kernel)⟩
theorem lw_p18 : lw_okq (⟨"DummyInches$Foretold", "addSlips", "(LDummyInches$Street;I)V"⟩, 2) := ⟨⟨by decide +kernel, by decide +kernel⟩, List.mem_of_getElem? (i := 130) (by decide +kernel), List.mem_of_getElem? (i := 572) (by decide +kernel), List.mem_of_getElem? (i := 573) (by decide +kernel)⟩
theorem lw_p19 : lw_okq (⟨"DummyInches$Foretold", "slipOf", "(II)I"⟩, 2) := ⟨⟨by decide +kernel, by decide +kernel⟩, List.mem_of_getElem? (i := 130) (by decide +kernel), List.mem_of_getElem? (i := 587) (by decide +kernel), List.mem_of_getElem? (i := 588) (by decide +kernel)⟩
theorem lw_p20 : lw_okq (⟨"DummyInchesModel", "finding", "(I)I"⟩, 26) := ⟨⟨by decide +kernel, by decide +kernel⟩, List.mem_of_getElem? (i := 879) (by decide +kernel), List.mem_of_getElem? (i := 977) (by decide +kernel), List.mem_of_getElem? (i := 978) (by decide +kernel)⟩
theorem lw_p21 : lw_okq (⟨"DummyInchesModel", "begin", "()V"⟩, 26) := ⟨⟨by decide +kernel, by decide +kernel⟩, List.mem_of_getElem? (i := 879) (by decide +kernel), List.mem_of_getElem? (i := 1008) (by decide +kernel), List.mem_of_getElem? (i := 1009) (by decide +kernel)⟩
theorem lw_p22 : lw_okq (⟨"DummyInchesModel", "nextToken", "()V"⟩, 26) := ⟨⟨by decide +kernel, by decide +kernel⟩, List.mem_of_getElem? (i := 879) (by decide +kernel), List.mem_of_getElem? (i := 1012) (by decide +kernel), List.mem_of_getElem? (i := 1013) (by decide +kernel)⟩
theorem lw_p23 : lw_okq (⟨"DummyInchesModel", "isLetter", "(I)Z"⟩, 26) := ⟨⟨by decide +kernel, by decide +kernel⟩, List.mem_of_getElem? (i := 879) (by decide +kernel), List.mem_of_getElem? (i := 1021) (by decide +kernel), List.mem_of_getElem? (i := 1022) (by decide +kernel)⟩
theorem lw_p24 : lw_okq (⟨"DummyInchesModel", "must", "(Z)V"⟩, 26) := ⟨⟨by decide +kernel, by decide +kernel⟩, List.mem_of_getElem? (i := 879) (by decide +kernel), List.mem_of_getElem? (i := 1025) (by decide +kernel), List.mem_of_getElem? (i := 1026) (by decide +kernel)⟩
theorem lw_p25 : lw_okq (⟨"DummyInchesModel", "bad", "(I)V"⟩, 26) := ⟨⟨by decide +kernel, by decide +kernel⟩, List.mem_of_getElem? (i := 879) (by decide +kernel), List.mem_of_getElem? (i := 1029) (by decide +kernel), List.mem_of_getElem? (i := 1030) (by decide +kernel)⟩
theorem lw_p26 : lw_okq (⟨"DummyInchesModel", "number", "(II)I"⟩, 26) := ⟨⟨by decide +kernel, by decide +kernel⟩, List.mem_of_getElem? (i := 879) (by decide +kernel), List.mem_of_getElem? (i := 1033) (by decide +kernel), List.mem_of_getElem? (i := 1034) (by decide +kernel)⟩
theorem lw_p27 : lw_okq (⟨"DummyInchesModel", "mustSign", "(I)V"⟩, 26) := ⟨⟨by decide +kernel, by decide +kernel⟩, List.mem_of_getElem? (i := 879) (by decide +kernel), List.mem_of_getElem? (i := 1037) (by decide +kernel), List.mem_of_getElem? (i := 1038) (by decide +kernel)⟩
theorem lw_p28 : lw_okq (⟨"DummyInchesModel", "readDummy", "()V"⟩, 26) := ⟨⟨by decide +kernel, by decide +kernel⟩, List.mem_of_getElem? (i := 879) (by decide +kernel), List.mem_of_getElem? (i := 1041) (by decide +kernel), List.mem_of_getElem? (i := 1042) (by decide +kernel)⟩
theorem lw_p29 : lw_okq (⟨"DummyInchesModel", "readMouth", "()V"⟩, 26) := ⟨⟨by decide +kernel, by decide +kernel⟩, List.mem_of_getElem? (i := 879) (by decide +kernel), List.mem_of_getElem? (i := 1048) (by decide +kernel), List.mem_of_getElem? (i := 1049) (by decide +kernel)⟩
theorem lw_p30 : lw_okq (⟨"DummyInchesModel", "failed", "()Z"⟩, 26) := ⟨⟨by decide +kernel, by decide +kernel⟩, List.mem_of_getElem? (i := 879) (by decide +kernel), List.mem_of_getElem? (i := 1052) (by decide +kernel), List.mem_of_getElem? (i := 1053) (by decide +kernel)⟩
theorem lw_p31 : lw_okq (⟨"DummyInchesModel", "isMouth", "(I)Z"⟩, 26) := ⟨⟨by decide +kernel, by decide +kernel⟩, List.mem_of_getElem? (i := 879) (by decide +kernel), List.mem_of_getElem? (i := 1061) (by decide +kernel), List.mem_of_getElem? (i := 1062) (by decide +kernel)⟩
def lw_privs_2 : List (MethodName × Nat) := [(⟨"DummyInches$Street", "exchange", "(II)V"⟩, 10), (⟨"DummyInches$Street", "doAgain", "(I)V"⟩, 10), (⟨"DummyInches$Foretold", "addSlips", "(LDummyInches$Street;I)V"⟩, 2), (⟨"DummyInches$Foretold", "slipOf", "(II)I"⟩, 2), (⟨"DummyInchesModel", "finding", "(I)I"⟩, 26), (⟨"DummyInchesModel", "begin", "()V"⟩, 26), (⟨"DummyInchesModel", "nextToken", "()V"⟩, 26), (⟨"DummyInchesModel", "isLetter", "(I)Z"⟩, 26), (⟨"DummyInchesModel", "must", "(Z)V"⟩, 26), (⟨"DummyInchesModel", "bad", "(I)V"⟩, 26), (⟨"DummyInchesModel", "number", "(II)I"⟩, 26), (⟨"DummyInchesModel", "mustSign", "(I)V"⟩, 26), (⟨"DummyInchesModel", "readDummy", "()V"⟩, 26), (⟨"DummyInchesModel", "readMouth", "()V"⟩, 26), (⟨"DummyInchesModel", "failed", "()Z"⟩, 26), (⟨"DummyInchesModel", "isMouth", "(I)Z"⟩, 26)]
theorem lw_r2 : ∀ q ∈ lw_privs_2, lw_okq q := List.forall_mem_cons.mpr ⟨lw_p16, List.forall_mem_cons.mpr ⟨lw_p17, List.forall_mem_cons.mpr ⟨lw_p18, List.forall_mem_cons.mpr ⟨lw_p19, List.forall_mem_cons.mpr ⟨lw_p20, List.forall_mem_cons.mpr ⟨lw_p21, List.forall_mem_cons.mpr ⟨lw_p22, List.forall_mem_cons.mpr ⟨lw_p23, List.forall_mem_cons.mpr ⟨lw_p24, List.forall_mem_cons.mpr ⟨lw_p25, List.forall_mem_cons.mpr ⟨lw_p26, List.forall_mem_cons.mpr ⟨lw_p27, List.forall_mem_cons.mpr ⟨lw_p28, List.forall_mem_cons.mpr ⟨lw_p29, List.forall_mem_cons.mpr ⟨lw_p30, List.forall_mem_cons.mpr ⟨lw_p31, fun _ h => absurd h List.not_mem_nil⟩⟩⟩⟩⟩⟩⟩⟩⟩⟩⟩⟩⟩⟩⟩⟩
theorem lw_p32 : lw_okq (⟨"DummyInchesModel", "isDummy", "(I)Z"⟩, 26) := ⟨⟨by decide +kernel, by decide +kernel⟩, List.mem_of_getElem? (i := 879) (by decide +kernel), List.mem_of_getElem? (i := 1065) (by decide +kernel), List.mem_of_getElem? (i := 1066) (by decide +kernel)⟩
theorem lw_p33 : lw_okq (⟨"DummyInchesModel", "padsOf", "(II)I"⟩, 26) := ⟨⟨by decide +kernel, by decide +kernel⟩, List.mem_of_getElem? (i := 879) (by decide +kernel), List.mem_of_getElem? (i := 1074) (by decide +kernel), List.mem_of_getElem? (i := 1075) (by decide +kernel)⟩
theorem lw_p34 : lw_okq (⟨"DummyInchesModel", "kindOf", "(I)I"⟩, 26) := ⟨⟨by decide +kernel, by decide +kernel⟩, List.mem_of_getElem? (i := 879) (by decide +kernel), List.mem_of_getElem? (i := 1078) (by decide +kernel), List.mem_of_getElem? (i := 1079) (by decide +kernel)⟩
theorem lw_p35 : lw_okq (⟨"DummyInchesModel", "keep", "()V"⟩, 26) := ⟨⟨by decide +kernel, by decide +kernel⟩, List.mem_of_getElem? (i := 879) (by decide +kernel), List.mem_of_getElem? (i := 1084) (by decide +kernel), List.mem_of_getElem? (i := 1085) (by decide +kernel)⟩
theorem lw_p36 : lw_okq (⟨"DummyInchesModel", "logs", "(IIIIII)V"⟩, 26) := ⟨⟨by decide +kernel, by decide +kernel⟩, List.mem_of_getElem? (i := 879) (by decide +kernel), List.mem_of_getElem? (i := 1088) (by decide +kernel), List.mem_of_getElem? (i := 1089) (by decide +kernel)⟩
theorem lw_p37 : lw_okq (⟨"DummyInchesModel", "isThere", "()Z"⟩, 26) := ⟨⟨by decide +kernel, by decide +kernel⟩, List.mem_of_getElem? (i := 879) (by decide +kernel), List.mem_of_getElem? (i := 1096) (by decide +kernel), List.mem_of_getElem? (i := 1097) (by decide +kernel)⟩
theorem lw_p38 : lw_okq (⟨"DummyInchesModel", "lessOf", "(II)I"⟩, 26) := ⟨⟨by decide +kernel, by decide +kernel⟩, List.mem_of_getElem? (i := 879) (by decide +kernel), List.mem_of_getElem? (i := 1101) (by decide +kernel), List.mem_of_getElem? (i := 1102) (by decide +kernel)⟩
theorem lw_p39 : lw_okq (⟨"DummyInchesModel", "pinchOf", "(II)I"⟩, 26) := ⟨⟨by decide +kernel, by decide +kernel⟩, List.mem_of_getElem? (i := 879) (by decide +kernel), List.mem_of_getElem? (i := 1121) (by decide +kernel), List.mem_of_getElem? (i := 1122) (by decide +kernel)⟩
theorem lw_p40 : lw_okq (⟨"DummyInchesModel", "lineOf", "(II)I"⟩, 26) := ⟨⟨by decide +kernel, by decide +kernel⟩, List.mem_of_getElem? (i := 879) (by decide +kernel), List.mem_of_getElem? (i := 1130) (by decide +kernel), List.mem_of_getElem? (i := 1131) (by decide +kernel)⟩
theorem lw_p41 : lw_okq (⟨"DummyInchesModel", "noRow", "(III)I"⟩, 26) := ⟨⟨by decide +kernel, by decide +kernel⟩, List.mem_of_getElem? (i := 879) (by decide +kernel), List.mem_of_getElem? (i := 1146) (by decide +kernel), List.mem_of_getElem? (i := 1147) (by decide +kernel)⟩
theorem lw_p42 : lw_okq (⟨"DummyInchesModel", "setsOf", "(III)I"⟩, 26) := ⟨⟨by decide +kernel, by decide +kernel⟩, List.mem_of_getElem? (i := 879) (by decide +kernel), List.mem_of_getElem? (i := 1150) (by decide +kernel), List.mem_of_getElem? (i := 1151) (by decide +kernel)⟩
theorem lw_p43 : lw_okq (⟨"DummyInchesModel", "isBy", "(III)Z"⟩, 26) := ⟨⟨by decide +kernel, by decide +kernel⟩, List.mem_of_getElem? (i := 879) (by decide +kernel), List.mem_of_getElem? (i := 1154) (by decide +kernel), List.mem_of_getElem? (i := 1155) (by decide +kernel)⟩
theorem lw_p44 : lw_okq (⟨"DummyInchesModel", "whoFor", "(I)I"⟩, 26) := ⟨⟨by decide +kernel, by decide +kernel⟩, List.mem_of_getElem? (i := 879) (by decide +kernel), List.mem_of_getElem? (i := 1173) (by decide +kernel), List.mem_of_getElem? (i := 1174) (by decide +kernel)⟩
theorem lw_p45 : lw_okq (⟨"DummyInchesModel", "toldFor", "(II)I"⟩, 26) := ⟨⟨by decide +kernel, by decide +kernel⟩, List.mem_of_getElem? (i := 879) (by decide +kernel), List.mem_of_getElem? (i := 1177) (by decide +kernel), List.mem_of_getElem? (i := 1178) (by decide +kernel)⟩
theorem lw_p46 : lw_okq (⟨"DummyInchesModel", "bribeOf", "(I)I"⟩, 26) := ⟨⟨by decide +kernel, by decide +kernel⟩, List.mem_of_getElem? (i := 879) (by decide +kernel), List.mem_of_getElem? (i := 1181) (by decide +kernel), List.mem_of_getElem? (i := 1182) (by decide +kernel)⟩
theorem lw_p47 : lw_okq (⟨"DummyInchesModel", "isCut", "(III)Z"⟩, 26) := ⟨⟨by decide +kernel, by decide +kernel⟩, List.mem_of_getElem? (i := 879) (by decide +kernel), List.mem_of_getElem? (i := 1212) (by decide +kernel), List.mem_of_getElem? (i := 1213) (by decide +kernel)⟩
def lw_privs_3 : List (MethodName × Nat) := [(⟨"DummyInchesModel", "isDummy", "(I)Z"⟩, 26), (⟨"DummyInchesModel", "padsOf", "(II)I"⟩, 26), (⟨"DummyInchesModel", "kindOf", "(I)I"⟩, 26), (⟨"DummyInchesModel", "keep", "()V"⟩, 26), (⟨"DummyInchesModel", "logs", "(IIIIII)V"⟩, 26), (⟨"DummyInchesModel", "isThere", "()Z"⟩, 26), (⟨"DummyInchesModel", "lessOf", "(II)I"⟩, 26), (⟨"DummyInchesModel", "pinchOf", "(II)I"⟩, 26), (⟨"DummyInchesModel", "lineOf", "(II)I"⟩, 26), (⟨"DummyInchesModel", "noRow", "(III)I"⟩, 26), (⟨"DummyInchesModel", "setsOf", "(III)I"⟩, 26), (⟨"DummyInchesModel", "isBy", "(III)Z"⟩, 26), (⟨"DummyInchesModel", "whoFor", "(I)I"⟩, 26), (⟨"DummyInchesModel", "toldFor", "(II)I"⟩, 26), (⟨"DummyInchesModel", "bribeOf", "(I)I"⟩, 26), (⟨"DummyInchesModel", "isCut", "(III)Z"⟩, 26)]
theorem lw_r3 : ∀ q ∈ lw_privs_3, lw_okq q := List.forall_mem_cons.mpr ⟨lw_p32, List.forall_mem_cons.mpr ⟨lw_p33, List.forall_mem_cons.mpr ⟨lw_p34, List.forall_mem_cons.mpr ⟨lw_p35, List.forall_mem_cons.mpr ⟨lw_p36, List.forall_mem_cons.mpr ⟨lw_p37, List.forall_mem_cons.mpr ⟨lw_p38, List.forall_mem_cons.mpr ⟨lw_p39, List.forall_mem_cons.mpr ⟨lw_p40, List.forall_mem_cons.mpr ⟨lw_p41, List.forall_mem_cons.mpr ⟨lw_p42, List.forall_mem_cons.mpr ⟨lw_p43, List.forall_mem_cons.mpr ⟨lw_p44, List.forall_mem_cons.mpr ⟨lw_p45, List.forall_mem_cons.mpr ⟨lw_p46, List.forall_mem_cons.mpr ⟨lw_p47, fun _ h => absurd h List.not_mem_nil⟩⟩⟩⟩⟩⟩⟩⟩⟩⟩⟩⟩⟩⟩⟩⟩
theorem lw_p48 : lw_okq (⟨"DummyInchesModel", "layTwins", "()I"⟩, 26) := ⟨⟨by decide +kernel, by decide +kernel⟩, List.mem_of_getElem? (i := 879) (by decide +kernel), List.mem_of_getElem? (i := 1221) (by decide +kernel), List.mem_of_getElem? (i := 1222) (by decide +kernel)⟩
theorem lw_p49 : lw_okq (⟨"DummyInchesModel", "unlike", "(II)I"⟩, 26) := ⟨⟨by decide +kernel, by decide +kernel⟩, List.mem_of_getElem? (i := 879) (by decide +kernel), List.mem_of_getElem? (i := 1225) (by decide +kernel), List.mem_of_getElem? (i := 1226) (by decide +kernel)⟩
theorem lw_p50 : lw_okq (⟨"DummyInchesModel", "sizeOf", "(I)I"⟩, 26) := ⟨⟨by decide +kernel, by decide +kernel⟩, List.mem_of_getElem? (i := 879) (by decide +kernel), List.mem_of_getElem? (i := 1252) (by decide +kernel), List.mem_of_getElem? (i := 1253) (by decide +kernel)⟩
theorem lw_p51 : lw_okq (⟨"DummyInchesModel", "gossipSize", "(I)I"⟩, 26) := ⟨⟨by decide +kernel, by decide +kernel⟩, List.mem_of_getElem? (i := 879) (by decide +kernel), List.mem_of_getElem? (i := 1256) (by decide +kernel), List.mem_of_getElem? (i := 1257) (by decide +kernel)⟩
theorem lw_p52 : lw_okq (⟨"DummyInchesModel", "began", "(I)V"⟩, 26) := ⟨⟨by decide +kernel, by decide +kernel⟩, List.mem_of_getElem? (i := 879) (by decide +kernel), List.mem_of_getElem? (i := 1260) (by decide +kernel), List.mem_of_getElem? (i := 1261) (by decide +kernel)⟩
theorem lw_p53 : lw_okq (⟨"DummyInchesModel", "plainSize", "(I)I"⟩, 26) := ⟨⟨by decide +kernel, by decide +kernel⟩, List.mem_of_getElem? (i := 879) (by decide +kernel), List.mem_of_getElem? (i := 1264) (by decide +kernel), List.mem_of_getElem? (i := 1265) (by decide +kernel)⟩
theorem lw_p54 : lw_okq (⟨"DummyInchesModel", "markOf", "(I)I"⟩, 26) := ⟨⟨by decide +kernel, by decide +kernel⟩, List.mem_of_getElem? (i := 879) (by decide +kernel), List.mem_of_getElem? (i := 1268) (by decide +kernel), List.mem_of_getElem? (i := 1269) (by decide +kernel)⟩
def lw_privs_4 : List (MethodName × Nat) := [(⟨"DummyInchesModel", "layTwins", "()I"⟩, 26), (⟨"DummyInchesModel", "unlike", "(II)I"⟩, 26), (⟨"DummyInchesModel", "sizeOf", "(I)I"⟩, 26), (⟨"DummyInchesModel", "gossipSize", "(I)I"⟩, 26), (⟨"DummyInchesModel", "began", "(I)V"⟩, 26), (⟨"DummyInchesModel", "plainSize", "(I)I"⟩, 26), (⟨"DummyInchesModel", "markOf", "(I)I"⟩, 26)]
theorem lw_r4 : ∀ q ∈ lw_privs_4, lw_okq q := List.forall_mem_cons.mpr ⟨lw_p48, List.forall_mem_cons.mpr ⟨lw_p49, List.forall_mem_cons.mpr ⟨lw_p50, List.forall_mem_cons.mpr ⟨lw_p51, List.forall_mem_cons.mpr ⟨lw_p52, List.forall_mem_cons.mpr ⟨lw_p53, List.forall_mem_cons.mpr ⟨lw_p54, fun _ h => absurd h List.not_mem_nil⟩⟩⟩⟩⟩⟩⟩
def lw_privs : List (MethodName × Nat) := lw_privs_1 ++ (lw_privs_2 ++ (lw_privs_3 ++ (lw_privs_4)))
def lw_tbl : List Cond := k2_sels lw_privs ++ tables_1
theorem lw_privs_ok : ∀ q ∈ lw_privs, lw_okq q := by
  show ∀ q ∈ lw_privs_1 ++ (lw_privs_2 ++ (lw_privs_3 ++ (lw_privs_4))), lw_okq q
  exact List.forall_mem_append.mpr ⟨lw_r1, List.forall_mem_append.mpr ⟨lw_r2, List.forall_mem_append.mpr ⟨lw_r3, lw_r4⟩⟩⟩
-- ===== end of PART A; then your names; then what follows =====
end
section
def RX0 : String := "DummyInches$Asking"
def TX0 : u_T := fun k => match k with
  | 0 => ("DummyInches$Asking", "bodies", "[I", true)
  | 1 => ("DummyInches$Asking", "begun", "I", false)
  | _ => ("DummyInches$Asking", "tellings", "I", false)
def tyX0 : Nat → FieldType := fun k => match k with
  | 0 => .array .int
  | 1 => .int
  | _ => .int
theorem nmX0 : ∀ a, a < 3 → ∀ b, b < 3 → a ≠ b → (TX0 a).2.1 ≠ (TX0 b).2.1 := by decide +kernel
theorem tyX0_ok : ∀ k, k < 3 → parseFieldDescriptor (TX0 k).2.2.1 = some (tyX0 k) := by decide +kernel
abbrev cX0_init : ByteArray := prog_2_method_1_code
def yX0_init : MethodName := ⟨RX0, "<init>", "()V"⟩
abbrev cX0_startFor : ByteArray := prog_2_method_2_code
def yX0_startFor : MethodName := ⟨RX0, "startFor", "(I)V"⟩
abbrev cX0_begin : ByteArray := prog_2_method_3_code
def yX0_begin : MethodName := ⟨RX0, "begin", "(I)V"⟩
abbrev cX0_bodyAt : ByteArray := prog_2_method_4_code
def yX0_bodyAt : MethodName := ⟨RX0, "bodyAt", "(I)I"⟩
def RX1 : String := "DummyInches$Cook"
def TX1 : u_T := fun k => match k with
  | 0 => ("DummyInches$Mouth", "number", "I", true)
  | _ => ("DummyInches$Mouth", "bribe", "I", true)
def tyX1 : Nat → FieldType := fun k => match k with
  | 0 => .int
  | _ => .int
theorem nmX1 : ∀ a, a < 2 → ∀ b, b < 2 → a ≠ b → (TX1 a).2.1 ≠ (TX1 b).2.1 := by decide +kernel
theorem tyX1_ok : ∀ k, k < 2 → parseFieldDescriptor (TX1 k).2.2.1 = some (tyX1 k) := by decide +kernel
abbrev cX1_init : ByteArray := prog_3_method_1_code
def yX1_init : MethodName := ⟨RX1, "<init>", "(II)V"⟩
abbrev cX1_sort : ByteArray := prog_3_method_2_code
def yX1_sort : MethodName := ⟨RX1, "sort", "()I"⟩
abbrev cX1_padding : ByteArray := prog_3_method_3_code
def yX1_padding : MethodName := ⟨RX1, "padding", "(I)I"⟩
abbrev cX1_size : ByteArray := prog_3_method_4_code
def yX1_size : MethodName := ⟨RX1, "size", "(LDummyInches$Asking;)I"⟩
abbrev cX1_mark : ByteArray := prog_3_method_5_code
def yX1_mark : MethodName := ⟨RX1, "mark", "(LDummyInches$Asking;)I"⟩
def RX2 : String := "DummyInches$Foretold"
def TX2 : u_T := fun k => match k with
  | 0 => ("DummyInches$Foretold", "slips", "[I", true)
  | _ => ("DummyInches$Foretold", "boltsFor", "[I", true)
def tyX2 : Nat → FieldType := fun k => match k with
  | 0 => .array .int
  | _ => .array .int
theorem nmX2 : ∀ a, a < 2 → ∀ b, b < 2 → a ≠ b → (TX2 a).2.1 ≠ (TX2 b).2.1 := by decide +kernel
theorem tyX2_ok : ∀ k, k < 2 → parseFieldDescriptor (TX2 k).2.2.1 = some (tyX2 k) := by decide +kernel
abbrev cX2_init : ByteArray := prog_4_method_1_code
def yX2_init : MethodName := ⟨RX2, "<init>", "()V"⟩
abbrev cX2_fittingSets : ByteArray := prog_4_method_2_code
def yX2_fittingSets : MethodName := ⟨RX2, "fittingSets", "(LDummyInches$Street;ILDummyInches$Rows;II)I"⟩
abbrev cX2_addSlips : ByteArray := prog_4_method_3_code
def yX2_addSlips : MethodName := ⟨RX2, "addSlips", "(LDummyInches$Street;I)V"⟩
abbrev cX2_slipOf : ByteArray := prog_4_method_4_code
def yX2_slipOf : MethodName := ⟨RX2, "slipOf", "(II)I"⟩
abbrev cX2_has : ByteArray := prog_4_method_5_code
def yX2_has : MethodName := ⟨RX2, "has", "(II)Z"⟩
abbrev cX2_fewestOf : ByteArray := prog_4_method_6_code
def yX2_fewestOf : MethodName := ⟨RX2, "fewestOf", "(I)I"⟩
abbrev cX2_isFewer : ByteArray := prog_4_method_7_code
def yX2_isFewer : MethodName := ⟨RX2, "isFewer", "(II)Z"⟩
abbrev cX2_setsWith : ByteArray := prog_4_method_8_code
def yX2_setsWith : MethodName := ⟨RX2, "setsWith", "(II)I"⟩
abbrev cX2_fraction : ByteArray := prog_4_method_9_code
def yX2_fraction : MethodName := ⟨RX2, "fraction", "(III)I"⟩
abbrev cX2_rightBy : ByteArray := prog_4_method_10_code
def yX2_rightBy : MethodName := ⟨RX2, "rightBy", "(LDummyInches$Street;II)I"⟩
abbrev cX2_cheapestFor : ByteArray := prog_4_method_11_code
def yX2_cheapestFor : MethodName := ⟨RX2, "cheapestFor", "(LDummyInches$Street;I)LDummyInches$Mouth;"⟩
abbrev cX2_leastTold : ByteArray := prog_4_method_12_code
def yX2_leastTold : MethodName := ⟨RX2, "leastTold", "(LDummyInches$Mouth;I)I"⟩
abbrev cX2_mostPadding : ByteArray := prog_4_method_13_code
def yX2_mostPadding : MethodName := ⟨RX2, "mostPadding", "(LDummyInches$Street;III)I"⟩
abbrev cX2_paddedBy : ByteArray := prog_4_method_14_code
def yX2_paddedBy : MethodName := ⟨RX2, "paddedBy", "(LDummyInches$Street;III)I"⟩
abbrev cX2_swapsThatGive : ByteArray := prog_4_method_15_code
def yX2_swapsThatGive : MethodName := ⟨RX2, "swapsThatGive", "(LDummyInches$Street;LDummyInches$Rows;III)I"⟩
abbrev cX2_gives : ByteArray := prog_4_method_16_code
def yX2_gives : MethodName := ⟨RX2, "gives", "(LDummyInches$Street;IILDummyInches$Rows;II)Z"⟩
abbrev cX2_otherPlaces : ByteArray := prog_4_method_17_code
def yX2_otherPlaces : MethodName := ⟨RX2, "otherPlaces", "(LDummyInches$Street;LDummyInches$Street;)I"⟩
abbrev cX2_unlikeness : ByteArray := prog_4_method_18_code
def yX2_unlikeness : MethodName := ⟨RX2, "unlikeness", "(LDummyInches$Street;LDummyInches$Street;)I"⟩
abbrev cX2_waysToPart : ByteArray := prog_4_method_19_code
def yX2_waysToPart : MethodName := ⟨RX2, "waysToPart", "(LDummyInches$Mouth;LDummyInches$Mouth;II)I"⟩
abbrev cX2_fewestRepairs : ByteArray := prog_4_method_20_code
def yX2_fewestRepairs : MethodName := ⟨RX2, "fewestRepairs", "(LDummyInches$Street;II)I"⟩
abbrev cX2_sumWithout : ByteArray := prog_4_method_21_code
def yX2_sumWithout : MethodName := ⟨RX2, "sumWithout", "(LDummyInches$Street;II)I"⟩
abbrev cX2_feltNeeded : ByteArray := prog_4_method_22_code
def yX2_feltNeeded : MethodName := ⟨RX2, "feltNeeded", "(LDummyInches$Street;I)I"⟩
abbrev cX2_stripsOf : ByteArray := prog_4_method_23_code
def yX2_stripsOf : MethodName := ⟨RX2, "stripsOf", "(LDummyInches$Street;II)I"⟩
abbrev cX2_fewestBolts : ByteArray := prog_4_method_24_code
def yX2_fewestBolts : MethodName := ⟨RX2, "fewestBolts", "(LDummyInches$Street;II)I"⟩
abbrev cX2_fewer : ByteArray := prog_4_method_25_code
def yX2_fewer : MethodName := ⟨RX2, "fewer", "(II)I"⟩
abbrev cX2_partnerOfFirst : ByteArray := prog_4_method_26_code
def yX2_partnerOfFirst : MethodName := ⟨RX2, "partnerOfFirst", "(LDummyInches$Street;)I"⟩
abbrev cX2_unlikePairs : ByteArray := prog_4_method_27_code
def yX2_unlikePairs : MethodName := ⟨RX2, "unlikePairs", "(LDummyInches$Street;I)I"⟩
abbrev cX2_partnerOf : ByteArray := prog_4_method_28_code
def yX2_partnerOf : MethodName := ⟨RX2, "partnerOf", "(LDummyInches$Street;II)I"⟩
abbrev cX2_restBut : ByteArray := prog_4_method_29_code
def yX2_restBut : MethodName := ⟨RX2, "restBut", "(LDummyInches$Street;II)I"⟩
abbrev cX2_unlike : ByteArray := prog_4_method_30_code
def yX2_unlike : MethodName := ⟨RX2, "unlike", "(LDummyInches$Street;II)I"⟩
def RX3 : String := "DummyInches$Gossip"
def TX3 : u_T := fun k => match k with
  | 0 => ("DummyInches$Mouth", "number", "I", true)
  | _ => ("DummyInches$Mouth", "bribe", "I", true)
def tyX3 : Nat → FieldType := fun k => match k with
  | 0 => .int
  | _ => .int
theorem nmX3 : ∀ a, a < 2 → ∀ b, b < 2 → a ≠ b → (TX3 a).2.1 ≠ (TX3 b).2.1 := by decide +kernel
theorem tyX3_ok : ∀ k, k < 2 → parseFieldDescriptor (TX3 k).2.2.1 = some (tyX3 k) := by decide +kernel
abbrev cX3_init : ByteArray := prog_5_method_1_code
def yX3_init : MethodName := ⟨RX3, "<init>", "(II)V"⟩
abbrev cX3_sort : ByteArray := prog_5_method_2_code
def yX3_sort : MethodName := ⟨RX3, "sort", "()I"⟩
abbrev cX3_padding : ByteArray := prog_5_method_3_code
def yX3_padding : MethodName := ⟨RX3, "padding", "(I)I"⟩
abbrev cX3_size : ByteArray := prog_5_method_4_code
def yX3_size : MethodName := ⟨RX3, "size", "(LDummyInches$Asking;)I"⟩
abbrev cX3_mark : ByteArray := prog_5_method_5_code
def yX3_mark : MethodName := ⟨RX3, "mark", "(LDummyInches$Asking;)I"⟩
def RX4 : String := "DummyInches$Mouth"
def TX4 : u_T := fun k => match k with
  | _ => ("", "", "", false)
def tyX4 : Nat → FieldType := fun k => match k with
  | _ => .int
theorem nmX4 : ∀ a, a < 0 → ∀ b, b < 0 → a ≠ b → (TX4 a).2.1 ≠ (TX4 b).2.1 := by decide +kernel
theorem tyX4_ok : ∀ k, k < 0 → parseFieldDescriptor (TX4 k).2.2.1 = some (tyX4 k) := by decide +kernel
abbrev cX4_init : ByteArray := prog_6_method_1_code
def yX4_init : MethodName := ⟨RX4, "<init>", "(II)V"⟩
abbrev cX4_size : ByteArray := prog_6_method_4_code
def yX4_size : MethodName := ⟨RX4, "size", "(LDummyInches$Asking;)I"⟩
abbrev cX4_mark : ByteArray := prog_6_method_5_code
def yX4_mark : MethodName := ⟨RX4, "mark", "(LDummyInches$Asking;)I"⟩
def RX5 : String := "DummyInches$Rival"
def TX5 : u_T := fun k => match k with
  | 0 => ("DummyInches$Mouth", "number", "I", true)
  | _ => ("DummyInches$Mouth", "bribe", "I", true)
def tyX5 : Nat → FieldType := fun k => match k with
  | 0 => .int
  | _ => .int
theorem nmX5 : ∀ a, a < 2 → ∀ b, b < 2 → a ≠ b → (TX5 a).2.1 ≠ (TX5 b).2.1 := by decide +kernel
theorem tyX5_ok : ∀ k, k < 2 → parseFieldDescriptor (TX5 k).2.2.1 = some (tyX5 k) := by decide +kernel
abbrev cX5_init : ByteArray := prog_7_method_1_code
def yX5_init : MethodName := ⟨RX5, "<init>", "(II)V"⟩
abbrev cX5_sort : ByteArray := prog_7_method_2_code
def yX5_sort : MethodName := ⟨RX5, "sort", "()I"⟩
abbrev cX5_padding : ByteArray := prog_7_method_3_code
def yX5_padding : MethodName := ⟨RX5, "padding", "(I)I"⟩
abbrev cX5_mark : ByteArray := prog_7_method_4_code
def yX5_mark : MethodName := ⟨RX5, "mark", "(LDummyInches$Asking;)I"⟩
def RX6 : String := "DummyInches$Rows"
def TX6 : u_T := fun k => match k with
  | 0 => ("DummyInches$Rows", "items", "[[I", true)
  | 1 => ("DummyInches$Rows", "lanes", "[I", true)
  | 2 => ("DummyInches$Rows", "sizes", "[I", true)
  | _ => ("DummyInches$Rows", "isThere", "[Z", true)
def tyX6 : Nat → FieldType := fun k => match k with
  | 0 => .array (.array .int)
  | 1 => .array .int
  | 2 => .array .int
  | _ => .array .boolean
theorem nmX6 : ∀ a, a < 4 → ∀ b, b < 4 → a ≠ b → (TX6 a).2.1 ≠ (TX6 b).2.1 := by decide +kernel
theorem tyX6_ok : ∀ k, k < 4 → parseFieldDescriptor (TX6 k).2.2.1 = some (tyX6 k) := by decide +kernel
abbrev cX6_init : ByteArray := prog_8_method_1_code
def yX6_init : MethodName := ⟨RX6, "<init>", "()V"⟩
abbrev cX6_isRow : ByteArray := prog_8_method_2_code
def yX6_isRow : MethodName := ⟨RX6, "isRow", "(I)Z"⟩
abbrev cX6_isLane : ByteArray := prog_8_method_3_code
def yX6_isLane : MethodName := ⟨RX6, "isLane", "(I)Z"⟩
abbrev cX6_isMissing : ByteArray := prog_8_method_4_code
def yX6_isMissing : MethodName := ⟨RX6, "isMissing", "(I)Z"⟩
abbrev cX6_lay : ByteArray := prog_8_method_5_code
def yX6_lay : MethodName := ⟨RX6, "lay", "(III)V"⟩
abbrev cX6_lose : ByteArray := prog_8_method_6_code
def yX6_lose : MethodName := ⟨RX6, "lose", "(I)I"⟩
abbrev cX6_findingAt : ByteArray := prog_8_method_7_code
def yX6_findingAt : MethodName := ⟨RX6, "findingAt", "(III)I"⟩
abbrev cX6_findingOfMove : ByteArray := prog_8_method_8_code
def yX6_findingOfMove : MethodName := ⟨RX6, "findingOfMove", "(IIIII)I"⟩
abbrev cX6_holds : ByteArray := prog_8_method_9_code
def yX6_holds : MethodName := ⟨RX6, "holds", "(III)Z"⟩
abbrev cX6_move : ByteArray := prog_8_method_10_code
def yX6_move : MethodName := ⟨RX6, "move", "(IIIII)V"⟩
abbrev cX6_put : ByteArray := prog_8_method_11_code
def yX6_put : MethodName := ⟨RX6, "put", "(III)I"⟩
abbrev cX6_cut : ByteArray := prog_8_method_12_code
def yX6_cut : MethodName := ⟨RX6, "cut", "(II)I"⟩
abbrev cX6_item : ByteArray := prog_8_method_13_code
def yX6_item : MethodName := ⟨RX6, "item", "(II)I"⟩
abbrev cX6_there : ByteArray := prog_8_method_14_code
def yX6_there : MethodName := ⟨RX6, "there", "()I"⟩
def RX7 : String := "DummyInches$Spy"
def TX7 : u_T := fun k => match k with
  | 0 => ("DummyInches$Mouth", "number", "I", true)
  | _ => ("DummyInches$Mouth", "bribe", "I", true)
def tyX7 : Nat → FieldType := fun k => match k with
  | 0 => .int
  | _ => .int
theorem nmX7 : ∀ a, a < 2 → ∀ b, b < 2 → a ≠ b → (TX7 a).2.1 ≠ (TX7 b).2.1 := by decide +kernel
theorem tyX7_ok : ∀ k, k < 2 → parseFieldDescriptor (TX7 k).2.2.1 = some (tyX7 k) := by decide +kernel
abbrev cX7_init : ByteArray := prog_9_method_1_code
def yX7_init : MethodName := ⟨RX7, "<init>", "(II)V"⟩
abbrev cX7_sort : ByteArray := prog_9_method_2_code
def yX7_sort : MethodName := ⟨RX7, "sort", "()I"⟩
abbrev cX7_padding : ByteArray := prog_9_method_3_code
def yX7_padding : MethodName := ⟨RX7, "padding", "(I)I"⟩
abbrev cX7_size : ByteArray := prog_9_method_4_code
def yX7_size : MethodName := ⟨RX7, "size", "(LDummyInches$Asking;)I"⟩
def RX8 : String := "DummyInches$Street"
def TX8 : u_T := fun k => match k with
  | 0 => ("DummyInches$Street", "inches", "[I", true)
  | 1 => ("DummyInches$Street", "made", "[I", true)
  | 2 => ("DummyInches$Street", "customers", "[I", true)
  | 3 => ("DummyInches$Street", "mouths", "[LDummyInches$Mouth;", true)
  | 4 => ("DummyInches$Street", "log", "[I", true)
  | 5 => ("DummyInches$Street", "stands", "Z", false)
  | 6 => ("DummyInches$Street", "shrink", "I", false)
  | 7 => ("DummyInches$Street", "dummyCount", "I", false)
  | 8 => ("DummyInches$Street", "mouthCount", "I", false)
  | _ => ("DummyInches$Street", "lineCount", "I", false)
def tyX8 : Nat → FieldType := fun k => match k with
  | 0 => .array .int
  | 1 => .array .int
  | 2 => .array .int
  | 3 => .array (.object "DummyInches$Mouth")
  | 4 => .array .int
  | 5 => .boolean
  | 6 => .int
  | 7 => .int
  | 8 => .int
  | _ => .int
theorem nmX8 : ∀ a, a < 10 → ∀ b, b < 10 → a ≠ b → (TX8 a).2.1 ≠ (TX8 b).2.1 := by decide +kernel
theorem tyX8_ok : ∀ k, k < 10 → parseFieldDescriptor (TX8 k).2.2.1 = some (tyX8 k) := by decide +kernel
abbrev cX8_init : ByteArray := prog_10_method_1_code
def yX8_init : MethodName := ⟨RX8, "<init>", "()V"⟩
abbrev cX8_at : ByteArray := prog_10_method_2_code
def yX8_at : MethodName := ⟨RX8, "at", "(II)I"⟩
abbrev cX8_become : ByteArray := prog_10_method_3_code
def yX8_become : MethodName := ⟨RX8, "become", "(LDummyInches$Street;)V"⟩
abbrev cX8_empty : ByteArray := prog_10_method_4_code
def yX8_empty : MethodName := ⟨RX8, "empty", "()V"⟩
abbrev cX8_make : ByteArray := prog_10_method_5_code
def yX8_make : MethodName := ⟨RX8, "make", "(II)V"⟩
abbrev cX8_addMouth : ByteArray := prog_10_method_6_code
def yX8_addMouth : MethodName := ⟨RX8, "addMouth", "(II)V"⟩
abbrev cX8_newMouth : ByteArray := prog_10_method_7_code
def yX8_newMouth : MethodName := ⟨RX8, "newMouth", "(III)LDummyInches$Mouth;"⟩
abbrev cX8_mouthAt : ByteArray := prog_10_method_8_code
def yX8_mouthAt : MethodName := ⟨RX8, "mouthAt", "(I)LDummyInches$Mouth;"⟩
abbrev cX8_hasDummy : ByteArray := prog_10_method_9_code
def yX8_hasDummy : MethodName := ⟨RX8, "hasDummy", "(I)Z"⟩
abbrev cX8_hasPlace : ByteArray := prog_10_method_10_code
def yX8_hasPlace : MethodName := ⟨RX8, "hasPlace", "(II)Z"⟩
abbrev cX8_isLogFull : ByteArray := prog_10_method_11_code
def yX8_isLogFull : MethodName := ⟨RX8, "isLogFull", "()Z"⟩
abbrev cX8_hasRoomFor : ByteArray := prog_10_method_12_code
def yX8_hasRoomFor : MethodName := ⟨RX8, "hasRoomFor", "(IIII)Z"⟩
abbrev cX8_pinch : ByteArray := prog_10_method_13_code
def yX8_pinch : MethodName := ⟨RX8, "pinch", "(I)I"⟩
abbrev cX8_addTelling : ByteArray := prog_10_method_14_code
def yX8_addTelling : MethodName := ⟨RX8, "addTelling", "(IIIII)V"⟩
abbrev cX8_addYear : ByteArray := prog_10_method_15_code
def yX8_addYear : MethodName := ⟨RX8, "addYear", "()I"⟩
abbrev cX8_addSwap : ByteArray := prog_10_method_16_code
def yX8_addSwap : MethodName := ⟨RX8, "addSwap", "(II)V"⟩
abbrev cX8_addLine : ByteArray := prog_10_method_17_code
def yX8_addLine : MethodName := ⟨RX8, "addLine", "(IIIIII)V"⟩
abbrev cX8_shrinkAll : ByteArray := prog_10_method_18_code
def yX8_shrinkAll : MethodName := ⟨RX8, "shrinkAll", "()I"⟩
abbrev cX8_exchange : ByteArray := prog_10_method_19_code
def yX8_exchange : MethodName := ⟨RX8, "exchange", "(II)V"⟩
abbrev cX8_endLog : ByteArray := prog_10_method_20_code
def yX8_endLog : MethodName := ⟨RX8, "endLog", "()I"⟩
abbrev cX8_goBackTo : ByteArray := prog_10_method_21_code
def yX8_goBackTo : MethodName := ⟨RX8, "goBackTo", "(I)V"⟩
abbrev cX8_doAgain : ByteArray := prog_10_method_22_code
def yX8_doAgain : MethodName := ⟨RX8, "doAgain", "(I)V"⟩
abbrev cX8_part : ByteArray := prog_10_method_23_code
def yX8_part : MethodName := ⟨RX8, "part", "(II)I"⟩
abbrev cX8_isTelling : ByteArray := prog_10_method_24_code
def yX8_isTelling : MethodName := ⟨RX8, "isTelling", "(I)Z"⟩
abbrev cX8_isTellingBy : ByteArray := prog_10_method_25_code
def yX8_isTellingBy : MethodName := ⟨RX8, "isTellingBy", "(II)Z"⟩
abbrev cX8_isTellingOf : ByteArray := prog_10_method_26_code
def yX8_isTellingOf : MethodName := ⟨RX8, "isTellingOf", "(II)Z"⟩
abbrev cX8_tellingsBy : ByteArray := prog_10_method_27_code
def yX8_tellingsBy : MethodName := ⟨RX8, "tellingsBy", "(I)I"⟩
abbrev cX8_years : ByteArray := prog_10_method_28_code
def yX8_years : MethodName := ⟨RX8, "years", "()I"⟩
def RX9 : String := "DummyInches$Tape"
def TX9 : u_T := fun k => match k with
  | 0 => ("DummyInches$Tape", "bytes", "[I", true)
  | 1 => ("DummyInches$Tape", "length", "I", false)
  | 2 => ("DummyInches$Tape", "faultNumber", "I", false)
  | 3 => ("DummyInches$Tape", "faultPlace", "I", false)
  | 4 => ("DummyInches$Tape", "next", "I", false)
  | _ => ("DummyInches$Tape", "number", "I", false)
def tyX9 : Nat → FieldType := fun k => match k with
  | 0 => .array .int
  | 1 => .int
  | 2 => .int
  | 3 => .int
  | 4 => .int
  | _ => .int
theorem nmX9 : ∀ a, a < 6 → ∀ b, b < 6 → a ≠ b → (TX9 a).2.1 ≠ (TX9 b).2.1 := by decide +kernel
theorem tyX9_ok : ∀ k, k < 6 → parseFieldDescriptor (TX9 k).2.2.1 = some (tyX9 k) := by decide +kernel
abbrev cX9_init : ByteArray := prog_11_method_1_code
def yX9_init : MethodName := ⟨RX9, "<init>", "()V"⟩
abbrev cX9_isFull : ByteArray := prog_11_method_2_code
def yX9_isFull : MethodName := ⟨RX9, "isFull", "()Z"⟩
abbrev cX9_add : ByteArray := prog_11_method_3_code
def yX9_add : MethodName := ⟨RX9, "add", "(I)I"⟩
abbrev cX9_readInto : ByteArray := prog_11_method_4_code
def yX9_readInto : MethodName := ⟨RX9, "readInto", "(LDummyInches$Street;)Z"⟩
abbrev cX9_readLaw : ByteArray := prog_11_method_5_code
def yX9_readLaw : MethodName := ⟨RX9, "readLaw", "(LDummyInches$Street;)Z"⟩
abbrev cX9_readDummies : ByteArray := prog_11_method_6_code
def yX9_readDummies : MethodName := ⟨RX9, "readDummies", "(LDummyInches$Street;)Z"⟩
abbrev cX9_readInches : ByteArray := prog_11_method_7_code
def yX9_readInches : MethodName := ⟨RX9, "readInches", "(LDummyInches$Street;I)Z"⟩
abbrev cX9_readMouths : ByteArray := prog_11_method_8_code
def yX9_readMouths : MethodName := ⟨RX9, "readMouths", "(LDummyInches$Street;)Z"⟩
abbrev cX9_kindOf : ByteArray := prog_11_method_9_code
def yX9_kindOf : MethodName := ⟨RX9, "kindOf", "(I)I"⟩
abbrev cX9_comes : ByteArray := prog_11_method_10_code
def yX9_comes : MethodName := ⟨RX9, "comes", "(C)Z"⟩
abbrev cX9_readByte : ByteArray := prog_11_method_11_code
def yX9_readByte : MethodName := ⟨RX9, "readByte", "(C)Z"⟩
abbrev cX9_readNumber : ByteArray := prog_11_method_12_code
def yX9_readNumber : MethodName := ⟨RX9, "readNumber", "(II)Z"⟩
abbrev cX9_isFigure : ByteArray := prog_11_method_13_code
def yX9_isFigure : MethodName := ⟨RX9, "isFigure", "(I)Z"⟩
abbrev cX9_isFault : ByteArray := prog_11_method_14_code
def yX9_isFault : MethodName := ⟨RX9, "isFault", "(I)Z"⟩
def RX10 : String := "DummyInches$Valet"
def TX10 : u_T := fun k => match k with
  | 0 => ("DummyInches$Mouth", "number", "I", true)
  | _ => ("DummyInches$Mouth", "bribe", "I", true)
def tyX10 : Nat → FieldType := fun k => match k with
  | 0 => .int
  | _ => .int
theorem nmX10 : ∀ a, a < 2 → ∀ b, b < 2 → a ≠ b → (TX10 a).2.1 ≠ (TX10 b).2.1 := by decide +kernel
theorem tyX10_ok : ∀ k, k < 2 → parseFieldDescriptor (TX10 k).2.2.1 = some (tyX10 k) := by decide +kernel
abbrev cX10_init : ByteArray := prog_12_method_1_code
def yX10_init : MethodName := ⟨RX10, "<init>", "(II)V"⟩
abbrev cX10_sort : ByteArray := prog_12_method_2_code
def yX10_sort : MethodName := ⟨RX10, "sort", "()I"⟩
abbrev cX10_padding : ByteArray := prog_12_method_3_code
def yX10_padding : MethodName := ⟨RX10, "padding", "(I)I"⟩
abbrev cX10_size : ByteArray := prog_12_method_4_code
def yX10_size : MethodName := ⟨RX10, "size", "(LDummyInches$Asking;)I"⟩
abbrev cX10_mark : ByteArray := prog_12_method_5_code
def yX10_mark : MethodName := ⟨RX10, "mark", "(LDummyInches$Asking;)I"⟩
def RX11 : String := "DummyInches"
def TX11 : u_T := fun k => match k with
  | 0 => ("DummyInches", "rows", "LDummyInches$Rows;", true)
  | 1 => ("DummyInches", "tape", "LDummyInches$Tape;", true)
  | 2 => ("DummyInches", "street", "LDummyInches$Street;", true)
  | 3 => ("DummyInches", "spare", "LDummyInches$Street;", true)
  | 4 => ("DummyInches", "foretold", "LDummyInches$Foretold;", true)
  | 5 => ("DummyInches", "asking", "LDummyInches$Asking;", true)
  | 6 => ("DummyInches", "images", "[LDummyInches$Street;", true)
  | 7 => ("DummyInches", "acts", "[LDummyInches$Street;", true)
  | 8 => ("DummyInches", "actCount", "I", false)
  | 9 => ("DummyInches", "latestAct", "I", false)
  | 10 => ("DummyInches", "latestFault", "I", false)
  | _ => ("DummyInches", "latestFinding", "I", false)
def tyX11 : Nat → FieldType := fun k => match k with
  | 0 => .object "DummyInches$Rows"
  | 1 => .object "DummyInches$Tape"
  | 2 => .object "DummyInches$Street"
  | 3 => .object "DummyInches$Street"
  | 4 => .object "DummyInches$Foretold"
  | 5 => .object "DummyInches$Asking"
  | 6 => .array (.object "DummyInches$Street")
  | 7 => .array (.object "DummyInches$Street")
  | 8 => .int
  | 9 => .int
  | 10 => .int
  | _ => .int
theorem nmX11 : ∀ a, a < 12 → ∀ b, b < 12 → a ≠ b → (TX11 a).2.1 ≠ (TX11 b).2.1 := by decide +kernel
theorem tyX11_ok : ∀ k, k < 12 → parseFieldDescriptor (TX11 k).2.2.1 = some (tyX11 k) := by decide +kernel
abbrev cX11_init : ByteArray := prog_1_method_1_code
def yX11_init : MethodName := ⟨RX11, "<init>", "()V"⟩
abbrev cX11_row : ByteArray := prog_1_method_2_code
def yX11_row : MethodName := ⟨RX11, "row", "(III)I"⟩
abbrev cX11_set : ByteArray := prog_1_method_3_code
def yX11_set : MethodName := ⟨RX11, "set", "(III)I"⟩
abbrev cX11_copy : ByteArray := prog_1_method_4_code
def yX11_copy : MethodName := ⟨RX11, "copy", "(IIIII)I"⟩
abbrev cX11_drop : ByteArray := prog_1_method_5_code
def yX11_drop : MethodName := ⟨RX11, "drop", "(I)I"⟩
abbrev cX11_feed : ByteArray := prog_1_method_6_code
def yX11_feed : MethodName := ⟨RX11, "feed", "(I)I"⟩
abbrev cX11_street : ByteArray := prog_1_method_7_code
def yX11_street : MethodName := ⟨RX11, "street", "()I"⟩
abbrev cX11_fault : ByteArray := prog_1_method_8_code
def yX11_fault : MethodName := ⟨RX11, "fault", "()I"⟩
abbrev cX11_undo : ByteArray := prog_1_method_9_code
def yX11_undo : MethodName := ⟨RX11, "undo", "()I"⟩
abbrev cX11_tell : ByteArray := prog_1_method_10_code
def yX11_tell : MethodName := ⟨RX11, "tell", "(IIII)I"⟩
abbrev cX11_year : ByteArray := prog_1_method_11_code
def yX11_year : MethodName := ⟨RX11, "year", "()I"⟩
abbrev cX11_swap : ByteArray := prog_1_method_12_code
def yX11_swap : MethodName := ⟨RX11, "swap", "(II)I"⟩
abbrev cX11_close : ByteArray := prog_1_method_13_code
def yX11_close : MethodName := ⟨RX11, "close", "()I"⟩
abbrev cX11_dummy : ByteArray := prog_1_method_14_code
def yX11_dummy : MethodName := ⟨RX11, "dummy", "(III)I"⟩
abbrev cX11_line : ByteArray := prog_1_method_15_code
def yX11_line : MethodName := ⟨RX11, "line", "(II)I"⟩
abbrev cX11_pads : ByteArray := prog_1_method_16_code
def yX11_pads : MethodName := ⟨RX11, "pads", "(II)I"⟩
abbrev cX11_was : ByteArray := prog_1_method_17_code
def yX11_was : MethodName := ⟨RX11, "was", "(III)I"⟩
abbrev cX11_liars : ByteArray := prog_1_method_18_code
def yX11_liars : MethodName := ⟨RX11, "liars", "(IIII)I"⟩
abbrev cX11_blame : ByteArray := prog_1_method_19_code
def yX11_blame : MethodName := ⟨RX11, "blame", "(IIIII)I"⟩
abbrev cX11_right : ByteArray := prog_1_method_20_code
def yX11_right : MethodName := ⟨RX11, "right", "(II)I"⟩
abbrev cX11_most : ByteArray := prog_1_method_21_code
def yX11_most : MethodName := ⟨RX11, "most", "(III)I"⟩
abbrev cX11_swaps : ByteArray := prog_1_method_22_code
def yX11_swaps : MethodName := ⟨RX11, "swaps", "(III)I"⟩
abbrev cX11_lent : ByteArray := prog_1_method_23_code
def yX11_lent : MethodName := ⟨RX11, "lent", "(II)I"⟩
abbrev cX11_parted : ByteArray := prog_1_method_24_code
def yX11_parted : MethodName := ⟨RX11, "parted", "(IIII)I"⟩
abbrev cX11_addedUp : ByteArray := prog_1_method_25_code
def yX11_addedUp : MethodName := ⟨RX11, "addedUp", "(III)I"⟩
abbrev cX11_felt : ByteArray := prog_1_method_26_code
def yX11_felt : MethodName := ⟨RX11, "felt", "(III)I"⟩
abbrev cX11_twins : ByteArray := prog_1_method_27_code
def yX11_twins : MethodName := ⟨RX11, "twins", "(I)I"⟩
abbrev cX11_image : ByteArray := prog_1_method_28_code
def yX11_image : MethodName := ⟨RX11, "image", "(I)I"⟩
abbrev cX11_restore : ByteArray := prog_1_method_29_code
def yX11_restore : MethodName := ⟨RX11, "restore", "(I)I"⟩
abbrev cX11_kind : ByteArray := prog_1_method_30_code
def yX11_kind : MethodName := ⟨RX11, "kind", "(I)I"⟩
abbrev cX11_as : ByteArray := prog_1_method_31_code
def yX11_as : MethodName := ⟨RX11, "as", "(II)I"⟩
abbrev cX11_ask : ByteArray := prog_1_method_32_code
def yX11_ask : MethodName := ⟨RX11, "ask", "(II)I"⟩
abbrev cX11_trace : ByteArray := prog_1_method_33_code
def yX11_trace : MethodName := ⟨RX11, "trace", "(I)I"⟩
abbrev cX11_count : ByteArray := prog_1_method_34_code
def yX11_count : MethodName := ⟨RX11, "count", "(I)I"⟩
abbrev cX11_status : ByteArray := prog_1_method_35_code
def yX11_status : MethodName := ⟨RX11, "status", "()I"⟩
abbrev cX11_found : ByteArray := prog_1_method_36_code
def yX11_found : MethodName := ⟨RX11, "found", "(I)I"⟩
abbrev cX11_answered : ByteArray := prog_1_method_37_code
def yX11_answered : MethodName := ⟨RX11, "answered", "(I)I"⟩
abbrev cX11_keepAct : ByteArray := prog_1_method_38_code
def yX11_keepAct : MethodName := ⟨RX11, "keepAct", "()V"⟩
abbrev cX11_copyOver : ByteArray := prog_1_method_39_code
def yX11_copyOver : MethodName := ⟨RX11, "copyOver", "(LDummyInches$Street;)LDummyInches$Street;"⟩
abbrev cX11_isTold : ByteArray := prog_1_method_40_code
def yX11_isTold : MethodName := ⟨RX11, "isTold", "(I)Z"⟩
abbrev cX11_isFirstOrSecond : ByteArray := prog_1_method_41_code
def yX11_isFirstOrSecond : MethodName := ⟨RX11, "isFirstOrSecond", "(I)Z"⟩
abbrev cX11_isImage : ByteArray := prog_1_method_42_code
def yX11_isImage : MethodName := ⟨RX11, "isImage", "(I)Z"⟩
abbrev cX11_isOne : ByteArray := prog_1_method_43_code
def yX11_isOne : MethodName := ⟨RX11, "isOne", "(LDummyInches$Mouth;I)Z"⟩
def RX12 : String := "DummyInchesModel"
def TX12 : u_T := fun k => match k with
  | 0 => ("DummyInchesModel", "thrown", "I", false)
  | 1 => ("DummyInchesModel", "status", "I", false)
  | 2 => ("DummyInchesModel", "lane", "[I", true)
  | 3 => ("DummyInchesModel", "many", "[I", true)
  | 4 => ("DummyInchesModel", "item", "[I", true)
  | 5 => ("DummyInchesModel", "street", "[I", true)
  | 6 => ("DummyInchesModel", "fresh", "[I", true)
  | 7 => ("DummyInchesModel", "was", "[I", true)
  | 8 => ("DummyInchesModel", "acts", "I", false)
  | 9 => ("DummyInchesModel", "tape", "[I", true)
  | 10 => ("DummyInchesModel", "taped", "I", false)
  | 11 => ("DummyInchesModel", "cursor", "I", false)
  | 12 => ("DummyInchesModel", "start", "I", false)
  | 13 => ("DummyInchesModel", "token", "I", false)
  | 14 => ("DummyInchesModel", "value", "I", false)
  | 15 => ("DummyInchesModel", "fault", "I", false)
  | 16 => ("DummyInchesModel", "faultAt", "I", false)
  | 17 => ("DummyInchesModel", "latest", "I", false)
  | 18 => ("DummyInchesModel", "then", "[I", true)
  | 19 => ("DummyInchesModel", "isKept", "[Z", true)
  | 20 => ("DummyInchesModel", "kept", "[I", true)
  | 21 => ("DummyInchesModel", "bolt", "[I", true)
  | 22 => ("DummyInchesModel", "with", "[I", true)
  | 23 => ("DummyInchesModel", "twin", "[I", true)
  | 24 => ("DummyInchesModel", "trace", "[I", true)
  | _ => ("DummyInchesModel", "traced", "I", false)
def tyX12 : Nat → FieldType := fun k => match k with
  | 0 => .int
  | 1 => .int
  | 2 => .array .int
  | 3 => .array .int
  | 4 => .array .int
  | 5 => .array .int
  | 6 => .array .int
  | 7 => .array .int
  | 8 => .int
  | 9 => .array .int
  | 10 => .int
  | 11 => .int
  | 12 => .int
  | 13 => .int
  | 14 => .int
  | 15 => .int
  | 16 => .int
  | 17 => .int
  | 18 => .array .int
  | 19 => .array .boolean
  | 20 => .array .int
  | 21 => .array .int
  | 22 => .array .int
  | 23 => .array .int
  | 24 => .array .int
  | _ => .int
theorem nmX12 : ∀ a, a < 26 → ∀ b, b < 26 → a ≠ b → (TX12 a).2.1 ≠ (TX12 b).2.1 := by decide +kernel
theorem tyX12_ok : ∀ k, k < 26 → parseFieldDescriptor (TX12 k).2.2.1 = some (tyX12 k) := by decide +kernel
abbrev cX12_init : ByteArray := prog_14_method_1_code
def yX12_init : MethodName := ⟨RX12, "<init>", "()V"⟩
abbrev cX12_in : ByteArray := prog_14_method_3_code
def yX12_in : MethodName := ⟨RX12, "in", "(JJJ)Z"⟩
abbrev cX12_finding : ByteArray := prog_14_method_4_code
def yX12_finding : MethodName := ⟨RX12, "finding", "(I)I"⟩
abbrev cX12_isRow : ByteArray := prog_14_method_5_code
def yX12_isRow : MethodName := ⟨RX12, "isRow", "(I)Z"⟩
abbrev cX12_row : ByteArray := prog_14_method_6_code
def yX12_row : MethodName := ⟨RX12, "row", "(III)I"⟩
abbrev cX12_set : ByteArray := prog_14_method_7_code
def yX12_set : MethodName := ⟨RX12, "set", "(III)I"⟩
abbrev cX12_copy : ByteArray := prog_14_method_8_code
def yX12_copy : MethodName := ⟨RX12, "copy", "(IIIII)I"⟩
abbrev cX12_drop : ByteArray := prog_14_method_9_code
def yX12_drop : MethodName := ⟨RX12, "drop", "(I)I"⟩
abbrev cX12_feed : ByteArray := prog_14_method_10_code
def yX12_feed : MethodName := ⟨RX12, "feed", "(I)I"⟩
abbrev cX12_bad : ByteArray := prog_14_method_11_code
def yX12_bad : MethodName := ⟨RX12, "bad", "(I)V"⟩
abbrev cX12_nextToken : ByteArray := prog_14_method_12_code
def yX12_nextToken : MethodName := ⟨RX12, "nextToken", "()V"⟩
abbrev cX12_must : ByteArray := prog_14_method_13_code
def yX12_must : MethodName := ⟨RX12, "must", "(Z)V"⟩
abbrev cX12_isLetter : ByteArray := prog_14_method_14_code
def yX12_isLetter : MethodName := ⟨RX12, "isLetter", "(I)Z"⟩
abbrev cX12_number : ByteArray := prog_14_method_15_code
def yX12_number : MethodName := ⟨RX12, "number", "(II)I"⟩
abbrev cX12_mustSign : ByteArray := prog_14_method_16_code
def yX12_mustSign : MethodName := ⟨RX12, "mustSign", "(I)V"⟩
abbrev cX12_begin : ByteArray := prog_14_method_17_code
def yX12_begin : MethodName := ⟨RX12, "begin", "()V"⟩
abbrev cX12_failed : ByteArray := prog_14_method_18_code
def yX12_failed : MethodName := ⟨RX12, "failed", "()Z"⟩
abbrev cX12_fault : ByteArray := prog_14_method_19_code
def yX12_fault : MethodName := ⟨RX12, "fault", "()I"⟩
abbrev cX12_kindBy : ByteArray := prog_14_method_20_code
def yX12_kindBy : MethodName := ⟨RX12, "kindBy", "(I)I"⟩
abbrev cX12_readDummy : ByteArray := prog_14_method_21_code
def yX12_readDummy : MethodName := ⟨RX12, "readDummy", "()V"⟩
abbrev cX12_readMouth : ByteArray := prog_14_method_22_code
def yX12_readMouth : MethodName := ⟨RX12, "readMouth", "()V"⟩
abbrev cX12_street : ByteArray := prog_14_method_23_code
def yX12_street : MethodName := ⟨RX12, "street", "()I"⟩
abbrev cX12_isThere : ByteArray := prog_14_method_24_code
def yX12_isThere : MethodName := ⟨RX12, "isThere", "()Z"⟩
abbrev cX12_isDummy : ByteArray := prog_14_method_25_code
def yX12_isDummy : MethodName := ⟨RX12, "isDummy", "(I)Z"⟩
abbrev cX12_isPlace : ByteArray := prog_14_method_26_code
def yX12_isPlace : MethodName := ⟨RX12, "isPlace", "(I)Z"⟩
abbrev cX12_isMouth : ByteArray := prog_14_method_27_code
def yX12_isMouth : MethodName := ⟨RX12, "isMouth", "(I)Z"⟩
abbrev cX12_kindOf : ByteArray := prog_14_method_28_code
def yX12_kindOf : MethodName := ⟨RX12, "kindOf", "(I)I"⟩
abbrev cX12_bribeOf : ByteArray := prog_14_method_29_code
def yX12_bribeOf : MethodName := ⟨RX12, "bribeOf", "(I)I"⟩
abbrev cX12_padsOf : ByteArray := prog_14_method_30_code
def yX12_padsOf : MethodName := ⟨RX12, "padsOf", "(II)I"⟩
abbrev cX12_keep : ByteArray := prog_14_method_31_code
def yX12_keep : MethodName := ⟨RX12, "keep", "()V"⟩
abbrev cX12_lineOf : ByteArray := prog_14_method_32_code
def yX12_lineOf : MethodName := ⟨RX12, "lineOf", "(II)I"⟩
abbrev cX12_logs : ByteArray := prog_14_method_33_code
def yX12_logs : MethodName := ⟨RX12, "logs", "(IIIIII)V"⟩
abbrev cX12_tell : ByteArray := prog_14_method_34_code
def yX12_tell : MethodName := ⟨RX12, "tell", "(IIII)I"⟩
abbrev cX12_lessOf : ByteArray := prog_14_method_35_code
def yX12_lessOf : MethodName := ⟨RX12, "lessOf", "(II)I"⟩
abbrev cX12_year : ByteArray := prog_14_method_36_code
def yX12_year : MethodName := ⟨RX12, "year", "()I"⟩
abbrev cX12_swap : ByteArray := prog_14_method_37_code
def yX12_swap : MethodName := ⟨RX12, "swap", "(II)I"⟩
abbrev cX12_close : ByteArray := prog_14_method_38_code
def yX12_close : MethodName := ⟨RX12, "close", "()I"⟩
abbrev cX12_undo : ByteArray := prog_14_method_39_code
def yX12_undo : MethodName := ⟨RX12, "undo", "()I"⟩
abbrev cX12_pinchOf : ByteArray := prog_14_method_40_code
def yX12_pinchOf : MethodName := ⟨RX12, "pinchOf", "(II)I"⟩
abbrev cX12_dummy : ByteArray := prog_14_method_41_code
def yX12_dummy : MethodName := ⟨RX12, "dummy", "(III)I"⟩
abbrev cX12_line : ByteArray := prog_14_method_42_code
def yX12_line : MethodName := ⟨RX12, "line", "(II)I"⟩
abbrev cX12_pads : ByteArray := prog_14_method_43_code
def yX12_pads : MethodName := ⟨RX12, "pads", "(II)I"⟩
abbrev cX12_was : ByteArray := prog_14_method_44_code
def yX12_was : MethodName := ⟨RX12, "was", "(III)I"⟩
abbrev cX12_bits : ByteArray := prog_14_method_45_code
def yX12_bits : MethodName := ⟨RX12, "bits", "(I)I"⟩
abbrev cX12_isBy : ByteArray := prog_14_method_46_code
def yX12_isBy : MethodName := ⟨RX12, "isBy", "(III)Z"⟩
abbrev cX12_setsOf : ByteArray := prog_14_method_47_code
def yX12_setsOf : MethodName := ⟨RX12, "setsOf", "(III)I"⟩
abbrev cX12_noRow : ByteArray := prog_14_method_48_code
def yX12_noRow : MethodName := ⟨RX12, "noRow", "(III)I"⟩
abbrev cX12_liars : ByteArray := prog_14_method_49_code
def yX12_liars : MethodName := ⟨RX12, "liars", "(IIII)I"⟩
abbrev cX12_common : ByteArray := prog_14_method_50_code
def yX12_common : MethodName := ⟨RX12, "common", "(II)I"⟩
abbrev cX12_blame : ByteArray := prog_14_method_51_code
def yX12_blame : MethodName := ⟨RX12, "blame", "(IIIII)I"⟩
abbrev cX12_toldFor : ByteArray := prog_14_method_52_code
def yX12_toldFor : MethodName := ⟨RX12, "toldFor", "(II)I"⟩
abbrev cX12_whoFor : ByteArray := prog_14_method_53_code
def yX12_whoFor : MethodName := ⟨RX12, "whoFor", "(I)I"⟩
abbrev cX12_right : ByteArray := prog_14_method_54_code
def yX12_right : MethodName := ⟨RX12, "right", "(II)I"⟩
abbrev cX12_most : ByteArray := prog_14_method_55_code
def yX12_most : MethodName := ⟨RX12, "most", "(III)I"⟩
abbrev cX12_swaps : ByteArray := prog_14_method_56_code
def yX12_swaps : MethodName := ⟨RX12, "swaps", "(III)I"⟩
abbrev cX12_lent : ByteArray := prog_14_method_57_code
def yX12_lent : MethodName := ⟨RX12, "lent", "(II)I"⟩
abbrev cX12_parted : ByteArray := prog_14_method_58_code
def yX12_parted : MethodName := ⟨RX12, "parted", "(IIII)I"⟩
abbrev cX12_addedUp : ByteArray := prog_14_method_59_code
def yX12_addedUp : MethodName := ⟨RX12, "addedUp", "(III)I"⟩
abbrev cX12_isCut : ByteArray := prog_14_method_60_code
def yX12_isCut : MethodName := ⟨RX12, "isCut", "(III)Z"⟩
abbrev cX12_felt : ByteArray := prog_14_method_61_code
def yX12_felt : MethodName := ⟨RX12, "felt", "(III)I"⟩
abbrev cX12_unlike : ByteArray := prog_14_method_62_code
def yX12_unlike : MethodName := ⟨RX12, "unlike", "(II)I"⟩
abbrev cX12_layTwins : ByteArray := prog_14_method_63_code
def yX12_layTwins : MethodName := ⟨RX12, "layTwins", "()I"⟩
abbrev cX12_twins : ByteArray := prog_14_method_64_code
def yX12_twins : MethodName := ⟨RX12, "twins", "(I)I"⟩
abbrev cX12_image : ByteArray := prog_14_method_65_code
def yX12_image : MethodName := ⟨RX12, "image", "(I)I"⟩
abbrev cX12_restore : ByteArray := prog_14_method_66_code
def yX12_restore : MethodName := ⟨RX12, "restore", "(I)I"⟩
abbrev cX12_isOf : ByteArray := prog_14_method_67_code
def yX12_isOf : MethodName := ⟨RX12, "isOf", "(II)Z"⟩
abbrev cX12_kind : ByteArray := prog_14_method_68_code
def yX12_kind : MethodName := ⟨RX12, "kind", "(I)I"⟩
abbrev cX12_as : ByteArray := prog_14_method_69_code
def yX12_as : MethodName := ⟨RX12, "as", "(II)I"⟩
abbrev cX12_began : ByteArray := prog_14_method_70_code
def yX12_began : MethodName := ⟨RX12, "began", "(I)V"⟩
abbrev cX12_plainSize : ByteArray := prog_14_method_71_code
def yX12_plainSize : MethodName := ⟨RX12, "plainSize", "(I)I"⟩
abbrev cX12_gossipSize : ByteArray := prog_14_method_72_code
def yX12_gossipSize : MethodName := ⟨RX12, "gossipSize", "(I)I"⟩
abbrev cX12_markOf : ByteArray := prog_14_method_73_code
def yX12_markOf : MethodName := ⟨RX12, "markOf", "(I)I"⟩
abbrev cX12_sizeOf : ByteArray := prog_14_method_74_code
def yX12_sizeOf : MethodName := ⟨RX12, "sizeOf", "(I)I"⟩
abbrev cX12_ask : ByteArray := prog_14_method_75_code
def yX12_ask : MethodName := ⟨RX12, "ask", "(II)I"⟩
abbrev cX12_trace : ByteArray := prog_14_method_76_code
def yX12_trace : MethodName := ⟨RX12, "trace", "(I)I"⟩
abbrev cX12_count : ByteArray := prog_14_method_77_code
def yX12_count : MethodName := ⟨RX12, "count", "(I)I"⟩
abbrev cX12_status : ByteArray := prog_14_method_78_code
def yX12_status : MethodName := ⟨RX12, "status", "()I"⟩
def RJ6 : String := "java/lang/Integer"
def TJ6 : u_T := fun k => match k with
  | _ => ("", "", "", false)
def tyJ6 : Nat → FieldType := fun k => match k with
  | _ => .int
theorem nmJ6 : ∀ a, a < 0 → ∀ b, b < 0 → a ≠ b → (TJ6 a).2.1 ≠ (TJ6 b).2.1 := by decide +kernel
theorem tyJ6_ok : ∀ k, k < 0 → parseFieldDescriptor (TJ6 k).2.2.1 = some (tyJ6 k) := by decide +kernel
abbrev cJ6_bitCount_0f7a4 : ByteArray := prog_15_method_49_code
def yJ6_bitCount_0f7a4 : MethodName := ⟨RJ6, "bitCount", "(I)I"⟩
def RJ9 : String := "java/lang/Math"
def TJ9 : u_T := fun k => match k with
  | _ => ("", "", "", false)
def tyJ9 : Nat → FieldType := fun k => match k with
  | _ => .int
theorem nmJ9 : ∀ a, a < 0 → ∀ b, b < 0 → a ≠ b → (TJ9 a).2.1 ≠ (TJ9 b).2.1 := by decide +kernel
theorem tyJ9_ok : ∀ k, k < 0 → parseFieldDescriptor (TJ9 k).2.2.1 = some (tyJ9 k) := by decide +kernel
abbrev cJ9_abs_0f7a4 : ByteArray := prog_16_method_59_code
def yJ9_abs_0f7a4 : MethodName := ⟨RJ9, "abs", "(I)I"⟩
abbrev cJ9_max_7cf53 : ByteArray := prog_16_method_65_code
def yJ9_max_7cf53 : MethodName := ⟨RJ9, "max", "(II)I"⟩
abbrev cJ9_min_7cf53 : ByteArray := prog_16_method_69_code
def yJ9_min_7cf53 : MethodName := ⟨RJ9, "min", "(II)I"⟩
def RJ10 : String := "java/lang/System"
def TJ10 : u_T := fun k => match k with
  | _ => ("", "", "", false)
def tyJ10 : Nat → FieldType := fun k => match k with
  | _ => .int
theorem nmJ10 : ∀ a, a < 0 → ∀ b, b < 0 → a ≠ b → (TJ10 a).2.1 ≠ (TJ10 b).2.1 := by decide +kernel
theorem tyJ10_ok : ∀ k, k < 0 → parseFieldDescriptor (TJ10 k).2.2.1 = some (tyJ10 k) := by decide +kernel
def RJ7 : String := "java/util/Arrays"
def TJ7 : u_T := fun k => match k with
  | _ => ("", "", "", false)
def tyJ7 : Nat → FieldType := fun k => match k with
  | _ => .int
theorem nmJ7 : ∀ a, a < 0 → ∀ b, b < 0 → a ≠ b → (TJ7 a).2.1 ≠ (TJ7 b).2.1 := by decide +kernel
theorem tyJ7_ok : ∀ k, k < 0 → parseFieldDescriptor (TJ7 k).2.2.1 = some (tyJ7 k) := by decide +kernel
abbrev cJ7_fill_53178 : ByteArray := prog_18_method_103_code
def yJ7_fill_53178 : MethodName := ⟨RJ7, "fill", "([II)V"⟩
def RL : String := "DummyInchesLaw"
abbrev cL_law : ByteArray := code
def yL_law : MethodName := ⟨RL, "law", "([I)Z"⟩
abbrev vwCl : List vw_C := [(RX0, TX0, 3), (RX1, TX1, 2), (RX2, TX2, 2), (RX3, TX3, 2), (RX5, TX5, 2), (RX6, TX6, 4), (RX7, TX7, 2), (RX8, TX8, 10), (RX9, TX9, 6), (RX10, TX10, 2), (RX11, TX11, 12), (RX12, TX12, 26)]
end
section
theorem dX0_init_0 : decode cX0_init 0 = .ok (.aload_n 0, 1) := by decide +kernel
theorem dX0_init_1 : decode cX0_init 1 = .ok (.invokespecial 3, 3) := by decide +kernel
theorem dX0_init_4 : decode cX0_init 4 = .ok (.aload_n 0, 1) := by decide +kernel
theorem dX0_init_5 : decode cX0_init 5 = .ok (.bipush 16, 2) := by decide +kernel
theorem dX0_init_7 : decode cX0_init 7 = .ok (.newarray .int, 2) := by decide +kernel
theorem dX0_init_9 : decode cX0_init 9 = .ok (.putfield 11, 3) := by decide +kernel
theorem dX0_init_12 : decode cX0_init 12 = .ok (.return_, 1) := by decide +kernel
theorem dX0_startFor_0 : decode cX0_startFor 0 = .ok (.aload_n 0, 1) := by decide +kernel
theorem dX0_startFor_1 : decode cX0_startFor 1 = .ok (.iconst 0, 1) := by decide +kernel
theorem dX0_startFor_2 : decode cX0_startFor 2 = .ok (.putfield 15, 3) := by decide +kernel
theorem dX0_startFor_5 : decode cX0_startFor 5 = .ok (.aload_n 0, 1) := by decide +kernel
theorem dX0_startFor_6 : decode cX0_startFor 6 = .ok (.iload_n 1, 1) := by decide +kernel
theorem dX0_startFor_7 : decode cX0_startFor 7 = .ok (.putfield 19, 3) := by decide +kernel
theorem dX0_startFor_10 : decode cX0_startFor 10 = .ok (.return_, 1) := by decide +kernel
theorem dX0_begin_0 : decode cX0_begin 0 = .ok (.aload_n 0, 1) := by decide +kernel
theorem dX0_begin_1 : decode cX0_begin 1 = .ok (.getfield 15, 3) := by decide +kernel
theorem dX0_begin_4 : decode cX0_begin 4 = .ok (.bipush 16, 2) := by decide +kernel
theorem dX0_begin_6 : decode cX0_begin 6 = .ok (.if_icmp .ge 23, 3) := by decide +kernel
theorem dX0_begin_9 : decode cX0_begin 9 = .ok (.aload_n 0, 1) := by decide +kernel
theorem dX0_begin_10 : decode cX0_begin 10 = .ok (.getfield 11, 3) := by decide +kernel
theorem dX0_begin_13 : decode cX0_begin 13 = .ok (.aload_n 0, 1) := by decide +kernel
theorem dX0_begin_14 : decode cX0_begin 14 = .ok (.getfield 15, 3) := by decide +kernel
theorem dX0_begin_17 : decode cX0_begin 17 = .ok (.iload_n 1, 1) := by decide +kernel
theorem dX0_begin_18 : decode cX0_begin 18 = .ok (.iastore, 1) := by decide +kernel
theorem dX0_begin_19 : decode cX0_begin 19 = .ok (.aload_n 0, 1) := by decide +kernel
theorem dX0_begin_20 : decode cX0_begin 20 = .ok (.dup, 1) := by decide +kernel
theorem dX0_begin_21 : decode cX0_begin 21 = .ok (.getfield 15, 3) := by decide +kernel
theorem dX0_begin_24 : decode cX0_begin 24 = .ok (.iconst 1, 1) := by decide +kernel
theorem dX0_begin_25 : decode cX0_begin 25 = .ok (.iadd, 1) := by decide +kernel
theorem dX0_begin_26 : decode cX0_begin 26 = .ok (.putfield 15, 3) := by decide +kernel
theorem dX0_begin_29 : decode cX0_begin 29 = .ok (.return_, 1) := by decide +kernel
theorem dX0_bodyAt_0 : decode cX0_bodyAt 0 = .ok (.iload_n 1, 1) := by decide +kernel
theorem dX0_bodyAt_1 : decode cX0_bodyAt 1 = .ok (.ifCond .lt 20, 3) := by decide +kernel
theorem dX0_bodyAt_4 : decode cX0_bodyAt 4 = .ok (.iload_n 1, 1) := by decide +kernel
theorem dX0_bodyAt_5 : decode cX0_bodyAt 5 = .ok (.aload_n 0, 1) := by decide +kernel
theorem dX0_bodyAt_6 : decode cX0_bodyAt 6 = .ok (.getfield 15, 3) := by decide +kernel
theorem dX0_bodyAt_9 : decode cX0_bodyAt 9 = .ok (.if_icmp .ge 12, 3) := by decide +kernel
theorem dX0_bodyAt_12 : decode cX0_bodyAt 12 = .ok (.aload_n 0, 1) := by decide +kernel
theorem dX0_bodyAt_13 : decode cX0_bodyAt 13 = .ok (.getfield 11, 3) := by decide +kernel
theorem dX0_bodyAt_16 : decode cX0_bodyAt 16 = .ok (.iload_n 1, 1) := by decide +kernel
theorem dX0_bodyAt_17 : decode cX0_bodyAt 17 = .ok (.iaload, 1) := by decide +kernel
theorem dX0_bodyAt_18 : decode cX0_bodyAt 18 = .ok (.goto 5, 3) := by decide +kernel
theorem dX0_bodyAt_21 : decode cX0_bodyAt 21 = .ok (.ldc 22, 2) := by decide +kernel
theorem dX0_bodyAt_23 : decode cX0_bodyAt 23 = .ok (.ireturn, 1) := by decide +kernel
theorem dX1_init_0 : decode cX1_init 0 = .ok (.aload_n 0, 1) := by decide +kernel
theorem dX1_init_1 : decode cX1_init 1 = .ok (.iload_n 1, 1) := by decide +kernel
theorem dX1_init_2 : decode cX1_init 2 = .ok (.iload_n 2, 1) := by decide +kernel
theorem dX1_init_3 : decode cX1_init 3 = .ok (.invokespecial 3, 3) := by decide +kernel
theorem dX1_init_6 : decode cX1_init 6 = .ok (.return_, 1) := by decide +kernel
theorem dX1_sort_0 : decode cX1_sort 0 = .ok (.iconst 2, 1) := by decide +kernel
theorem dX1_sort_1 : decode cX1_sort 1 = .ok (.ireturn, 1) := by decide +kernel
theorem dX1_padding_0 : decode cX1_padding 0 = .ok (.iload_n 1, 1) := by decide +kernel
theorem dX1_padding_1 : decode cX1_padding 1 = .ok (.ifCond .le 9, 3) := by decide +kernel
theorem dX1_padding_4 : decode cX1_padding 4 = .ok (.iconst 2, 1) := by decide +kernel
theorem dX1_padding_5 : decode cX1_padding 5 = .ok (.iload_n 1, 1) := by decide +kernel
theorem dX1_padding_6 : decode cX1_padding 6 = .ok (.imul, 1) := by decide +kernel
theorem dX1_padding_7 : decode cX1_padding 7 = .ok (.goto 4, 3) := by decide +kernel
theorem dX1_padding_10 : decode cX1_padding 10 = .ok (.iload_n 1, 1) := by decide +kernel
theorem dX1_padding_11 : decode cX1_padding 11 = .ok (.ireturn, 1) := by decide +kernel
theorem dX1_size_0 : decode cX1_size 0 = .ok (.aload_n 1, 1) := by decide +kernel
theorem dX1_size_1 : decode cX1_size 1 = .ok (.bipush 12, 2) := by decide +kernel
theorem dX1_size_3 : decode cX1_size 3 = .ok (.invokevirtual 9, 3) := by decide +kernel
theorem dX1_size_6 : decode cX1_size 6 = .ok (.aload_n 0, 1) := by decide +kernel
theorem dX1_size_7 : decode cX1_size 7 = .ok (.aload_n 1, 1) := by decide +kernel
theorem dX1_size_8 : decode cX1_size 8 = .ok (.invokespecial 15, 3) := by decide +kernel
theorem dX1_size_11 : decode cX1_size 11 = .ok (.ineg, 1) := by decide +kernel
theorem dX1_size_12 : decode cX1_size 12 = .ok (.ireturn, 1) := by decide +kernel
theorem dX1_mark_0 : decode cX1_mark 0 = .ok (.aload_n 1, 1) := by decide +kernel
theorem dX1_mark_1 : decode cX1_mark 1 = .ok (.bipush 24, 2) := by decide +kernel
theorem dX1_mark_3 : decode cX1_mark 3 = .ok (.invokevirtual 9, 3) := by decide +kernel
theorem dX1_mark_6 : decode cX1_mark 6 = .ok (.iconst 2, 1) := by decide +kernel
theorem dX1_mark_7 : decode cX1_mark 7 = .ok (.aload_n 0, 1) := by decide +kernel
theorem dX1_mark_8 : decode cX1_mark 8 = .ok (.aload_n 1, 1) := by decide +kernel
theorem dX1_mark_9 : decode cX1_mark 9 = .ok (.invokespecial 19, 3) := by decide +kernel
theorem dX1_mark_12 : decode cX1_mark 12 = .ok (.imul, 1) := by decide +kernel
theorem dX1_mark_13 : decode cX1_mark 13 = .ok (.ireturn, 1) := by decide +kernel
theorem dX2_init_0 : decode cX2_init 0 = .ok (.aload_n 0, 1) := by decide +kernel
theorem dX2_init_1 : decode cX2_init 1 = .ok (.invokespecial 3, 3) := by decide +kernel
theorem dX2_init_4 : decode cX2_init 4 = .ok (.aload_n 0, 1) := by decide +kernel
theorem dX2_init_5 : decode cX2_init 5 = .ok (.bipush 15, 2) := by decide +kernel
theorem dX2_init_7 : decode cX2_init 7 = .ok (.newarray .int, 2) := by decide +kernel
theorem dX2_init_9 : decode cX2_init 9 = .ok (.putfield 9, 3) := by decide +kernel
theorem dX2_init_12 : decode cX2_init 12 = .ok (.aload_n 0, 1) := by decide +kernel
theorem dX2_init_13 : decode cX2_init 13 = .ok (.bipush 16, 2) := by decide +kernel
theorem dX2_init_15 : decode cX2_init 15 = .ok (.newarray .int, 2) := by decide +kernel
theorem dX2_init_17 : decode cX2_init 17 = .ok (.putfield 15, 3) := by decide +kernel
theorem dX2_init_20 : decode cX2_init 20 = .ok (.return_, 1) := by decide +kernel
theorem dX2_fittingSets_0 : decode cX2_fittingSets 0 = .ok (.aload_n 0, 1) := by decide +kernel
theorem dX2_fittingSets_1 : decode cX2_fittingSets 1 = .ok (.aload_n 1, 1) := by decide +kernel
theorem dX2_fittingSets_2 : decode cX2_fittingSets 2 = .ok (.iload_n 2, 1) := by decide +kernel
theorem dX2_fittingSets_3 : decode cX2_fittingSets 3 = .ok (.invokevirtual 18, 3) := by decide +kernel
theorem dX2_fittingSets_6 : decode cX2_fittingSets 6 = .ok (.iconst 0, 1) := by decide +kernel
theorem dX2_fittingSets_7 : decode cX2_fittingSets 7 = .ok (.istore 6, 2) := by decide +kernel
theorem dX2_fittingSets_9 : decode cX2_fittingSets 9 = .ok (.iconst 0, 1) := by decide +kernel
theorem dX2_fittingSets_10 : decode cX2_fittingSets 10 = .ok (.istore 7, 2) := by decide +kernel
theorem dX2_fittingSets_12 : decode cX2_fittingSets 12 = .ok (.iload 7, 2) := by decide +kernel
theorem dX2_fittingSets_14 : decode cX2_fittingSets 14 = .ok (.iconst 1, 1) := by decide +kernel
theorem dX2_fittingSets_15 : decode cX2_fittingSets 15 = .ok (.aload_n 1, 1) := by decide +kernel
theorem dX2_fittingSets_16 : decode cX2_fittingSets 16 = .ok (.getfield 22, 3) := by decide +kernel
theorem dX2_fittingSets_19 : decode cX2_fittingSets 19 = .ok (.ishl, 1) := by decide +kernel
theorem dX2_fittingSets_20 : decode cX2_fittingSets 20 = .ok (.if_icmp .ge 79, 3) := by decide +kernel
theorem dX2_fittingSets_23 : decode cX2_fittingSets 23 = .ok (.iconst 1, 1) := by decide +kernel
theorem dX2_fittingSets_24 : decode cX2_fittingSets 24 = .ok (.istore 8, 2) := by decide +kernel
theorem dX2_fittingSets_26 : decode cX2_fittingSets 26 = .ok (.iconst 0, 1) := by decide +kernel
theorem dX2_fittingSets_27 : decode cX2_fittingSets 27 = .ok (.istore 9, 2) := by decide +kernel
theorem dX2_fittingSets_29 : decode cX2_fittingSets 29 = .ok (.iload 9, 2) := by decide +kernel
theorem dX2_fittingSets_31 : decode cX2_fittingSets 31 = .ok (.iconst 3, 1) := by decide +kernel
theorem dX2_fittingSets_32 : decode cX2_fittingSets 32 = .ok (.if_icmp .ge 43, 3) := by decide +kernel
theorem dX2_fittingSets_35 : decode cX2_fittingSets 35 = .ok (.iload 8, 2) := by decide +kernel
theorem dX2_fittingSets_37 : decode cX2_fittingSets 37 = .ok (.ifCond .eq 29, 3) := by decide +kernel
theorem dX2_fittingSets_40 : decode cX2_fittingSets 40 = .ok (.aload_n 0, 1) := by decide +kernel
theorem dX2_fittingSets_41 : decode cX2_fittingSets 41 = .ok (.iload 7, 2) := by decide +kernel
theorem dX2_fittingSets_43 : decode cX2_fittingSets 43 = .ok (.iload 9, 2) := by decide +kernel
theorem dX2_fittingSets_45 : decode cX2_fittingSets 45 = .ok (.invokevirtual 28, 3) := by decide +kernel
theorem dX2_fittingSets_48 : decode cX2_fittingSets 48 = .ok (.aload_n 3, 1) := by decide +kernel
theorem dX2_fittingSets_49 : decode cX2_fittingSets 49 = .ok (.iload 4, 2) := by decide +kernel
theorem dX2_fittingSets_51 : decode cX2_fittingSets 51 = .ok (.iload 5, 2) := by decide +kernel
theorem dX2_fittingSets_53 : decode cX2_fittingSets 53 = .ok (.iload 9, 2) := by decide +kernel
theorem dX2_fittingSets_55 : decode cX2_fittingSets 55 = .ok (.iadd, 1) := by decide +kernel
theorem dX2_fittingSets_56 : decode cX2_fittingSets 56 = .ok (.invokevirtual 32, 3) := by decide +kernel
theorem dX2_fittingSets_59 : decode cX2_fittingSets 59 = .ok (.if_icmp .ne 7, 3) := by decide +kernel
theorem dX2_fittingSets_62 : decode cX2_fittingSets 62 = .ok (.iconst 1, 1) := by decide +kernel
theorem dX2_fittingSets_63 : decode cX2_fittingSets 63 = .ok (.goto 4, 3) := by decide +kernel
theorem dX2_fittingSets_66 : decode cX2_fittingSets 66 = .ok (.iconst 0, 1) := by decide +kernel
theorem dX2_fittingSets_67 : decode cX2_fittingSets 67 = .ok (.istore 8, 2) := by decide +kernel
theorem dX2_fittingSets_69 : decode cX2_fittingSets 69 = .ok (.iinc 9 1, 3) := by decide +kernel
theorem dX2_fittingSets_72 : decode cX2_fittingSets 72 = .ok (.goto (-43), 3) := by decide +kernel
theorem dX2_fittingSets_75 : decode cX2_fittingSets 75 = .ok (.iload 6, 2) := by decide +kernel
theorem dX2_fittingSets_77 : decode cX2_fittingSets 77 = .ok (.iload 8, 2) := by decide +kernel
theorem dX2_fittingSets_79 : decode cX2_fittingSets 79 = .ok (.ifCond .eq 10, 3) := by decide +kernel
theorem dX2_fittingSets_82 : decode cX2_fittingSets 82 = .ok (.iconst 1, 1) := by decide +kernel
theorem dX2_fittingSets_83 : decode cX2_fittingSets 83 = .ok (.iload 7, 2) := by decide +kernel
theorem dX2_fittingSets_85 : decode cX2_fittingSets 85 = .ok (.ishl, 1) := by decide +kernel
theorem dX2_fittingSets_86 : decode cX2_fittingSets 86 = .ok (.goto 4, 3) := by decide +kernel
theorem dX2_fittingSets_89 : decode cX2_fittingSets 89 = .ok (.iconst 0, 1) := by decide +kernel
theorem dX2_fittingSets_90 : decode cX2_fittingSets 90 = .ok (.ior, 1) := by decide +kernel
theorem dX2_fittingSets_91 : decode cX2_fittingSets 91 = .ok (.istore 6, 2) := by decide +kernel
theorem dX2_fittingSets_93 : decode cX2_fittingSets 93 = .ok (.iinc 7 1, 3) := by decide +kernel
theorem dX2_fittingSets_96 : decode cX2_fittingSets 96 = .ok (.goto (-84), 3) := by decide +kernel
theorem dX2_fittingSets_99 : decode cX2_fittingSets 99 = .ok (.iload 6, 2) := by decide +kernel
theorem dX2_fittingSets_101 : decode cX2_fittingSets 101 = .ok (.ireturn, 1) := by decide +kernel
theorem dX2_addSlips_0 : decode cX2_addSlips 0 = .ok (.aload_n 0, 1) := by decide +kernel
theorem dX2_addSlips_1 : decode cX2_addSlips 1 = .ok (.getfield 9, 3) := by decide +kernel
theorem dX2_addSlips_4 : decode cX2_addSlips 4 = .ok (.iconst 0, 1) := by decide +kernel
theorem dX2_addSlips_5 : decode cX2_addSlips 5 = .ok (.invokestatic 37, 3) := by decide +kernel
theorem dX2_addSlips_8 : decode cX2_addSlips 8 = .ok (.iconst 0, 1) := by decide +kernel
theorem dX2_addSlips_9 : decode cX2_addSlips 9 = .ok (.istore_n 3, 1) := by decide +kernel
theorem dX2_addSlips_10 : decode cX2_addSlips 10 = .ok (.iload_n 3, 1) := by decide +kernel
theorem dX2_addSlips_11 : decode cX2_addSlips 11 = .ok (.aload_n 1, 1) := by decide +kernel
theorem dX2_addSlips_12 : decode cX2_addSlips 12 = .ok (.getfield 43, 3) := by decide +kernel
theorem dX2_addSlips_15 : decode cX2_addSlips 15 = .ok (.if_icmp .ge 58, 3) := by decide +kernel
theorem dX2_addSlips_18 : decode cX2_addSlips 18 = .ok (.aload_n 1, 1) := by decide +kernel
theorem dX2_addSlips_19 : decode cX2_addSlips 19 = .ok (.iload_n 3, 1) := by decide +kernel
theorem dX2_addSlips_20 : decode cX2_addSlips 20 = .ok (.iload_n 2, 1) := by decide +kernel
theorem dX2_addSlips_21 : decode cX2_addSlips 21 = .ok (.invokevirtual 46, 3) := by decide +kernel
theorem dX2_addSlips_24 : decode cX2_addSlips 24 = .ok (.ifCond .eq 43, 3) := by decide +kernel
theorem dX2_addSlips_27 : decode cX2_addSlips 27 = .ok (.aload_n 1, 1) := by decide +kernel
theorem dX2_addSlips_28 : decode cX2_addSlips 28 = .ok (.iload_n 3, 1) := by decide +kernel
theorem dX2_addSlips_29 : decode cX2_addSlips 29 = .ok (.iconst 1, 1) := by decide +kernel
theorem dX2_addSlips_30 : decode cX2_addSlips 30 = .ok (.invokevirtual 50, 3) := by decide +kernel
theorem dX2_addSlips_33 : decode cX2_addSlips 33 = .ok (.aload_n 1, 1) := by decide +kernel
theorem dX2_addSlips_34 : decode cX2_addSlips 34 = .ok (.iload_n 3, 1) := by decide +kernel
theorem dX2_addSlips_35 : decode cX2_addSlips 35 = .ok (.iconst 3, 1) := by decide +kernel
theorem dX2_addSlips_36 : decode cX2_addSlips 36 = .ok (.invokevirtual 50, 3) := by decide +kernel
theorem dX2_addSlips_39 : decode cX2_addSlips 39 = .ok (.invokestatic 53, 3) := by decide +kernel
theorem dX2_addSlips_42 : decode cX2_addSlips 42 = .ok (.istore 4, 2) := by decide +kernel
theorem dX2_addSlips_44 : decode cX2_addSlips 44 = .ok (.aload_n 0, 1) := by decide +kernel
theorem dX2_addSlips_45 : decode cX2_addSlips 45 = .ok (.getfield 9, 3) := by decide +kernel
theorem dX2_addSlips_48 : decode cX2_addSlips 48 = .ok (.iload 4, 2) := by decide +kernel
theorem dX2_addSlips_50 : decode cX2_addSlips 50 = .ok (.dup2, 1) := by decide +kernel
theorem dX2_addSlips_51 : decode cX2_addSlips 51 = .ok (.iaload, 1) := by decide +kernel
theorem dX2_addSlips_52 : decode cX2_addSlips 52 = .ok (.aload_n 1, 1) := by decide +kernel
theorem dX2_addSlips_53 : decode cX2_addSlips 53 = .ok (.iload_n 3, 1) := by decide +kernel
theorem dX2_addSlips_54 : decode cX2_addSlips 54 = .ok (.iconst 4, 1) := by decide +kernel
theorem dX2_addSlips_55 : decode cX2_addSlips 55 = .ok (.invokevirtual 50, 3) := by decide +kernel
theorem dX2_addSlips_58 : decode cX2_addSlips 58 = .ok (.aload_n 1, 1) := by decide +kernel
theorem dX2_addSlips_59 : decode cX2_addSlips 59 = .ok (.iload_n 3, 1) := by decide +kernel
theorem dX2_addSlips_60 : decode cX2_addSlips 60 = .ok (.iconst 5, 1) := by decide +kernel
theorem dX2_addSlips_61 : decode cX2_addSlips 61 = .ok (.invokevirtual 50, 3) := by decide +kernel
theorem dX2_addSlips_64 : decode cX2_addSlips 64 = .ok (.isub, 1) := by decide +kernel
theorem dX2_addSlips_65 : decode cX2_addSlips 65 = .ok (.iadd, 1) := by decide +kernel
theorem dX2_addSlips_66 : decode cX2_addSlips 66 = .ok (.iastore, 1) := by decide +kernel
theorem dX2_addSlips_67 : decode cX2_addSlips 67 = .ok (.iinc 3 1, 3) := by decide +kernel
theorem dX2_addSlips_70 : decode cX2_addSlips 70 = .ok (.goto (-60), 3) := by decide +kernel
theorem dX2_addSlips_73 : decode cX2_addSlips 73 = .ok (.return_, 1) := by decide +kernel
theorem dX2_slipOf_0 : decode cX2_slipOf 0 = .ok (.iconst 0, 1) := by decide +kernel
theorem dX2_slipOf_1 : decode cX2_slipOf 1 = .ok (.istore_n 3, 1) := by decide +kernel
theorem dX2_slipOf_2 : decode cX2_slipOf 2 = .ok (.iconst 0, 1) := by decide +kernel
theorem dX2_slipOf_3 : decode cX2_slipOf 3 = .ok (.istore 4, 2) := by decide +kernel
theorem dX2_slipOf_5 : decode cX2_slipOf 5 = .ok (.iload 4, 2) := by decide +kernel
theorem dX2_slipOf_7 : decode cX2_slipOf 7 = .ok (.iconst 5, 1) := by decide +kernel
theorem dX2_slipOf_8 : decode cX2_slipOf 8 = .ok (.if_icmp .ge 36, 3) := by decide +kernel
theorem dX2_slipOf_11 : decode cX2_slipOf 11 = .ok (.iload_n 3, 1) := by decide +kernel
theorem dX2_slipOf_12 : decode cX2_slipOf 12 = .ok (.iload_n 1, 1) := by decide +kernel
theorem dX2_slipOf_13 : decode cX2_slipOf 13 = .ok (.iload 4, 2) := by decide +kernel
theorem dX2_slipOf_15 : decode cX2_slipOf 15 = .ok (.invokestatic 56, 3) := by decide +kernel
theorem dX2_slipOf_18 : decode cX2_slipOf 18 = .ok (.ifCond .eq 17, 3) := by decide +kernel
theorem dX2_slipOf_21 : decode cX2_slipOf 21 = .ok (.aload_n 0, 1) := by decide +kernel
theorem dX2_slipOf_22 : decode cX2_slipOf 22 = .ok (.getfield 9, 3) := by decide +kernel
theorem dX2_slipOf_25 : decode cX2_slipOf 25 = .ok (.iload 4, 2) := by decide +kernel
theorem dX2_slipOf_27 : decode cX2_slipOf 27 = .ok (.iload_n 2, 1) := by decide +kernel
theorem dX2_slipOf_28 : decode cX2_slipOf 28 = .ok (.invokestatic 53, 3) := by decide +kernel
theorem dX2_slipOf_31 : decode cX2_slipOf 31 = .ok (.iaload, 1) := by decide +kernel
theorem dX2_slipOf_32 : decode cX2_slipOf 32 = .ok (.goto 4, 3) := by decide +kernel
theorem dX2_slipOf_35 : decode cX2_slipOf 35 = .ok (.iconst 0, 1) := by decide +kernel
theorem dX2_slipOf_36 : decode cX2_slipOf 36 = .ok (.iadd, 1) := by decide +kernel
theorem dX2_slipOf_37 : decode cX2_slipOf 37 = .ok (.istore_n 3, 1) := by decide +kernel
theorem dX2_slipOf_38 : decode cX2_slipOf 38 = .ok (.iinc 4 1, 3) := by decide +kernel
theorem dX2_slipOf_41 : decode cX2_slipOf 41 = .ok (.goto (-36), 3) := by decide +kernel
theorem dX2_slipOf_44 : decode cX2_slipOf 44 = .ok (.iload_n 3, 1) := by decide +kernel
theorem dX2_slipOf_45 : decode cX2_slipOf 45 = .ok (.ireturn, 1) := by decide +kernel
theorem dX2_has_0 : decode cX2_has 0 = .ok (.iload_n 0, 1) := by decide +kernel
theorem dX2_has_1 : decode cX2_has 1 = .ok (.iload_n 1, 1) := by decide +kernel
theorem dX2_has_2 : decode cX2_has 2 = .ok (.iushr, 1) := by decide +kernel
theorem dX2_has_3 : decode cX2_has 3 = .ok (.iconst 1, 1) := by decide +kernel
theorem dX2_has_4 : decode cX2_has 4 = .ok (.iand, 1) := by decide +kernel
theorem dX2_has_5 : decode cX2_has 5 = .ok (.iconst 1, 1) := by decide +kernel
theorem dX2_has_6 : decode cX2_has 6 = .ok (.if_icmp .ne 7, 3) := by decide +kernel
theorem dX2_has_9 : decode cX2_has 9 = .ok (.iconst 1, 1) := by decide +kernel
theorem dX2_has_10 : decode cX2_has 10 = .ok (.goto 4, 3) := by decide +kernel
theorem dX2_has_13 : decode cX2_has 13 = .ok (.iconst 0, 1) := by decide +kernel
theorem dX2_has_14 : decode cX2_has 14 = .ok (.ireturn, 1) := by decide +kernel
theorem dX2_fewestOf_0 : decode cX2_fewestOf 0 = .ok (.ldc 59, 2) := by decide +kernel
theorem dX2_fewestOf_2 : decode cX2_fewestOf 2 = .ok (.istore_n 2, 1) := by decide +kernel
theorem dX2_fewestOf_3 : decode cX2_fewestOf 3 = .ok (.iconst 0, 1) := by decide +kernel
theorem dX2_fewestOf_4 : decode cX2_fewestOf 4 = .ok (.istore_n 3, 1) := by decide +kernel
theorem dX2_fewestOf_5 : decode cX2_fewestOf 5 = .ok (.iload_n 3, 1) := by decide +kernel
theorem dX2_fewestOf_6 : decode cX2_fewestOf 6 = .ok (.bipush 32, 2) := by decide +kernel
theorem dX2_fewestOf_8 : decode cX2_fewestOf 8 = .ok (.if_icmp .ge 27, 3) := by decide +kernel
theorem dX2_fewestOf_11 : decode cX2_fewestOf 11 = .ok (.iload_n 1, 1) := by decide +kernel
theorem dX2_fewestOf_12 : decode cX2_fewestOf 12 = .ok (.iload_n 3, 1) := by decide +kernel
theorem dX2_fewestOf_13 : decode cX2_fewestOf 13 = .ok (.invokestatic 56, 3) := by decide +kernel
theorem dX2_fewestOf_16 : decode cX2_fewestOf 16 = .ok (.ifCond .eq 13, 3) := by decide +kernel
theorem dX2_fewestOf_19 : decode cX2_fewestOf 19 = .ok (.iload_n 3, 1) := by decide +kernel
theorem dX2_fewestOf_20 : decode cX2_fewestOf 20 = .ok (.iload_n 2, 1) := by decide +kernel
theorem dX2_fewestOf_21 : decode cX2_fewestOf 21 = .ok (.invokestatic 60, 3) := by decide +kernel
theorem dX2_fewestOf_24 : decode cX2_fewestOf 24 = .ok (.ifCond .eq 5, 3) := by decide +kernel
theorem dX2_fewestOf_27 : decode cX2_fewestOf 27 = .ok (.iload_n 3, 1) := by decide +kernel
theorem dX2_fewestOf_28 : decode cX2_fewestOf 28 = .ok (.istore_n 2, 1) := by decide +kernel
theorem dX2_fewestOf_29 : decode cX2_fewestOf 29 = .ok (.iinc 3 1, 3) := by decide +kernel
theorem dX2_fewestOf_32 : decode cX2_fewestOf 32 = .ok (.goto (-27), 3) := by decide +kernel
theorem dX2_fewestOf_35 : decode cX2_fewestOf 35 = .ok (.iload_n 2, 1) := by decide +kernel
theorem dX2_fewestOf_36 : decode cX2_fewestOf 36 = .ok (.ireturn, 1) := by decide +kernel
theorem dX2_isFewer_0 : decode cX2_isFewer 0 = .ok (.iload_n 1, 1) := by decide +kernel
theorem dX2_isFewer_1 : decode cX2_isFewer 1 = .ok (.ldc 59, 2) := by decide +kernel
theorem dX2_isFewer_3 : decode cX2_isFewer 3 = .ok (.if_icmp .eq 14, 3) := by decide +kernel
theorem dX2_isFewer_6 : decode cX2_isFewer 6 = .ok (.iload_n 0, 1) := by decide +kernel
theorem dX2_isFewer_7 : decode cX2_isFewer 7 = .ok (.invokestatic 63, 3) := by decide +kernel
theorem dX2_isFewer_10 : decode cX2_isFewer 10 = .ok (.iload_n 1, 1) := by decide +kernel
theorem dX2_isFewer_11 : decode cX2_isFewer 11 = .ok (.invokestatic 63, 3) := by decide +kernel
theorem dX2_isFewer_14 : decode cX2_isFewer 14 = .ok (.if_icmp .ge 7, 3) := by decide +kernel
theorem dX2_isFewer_17 : decode cX2_isFewer 17 = .ok (.iconst 1, 1) := by decide +kernel
theorem dX2_isFewer_18 : decode cX2_isFewer 18 = .ok (.goto 4, 3) := by decide +kernel
theorem dX2_isFewer_21 : decode cX2_isFewer 21 = .ok (.iconst 0, 1) := by decide +kernel
theorem dX2_isFewer_22 : decode cX2_isFewer 22 = .ok (.ireturn, 1) := by decide +kernel
theorem dX2_setsWith_0 : decode cX2_setsWith 0 = .ok (.iconst 0, 1) := by decide +kernel
theorem dX2_setsWith_1 : decode cX2_setsWith 1 = .ok (.istore_n 3, 1) := by decide +kernel
theorem dX2_setsWith_2 : decode cX2_setsWith 2 = .ok (.iconst 0, 1) := by decide +kernel
theorem dX2_setsWith_3 : decode cX2_setsWith 3 = .ok (.istore 4, 2) := by decide +kernel
theorem dX2_setsWith_5 : decode cX2_setsWith 5 = .ok (.iload 4, 2) := by decide +kernel
theorem dX2_setsWith_7 : decode cX2_setsWith 7 = .ok (.bipush 32, 2) := by decide +kernel
theorem dX2_setsWith_9 : decode cX2_setsWith 9 = .ok (.if_icmp .ge 30, 3) := by decide +kernel
theorem dX2_setsWith_12 : decode cX2_setsWith 12 = .ok (.iload_n 1, 1) := by decide +kernel
theorem dX2_setsWith_13 : decode cX2_setsWith 13 = .ok (.iload 4, 2) := by decide +kernel
theorem dX2_setsWith_15 : decode cX2_setsWith 15 = .ok (.invokestatic 56, 3) := by decide +kernel
theorem dX2_setsWith_18 : decode cX2_setsWith 18 = .ok (.ifCond .eq 15, 3) := by decide +kernel
theorem dX2_setsWith_21 : decode cX2_setsWith 21 = .ok (.iload 4, 2) := by decide +kernel
theorem dX2_setsWith_23 : decode cX2_setsWith 23 = .ok (.iload_n 2, 1) := by decide +kernel
theorem dX2_setsWith_24 : decode cX2_setsWith 24 = .ok (.invokestatic 56, 3) := by decide +kernel
theorem dX2_setsWith_27 : decode cX2_setsWith 27 = .ok (.ifCond .eq 6, 3) := by decide +kernel
theorem dX2_setsWith_30 : decode cX2_setsWith 30 = .ok (.iinc 3 1, 3) := by decide +kernel
theorem dX2_setsWith_33 : decode cX2_setsWith 33 = .ok (.iinc 4 1, 3) := by decide +kernel
theorem dX2_setsWith_36 : decode cX2_setsWith 36 = .ok (.goto (-31), 3) := by decide +kernel
theorem dX2_setsWith_39 : decode cX2_setsWith 39 = .ok (.iload_n 3, 1) := by decide +kernel
theorem dX2_setsWith_40 : decode cX2_setsWith 40 = .ok (.ireturn, 1) := by decide +kernel
theorem dX2_fraction_0 : decode cX2_fraction 0 = .ok (.iload_n 1, 1) := by decide +kernel
theorem dX2_fraction_1 : decode cX2_fraction 1 = .ok (.ifCond .ne 5, 3) := by decide +kernel
theorem dX2_fraction_4 : decode cX2_fraction 4 = .ok (.iload_n 3, 1) := by decide +kernel
theorem dX2_fraction_5 : decode cX2_fraction 5 = .ok (.ireturn, 1) := by decide +kernel
theorem dX2_fraction_6 : decode cX2_fraction 6 = .ok (.iload_n 1, 1) := by decide +kernel
theorem dX2_fraction_7 : decode cX2_fraction 7 = .ok (.istore 4, 2) := by decide +kernel
theorem dX2_fraction_9 : decode cX2_fraction 9 = .ok (.iload 4, 2) := by decide +kernel
theorem dX2_fraction_11 : decode cX2_fraction 11 = .ok (.iconst 1, 1) := by decide +kernel
theorem dX2_fraction_12 : decode cX2_fraction 12 = .ok (.if_icmp .le 23, 3) := by decide +kernel
theorem dX2_fraction_15 : decode cX2_fraction 15 = .ok (.iload_n 1, 1) := by decide +kernel
theorem dX2_fraction_16 : decode cX2_fraction 16 = .ok (.iload 4, 2) := by decide +kernel
theorem dX2_fraction_18 : decode cX2_fraction 18 = .ok (.irem, 1) := by decide +kernel
theorem dX2_fraction_19 : decode cX2_fraction 19 = .ok (.ifCond .ne 10, 3) := by decide +kernel
theorem dX2_fraction_22 : decode cX2_fraction 22 = .ok (.iload_n 2, 1) := by decide +kernel
theorem dX2_fraction_23 : decode cX2_fraction 23 = .ok (.iload 4, 2) := by decide +kernel
theorem dX2_fraction_25 : decode cX2_fraction 25 = .ok (.irem, 1) := by decide +kernel
theorem dX2_fraction_26 : decode cX2_fraction 26 = .ok (.ifCond .eq 9, 3) := by decide +kernel
theorem dX2_fraction_29 : decode cX2_fraction 29 = .ok (.iinc 4 (-1), 3) := by decide +kernel
theorem dX2_fraction_32 : decode cX2_fraction 32 = .ok (.goto (-23), 3) := by decide +kernel
theorem dX2_fraction_35 : decode cX2_fraction 35 = .ok (.iload_n 3, 1) := by decide +kernel
theorem dX2_fraction_36 : decode cX2_fraction 36 = .ok (.ifCond .ne 7, 3) := by decide +kernel
theorem dX2_fraction_39 : decode cX2_fraction 39 = .ok (.iload_n 1, 1) := by decide +kernel
theorem dX2_fraction_40 : decode cX2_fraction 40 = .ok (.goto 4, 3) := by decide +kernel
theorem dX2_fraction_43 : decode cX2_fraction 43 = .ok (.iload_n 2, 1) := by decide +kernel
theorem dX2_fraction_44 : decode cX2_fraction 44 = .ok (.iload 4, 2) := by decide +kernel
theorem dX2_fraction_46 : decode cX2_fraction 46 = .ok (.iconst 1, 1) := by decide +kernel
theorem dX2_fraction_47 : decode cX2_fraction 47 = .ok (.invokestatic 69, 3) := by decide +kernel
theorem dX2_fraction_50 : decode cX2_fraction 50 = .ok (.idiv, 1) := by decide +kernel
theorem dX2_fraction_51 : decode cX2_fraction 51 = .ok (.ireturn, 1) := by decide +kernel
theorem dX2_rightBy_0 : decode cX2_rightBy 0 = .ok (.iconst 0, 1) := by decide +kernel
theorem dX2_rightBy_1 : decode cX2_rightBy 1 = .ok (.istore 4, 2) := by decide +kernel
theorem dX2_rightBy_3 : decode cX2_rightBy 3 = .ok (.ldc 59, 2) := by decide +kernel
theorem dX2_rightBy_5 : decode cX2_rightBy 5 = .ok (.istore 5, 2) := by decide +kernel
theorem dX2_rightBy_7 : decode cX2_rightBy 7 = .ok (.iconst 0, 1) := by decide +kernel
theorem dX2_rightBy_8 : decode cX2_rightBy 8 = .ok (.istore 6, 2) := by decide +kernel
theorem dX2_rightBy_10 : decode cX2_rightBy 10 = .ok (.iload 6, 2) := by decide +kernel
theorem dX2_rightBy_12 : decode cX2_rightBy 12 = .ok (.iconst 3, 1) := by decide +kernel
theorem dX2_rightBy_13 : decode cX2_rightBy 13 = .ok (.if_icmp .ge 90, 3) := by decide +kernel
theorem dX2_rightBy_16 : decode cX2_rightBy 16 = .ok (.aload_n 1, 1) := by decide +kernel
theorem dX2_rightBy_17 : decode cX2_rightBy 17 = .ok (.iload_n 2, 1) := by decide +kernel
theorem dX2_rightBy_18 : decode cX2_rightBy 18 = .ok (.iload 6, 2) := by decide +kernel
theorem dX2_rightBy_20 : decode cX2_rightBy 20 = .ok (.invokestatic 53, 3) := by decide +kernel
theorem dX2_rightBy_23 : decode cX2_rightBy 23 = .ok (.invokevirtual 74, 3) := by decide +kernel
theorem dX2_rightBy_26 : decode cX2_rightBy 26 = .ok (.istore 7, 2) := by decide +kernel
theorem dX2_rightBy_28 : decode cX2_rightBy 28 = .ok (.iload 7, 2) := by decide +kernel
theorem dX2_rightBy_30 : decode cX2_rightBy 30 = .ok (.ifCond .ne 6, 3) := by decide +kernel
theorem dX2_rightBy_33 : decode cX2_rightBy 33 = .ok (.goto 64, 3) := by decide +kernel
theorem dX2_rightBy_36 : decode cX2_rightBy 36 = .ok (.aload_n 1, 1) := by decide +kernel
theorem dX2_rightBy_37 : decode cX2_rightBy 37 = .ok (.iload 7, 2) := by decide +kernel
theorem dX2_rightBy_39 : decode cX2_rightBy 39 = .ok (.invokestatic 77, 3) := by decide +kernel
theorem dX2_rightBy_42 : decode cX2_rightBy 42 = .ok (.astore 8, 2) := by decide +kernel
theorem dX2_rightBy_44 : decode cX2_rightBy 44 = .ok (.aload 8, 2) := by decide +kernel
theorem dX2_rightBy_46 : decode cX2_rightBy 46 = .ok (.ifnonnull 6, 3) := by decide +kernel
theorem dX2_rightBy_49 : decode cX2_rightBy 49 = .ok (.ldc 59, 2) := by decide +kernel
theorem dX2_rightBy_51 : decode cX2_rightBy 51 = .ok (.ireturn, 1) := by decide +kernel
theorem dX2_rightBy_52 : decode cX2_rightBy 52 = .ok (.iload 4, 2) := by decide +kernel
theorem dX2_rightBy_54 : decode cX2_rightBy 54 = .ok (.aload 8, 2) := by decide +kernel
theorem dX2_rightBy_56 : decode cX2_rightBy 56 = .ok (.getfield 81, 3) := by decide +kernel
theorem dX2_rightBy_59 : decode cX2_rightBy 59 = .ok (.iadd, 1) := by decide +kernel
theorem dX2_rightBy_60 : decode cX2_rightBy 60 = .ok (.istore 4, 2) := by decide +kernel
theorem dX2_rightBy_62 : decode cX2_rightBy 62 = .ok (.iload_n 3, 1) := by decide +kernel
theorem dX2_rightBy_63 : decode cX2_rightBy 63 = .ok (.iconst 1, 1) := by decide +kernel
theorem dX2_rightBy_64 : decode cX2_rightBy 64 = .ok (.iload 6, 2) := by decide +kernel
theorem dX2_rightBy_66 : decode cX2_rightBy 66 = .ok (.iadd, 1) := by decide +kernel
theorem dX2_rightBy_67 : decode cX2_rightBy 67 = .ok (.if_icmp .ne 13, 3) := by decide +kernel
theorem dX2_rightBy_70 : decode cX2_rightBy 70 = .ok (.aload 8, 2) := by decide +kernel
theorem dX2_rightBy_72 : decode cX2_rightBy 72 = .ok (.getfield 86, 3) := by decide +kernel
theorem dX2_rightBy_75 : decode cX2_rightBy 75 = .ok (.istore 5, 2) := by decide +kernel
theorem dX2_rightBy_77 : decode cX2_rightBy 77 = .ok (.goto 20, 3) := by decide +kernel
theorem dX2_rightBy_80 : decode cX2_rightBy 80 = .ok (.iload_n 3, 1) := by decide +kernel
theorem dX2_rightBy_81 : decode cX2_rightBy 81 = .ok (.iconst 4, 1) := by decide +kernel
theorem dX2_rightBy_82 : decode cX2_rightBy 82 = .ok (.iload 6, 2) := by decide +kernel
theorem dX2_rightBy_84 : decode cX2_rightBy 84 = .ok (.iadd, 1) := by decide +kernel
theorem dX2_rightBy_85 : decode cX2_rightBy 85 = .ok (.if_icmp .ne 12, 3) := by decide +kernel
theorem dX2_rightBy_88 : decode cX2_rightBy 88 = .ok (.aload 8, 2) := by decide +kernel
theorem dX2_rightBy_90 : decode cX2_rightBy 90 = .ok (.iload 7, 2) := by decide +kernel
theorem dX2_rightBy_92 : decode cX2_rightBy 92 = .ok (.invokestatic 89, 3) := by decide +kernel
theorem dX2_rightBy_95 : decode cX2_rightBy 95 = .ok (.istore 5, 2) := by decide +kernel
theorem dX2_rightBy_97 : decode cX2_rightBy 97 = .ok (.iinc 6 1, 3) := by decide +kernel
theorem dX2_rightBy_100 : decode cX2_rightBy 100 = .ok (.goto (-90), 3) := by decide +kernel
theorem dX2_rightBy_103 : decode cX2_rightBy 103 = .ok (.iload_n 3, 1) := by decide +kernel
theorem dX2_rightBy_104 : decode cX2_rightBy 104 = .ok (.ifCond .ne 8, 3) := by decide +kernel
theorem dX2_rightBy_107 : decode cX2_rightBy 107 = .ok (.iload 4, 2) := by decide +kernel
theorem dX2_rightBy_109 : decode cX2_rightBy 109 = .ok (.goto 5, 3) := by decide +kernel
theorem dX2_rightBy_112 : decode cX2_rightBy 112 = .ok (.iload 5, 2) := by decide +kernel
theorem dX2_rightBy_114 : decode cX2_rightBy 114 = .ok (.ireturn, 1) := by decide +kernel
theorem dX2_cheapestFor_0 : decode cX2_cheapestFor 0 = .ok (.aconst_null, 1) := by decide +kernel
theorem dX2_cheapestFor_1 : decode cX2_cheapestFor 1 = .ok (.astore_n 2, 1) := by decide +kernel
theorem dX2_cheapestFor_2 : decode cX2_cheapestFor 2 = .ok (.iconst 0, 1) := by decide +kernel
theorem dX2_cheapestFor_3 : decode cX2_cheapestFor 3 = .ok (.istore_n 3, 1) := by decide +kernel
theorem dX2_cheapestFor_4 : decode cX2_cheapestFor 4 = .ok (.iload_n 3, 1) := by decide +kernel
theorem dX2_cheapestFor_5 : decode cX2_cheapestFor 5 = .ok (.aload_n 0, 1) := by decide +kernel
theorem dX2_cheapestFor_6 : decode cX2_cheapestFor 6 = .ok (.getfield 22, 3) := by decide +kernel
theorem dX2_cheapestFor_9 : decode cX2_cheapestFor 9 = .ok (.if_icmp .ge 51, 3) := by decide +kernel
theorem dX2_cheapestFor_12 : decode cX2_cheapestFor 12 = .ok (.aload_n 0, 1) := by decide +kernel
theorem dX2_cheapestFor_13 : decode cX2_cheapestFor 13 = .ok (.iload_n 3, 1) := by decide +kernel
theorem dX2_cheapestFor_14 : decode cX2_cheapestFor 14 = .ok (.invokevirtual 93, 3) := by decide +kernel
theorem dX2_cheapestFor_17 : decode cX2_cheapestFor 17 = .ok (.astore 4, 2) := by decide +kernel
theorem dX2_cheapestFor_19 : decode cX2_cheapestFor 19 = .ok (.aload 4, 2) := by decide +kernel
theorem dX2_cheapestFor_21 : decode cX2_cheapestFor 21 = .ok (.ifnull 33, 3) := by decide +kernel
theorem dX2_cheapestFor_24 : decode cX2_cheapestFor 24 = .ok (.aload_n 2, 1) := by decide +kernel
theorem dX2_cheapestFor_25 : decode cX2_cheapestFor 25 = .ok (.ifnull 15, 3) := by decide +kernel
theorem dX2_cheapestFor_28 : decode cX2_cheapestFor 28 = .ok (.aload 4, 2) := by decide +kernel
theorem dX2_cheapestFor_30 : decode cX2_cheapestFor 30 = .ok (.getfield 81, 3) := by decide +kernel
theorem dX2_cheapestFor_33 : decode cX2_cheapestFor 33 = .ok (.aload_n 2, 1) := by decide +kernel
theorem dX2_cheapestFor_34 : decode cX2_cheapestFor 34 = .ok (.getfield 81, 3) := by decide +kernel
theorem dX2_cheapestFor_37 : decode cX2_cheapestFor 37 = .ok (.if_icmp .ge 17, 3) := by decide +kernel
theorem dX2_cheapestFor_40 : decode cX2_cheapestFor 40 = .ok (.aload 4, 2) := by decide +kernel
theorem dX2_cheapestFor_42 : decode cX2_cheapestFor 42 = .ok (.iload_n 1, 1) := by decide +kernel
theorem dX2_cheapestFor_43 : decode cX2_cheapestFor 43 = .ok (.invokestatic 89, 3) := by decide +kernel
theorem dX2_cheapestFor_46 : decode cX2_cheapestFor 46 = .ok (.ldc 59, 2) := by decide +kernel
theorem dX2_cheapestFor_48 : decode cX2_cheapestFor 48 = .ok (.if_icmp .eq 6, 3) := by decide +kernel
theorem dX2_cheapestFor_51 : decode cX2_cheapestFor 51 = .ok (.aload 4, 2) := by decide +kernel
theorem dX2_cheapestFor_53 : decode cX2_cheapestFor 53 = .ok (.astore_n 2, 1) := by decide +kernel
theorem dX2_cheapestFor_54 : decode cX2_cheapestFor 54 = .ok (.iinc 3 1, 3) := by decide +kernel
theorem dX2_cheapestFor_57 : decode cX2_cheapestFor 57 = .ok (.goto (-53), 3) := by decide +kernel
theorem dX2_cheapestFor_60 : decode cX2_cheapestFor 60 = .ok (.aload_n 2, 1) := by decide +kernel
theorem dX2_cheapestFor_61 : decode cX2_cheapestFor 61 = .ok (.areturn, 1) := by decide +kernel
theorem dX2_leastTold_0 : decode cX2_leastTold 0 = .ok (.bipush (-99), 2) := by decide +kernel
theorem dX2_leastTold_2 : decode cX2_leastTold 2 = .ok (.istore_n 2, 1) := by decide +kernel
theorem dX2_leastTold_3 : decode cX2_leastTold 3 = .ok (.iload_n 2, 1) := by decide +kernel
theorem dX2_leastTold_4 : decode cX2_leastTold 4 = .ok (.bipush 99, 2) := by decide +kernel
theorem dX2_leastTold_6 : decode cX2_leastTold 6 = .ok (.if_icmp .gt 20, 3) := by decide +kernel
theorem dX2_leastTold_9 : decode cX2_leastTold 9 = .ok (.aload_n 0, 1) := by decide +kernel
theorem dX2_leastTold_10 : decode cX2_leastTold 10 = .ok (.iload_n 2, 1) := by decide +kernel
theorem dX2_leastTold_11 : decode cX2_leastTold 11 = .ok (.invokevirtual 97, 3) := by decide +kernel
theorem dX2_leastTold_14 : decode cX2_leastTold 14 = .ok (.iload_n 1, 1) := by decide +kernel
theorem dX2_leastTold_15 : decode cX2_leastTold 15 = .ok (.if_icmp .ne 5, 3) := by decide +kernel
theorem dX2_leastTold_18 : decode cX2_leastTold 18 = .ok (.iload_n 2, 1) := by decide +kernel
theorem dX2_leastTold_19 : decode cX2_leastTold 19 = .ok (.ireturn, 1) := by decide +kernel
theorem dX2_leastTold_20 : decode cX2_leastTold 20 = .ok (.iinc 2 1, 3) := by decide +kernel
theorem dX2_leastTold_23 : decode cX2_leastTold 23 = .ok (.goto (-20), 3) := by decide +kernel
theorem dX2_leastTold_26 : decode cX2_leastTold 26 = .ok (.ldc 59, 2) := by decide +kernel
theorem dX2_leastTold_28 : decode cX2_leastTold 28 = .ok (.ireturn, 1) := by decide +kernel
theorem dX2_mostPadding_0 : decode cX2_mostPadding 0 = .ok (.ldc 59, 2) := by decide +kernel
theorem dX2_mostPadding_2 : decode cX2_mostPadding 2 = .ok (.istore 5, 2) := by decide +kernel
theorem dX2_mostPadding_4 : decode cX2_mostPadding 4 = .ok (.ldc 59, 2) := by decide +kernel
theorem dX2_mostPadding_6 : decode cX2_mostPadding 6 = .ok (.istore 6, 2) := by decide +kernel
theorem dX2_mostPadding_8 : decode cX2_mostPadding 8 = .ok (.iconst 0, 1) := by decide +kernel
theorem dX2_mostPadding_9 : decode cX2_mostPadding 9 = .ok (.istore 7, 2) := by decide +kernel
theorem dX2_mostPadding_11 : decode cX2_mostPadding 11 = .ok (.iload 7, 2) := by decide +kernel
theorem dX2_mostPadding_13 : decode cX2_mostPadding 13 = .ok (.aload_n 1, 1) := by decide +kernel
theorem dX2_mostPadding_14 : decode cX2_mostPadding 14 = .ok (.getfield 22, 3) := by decide +kernel
theorem dX2_mostPadding_17 : decode cX2_mostPadding 17 = .ok (.if_icmp .ge 54, 3) := by decide +kernel
theorem dX2_mostPadding_20 : decode cX2_mostPadding 20 = .ok (.aload_n 1, 1) := by decide +kernel
theorem dX2_mostPadding_21 : decode cX2_mostPadding 21 = .ok (.iload 7, 2) := by decide +kernel
theorem dX2_mostPadding_23 : decode cX2_mostPadding 23 = .ok (.iload_n 2, 1) := by decide +kernel
theorem dX2_mostPadding_24 : decode cX2_mostPadding 24 = .ok (.iload_n 3, 1) := by decide +kernel
theorem dX2_mostPadding_25 : decode cX2_mostPadding 25 = .ok (.invokestatic 100, 3) := by decide +kernel
theorem dX2_mostPadding_28 : decode cX2_mostPadding 28 = .ok (.istore 8, 2) := by decide +kernel
theorem dX2_mostPadding_30 : decode cX2_mostPadding 30 = .ok (.iload 8, 2) := by decide +kernel
theorem dX2_mostPadding_32 : decode cX2_mostPadding 32 = .ok (.ldc 59, 2) := by decide +kernel
theorem dX2_mostPadding_34 : decode cX2_mostPadding 34 = .ok (.if_icmp .eq 31, 3) := by decide +kernel
theorem dX2_mostPadding_37 : decode cX2_mostPadding 37 = .ok (.iload 5, 2) := by decide +kernel
theorem dX2_mostPadding_39 : decode cX2_mostPadding 39 = .ok (.ldc 59, 2) := by decide +kernel
theorem dX2_mostPadding_41 : decode cX2_mostPadding 41 = .ok (.if_icmp .eq 16, 3) := by decide +kernel
theorem dX2_mostPadding_44 : decode cX2_mostPadding 44 = .ok (.iload 8, 2) := by decide +kernel
theorem dX2_mostPadding_46 : decode cX2_mostPadding 46 = .ok (.invokestatic 104, 3) := by decide +kernel
theorem dX2_mostPadding_49 : decode cX2_mostPadding 49 = .ok (.iload 6, 2) := by decide +kernel
theorem dX2_mostPadding_51 : decode cX2_mostPadding 51 = .ok (.invokestatic 104, 3) := by decide +kernel
theorem dX2_mostPadding_54 : decode cX2_mostPadding 54 = .ok (.if_icmp .le 11, 3) := by decide +kernel
theorem dX2_mostPadding_57 : decode cX2_mostPadding 57 = .ok (.iload 7, 2) := by decide +kernel
theorem dX2_mostPadding_59 : decode cX2_mostPadding 59 = .ok (.istore 5, 2) := by decide +kernel
theorem dX2_mostPadding_61 : decode cX2_mostPadding 61 = .ok (.iload 8, 2) := by decide +kernel
theorem dX2_mostPadding_63 : decode cX2_mostPadding 63 = .ok (.istore 6, 2) := by decide +kernel
theorem dX2_mostPadding_65 : decode cX2_mostPadding 65 = .ok (.iinc 7 1, 3) := by decide +kernel
theorem dX2_mostPadding_68 : decode cX2_mostPadding 68 = .ok (.goto (-57), 3) := by decide +kernel
theorem dX2_mostPadding_71 : decode cX2_mostPadding 71 = .ok (.iload 4, 2) := by decide +kernel
theorem dX2_mostPadding_73 : decode cX2_mostPadding 73 = .ok (.ifCond .ne 8, 3) := by decide +kernel
theorem dX2_mostPadding_76 : decode cX2_mostPadding 76 = .ok (.iload 5, 2) := by decide +kernel
theorem dX2_mostPadding_78 : decode cX2_mostPadding 78 = .ok (.goto 5, 3) := by decide +kernel
theorem dX2_mostPadding_81 : decode cX2_mostPadding 81 = .ok (.iload 6, 2) := by decide +kernel
theorem dX2_mostPadding_83 : decode cX2_mostPadding 83 = .ok (.ireturn, 1) := by decide +kernel
theorem dX2_paddedBy_0 : decode cX2_paddedBy 0 = .ok (.iconst 0, 1) := by decide +kernel
theorem dX2_paddedBy_1 : decode cX2_paddedBy 1 = .ok (.istore 4, 2) := by decide +kernel
theorem dX2_paddedBy_3 : decode cX2_paddedBy 3 = .ok (.iconst 0, 1) := by decide +kernel
theorem dX2_paddedBy_4 : decode cX2_paddedBy 4 = .ok (.istore 5, 2) := by decide +kernel
theorem dX2_paddedBy_6 : decode cX2_paddedBy 6 = .ok (.iconst 0, 1) := by decide +kernel
theorem dX2_paddedBy_7 : decode cX2_paddedBy 7 = .ok (.istore 6, 2) := by decide +kernel
theorem dX2_paddedBy_9 : decode cX2_paddedBy 9 = .ok (.iload 6, 2) := by decide +kernel
theorem dX2_paddedBy_11 : decode cX2_paddedBy 11 = .ok (.aload_n 0, 1) := by decide +kernel
theorem dX2_paddedBy_12 : decode cX2_paddedBy 12 = .ok (.getfield 43, 3) := by decide +kernel
theorem dX2_paddedBy_15 : decode cX2_paddedBy 15 = .ok (.if_icmp .ge 55, 3) := by decide +kernel
theorem dX2_paddedBy_18 : decode cX2_paddedBy 18 = .ok (.aload_n 0, 1) := by decide +kernel
theorem dX2_paddedBy_19 : decode cX2_paddedBy 19 = .ok (.iload 6, 2) := by decide +kernel
theorem dX2_paddedBy_21 : decode cX2_paddedBy 21 = .ok (.iload_n 1, 1) := by decide +kernel
theorem dX2_paddedBy_22 : decode cX2_paddedBy 22 = .ok (.invokevirtual 107, 3) := by decide +kernel
theorem dX2_paddedBy_25 : decode cX2_paddedBy 25 = .ok (.ifCond .eq 39, 3) := by decide +kernel
theorem dX2_paddedBy_28 : decode cX2_paddedBy 28 = .ok (.aload_n 0, 1) := by decide +kernel
theorem dX2_paddedBy_29 : decode cX2_paddedBy 29 = .ok (.iload 6, 2) := by decide +kernel
theorem dX2_paddedBy_31 : decode cX2_paddedBy 31 = .ok (.iload_n 2, 1) := by decide +kernel
theorem dX2_paddedBy_32 : decode cX2_paddedBy 32 = .ok (.invokevirtual 46, 3) := by decide +kernel
theorem dX2_paddedBy_35 : decode cX2_paddedBy 35 = .ok (.ifCond .eq 29, 3) := by decide +kernel
theorem dX2_paddedBy_38 : decode cX2_paddedBy 38 = .ok (.aload_n 0, 1) := by decide +kernel
theorem dX2_paddedBy_39 : decode cX2_paddedBy 39 = .ok (.iload 6, 2) := by decide +kernel
theorem dX2_paddedBy_41 : decode cX2_paddedBy 41 = .ok (.iconst 3, 1) := by decide +kernel
theorem dX2_paddedBy_42 : decode cX2_paddedBy 42 = .ok (.invokevirtual 50, 3) := by decide +kernel
theorem dX2_paddedBy_45 : decode cX2_paddedBy 45 = .ok (.iload_n 3, 1) := by decide +kernel
theorem dX2_paddedBy_46 : decode cX2_paddedBy 46 = .ok (.if_icmp .ne 18, 3) := by decide +kernel
theorem dX2_paddedBy_49 : decode cX2_paddedBy 49 = .ok (.iload 4, 2) := by decide +kernel
theorem dX2_paddedBy_51 : decode cX2_paddedBy 51 = .ok (.aload_n 0, 1) := by decide +kernel
theorem dX2_paddedBy_52 : decode cX2_paddedBy 52 = .ok (.iload 6, 2) := by decide +kernel
theorem dX2_paddedBy_54 : decode cX2_paddedBy 54 = .ok (.iconst 5, 1) := by decide +kernel
theorem dX2_paddedBy_55 : decode cX2_paddedBy 55 = .ok (.invokevirtual 50, 3) := by decide +kernel
theorem dX2_paddedBy_58 : decode cX2_paddedBy 58 = .ok (.iadd, 1) := by decide +kernel
theorem dX2_paddedBy_59 : decode cX2_paddedBy 59 = .ok (.istore 4, 2) := by decide +kernel
theorem dX2_paddedBy_61 : decode cX2_paddedBy 61 = .ok (.iconst 1, 1) := by decide +kernel
theorem dX2_paddedBy_62 : decode cX2_paddedBy 62 = .ok (.istore 5, 2) := by decide +kernel
theorem dX2_paddedBy_64 : decode cX2_paddedBy 64 = .ok (.iinc 6 1, 3) := by decide +kernel
theorem dX2_paddedBy_67 : decode cX2_paddedBy 67 = .ok (.goto (-58), 3) := by decide +kernel
theorem dX2_paddedBy_70 : decode cX2_paddedBy 70 = .ok (.iload 5, 2) := by decide +kernel
theorem dX2_paddedBy_72 : decode cX2_paddedBy 72 = .ok (.ifCond .eq 8, 3) := by decide +kernel
theorem dX2_paddedBy_75 : decode cX2_paddedBy 75 = .ok (.iload 4, 2) := by decide +kernel
theorem dX2_paddedBy_77 : decode cX2_paddedBy 77 = .ok (.goto 5, 3) := by decide +kernel
theorem dX2_paddedBy_80 : decode cX2_paddedBy 80 = .ok (.ldc 59, 2) := by decide +kernel
theorem dX2_paddedBy_82 : decode cX2_paddedBy 82 = .ok (.ireturn, 1) := by decide +kernel
theorem dX2_swapsThatGive_0 : decode cX2_swapsThatGive 0 = .ok (.iconst 0, 1) := by decide +kernel
theorem dX2_swapsThatGive_1 : decode cX2_swapsThatGive 1 = .ok (.istore 6, 2) := by decide +kernel
theorem dX2_swapsThatGive_3 : decode cX2_swapsThatGive 3 = .ok (.ldc 59, 2) := by decide +kernel
theorem dX2_swapsThatGive_5 : decode cX2_swapsThatGive 5 = .ok (.istore 7, 2) := by decide +kernel
theorem dX2_swapsThatGive_7 : decode cX2_swapsThatGive 7 = .ok (.iconst 0, 1) := by decide +kernel
theorem dX2_swapsThatGive_8 : decode cX2_swapsThatGive 8 = .ok (.istore 8, 2) := by decide +kernel
theorem dX2_swapsThatGive_10 : decode cX2_swapsThatGive 10 = .ok (.iload 8, 2) := by decide +kernel
theorem dX2_swapsThatGive_12 : decode cX2_swapsThatGive 12 = .ok (.aload_n 1, 1) := by decide +kernel
theorem dX2_swapsThatGive_13 : decode cX2_swapsThatGive 13 = .ok (.getfield 110, 3) := by decide +kernel
theorem dX2_swapsThatGive_16 : decode cX2_swapsThatGive 16 = .ok (.if_icmp .ge 69, 3) := by decide +kernel
theorem dX2_swapsThatGive_19 : decode cX2_swapsThatGive 19 = .ok (.iload 8, 2) := by decide +kernel
theorem dX2_swapsThatGive_21 : decode cX2_swapsThatGive 21 = .ok (.iconst 1, 1) := by decide +kernel
theorem dX2_swapsThatGive_22 : decode cX2_swapsThatGive 22 = .ok (.iadd, 1) := by decide +kernel
theorem dX2_swapsThatGive_23 : decode cX2_swapsThatGive 23 = .ok (.istore 9, 2) := by decide +kernel
theorem dX2_swapsThatGive_25 : decode cX2_swapsThatGive 25 = .ok (.iload 9, 2) := by decide +kernel
theorem dX2_swapsThatGive_27 : decode cX2_swapsThatGive 27 = .ok (.aload_n 1, 1) := by decide +kernel
theorem dX2_swapsThatGive_28 : decode cX2_swapsThatGive 28 = .ok (.getfield 110, 3) := by decide +kernel
theorem dX2_swapsThatGive_31 : decode cX2_swapsThatGive 31 = .ok (.if_icmp .ge 48, 3) := by decide +kernel
theorem dX2_swapsThatGive_34 : decode cX2_swapsThatGive 34 = .ok (.aload_n 1, 1) := by decide +kernel
theorem dX2_swapsThatGive_35 : decode cX2_swapsThatGive 35 = .ok (.iload 8, 2) := by decide +kernel
theorem dX2_swapsThatGive_37 : decode cX2_swapsThatGive 37 = .ok (.iload 9, 2) := by decide +kernel
theorem dX2_swapsThatGive_39 : decode cX2_swapsThatGive 39 = .ok (.aload_n 2, 1) := by decide +kernel
theorem dX2_swapsThatGive_40 : decode cX2_swapsThatGive 40 = .ok (.iload_n 3, 1) := by decide +kernel
theorem dX2_swapsThatGive_41 : decode cX2_swapsThatGive 41 = .ok (.iload 4, 2) := by decide +kernel
theorem dX2_swapsThatGive_43 : decode cX2_swapsThatGive 43 = .ok (.invokestatic 113, 3) := by decide +kernel
theorem dX2_swapsThatGive_46 : decode cX2_swapsThatGive 46 = .ok (.ifCond .eq 27, 3) := by decide +kernel
theorem dX2_swapsThatGive_49 : decode cX2_swapsThatGive 49 = .ok (.iinc 6 1, 3) := by decide +kernel
theorem dX2_swapsThatGive_52 : decode cX2_swapsThatGive 52 = .ok (.iload 7, 2) := by decide +kernel
theorem dX2_swapsThatGive_54 : decode cX2_swapsThatGive 54 = .ok (.ldc 59, 2) := by decide +kernel
theorem dX2_swapsThatGive_56 : decode cX2_swapsThatGive 56 = .ok (.if_icmp .ne 13, 3) := by decide +kernel
theorem dX2_swapsThatGive_59 : decode cX2_swapsThatGive 59 = .ok (.iconst 4, 1) := by decide +kernel
theorem dX2_swapsThatGive_60 : decode cX2_swapsThatGive 60 = .ok (.iload 8, 2) := by decide +kernel
theorem dX2_swapsThatGive_62 : decode cX2_swapsThatGive 62 = .ok (.imul, 1) := by decide +kernel
theorem dX2_swapsThatGive_63 : decode cX2_swapsThatGive 63 = .ok (.iload 9, 2) := by decide +kernel
theorem dX2_swapsThatGive_65 : decode cX2_swapsThatGive 65 = .ok (.iadd, 1) := by decide +kernel
theorem dX2_swapsThatGive_66 : decode cX2_swapsThatGive 66 = .ok (.goto 5, 3) := by decide +kernel
theorem dX2_swapsThatGive_69 : decode cX2_swapsThatGive 69 = .ok (.iload 7, 2) := by decide +kernel
theorem dX2_swapsThatGive_71 : decode cX2_swapsThatGive 71 = .ok (.istore 7, 2) := by decide +kernel
theorem dX2_swapsThatGive_73 : decode cX2_swapsThatGive 73 = .ok (.iinc 9 1, 3) := by decide +kernel
theorem dX2_swapsThatGive_76 : decode cX2_swapsThatGive 76 = .ok (.goto (-51), 3) := by decide +kernel
theorem dX2_swapsThatGive_79 : decode cX2_swapsThatGive 79 = .ok (.iinc 8 1, 3) := by decide +kernel
theorem dX2_swapsThatGive_82 : decode cX2_swapsThatGive 82 = .ok (.goto (-72), 3) := by decide +kernel
theorem dX2_swapsThatGive_85 : decode cX2_swapsThatGive 85 = .ok (.iload 5, 2) := by decide +kernel
theorem dX2_swapsThatGive_87 : decode cX2_swapsThatGive 87 = .ok (.ifCond .ne 8, 3) := by decide +kernel
theorem dX2_swapsThatGive_90 : decode cX2_swapsThatGive 90 = .ok (.iload 6, 2) := by decide +kernel
theorem dX2_swapsThatGive_92 : decode cX2_swapsThatGive 92 = .ok (.goto 5, 3) := by decide +kernel
theorem dX2_swapsThatGive_95 : decode cX2_swapsThatGive 95 = .ok (.iload 7, 2) := by decide +kernel
theorem dX2_swapsThatGive_97 : decode cX2_swapsThatGive 97 = .ok (.ireturn, 1) := by decide +kernel
theorem dX2_gives_0 : decode cX2_gives 0 = .ok (.iconst 0, 1) := by decide +kernel
theorem dX2_gives_1 : decode cX2_gives 1 = .ok (.istore 6, 2) := by decide +kernel
theorem dX2_gives_3 : decode cX2_gives 3 = .ok (.iload 6, 2) := by decide +kernel
theorem dX2_gives_5 : decode cX2_gives 5 = .ok (.aload_n 0, 1) := by decide +kernel
theorem dX2_gives_6 : decode cX2_gives 6 = .ok (.getfield 110, 3) := by decide +kernel
theorem dX2_gives_9 : decode cX2_gives 9 = .ok (.if_icmp .ge 85, 3) := by decide +kernel
theorem dX2_gives_12 : decode cX2_gives 12 = .ok (.iload 6, 2) := by decide +kernel
theorem dX2_gives_14 : decode cX2_gives 14 = .ok (.iload_n 1, 1) := by decide +kernel
theorem dX2_gives_15 : decode cX2_gives 15 = .ok (.if_icmp .ne 7, 3) := by decide +kernel
theorem dX2_gives_18 : decode cX2_gives 18 = .ok (.iload_n 2, 1) := by decide +kernel
theorem dX2_gives_19 : decode cX2_gives 19 = .ok (.goto 15, 3) := by decide +kernel
theorem dX2_gives_22 : decode cX2_gives 22 = .ok (.iload 6, 2) := by decide +kernel
theorem dX2_gives_24 : decode cX2_gives 24 = .ok (.iload_n 2, 1) := by decide +kernel
theorem dX2_gives_25 : decode cX2_gives 25 = .ok (.if_icmp .ne 7, 3) := by decide +kernel
theorem dX2_gives_28 : decode cX2_gives 28 = .ok (.iload_n 1, 1) := by decide +kernel
theorem dX2_gives_29 : decode cX2_gives 29 = .ok (.goto 5, 3) := by decide +kernel
theorem dX2_gives_32 : decode cX2_gives 32 = .ok (.iload 6, 2) := by decide +kernel
theorem dX2_gives_34 : decode cX2_gives 34 = .ok (.istore 7, 2) := by decide +kernel
theorem dX2_gives_36 : decode cX2_gives 36 = .ok (.iconst 0, 1) := by decide +kernel
theorem dX2_gives_37 : decode cX2_gives 37 = .ok (.istore 8, 2) := by decide +kernel
theorem dX2_gives_39 : decode cX2_gives 39 = .ok (.iload 8, 2) := by decide +kernel
theorem dX2_gives_41 : decode cX2_gives 41 = .ok (.iconst 3, 1) := by decide +kernel
theorem dX2_gives_42 : decode cX2_gives 42 = .ok (.if_icmp .ge 46, 3) := by decide +kernel
theorem dX2_gives_45 : decode cX2_gives 45 = .ok (.aload_n 3, 1) := by decide +kernel
theorem dX2_gives_46 : decode cX2_gives 46 = .ok (.iload 4, 2) := by decide +kernel
theorem dX2_gives_48 : decode cX2_gives 48 = .ok (.iload 5, 2) := by decide +kernel
theorem dX2_gives_50 : decode cX2_gives 50 = .ok (.iload 6, 2) := by decide +kernel
theorem dX2_gives_52 : decode cX2_gives 52 = .ok (.iload 8, 2) := by decide +kernel
theorem dX2_gives_54 : decode cX2_gives 54 = .ok (.invokestatic 53, 3) := by decide +kernel
theorem dX2_gives_57 : decode cX2_gives 57 = .ok (.iadd, 1) := by decide +kernel
theorem dX2_gives_58 : decode cX2_gives 58 = .ok (.invokevirtual 32, 3) := by decide +kernel
theorem dX2_gives_61 : decode cX2_gives 61 = .ok (.istore 9, 2) := by decide +kernel
theorem dX2_gives_63 : decode cX2_gives 63 = .ok (.aload_n 0, 1) := by decide +kernel
theorem dX2_gives_64 : decode cX2_gives 64 = .ok (.getfield 117, 3) := by decide +kernel
theorem dX2_gives_67 : decode cX2_gives 67 = .ok (.iload 7, 2) := by decide +kernel
theorem dX2_gives_69 : decode cX2_gives 69 = .ok (.iload 8, 2) := by decide +kernel
theorem dX2_gives_71 : decode cX2_gives 71 = .ok (.invokestatic 53, 3) := by decide +kernel
theorem dX2_gives_74 : decode cX2_gives 74 = .ok (.iaload, 1) := by decide +kernel
theorem dX2_gives_75 : decode cX2_gives 75 = .ok (.iload 9, 2) := by decide +kernel
theorem dX2_gives_77 : decode cX2_gives 77 = .ok (.if_icmp .eq 5, 3) := by decide +kernel
theorem dX2_gives_80 : decode cX2_gives 80 = .ok (.iconst 0, 1) := by decide +kernel
theorem dX2_gives_81 : decode cX2_gives 81 = .ok (.ireturn, 1) := by decide +kernel
theorem dX2_gives_82 : decode cX2_gives 82 = .ok (.iinc 8 1, 3) := by decide +kernel
theorem dX2_gives_85 : decode cX2_gives 85 = .ok (.goto (-46), 3) := by decide +kernel
theorem dX2_gives_88 : decode cX2_gives 88 = .ok (.iinc 6 1, 3) := by decide +kernel
theorem dX2_gives_91 : decode cX2_gives 91 = .ok (.goto (-88), 3) := by decide +kernel
theorem dX2_gives_94 : decode cX2_gives 94 = .ok (.iconst 1, 1) := by decide +kernel
theorem dX2_gives_95 : decode cX2_gives 95 = .ok (.ireturn, 1) := by decide +kernel
theorem dX2_otherPlaces_0 : decode cX2_otherPlaces 0 = .ok (.iconst 0, 1) := by decide +kernel
theorem dX2_otherPlaces_1 : decode cX2_otherPlaces 1 = .ok (.istore_n 3, 1) := by decide +kernel
theorem dX2_otherPlaces_2 : decode cX2_otherPlaces 2 = .ok (.iconst 0, 1) := by decide +kernel
theorem dX2_otherPlaces_3 : decode cX2_otherPlaces 3 = .ok (.istore 4, 2) := by decide +kernel
theorem dX2_otherPlaces_5 : decode cX2_otherPlaces 5 = .ok (.iload 4, 2) := by decide +kernel
theorem dX2_otherPlaces_7 : decode cX2_otherPlaces 7 = .ok (.iconst 3, 1) := by decide +kernel
theorem dX2_otherPlaces_8 : decode cX2_otherPlaces 8 = .ok (.aload_n 1, 1) := by decide +kernel
theorem dX2_otherPlaces_9 : decode cX2_otherPlaces 9 = .ok (.getfield 110, 3) := by decide +kernel
theorem dX2_otherPlaces_12 : decode cX2_otherPlaces 12 = .ok (.imul, 1) := by decide +kernel
theorem dX2_otherPlaces_13 : decode cX2_otherPlaces 13 = .ok (.if_icmp .ge 37, 3) := by decide +kernel
theorem dX2_otherPlaces_16 : decode cX2_otherPlaces 16 = .ok (.iload_n 3, 1) := by decide +kernel
theorem dX2_otherPlaces_17 : decode cX2_otherPlaces 17 = .ok (.aload_n 1, 1) := by decide +kernel
theorem dX2_otherPlaces_18 : decode cX2_otherPlaces 18 = .ok (.getfield 117, 3) := by decide +kernel
theorem dX2_otherPlaces_21 : decode cX2_otherPlaces 21 = .ok (.iload 4, 2) := by decide +kernel
theorem dX2_otherPlaces_23 : decode cX2_otherPlaces 23 = .ok (.iaload, 1) := by decide +kernel
theorem dX2_otherPlaces_24 : decode cX2_otherPlaces 24 = .ok (.aload_n 2, 1) := by decide +kernel
theorem dX2_otherPlaces_25 : decode cX2_otherPlaces 25 = .ok (.getfield 117, 3) := by decide +kernel
theorem dX2_otherPlaces_28 : decode cX2_otherPlaces 28 = .ok (.iload 4, 2) := by decide +kernel
theorem dX2_otherPlaces_30 : decode cX2_otherPlaces 30 = .ok (.iaload, 1) := by decide +kernel
theorem dX2_otherPlaces_31 : decode cX2_otherPlaces 31 = .ok (.if_icmp .ne 7, 3) := by decide +kernel
theorem dX2_otherPlaces_34 : decode cX2_otherPlaces 34 = .ok (.iconst 0, 1) := by decide +kernel
theorem dX2_otherPlaces_35 : decode cX2_otherPlaces 35 = .ok (.goto 7, 3) := by decide +kernel
theorem dX2_otherPlaces_38 : decode cX2_otherPlaces 38 = .ok (.iconst 1, 1) := by decide +kernel
theorem dX2_otherPlaces_39 : decode cX2_otherPlaces 39 = .ok (.iload 4, 2) := by decide +kernel
theorem dX2_otherPlaces_41 : decode cX2_otherPlaces 41 = .ok (.ishl, 1) := by decide +kernel
theorem dX2_otherPlaces_42 : decode cX2_otherPlaces 42 = .ok (.ior, 1) := by decide +kernel
theorem dX2_otherPlaces_43 : decode cX2_otherPlaces 43 = .ok (.istore_n 3, 1) := by decide +kernel
theorem dX2_otherPlaces_44 : decode cX2_otherPlaces 44 = .ok (.iinc 4 1, 3) := by decide +kernel
theorem dX2_otherPlaces_47 : decode cX2_otherPlaces 47 = .ok (.goto (-42), 3) := by decide +kernel
theorem dX2_otherPlaces_50 : decode cX2_otherPlaces 50 = .ok (.iload_n 3, 1) := by decide +kernel
theorem dX2_otherPlaces_51 : decode cX2_otherPlaces 51 = .ok (.ireturn, 1) := by decide +kernel
theorem dX2_unlikeness_0 : decode cX2_unlikeness 0 = .ok (.iconst 0, 1) := by decide +kernel
theorem dX2_unlikeness_1 : decode cX2_unlikeness 1 = .ok (.istore_n 3, 1) := by decide +kernel
theorem dX2_unlikeness_2 : decode cX2_unlikeness 2 = .ok (.iconst 0, 1) := by decide +kernel
theorem dX2_unlikeness_3 : decode cX2_unlikeness 3 = .ok (.istore 4, 2) := by decide +kernel
theorem dX2_unlikeness_5 : decode cX2_unlikeness 5 = .ok (.iload 4, 2) := by decide +kernel
theorem dX2_unlikeness_7 : decode cX2_unlikeness 7 = .ok (.iconst 3, 1) := by decide +kernel
theorem dX2_unlikeness_8 : decode cX2_unlikeness 8 = .ok (.aload_n 1, 1) := by decide +kernel
theorem dX2_unlikeness_9 : decode cX2_unlikeness 9 = .ok (.getfield 110, 3) := by decide +kernel
theorem dX2_unlikeness_12 : decode cX2_unlikeness 12 = .ok (.imul, 1) := by decide +kernel
theorem dX2_unlikeness_13 : decode cX2_unlikeness 13 = .ok (.if_icmp .ge 30, 3) := by decide +kernel
theorem dX2_unlikeness_16 : decode cX2_unlikeness 16 = .ok (.iload_n 3, 1) := by decide +kernel
theorem dX2_unlikeness_17 : decode cX2_unlikeness 17 = .ok (.aload_n 1, 1) := by decide +kernel
theorem dX2_unlikeness_18 : decode cX2_unlikeness 18 = .ok (.getfield 117, 3) := by decide +kernel
theorem dX2_unlikeness_21 : decode cX2_unlikeness 21 = .ok (.iload 4, 2) := by decide +kernel
theorem dX2_unlikeness_23 : decode cX2_unlikeness 23 = .ok (.iaload, 1) := by decide +kernel
theorem dX2_unlikeness_24 : decode cX2_unlikeness 24 = .ok (.aload_n 2, 1) := by decide +kernel
theorem dX2_unlikeness_25 : decode cX2_unlikeness 25 = .ok (.getfield 117, 3) := by decide +kernel
theorem dX2_unlikeness_28 : decode cX2_unlikeness 28 = .ok (.iload 4, 2) := by decide +kernel
theorem dX2_unlikeness_30 : decode cX2_unlikeness 30 = .ok (.iaload, 1) := by decide +kernel
theorem dX2_unlikeness_31 : decode cX2_unlikeness 31 = .ok (.isub, 1) := by decide +kernel
theorem dX2_unlikeness_32 : decode cX2_unlikeness 32 = .ok (.invokestatic 104, 3) := by decide +kernel
theorem dX2_unlikeness_35 : decode cX2_unlikeness 35 = .ok (.iadd, 1) := by decide +kernel
theorem dX2_unlikeness_36 : decode cX2_unlikeness 36 = .ok (.istore_n 3, 1) := by decide +kernel
theorem dX2_unlikeness_37 : decode cX2_unlikeness 37 = .ok (.iinc 4 1, 3) := by decide +kernel
theorem dX2_unlikeness_40 : decode cX2_unlikeness 40 = .ok (.goto (-35), 3) := by decide +kernel
theorem dX2_unlikeness_43 : decode cX2_unlikeness 43 = .ok (.iload_n 3, 1) := by decide +kernel
theorem dX2_unlikeness_44 : decode cX2_unlikeness 44 = .ok (.ireturn, 1) := by decide +kernel
theorem dX2_waysToPart_0 : decode cX2_waysToPart 0 = .ok (.iconst 0, 1) := by decide +kernel
theorem dX2_waysToPart_1 : decode cX2_waysToPart 1 = .ok (.istore 5, 2) := by decide +kernel
theorem dX2_waysToPart_3 : decode cX2_waysToPart 3 = .ok (.ldc 59, 2) := by decide +kernel
theorem dX2_waysToPart_5 : decode cX2_waysToPart 5 = .ok (.istore 6, 2) := by decide +kernel
theorem dX2_waysToPart_7 : decode cX2_waysToPart 7 = .ok (.bipush (-20), 2) := by decide +kernel
theorem dX2_waysToPart_9 : decode cX2_waysToPart 9 = .ok (.istore 7, 2) := by decide +kernel
theorem dX2_waysToPart_11 : decode cX2_waysToPart 11 = .ok (.iload 7, 2) := by decide +kernel
theorem dX2_waysToPart_13 : decode cX2_waysToPart 13 = .ok (.bipush 20, 2) := by decide +kernel
theorem dX2_waysToPart_15 : decode cX2_waysToPart 15 = .ok (.if_icmp .gt 84, 3) := by decide +kernel
theorem dX2_waysToPart_18 : decode cX2_waysToPart 18 = .ok (.iload 5, 2) := by decide +kernel
theorem dX2_waysToPart_20 : decode cX2_waysToPart 20 = .ok (.istore 8, 2) := by decide +kernel
theorem dX2_waysToPart_22 : decode cX2_waysToPart 22 = .ok (.iload_n 3, 1) := by decide +kernel
theorem dX2_waysToPart_23 : decode cX2_waysToPart 23 = .ok (.aload_n 1, 1) := by decide +kernel
theorem dX2_waysToPart_24 : decode cX2_waysToPart 24 = .ok (.iload 7, 2) := by decide +kernel
theorem dX2_waysToPart_26 : decode cX2_waysToPart 26 = .ok (.invokevirtual 97, 3) := by decide +kernel
theorem dX2_waysToPart_29 : decode cX2_waysToPart 29 = .ok (.isub, 1) := by decide +kernel
theorem dX2_waysToPart_30 : decode cX2_waysToPart 30 = .ok (.istore 9, 2) := by decide +kernel
theorem dX2_waysToPart_32 : decode cX2_waysToPart 32 = .ok (.bipush (-20), 2) := by decide +kernel
theorem dX2_waysToPart_34 : decode cX2_waysToPart 34 = .ok (.istore 10, 2) := by decide +kernel
theorem dX2_waysToPart_36 : decode cX2_waysToPart 36 = .ok (.iload 10, 2) := by decide +kernel
theorem dX2_waysToPart_38 : decode cX2_waysToPart 38 = .ok (.bipush 20, 2) := by decide +kernel
theorem dX2_waysToPart_40 : decode cX2_waysToPart 40 = .ok (.if_icmp .gt 30, 3) := by decide +kernel
theorem dX2_waysToPart_43 : decode cX2_waysToPart 43 = .ok (.iload 5, 2) := by decide +kernel
theorem dX2_waysToPart_45 : decode cX2_waysToPart 45 = .ok (.aload_n 2, 1) := by decide +kernel
theorem dX2_waysToPart_46 : decode cX2_waysToPart 46 = .ok (.iload 10, 2) := by decide +kernel
theorem dX2_waysToPart_48 : decode cX2_waysToPart 48 = .ok (.invokevirtual 97, 3) := by decide +kernel
theorem dX2_waysToPart_51 : decode cX2_waysToPart 51 = .ok (.iload 9, 2) := by decide +kernel
theorem dX2_waysToPart_53 : decode cX2_waysToPart 53 = .ok (.if_icmp .ne 7, 3) := by decide +kernel
theorem dX2_waysToPart_56 : decode cX2_waysToPart 56 = .ok (.iconst 1, 1) := by decide +kernel
theorem dX2_waysToPart_57 : decode cX2_waysToPart 57 = .ok (.goto 4, 3) := by decide +kernel
theorem dX2_waysToPart_60 : decode cX2_waysToPart 60 = .ok (.iconst 0, 1) := by decide +kernel
theorem dX2_waysToPart_61 : decode cX2_waysToPart 61 = .ok (.iadd, 1) := by decide +kernel
theorem dX2_waysToPart_62 : decode cX2_waysToPart 62 = .ok (.istore 5, 2) := by decide +kernel
theorem dX2_waysToPart_64 : decode cX2_waysToPart 64 = .ok (.iinc 10 1, 3) := by decide +kernel
theorem dX2_waysToPart_67 : decode cX2_waysToPart 67 = .ok (.goto (-31), 3) := by decide +kernel
theorem dX2_waysToPart_70 : decode cX2_waysToPart 70 = .ok (.iload 6, 2) := by decide +kernel
theorem dX2_waysToPart_72 : decode cX2_waysToPart 72 = .ok (.ldc 59, 2) := by decide +kernel
theorem dX2_waysToPart_74 : decode cX2_waysToPart 74 = .ok (.if_icmp .ne 15, 3) := by decide +kernel
theorem dX2_waysToPart_77 : decode cX2_waysToPart 77 = .ok (.iload 5, 2) := by decide +kernel
theorem dX2_waysToPart_79 : decode cX2_waysToPart 79 = .ok (.iload 8, 2) := by decide +kernel
theorem dX2_waysToPart_81 : decode cX2_waysToPart 81 = .ok (.if_icmp .le 8, 3) := by decide +kernel
theorem dX2_waysToPart_84 : decode cX2_waysToPart 84 = .ok (.iload 7, 2) := by decide +kernel
theorem dX2_waysToPart_86 : decode cX2_waysToPart 86 = .ok (.goto 5, 3) := by decide +kernel
theorem dX2_waysToPart_89 : decode cX2_waysToPart 89 = .ok (.iload 6, 2) := by decide +kernel
theorem dX2_waysToPart_91 : decode cX2_waysToPart 91 = .ok (.istore 6, 2) := by decide +kernel
theorem dX2_waysToPart_93 : decode cX2_waysToPart 93 = .ok (.iinc 7 1, 3) := by decide +kernel
theorem dX2_waysToPart_96 : decode cX2_waysToPart 96 = .ok (.goto (-85), 3) := by decide +kernel
theorem dX2_waysToPart_99 : decode cX2_waysToPart 99 = .ok (.iload 4, 2) := by decide +kernel
theorem dX2_waysToPart_101 : decode cX2_waysToPart 101 = .ok (.ifCond .ne 8, 3) := by decide +kernel
theorem dX2_waysToPart_104 : decode cX2_waysToPart 104 = .ok (.iload 5, 2) := by decide +kernel
theorem dX2_waysToPart_106 : decode cX2_waysToPart 106 = .ok (.goto 5, 3) := by decide +kernel
theorem dX2_waysToPart_109 : decode cX2_waysToPart 109 = .ok (.iload 6, 2) := by decide +kernel
theorem dX2_waysToPart_111 : decode cX2_waysToPart 111 = .ok (.ireturn, 1) := by decide +kernel
theorem dX2_fewestRepairs_0 : decode cX2_fewestRepairs 0 = .ok (.ldc 59, 2) := by decide +kernel
theorem dX2_fewestRepairs_2 : decode cX2_fewestRepairs 2 = .ok (.istore 4, 2) := by decide +kernel
theorem dX2_fewestRepairs_4 : decode cX2_fewestRepairs 4 = .ok (.iconst 0, 1) := by decide +kernel
theorem dX2_fewestRepairs_5 : decode cX2_fewestRepairs 5 = .ok (.istore 5, 2) := by decide +kernel
theorem dX2_fewestRepairs_7 : decode cX2_fewestRepairs 7 = .ok (.iload 5, 2) := by decide +kernel
theorem dX2_fewestRepairs_9 : decode cX2_fewestRepairs 9 = .ok (.bipush 8, 2) := by decide +kernel
theorem dX2_fewestRepairs_11 : decode cX2_fewestRepairs 11 = .ok (.if_icmp .ge 64, 3) := by decide +kernel
theorem dX2_fewestRepairs_14 : decode cX2_fewestRepairs 14 = .ok (.iload_n 3, 1) := by decide +kernel
theorem dX2_fewestRepairs_15 : decode cX2_fewestRepairs 15 = .ok (.aload_n 1, 1) := by decide +kernel
theorem dX2_fewestRepairs_16 : decode cX2_fewestRepairs 16 = .ok (.iload_n 2, 1) := by decide +kernel
theorem dX2_fewestRepairs_17 : decode cX2_fewestRepairs 17 = .ok (.iload 5, 2) := by decide +kernel
theorem dX2_fewestRepairs_19 : decode cX2_fewestRepairs 19 = .ok (.invokestatic 120, 3) := by decide +kernel
theorem dX2_fewestRepairs_22 : decode cX2_fewestRepairs 22 = .ok (.isub, 1) := by decide +kernel
theorem dX2_fewestRepairs_23 : decode cX2_fewestRepairs 23 = .ok (.istore 6, 2) := by decide +kernel
theorem dX2_fewestRepairs_25 : decode cX2_fewestRepairs 25 = .ok (.iload 6, 2) := by decide +kernel
theorem dX2_fewestRepairs_27 : decode cX2_fewestRepairs 27 = .ok (.ifCond .lt 20, 3) := by decide +kernel
theorem dX2_fewestRepairs_30 : decode cX2_fewestRepairs 30 = .ok (.iload 6, 2) := by decide +kernel
theorem dX2_fewestRepairs_32 : decode cX2_fewestRepairs 32 = .ok (.bipush 99, 2) := by decide +kernel
theorem dX2_fewestRepairs_34 : decode cX2_fewestRepairs 34 = .ok (.iload 5, 2) := by decide +kernel
theorem dX2_fewestRepairs_36 : decode cX2_fewestRepairs 36 = .ok (.invokestatic 63, 3) := by decide +kernel
theorem dX2_fewestRepairs_39 : decode cX2_fewestRepairs 39 = .ok (.imul, 1) := by decide +kernel
theorem dX2_fewestRepairs_40 : decode cX2_fewestRepairs 40 = .ok (.if_icmp .gt 7, 3) := by decide +kernel
theorem dX2_fewestRepairs_43 : decode cX2_fewestRepairs 43 = .ok (.iconst 1, 1) := by decide +kernel
theorem dX2_fewestRepairs_44 : decode cX2_fewestRepairs 44 = .ok (.goto 4, 3) := by decide +kernel
theorem dX2_fewestRepairs_47 : decode cX2_fewestRepairs 47 = .ok (.iconst 0, 1) := by decide +kernel
theorem dX2_fewestRepairs_48 : decode cX2_fewestRepairs 48 = .ok (.istore 7, 2) := by decide +kernel
theorem dX2_fewestRepairs_50 : decode cX2_fewestRepairs 50 = .ok (.iload 7, 2) := by decide +kernel
theorem dX2_fewestRepairs_52 : decode cX2_fewestRepairs 52 = .ok (.ifCond .eq 17, 3) := by decide +kernel
theorem dX2_fewestRepairs_55 : decode cX2_fewestRepairs 55 = .ok (.iload 5, 2) := by decide +kernel
theorem dX2_fewestRepairs_57 : decode cX2_fewestRepairs 57 = .ok (.iload 4, 2) := by decide +kernel
theorem dX2_fewestRepairs_59 : decode cX2_fewestRepairs 59 = .ok (.invokestatic 60, 3) := by decide +kernel
theorem dX2_fewestRepairs_62 : decode cX2_fewestRepairs 62 = .ok (.ifCond .eq 7, 3) := by decide +kernel
theorem dX2_fewestRepairs_65 : decode cX2_fewestRepairs 65 = .ok (.iload 5, 2) := by decide +kernel
theorem dX2_fewestRepairs_67 : decode cX2_fewestRepairs 67 = .ok (.istore 4, 2) := by decide +kernel
theorem dX2_fewestRepairs_69 : decode cX2_fewestRepairs 69 = .ok (.iinc 5 1, 3) := by decide +kernel
theorem dX2_fewestRepairs_72 : decode cX2_fewestRepairs 72 = .ok (.goto (-65), 3) := by decide +kernel
theorem dX2_fewestRepairs_75 : decode cX2_fewestRepairs 75 = .ok (.iload 4, 2) := by decide +kernel
theorem dX2_fewestRepairs_77 : decode cX2_fewestRepairs 77 = .ok (.ireturn, 1) := by decide +kernel
theorem dX2_sumWithout_0 : decode cX2_sumWithout 0 = .ok (.iconst 0, 1) := by decide +kernel
theorem dX2_sumWithout_1 : decode cX2_sumWithout 1 = .ok (.istore_n 3, 1) := by decide +kernel
theorem dX2_sumWithout_2 : decode cX2_sumWithout 2 = .ok (.iconst 0, 1) := by decide +kernel
theorem dX2_sumWithout_3 : decode cX2_sumWithout 3 = .ok (.istore 4, 2) := by decide +kernel
theorem dX2_sumWithout_5 : decode cX2_sumWithout 5 = .ok (.iload 4, 2) := by decide +kernel
theorem dX2_sumWithout_7 : decode cX2_sumWithout 7 = .ok (.iconst 3, 1) := by decide +kernel
theorem dX2_sumWithout_8 : decode cX2_sumWithout 8 = .ok (.if_icmp .ge 36, 3) := by decide +kernel
theorem dX2_sumWithout_11 : decode cX2_sumWithout 11 = .ok (.iload_n 3, 1) := by decide +kernel
theorem dX2_sumWithout_12 : decode cX2_sumWithout 12 = .ok (.iload_n 2, 1) := by decide +kernel
theorem dX2_sumWithout_13 : decode cX2_sumWithout 13 = .ok (.iload 4, 2) := by decide +kernel
theorem dX2_sumWithout_15 : decode cX2_sumWithout 15 = .ok (.invokestatic 56, 3) := by decide +kernel
theorem dX2_sumWithout_18 : decode cX2_sumWithout 18 = .ok (.ifCond .eq 7, 3) := by decide +kernel
theorem dX2_sumWithout_21 : decode cX2_sumWithout 21 = .ok (.iconst 0, 1) := by decide +kernel
theorem dX2_sumWithout_22 : decode cX2_sumWithout 22 = .ok (.goto 14, 3) := by decide +kernel
theorem dX2_sumWithout_25 : decode cX2_sumWithout 25 = .ok (.aload_n 0, 1) := by decide +kernel
theorem dX2_sumWithout_26 : decode cX2_sumWithout 26 = .ok (.getfield 117, 3) := by decide +kernel
theorem dX2_sumWithout_29 : decode cX2_sumWithout 29 = .ok (.iload_n 1, 1) := by decide +kernel
theorem dX2_sumWithout_30 : decode cX2_sumWithout 30 = .ok (.iload 4, 2) := by decide +kernel
theorem dX2_sumWithout_32 : decode cX2_sumWithout 32 = .ok (.invokestatic 53, 3) := by decide +kernel
theorem dX2_sumWithout_35 : decode cX2_sumWithout 35 = .ok (.iaload, 1) := by decide +kernel
theorem dX2_sumWithout_36 : decode cX2_sumWithout 36 = .ok (.iadd, 1) := by decide +kernel
theorem dX2_sumWithout_37 : decode cX2_sumWithout 37 = .ok (.istore_n 3, 1) := by decide +kernel
theorem dX2_sumWithout_38 : decode cX2_sumWithout 38 = .ok (.iinc 4 1, 3) := by decide +kernel
theorem dX2_sumWithout_41 : decode cX2_sumWithout 41 = .ok (.goto (-36), 3) := by decide +kernel
theorem dX2_sumWithout_44 : decode cX2_sumWithout 44 = .ok (.iload_n 3, 1) := by decide +kernel
theorem dX2_sumWithout_45 : decode cX2_sumWithout 45 = .ok (.ireturn, 1) := by decide +kernel
theorem dX2_feltNeeded_0 : decode cX2_feltNeeded 0 = .ok (.aload_n 1, 1) := by decide +kernel
theorem dX2_feltNeeded_1 : decode cX2_feltNeeded 1 = .ok (.iload_n 2, 1) := by decide +kernel
theorem dX2_feltNeeded_2 : decode cX2_feltNeeded 2 = .ok (.iconst 1, 1) := by decide +kernel
theorem dX2_feltNeeded_3 : decode cX2_feltNeeded 3 = .ok (.aload_n 1, 1) := by decide +kernel
theorem dX2_feltNeeded_4 : decode cX2_feltNeeded 4 = .ok (.getfield 110, 3) := by decide +kernel
theorem dX2_feltNeeded_7 : decode cX2_feltNeeded 7 = .ok (.ishl, 1) := by decide +kernel
theorem dX2_feltNeeded_8 : decode cX2_feltNeeded 8 = .ok (.iconst 1, 1) := by decide +kernel
theorem dX2_feltNeeded_9 : decode cX2_feltNeeded 9 = .ok (.isub, 1) := by decide +kernel
theorem dX2_feltNeeded_10 : decode cX2_feltNeeded 10 = .ok (.invokestatic 124, 3) := by decide +kernel
theorem dX2_feltNeeded_13 : decode cX2_feltNeeded 13 = .ok (.ireturn, 1) := by decide +kernel
theorem dX2_stripsOf_0 : decode cX2_stripsOf 0 = .ok (.iconst 0, 1) := by decide +kernel
theorem dX2_stripsOf_1 : decode cX2_stripsOf 1 = .ok (.istore_n 3, 1) := by decide +kernel
theorem dX2_stripsOf_2 : decode cX2_stripsOf 2 = .ok (.iconst 0, 1) := by decide +kernel
theorem dX2_stripsOf_3 : decode cX2_stripsOf 3 = .ok (.istore 4, 2) := by decide +kernel
theorem dX2_stripsOf_5 : decode cX2_stripsOf 5 = .ok (.iload 4, 2) := by decide +kernel
theorem dX2_stripsOf_7 : decode cX2_stripsOf 7 = .ok (.aload_n 0, 1) := by decide +kernel
theorem dX2_stripsOf_8 : decode cX2_stripsOf 8 = .ok (.getfield 110, 3) := by decide +kernel
theorem dX2_stripsOf_11 : decode cX2_stripsOf 11 = .ok (.if_icmp .ge 44, 3) := by decide +kernel
theorem dX2_stripsOf_14 : decode cX2_stripsOf 14 = .ok (.aload_n 0, 1) := by decide +kernel
theorem dX2_stripsOf_15 : decode cX2_stripsOf 15 = .ok (.getfield 117, 3) := by decide +kernel
theorem dX2_stripsOf_18 : decode cX2_stripsOf 18 = .ok (.iload 4, 2) := by decide +kernel
theorem dX2_stripsOf_20 : decode cX2_stripsOf 20 = .ok (.iload_n 1, 1) := by decide +kernel
theorem dX2_stripsOf_21 : decode cX2_stripsOf 21 = .ok (.invokestatic 53, 3) := by decide +kernel
theorem dX2_stripsOf_24 : decode cX2_stripsOf 24 = .ok (.iaload, 1) := by decide +kernel
theorem dX2_stripsOf_25 : decode cX2_stripsOf 25 = .ok (.iconst 0, 1) := by decide +kernel
theorem dX2_stripsOf_26 : decode cX2_stripsOf 26 = .ok (.invokestatic 69, 3) := by decide +kernel
theorem dX2_stripsOf_29 : decode cX2_stripsOf 29 = .ok (.istore 5, 2) := by decide +kernel
theorem dX2_stripsOf_31 : decode cX2_stripsOf 31 = .ok (.iload_n 3, 1) := by decide +kernel
theorem dX2_stripsOf_32 : decode cX2_stripsOf 32 = .ok (.iload_n 2, 1) := by decide +kernel
theorem dX2_stripsOf_33 : decode cX2_stripsOf 33 = .ok (.iload 4, 2) := by decide +kernel
theorem dX2_stripsOf_35 : decode cX2_stripsOf 35 = .ok (.invokestatic 56, 3) := by decide +kernel
theorem dX2_stripsOf_38 : decode cX2_stripsOf 38 = .ok (.ifCond .eq 8, 3) := by decide +kernel
theorem dX2_stripsOf_41 : decode cX2_stripsOf 41 = .ok (.iload 5, 2) := by decide +kernel
theorem dX2_stripsOf_43 : decode cX2_stripsOf 43 = .ok (.goto 4, 3) := by decide +kernel
theorem dX2_stripsOf_46 : decode cX2_stripsOf 46 = .ok (.iconst 0, 1) := by decide +kernel
theorem dX2_stripsOf_47 : decode cX2_stripsOf 47 = .ok (.iadd, 1) := by decide +kernel
theorem dX2_stripsOf_48 : decode cX2_stripsOf 48 = .ok (.istore_n 3, 1) := by decide +kernel
theorem dX2_stripsOf_49 : decode cX2_stripsOf 49 = .ok (.iinc 4 1, 3) := by decide +kernel
theorem dX2_stripsOf_52 : decode cX2_stripsOf 52 = .ok (.goto (-47), 3) := by decide +kernel
theorem dX2_stripsOf_55 : decode cX2_stripsOf 55 = .ok (.iload_n 3, 1) := by decide +kernel
theorem dX2_stripsOf_56 : decode cX2_stripsOf 56 = .ok (.ireturn, 1) := by decide +kernel
theorem dX2_fewestBolts_0 : decode cX2_fewestBolts 0 = .ok (.iconst 1, 1) := by decide +kernel
theorem dX2_fewestBolts_1 : decode cX2_fewestBolts 1 = .ok (.aload_n 1, 1) := by decide +kernel
theorem dX2_fewestBolts_2 : decode cX2_fewestBolts 2 = .ok (.getfield 110, 3) := by decide +kernel
theorem dX2_fewestBolts_5 : decode cX2_fewestBolts 5 = .ok (.ishl, 1) := by decide +kernel
theorem dX2_fewestBolts_6 : decode cX2_fewestBolts 6 = .ok (.iconst 1, 1) := by decide +kernel
theorem dX2_fewestBolts_7 : decode cX2_fewestBolts 7 = .ok (.isub, 1) := by decide +kernel
theorem dX2_fewestBolts_8 : decode cX2_fewestBolts 8 = .ok (.istore 4, 2) := by decide +kernel
theorem dX2_fewestBolts_10 : decode cX2_fewestBolts 10 = .ok (.aload_n 0, 1) := by decide +kernel
theorem dX2_fewestBolts_11 : decode cX2_fewestBolts 11 = .ok (.getfield 15, 3) := by decide +kernel
theorem dX2_fewestBolts_14 : decode cX2_fewestBolts 14 = .ok (.iconst 0, 1) := by decide +kernel
theorem dX2_fewestBolts_15 : decode cX2_fewestBolts 15 = .ok (.iconst 0, 1) := by decide +kernel
theorem dX2_fewestBolts_16 : decode cX2_fewestBolts 16 = .ok (.iastore, 1) := by decide +kernel
theorem dX2_fewestBolts_17 : decode cX2_fewestBolts 17 = .ok (.iconst 1, 1) := by decide +kernel
theorem dX2_fewestBolts_18 : decode cX2_fewestBolts 18 = .ok (.istore 5, 2) := by decide +kernel
theorem dX2_fewestBolts_20 : decode cX2_fewestBolts 20 = .ok (.iload 5, 2) := by decide +kernel
theorem dX2_fewestBolts_22 : decode cX2_fewestBolts 22 = .ok (.iload 4, 2) := by decide +kernel
theorem dX2_fewestBolts_24 : decode cX2_fewestBolts 24 = .ok (.if_icmp .gt 111, 3) := by decide +kernel
theorem dX2_fewestBolts_27 : decode cX2_fewestBolts 27 = .ok (.aload_n 0, 1) := by decide +kernel
theorem dX2_fewestBolts_28 : decode cX2_fewestBolts 28 = .ok (.getfield 15, 3) := by decide +kernel
theorem dX2_fewestBolts_31 : decode cX2_fewestBolts 31 = .ok (.iload 5, 2) := by decide +kernel
theorem dX2_fewestBolts_33 : decode cX2_fewestBolts 33 = .ok (.aload_n 1, 1) := by decide +kernel
theorem dX2_fewestBolts_34 : decode cX2_fewestBolts 34 = .ok (.iload_n 2, 1) := by decide +kernel
theorem dX2_fewestBolts_35 : decode cX2_fewestBolts 35 = .ok (.iload 5, 2) := by decide +kernel
theorem dX2_fewestBolts_37 : decode cX2_fewestBolts 37 = .ok (.invokestatic 124, 3) := by decide +kernel
theorem dX2_fewestBolts_40 : decode cX2_fewestBolts 40 = .ok (.ifCond .ne 7, 3) := by decide +kernel
theorem dX2_fewestBolts_43 : decode cX2_fewestBolts 43 = .ok (.iconst 0, 1) := by decide +kernel
theorem dX2_fewestBolts_44 : decode cX2_fewestBolts 44 = .ok (.goto 5, 3) := by decide +kernel
theorem dX2_fewestBolts_47 : decode cX2_fewestBolts 47 = .ok (.ldc 59, 2) := by decide +kernel
theorem dX2_fewestBolts_49 : decode cX2_fewestBolts 49 = .ok (.iastore, 1) := by decide +kernel
theorem dX2_fewestBolts_50 : decode cX2_fewestBolts 50 = .ok (.iconst 1, 1) := by decide +kernel
theorem dX2_fewestBolts_51 : decode cX2_fewestBolts 51 = .ok (.istore 6, 2) := by decide +kernel
theorem dX2_fewestBolts_53 : decode cX2_fewestBolts 53 = .ok (.iload 6, 2) := by decide +kernel
theorem dX2_fewestBolts_55 : decode cX2_fewestBolts 55 = .ok (.iload 5, 2) := by decide +kernel
theorem dX2_fewestBolts_57 : decode cX2_fewestBolts 57 = .ok (.if_icmp .gt 72, 3) := by decide +kernel
theorem dX2_fewestBolts_60 : decode cX2_fewestBolts 60 = .ok (.aload_n 0, 1) := by decide +kernel
theorem dX2_fewestBolts_61 : decode cX2_fewestBolts 61 = .ok (.getfield 15, 3) := by decide +kernel
theorem dX2_fewestBolts_64 : decode cX2_fewestBolts 64 = .ok (.iload 5, 2) := by decide +kernel
theorem dX2_fewestBolts_66 : decode cX2_fewestBolts 66 = .ok (.iload 6, 2) := by decide +kernel
theorem dX2_fewestBolts_68 : decode cX2_fewestBolts 68 = .ok (.iconst (-1), 1) := by decide +kernel
theorem dX2_fewestBolts_69 : decode cX2_fewestBolts 69 = .ok (.ixor, 1) := by decide +kernel
theorem dX2_fewestBolts_70 : decode cX2_fewestBolts 70 = .ok (.iand, 1) := by decide +kernel
theorem dX2_fewestBolts_71 : decode cX2_fewestBolts 71 = .ok (.iaload, 1) := by decide +kernel
theorem dX2_fewestBolts_72 : decode cX2_fewestBolts 72 = .ok (.istore 7, 2) := by decide +kernel
theorem dX2_fewestBolts_74 : decode cX2_fewestBolts 74 = .ok (.iload 6, 2) := by decide +kernel
theorem dX2_fewestBolts_76 : decode cX2_fewestBolts 76 = .ok (.iload 5, 2) := by decide +kernel
theorem dX2_fewestBolts_78 : decode cX2_fewestBolts 78 = .ok (.iconst (-1), 1) := by decide +kernel
theorem dX2_fewestBolts_79 : decode cX2_fewestBolts 79 = .ok (.ixor, 1) := by decide +kernel
theorem dX2_fewestBolts_80 : decode cX2_fewestBolts 80 = .ok (.iand, 1) := by decide +kernel
theorem dX2_fewestBolts_81 : decode cX2_fewestBolts 81 = .ok (.ifCond .ne 42, 3) := by decide +kernel
theorem dX2_fewestBolts_84 : decode cX2_fewestBolts 84 = .ok (.iload 7, 2) := by decide +kernel
theorem dX2_fewestBolts_86 : decode cX2_fewestBolts 86 = .ok (.ldc 59, 2) := by decide +kernel
theorem dX2_fewestBolts_88 : decode cX2_fewestBolts 88 = .ok (.if_icmp .eq 35, 3) := by decide +kernel
theorem dX2_fewestBolts_91 : decode cX2_fewestBolts 91 = .ok (.aload_n 1, 1) := by decide +kernel
theorem dX2_fewestBolts_92 : decode cX2_fewestBolts 92 = .ok (.iload_n 2, 1) := by decide +kernel
theorem dX2_fewestBolts_93 : decode cX2_fewestBolts 93 = .ok (.iload 6, 2) := by decide +kernel
theorem dX2_fewestBolts_95 : decode cX2_fewestBolts 95 = .ok (.invokestatic 124, 3) := by decide +kernel
theorem dX2_fewestBolts_98 : decode cX2_fewestBolts 98 = .ok (.iload_n 3, 1) := by decide +kernel
theorem dX2_fewestBolts_99 : decode cX2_fewestBolts 99 = .ok (.if_icmp .gt 24, 3) := by decide +kernel
theorem dX2_fewestBolts_102 : decode cX2_fewestBolts 102 = .ok (.aload_n 0, 1) := by decide +kernel
theorem dX2_fewestBolts_103 : decode cX2_fewestBolts 103 = .ok (.getfield 15, 3) := by decide +kernel
theorem dX2_fewestBolts_106 : decode cX2_fewestBolts 106 = .ok (.iload 5, 2) := by decide +kernel
theorem dX2_fewestBolts_108 : decode cX2_fewestBolts 108 = .ok (.aload_n 0, 1) := by decide +kernel
theorem dX2_fewestBolts_109 : decode cX2_fewestBolts 109 = .ok (.getfield 15, 3) := by decide +kernel
theorem dX2_fewestBolts_112 : decode cX2_fewestBolts 112 = .ok (.iload 5, 2) := by decide +kernel
theorem dX2_fewestBolts_114 : decode cX2_fewestBolts 114 = .ok (.iaload, 1) := by decide +kernel
theorem dX2_fewestBolts_115 : decode cX2_fewestBolts 115 = .ok (.iload 7, 2) := by decide +kernel
theorem dX2_fewestBolts_117 : decode cX2_fewestBolts 117 = .ok (.iconst 1, 1) := by decide +kernel
theorem dX2_fewestBolts_118 : decode cX2_fewestBolts 118 = .ok (.iadd, 1) := by decide +kernel
theorem dX2_fewestBolts_119 : decode cX2_fewestBolts 119 = .ok (.invokestatic 127, 3) := by decide +kernel
theorem dX2_fewestBolts_122 : decode cX2_fewestBolts 122 = .ok (.iastore, 1) := by decide +kernel
theorem dX2_fewestBolts_123 : decode cX2_fewestBolts 123 = .ok (.iinc 6 1, 3) := by decide +kernel
theorem dX2_fewestBolts_126 : decode cX2_fewestBolts 126 = .ok (.goto (-73), 3) := by decide +kernel
theorem dX2_fewestBolts_129 : decode cX2_fewestBolts 129 = .ok (.iinc 5 1, 3) := by decide +kernel
theorem dX2_fewestBolts_132 : decode cX2_fewestBolts 132 = .ok (.goto (-112), 3) := by decide +kernel
theorem dX2_fewestBolts_135 : decode cX2_fewestBolts 135 = .ok (.aload_n 0, 1) := by decide +kernel
theorem dX2_fewestBolts_136 : decode cX2_fewestBolts 136 = .ok (.getfield 15, 3) := by decide +kernel
theorem dX2_fewestBolts_139 : decode cX2_fewestBolts 139 = .ok (.iload 4, 2) := by decide +kernel
theorem dX2_fewestBolts_141 : decode cX2_fewestBolts 141 = .ok (.iaload, 1) := by decide +kernel
theorem dX2_fewestBolts_142 : decode cX2_fewestBolts 142 = .ok (.ireturn, 1) := by decide +kernel
theorem dX2_fewer_0 : decode cX2_fewer 0 = .ok (.iload_n 0, 1) := by decide +kernel
theorem dX2_fewer_1 : decode cX2_fewer 1 = .ok (.ldc 59, 2) := by decide +kernel
theorem dX2_fewer_3 : decode cX2_fewer 3 = .ok (.if_icmp .ne 7, 3) := by decide +kernel
theorem dX2_fewer_6 : decode cX2_fewer 6 = .ok (.iload_n 1, 1) := by decide +kernel
theorem dX2_fewer_7 : decode cX2_fewer 7 = .ok (.goto 8, 3) := by decide +kernel
theorem dX2_fewer_10 : decode cX2_fewer 10 = .ok (.iload_n 0, 1) := by decide +kernel
theorem dX2_fewer_11 : decode cX2_fewer 11 = .ok (.iload_n 1, 1) := by decide +kernel
theorem dX2_fewer_12 : decode cX2_fewer 12 = .ok (.invokestatic 130, 3) := by decide +kernel
theorem dX2_fewer_15 : decode cX2_fewer 15 = .ok (.ireturn, 1) := by decide +kernel
theorem dX2_partnerOfFirst_0 : decode cX2_partnerOfFirst 0 = .ok (.aload_n 1, 1) := by decide +kernel
theorem dX2_partnerOfFirst_1 : decode cX2_partnerOfFirst 1 = .ok (.getfield 110, 3) := by decide +kernel
theorem dX2_partnerOfFirst_4 : decode cX2_partnerOfFirst 4 = .ok (.iconst 2, 1) := by decide +kernel
theorem dX2_partnerOfFirst_5 : decode cX2_partnerOfFirst 5 = .ok (.irem, 1) := by decide +kernel
theorem dX2_partnerOfFirst_6 : decode cX2_partnerOfFirst 6 = .ok (.iconst 1, 1) := by decide +kernel
theorem dX2_partnerOfFirst_7 : decode cX2_partnerOfFirst 7 = .ok (.if_icmp .ne 10, 3) := by decide +kernel
theorem dX2_partnerOfFirst_10 : decode cX2_partnerOfFirst 10 = .ok (.aload_n 1, 1) := by decide +kernel
theorem dX2_partnerOfFirst_11 : decode cX2_partnerOfFirst 11 = .ok (.getfield 110, 3) := by decide +kernel
theorem dX2_partnerOfFirst_14 : decode cX2_partnerOfFirst 14 = .ok (.goto 9, 3) := by decide +kernel
theorem dX2_partnerOfFirst_17 : decode cX2_partnerOfFirst 17 = .ok (.aload_n 1, 1) := by decide +kernel
theorem dX2_partnerOfFirst_18 : decode cX2_partnerOfFirst 18 = .ok (.getfield 110, 3) := by decide +kernel
theorem dX2_partnerOfFirst_21 : decode cX2_partnerOfFirst 21 = .ok (.iconst 1, 1) := by decide +kernel
theorem dX2_partnerOfFirst_22 : decode cX2_partnerOfFirst 22 = .ok (.isub, 1) := by decide +kernel
theorem dX2_partnerOfFirst_23 : decode cX2_partnerOfFirst 23 = .ok (.istore_n 2, 1) := by decide +kernel
theorem dX2_partnerOfFirst_24 : decode cX2_partnerOfFirst 24 = .ok (.iconst 1, 1) := by decide +kernel
theorem dX2_partnerOfFirst_25 : decode cX2_partnerOfFirst 25 = .ok (.istore_n 3, 1) := by decide +kernel
theorem dX2_partnerOfFirst_26 : decode cX2_partnerOfFirst 26 = .ok (.iconst 2, 1) := by decide +kernel
theorem dX2_partnerOfFirst_27 : decode cX2_partnerOfFirst 27 = .ok (.istore 4, 2) := by decide +kernel
theorem dX2_partnerOfFirst_29 : decode cX2_partnerOfFirst 29 = .ok (.iload 4, 2) := by decide +kernel
theorem dX2_partnerOfFirst_31 : decode cX2_partnerOfFirst 31 = .ok (.iload_n 2, 1) := by decide +kernel
theorem dX2_partnerOfFirst_32 : decode cX2_partnerOfFirst 32 = .ok (.if_icmp .gt 28, 3) := by decide +kernel
theorem dX2_partnerOfFirst_35 : decode cX2_partnerOfFirst 35 = .ok (.aload_n 0, 1) := by decide +kernel
theorem dX2_partnerOfFirst_36 : decode cX2_partnerOfFirst 36 = .ok (.aload_n 1, 1) := by decide +kernel
theorem dX2_partnerOfFirst_37 : decode cX2_partnerOfFirst 37 = .ok (.iload 4, 2) := by decide +kernel
theorem dX2_partnerOfFirst_39 : decode cX2_partnerOfFirst 39 = .ok (.invokevirtual 133, 3) := by decide +kernel
theorem dX2_partnerOfFirst_42 : decode cX2_partnerOfFirst 42 = .ok (.aload_n 0, 1) := by decide +kernel
theorem dX2_partnerOfFirst_43 : decode cX2_partnerOfFirst 43 = .ok (.aload_n 1, 1) := by decide +kernel
theorem dX2_partnerOfFirst_44 : decode cX2_partnerOfFirst 44 = .ok (.iload_n 3, 1) := by decide +kernel
theorem dX2_partnerOfFirst_45 : decode cX2_partnerOfFirst 45 = .ok (.invokevirtual 133, 3) := by decide +kernel
theorem dX2_partnerOfFirst_48 : decode cX2_partnerOfFirst 48 = .ok (.if_icmp .ge 6, 3) := by decide +kernel
theorem dX2_partnerOfFirst_51 : decode cX2_partnerOfFirst 51 = .ok (.iload 4, 2) := by decide +kernel
theorem dX2_partnerOfFirst_53 : decode cX2_partnerOfFirst 53 = .ok (.istore_n 3, 1) := by decide +kernel
theorem dX2_partnerOfFirst_54 : decode cX2_partnerOfFirst 54 = .ok (.iinc 4 1, 3) := by decide +kernel
theorem dX2_partnerOfFirst_57 : decode cX2_partnerOfFirst 57 = .ok (.goto (-28), 3) := by decide +kernel
theorem dX2_partnerOfFirst_60 : decode cX2_partnerOfFirst 60 = .ok (.iload_n 3, 1) := by decide +kernel
theorem dX2_partnerOfFirst_61 : decode cX2_partnerOfFirst 61 = .ok (.ireturn, 1) := by decide +kernel
theorem dX2_unlikePairs_0 : decode cX2_unlikePairs 0 = .ok (.aload_n 1, 1) := by decide +kernel
theorem dX2_unlikePairs_1 : decode cX2_unlikePairs 1 = .ok (.iload_n 2, 1) := by decide +kernel
theorem dX2_unlikePairs_2 : decode cX2_unlikePairs 2 = .ok (.iconst 0, 1) := by decide +kernel
theorem dX2_unlikePairs_3 : decode cX2_unlikePairs 3 = .ok (.invokestatic 137, 3) := by decide +kernel
theorem dX2_unlikePairs_6 : decode cX2_unlikePairs 6 = .ok (.istore_n 3, 1) := by decide +kernel
theorem dX2_unlikePairs_7 : decode cX2_unlikePairs 7 = .ok (.iload_n 3, 1) := by decide +kernel
theorem dX2_unlikePairs_8 : decode cX2_unlikePairs 8 = .ok (.ldc 59, 2) := by decide +kernel
theorem dX2_unlikePairs_10 : decode cX2_unlikePairs 10 = .ok (.if_icmp .ne 8, 3) := by decide +kernel
theorem dX2_unlikePairs_13 : decode cX2_unlikePairs 13 = .ok (.ldc 59, 2) := by decide +kernel
theorem dX2_unlikePairs_15 : decode cX2_unlikePairs 15 = .ok (.goto 9, 3) := by decide +kernel
theorem dX2_unlikePairs_18 : decode cX2_unlikePairs 18 = .ok (.aload_n 1, 1) := by decide +kernel
theorem dX2_unlikePairs_19 : decode cX2_unlikePairs 19 = .ok (.iload_n 2, 1) := by decide +kernel
theorem dX2_unlikePairs_20 : decode cX2_unlikePairs 20 = .ok (.iload_n 3, 1) := by decide +kernel
theorem dX2_unlikePairs_21 : decode cX2_unlikePairs 21 = .ok (.invokestatic 137, 3) := by decide +kernel
theorem dX2_unlikePairs_24 : decode cX2_unlikePairs 24 = .ok (.istore 4, 2) := by decide +kernel
theorem dX2_unlikePairs_26 : decode cX2_unlikePairs 26 = .ok (.aload_n 1, 1) := by decide +kernel
theorem dX2_unlikePairs_27 : decode cX2_unlikePairs 27 = .ok (.iconst 0, 1) := by decide +kernel
theorem dX2_unlikePairs_28 : decode cX2_unlikePairs 28 = .ok (.iload_n 2, 1) := by decide +kernel
theorem dX2_unlikePairs_29 : decode cX2_unlikePairs 29 = .ok (.invokestatic 140, 3) := by decide +kernel
theorem dX2_unlikePairs_32 : decode cX2_unlikePairs 32 = .ok (.aload_n 1, 1) := by decide +kernel
theorem dX2_unlikePairs_33 : decode cX2_unlikePairs 33 = .ok (.iload_n 3, 1) := by decide +kernel
theorem dX2_unlikePairs_34 : decode cX2_unlikePairs 34 = .ok (.iload 4, 2) := by decide +kernel
theorem dX2_unlikePairs_36 : decode cX2_unlikePairs 36 = .ok (.invokestatic 140, 3) := by decide +kernel
theorem dX2_unlikePairs_39 : decode cX2_unlikePairs 39 = .ok (.iadd, 1) := by decide +kernel
theorem dX2_unlikePairs_40 : decode cX2_unlikePairs 40 = .ok (.ireturn, 1) := by decide +kernel
theorem dX2_partnerOf_0 : decode cX2_partnerOf 0 = .ok (.iload_n 3, 1) := by decide +kernel
theorem dX2_partnerOf_1 : decode cX2_partnerOf 1 = .ok (.ifCond .ne 18, 3) := by decide +kernel
theorem dX2_partnerOf_4 : decode cX2_partnerOf 4 = .ok (.aload_n 1, 1) := by decide +kernel
theorem dX2_partnerOf_5 : decode cX2_partnerOf 5 = .ok (.iload_n 2, 1) := by decide +kernel
theorem dX2_partnerOf_6 : decode cX2_partnerOf 6 = .ok (.invokevirtual 143, 3) := by decide +kernel
theorem dX2_partnerOf_9 : decode cX2_partnerOf 9 = .ok (.ifCond .eq 7, 3) := by decide +kernel
theorem dX2_partnerOf_12 : decode cX2_partnerOf 12 = .ok (.iload_n 2, 1) := by decide +kernel
theorem dX2_partnerOf_13 : decode cX2_partnerOf 13 = .ok (.goto 5, 3) := by decide +kernel
theorem dX2_partnerOf_16 : decode cX2_partnerOf 16 = .ok (.ldc 59, 2) := by decide +kernel
theorem dX2_partnerOf_18 : decode cX2_partnerOf 18 = .ok (.ireturn, 1) := by decide +kernel
theorem dX2_partnerOf_19 : decode cX2_partnerOf 19 = .ok (.iload_n 3, 1) := by decide +kernel
theorem dX2_partnerOf_20 : decode cX2_partnerOf 20 = .ok (.iload_n 2, 1) := by decide +kernel
theorem dX2_partnerOf_21 : decode cX2_partnerOf 21 = .ok (.if_icmp .ne 7, 3) := by decide +kernel
theorem dX2_partnerOf_24 : decode cX2_partnerOf 24 = .ok (.iconst 0, 1) := by decide +kernel
theorem dX2_partnerOf_25 : decode cX2_partnerOf 25 = .ok (.goto 9, 3) := by decide +kernel
theorem dX2_partnerOf_28 : decode cX2_partnerOf 28 = .ok (.aload_n 1, 1) := by decide +kernel
theorem dX2_partnerOf_29 : decode cX2_partnerOf 29 = .ok (.iload_n 2, 1) := by decide +kernel
theorem dX2_partnerOf_30 : decode cX2_partnerOf 30 = .ok (.iload_n 3, 1) := by decide +kernel
theorem dX2_partnerOf_31 : decode cX2_partnerOf 31 = .ok (.invokestatic 137, 3) := by decide +kernel
theorem dX2_partnerOf_34 : decode cX2_partnerOf 34 = .ok (.ireturn, 1) := by decide +kernel
theorem dX2_restBut_0 : decode cX2_restBut 0 = .ok (.iconst 1, 1) := by decide +kernel
theorem dX2_restBut_1 : decode cX2_restBut 1 = .ok (.istore_n 3, 1) := by decide +kernel
theorem dX2_restBut_2 : decode cX2_restBut 2 = .ok (.iload_n 3, 1) := by decide +kernel
theorem dX2_restBut_3 : decode cX2_restBut 3 = .ok (.aload_n 0, 1) := by decide +kernel
theorem dX2_restBut_4 : decode cX2_restBut 4 = .ok (.getfield 110, 3) := by decide +kernel
theorem dX2_restBut_7 : decode cX2_restBut 7 = .ok (.if_icmp .ge 21, 3) := by decide +kernel
theorem dX2_restBut_10 : decode cX2_restBut 10 = .ok (.iload_n 3, 1) := by decide +kernel
theorem dX2_restBut_11 : decode cX2_restBut 11 = .ok (.iload_n 1, 1) := by decide +kernel
theorem dX2_restBut_12 : decode cX2_restBut 12 = .ok (.if_icmp .eq 10, 3) := by decide +kernel
theorem dX2_restBut_15 : decode cX2_restBut 15 = .ok (.iload_n 3, 1) := by decide +kernel
theorem dX2_restBut_16 : decode cX2_restBut 16 = .ok (.iload_n 2, 1) := by decide +kernel
theorem dX2_restBut_17 : decode cX2_restBut 17 = .ok (.if_icmp .eq 5, 3) := by decide +kernel
theorem dX2_restBut_20 : decode cX2_restBut 20 = .ok (.iload_n 3, 1) := by decide +kernel
theorem dX2_restBut_21 : decode cX2_restBut 21 = .ok (.ireturn, 1) := by decide +kernel
theorem dX2_restBut_22 : decode cX2_restBut 22 = .ok (.iinc 3 1, 3) := by decide +kernel
theorem dX2_restBut_25 : decode cX2_restBut 25 = .ok (.goto (-23), 3) := by decide +kernel
theorem dX2_restBut_28 : decode cX2_restBut 28 = .ok (.ldc 59, 2) := by decide +kernel
theorem dX2_restBut_30 : decode cX2_restBut 30 = .ok (.ireturn, 1) := by decide +kernel
theorem dX2_unlike_0 : decode cX2_unlike 0 = .ok (.aload_n 0, 1) := by decide +kernel
theorem dX2_unlike_1 : decode cX2_unlike 1 = .ok (.iload_n 1, 1) := by decide +kernel
theorem dX2_unlike_2 : decode cX2_unlike 2 = .ok (.invokevirtual 143, 3) := by decide +kernel
theorem dX2_unlike_5 : decode cX2_unlike 5 = .ok (.ifCond .eq 11, 3) := by decide +kernel
theorem dX2_unlike_8 : decode cX2_unlike 8 = .ok (.aload_n 0, 1) := by decide +kernel
theorem dX2_unlike_9 : decode cX2_unlike 9 = .ok (.iload_n 2, 1) := by decide +kernel
theorem dX2_unlike_10 : decode cX2_unlike 10 = .ok (.invokevirtual 143, 3) := by decide +kernel
theorem dX2_unlike_13 : decode cX2_unlike 13 = .ok (.ifCond .ne 5, 3) := by decide +kernel
theorem dX2_unlike_16 : decode cX2_unlike 16 = .ok (.iconst 0, 1) := by decide +kernel
theorem dX2_unlike_17 : decode cX2_unlike 17 = .ok (.ireturn, 1) := by decide +kernel
theorem dX2_unlike_18 : decode cX2_unlike 18 = .ok (.iconst 0, 1) := by decide +kernel
theorem dX2_unlike_19 : decode cX2_unlike 19 = .ok (.istore_n 3, 1) := by decide +kernel
theorem dX2_unlike_20 : decode cX2_unlike 20 = .ok (.iconst 0, 1) := by decide +kernel
theorem dX2_unlike_21 : decode cX2_unlike 21 = .ok (.istore 4, 2) := by decide +kernel
theorem dX2_unlike_23 : decode cX2_unlike 23 = .ok (.iload 4, 2) := by decide +kernel
theorem dX2_unlike_25 : decode cX2_unlike 25 = .ok (.iconst 3, 1) := by decide +kernel
theorem dX2_unlike_26 : decode cX2_unlike 26 = .ok (.if_icmp .ge 38, 3) := by decide +kernel
theorem dX2_unlike_29 : decode cX2_unlike 29 = .ok (.iload_n 3, 1) := by decide +kernel
theorem dX2_unlike_30 : decode cX2_unlike 30 = .ok (.aload_n 0, 1) := by decide +kernel
theorem dX2_unlike_31 : decode cX2_unlike 31 = .ok (.getfield 117, 3) := by decide +kernel
theorem dX2_unlike_34 : decode cX2_unlike 34 = .ok (.iload_n 1, 1) := by decide +kernel
theorem dX2_unlike_35 : decode cX2_unlike 35 = .ok (.iload 4, 2) := by decide +kernel
theorem dX2_unlike_37 : decode cX2_unlike 37 = .ok (.invokestatic 53, 3) := by decide +kernel
theorem dX2_unlike_40 : decode cX2_unlike 40 = .ok (.iaload, 1) := by decide +kernel
theorem dX2_unlike_41 : decode cX2_unlike 41 = .ok (.aload_n 0, 1) := by decide +kernel
theorem dX2_unlike_42 : decode cX2_unlike 42 = .ok (.getfield 117, 3) := by decide +kernel
theorem dX2_unlike_45 : decode cX2_unlike 45 = .ok (.iload_n 2, 1) := by decide +kernel
theorem dX2_unlike_46 : decode cX2_unlike 46 = .ok (.iload 4, 2) := by decide +kernel
theorem dX2_unlike_48 : decode cX2_unlike 48 = .ok (.invokestatic 53, 3) := by decide +kernel
theorem dX2_unlike_51 : decode cX2_unlike 51 = .ok (.iaload, 1) := by decide +kernel
theorem dX2_unlike_52 : decode cX2_unlike 52 = .ok (.isub, 1) := by decide +kernel
theorem dX2_unlike_53 : decode cX2_unlike 53 = .ok (.invokestatic 104, 3) := by decide +kernel
theorem dX2_unlike_56 : decode cX2_unlike 56 = .ok (.iadd, 1) := by decide +kernel
theorem dX2_unlike_57 : decode cX2_unlike 57 = .ok (.istore_n 3, 1) := by decide +kernel
theorem dX2_unlike_58 : decode cX2_unlike 58 = .ok (.iinc 4 1, 3) := by decide +kernel
theorem dX2_unlike_61 : decode cX2_unlike 61 = .ok (.goto (-38), 3) := by decide +kernel
theorem dX2_unlike_64 : decode cX2_unlike 64 = .ok (.iload_n 3, 1) := by decide +kernel
theorem dX2_unlike_65 : decode cX2_unlike 65 = .ok (.ireturn, 1) := by decide +kernel
theorem dX3_init_0 : decode cX3_init 0 = .ok (.aload_n 0, 1) := by decide +kernel
theorem dX3_init_1 : decode cX3_init 1 = .ok (.iload_n 1, 1) := by decide +kernel
theorem dX3_init_2 : decode cX3_init 2 = .ok (.iload_n 2, 1) := by decide +kernel
theorem dX3_init_3 : decode cX3_init 3 = .ok (.invokespecial 3, 3) := by decide +kernel
theorem dX3_init_6 : decode cX3_init 6 = .ok (.return_, 1) := by decide +kernel
theorem dX3_sort_0 : decode cX3_sort 0 = .ok (.iconst 4, 1) := by decide +kernel
theorem dX3_sort_1 : decode cX3_sort 1 = .ok (.ireturn, 1) := by decide +kernel
theorem dX3_padding_0 : decode cX3_padding 0 = .ok (.iload_n 1, 1) := by decide +kernel
theorem dX3_padding_1 : decode cX3_padding 1 = .ok (.iconst 2, 1) := by decide +kernel
theorem dX3_padding_2 : decode cX3_padding 2 = .ok (.idiv, 1) := by decide +kernel
theorem dX3_padding_3 : decode cX3_padding 3 = .ok (.ireturn, 1) := by decide +kernel
theorem dX3_size_0 : decode cX3_size 0 = .ok (.aload_n 1, 1) := by decide +kernel
theorem dX3_size_1 : decode cX3_size 1 = .ok (.bipush 13, 2) := by decide +kernel
theorem dX3_size_3 : decode cX3_size 3 = .ok (.invokevirtual 9, 3) := by decide +kernel
theorem dX3_size_6 : decode cX3_size 6 = .ok (.aload_n 0, 1) := by decide +kernel
theorem dX3_size_7 : decode cX3_size 7 = .ok (.aload_n 1, 1) := by decide +kernel
theorem dX3_size_8 : decode cX3_size 8 = .ok (.invokespecial 15, 3) := by decide +kernel
theorem dX3_size_11 : decode cX3_size 11 = .ok (.bipush 100, 2) := by decide +kernel
theorem dX3_size_13 : decode cX3_size 13 = .ok (.isub, 1) := by decide +kernel
theorem dX3_size_14 : decode cX3_size 14 = .ok (.ireturn, 1) := by decide +kernel
theorem dX3_mark_0 : decode cX3_mark 0 = .ok (.aload_n 1, 1) := by decide +kernel
theorem dX3_mark_1 : decode cX3_mark 1 = .ok (.bipush 23, 2) := by decide +kernel
theorem dX3_mark_3 : decode cX3_mark 3 = .ok (.invokevirtual 9, 3) := by decide +kernel
theorem dX3_mark_6 : decode cX3_mark 6 = .ok (.aload_n 0, 1) := by decide +kernel
theorem dX3_mark_7 : decode cX3_mark 7 = .ok (.aload_n 1, 1) := by decide +kernel
theorem dX3_mark_8 : decode cX3_mark 8 = .ok (.invokespecial 19, 3) := by decide +kernel
theorem dX3_mark_11 : decode cX3_mark 11 = .ok (.aload_n 0, 1) := by decide +kernel
theorem dX3_mark_12 : decode cX3_mark 12 = .ok (.aload_n 1, 1) := by decide +kernel
theorem dX3_mark_13 : decode cX3_mark 13 = .ok (.invokevirtual 22, 3) := by decide +kernel
theorem dX3_mark_16 : decode cX3_mark 16 = .ok (.isub, 1) := by decide +kernel
theorem dX3_mark_17 : decode cX3_mark 17 = .ok (.ireturn, 1) := by decide +kernel
theorem dX4_init_0 : decode cX4_init 0 = .ok (.aload_n 0, 1) := by decide +kernel
theorem dX4_init_1 : decode cX4_init 1 = .ok (.invokespecial 1, 3) := by decide +kernel
theorem dX4_init_4 : decode cX4_init 4 = .ok (.aload_n 0, 1) := by decide +kernel
theorem dX4_init_5 : decode cX4_init 5 = .ok (.iload_n 1, 1) := by decide +kernel
theorem dX4_init_6 : decode cX4_init 6 = .ok (.putfield 7, 3) := by decide +kernel
theorem dX4_init_9 : decode cX4_init 9 = .ok (.aload_n 0, 1) := by decide +kernel
theorem dX4_init_10 : decode cX4_init 10 = .ok (.iload_n 2, 1) := by decide +kernel
theorem dX4_init_11 : decode cX4_init 11 = .ok (.putfield 13, 3) := by decide +kernel
theorem dX4_init_14 : decode cX4_init 14 = .ok (.return_, 1) := by decide +kernel
theorem dX4_size_0 : decode cX4_size 0 = .ok (.aload_n 1, 1) := by decide +kernel
theorem dX4_size_1 : decode cX4_size 1 = .ok (.bipush 10, 2) := by decide +kernel
theorem dX4_size_3 : decode cX4_size 3 = .ok (.invokevirtual 16, 3) := by decide +kernel
theorem dX4_size_6 : decode cX4_size 6 = .ok (.aload_n 0, 1) := by decide +kernel
theorem dX4_size_7 : decode cX4_size 7 = .ok (.getfield 13, 3) := by decide +kernel
theorem dX4_size_10 : decode cX4_size 10 = .ok (.ireturn, 1) := by decide +kernel
theorem dX4_mark_0 : decode cX4_mark 0 = .ok (.aload_n 1, 1) := by decide +kernel
theorem dX4_mark_1 : decode cX4_mark 1 = .ok (.bipush 20, 2) := by decide +kernel
theorem dX4_mark_3 : decode cX4_mark 3 = .ok (.invokevirtual 16, 3) := by decide +kernel
theorem dX4_mark_6 : decode cX4_mark 6 = .ok (.aload_n 0, 1) := by decide +kernel
theorem dX4_mark_7 : decode cX4_mark 7 = .ok (.getfield 7, 3) := by decide +kernel
theorem dX4_mark_10 : decode cX4_mark 10 = .ok (.ireturn, 1) := by decide +kernel
theorem dX5_init_0 : decode cX5_init 0 = .ok (.aload_n 0, 1) := by decide +kernel
theorem dX5_init_1 : decode cX5_init 1 = .ok (.iload_n 1, 1) := by decide +kernel
theorem dX5_init_2 : decode cX5_init 2 = .ok (.iload_n 2, 1) := by decide +kernel
theorem dX5_init_3 : decode cX5_init 3 = .ok (.invokespecial 3, 3) := by decide +kernel
theorem dX5_init_6 : decode cX5_init 6 = .ok (.return_, 1) := by decide +kernel
theorem dX5_sort_0 : decode cX5_sort 0 = .ok (.iconst 3, 1) := by decide +kernel
theorem dX5_sort_1 : decode cX5_sort 1 = .ok (.ireturn, 1) := by decide +kernel
theorem dX5_padding_0 : decode cX5_padding 0 = .ok (.iload_n 1, 1) := by decide +kernel
theorem dX5_padding_1 : decode cX5_padding 1 = .ok (.ineg, 1) := by decide +kernel
theorem dX5_padding_2 : decode cX5_padding 2 = .ok (.ireturn, 1) := by decide +kernel
theorem dX5_mark_0 : decode cX5_mark 0 = .ok (.aload_n 1, 1) := by decide +kernel
theorem dX5_mark_1 : decode cX5_mark 1 = .ok (.bipush 22, 2) := by decide +kernel
theorem dX5_mark_3 : decode cX5_mark 3 = .ok (.invokevirtual 9, 3) := by decide +kernel
theorem dX5_mark_6 : decode cX5_mark 6 = .ok (.aload_n 0, 1) := by decide +kernel
theorem dX5_mark_7 : decode cX5_mark 7 = .ok (.aload_n 1, 1) := by decide +kernel
theorem dX5_mark_8 : decode cX5_mark 8 = .ok (.invokespecial 15, 3) := by decide +kernel
theorem dX5_mark_11 : decode cX5_mark 11 = .ok (.sipush 1000, 3) := by decide +kernel
theorem dX5_mark_14 : decode cX5_mark 14 = .ok (.isub, 1) := by decide +kernel
theorem dX5_mark_15 : decode cX5_mark 15 = .ok (.ireturn, 1) := by decide +kernel
theorem dX6_init_0 : decode cX6_init 0 = .ok (.aload_n 0, 1) := by decide +kernel
theorem dX6_init_1 : decode cX6_init 1 = .ok (.invokespecial 3, 3) := by decide +kernel
theorem dX6_init_4 : decode cX6_init 4 = .ok (.aload_n 0, 1) := by decide +kernel
theorem dX6_init_5 : decode cX6_init 5 = .ok (.bipush 8, 2) := by decide +kernel
theorem dX6_init_7 : decode cX6_init 7 = .ok (.bipush 40, 2) := by decide +kernel
theorem dX6_init_9 : decode cX6_init 9 = .ok (.multianewarray 11 2, 4) := by decide +kernel
theorem dX6_init_13 : decode cX6_init 13 = .ok (.putfield 13, 3) := by decide +kernel
theorem dX6_init_16 : decode cX6_init 16 = .ok (.aload_n 0, 1) := by decide +kernel
theorem dX6_init_17 : decode cX6_init 17 = .ok (.bipush 8, 2) := by decide +kernel
theorem dX6_init_19 : decode cX6_init 19 = .ok (.newarray .int, 2) := by decide +kernel
theorem dX6_init_21 : decode cX6_init 21 = .ok (.putfield 16, 3) := by decide +kernel
theorem dX6_init_24 : decode cX6_init 24 = .ok (.aload_n 0, 1) := by decide +kernel
theorem dX6_init_25 : decode cX6_init 25 = .ok (.bipush 8, 2) := by decide +kernel
theorem dX6_init_27 : decode cX6_init 27 = .ok (.newarray .int, 2) := by decide +kernel
theorem dX6_init_29 : decode cX6_init 29 = .ok (.putfield 20, 3) := by decide +kernel
theorem dX6_init_32 : decode cX6_init 32 = .ok (.aload_n 0, 1) := by decide +kernel
theorem dX6_init_33 : decode cX6_init 33 = .ok (.bipush 8, 2) := by decide +kernel
theorem dX6_init_35 : decode cX6_init 35 = .ok (.newarray .boolean, 2) := by decide +kernel
theorem dX6_init_37 : decode cX6_init 37 = .ok (.putfield 23, 3) := by decide +kernel
theorem dX6_init_40 : decode cX6_init 40 = .ok (.return_, 1) := by decide +kernel
theorem dX6_isRow_0 : decode cX6_isRow 0 = .ok (.iload_n 0, 1) := by decide +kernel
theorem dX6_isRow_1 : decode cX6_isRow 1 = .ok (.ifCond .lt 13, 3) := by decide +kernel
theorem dX6_isRow_4 : decode cX6_isRow 4 = .ok (.iload_n 0, 1) := by decide +kernel
theorem dX6_isRow_5 : decode cX6_isRow 5 = .ok (.bipush 8, 2) := by decide +kernel
theorem dX6_isRow_7 : decode cX6_isRow 7 = .ok (.if_icmp .ge 7, 3) := by decide +kernel
theorem dX6_isRow_10 : decode cX6_isRow 10 = .ok (.iconst 1, 1) := by decide +kernel
theorem dX6_isRow_11 : decode cX6_isRow 11 = .ok (.goto 4, 3) := by decide +kernel
theorem dX6_isRow_14 : decode cX6_isRow 14 = .ok (.iconst 0, 1) := by decide +kernel
theorem dX6_isRow_15 : decode cX6_isRow 15 = .ok (.ireturn, 1) := by decide +kernel
theorem dX6_isLane_0 : decode cX6_isLane 0 = .ok (.iload_n 0, 1) := by decide +kernel
theorem dX6_isLane_1 : decode cX6_isLane 1 = .ok (.ifCond .lt 12, 3) := by decide +kernel
theorem dX6_isLane_4 : decode cX6_isLane 4 = .ok (.iload_n 0, 1) := by decide +kernel
theorem dX6_isLane_5 : decode cX6_isLane 5 = .ok (.iconst 2, 1) := by decide +kernel
theorem dX6_isLane_6 : decode cX6_isLane 6 = .ok (.if_icmp .gt 7, 3) := by decide +kernel
theorem dX6_isLane_9 : decode cX6_isLane 9 = .ok (.iconst 1, 1) := by decide +kernel
theorem dX6_isLane_10 : decode cX6_isLane 10 = .ok (.goto 4, 3) := by decide +kernel
theorem dX6_isLane_13 : decode cX6_isLane 13 = .ok (.iconst 0, 1) := by decide +kernel
theorem dX6_isLane_14 : decode cX6_isLane 14 = .ok (.ireturn, 1) := by decide +kernel
theorem dX6_isMissing_0 : decode cX6_isMissing 0 = .ok (.aload_n 0, 1) := by decide +kernel
theorem dX6_isMissing_1 : decode cX6_isMissing 1 = .ok (.getfield 23, 3) := by decide +kernel
theorem dX6_isMissing_4 : decode cX6_isMissing 4 = .ok (.iload_n 1, 1) := by decide +kernel
theorem dX6_isMissing_5 : decode cX6_isMissing 5 = .ok (.baload, 1) := by decide +kernel
theorem dX6_isMissing_6 : decode cX6_isMissing 6 = .ok (.ifCond .ne 7, 3) := by decide +kernel
theorem dX6_isMissing_9 : decode cX6_isMissing 9 = .ok (.iconst 1, 1) := by decide +kernel
theorem dX6_isMissing_10 : decode cX6_isMissing 10 = .ok (.goto 4, 3) := by decide +kernel
theorem dX6_isMissing_13 : decode cX6_isMissing 13 = .ok (.iconst 0, 1) := by decide +kernel
theorem dX6_isMissing_14 : decode cX6_isMissing 14 = .ok (.ireturn, 1) := by decide +kernel
theorem dX6_lay_0 : decode cX6_lay 0 = .ok (.aload_n 0, 1) := by decide +kernel
theorem dX6_lay_1 : decode cX6_lay 1 = .ok (.getfield 23, 3) := by decide +kernel
theorem dX6_lay_4 : decode cX6_lay 4 = .ok (.iload_n 1, 1) := by decide +kernel
theorem dX6_lay_5 : decode cX6_lay 5 = .ok (.iconst 1, 1) := by decide +kernel
theorem dX6_lay_6 : decode cX6_lay 6 = .ok (.bastore, 1) := by decide +kernel
theorem dX6_lay_7 : decode cX6_lay 7 = .ok (.aload_n 0, 1) := by decide +kernel
theorem dX6_lay_8 : decode cX6_lay 8 = .ok (.getfield 16, 3) := by decide +kernel
theorem dX6_lay_11 : decode cX6_lay 11 = .ok (.iload_n 1, 1) := by decide +kernel
theorem dX6_lay_12 : decode cX6_lay 12 = .ok (.iload_n 2, 1) := by decide +kernel
theorem dX6_lay_13 : decode cX6_lay 13 = .ok (.iastore, 1) := by decide +kernel
theorem dX6_lay_14 : decode cX6_lay 14 = .ok (.aload_n 0, 1) := by decide +kernel
theorem dX6_lay_15 : decode cX6_lay 15 = .ok (.getfield 20, 3) := by decide +kernel
theorem dX6_lay_18 : decode cX6_lay 18 = .ok (.iload_n 1, 1) := by decide +kernel
theorem dX6_lay_19 : decode cX6_lay 19 = .ok (.iload_n 3, 1) := by decide +kernel
theorem dX6_lay_20 : decode cX6_lay 20 = .ok (.iastore, 1) := by decide +kernel
theorem dX6_lay_21 : decode cX6_lay 21 = .ok (.aload_n 0, 1) := by decide +kernel
theorem dX6_lay_22 : decode cX6_lay 22 = .ok (.getfield 13, 3) := by decide +kernel
theorem dX6_lay_25 : decode cX6_lay 25 = .ok (.iload_n 1, 1) := by decide +kernel
theorem dX6_lay_26 : decode cX6_lay 26 = .ok (.aaload, 1) := by decide +kernel
theorem dX6_lay_27 : decode cX6_lay 27 = .ok (.iconst 0, 1) := by decide +kernel
theorem dX6_lay_28 : decode cX6_lay 28 = .ok (.invokestatic 27, 3) := by decide +kernel
theorem dX6_lay_31 : decode cX6_lay 31 = .ok (.return_, 1) := by decide +kernel
theorem dX6_lose_0 : decode cX6_lose 0 = .ok (.aload_n 0, 1) := by decide +kernel
theorem dX6_lose_1 : decode cX6_lose 1 = .ok (.getfield 23, 3) := by decide +kernel
theorem dX6_lose_4 : decode cX6_lose 4 = .ok (.iload_n 1, 1) := by decide +kernel
theorem dX6_lose_5 : decode cX6_lose 5 = .ok (.iconst 0, 1) := by decide +kernel
theorem dX6_lose_6 : decode cX6_lose 6 = .ok (.bastore, 1) := by decide +kernel
theorem dX6_lose_7 : decode cX6_lose 7 = .ok (.aload_n 0, 1) := by decide +kernel
theorem dX6_lose_8 : decode cX6_lose 8 = .ok (.getfield 20, 3) := by decide +kernel
theorem dX6_lose_11 : decode cX6_lose 11 = .ok (.iload_n 1, 1) := by decide +kernel
theorem dX6_lose_12 : decode cX6_lose 12 = .ok (.iaload, 1) := by decide +kernel
theorem dX6_lose_13 : decode cX6_lose 13 = .ok (.ireturn, 1) := by decide +kernel
theorem dX6_findingAt_0 : decode cX6_findingAt 0 = .ok (.aload_n 0, 1) := by decide +kernel
theorem dX6_findingAt_1 : decode cX6_findingAt 1 = .ok (.iload_n 1, 1) := by decide +kernel
theorem dX6_findingAt_2 : decode cX6_findingAt 2 = .ok (.invokevirtual 33, 3) := by decide +kernel
theorem dX6_findingAt_5 : decode cX6_findingAt 5 = .ok (.ifCond .eq 5, 3) := by decide +kernel
theorem dX6_findingAt_8 : decode cX6_findingAt 8 = .ok (.iconst 1, 1) := by decide +kernel
theorem dX6_findingAt_9 : decode cX6_findingAt 9 = .ok (.ireturn, 1) := by decide +kernel
theorem dX6_findingAt_10 : decode cX6_findingAt 10 = .ok (.aload_n 0, 1) := by decide +kernel
theorem dX6_findingAt_11 : decode cX6_findingAt 11 = .ok (.iload_n 1, 1) := by decide +kernel
theorem dX6_findingAt_12 : decode cX6_findingAt 12 = .ok (.iload_n 2, 1) := by decide +kernel
theorem dX6_findingAt_13 : decode cX6_findingAt 13 = .ok (.iload_n 3, 1) := by decide +kernel
theorem dX6_findingAt_14 : decode cX6_findingAt 14 = .ok (.invokevirtual 37, 3) := by decide +kernel
theorem dX6_findingAt_17 : decode cX6_findingAt 17 = .ok (.ifCond .eq 7, 3) := by decide +kernel
theorem dX6_findingAt_20 : decode cX6_findingAt 20 = .ok (.iconst 0, 1) := by decide +kernel
theorem dX6_findingAt_21 : decode cX6_findingAt 21 = .ok (.goto 4, 3) := by decide +kernel
theorem dX6_findingAt_24 : decode cX6_findingAt 24 = .ok (.iconst 2, 1) := by decide +kernel
theorem dX6_findingAt_25 : decode cX6_findingAt 25 = .ok (.ireturn, 1) := by decide +kernel
theorem dX6_findingOfMove_0 : decode cX6_findingOfMove 0 = .ok (.aload_n 0, 1) := by decide +kernel
theorem dX6_findingOfMove_1 : decode cX6_findingOfMove 1 = .ok (.iload_n 1, 1) := by decide +kernel
theorem dX6_findingOfMove_2 : decode cX6_findingOfMove 2 = .ok (.invokevirtual 33, 3) := by decide +kernel
theorem dX6_findingOfMove_5 : decode cX6_findingOfMove 5 = .ok (.ifCond .ne 11, 3) := by decide +kernel
theorem dX6_findingOfMove_8 : decode cX6_findingOfMove 8 = .ok (.aload_n 0, 1) := by decide +kernel
theorem dX6_findingOfMove_9 : decode cX6_findingOfMove 9 = .ok (.iload_n 3, 1) := by decide +kernel
theorem dX6_findingOfMove_10 : decode cX6_findingOfMove 10 = .ok (.invokevirtual 33, 3) := by decide +kernel
theorem dX6_findingOfMove_13 : decode cX6_findingOfMove 13 = .ok (.ifCond .eq 5, 3) := by decide +kernel
theorem dX6_findingOfMove_16 : decode cX6_findingOfMove 16 = .ok (.iconst 1, 1) := by decide +kernel
theorem dX6_findingOfMove_17 : decode cX6_findingOfMove 17 = .ok (.ireturn, 1) := by decide +kernel
theorem dX6_findingOfMove_18 : decode cX6_findingOfMove 18 = .ok (.aload_n 0, 1) := by decide +kernel
theorem dX6_findingOfMove_19 : decode cX6_findingOfMove 19 = .ok (.getfield 16, 3) := by decide +kernel
theorem dX6_findingOfMove_22 : decode cX6_findingOfMove 22 = .ok (.iload_n 1, 1) := by decide +kernel
theorem dX6_findingOfMove_23 : decode cX6_findingOfMove 23 = .ok (.iaload, 1) := by decide +kernel
theorem dX6_findingOfMove_24 : decode cX6_findingOfMove 24 = .ok (.aload_n 0, 1) := by decide +kernel
theorem dX6_findingOfMove_25 : decode cX6_findingOfMove 25 = .ok (.getfield 16, 3) := by decide +kernel
theorem dX6_findingOfMove_28 : decode cX6_findingOfMove 28 = .ok (.iload_n 3, 1) := by decide +kernel
theorem dX6_findingOfMove_29 : decode cX6_findingOfMove 29 = .ok (.iaload, 1) := by decide +kernel
theorem dX6_findingOfMove_30 : decode cX6_findingOfMove 30 = .ok (.if_icmp .eq 5, 3) := by decide +kernel
theorem dX6_findingOfMove_33 : decode cX6_findingOfMove 33 = .ok (.iconst 5, 1) := by decide +kernel
theorem dX6_findingOfMove_34 : decode cX6_findingOfMove 34 = .ok (.ireturn, 1) := by decide +kernel
theorem dX6_findingOfMove_35 : decode cX6_findingOfMove 35 = .ok (.aload_n 0, 1) := by decide +kernel
theorem dX6_findingOfMove_36 : decode cX6_findingOfMove 36 = .ok (.iload_n 1, 1) := by decide +kernel
theorem dX6_findingOfMove_37 : decode cX6_findingOfMove 37 = .ok (.iload_n 2, 1) := by decide +kernel
theorem dX6_findingOfMove_38 : decode cX6_findingOfMove 38 = .ok (.iload 5, 2) := by decide +kernel
theorem dX6_findingOfMove_40 : decode cX6_findingOfMove 40 = .ok (.invokevirtual 37, 3) := by decide +kernel
theorem dX6_findingOfMove_43 : decode cX6_findingOfMove 43 = .ok (.ifCond .eq 19, 3) := by decide +kernel
theorem dX6_findingOfMove_46 : decode cX6_findingOfMove 46 = .ok (.aload_n 0, 1) := by decide +kernel
theorem dX6_findingOfMove_47 : decode cX6_findingOfMove 47 = .ok (.iload_n 3, 1) := by decide +kernel
theorem dX6_findingOfMove_48 : decode cX6_findingOfMove 48 = .ok (.iload 4, 2) := by decide +kernel
theorem dX6_findingOfMove_50 : decode cX6_findingOfMove 50 = .ok (.iload 5, 2) := by decide +kernel
theorem dX6_findingOfMove_52 : decode cX6_findingOfMove 52 = .ok (.invokevirtual 37, 3) := by decide +kernel
theorem dX6_findingOfMove_55 : decode cX6_findingOfMove 55 = .ok (.ifCond .eq 7, 3) := by decide +kernel
theorem dX6_findingOfMove_58 : decode cX6_findingOfMove 58 = .ok (.iconst 0, 1) := by decide +kernel
theorem dX6_findingOfMove_59 : decode cX6_findingOfMove 59 = .ok (.goto 4, 3) := by decide +kernel
theorem dX6_findingOfMove_62 : decode cX6_findingOfMove 62 = .ok (.iconst 2, 1) := by decide +kernel
theorem dX6_findingOfMove_63 : decode cX6_findingOfMove 63 = .ok (.ireturn, 1) := by decide +kernel
theorem dX6_holds_0 : decode cX6_holds 0 = .ok (.iload_n 2, 1) := by decide +kernel
theorem dX6_holds_1 : decode cX6_holds 1 = .ok (.ifCond .lt 33, 3) := by decide +kernel
theorem dX6_holds_4 : decode cX6_holds 4 = .ok (.iload_n 3, 1) := by decide +kernel
theorem dX6_holds_5 : decode cX6_holds 5 = .ok (.ifCond .lt 29, 3) := by decide +kernel
theorem dX6_holds_8 : decode cX6_holds 8 = .ok (.iload_n 2, 1) := by decide +kernel
theorem dX6_holds_9 : decode cX6_holds 9 = .ok (.aload_n 0, 1) := by decide +kernel
theorem dX6_holds_10 : decode cX6_holds 10 = .ok (.getfield 20, 3) := by decide +kernel
theorem dX6_holds_13 : decode cX6_holds 13 = .ok (.iload_n 1, 1) := by decide +kernel
theorem dX6_holds_14 : decode cX6_holds 14 = .ok (.iaload, 1) := by decide +kernel
theorem dX6_holds_15 : decode cX6_holds 15 = .ok (.if_icmp .gt 19, 3) := by decide +kernel
theorem dX6_holds_18 : decode cX6_holds 18 = .ok (.iload_n 3, 1) := by decide +kernel
theorem dX6_holds_19 : decode cX6_holds 19 = .ok (.aload_n 0, 1) := by decide +kernel
theorem dX6_holds_20 : decode cX6_holds 20 = .ok (.getfield 20, 3) := by decide +kernel
theorem dX6_holds_23 : decode cX6_holds 23 = .ok (.iload_n 1, 1) := by decide +kernel
theorem dX6_holds_24 : decode cX6_holds 24 = .ok (.iaload, 1) := by decide +kernel
theorem dX6_holds_25 : decode cX6_holds 25 = .ok (.iload_n 2, 1) := by decide +kernel
theorem dX6_holds_26 : decode cX6_holds 26 = .ok (.isub, 1) := by decide +kernel
theorem dX6_holds_27 : decode cX6_holds 27 = .ok (.if_icmp .gt 7, 3) := by decide +kernel
theorem dX6_holds_30 : decode cX6_holds 30 = .ok (.iconst 1, 1) := by decide +kernel
theorem dX6_holds_31 : decode cX6_holds 31 = .ok (.goto 4, 3) := by decide +kernel
theorem dX6_holds_34 : decode cX6_holds 34 = .ok (.iconst 0, 1) := by decide +kernel
theorem dX6_holds_35 : decode cX6_holds 35 = .ok (.ireturn, 1) := by decide +kernel
theorem dX6_move_0 : decode cX6_move 0 = .ok (.aload_n 0, 1) := by decide +kernel
theorem dX6_move_1 : decode cX6_move 1 = .ok (.getfield 13, 3) := by decide +kernel
theorem dX6_move_4 : decode cX6_move 4 = .ok (.iload_n 1, 1) := by decide +kernel
theorem dX6_move_5 : decode cX6_move 5 = .ok (.aaload, 1) := by decide +kernel
theorem dX6_move_6 : decode cX6_move 6 = .ok (.iload_n 2, 1) := by decide +kernel
theorem dX6_move_7 : decode cX6_move 7 = .ok (.aload_n 0, 1) := by decide +kernel
theorem dX6_move_8 : decode cX6_move 8 = .ok (.getfield 13, 3) := by decide +kernel
theorem dX6_move_11 : decode cX6_move 11 = .ok (.iload_n 3, 1) := by decide +kernel
theorem dX6_move_12 : decode cX6_move 12 = .ok (.aaload, 1) := by decide +kernel
theorem dX6_move_13 : decode cX6_move 13 = .ok (.iload 4, 2) := by decide +kernel
theorem dX6_move_15 : decode cX6_move 15 = .ok (.iload 5, 2) := by decide +kernel
theorem dX6_move_17 : decode cX6_move 17 = .ok (.invokestatic 41, 3) := by decide +kernel
theorem dX6_move_20 : decode cX6_move 20 = .ok (.return_, 1) := by decide +kernel
theorem dX6_put_0 : decode cX6_put 0 = .ok (.aload_n 0, 1) := by decide +kernel
theorem dX6_put_1 : decode cX6_put 1 = .ok (.getfield 13, 3) := by decide +kernel
theorem dX6_put_4 : decode cX6_put 4 = .ok (.iload_n 1, 1) := by decide +kernel
theorem dX6_put_5 : decode cX6_put 5 = .ok (.aaload, 1) := by decide +kernel
theorem dX6_put_6 : decode cX6_put 6 = .ok (.iload_n 2, 1) := by decide +kernel
theorem dX6_put_7 : decode cX6_put 7 = .ok (.iload_n 3, 1) := by decide +kernel
theorem dX6_put_8 : decode cX6_put 8 = .ok (.aload_n 0, 1) := by decide +kernel
theorem dX6_put_9 : decode cX6_put 9 = .ok (.getfield 16, 3) := by decide +kernel
theorem dX6_put_12 : decode cX6_put 12 = .ok (.iload_n 1, 1) := by decide +kernel
theorem dX6_put_13 : decode cX6_put 13 = .ok (.iaload, 1) := by decide +kernel
theorem dX6_put_14 : decode cX6_put 14 = .ok (.invokestatic 47, 3) := by decide +kernel
theorem dX6_put_17 : decode cX6_put 17 = .ok (.iastore, 1) := by decide +kernel
theorem dX6_put_18 : decode cX6_put 18 = .ok (.aload_n 0, 1) := by decide +kernel
theorem dX6_put_19 : decode cX6_put 19 = .ok (.getfield 13, 3) := by decide +kernel
theorem dX6_put_22 : decode cX6_put 22 = .ok (.iload_n 1, 1) := by decide +kernel
theorem dX6_put_23 : decode cX6_put 23 = .ok (.aaload, 1) := by decide +kernel
theorem dX6_put_24 : decode cX6_put 24 = .ok (.iload_n 2, 1) := by decide +kernel
theorem dX6_put_25 : decode cX6_put 25 = .ok (.iaload, 1) := by decide +kernel
theorem dX6_put_26 : decode cX6_put 26 = .ok (.ireturn, 1) := by decide +kernel
theorem dX6_cut_0 : decode cX6_cut 0 = .ok (.iload_n 1, 1) := by decide +kernel
theorem dX6_cut_1 : decode cX6_cut 1 = .ok (.lookupswitch 33 #[(0, 27), (1, 30)], 27) := by decide +kernel
theorem dX6_cut_28 : decode cX6_cut 28 = .ok (.iload_n 0, 1) := by decide +kernel
theorem dX6_cut_29 : decode cX6_cut 29 = .ok (.i2b, 1) := by decide +kernel
theorem dX6_cut_30 : decode cX6_cut 30 = .ok (.ireturn, 1) := by decide +kernel
theorem dX6_cut_31 : decode cX6_cut 31 = .ok (.iload_n 0, 1) := by decide +kernel
theorem dX6_cut_32 : decode cX6_cut 32 = .ok (.i2s, 1) := by decide +kernel
theorem dX6_cut_33 : decode cX6_cut 33 = .ok (.ireturn, 1) := by decide +kernel
theorem dX6_cut_34 : decode cX6_cut 34 = .ok (.iload_n 0, 1) := by decide +kernel
theorem dX6_cut_35 : decode cX6_cut 35 = .ok (.ireturn, 1) := by decide +kernel
theorem dX6_item_0 : decode cX6_item 0 = .ok (.aload_n 0, 1) := by decide +kernel
theorem dX6_item_1 : decode cX6_item 1 = .ok (.getfield 13, 3) := by decide +kernel
theorem dX6_item_4 : decode cX6_item 4 = .ok (.iload_n 1, 1) := by decide +kernel
theorem dX6_item_5 : decode cX6_item 5 = .ok (.aaload, 1) := by decide +kernel
theorem dX6_item_6 : decode cX6_item 6 = .ok (.iload_n 2, 1) := by decide +kernel
theorem dX6_item_7 : decode cX6_item 7 = .ok (.iaload, 1) := by decide +kernel
theorem dX6_item_8 : decode cX6_item 8 = .ok (.ireturn, 1) := by decide +kernel
theorem dX6_there_0 : decode cX6_there 0 = .ok (.iconst 0, 1) := by decide +kernel
theorem dX6_there_1 : decode cX6_there 1 = .ok (.istore_n 1, 1) := by decide +kernel
theorem dX6_there_2 : decode cX6_there 2 = .ok (.iconst 0, 1) := by decide +kernel
theorem dX6_there_3 : decode cX6_there 3 = .ok (.istore_n 2, 1) := by decide +kernel
theorem dX6_there_4 : decode cX6_there 4 = .ok (.iload_n 2, 1) := by decide +kernel
theorem dX6_there_5 : decode cX6_there 5 = .ok (.bipush 8, 2) := by decide +kernel
theorem dX6_there_7 : decode cX6_there 7 = .ok (.if_icmp .ge 21, 3) := by decide +kernel
theorem dX6_there_10 : decode cX6_there 10 = .ok (.aload_n 0, 1) := by decide +kernel
theorem dX6_there_11 : decode cX6_there 11 = .ok (.getfield 23, 3) := by decide +kernel
theorem dX6_there_14 : decode cX6_there 14 = .ok (.iload_n 2, 1) := by decide +kernel
theorem dX6_there_15 : decode cX6_there 15 = .ok (.baload, 1) := by decide +kernel
theorem dX6_there_16 : decode cX6_there 16 = .ok (.ifCond .eq 6, 3) := by decide +kernel
theorem dX6_there_19 : decode cX6_there 19 = .ok (.iinc 1 1, 3) := by decide +kernel
theorem dX6_there_22 : decode cX6_there 22 = .ok (.iinc 2 1, 3) := by decide +kernel
theorem dX6_there_25 : decode cX6_there 25 = .ok (.goto (-21), 3) := by decide +kernel
theorem dX6_there_28 : decode cX6_there 28 = .ok (.iload_n 1, 1) := by decide +kernel
theorem dX6_there_29 : decode cX6_there 29 = .ok (.ireturn, 1) := by decide +kernel
theorem dX7_init_0 : decode cX7_init 0 = .ok (.aload_n 0, 1) := by decide +kernel
theorem dX7_init_1 : decode cX7_init 1 = .ok (.iload_n 1, 1) := by decide +kernel
theorem dX7_init_2 : decode cX7_init 2 = .ok (.iload_n 2, 1) := by decide +kernel
theorem dX7_init_3 : decode cX7_init 3 = .ok (.invokespecial 3, 3) := by decide +kernel
theorem dX7_init_6 : decode cX7_init 6 = .ok (.return_, 1) := by decide +kernel
theorem dX7_sort_0 : decode cX7_sort 0 = .ok (.iconst 5, 1) := by decide +kernel
theorem dX7_sort_1 : decode cX7_sort 1 = .ok (.ireturn, 1) := by decide +kernel
theorem dX7_padding_0 : decode cX7_padding 0 = .ok (.iload_n 1, 1) := by decide +kernel
theorem dX7_padding_1 : decode cX7_padding 1 = .ok (.iconst 2, 1) := by decide +kernel
theorem dX7_padding_2 : decode cX7_padding 2 = .ok (.idiv, 1) := by decide +kernel
theorem dX7_padding_3 : decode cX7_padding 3 = .ok (.ineg, 1) := by decide +kernel
theorem dX7_padding_4 : decode cX7_padding 4 = .ok (.ireturn, 1) := by decide +kernel
theorem dX7_size_0 : decode cX7_size 0 = .ok (.aload_n 1, 1) := by decide +kernel
theorem dX7_size_1 : decode cX7_size 1 = .ok (.bipush 14, 2) := by decide +kernel
theorem dX7_size_3 : decode cX7_size 3 = .ok (.invokevirtual 9, 3) := by decide +kernel
theorem dX7_size_6 : decode cX7_size 6 = .ok (.iconst 2, 1) := by decide +kernel
theorem dX7_size_7 : decode cX7_size 7 = .ok (.aload_n 0, 1) := by decide +kernel
theorem dX7_size_8 : decode cX7_size 8 = .ok (.aload_n 1, 1) := by decide +kernel
theorem dX7_size_9 : decode cX7_size 9 = .ok (.invokespecial 15, 3) := by decide +kernel
theorem dX7_size_12 : decode cX7_size 12 = .ok (.imul, 1) := by decide +kernel
theorem dX7_size_13 : decode cX7_size 13 = .ok (.ireturn, 1) := by decide +kernel
theorem dX8_init_0 : decode cX8_init 0 = .ok (.aload_n 0, 1) := by decide +kernel
theorem dX8_init_1 : decode cX8_init 1 = .ok (.invokespecial 3, 3) := by decide +kernel
theorem dX8_init_4 : decode cX8_init 4 = .ok (.aload_n 0, 1) := by decide +kernel
theorem dX8_init_5 : decode cX8_init 5 = .ok (.bipush 12, 2) := by decide +kernel
theorem dX8_init_7 : decode cX8_init 7 = .ok (.newarray .int, 2) := by decide +kernel
theorem dX8_init_9 : decode cX8_init 9 = .ok (.putfield 9, 3) := by decide +kernel
theorem dX8_init_12 : decode cX8_init 12 = .ok (.aload_n 0, 1) := by decide +kernel
theorem dX8_init_13 : decode cX8_init 13 = .ok (.bipush 12, 2) := by decide +kernel
theorem dX8_init_15 : decode cX8_init 15 = .ok (.newarray .int, 2) := by decide +kernel
theorem dX8_init_17 : decode cX8_init 17 = .ok (.putfield 15, 3) := by decide +kernel
theorem dX8_init_20 : decode cX8_init 20 = .ok (.aload_n 0, 1) := by decide +kernel
theorem dX8_init_21 : decode cX8_init 21 = .ok (.bipush 12, 2) := by decide +kernel
theorem dX8_init_23 : decode cX8_init 23 = .ok (.newarray .int, 2) := by decide +kernel
theorem dX8_init_25 : decode cX8_init 25 = .ok (.putfield 18, 3) := by decide +kernel
theorem dX8_init_28 : decode cX8_init 28 = .ok (.aload_n 0, 1) := by decide +kernel
theorem dX8_init_29 : decode cX8_init 29 = .ok (.iconst 5, 1) := by decide +kernel
theorem dX8_init_30 : decode cX8_init 30 = .ok (.anewarray 21, 3) := by decide +kernel
theorem dX8_init_33 : decode cX8_init 33 = .ok (.putfield 23, 3) := by decide +kernel
theorem dX8_init_36 : decode cX8_init 36 = .ok (.aload_n 0, 1) := by decide +kernel
theorem dX8_init_37 : decode cX8_init 37 = .ok (.bipush 96, 2) := by decide +kernel
theorem dX8_init_39 : decode cX8_init 39 = .ok (.newarray .int, 2) := by decide +kernel
theorem dX8_init_41 : decode cX8_init 41 = .ok (.putfield 27, 3) := by decide +kernel
theorem dX8_init_44 : decode cX8_init 44 = .ok (.return_, 1) := by decide +kernel
theorem dX8_at_0 : decode cX8_at 0 = .ok (.iconst 3, 1) := by decide +kernel
theorem dX8_at_1 : decode cX8_at 1 = .ok (.iload_n 0, 1) := by decide +kernel
theorem dX8_at_2 : decode cX8_at 2 = .ok (.imul, 1) := by decide +kernel
theorem dX8_at_3 : decode cX8_at 3 = .ok (.iload_n 1, 1) := by decide +kernel
theorem dX8_at_4 : decode cX8_at 4 = .ok (.iadd, 1) := by decide +kernel
theorem dX8_at_5 : decode cX8_at 5 = .ok (.ireturn, 1) := by decide +kernel
theorem dX8_become_0 : decode cX8_become 0 = .ok (.aload_n 1, 1) := by decide +kernel
theorem dX8_become_1 : decode cX8_become 1 = .ok (.getfield 9, 3) := by decide +kernel
theorem dX8_become_4 : decode cX8_become 4 = .ok (.iconst 0, 1) := by decide +kernel
theorem dX8_become_5 : decode cX8_become 5 = .ok (.aload_n 0, 1) := by decide +kernel
theorem dX8_become_6 : decode cX8_become 6 = .ok (.getfield 9, 3) := by decide +kernel
theorem dX8_become_9 : decode cX8_become 9 = .ok (.iconst 0, 1) := by decide +kernel
theorem dX8_become_10 : decode cX8_become 10 = .ok (.aload_n 0, 1) := by decide +kernel
theorem dX8_become_11 : decode cX8_become 11 = .ok (.getfield 9, 3) := by decide +kernel
theorem dX8_become_14 : decode cX8_become 14 = .ok (.arraylength, 1) := by decide +kernel
theorem dX8_become_15 : decode cX8_become 15 = .ok (.invokestatic 30, 3) := by decide +kernel
theorem dX8_become_18 : decode cX8_become 18 = .ok (.aload_n 1, 1) := by decide +kernel
theorem dX8_become_19 : decode cX8_become 19 = .ok (.getfield 15, 3) := by decide +kernel
theorem dX8_become_22 : decode cX8_become 22 = .ok (.iconst 0, 1) := by decide +kernel
theorem dX8_become_23 : decode cX8_become 23 = .ok (.aload_n 0, 1) := by decide +kernel
theorem dX8_become_24 : decode cX8_become 24 = .ok (.getfield 15, 3) := by decide +kernel
theorem dX8_become_27 : decode cX8_become 27 = .ok (.iconst 0, 1) := by decide +kernel
theorem dX8_become_28 : decode cX8_become 28 = .ok (.aload_n 0, 1) := by decide +kernel
theorem dX8_become_29 : decode cX8_become 29 = .ok (.getfield 15, 3) := by decide +kernel
theorem dX8_become_32 : decode cX8_become 32 = .ok (.arraylength, 1) := by decide +kernel
theorem dX8_become_33 : decode cX8_become 33 = .ok (.invokestatic 30, 3) := by decide +kernel
theorem dX8_become_36 : decode cX8_become 36 = .ok (.aload_n 1, 1) := by decide +kernel
theorem dX8_become_37 : decode cX8_become 37 = .ok (.getfield 18, 3) := by decide +kernel
theorem dX8_become_40 : decode cX8_become 40 = .ok (.iconst 0, 1) := by decide +kernel
theorem dX8_become_41 : decode cX8_become 41 = .ok (.aload_n 0, 1) := by decide +kernel
theorem dX8_become_42 : decode cX8_become 42 = .ok (.getfield 18, 3) := by decide +kernel
theorem dX8_become_45 : decode cX8_become 45 = .ok (.iconst 0, 1) := by decide +kernel
theorem dX8_become_46 : decode cX8_become 46 = .ok (.aload_n 0, 1) := by decide +kernel
theorem dX8_become_47 : decode cX8_become 47 = .ok (.getfield 18, 3) := by decide +kernel
theorem dX8_become_50 : decode cX8_become 50 = .ok (.arraylength, 1) := by decide +kernel
theorem dX8_become_51 : decode cX8_become 51 = .ok (.invokestatic 30, 3) := by decide +kernel
theorem dX8_become_54 : decode cX8_become 54 = .ok (.aload_n 1, 1) := by decide +kernel
theorem dX8_become_55 : decode cX8_become 55 = .ok (.getfield 27, 3) := by decide +kernel
theorem dX8_become_58 : decode cX8_become 58 = .ok (.iconst 0, 1) := by decide +kernel
theorem dX8_become_59 : decode cX8_become 59 = .ok (.aload_n 0, 1) := by decide +kernel
theorem dX8_become_60 : decode cX8_become 60 = .ok (.getfield 27, 3) := by decide +kernel
theorem dX8_become_63 : decode cX8_become 63 = .ok (.iconst 0, 1) := by decide +kernel
theorem dX8_become_64 : decode cX8_become 64 = .ok (.bipush 6, 2) := by decide +kernel
theorem dX8_become_66 : decode cX8_become 66 = .ok (.aload_n 1, 1) := by decide +kernel
theorem dX8_become_67 : decode cX8_become 67 = .ok (.getfield 36, 3) := by decide +kernel
theorem dX8_become_70 : decode cX8_become 70 = .ok (.imul, 1) := by decide +kernel
theorem dX8_become_71 : decode cX8_become 71 = .ok (.invokestatic 30, 3) := by decide +kernel
theorem dX8_become_74 : decode cX8_become 74 = .ok (.iconst 0, 1) := by decide +kernel
theorem dX8_become_75 : decode cX8_become 75 = .ok (.istore_n 2, 1) := by decide +kernel
theorem dX8_become_76 : decode cX8_become 76 = .ok (.iload_n 2, 1) := by decide +kernel
theorem dX8_become_77 : decode cX8_become 77 = .ok (.iconst 5, 1) := by decide +kernel
theorem dX8_become_78 : decode cX8_become 78 = .ok (.if_icmp .ge 21, 3) := by decide +kernel
theorem dX8_become_81 : decode cX8_become 81 = .ok (.aload_n 0, 1) := by decide +kernel
theorem dX8_become_82 : decode cX8_become 82 = .ok (.getfield 23, 3) := by decide +kernel
theorem dX8_become_85 : decode cX8_become 85 = .ok (.iload_n 2, 1) := by decide +kernel
theorem dX8_become_86 : decode cX8_become 86 = .ok (.aload_n 1, 1) := by decide +kernel
theorem dX8_become_87 : decode cX8_become 87 = .ok (.getfield 23, 3) := by decide +kernel
theorem dX8_become_90 : decode cX8_become 90 = .ok (.iload_n 2, 1) := by decide +kernel
theorem dX8_become_91 : decode cX8_become 91 = .ok (.aaload, 1) := by decide +kernel
theorem dX8_become_92 : decode cX8_become 92 = .ok (.aastore, 1) := by decide +kernel
theorem dX8_become_93 : decode cX8_become 93 = .ok (.iinc 2 1, 3) := by decide +kernel
theorem dX8_become_96 : decode cX8_become 96 = .ok (.goto (-20), 3) := by decide +kernel
theorem dX8_become_99 : decode cX8_become 99 = .ok (.aload_n 0, 1) := by decide +kernel
theorem dX8_become_100 : decode cX8_become 100 = .ok (.aload_n 1, 1) := by decide +kernel
theorem dX8_become_101 : decode cX8_become 101 = .ok (.getfield 40, 3) := by decide +kernel
theorem dX8_become_104 : decode cX8_become 104 = .ok (.putfield 40, 3) := by decide +kernel
theorem dX8_become_107 : decode cX8_become 107 = .ok (.aload_n 0, 1) := by decide +kernel
theorem dX8_become_108 : decode cX8_become 108 = .ok (.aload_n 1, 1) := by decide +kernel
theorem dX8_become_109 : decode cX8_become 109 = .ok (.getfield 44, 3) := by decide +kernel
theorem dX8_become_112 : decode cX8_become 112 = .ok (.putfield 44, 3) := by decide +kernel
theorem dX8_become_115 : decode cX8_become 115 = .ok (.aload_n 0, 1) := by decide +kernel
theorem dX8_become_116 : decode cX8_become 116 = .ok (.aload_n 1, 1) := by decide +kernel
theorem dX8_become_117 : decode cX8_become 117 = .ok (.getfield 47, 3) := by decide +kernel
theorem dX8_become_120 : decode cX8_become 120 = .ok (.putfield 47, 3) := by decide +kernel
theorem dX8_become_123 : decode cX8_become 123 = .ok (.aload_n 0, 1) := by decide +kernel
theorem dX8_become_124 : decode cX8_become 124 = .ok (.aload_n 1, 1) := by decide +kernel
theorem dX8_become_125 : decode cX8_become 125 = .ok (.getfield 50, 3) := by decide +kernel
theorem dX8_become_128 : decode cX8_become 128 = .ok (.putfield 50, 3) := by decide +kernel
theorem dX8_become_131 : decode cX8_become 131 = .ok (.aload_n 0, 1) := by decide +kernel
theorem dX8_become_132 : decode cX8_become 132 = .ok (.aload_n 1, 1) := by decide +kernel
theorem dX8_become_133 : decode cX8_become 133 = .ok (.getfield 36, 3) := by decide +kernel
theorem dX8_become_136 : decode cX8_become 136 = .ok (.putfield 36, 3) := by decide +kernel
theorem dX8_become_139 : decode cX8_become 139 = .ok (.return_, 1) := by decide +kernel
theorem dX8_empty_0 : decode cX8_empty 0 = .ok (.aload_n 0, 1) := by decide +kernel
theorem dX8_empty_1 : decode cX8_empty 1 = .ok (.iconst 1, 1) := by decide +kernel
theorem dX8_empty_2 : decode cX8_empty 2 = .ok (.putfield 40, 3) := by decide +kernel
theorem dX8_empty_5 : decode cX8_empty 5 = .ok (.aload_n 0, 1) := by decide +kernel
theorem dX8_empty_6 : decode cX8_empty 6 = .ok (.iconst 0, 1) := by decide +kernel
theorem dX8_empty_7 : decode cX8_empty 7 = .ok (.putfield 47, 3) := by decide +kernel
theorem dX8_empty_10 : decode cX8_empty 10 = .ok (.aload_n 0, 1) := by decide +kernel
theorem dX8_empty_11 : decode cX8_empty 11 = .ok (.iconst 0, 1) := by decide +kernel
theorem dX8_empty_12 : decode cX8_empty 12 = .ok (.putfield 50, 3) := by decide +kernel
theorem dX8_empty_15 : decode cX8_empty 15 = .ok (.aload_n 0, 1) := by decide +kernel
theorem dX8_empty_16 : decode cX8_empty 16 = .ok (.iconst 0, 1) := by decide +kernel
theorem dX8_empty_17 : decode cX8_empty 17 = .ok (.putfield 36, 3) := by decide +kernel
theorem dX8_empty_20 : decode cX8_empty 20 = .ok (.return_, 1) := by decide +kernel
theorem dX8_make_0 : decode cX8_make 0 = .ok (.aload_n 0, 1) := by decide +kernel
theorem dX8_make_1 : decode cX8_make 1 = .ok (.getfield 9, 3) := by decide +kernel
theorem dX8_make_4 : decode cX8_make 4 = .ok (.iload_n 1, 1) := by decide +kernel
theorem dX8_make_5 : decode cX8_make 5 = .ok (.iload_n 2, 1) := by decide +kernel
theorem dX8_make_6 : decode cX8_make 6 = .ok (.iastore, 1) := by decide +kernel
theorem dX8_make_7 : decode cX8_make 7 = .ok (.aload_n 0, 1) := by decide +kernel
theorem dX8_make_8 : decode cX8_make 8 = .ok (.getfield 15, 3) := by decide +kernel
theorem dX8_make_11 : decode cX8_make 11 = .ok (.iload_n 1, 1) := by decide +kernel
theorem dX8_make_12 : decode cX8_make 12 = .ok (.iload_n 2, 1) := by decide +kernel
theorem dX8_make_13 : decode cX8_make 13 = .ok (.iastore, 1) := by decide +kernel
theorem dX8_make_14 : decode cX8_make 14 = .ok (.aload_n 0, 1) := by decide +kernel
theorem dX8_make_15 : decode cX8_make 15 = .ok (.getfield 18, 3) := by decide +kernel
theorem dX8_make_18 : decode cX8_make 18 = .ok (.iload_n 1, 1) := by decide +kernel
theorem dX8_make_19 : decode cX8_make 19 = .ok (.iload_n 2, 1) := by decide +kernel
theorem dX8_make_20 : decode cX8_make 20 = .ok (.iastore, 1) := by decide +kernel
theorem dX8_make_21 : decode cX8_make 21 = .ok (.return_, 1) := by decide +kernel
theorem dX8_addMouth_0 : decode cX8_addMouth 0 = .ok (.aload_n 0, 1) := by decide +kernel
theorem dX8_addMouth_1 : decode cX8_addMouth 1 = .ok (.getfield 23, 3) := by decide +kernel
theorem dX8_addMouth_4 : decode cX8_addMouth 4 = .ok (.aload_n 0, 1) := by decide +kernel
theorem dX8_addMouth_5 : decode cX8_addMouth 5 = .ok (.getfield 50, 3) := by decide +kernel
theorem dX8_addMouth_8 : decode cX8_addMouth 8 = .ok (.iload_n 1, 1) := by decide +kernel
theorem dX8_addMouth_9 : decode cX8_addMouth 9 = .ok (.aload_n 0, 1) := by decide +kernel
theorem dX8_addMouth_10 : decode cX8_addMouth 10 = .ok (.getfield 50, 3) := by decide +kernel
theorem dX8_addMouth_13 : decode cX8_addMouth 13 = .ok (.iload_n 2, 1) := by decide +kernel
theorem dX8_addMouth_14 : decode cX8_addMouth 14 = .ok (.invokestatic 53, 3) := by decide +kernel
theorem dX8_addMouth_17 : decode cX8_addMouth 17 = .ok (.aastore, 1) := by decide +kernel
theorem dX8_addMouth_18 : decode cX8_addMouth 18 = .ok (.aload_n 0, 1) := by decide +kernel
theorem dX8_addMouth_19 : decode cX8_addMouth 19 = .ok (.dup, 1) := by decide +kernel
theorem dX8_addMouth_20 : decode cX8_addMouth 20 = .ok (.getfield 50, 3) := by decide +kernel
theorem dX8_addMouth_23 : decode cX8_addMouth 23 = .ok (.iconst 1, 1) := by decide +kernel
theorem dX8_addMouth_24 : decode cX8_addMouth 24 = .ok (.iadd, 1) := by decide +kernel
theorem dX8_addMouth_25 : decode cX8_addMouth 25 = .ok (.putfield 50, 3) := by decide +kernel
theorem dX8_addMouth_28 : decode cX8_addMouth 28 = .ok (.return_, 1) := by decide +kernel
theorem dX8_newMouth_0 : decode cX8_newMouth 0 = .ok (.iload_n 0, 1) := by decide +kernel
theorem dX8_newMouth_1 : decode cX8_newMouth 1 = .ok (.tableswitch 71 2 5 #[31, 41, 51, 61], 31) := by decide +kernel
theorem dX8_newMouth_32 : decode cX8_newMouth 32 = .ok (.new 57, 3) := by decide +kernel
theorem dX8_newMouth_35 : decode cX8_newMouth 35 = .ok (.dup, 1) := by decide +kernel
theorem dX8_newMouth_36 : decode cX8_newMouth 36 = .ok (.iload_n 1, 1) := by decide +kernel
theorem dX8_newMouth_37 : decode cX8_newMouth 37 = .ok (.iload_n 2, 1) := by decide +kernel
theorem dX8_newMouth_38 : decode cX8_newMouth 38 = .ok (.invokespecial 59, 3) := by decide +kernel
theorem dX8_newMouth_41 : decode cX8_newMouth 41 = .ok (.areturn, 1) := by decide +kernel
theorem dX8_newMouth_42 : decode cX8_newMouth 42 = .ok (.new 62, 3) := by decide +kernel
theorem dX8_newMouth_45 : decode cX8_newMouth 45 = .ok (.dup, 1) := by decide +kernel
theorem dX8_newMouth_46 : decode cX8_newMouth 46 = .ok (.iload_n 1, 1) := by decide +kernel
theorem dX8_newMouth_47 : decode cX8_newMouth 47 = .ok (.iload_n 2, 1) := by decide +kernel
theorem dX8_newMouth_48 : decode cX8_newMouth 48 = .ok (.invokespecial 64, 3) := by decide +kernel
theorem dX8_newMouth_51 : decode cX8_newMouth 51 = .ok (.areturn, 1) := by decide +kernel
theorem dX8_newMouth_52 : decode cX8_newMouth 52 = .ok (.new 65, 3) := by decide +kernel
theorem dX8_newMouth_55 : decode cX8_newMouth 55 = .ok (.dup, 1) := by decide +kernel
theorem dX8_newMouth_56 : decode cX8_newMouth 56 = .ok (.iload_n 1, 1) := by decide +kernel
theorem dX8_newMouth_57 : decode cX8_newMouth 57 = .ok (.iload_n 2, 1) := by decide +kernel
theorem dX8_newMouth_58 : decode cX8_newMouth 58 = .ok (.invokespecial 67, 3) := by decide +kernel
theorem dX8_newMouth_61 : decode cX8_newMouth 61 = .ok (.areturn, 1) := by decide +kernel
theorem dX8_newMouth_62 : decode cX8_newMouth 62 = .ok (.new 68, 3) := by decide +kernel
theorem dX8_newMouth_65 : decode cX8_newMouth 65 = .ok (.dup, 1) := by decide +kernel
theorem dX8_newMouth_66 : decode cX8_newMouth 66 = .ok (.iload_n 1, 1) := by decide +kernel
theorem dX8_newMouth_67 : decode cX8_newMouth 67 = .ok (.iload_n 2, 1) := by decide +kernel
theorem dX8_newMouth_68 : decode cX8_newMouth 68 = .ok (.invokespecial 70, 3) := by decide +kernel
theorem dX8_newMouth_71 : decode cX8_newMouth 71 = .ok (.areturn, 1) := by decide +kernel
theorem dX8_newMouth_72 : decode cX8_newMouth 72 = .ok (.new 71, 3) := by decide +kernel
theorem dX8_newMouth_75 : decode cX8_newMouth 75 = .ok (.dup, 1) := by decide +kernel
theorem dX8_newMouth_76 : decode cX8_newMouth 76 = .ok (.iload_n 1, 1) := by decide +kernel
theorem dX8_newMouth_77 : decode cX8_newMouth 77 = .ok (.iload_n 2, 1) := by decide +kernel
theorem dX8_newMouth_78 : decode cX8_newMouth 78 = .ok (.invokespecial 73, 3) := by decide +kernel
theorem dX8_newMouth_81 : decode cX8_newMouth 81 = .ok (.areturn, 1) := by decide +kernel
theorem dX8_mouthAt_0 : decode cX8_mouthAt 0 = .ok (.iload_n 1, 1) := by decide +kernel
theorem dX8_mouthAt_1 : decode cX8_mouthAt 1 = .ok (.ifCond .lt 20, 3) := by decide +kernel
theorem dX8_mouthAt_4 : decode cX8_mouthAt 4 = .ok (.iload_n 1, 1) := by decide +kernel
theorem dX8_mouthAt_5 : decode cX8_mouthAt 5 = .ok (.aload_n 0, 1) := by decide +kernel
theorem dX8_mouthAt_6 : decode cX8_mouthAt 6 = .ok (.getfield 50, 3) := by decide +kernel
theorem dX8_mouthAt_9 : decode cX8_mouthAt 9 = .ok (.if_icmp .ge 12, 3) := by decide +kernel
theorem dX8_mouthAt_12 : decode cX8_mouthAt 12 = .ok (.aload_n 0, 1) := by decide +kernel
theorem dX8_mouthAt_13 : decode cX8_mouthAt 13 = .ok (.getfield 23, 3) := by decide +kernel
theorem dX8_mouthAt_16 : decode cX8_mouthAt 16 = .ok (.iload_n 1, 1) := by decide +kernel
theorem dX8_mouthAt_17 : decode cX8_mouthAt 17 = .ok (.aaload, 1) := by decide +kernel
theorem dX8_mouthAt_18 : decode cX8_mouthAt 18 = .ok (.goto 4, 3) := by decide +kernel
theorem dX8_mouthAt_21 : decode cX8_mouthAt 21 = .ok (.aconst_null, 1) := by decide +kernel
theorem dX8_mouthAt_22 : decode cX8_mouthAt 22 = .ok (.areturn, 1) := by decide +kernel
theorem dX8_hasDummy_0 : decode cX8_hasDummy 0 = .ok (.iload_n 1, 1) := by decide +kernel
theorem dX8_hasDummy_1 : decode cX8_hasDummy 1 = .ok (.ifCond .lt 15, 3) := by decide +kernel
theorem dX8_hasDummy_4 : decode cX8_hasDummy 4 = .ok (.iload_n 1, 1) := by decide +kernel
theorem dX8_hasDummy_5 : decode cX8_hasDummy 5 = .ok (.aload_n 0, 1) := by decide +kernel
theorem dX8_hasDummy_6 : decode cX8_hasDummy 6 = .ok (.getfield 47, 3) := by decide +kernel
theorem dX8_hasDummy_9 : decode cX8_hasDummy 9 = .ok (.if_icmp .ge 7, 3) := by decide +kernel
theorem dX8_hasDummy_12 : decode cX8_hasDummy 12 = .ok (.iconst 1, 1) := by decide +kernel
theorem dX8_hasDummy_13 : decode cX8_hasDummy 13 = .ok (.goto 4, 3) := by decide +kernel
theorem dX8_hasDummy_16 : decode cX8_hasDummy 16 = .ok (.iconst 0, 1) := by decide +kernel
theorem dX8_hasDummy_17 : decode cX8_hasDummy 17 = .ok (.ireturn, 1) := by decide +kernel
theorem dX8_hasPlace_0 : decode cX8_hasPlace 0 = .ok (.aload_n 0, 1) := by decide +kernel
theorem dX8_hasPlace_1 : decode cX8_hasPlace 1 = .ok (.iload_n 1, 1) := by decide +kernel
theorem dX8_hasPlace_2 : decode cX8_hasPlace 2 = .ok (.invokevirtual 74, 3) := by decide +kernel
theorem dX8_hasPlace_5 : decode cX8_hasPlace 5 = .ok (.ifCond .eq 16, 3) := by decide +kernel
theorem dX8_hasPlace_8 : decode cX8_hasPlace 8 = .ok (.iload_n 2, 1) := by decide +kernel
theorem dX8_hasPlace_9 : decode cX8_hasPlace 9 = .ok (.ifCond .lt 12, 3) := by decide +kernel
theorem dX8_hasPlace_12 : decode cX8_hasPlace 12 = .ok (.iload_n 2, 1) := by decide +kernel
theorem dX8_hasPlace_13 : decode cX8_hasPlace 13 = .ok (.iconst 3, 1) := by decide +kernel
theorem dX8_hasPlace_14 : decode cX8_hasPlace 14 = .ok (.if_icmp .ge 7, 3) := by decide +kernel
theorem dX8_hasPlace_17 : decode cX8_hasPlace 17 = .ok (.iconst 1, 1) := by decide +kernel
theorem dX8_hasPlace_18 : decode cX8_hasPlace 18 = .ok (.goto 4, 3) := by decide +kernel
theorem dX8_hasPlace_21 : decode cX8_hasPlace 21 = .ok (.iconst 0, 1) := by decide +kernel
theorem dX8_hasPlace_22 : decode cX8_hasPlace 22 = .ok (.ireturn, 1) := by decide +kernel
theorem dX8_isLogFull_0 : decode cX8_isLogFull 0 = .ok (.aload_n 0, 1) := by decide +kernel
theorem dX8_isLogFull_1 : decode cX8_isLogFull 1 = .ok (.getfield 36, 3) := by decide +kernel
theorem dX8_isLogFull_4 : decode cX8_isLogFull 4 = .ok (.bipush 16, 2) := by decide +kernel
theorem dX8_isLogFull_6 : decode cX8_isLogFull 6 = .ok (.if_icmp .lt 7, 3) := by decide +kernel
theorem dX8_isLogFull_9 : decode cX8_isLogFull 9 = .ok (.iconst 1, 1) := by decide +kernel
theorem dX8_isLogFull_10 : decode cX8_isLogFull 10 = .ok (.goto 4, 3) := by decide +kernel
theorem dX8_isLogFull_13 : decode cX8_isLogFull 13 = .ok (.iconst 0, 1) := by decide +kernel
theorem dX8_isLogFull_14 : decode cX8_isLogFull 14 = .ok (.ireturn, 1) := by decide +kernel
theorem dX8_hasRoomFor_0 : decode cX8_hasRoomFor 0 = .ok (.iload_n 1, 1) := by decide +kernel
theorem dX8_hasRoomFor_1 : decode cX8_hasRoomFor 1 = .ok (.iload_n 2, 1) := by decide +kernel
theorem dX8_hasRoomFor_2 : decode cX8_hasRoomFor 2 = .ok (.invokestatic 78, 3) := by decide +kernel
theorem dX8_hasRoomFor_5 : decode cX8_hasRoomFor 5 = .ok (.istore 5, 2) := by decide +kernel
theorem dX8_hasRoomFor_7 : decode cX8_hasRoomFor 7 = .ok (.aload_n 0, 1) := by decide +kernel
theorem dX8_hasRoomFor_8 : decode cX8_hasRoomFor 8 = .ok (.getfield 9, 3) := by decide +kernel
theorem dX8_hasRoomFor_11 : decode cX8_hasRoomFor 11 = .ok (.iload 5, 2) := by decide +kernel
theorem dX8_hasRoomFor_13 : decode cX8_hasRoomFor 13 = .ok (.iaload, 1) := by decide +kernel
theorem dX8_hasRoomFor_14 : decode cX8_hasRoomFor 14 = .ok (.iload_n 3, 1) := by decide +kernel
theorem dX8_hasRoomFor_15 : decode cX8_hasRoomFor 15 = .ok (.iadd, 1) := by decide +kernel
theorem dX8_hasRoomFor_16 : decode cX8_hasRoomFor 16 = .ok (.invokestatic 82, 3) := by decide +kernel
theorem dX8_hasRoomFor_19 : decode cX8_hasRoomFor 19 = .ok (.sipush 999, 3) := by decide +kernel
theorem dX8_hasRoomFor_22 : decode cX8_hasRoomFor 22 = .ok (.if_icmp .gt 26, 3) := by decide +kernel
theorem dX8_hasRoomFor_25 : decode cX8_hasRoomFor 25 = .ok (.aload_n 0, 1) := by decide +kernel
theorem dX8_hasRoomFor_26 : decode cX8_hasRoomFor 26 = .ok (.getfield 18, 3) := by decide +kernel
theorem dX8_hasRoomFor_29 : decode cX8_hasRoomFor 29 = .ok (.iload 5, 2) := by decide +kernel
theorem dX8_hasRoomFor_31 : decode cX8_hasRoomFor 31 = .ok (.iaload, 1) := by decide +kernel
theorem dX8_hasRoomFor_32 : decode cX8_hasRoomFor 32 = .ok (.iload 4, 2) := by decide +kernel
theorem dX8_hasRoomFor_34 : decode cX8_hasRoomFor 34 = .ok (.iadd, 1) := by decide +kernel
theorem dX8_hasRoomFor_35 : decode cX8_hasRoomFor 35 = .ok (.invokestatic 82, 3) := by decide +kernel
theorem dX8_hasRoomFor_38 : decode cX8_hasRoomFor 38 = .ok (.sipush 999, 3) := by decide +kernel
theorem dX8_hasRoomFor_41 : decode cX8_hasRoomFor 41 = .ok (.if_icmp .gt 7, 3) := by decide +kernel
theorem dX8_hasRoomFor_44 : decode cX8_hasRoomFor 44 = .ok (.iconst 1, 1) := by decide +kernel
theorem dX8_hasRoomFor_45 : decode cX8_hasRoomFor 45 = .ok (.goto 4, 3) := by decide +kernel
theorem dX8_hasRoomFor_48 : decode cX8_hasRoomFor 48 = .ok (.iconst 0, 1) := by decide +kernel
theorem dX8_hasRoomFor_49 : decode cX8_hasRoomFor 49 = .ok (.ireturn, 1) := by decide +kernel
theorem dX8_pinch_0 : decode cX8_pinch 0 = .ok (.aload_n 0, 1) := by decide +kernel
theorem dX8_pinch_1 : decode cX8_pinch 1 = .ok (.getfield 18, 3) := by decide +kernel
theorem dX8_pinch_4 : decode cX8_pinch 4 = .ok (.iload_n 1, 1) := by decide +kernel
theorem dX8_pinch_5 : decode cX8_pinch 5 = .ok (.iaload, 1) := by decide +kernel
theorem dX8_pinch_6 : decode cX8_pinch 6 = .ok (.aload_n 0, 1) := by decide +kernel
theorem dX8_pinch_7 : decode cX8_pinch 7 = .ok (.getfield 9, 3) := by decide +kernel
theorem dX8_pinch_10 : decode cX8_pinch 10 = .ok (.iload_n 1, 1) := by decide +kernel
theorem dX8_pinch_11 : decode cX8_pinch 11 = .ok (.iaload, 1) := by decide +kernel
theorem dX8_pinch_12 : decode cX8_pinch 12 = .ok (.isub, 1) := by decide +kernel
theorem dX8_pinch_13 : decode cX8_pinch 13 = .ok (.ireturn, 1) := by decide +kernel
theorem dX8_addTelling_0 : decode cX8_addTelling 0 = .ok (.aload_n 0, 1) := by decide +kernel
theorem dX8_addTelling_1 : decode cX8_addTelling 1 = .ok (.iconst 0, 1) := by decide +kernel
theorem dX8_addTelling_2 : decode cX8_addTelling 2 = .ok (.iload_n 1, 1) := by decide +kernel
theorem dX8_addTelling_3 : decode cX8_addTelling 3 = .ok (.iload_n 2, 1) := by decide +kernel
theorem dX8_addTelling_4 : decode cX8_addTelling 4 = .ok (.iload_n 3, 1) := by decide +kernel
theorem dX8_addTelling_5 : decode cX8_addTelling 5 = .ok (.iload 4, 2) := by decide +kernel
theorem dX8_addTelling_7 : decode cX8_addTelling 7 = .ok (.iload 5, 2) := by decide +kernel
theorem dX8_addTelling_9 : decode cX8_addTelling 9 = .ok (.invokevirtual 88, 3) := by decide +kernel
theorem dX8_addTelling_12 : decode cX8_addTelling 12 = .ok (.aload_n 0, 1) := by decide +kernel
theorem dX8_addTelling_13 : decode cX8_addTelling 13 = .ok (.getfield 9, 3) := by decide +kernel
theorem dX8_addTelling_16 : decode cX8_addTelling 16 = .ok (.iload_n 2, 1) := by decide +kernel
theorem dX8_addTelling_17 : decode cX8_addTelling 17 = .ok (.iload_n 3, 1) := by decide +kernel
theorem dX8_addTelling_18 : decode cX8_addTelling 18 = .ok (.invokestatic 78, 3) := by decide +kernel
theorem dX8_addTelling_21 : decode cX8_addTelling 21 = .ok (.dup2, 1) := by decide +kernel
theorem dX8_addTelling_22 : decode cX8_addTelling 22 = .ok (.iaload, 1) := by decide +kernel
theorem dX8_addTelling_23 : decode cX8_addTelling 23 = .ok (.iload 5, 2) := by decide +kernel
theorem dX8_addTelling_25 : decode cX8_addTelling 25 = .ok (.iadd, 1) := by decide +kernel
theorem dX8_addTelling_26 : decode cX8_addTelling 26 = .ok (.iastore, 1) := by decide +kernel
theorem dX8_addTelling_27 : decode cX8_addTelling 27 = .ok (.aload_n 0, 1) := by decide +kernel
theorem dX8_addTelling_28 : decode cX8_addTelling 28 = .ok (.getfield 18, 3) := by decide +kernel
theorem dX8_addTelling_31 : decode cX8_addTelling 31 = .ok (.iload_n 2, 1) := by decide +kernel
theorem dX8_addTelling_32 : decode cX8_addTelling 32 = .ok (.iload_n 3, 1) := by decide +kernel
theorem dX8_addTelling_33 : decode cX8_addTelling 33 = .ok (.invokestatic 78, 3) := by decide +kernel
theorem dX8_addTelling_36 : decode cX8_addTelling 36 = .ok (.dup2, 1) := by decide +kernel
theorem dX8_addTelling_37 : decode cX8_addTelling 37 = .ok (.iaload, 1) := by decide +kernel
theorem dX8_addTelling_38 : decode cX8_addTelling 38 = .ok (.iload 4, 2) := by decide +kernel
theorem dX8_addTelling_40 : decode cX8_addTelling 40 = .ok (.iadd, 1) := by decide +kernel
theorem dX8_addTelling_41 : decode cX8_addTelling 41 = .ok (.iastore, 1) := by decide +kernel
theorem dX8_addTelling_42 : decode cX8_addTelling 42 = .ok (.return_, 1) := by decide +kernel
theorem dX8_addYear_0 : decode cX8_addYear 0 = .ok (.aload_n 0, 1) := by decide +kernel
theorem dX8_addYear_1 : decode cX8_addYear 1 = .ok (.iconst 1, 1) := by decide +kernel
theorem dX8_addYear_2 : decode cX8_addYear 2 = .ok (.ldc 92, 2) := by decide +kernel
theorem dX8_addYear_4 : decode cX8_addYear 4 = .ok (.ldc 92, 2) := by decide +kernel
theorem dX8_addYear_6 : decode cX8_addYear 6 = .ok (.ldc 92, 2) := by decide +kernel
theorem dX8_addYear_8 : decode cX8_addYear 8 = .ok (.iconst 0, 1) := by decide +kernel
theorem dX8_addYear_9 : decode cX8_addYear 9 = .ok (.iconst 0, 1) := by decide +kernel
theorem dX8_addYear_10 : decode cX8_addYear 10 = .ok (.invokevirtual 88, 3) := by decide +kernel
theorem dX8_addYear_13 : decode cX8_addYear 13 = .ok (.aload_n 0, 1) := by decide +kernel
theorem dX8_addYear_14 : decode cX8_addYear 14 = .ok (.invokevirtual 93, 3) := by decide +kernel
theorem dX8_addYear_17 : decode cX8_addYear 17 = .ok (.ireturn, 1) := by decide +kernel
theorem dX8_addSwap_0 : decode cX8_addSwap 0 = .ok (.aload_n 0, 1) := by decide +kernel
theorem dX8_addSwap_1 : decode cX8_addSwap 1 = .ok (.iconst 2, 1) := by decide +kernel
theorem dX8_addSwap_2 : decode cX8_addSwap 2 = .ok (.iload_n 1, 1) := by decide +kernel
theorem dX8_addSwap_3 : decode cX8_addSwap 3 = .ok (.iload_n 2, 1) := by decide +kernel
theorem dX8_addSwap_4 : decode cX8_addSwap 4 = .ok (.ldc 92, 2) := by decide +kernel
theorem dX8_addSwap_6 : decode cX8_addSwap 6 = .ok (.iconst 0, 1) := by decide +kernel
theorem dX8_addSwap_7 : decode cX8_addSwap 7 = .ok (.iconst 0, 1) := by decide +kernel
theorem dX8_addSwap_8 : decode cX8_addSwap 8 = .ok (.invokevirtual 88, 3) := by decide +kernel
theorem dX8_addSwap_11 : decode cX8_addSwap 11 = .ok (.aload_n 0, 1) := by decide +kernel
theorem dX8_addSwap_12 : decode cX8_addSwap 12 = .ok (.iload_n 1, 1) := by decide +kernel
theorem dX8_addSwap_13 : decode cX8_addSwap 13 = .ok (.iload_n 2, 1) := by decide +kernel
theorem dX8_addSwap_14 : decode cX8_addSwap 14 = .ok (.invokevirtual 97, 3) := by decide +kernel
theorem dX8_addSwap_17 : decode cX8_addSwap 17 = .ok (.return_, 1) := by decide +kernel
theorem dX8_addLine_0 : decode cX8_addLine 0 = .ok (.bipush 6, 2) := by decide +kernel
theorem dX8_addLine_2 : decode cX8_addLine 2 = .ok (.aload_n 0, 1) := by decide +kernel
theorem dX8_addLine_3 : decode cX8_addLine 3 = .ok (.getfield 36, 3) := by decide +kernel
theorem dX8_addLine_6 : decode cX8_addLine 6 = .ok (.imul, 1) := by decide +kernel
theorem dX8_addLine_7 : decode cX8_addLine 7 = .ok (.istore 7, 2) := by decide +kernel
theorem dX8_addLine_9 : decode cX8_addLine 9 = .ok (.aload_n 0, 1) := by decide +kernel
theorem dX8_addLine_10 : decode cX8_addLine 10 = .ok (.getfield 27, 3) := by decide +kernel
theorem dX8_addLine_13 : decode cX8_addLine 13 = .ok (.iload 7, 2) := by decide +kernel
theorem dX8_addLine_15 : decode cX8_addLine 15 = .ok (.iload_n 1, 1) := by decide +kernel
theorem dX8_addLine_16 : decode cX8_addLine 16 = .ok (.iastore, 1) := by decide +kernel
theorem dX8_addLine_17 : decode cX8_addLine 17 = .ok (.aload_n 0, 1) := by decide +kernel
theorem dX8_addLine_18 : decode cX8_addLine 18 = .ok (.getfield 27, 3) := by decide +kernel
theorem dX8_addLine_21 : decode cX8_addLine 21 = .ok (.iload 7, 2) := by decide +kernel
theorem dX8_addLine_23 : decode cX8_addLine 23 = .ok (.iconst 1, 1) := by decide +kernel
theorem dX8_addLine_24 : decode cX8_addLine 24 = .ok (.iadd, 1) := by decide +kernel
theorem dX8_addLine_25 : decode cX8_addLine 25 = .ok (.iload_n 2, 1) := by decide +kernel
theorem dX8_addLine_26 : decode cX8_addLine 26 = .ok (.iastore, 1) := by decide +kernel
theorem dX8_addLine_27 : decode cX8_addLine 27 = .ok (.aload_n 0, 1) := by decide +kernel
theorem dX8_addLine_28 : decode cX8_addLine 28 = .ok (.getfield 27, 3) := by decide +kernel
theorem dX8_addLine_31 : decode cX8_addLine 31 = .ok (.iload 7, 2) := by decide +kernel
theorem dX8_addLine_33 : decode cX8_addLine 33 = .ok (.iconst 2, 1) := by decide +kernel
theorem dX8_addLine_34 : decode cX8_addLine 34 = .ok (.iadd, 1) := by decide +kernel
theorem dX8_addLine_35 : decode cX8_addLine 35 = .ok (.iload_n 3, 1) := by decide +kernel
theorem dX8_addLine_36 : decode cX8_addLine 36 = .ok (.iastore, 1) := by decide +kernel
theorem dX8_addLine_37 : decode cX8_addLine 37 = .ok (.aload_n 0, 1) := by decide +kernel
theorem dX8_addLine_38 : decode cX8_addLine 38 = .ok (.getfield 27, 3) := by decide +kernel
theorem dX8_addLine_41 : decode cX8_addLine 41 = .ok (.iload 7, 2) := by decide +kernel
theorem dX8_addLine_43 : decode cX8_addLine 43 = .ok (.iconst 3, 1) := by decide +kernel
theorem dX8_addLine_44 : decode cX8_addLine 44 = .ok (.iadd, 1) := by decide +kernel
theorem dX8_addLine_45 : decode cX8_addLine 45 = .ok (.iload 4, 2) := by decide +kernel
theorem dX8_addLine_47 : decode cX8_addLine 47 = .ok (.iastore, 1) := by decide +kernel
theorem dX8_addLine_48 : decode cX8_addLine 48 = .ok (.aload_n 0, 1) := by decide +kernel
theorem dX8_addLine_49 : decode cX8_addLine 49 = .ok (.getfield 27, 3) := by decide +kernel
theorem dX8_addLine_52 : decode cX8_addLine 52 = .ok (.iload 7, 2) := by decide +kernel
theorem dX8_addLine_54 : decode cX8_addLine 54 = .ok (.iconst 4, 1) := by decide +kernel
theorem dX8_addLine_55 : decode cX8_addLine 55 = .ok (.iadd, 1) := by decide +kernel
theorem dX8_addLine_56 : decode cX8_addLine 56 = .ok (.iload 5, 2) := by decide +kernel
theorem dX8_addLine_58 : decode cX8_addLine 58 = .ok (.iastore, 1) := by decide +kernel
theorem dX8_addLine_59 : decode cX8_addLine 59 = .ok (.aload_n 0, 1) := by decide +kernel
theorem dX8_addLine_60 : decode cX8_addLine 60 = .ok (.getfield 27, 3) := by decide +kernel
theorem dX8_addLine_63 : decode cX8_addLine 63 = .ok (.iload 7, 2) := by decide +kernel
theorem dX8_addLine_65 : decode cX8_addLine 65 = .ok (.iconst 5, 1) := by decide +kernel
theorem dX8_addLine_66 : decode cX8_addLine 66 = .ok (.iadd, 1) := by decide +kernel
theorem dX8_addLine_67 : decode cX8_addLine 67 = .ok (.iload 6, 2) := by decide +kernel
theorem dX8_addLine_69 : decode cX8_addLine 69 = .ok (.iastore, 1) := by decide +kernel
theorem dX8_addLine_70 : decode cX8_addLine 70 = .ok (.aload_n 0, 1) := by decide +kernel
theorem dX8_addLine_71 : decode cX8_addLine 71 = .ok (.dup, 1) := by decide +kernel
theorem dX8_addLine_72 : decode cX8_addLine 72 = .ok (.getfield 36, 3) := by decide +kernel
theorem dX8_addLine_75 : decode cX8_addLine 75 = .ok (.iconst 1, 1) := by decide +kernel
theorem dX8_addLine_76 : decode cX8_addLine 76 = .ok (.iadd, 1) := by decide +kernel
theorem dX8_addLine_77 : decode cX8_addLine 77 = .ok (.putfield 36, 3) := by decide +kernel
theorem dX8_addLine_80 : decode cX8_addLine 80 = .ok (.return_, 1) := by decide +kernel
theorem dX8_shrinkAll_0 : decode cX8_shrinkAll 0 = .ok (.iconst 0, 1) := by decide +kernel
theorem dX8_shrinkAll_1 : decode cX8_shrinkAll 1 = .ok (.istore_n 1, 1) := by decide +kernel
theorem dX8_shrinkAll_2 : decode cX8_shrinkAll 2 = .ok (.iconst 0, 1) := by decide +kernel
theorem dX8_shrinkAll_3 : decode cX8_shrinkAll 3 = .ok (.istore_n 2, 1) := by decide +kernel
theorem dX8_shrinkAll_4 : decode cX8_shrinkAll 4 = .ok (.iload_n 2, 1) := by decide +kernel
theorem dX8_shrinkAll_5 : decode cX8_shrinkAll 5 = .ok (.iconst 3, 1) := by decide +kernel
theorem dX8_shrinkAll_6 : decode cX8_shrinkAll 6 = .ok (.aload_n 0, 1) := by decide +kernel
theorem dX8_shrinkAll_7 : decode cX8_shrinkAll 7 = .ok (.getfield 47, 3) := by decide +kernel
theorem dX8_shrinkAll_10 : decode cX8_shrinkAll 10 = .ok (.imul, 1) := by decide +kernel
theorem dX8_shrinkAll_11 : decode cX8_shrinkAll 11 = .ok (.if_icmp .ge 62, 3) := by decide +kernel
theorem dX8_shrinkAll_14 : decode cX8_shrinkAll 14 = .ok (.aload_n 0, 1) := by decide +kernel
theorem dX8_shrinkAll_15 : decode cX8_shrinkAll 15 = .ok (.getfield 9, 3) := by decide +kernel
theorem dX8_shrinkAll_18 : decode cX8_shrinkAll 18 = .ok (.iload_n 2, 1) := by decide +kernel
theorem dX8_shrinkAll_19 : decode cX8_shrinkAll 19 = .ok (.iaload, 1) := by decide +kernel
theorem dX8_shrinkAll_20 : decode cX8_shrinkAll 20 = .ok (.aload_n 0, 1) := by decide +kernel
theorem dX8_shrinkAll_21 : decode cX8_shrinkAll 21 = .ok (.getfield 15, 3) := by decide +kernel
theorem dX8_shrinkAll_24 : decode cX8_shrinkAll 24 = .ok (.iload_n 2, 1) := by decide +kernel
theorem dX8_shrinkAll_25 : decode cX8_shrinkAll 25 = .ok (.iaload, 1) := by decide +kernel
theorem dX8_shrinkAll_26 : decode cX8_shrinkAll 26 = .ok (.isub, 1) := by decide +kernel
theorem dX8_shrinkAll_27 : decode cX8_shrinkAll 27 = .ok (.istore_n 3, 1) := by decide +kernel
theorem dX8_shrinkAll_28 : decode cX8_shrinkAll 28 = .ok (.iload_n 3, 1) := by decide +kernel
theorem dX8_shrinkAll_29 : decode cX8_shrinkAll 29 = .ok (.ifCond .le 19, 3) := by decide +kernel
theorem dX8_shrinkAll_32 : decode cX8_shrinkAll 32 = .ok (.aload_n 0, 1) := by decide +kernel
theorem dX8_shrinkAll_33 : decode cX8_shrinkAll 33 = .ok (.getfield 44, 3) := by decide +kernel
theorem dX8_shrinkAll_36 : decode cX8_shrinkAll 36 = .ok (.ifCond .le 12, 3) := by decide +kernel
theorem dX8_shrinkAll_39 : decode cX8_shrinkAll 39 = .ok (.iload_n 3, 1) := by decide +kernel
theorem dX8_shrinkAll_40 : decode cX8_shrinkAll 40 = .ok (.aload_n 0, 1) := by decide +kernel
theorem dX8_shrinkAll_41 : decode cX8_shrinkAll 41 = .ok (.getfield 44, 3) := by decide +kernel
theorem dX8_shrinkAll_44 : decode cX8_shrinkAll 44 = .ok (.idiv, 1) := by decide +kernel
theorem dX8_shrinkAll_45 : decode cX8_shrinkAll 45 = .ok (.goto 4, 3) := by decide +kernel
theorem dX8_shrinkAll_48 : decode cX8_shrinkAll 48 = .ok (.iconst 0, 1) := by decide +kernel
theorem dX8_shrinkAll_49 : decode cX8_shrinkAll 49 = .ok (.istore 4, 2) := by decide +kernel
theorem dX8_shrinkAll_51 : decode cX8_shrinkAll 51 = .ok (.aload_n 0, 1) := by decide +kernel
theorem dX8_shrinkAll_52 : decode cX8_shrinkAll 52 = .ok (.getfield 9, 3) := by decide +kernel
theorem dX8_shrinkAll_55 : decode cX8_shrinkAll 55 = .ok (.iload_n 2, 1) := by decide +kernel
theorem dX8_shrinkAll_56 : decode cX8_shrinkAll 56 = .ok (.dup2, 1) := by decide +kernel
theorem dX8_shrinkAll_57 : decode cX8_shrinkAll 57 = .ok (.iaload, 1) := by decide +kernel
theorem dX8_shrinkAll_58 : decode cX8_shrinkAll 58 = .ok (.iload 4, 2) := by decide +kernel
theorem dX8_shrinkAll_60 : decode cX8_shrinkAll 60 = .ok (.isub, 1) := by decide +kernel
theorem dX8_shrinkAll_61 : decode cX8_shrinkAll 61 = .ok (.iastore, 1) := by decide +kernel
theorem dX8_shrinkAll_62 : decode cX8_shrinkAll 62 = .ok (.iload_n 1, 1) := by decide +kernel
theorem dX8_shrinkAll_63 : decode cX8_shrinkAll 63 = .ok (.iload 4, 2) := by decide +kernel
theorem dX8_shrinkAll_65 : decode cX8_shrinkAll 65 = .ok (.iadd, 1) := by decide +kernel
theorem dX8_shrinkAll_66 : decode cX8_shrinkAll 66 = .ok (.istore_n 1, 1) := by decide +kernel
theorem dX8_shrinkAll_67 : decode cX8_shrinkAll 67 = .ok (.iinc 2 1, 3) := by decide +kernel
theorem dX8_shrinkAll_70 : decode cX8_shrinkAll 70 = .ok (.goto (-66), 3) := by decide +kernel
theorem dX8_shrinkAll_73 : decode cX8_shrinkAll 73 = .ok (.iload_n 1, 1) := by decide +kernel
theorem dX8_shrinkAll_74 : decode cX8_shrinkAll 74 = .ok (.ireturn, 1) := by decide +kernel
theorem dX8_exchange_0 : decode cX8_exchange 0 = .ok (.iconst 0, 1) := by decide +kernel
theorem dX8_exchange_1 : decode cX8_exchange 1 = .ok (.istore_n 3, 1) := by decide +kernel
theorem dX8_exchange_2 : decode cX8_exchange 2 = .ok (.iload_n 3, 1) := by decide +kernel
theorem dX8_exchange_3 : decode cX8_exchange 3 = .ok (.iconst 3, 1) := by decide +kernel
theorem dX8_exchange_4 : decode cX8_exchange 4 = .ok (.if_icmp .ge 53, 3) := by decide +kernel
theorem dX8_exchange_7 : decode cX8_exchange 7 = .ok (.aload_n 0, 1) := by decide +kernel
theorem dX8_exchange_8 : decode cX8_exchange 8 = .ok (.getfield 9, 3) := by decide +kernel
theorem dX8_exchange_11 : decode cX8_exchange 11 = .ok (.iload_n 1, 1) := by decide +kernel
theorem dX8_exchange_12 : decode cX8_exchange 12 = .ok (.iload_n 3, 1) := by decide +kernel
theorem dX8_exchange_13 : decode cX8_exchange 13 = .ok (.invokestatic 78, 3) := by decide +kernel
theorem dX8_exchange_16 : decode cX8_exchange 16 = .ok (.iaload, 1) := by decide +kernel
theorem dX8_exchange_17 : decode cX8_exchange 17 = .ok (.istore 4, 2) := by decide +kernel
theorem dX8_exchange_19 : decode cX8_exchange 19 = .ok (.aload_n 0, 1) := by decide +kernel
theorem dX8_exchange_20 : decode cX8_exchange 20 = .ok (.getfield 9, 3) := by decide +kernel
theorem dX8_exchange_23 : decode cX8_exchange 23 = .ok (.iload_n 1, 1) := by decide +kernel
theorem dX8_exchange_24 : decode cX8_exchange 24 = .ok (.iload_n 3, 1) := by decide +kernel
theorem dX8_exchange_25 : decode cX8_exchange 25 = .ok (.invokestatic 78, 3) := by decide +kernel
theorem dX8_exchange_28 : decode cX8_exchange 28 = .ok (.aload_n 0, 1) := by decide +kernel
theorem dX8_exchange_29 : decode cX8_exchange 29 = .ok (.getfield 9, 3) := by decide +kernel
theorem dX8_exchange_32 : decode cX8_exchange 32 = .ok (.iload_n 2, 1) := by decide +kernel
theorem dX8_exchange_33 : decode cX8_exchange 33 = .ok (.iload_n 3, 1) := by decide +kernel
theorem dX8_exchange_34 : decode cX8_exchange 34 = .ok (.invokestatic 78, 3) := by decide +kernel
theorem dX8_exchange_37 : decode cX8_exchange 37 = .ok (.iaload, 1) := by decide +kernel
theorem dX8_exchange_38 : decode cX8_exchange 38 = .ok (.iastore, 1) := by decide +kernel
theorem dX8_exchange_39 : decode cX8_exchange 39 = .ok (.aload_n 0, 1) := by decide +kernel
theorem dX8_exchange_40 : decode cX8_exchange 40 = .ok (.getfield 9, 3) := by decide +kernel
theorem dX8_exchange_43 : decode cX8_exchange 43 = .ok (.iload_n 2, 1) := by decide +kernel
theorem dX8_exchange_44 : decode cX8_exchange 44 = .ok (.iload_n 3, 1) := by decide +kernel
theorem dX8_exchange_45 : decode cX8_exchange 45 = .ok (.invokestatic 78, 3) := by decide +kernel
theorem dX8_exchange_48 : decode cX8_exchange 48 = .ok (.iload 4, 2) := by decide +kernel
theorem dX8_exchange_50 : decode cX8_exchange 50 = .ok (.iastore, 1) := by decide +kernel
theorem dX8_exchange_51 : decode cX8_exchange 51 = .ok (.iinc 3 1, 3) := by decide +kernel
theorem dX8_exchange_54 : decode cX8_exchange 54 = .ok (.goto (-52), 3) := by decide +kernel
theorem dX8_exchange_57 : decode cX8_exchange 57 = .ok (.return_, 1) := by decide +kernel
theorem dX8_endLog_0 : decode cX8_endLog 0 = .ok (.iconst 0, 1) := by decide +kernel
theorem dX8_endLog_1 : decode cX8_endLog 1 = .ok (.istore_n 1, 1) := by decide +kernel
theorem dX8_endLog_2 : decode cX8_endLog 2 = .ok (.iload_n 1, 1) := by decide +kernel
theorem dX8_endLog_3 : decode cX8_endLog 3 = .ok (.iconst 3, 1) := by decide +kernel
theorem dX8_endLog_4 : decode cX8_endLog 4 = .ok (.aload_n 0, 1) := by decide +kernel
theorem dX8_endLog_5 : decode cX8_endLog 5 = .ok (.getfield 47, 3) := by decide +kernel
theorem dX8_endLog_8 : decode cX8_endLog 8 = .ok (.imul, 1) := by decide +kernel
theorem dX8_endLog_9 : decode cX8_endLog 9 = .ok (.if_icmp .ge 20, 3) := by decide +kernel
theorem dX8_endLog_12 : decode cX8_endLog 12 = .ok (.aload_n 0, 1) := by decide +kernel
theorem dX8_endLog_13 : decode cX8_endLog 13 = .ok (.iload_n 1, 1) := by decide +kernel
theorem dX8_endLog_14 : decode cX8_endLog 14 = .ok (.aload_n 0, 1) := by decide +kernel
theorem dX8_endLog_15 : decode cX8_endLog 15 = .ok (.getfield 9, 3) := by decide +kernel
theorem dX8_endLog_18 : decode cX8_endLog 18 = .ok (.iload_n 1, 1) := by decide +kernel
theorem dX8_endLog_19 : decode cX8_endLog 19 = .ok (.iaload, 1) := by decide +kernel
theorem dX8_endLog_20 : decode cX8_endLog 20 = .ok (.invokevirtual 100, 3) := by decide +kernel
theorem dX8_endLog_23 : decode cX8_endLog 23 = .ok (.iinc 1 1, 3) := by decide +kernel
theorem dX8_endLog_26 : decode cX8_endLog 26 = .ok (.goto (-24), 3) := by decide +kernel
theorem dX8_endLog_29 : decode cX8_endLog 29 = .ok (.aload_n 0, 1) := by decide +kernel
theorem dX8_endLog_30 : decode cX8_endLog 30 = .ok (.getfield 36, 3) := by decide +kernel
theorem dX8_endLog_33 : decode cX8_endLog 33 = .ok (.istore_n 1, 1) := by decide +kernel
theorem dX8_endLog_34 : decode cX8_endLog 34 = .ok (.aload_n 0, 1) := by decide +kernel
theorem dX8_endLog_35 : decode cX8_endLog 35 = .ok (.iconst 0, 1) := by decide +kernel
theorem dX8_endLog_36 : decode cX8_endLog 36 = .ok (.putfield 36, 3) := by decide +kernel
theorem dX8_endLog_39 : decode cX8_endLog 39 = .ok (.iload_n 1, 1) := by decide +kernel
theorem dX8_endLog_40 : decode cX8_endLog 40 = .ok (.ireturn, 1) := by decide +kernel
theorem dX8_goBackTo_0 : decode cX8_goBackTo 0 = .ok (.aload_n 0, 1) := by decide +kernel
theorem dX8_goBackTo_1 : decode cX8_goBackTo 1 = .ok (.getfield 15, 3) := by decide +kernel
theorem dX8_goBackTo_4 : decode cX8_goBackTo 4 = .ok (.iconst 0, 1) := by decide +kernel
theorem dX8_goBackTo_5 : decode cX8_goBackTo 5 = .ok (.aload_n 0, 1) := by decide +kernel
theorem dX8_goBackTo_6 : decode cX8_goBackTo 6 = .ok (.getfield 9, 3) := by decide +kernel
theorem dX8_goBackTo_9 : decode cX8_goBackTo 9 = .ok (.iconst 0, 1) := by decide +kernel
theorem dX8_goBackTo_10 : decode cX8_goBackTo 10 = .ok (.aload_n 0, 1) := by decide +kernel
theorem dX8_goBackTo_11 : decode cX8_goBackTo 11 = .ok (.getfield 9, 3) := by decide +kernel
theorem dX8_goBackTo_14 : decode cX8_goBackTo 14 = .ok (.arraylength, 1) := by decide +kernel
theorem dX8_goBackTo_15 : decode cX8_goBackTo 15 = .ok (.invokestatic 30, 3) := by decide +kernel
theorem dX8_goBackTo_18 : decode cX8_goBackTo 18 = .ok (.iconst 0, 1) := by decide +kernel
theorem dX8_goBackTo_19 : decode cX8_goBackTo 19 = .ok (.istore_n 2, 1) := by decide +kernel
theorem dX8_goBackTo_20 : decode cX8_goBackTo 20 = .ok (.iload_n 2, 1) := by decide +kernel
theorem dX8_goBackTo_21 : decode cX8_goBackTo 21 = .ok (.iload_n 1, 1) := by decide +kernel
theorem dX8_goBackTo_22 : decode cX8_goBackTo 22 = .ok (.if_icmp .ge 14, 3) := by decide +kernel
theorem dX8_goBackTo_25 : decode cX8_goBackTo 25 = .ok (.aload_n 0, 1) := by decide +kernel
theorem dX8_goBackTo_26 : decode cX8_goBackTo 26 = .ok (.iload_n 2, 1) := by decide +kernel
theorem dX8_goBackTo_27 : decode cX8_goBackTo 27 = .ok (.invokevirtual 103, 3) := by decide +kernel
theorem dX8_goBackTo_30 : decode cX8_goBackTo 30 = .ok (.iinc 2 1, 3) := by decide +kernel
theorem dX8_goBackTo_33 : decode cX8_goBackTo 33 = .ok (.goto (-13), 3) := by decide +kernel
theorem dX8_goBackTo_36 : decode cX8_goBackTo 36 = .ok (.return_, 1) := by decide +kernel
theorem dX8_doAgain_0 : decode cX8_doAgain 0 = .ok (.aload_n 0, 1) := by decide +kernel
theorem dX8_doAgain_1 : decode cX8_doAgain 1 = .ok (.iload_n 1, 1) := by decide +kernel
theorem dX8_doAgain_2 : decode cX8_doAgain 2 = .ok (.iconst 0, 1) := by decide +kernel
theorem dX8_doAgain_3 : decode cX8_doAgain 3 = .ok (.invokevirtual 107, 3) := by decide +kernel
theorem dX8_doAgain_6 : decode cX8_doAgain 6 = .ok (.lookupswitch 66 #[(0, 26), (1, 58)], 26) := by decide +kernel
theorem dX8_doAgain_32 : decode cX8_doAgain 32 = .ok (.aload_n 0, 1) := by decide +kernel
theorem dX8_doAgain_33 : decode cX8_doAgain 33 = .ok (.getfield 9, 3) := by decide +kernel
theorem dX8_doAgain_36 : decode cX8_doAgain 36 = .ok (.aload_n 0, 1) := by decide +kernel
theorem dX8_doAgain_37 : decode cX8_doAgain 37 = .ok (.iload_n 1, 1) := by decide +kernel
theorem dX8_doAgain_38 : decode cX8_doAgain 38 = .ok (.iconst 2, 1) := by decide +kernel
theorem dX8_doAgain_39 : decode cX8_doAgain 39 = .ok (.invokevirtual 107, 3) := by decide +kernel
theorem dX8_doAgain_42 : decode cX8_doAgain 42 = .ok (.aload_n 0, 1) := by decide +kernel
theorem dX8_doAgain_43 : decode cX8_doAgain 43 = .ok (.iload_n 1, 1) := by decide +kernel
theorem dX8_doAgain_44 : decode cX8_doAgain 44 = .ok (.iconst 3, 1) := by decide +kernel
theorem dX8_doAgain_45 : decode cX8_doAgain 45 = .ok (.invokevirtual 107, 3) := by decide +kernel
theorem dX8_doAgain_48 : decode cX8_doAgain 48 = .ok (.invokestatic 78, 3) := by decide +kernel
theorem dX8_doAgain_51 : decode cX8_doAgain 51 = .ok (.dup2, 1) := by decide +kernel
theorem dX8_doAgain_52 : decode cX8_doAgain 52 = .ok (.iaload, 1) := by decide +kernel
theorem dX8_doAgain_53 : decode cX8_doAgain 53 = .ok (.aload_n 0, 1) := by decide +kernel
theorem dX8_doAgain_54 : decode cX8_doAgain 54 = .ok (.iload_n 1, 1) := by decide +kernel
theorem dX8_doAgain_55 : decode cX8_doAgain 55 = .ok (.iconst 5, 1) := by decide +kernel
theorem dX8_doAgain_56 : decode cX8_doAgain 56 = .ok (.invokevirtual 107, 3) := by decide +kernel
theorem dX8_doAgain_59 : decode cX8_doAgain 59 = .ok (.iadd, 1) := by decide +kernel
theorem dX8_doAgain_60 : decode cX8_doAgain 60 = .ok (.iastore, 1) := by decide +kernel
theorem dX8_doAgain_61 : decode cX8_doAgain 61 = .ok (.goto 27, 3) := by decide +kernel
theorem dX8_doAgain_64 : decode cX8_doAgain 64 = .ok (.aload_n 0, 1) := by decide +kernel
theorem dX8_doAgain_65 : decode cX8_doAgain 65 = .ok (.invokevirtual 93, 3) := by decide +kernel
theorem dX8_doAgain_68 : decode cX8_doAgain 68 = .ok (.pop, 1) := by decide +kernel
theorem dX8_doAgain_69 : decode cX8_doAgain 69 = .ok (.goto 19, 3) := by decide +kernel
theorem dX8_doAgain_72 : decode cX8_doAgain 72 = .ok (.aload_n 0, 1) := by decide +kernel
theorem dX8_doAgain_73 : decode cX8_doAgain 73 = .ok (.aload_n 0, 1) := by decide +kernel
theorem dX8_doAgain_74 : decode cX8_doAgain 74 = .ok (.iload_n 1, 1) := by decide +kernel
theorem dX8_doAgain_75 : decode cX8_doAgain 75 = .ok (.iconst 1, 1) := by decide +kernel
theorem dX8_doAgain_76 : decode cX8_doAgain 76 = .ok (.invokevirtual 107, 3) := by decide +kernel
theorem dX8_doAgain_79 : decode cX8_doAgain 79 = .ok (.aload_n 0, 1) := by decide +kernel
theorem dX8_doAgain_80 : decode cX8_doAgain 80 = .ok (.iload_n 1, 1) := by decide +kernel
theorem dX8_doAgain_81 : decode cX8_doAgain 81 = .ok (.iconst 2, 1) := by decide +kernel
theorem dX8_doAgain_82 : decode cX8_doAgain 82 = .ok (.invokevirtual 107, 3) := by decide +kernel
theorem dX8_doAgain_85 : decode cX8_doAgain 85 = .ok (.invokevirtual 97, 3) := by decide +kernel
theorem dX8_doAgain_88 : decode cX8_doAgain 88 = .ok (.return_, 1) := by decide +kernel
theorem dX8_part_0 : decode cX8_part 0 = .ok (.aload_n 0, 1) := by decide +kernel
theorem dX8_part_1 : decode cX8_part 1 = .ok (.getfield 27, 3) := by decide +kernel
theorem dX8_part_4 : decode cX8_part 4 = .ok (.bipush 6, 2) := by decide +kernel
theorem dX8_part_6 : decode cX8_part 6 = .ok (.iload_n 1, 1) := by decide +kernel
theorem dX8_part_7 : decode cX8_part 7 = .ok (.imul, 1) := by decide +kernel
theorem dX8_part_8 : decode cX8_part 8 = .ok (.iload_n 2, 1) := by decide +kernel
theorem dX8_part_9 : decode cX8_part 9 = .ok (.iadd, 1) := by decide +kernel
theorem dX8_part_10 : decode cX8_part 10 = .ok (.iaload, 1) := by decide +kernel
theorem dX8_part_11 : decode cX8_part 11 = .ok (.ireturn, 1) := by decide +kernel
theorem dX8_isTelling_0 : decode cX8_isTelling 0 = .ok (.aload_n 0, 1) := by decide +kernel
theorem dX8_isTelling_1 : decode cX8_isTelling 1 = .ok (.iload_n 1, 1) := by decide +kernel
theorem dX8_isTelling_2 : decode cX8_isTelling 2 = .ok (.iconst 0, 1) := by decide +kernel
theorem dX8_isTelling_3 : decode cX8_isTelling 3 = .ok (.invokevirtual 107, 3) := by decide +kernel
theorem dX8_isTelling_6 : decode cX8_isTelling 6 = .ok (.ifCond .ne 7, 3) := by decide +kernel
theorem dX8_isTelling_9 : decode cX8_isTelling 9 = .ok (.iconst 1, 1) := by decide +kernel
theorem dX8_isTelling_10 : decode cX8_isTelling 10 = .ok (.goto 4, 3) := by decide +kernel
theorem dX8_isTelling_13 : decode cX8_isTelling 13 = .ok (.iconst 0, 1) := by decide +kernel
theorem dX8_isTelling_14 : decode cX8_isTelling 14 = .ok (.ireturn, 1) := by decide +kernel
theorem dX8_isTellingBy_0 : decode cX8_isTellingBy 0 = .ok (.aload_n 0, 1) := by decide +kernel
theorem dX8_isTellingBy_1 : decode cX8_isTellingBy 1 = .ok (.iload_n 1, 1) := by decide +kernel
theorem dX8_isTellingBy_2 : decode cX8_isTellingBy 2 = .ok (.invokevirtual 110, 3) := by decide +kernel
theorem dX8_isTellingBy_5 : decode cX8_isTellingBy 5 = .ok (.ifCond .eq 17, 3) := by decide +kernel
theorem dX8_isTellingBy_8 : decode cX8_isTellingBy 8 = .ok (.aload_n 0, 1) := by decide +kernel
theorem dX8_isTellingBy_9 : decode cX8_isTellingBy 9 = .ok (.iload_n 1, 1) := by decide +kernel
theorem dX8_isTellingBy_10 : decode cX8_isTellingBy 10 = .ok (.iconst 1, 1) := by decide +kernel
theorem dX8_isTellingBy_11 : decode cX8_isTellingBy 11 = .ok (.invokevirtual 107, 3) := by decide +kernel
theorem dX8_isTellingBy_14 : decode cX8_isTellingBy 14 = .ok (.iload_n 2, 1) := by decide +kernel
theorem dX8_isTellingBy_15 : decode cX8_isTellingBy 15 = .ok (.if_icmp .ne 7, 3) := by decide +kernel
theorem dX8_isTellingBy_18 : decode cX8_isTellingBy 18 = .ok (.iconst 1, 1) := by decide +kernel
theorem dX8_isTellingBy_19 : decode cX8_isTellingBy 19 = .ok (.goto 4, 3) := by decide +kernel
theorem dX8_isTellingBy_22 : decode cX8_isTellingBy 22 = .ok (.iconst 0, 1) := by decide +kernel
theorem dX8_isTellingBy_23 : decode cX8_isTellingBy 23 = .ok (.ireturn, 1) := by decide +kernel
theorem dX8_isTellingOf_0 : decode cX8_isTellingOf 0 = .ok (.aload_n 0, 1) := by decide +kernel
theorem dX8_isTellingOf_1 : decode cX8_isTellingOf 1 = .ok (.iload_n 1, 1) := by decide +kernel
theorem dX8_isTellingOf_2 : decode cX8_isTellingOf 2 = .ok (.invokevirtual 110, 3) := by decide +kernel
theorem dX8_isTellingOf_5 : decode cX8_isTellingOf 5 = .ok (.ifCond .eq 17, 3) := by decide +kernel
theorem dX8_isTellingOf_8 : decode cX8_isTellingOf 8 = .ok (.aload_n 0, 1) := by decide +kernel
theorem dX8_isTellingOf_9 : decode cX8_isTellingOf 9 = .ok (.iload_n 1, 1) := by decide +kernel
theorem dX8_isTellingOf_10 : decode cX8_isTellingOf 10 = .ok (.iconst 2, 1) := by decide +kernel
theorem dX8_isTellingOf_11 : decode cX8_isTellingOf 11 = .ok (.invokevirtual 107, 3) := by decide +kernel
theorem dX8_isTellingOf_14 : decode cX8_isTellingOf 14 = .ok (.iload_n 2, 1) := by decide +kernel
theorem dX8_isTellingOf_15 : decode cX8_isTellingOf 15 = .ok (.if_icmp .ne 7, 3) := by decide +kernel
theorem dX8_isTellingOf_18 : decode cX8_isTellingOf 18 = .ok (.iconst 1, 1) := by decide +kernel
theorem dX8_isTellingOf_19 : decode cX8_isTellingOf 19 = .ok (.goto 4, 3) := by decide +kernel
theorem dX8_isTellingOf_22 : decode cX8_isTellingOf 22 = .ok (.iconst 0, 1) := by decide +kernel
theorem dX8_isTellingOf_23 : decode cX8_isTellingOf 23 = .ok (.ireturn, 1) := by decide +kernel
theorem dX8_tellingsBy_0 : decode cX8_tellingsBy 0 = .ok (.iconst 0, 1) := by decide +kernel
theorem dX8_tellingsBy_1 : decode cX8_tellingsBy 1 = .ok (.istore_n 2, 1) := by decide +kernel
theorem dX8_tellingsBy_2 : decode cX8_tellingsBy 2 = .ok (.iconst 0, 1) := by decide +kernel
theorem dX8_tellingsBy_3 : decode cX8_tellingsBy 3 = .ok (.istore_n 3, 1) := by decide +kernel
theorem dX8_tellingsBy_4 : decode cX8_tellingsBy 4 = .ok (.iload_n 3, 1) := by decide +kernel
theorem dX8_tellingsBy_5 : decode cX8_tellingsBy 5 = .ok (.aload_n 0, 1) := by decide +kernel
theorem dX8_tellingsBy_6 : decode cX8_tellingsBy 6 = .ok (.getfield 36, 3) := by decide +kernel
theorem dX8_tellingsBy_9 : decode cX8_tellingsBy 9 = .ok (.if_icmp .ge 21, 3) := by decide +kernel
theorem dX8_tellingsBy_12 : decode cX8_tellingsBy 12 = .ok (.aload_n 0, 1) := by decide +kernel
theorem dX8_tellingsBy_13 : decode cX8_tellingsBy 13 = .ok (.iload_n 3, 1) := by decide +kernel
theorem dX8_tellingsBy_14 : decode cX8_tellingsBy 14 = .ok (.iload_n 1, 1) := by decide +kernel
theorem dX8_tellingsBy_15 : decode cX8_tellingsBy 15 = .ok (.invokevirtual 113, 3) := by decide +kernel
theorem dX8_tellingsBy_18 : decode cX8_tellingsBy 18 = .ok (.ifCond .eq 6, 3) := by decide +kernel
theorem dX8_tellingsBy_21 : decode cX8_tellingsBy 21 = .ok (.iinc 2 1, 3) := by decide +kernel
theorem dX8_tellingsBy_24 : decode cX8_tellingsBy 24 = .ok (.iinc 3 1, 3) := by decide +kernel
theorem dX8_tellingsBy_27 : decode cX8_tellingsBy 27 = .ok (.goto (-23), 3) := by decide +kernel
theorem dX8_tellingsBy_30 : decode cX8_tellingsBy 30 = .ok (.iload_n 2, 1) := by decide +kernel
theorem dX8_tellingsBy_31 : decode cX8_tellingsBy 31 = .ok (.ireturn, 1) := by decide +kernel
theorem dX8_years_0 : decode cX8_years 0 = .ok (.iconst 0, 1) := by decide +kernel
theorem dX8_years_1 : decode cX8_years 1 = .ok (.istore_n 1, 1) := by decide +kernel
theorem dX8_years_2 : decode cX8_years 2 = .ok (.iconst 0, 1) := by decide +kernel
theorem dX8_years_3 : decode cX8_years 3 = .ok (.istore_n 2, 1) := by decide +kernel
theorem dX8_years_4 : decode cX8_years 4 = .ok (.iload_n 2, 1) := by decide +kernel
theorem dX8_years_5 : decode cX8_years 5 = .ok (.aload_n 0, 1) := by decide +kernel
theorem dX8_years_6 : decode cX8_years 6 = .ok (.getfield 36, 3) := by decide +kernel
theorem dX8_years_9 : decode cX8_years 9 = .ok (.if_icmp .ge 22, 3) := by decide +kernel
theorem dX8_years_12 : decode cX8_years 12 = .ok (.aload_n 0, 1) := by decide +kernel
theorem dX8_years_13 : decode cX8_years 13 = .ok (.iload_n 2, 1) := by decide +kernel
theorem dX8_years_14 : decode cX8_years 14 = .ok (.iconst 0, 1) := by decide +kernel
theorem dX8_years_15 : decode cX8_years 15 = .ok (.invokevirtual 107, 3) := by decide +kernel
theorem dX8_years_18 : decode cX8_years 18 = .ok (.iconst 1, 1) := by decide +kernel
theorem dX8_years_19 : decode cX8_years 19 = .ok (.if_icmp .ne 6, 3) := by decide +kernel
theorem dX8_years_22 : decode cX8_years 22 = .ok (.iinc 1 1, 3) := by decide +kernel
theorem dX8_years_25 : decode cX8_years 25 = .ok (.iinc 2 1, 3) := by decide +kernel
theorem dX8_years_28 : decode cX8_years 28 = .ok (.goto (-24), 3) := by decide +kernel
theorem dX8_years_31 : decode cX8_years 31 = .ok (.iload_n 1, 1) := by decide +kernel
theorem dX8_years_32 : decode cX8_years 32 = .ok (.ireturn, 1) := by decide +kernel
theorem dX9_init_0 : decode cX9_init 0 = .ok (.aload_n 0, 1) := by decide +kernel
theorem dX9_init_1 : decode cX9_init 1 = .ok (.invokespecial 3, 3) := by decide +kernel
theorem dX9_init_4 : decode cX9_init 4 = .ok (.aload_n 0, 1) := by decide +kernel
theorem dX9_init_5 : decode cX9_init 5 = .ok (.sipush 140, 3) := by decide +kernel
theorem dX9_init_8 : decode cX9_init 8 = .ok (.newarray .int, 2) := by decide +kernel
theorem dX9_init_10 : decode cX9_init 10 = .ok (.putfield 11, 3) := by decide +kernel
theorem dX9_init_13 : decode cX9_init 13 = .ok (.return_, 1) := by decide +kernel
theorem dX9_isFull_0 : decode cX9_isFull 0 = .ok (.aload_n 0, 1) := by decide +kernel
theorem dX9_isFull_1 : decode cX9_isFull 1 = .ok (.getfield 15, 3) := by decide +kernel
theorem dX9_isFull_4 : decode cX9_isFull 4 = .ok (.sipush 140, 3) := by decide +kernel
theorem dX9_isFull_7 : decode cX9_isFull 7 = .ok (.if_icmp .lt 7, 3) := by decide +kernel
theorem dX9_isFull_10 : decode cX9_isFull 10 = .ok (.iconst 1, 1) := by decide +kernel
theorem dX9_isFull_11 : decode cX9_isFull 11 = .ok (.goto 4, 3) := by decide +kernel
theorem dX9_isFull_14 : decode cX9_isFull 14 = .ok (.iconst 0, 1) := by decide +kernel
theorem dX9_isFull_15 : decode cX9_isFull 15 = .ok (.ireturn, 1) := by decide +kernel
theorem dX9_add_0 : decode cX9_add 0 = .ok (.aload_n 0, 1) := by decide +kernel
theorem dX9_add_1 : decode cX9_add 1 = .ok (.getfield 11, 3) := by decide +kernel
theorem dX9_add_4 : decode cX9_add 4 = .ok (.aload_n 0, 1) := by decide +kernel
theorem dX9_add_5 : decode cX9_add 5 = .ok (.getfield 15, 3) := by decide +kernel
theorem dX9_add_8 : decode cX9_add 8 = .ok (.iload_n 1, 1) := by decide +kernel
theorem dX9_add_9 : decode cX9_add 9 = .ok (.iastore, 1) := by decide +kernel
theorem dX9_add_10 : decode cX9_add 10 = .ok (.aload_n 0, 1) := by decide +kernel
theorem dX9_add_11 : decode cX9_add 11 = .ok (.dup, 1) := by decide +kernel
theorem dX9_add_12 : decode cX9_add 12 = .ok (.getfield 15, 3) := by decide +kernel
theorem dX9_add_15 : decode cX9_add 15 = .ok (.iconst 1, 1) := by decide +kernel
theorem dX9_add_16 : decode cX9_add 16 = .ok (.iadd, 1) := by decide +kernel
theorem dX9_add_17 : decode cX9_add 17 = .ok (.putfield 15, 3) := by decide +kernel
theorem dX9_add_20 : decode cX9_add 20 = .ok (.aload_n 0, 1) := by decide +kernel
theorem dX9_add_21 : decode cX9_add 21 = .ok (.getfield 15, 3) := by decide +kernel
theorem dX9_add_24 : decode cX9_add 24 = .ok (.ireturn, 1) := by decide +kernel
theorem dX9_readInto_0 : decode cX9_readInto 0 = .ok (.aload_n 0, 1) := by decide +kernel
theorem dX9_readInto_1 : decode cX9_readInto 1 = .ok (.iconst 0, 1) := by decide +kernel
theorem dX9_readInto_2 : decode cX9_readInto 2 = .ok (.putfield 19, 3) := by decide +kernel
theorem dX9_readInto_5 : decode cX9_readInto 5 = .ok (.aload_n 1, 1) := by decide +kernel
theorem dX9_readInto_6 : decode cX9_readInto 6 = .ok (.invokevirtual 22, 3) := by decide +kernel
theorem dX9_readInto_9 : decode cX9_readInto 9 = .ok (.aload_n 0, 1) := by decide +kernel
theorem dX9_readInto_10 : decode cX9_readInto 10 = .ok (.aload_n 1, 1) := by decide +kernel
theorem dX9_readInto_11 : decode cX9_readInto 11 = .ok (.invokevirtual 27, 3) := by decide +kernel
theorem dX9_readInto_14 : decode cX9_readInto 14 = .ok (.ifCond .eq 23, 3) := by decide +kernel
theorem dX9_readInto_17 : decode cX9_readInto 17 = .ok (.aload_n 0, 1) := by decide +kernel
theorem dX9_readInto_18 : decode cX9_readInto 18 = .ok (.aload_n 1, 1) := by decide +kernel
theorem dX9_readInto_19 : decode cX9_readInto 19 = .ok (.invokevirtual 31, 3) := by decide +kernel
theorem dX9_readInto_22 : decode cX9_readInto 22 = .ok (.ifCond .eq 15, 3) := by decide +kernel
theorem dX9_readInto_25 : decode cX9_readInto 25 = .ok (.aload_n 0, 1) := by decide +kernel
theorem dX9_readInto_26 : decode cX9_readInto 26 = .ok (.aload_n 1, 1) := by decide +kernel
theorem dX9_readInto_27 : decode cX9_readInto 27 = .ok (.invokevirtual 34, 3) := by decide +kernel
theorem dX9_readInto_30 : decode cX9_readInto 30 = .ok (.ifCond .eq 7, 3) := by decide +kernel
theorem dX9_readInto_33 : decode cX9_readInto 33 = .ok (.iconst 1, 1) := by decide +kernel
theorem dX9_readInto_34 : decode cX9_readInto 34 = .ok (.goto 4, 3) := by decide +kernel
theorem dX9_readInto_37 : decode cX9_readInto 37 = .ok (.iconst 0, 1) := by decide +kernel
theorem dX9_readInto_38 : decode cX9_readInto 38 = .ok (.ireturn, 1) := by decide +kernel
theorem dX9_readLaw_0 : decode cX9_readLaw 0 = .ok (.aload_n 0, 1) := by decide +kernel
theorem dX9_readLaw_1 : decode cX9_readLaw 1 = .ok (.bipush 119, 2) := by decide +kernel
theorem dX9_readLaw_3 : decode cX9_readLaw 3 = .ok (.invokevirtual 37, 3) := by decide +kernel
theorem dX9_readLaw_6 : decode cX9_readLaw 6 = .ok (.ifCond .eq 22, 3) := by decide +kernel
theorem dX9_readLaw_9 : decode cX9_readLaw 9 = .ok (.aload_n 0, 1) := by decide +kernel
theorem dX9_readLaw_10 : decode cX9_readLaw 10 = .ok (.iconst 2, 1) := by decide +kernel
theorem dX9_readLaw_11 : decode cX9_readLaw 11 = .ok (.bipush 20, 2) := by decide +kernel
theorem dX9_readLaw_13 : decode cX9_readLaw 13 = .ok (.invokevirtual 41, 3) := by decide +kernel
theorem dX9_readLaw_16 : decode cX9_readLaw 16 = .ok (.ifCond .eq 12, 3) := by decide +kernel
theorem dX9_readLaw_19 : decode cX9_readLaw 19 = .ok (.aload_n 0, 1) := by decide +kernel
theorem dX9_readLaw_20 : decode cX9_readLaw 20 = .ok (.bipush 59, 2) := by decide +kernel
theorem dX9_readLaw_22 : decode cX9_readLaw 22 = .ok (.invokevirtual 37, 3) := by decide +kernel
theorem dX9_readLaw_25 : decode cX9_readLaw 25 = .ok (.ifCond .ne 5, 3) := by decide +kernel
theorem dX9_readLaw_28 : decode cX9_readLaw 28 = .ok (.iconst 0, 1) := by decide +kernel
theorem dX9_readLaw_29 : decode cX9_readLaw 29 = .ok (.ireturn, 1) := by decide +kernel
theorem dX9_readLaw_30 : decode cX9_readLaw 30 = .ok (.aload_n 1, 1) := by decide +kernel
theorem dX9_readLaw_31 : decode cX9_readLaw 31 = .ok (.aload_n 0, 1) := by decide +kernel
theorem dX9_readLaw_32 : decode cX9_readLaw 32 = .ok (.getfield 45, 3) := by decide +kernel
theorem dX9_readLaw_35 : decode cX9_readLaw 35 = .ok (.putfield 48, 3) := by decide +kernel
theorem dX9_readLaw_38 : decode cX9_readLaw 38 = .ok (.iconst 1, 1) := by decide +kernel
theorem dX9_readLaw_39 : decode cX9_readLaw 39 = .ok (.ireturn, 1) := by decide +kernel
theorem dX9_readDummies_0 : decode cX9_readDummies 0 = .ok (.iconst 0, 1) := by decide +kernel
theorem dX9_readDummies_1 : decode cX9_readDummies 1 = .ok (.istore_n 2, 1) := by decide +kernel
theorem dX9_readDummies_2 : decode cX9_readDummies 2 = .ok (.iload_n 2, 1) := by decide +kernel
theorem dX9_readDummies_3 : decode cX9_readDummies 3 = .ok (.iconst 4, 1) := by decide +kernel
theorem dX9_readDummies_4 : decode cX9_readDummies 4 = .ok (.if_icmp .gt 57, 3) := by decide +kernel
theorem dX9_readDummies_7 : decode cX9_readDummies 7 = .ok (.aload_n 0, 1) := by decide +kernel
theorem dX9_readDummies_8 : decode cX9_readDummies 8 = .ok (.bipush 100, 2) := by decide +kernel
theorem dX9_readDummies_10 : decode cX9_readDummies 10 = .ok (.invokevirtual 51, 3) := by decide +kernel
theorem dX9_readDummies_13 : decode cX9_readDummies 13 = .ok (.ifCond .eq 48, 3) := by decide +kernel
theorem dX9_readDummies_16 : decode cX9_readDummies 16 = .ok (.iload_n 2, 1) := by decide +kernel
theorem dX9_readDummies_17 : decode cX9_readDummies 17 = .ok (.iconst 4, 1) := by decide +kernel
theorem dX9_readDummies_18 : decode cX9_readDummies 18 = .ok (.if_icmp .ne 9, 3) := by decide +kernel
theorem dX9_readDummies_21 : decode cX9_readDummies 21 = .ok (.aload_n 0, 1) := by decide +kernel
theorem dX9_readDummies_22 : decode cX9_readDummies 22 = .ok (.iconst 3, 1) := by decide +kernel
theorem dX9_readDummies_23 : decode cX9_readDummies 23 = .ok (.invokevirtual 54, 3) := by decide +kernel
theorem dX9_readDummies_26 : decode cX9_readDummies 26 = .ok (.ireturn, 1) := by decide +kernel
theorem dX9_readDummies_27 : decode cX9_readDummies 27 = .ok (.aload_n 0, 1) := by decide +kernel
theorem dX9_readDummies_28 : decode cX9_readDummies 28 = .ok (.dup, 1) := by decide +kernel
theorem dX9_readDummies_29 : decode cX9_readDummies 29 = .ok (.getfield 19, 3) := by decide +kernel
theorem dX9_readDummies_32 : decode cX9_readDummies 32 = .ok (.iconst 1, 1) := by decide +kernel
theorem dX9_readDummies_33 : decode cX9_readDummies 33 = .ok (.iadd, 1) := by decide +kernel
theorem dX9_readDummies_34 : decode cX9_readDummies 34 = .ok (.putfield 19, 3) := by decide +kernel
theorem dX9_readDummies_37 : decode cX9_readDummies 37 = .ok (.aload_n 0, 1) := by decide +kernel
theorem dX9_readDummies_38 : decode cX9_readDummies 38 = .ok (.aload_n 1, 1) := by decide +kernel
theorem dX9_readDummies_39 : decode cX9_readDummies 39 = .ok (.iload_n 2, 1) := by decide +kernel
theorem dX9_readDummies_40 : decode cX9_readDummies 40 = .ok (.invokevirtual 58, 3) := by decide +kernel
theorem dX9_readDummies_43 : decode cX9_readDummies 43 = .ok (.ifCond .ne 5, 3) := by decide +kernel
theorem dX9_readDummies_46 : decode cX9_readDummies 46 = .ok (.iconst 0, 1) := by decide +kernel
theorem dX9_readDummies_47 : decode cX9_readDummies 47 = .ok (.ireturn, 1) := by decide +kernel
theorem dX9_readDummies_48 : decode cX9_readDummies 48 = .ok (.aload_n 1, 1) := by decide +kernel
theorem dX9_readDummies_49 : decode cX9_readDummies 49 = .ok (.iload_n 2, 1) := by decide +kernel
theorem dX9_readDummies_50 : decode cX9_readDummies 50 = .ok (.iconst 1, 1) := by decide +kernel
theorem dX9_readDummies_51 : decode cX9_readDummies 51 = .ok (.iadd, 1) := by decide +kernel
theorem dX9_readDummies_52 : decode cX9_readDummies 52 = .ok (.putfield 62, 3) := by decide +kernel
theorem dX9_readDummies_55 : decode cX9_readDummies 55 = .ok (.iinc 2 1, 3) := by decide +kernel
theorem dX9_readDummies_58 : decode cX9_readDummies 58 = .ok (.goto (-56), 3) := by decide +kernel
theorem dX9_readDummies_61 : decode cX9_readDummies 61 = .ok (.iconst 1, 1) := by decide +kernel
theorem dX9_readDummies_62 : decode cX9_readDummies 62 = .ok (.ireturn, 1) := by decide +kernel
theorem dX9_readInches_0 : decode cX9_readInches 0 = .ok (.iconst 0, 1) := by decide +kernel
theorem dX9_readInches_1 : decode cX9_readInches 1 = .ok (.istore_n 3, 1) := by decide +kernel
theorem dX9_readInches_2 : decode cX9_readInches 2 = .ok (.iload_n 3, 1) := by decide +kernel
theorem dX9_readInches_3 : decode cX9_readInches 3 = .ok (.iconst 3, 1) := by decide +kernel
theorem dX9_readInches_4 : decode cX9_readInches 4 = .ok (.if_icmp .ge 57, 3) := by decide +kernel
theorem dX9_readInches_7 : decode cX9_readInches 7 = .ok (.iload_n 3, 1) := by decide +kernel
theorem dX9_readInches_8 : decode cX9_readInches 8 = .ok (.iconst 2, 1) := by decide +kernel
theorem dX9_readInches_9 : decode cX9_readInches 9 = .ok (.if_icmp .ne 8, 3) := by decide +kernel
theorem dX9_readInches_12 : decode cX9_readInches 12 = .ok (.bipush 59, 2) := by decide +kernel
theorem dX9_readInches_14 : decode cX9_readInches 14 = .ok (.goto 5, 3) := by decide +kernel
theorem dX9_readInches_17 : decode cX9_readInches 17 = .ok (.bipush 44, 2) := by decide +kernel
theorem dX9_readInches_19 : decode cX9_readInches 19 = .ok (.istore 4, 2) := by decide +kernel
theorem dX9_readInches_21 : decode cX9_readInches 21 = .ok (.aload_n 0, 1) := by decide +kernel
theorem dX9_readInches_22 : decode cX9_readInches 22 = .ok (.iconst 0, 1) := by decide +kernel
theorem dX9_readInches_23 : decode cX9_readInches 23 = .ok (.bipush 99, 2) := by decide +kernel
theorem dX9_readInches_25 : decode cX9_readInches 25 = .ok (.invokevirtual 41, 3) := by decide +kernel
theorem dX9_readInches_28 : decode cX9_readInches 28 = .ok (.ifCond .eq 12, 3) := by decide +kernel
theorem dX9_readInches_31 : decode cX9_readInches 31 = .ok (.aload_n 0, 1) := by decide +kernel
theorem dX9_readInches_32 : decode cX9_readInches 32 = .ok (.iload 4, 2) := by decide +kernel
theorem dX9_readInches_34 : decode cX9_readInches 34 = .ok (.invokevirtual 37, 3) := by decide +kernel
theorem dX9_readInches_37 : decode cX9_readInches 37 = .ok (.ifCond .ne 5, 3) := by decide +kernel
theorem dX9_readInches_40 : decode cX9_readInches 40 = .ok (.iconst 0, 1) := by decide +kernel
theorem dX9_readInches_41 : decode cX9_readInches 41 = .ok (.ireturn, 1) := by decide +kernel
theorem dX9_readInches_42 : decode cX9_readInches 42 = .ok (.aload_n 1, 1) := by decide +kernel
theorem dX9_readInches_43 : decode cX9_readInches 43 = .ok (.iload_n 2, 1) := by decide +kernel
theorem dX9_readInches_44 : decode cX9_readInches 44 = .ok (.iload_n 3, 1) := by decide +kernel
theorem dX9_readInches_45 : decode cX9_readInches 45 = .ok (.invokestatic 65, 3) := by decide +kernel
theorem dX9_readInches_48 : decode cX9_readInches 48 = .ok (.aload_n 0, 1) := by decide +kernel
theorem dX9_readInches_49 : decode cX9_readInches 49 = .ok (.getfield 45, 3) := by decide +kernel
theorem dX9_readInches_52 : decode cX9_readInches 52 = .ok (.invokevirtual 69, 3) := by decide +kernel
theorem dX9_readInches_55 : decode cX9_readInches 55 = .ok (.iinc 3 1, 3) := by decide +kernel
theorem dX9_readInches_58 : decode cX9_readInches 58 = .ok (.goto (-56), 3) := by decide +kernel
theorem dX9_readInches_61 : decode cX9_readInches 61 = .ok (.iconst 1, 1) := by decide +kernel
theorem dX9_readInches_62 : decode cX9_readInches 62 = .ok (.ireturn, 1) := by decide +kernel
theorem dX9_readMouths_0 : decode cX9_readMouths 0 = .ok (.iconst 0, 1) := by decide +kernel
theorem dX9_readMouths_1 : decode cX9_readMouths 1 = .ok (.istore_n 2, 1) := by decide +kernel
theorem dX9_readMouths_2 : decode cX9_readMouths 2 = .ok (.iload_n 2, 1) := by decide +kernel
theorem dX9_readMouths_3 : decode cX9_readMouths 3 = .ok (.iconst 5, 1) := by decide +kernel
theorem dX9_readMouths_4 : decode cX9_readMouths 4 = .ok (.if_icmp .gt 96, 3) := by decide +kernel
theorem dX9_readMouths_7 : decode cX9_readMouths 7 = .ok (.aload_n 0, 1) := by decide +kernel
theorem dX9_readMouths_8 : decode cX9_readMouths 8 = .ok (.getfield 19, 3) := by decide +kernel
theorem dX9_readMouths_11 : decode cX9_readMouths 11 = .ok (.aload_n 0, 1) := by decide +kernel
theorem dX9_readMouths_12 : decode cX9_readMouths 12 = .ok (.getfield 15, 3) := by decide +kernel
theorem dX9_readMouths_15 : decode cX9_readMouths 15 = .ok (.if_icmp .ge 85, 3) := by decide +kernel
theorem dX9_readMouths_18 : decode cX9_readMouths 18 = .ok (.aload_n 0, 1) := by decide +kernel
theorem dX9_readMouths_19 : decode cX9_readMouths 19 = .ok (.getfield 11, 3) := by decide +kernel
theorem dX9_readMouths_22 : decode cX9_readMouths 22 = .ok (.aload_n 0, 1) := by decide +kernel
theorem dX9_readMouths_23 : decode cX9_readMouths 23 = .ok (.getfield 19, 3) := by decide +kernel
theorem dX9_readMouths_26 : decode cX9_readMouths 26 = .ok (.iaload, 1) := by decide +kernel
theorem dX9_readMouths_27 : decode cX9_readMouths 27 = .ok (.invokestatic 73, 3) := by decide +kernel
theorem dX9_readMouths_30 : decode cX9_readMouths 30 = .ok (.istore_n 3, 1) := by decide +kernel
theorem dX9_readMouths_31 : decode cX9_readMouths 31 = .ok (.iload_n 3, 1) := by decide +kernel
theorem dX9_readMouths_32 : decode cX9_readMouths 32 = .ok (.ldc 77, 2) := by decide +kernel
theorem dX9_readMouths_34 : decode cX9_readMouths 34 = .ok (.if_icmp .ne 9, 3) := by decide +kernel
theorem dX9_readMouths_37 : decode cX9_readMouths 37 = .ok (.aload_n 0, 1) := by decide +kernel
theorem dX9_readMouths_38 : decode cX9_readMouths 38 = .ok (.iconst 1, 1) := by decide +kernel
theorem dX9_readMouths_39 : decode cX9_readMouths 39 = .ok (.invokevirtual 54, 3) := by decide +kernel
theorem dX9_readMouths_42 : decode cX9_readMouths 42 = .ok (.ireturn, 1) := by decide +kernel
theorem dX9_readMouths_43 : decode cX9_readMouths 43 = .ok (.iload_n 2, 1) := by decide +kernel
theorem dX9_readMouths_44 : decode cX9_readMouths 44 = .ok (.iconst 5, 1) := by decide +kernel
theorem dX9_readMouths_45 : decode cX9_readMouths 45 = .ok (.if_icmp .ne 9, 3) := by decide +kernel
theorem dX9_readMouths_48 : decode cX9_readMouths 48 = .ok (.aload_n 0, 1) := by decide +kernel
theorem dX9_readMouths_49 : decode cX9_readMouths 49 = .ok (.iconst 3, 1) := by decide +kernel
theorem dX9_readMouths_50 : decode cX9_readMouths 50 = .ok (.invokevirtual 54, 3) := by decide +kernel
theorem dX9_readMouths_53 : decode cX9_readMouths 53 = .ok (.ireturn, 1) := by decide +kernel
theorem dX9_readMouths_54 : decode cX9_readMouths 54 = .ok (.aload_n 0, 1) := by decide +kernel
theorem dX9_readMouths_55 : decode cX9_readMouths 55 = .ok (.dup, 1) := by decide +kernel
theorem dX9_readMouths_56 : decode cX9_readMouths 56 = .ok (.getfield 19, 3) := by decide +kernel
theorem dX9_readMouths_59 : decode cX9_readMouths 59 = .ok (.iconst 1, 1) := by decide +kernel
theorem dX9_readMouths_60 : decode cX9_readMouths 60 = .ok (.iadd, 1) := by decide +kernel
theorem dX9_readMouths_61 : decode cX9_readMouths 61 = .ok (.putfield 19, 3) := by decide +kernel
theorem dX9_readMouths_64 : decode cX9_readMouths 64 = .ok (.aload_n 0, 1) := by decide +kernel
theorem dX9_readMouths_65 : decode cX9_readMouths 65 = .ok (.iconst 0, 1) := by decide +kernel
theorem dX9_readMouths_66 : decode cX9_readMouths 66 = .ok (.bipush 99, 2) := by decide +kernel
theorem dX9_readMouths_68 : decode cX9_readMouths 68 = .ok (.invokevirtual 41, 3) := by decide +kernel
theorem dX9_readMouths_71 : decode cX9_readMouths 71 = .ok (.ifCond .eq 12, 3) := by decide +kernel
theorem dX9_readMouths_74 : decode cX9_readMouths 74 = .ok (.aload_n 0, 1) := by decide +kernel
theorem dX9_readMouths_75 : decode cX9_readMouths 75 = .ok (.bipush 59, 2) := by decide +kernel
theorem dX9_readMouths_77 : decode cX9_readMouths 77 = .ok (.invokevirtual 37, 3) := by decide +kernel
theorem dX9_readMouths_80 : decode cX9_readMouths 80 = .ok (.ifCond .ne 5, 3) := by decide +kernel
theorem dX9_readMouths_83 : decode cX9_readMouths 83 = .ok (.iconst 0, 1) := by decide +kernel
theorem dX9_readMouths_84 : decode cX9_readMouths 84 = .ok (.ireturn, 1) := by decide +kernel
theorem dX9_readMouths_85 : decode cX9_readMouths 85 = .ok (.aload_n 1, 1) := by decide +kernel
theorem dX9_readMouths_86 : decode cX9_readMouths 86 = .ok (.iload_n 3, 1) := by decide +kernel
theorem dX9_readMouths_87 : decode cX9_readMouths 87 = .ok (.aload_n 0, 1) := by decide +kernel
theorem dX9_readMouths_88 : decode cX9_readMouths 88 = .ok (.getfield 45, 3) := by decide +kernel
theorem dX9_readMouths_91 : decode cX9_readMouths 91 = .ok (.invokevirtual 78, 3) := by decide +kernel
theorem dX9_readMouths_94 : decode cX9_readMouths 94 = .ok (.iinc 2 1, 3) := by decide +kernel
theorem dX9_readMouths_97 : decode cX9_readMouths 97 = .ok (.goto (-95), 3) := by decide +kernel
theorem dX9_readMouths_100 : decode cX9_readMouths 100 = .ok (.iconst 1, 1) := by decide +kernel
theorem dX9_readMouths_101 : decode cX9_readMouths 101 = .ok (.ireturn, 1) := by decide +kernel
theorem dX9_kindOf_0 : decode cX9_kindOf 0 = .ok (.iload_n 0, 1) := by decide +kernel
theorem dX9_kindOf_1 : decode cX9_kindOf 1 = .ok (.lookupswitch 61 #[(103, 57), (107, 53), (114, 55), (115, 59), (118, 51)], 51) := by decide +kernel
theorem dX9_kindOf_52 : decode cX9_kindOf 52 = .ok (.iconst 1, 1) := by decide +kernel
theorem dX9_kindOf_53 : decode cX9_kindOf 53 = .ok (.ireturn, 1) := by decide +kernel
theorem dX9_kindOf_54 : decode cX9_kindOf 54 = .ok (.iconst 2, 1) := by decide +kernel
theorem dX9_kindOf_55 : decode cX9_kindOf 55 = .ok (.ireturn, 1) := by decide +kernel
theorem dX9_kindOf_56 : decode cX9_kindOf 56 = .ok (.iconst 3, 1) := by decide +kernel
theorem dX9_kindOf_57 : decode cX9_kindOf 57 = .ok (.ireturn, 1) := by decide +kernel
theorem dX9_kindOf_58 : decode cX9_kindOf 58 = .ok (.iconst 4, 1) := by decide +kernel
theorem dX9_kindOf_59 : decode cX9_kindOf 59 = .ok (.ireturn, 1) := by decide +kernel
theorem dX9_kindOf_60 : decode cX9_kindOf 60 = .ok (.iconst 5, 1) := by decide +kernel
theorem dX9_kindOf_61 : decode cX9_kindOf 61 = .ok (.ireturn, 1) := by decide +kernel
theorem dX9_kindOf_62 : decode cX9_kindOf 62 = .ok (.ldc 77, 2) := by decide +kernel
theorem dX9_kindOf_64 : decode cX9_kindOf 64 = .ok (.ireturn, 1) := by decide +kernel
theorem dX9_comes_0 : decode cX9_comes 0 = .ok (.aload_n 0, 1) := by decide +kernel
theorem dX9_comes_1 : decode cX9_comes 1 = .ok (.getfield 19, 3) := by decide +kernel
theorem dX9_comes_4 : decode cX9_comes 4 = .ok (.aload_n 0, 1) := by decide +kernel
theorem dX9_comes_5 : decode cX9_comes 5 = .ok (.getfield 15, 3) := by decide +kernel
theorem dX9_comes_8 : decode cX9_comes 8 = .ok (.if_icmp .ge 20, 3) := by decide +kernel
theorem dX9_comes_11 : decode cX9_comes 11 = .ok (.aload_n 0, 1) := by decide +kernel
theorem dX9_comes_12 : decode cX9_comes 12 = .ok (.getfield 11, 3) := by decide +kernel
theorem dX9_comes_15 : decode cX9_comes 15 = .ok (.aload_n 0, 1) := by decide +kernel
theorem dX9_comes_16 : decode cX9_comes 16 = .ok (.getfield 19, 3) := by decide +kernel
theorem dX9_comes_19 : decode cX9_comes 19 = .ok (.iaload, 1) := by decide +kernel
theorem dX9_comes_20 : decode cX9_comes 20 = .ok (.iload_n 1, 1) := by decide +kernel
theorem dX9_comes_21 : decode cX9_comes 21 = .ok (.if_icmp .ne 7, 3) := by decide +kernel
theorem dX9_comes_24 : decode cX9_comes 24 = .ok (.iconst 1, 1) := by decide +kernel
theorem dX9_comes_25 : decode cX9_comes 25 = .ok (.goto 4, 3) := by decide +kernel
theorem dX9_comes_28 : decode cX9_comes 28 = .ok (.iconst 0, 1) := by decide +kernel
theorem dX9_comes_29 : decode cX9_comes 29 = .ok (.ireturn, 1) := by decide +kernel
theorem dX9_readByte_0 : decode cX9_readByte 0 = .ok (.aload_n 0, 1) := by decide +kernel
theorem dX9_readByte_1 : decode cX9_readByte 1 = .ok (.iload_n 1, 1) := by decide +kernel
theorem dX9_readByte_2 : decode cX9_readByte 2 = .ok (.invokevirtual 51, 3) := by decide +kernel
theorem dX9_readByte_5 : decode cX9_readByte 5 = .ok (.ifCond .ne 9, 3) := by decide +kernel
theorem dX9_readByte_8 : decode cX9_readByte 8 = .ok (.aload_n 0, 1) := by decide +kernel
theorem dX9_readByte_9 : decode cX9_readByte 9 = .ok (.iconst 1, 1) := by decide +kernel
theorem dX9_readByte_10 : decode cX9_readByte 10 = .ok (.invokevirtual 54, 3) := by decide +kernel
theorem dX9_readByte_13 : decode cX9_readByte 13 = .ok (.ireturn, 1) := by decide +kernel
theorem dX9_readByte_14 : decode cX9_readByte 14 = .ok (.aload_n 0, 1) := by decide +kernel
theorem dX9_readByte_15 : decode cX9_readByte 15 = .ok (.dup, 1) := by decide +kernel
theorem dX9_readByte_16 : decode cX9_readByte 16 = .ok (.getfield 19, 3) := by decide +kernel
theorem dX9_readByte_19 : decode cX9_readByte 19 = .ok (.iconst 1, 1) := by decide +kernel
theorem dX9_readByte_20 : decode cX9_readByte 20 = .ok (.iadd, 1) := by decide +kernel
theorem dX9_readByte_21 : decode cX9_readByte 21 = .ok (.putfield 19, 3) := by decide +kernel
theorem dX9_readByte_24 : decode cX9_readByte 24 = .ok (.iconst 1, 1) := by decide +kernel
theorem dX9_readByte_25 : decode cX9_readByte 25 = .ok (.ireturn, 1) := by decide +kernel
theorem dX9_readNumber_0 : decode cX9_readNumber 0 = .ok (.iconst 0, 1) := by decide +kernel
theorem dX9_readNumber_1 : decode cX9_readNumber 1 = .ok (.istore_n 3, 1) := by decide +kernel
theorem dX9_readNumber_2 : decode cX9_readNumber 2 = .ok (.aload_n 0, 1) := by decide +kernel
theorem dX9_readNumber_3 : decode cX9_readNumber 3 = .ok (.iconst 0, 1) := by decide +kernel
theorem dX9_readNumber_4 : decode cX9_readNumber 4 = .ok (.putfield 45, 3) := by decide +kernel
theorem dX9_readNumber_7 : decode cX9_readNumber 7 = .ok (.iload_n 3, 1) := by decide +kernel
theorem dX9_readNumber_8 : decode cX9_readNumber 8 = .ok (.iconst 2, 1) := by decide +kernel
theorem dX9_readNumber_9 : decode cX9_readNumber 9 = .ok (.if_icmp .gt 48, 3) := by decide +kernel
theorem dX9_readNumber_12 : decode cX9_readNumber 12 = .ok (.aload_n 0, 1) := by decide +kernel
theorem dX9_readNumber_13 : decode cX9_readNumber 13 = .ok (.aload_n 0, 1) := by decide +kernel
theorem dX9_readNumber_14 : decode cX9_readNumber 14 = .ok (.getfield 19, 3) := by decide +kernel
theorem dX9_readNumber_17 : decode cX9_readNumber 17 = .ok (.iload_n 3, 1) := by decide +kernel
theorem dX9_readNumber_18 : decode cX9_readNumber 18 = .ok (.iadd, 1) := by decide +kernel
theorem dX9_readNumber_19 : decode cX9_readNumber 19 = .ok (.invokevirtual 81, 3) := by decide +kernel
theorem dX9_readNumber_22 : decode cX9_readNumber 22 = .ok (.ifCond .eq 35, 3) := by decide +kernel
theorem dX9_readNumber_25 : decode cX9_readNumber 25 = .ok (.aload_n 0, 1) := by decide +kernel
theorem dX9_readNumber_26 : decode cX9_readNumber 26 = .ok (.bipush 10, 2) := by decide +kernel
theorem dX9_readNumber_28 : decode cX9_readNumber 28 = .ok (.aload_n 0, 1) := by decide +kernel
theorem dX9_readNumber_29 : decode cX9_readNumber 29 = .ok (.getfield 45, 3) := by decide +kernel
theorem dX9_readNumber_32 : decode cX9_readNumber 32 = .ok (.imul, 1) := by decide +kernel
theorem dX9_readNumber_33 : decode cX9_readNumber 33 = .ok (.aload_n 0, 1) := by decide +kernel
theorem dX9_readNumber_34 : decode cX9_readNumber 34 = .ok (.getfield 11, 3) := by decide +kernel
theorem dX9_readNumber_37 : decode cX9_readNumber 37 = .ok (.aload_n 0, 1) := by decide +kernel
theorem dX9_readNumber_38 : decode cX9_readNumber 38 = .ok (.getfield 19, 3) := by decide +kernel
theorem dX9_readNumber_41 : decode cX9_readNumber 41 = .ok (.iload_n 3, 1) := by decide +kernel
theorem dX9_readNumber_42 : decode cX9_readNumber 42 = .ok (.iadd, 1) := by decide +kernel
theorem dX9_readNumber_43 : decode cX9_readNumber 43 = .ok (.iaload, 1) := by decide +kernel
theorem dX9_readNumber_44 : decode cX9_readNumber 44 = .ok (.iadd, 1) := by decide +kernel
theorem dX9_readNumber_45 : decode cX9_readNumber 45 = .ok (.bipush 48, 2) := by decide +kernel
theorem dX9_readNumber_47 : decode cX9_readNumber 47 = .ok (.isub, 1) := by decide +kernel
theorem dX9_readNumber_48 : decode cX9_readNumber 48 = .ok (.putfield 45, 3) := by decide +kernel
theorem dX9_readNumber_51 : decode cX9_readNumber 51 = .ok (.iinc 3 1, 3) := by decide +kernel
theorem dX9_readNumber_54 : decode cX9_readNumber 54 = .ok (.goto (-47), 3) := by decide +kernel
theorem dX9_readNumber_57 : decode cX9_readNumber 57 = .ok (.iload_n 3, 1) := by decide +kernel
theorem dX9_readNumber_58 : decode cX9_readNumber 58 = .ok (.ifCond .eq 8, 3) := by decide +kernel
theorem dX9_readNumber_61 : decode cX9_readNumber 61 = .ok (.iload_n 3, 1) := by decide +kernel
theorem dX9_readNumber_62 : decode cX9_readNumber 62 = .ok (.iconst 2, 1) := by decide +kernel
theorem dX9_readNumber_63 : decode cX9_readNumber 63 = .ok (.if_icmp .le 9, 3) := by decide +kernel
theorem dX9_readNumber_66 : decode cX9_readNumber 66 = .ok (.aload_n 0, 1) := by decide +kernel
theorem dX9_readNumber_67 : decode cX9_readNumber 67 = .ok (.iconst 1, 1) := by decide +kernel
theorem dX9_readNumber_68 : decode cX9_readNumber 68 = .ok (.invokevirtual 54, 3) := by decide +kernel
theorem dX9_readNumber_71 : decode cX9_readNumber 71 = .ok (.ireturn, 1) := by decide +kernel
theorem dX9_readNumber_72 : decode cX9_readNumber 72 = .ok (.aload_n 0, 1) := by decide +kernel
theorem dX9_readNumber_73 : decode cX9_readNumber 73 = .ok (.getfield 45, 3) := by decide +kernel
theorem dX9_readNumber_76 : decode cX9_readNumber 76 = .ok (.iload_n 1, 1) := by decide +kernel
theorem dX9_readNumber_77 : decode cX9_readNumber 77 = .ok (.if_icmp .lt 11, 3) := by decide +kernel
theorem dX9_readNumber_80 : decode cX9_readNumber 80 = .ok (.aload_n 0, 1) := by decide +kernel
theorem dX9_readNumber_81 : decode cX9_readNumber 81 = .ok (.getfield 45, 3) := by decide +kernel
theorem dX9_readNumber_84 : decode cX9_readNumber 84 = .ok (.iload_n 2, 1) := by decide +kernel
theorem dX9_readNumber_85 : decode cX9_readNumber 85 = .ok (.if_icmp .le 9, 3) := by decide +kernel
theorem dX9_readNumber_88 : decode cX9_readNumber 88 = .ok (.aload_n 0, 1) := by decide +kernel
theorem dX9_readNumber_89 : decode cX9_readNumber 89 = .ok (.iconst 2, 1) := by decide +kernel
theorem dX9_readNumber_90 : decode cX9_readNumber 90 = .ok (.invokevirtual 54, 3) := by decide +kernel
theorem dX9_readNumber_93 : decode cX9_readNumber 93 = .ok (.ireturn, 1) := by decide +kernel
theorem dX9_readNumber_94 : decode cX9_readNumber 94 = .ok (.aload_n 0, 1) := by decide +kernel
theorem dX9_readNumber_95 : decode cX9_readNumber 95 = .ok (.dup, 1) := by decide +kernel
theorem dX9_readNumber_96 : decode cX9_readNumber 96 = .ok (.getfield 19, 3) := by decide +kernel
theorem dX9_readNumber_99 : decode cX9_readNumber 99 = .ok (.iload_n 3, 1) := by decide +kernel
theorem dX9_readNumber_100 : decode cX9_readNumber 100 = .ok (.iadd, 1) := by decide +kernel
theorem dX9_readNumber_101 : decode cX9_readNumber 101 = .ok (.putfield 19, 3) := by decide +kernel
theorem dX9_readNumber_104 : decode cX9_readNumber 104 = .ok (.iconst 1, 1) := by decide +kernel
theorem dX9_readNumber_105 : decode cX9_readNumber 105 = .ok (.ireturn, 1) := by decide +kernel
theorem dX9_isFigure_0 : decode cX9_isFigure 0 = .ok (.iload_n 1, 1) := by decide +kernel
theorem dX9_isFigure_1 : decode cX9_isFigure 1 = .ok (.aload_n 0, 1) := by decide +kernel
theorem dX9_isFigure_2 : decode cX9_isFigure 2 = .ok (.getfield 15, 3) := by decide +kernel
theorem dX9_isFigure_5 : decode cX9_isFigure 5 = .ok (.if_icmp .ge 29, 3) := by decide +kernel
theorem dX9_isFigure_8 : decode cX9_isFigure 8 = .ok (.aload_n 0, 1) := by decide +kernel
theorem dX9_isFigure_9 : decode cX9_isFigure 9 = .ok (.getfield 11, 3) := by decide +kernel
theorem dX9_isFigure_12 : decode cX9_isFigure 12 = .ok (.iload_n 1, 1) := by decide +kernel
theorem dX9_isFigure_13 : decode cX9_isFigure 13 = .ok (.iaload, 1) := by decide +kernel
theorem dX9_isFigure_14 : decode cX9_isFigure 14 = .ok (.bipush 48, 2) := by decide +kernel
theorem dX9_isFigure_16 : decode cX9_isFigure 16 = .ok (.if_icmp .lt 18, 3) := by decide +kernel
theorem dX9_isFigure_19 : decode cX9_isFigure 19 = .ok (.aload_n 0, 1) := by decide +kernel
theorem dX9_isFigure_20 : decode cX9_isFigure 20 = .ok (.getfield 11, 3) := by decide +kernel
theorem dX9_isFigure_23 : decode cX9_isFigure 23 = .ok (.iload_n 1, 1) := by decide +kernel
theorem dX9_isFigure_24 : decode cX9_isFigure 24 = .ok (.iaload, 1) := by decide +kernel
theorem dX9_isFigure_25 : decode cX9_isFigure 25 = .ok (.bipush 57, 2) := by decide +kernel
theorem dX9_isFigure_27 : decode cX9_isFigure 27 = .ok (.if_icmp .gt 7, 3) := by decide +kernel
theorem dX9_isFigure_30 : decode cX9_isFigure 30 = .ok (.iconst 1, 1) := by decide +kernel
theorem dX9_isFigure_31 : decode cX9_isFigure 31 = .ok (.goto 4, 3) := by decide +kernel
theorem dX9_isFigure_34 : decode cX9_isFigure 34 = .ok (.iconst 0, 1) := by decide +kernel
theorem dX9_isFigure_35 : decode cX9_isFigure 35 = .ok (.ireturn, 1) := by decide +kernel
theorem dX9_isFault_0 : decode cX9_isFault 0 = .ok (.aload_n 0, 1) := by decide +kernel
theorem dX9_isFault_1 : decode cX9_isFault 1 = .ok (.iload_n 1, 1) := by decide +kernel
theorem dX9_isFault_2 : decode cX9_isFault 2 = .ok (.putfield 84, 3) := by decide +kernel
theorem dX9_isFault_5 : decode cX9_isFault 5 = .ok (.aload_n 0, 1) := by decide +kernel
theorem dX9_isFault_6 : decode cX9_isFault 6 = .ok (.aload_n 0, 1) := by decide +kernel
theorem dX9_isFault_7 : decode cX9_isFault 7 = .ok (.getfield 19, 3) := by decide +kernel
theorem dX9_isFault_10 : decode cX9_isFault 10 = .ok (.putfield 87, 3) := by decide +kernel
theorem dX9_isFault_13 : decode cX9_isFault 13 = .ok (.iconst 0, 1) := by decide +kernel
theorem dX9_isFault_14 : decode cX9_isFault 14 = .ok (.ireturn, 1) := by decide +kernel
theorem dX10_init_0 : decode cX10_init 0 = .ok (.aload_n 0, 1) := by decide +kernel
theorem dX10_init_1 : decode cX10_init 1 = .ok (.iload_n 1, 1) := by decide +kernel
theorem dX10_init_2 : decode cX10_init 2 = .ok (.iload_n 2, 1) := by decide +kernel
theorem dX10_init_3 : decode cX10_init 3 = .ok (.invokespecial 3, 3) := by decide +kernel
theorem dX10_init_6 : decode cX10_init 6 = .ok (.return_, 1) := by decide +kernel
theorem dX10_sort_0 : decode cX10_sort 0 = .ok (.iconst 1, 1) := by decide +kernel
theorem dX10_sort_1 : decode cX10_sort 1 = .ok (.ireturn, 1) := by decide +kernel
theorem dX10_padding_0 : decode cX10_padding 0 = .ok (.iload_n 1, 1) := by decide +kernel
theorem dX10_padding_1 : decode cX10_padding 1 = .ok (.ireturn, 1) := by decide +kernel
theorem dX10_size_0 : decode cX10_size 0 = .ok (.aload_n 1, 1) := by decide +kernel
theorem dX10_size_1 : decode cX10_size 1 = .ok (.bipush 11, 2) := by decide +kernel
theorem dX10_size_3 : decode cX10_size 3 = .ok (.invokevirtual 9, 3) := by decide +kernel
theorem dX10_size_6 : decode cX10_size 6 = .ok (.aload_n 0, 1) := by decide +kernel
theorem dX10_size_7 : decode cX10_size 7 = .ok (.aload_n 1, 1) := by decide +kernel
theorem dX10_size_8 : decode cX10_size 8 = .ok (.invokespecial 15, 3) := by decide +kernel
theorem dX10_size_11 : decode cX10_size 11 = .ok (.aload_n 0, 1) := by decide +kernel
theorem dX10_size_12 : decode cX10_size 12 = .ok (.aload_n 1, 1) := by decide +kernel
theorem dX10_size_13 : decode cX10_size 13 = .ok (.invokevirtual 19, 3) := by decide +kernel
theorem dX10_size_16 : decode cX10_size 16 = .ok (.iadd, 1) := by decide +kernel
theorem dX10_size_17 : decode cX10_size 17 = .ok (.ireturn, 1) := by decide +kernel
theorem dX10_mark_0 : decode cX10_mark 0 = .ok (.aload_n 1, 1) := by decide +kernel
theorem dX10_mark_1 : decode cX10_mark 1 = .ok (.bipush 21, 2) := by decide +kernel
theorem dX10_mark_3 : decode cX10_mark 3 = .ok (.invokevirtual 9, 3) := by decide +kernel
theorem dX10_mark_6 : decode cX10_mark 6 = .ok (.aload_n 0, 1) := by decide +kernel
theorem dX10_mark_7 : decode cX10_mark 7 = .ok (.aload_n 1, 1) := by decide +kernel
theorem dX10_mark_8 : decode cX10_mark 8 = .ok (.invokespecial 24, 3) := by decide +kernel
theorem dX10_mark_11 : decode cX10_mark 11 = .ok (.aload_n 1, 1) := by decide +kernel
theorem dX10_mark_12 : decode cX10_mark 12 = .ok (.getfield 25, 3) := by decide +kernel
theorem dX10_mark_15 : decode cX10_mark 15 = .ok (.iadd, 1) := by decide +kernel
theorem dX10_mark_16 : decode cX10_mark 16 = .ok (.ireturn, 1) := by decide +kernel
theorem dX11_init_0 : decode cX11_init 0 = .ok (.aload_n 0, 1) := by decide +kernel
theorem dX11_init_1 : decode cX11_init 1 = .ok (.invokespecial 1, 3) := by decide +kernel
theorem dX11_init_4 : decode cX11_init 4 = .ok (.aload_n 0, 1) := by decide +kernel
theorem dX11_init_5 : decode cX11_init 5 = .ok (.new 7, 3) := by decide +kernel
theorem dX11_init_8 : decode cX11_init 8 = .ok (.dup, 1) := by decide +kernel
theorem dX11_init_9 : decode cX11_init 9 = .ok (.invokespecial 9, 3) := by decide +kernel
theorem dX11_init_12 : decode cX11_init 12 = .ok (.putfield 10, 3) := by decide +kernel
theorem dX11_init_15 : decode cX11_init 15 = .ok (.aload_n 0, 1) := by decide +kernel
theorem dX11_init_16 : decode cX11_init 16 = .ok (.new 16, 3) := by decide +kernel
theorem dX11_init_19 : decode cX11_init 19 = .ok (.dup, 1) := by decide +kernel
theorem dX11_init_20 : decode cX11_init 20 = .ok (.invokespecial 18, 3) := by decide +kernel
theorem dX11_init_23 : decode cX11_init 23 = .ok (.putfield 19, 3) := by decide +kernel
theorem dX11_init_26 : decode cX11_init 26 = .ok (.aload_n 0, 1) := by decide +kernel
theorem dX11_init_27 : decode cX11_init 27 = .ok (.new 23, 3) := by decide +kernel
theorem dX11_init_30 : decode cX11_init 30 = .ok (.dup, 1) := by decide +kernel
theorem dX11_init_31 : decode cX11_init 31 = .ok (.invokespecial 25, 3) := by decide +kernel
theorem dX11_init_34 : decode cX11_init 34 = .ok (.putfield 26, 3) := by decide +kernel
theorem dX11_init_37 : decode cX11_init 37 = .ok (.aload_n 0, 1) := by decide +kernel
theorem dX11_init_38 : decode cX11_init 38 = .ok (.new 23, 3) := by decide +kernel
theorem dX11_init_41 : decode cX11_init 41 = .ok (.dup, 1) := by decide +kernel
theorem dX11_init_42 : decode cX11_init 42 = .ok (.invokespecial 25, 3) := by decide +kernel
theorem dX11_init_45 : decode cX11_init 45 = .ok (.putfield 30, 3) := by decide +kernel
theorem dX11_init_48 : decode cX11_init 48 = .ok (.aload_n 0, 1) := by decide +kernel
theorem dX11_init_49 : decode cX11_init 49 = .ok (.new 33, 3) := by decide +kernel
theorem dX11_init_52 : decode cX11_init 52 = .ok (.dup, 1) := by decide +kernel
theorem dX11_init_53 : decode cX11_init 53 = .ok (.invokespecial 35, 3) := by decide +kernel
theorem dX11_init_56 : decode cX11_init 56 = .ok (.putfield 36, 3) := by decide +kernel
theorem dX11_init_59 : decode cX11_init 59 = .ok (.aload_n 0, 1) := by decide +kernel
theorem dX11_init_60 : decode cX11_init 60 = .ok (.new 40, 3) := by decide +kernel
theorem dX11_init_63 : decode cX11_init 63 = .ok (.dup, 1) := by decide +kernel
theorem dX11_init_64 : decode cX11_init 64 = .ok (.invokespecial 42, 3) := by decide +kernel
theorem dX11_init_67 : decode cX11_init 67 = .ok (.putfield 43, 3) := by decide +kernel
theorem dX11_init_70 : decode cX11_init 70 = .ok (.aload_n 0, 1) := by decide +kernel
theorem dX11_init_71 : decode cX11_init 71 = .ok (.iconst 2, 1) := by decide +kernel
theorem dX11_init_72 : decode cX11_init 72 = .ok (.anewarray 23, 3) := by decide +kernel
theorem dX11_init_75 : decode cX11_init 75 = .ok (.putfield 47, 3) := by decide +kernel
theorem dX11_init_78 : decode cX11_init 78 = .ok (.aload_n 0, 1) := by decide +kernel
theorem dX11_init_79 : decode cX11_init 79 = .ok (.bipush 24, 2) := by decide +kernel
theorem dX11_init_81 : decode cX11_init 81 = .ok (.anewarray 23, 3) := by decide +kernel
theorem dX11_init_84 : decode cX11_init 84 = .ok (.putfield 51, 3) := by decide +kernel
theorem dX11_init_87 : decode cX11_init 87 = .ok (.return_, 1) := by decide +kernel
theorem dX11_row_0 : decode cX11_row 0 = .ok (.iload_n 1, 1) := by decide +kernel
theorem dX11_row_1 : decode cX11_row 1 = .ok (.invokestatic 54, 3) := by decide +kernel
theorem dX11_row_4 : decode cX11_row 4 = .ok (.ifCond .eq 16, 3) := by decide +kernel
theorem dX11_row_7 : decode cX11_row 7 = .ok (.iload_n 2, 1) := by decide +kernel
theorem dX11_row_8 : decode cX11_row 8 = .ok (.invokestatic 58, 3) := by decide +kernel
theorem dX11_row_11 : decode cX11_row 11 = .ok (.ifCond .eq 9, 3) := by decide +kernel
theorem dX11_row_14 : decode cX11_row 14 = .ok (.iload_n 3, 1) := by decide +kernel
theorem dX11_row_15 : decode cX11_row 15 = .ok (.bipush 40, 2) := by decide +kernel
theorem dX11_row_17 : decode cX11_row 17 = .ok (.if_icmp .le 6, 3) := by decide +kernel
theorem dX11_row_20 : decode cX11_row 20 = .ok (.ldc 61, 2) := by decide +kernel
theorem dX11_row_22 : decode cX11_row 22 = .ok (.ireturn, 1) := by decide +kernel
theorem dX11_row_23 : decode cX11_row 23 = .ok (.iload_n 3, 1) := by decide +kernel
theorem dX11_row_24 : decode cX11_row 24 = .ok (.ifCond .ge 9, 3) := by decide +kernel
theorem dX11_row_27 : decode cX11_row 27 = .ok (.aload_n 0, 1) := by decide +kernel
theorem dX11_row_28 : decode cX11_row 28 = .ok (.iconst 4, 1) := by decide +kernel
theorem dX11_row_29 : decode cX11_row 29 = .ok (.invokevirtual 62, 3) := by decide +kernel
theorem dX11_row_32 : decode cX11_row 32 = .ok (.ireturn, 1) := by decide +kernel
theorem dX11_row_33 : decode cX11_row 33 = .ok (.aload_n 0, 1) := by decide +kernel
theorem dX11_row_34 : decode cX11_row 34 = .ok (.getfield 10, 3) := by decide +kernel
theorem dX11_row_37 : decode cX11_row 37 = .ok (.iload_n 1, 1) := by decide +kernel
theorem dX11_row_38 : decode cX11_row 38 = .ok (.iload_n 2, 1) := by decide +kernel
theorem dX11_row_39 : decode cX11_row 39 = .ok (.iload_n 3, 1) := by decide +kernel
theorem dX11_row_40 : decode cX11_row 40 = .ok (.invokevirtual 66, 3) := by decide +kernel
theorem dX11_row_43 : decode cX11_row 43 = .ok (.aload_n 0, 1) := by decide +kernel
theorem dX11_row_44 : decode cX11_row 44 = .ok (.iload_n 3, 1) := by decide +kernel
theorem dX11_row_45 : decode cX11_row 45 = .ok (.invokevirtual 70, 3) := by decide +kernel
theorem dX11_row_48 : decode cX11_row 48 = .ok (.ireturn, 1) := by decide +kernel
theorem dX11_set_0 : decode cX11_set 0 = .ok (.iload_n 1, 1) := by decide +kernel
theorem dX11_set_1 : decode cX11_set 1 = .ok (.invokestatic 54, 3) := by decide +kernel
theorem dX11_set_4 : decode cX11_set 4 = .ok (.ifCond .ne 6, 3) := by decide +kernel
theorem dX11_set_7 : decode cX11_set 7 = .ok (.ldc 61, 2) := by decide +kernel
theorem dX11_set_9 : decode cX11_set 9 = .ok (.ireturn, 1) := by decide +kernel
theorem dX11_set_10 : decode cX11_set 10 = .ok (.aload_n 0, 1) := by decide +kernel
theorem dX11_set_11 : decode cX11_set 11 = .ok (.getfield 10, 3) := by decide +kernel
theorem dX11_set_14 : decode cX11_set 14 = .ok (.iload_n 1, 1) := by decide +kernel
theorem dX11_set_15 : decode cX11_set 15 = .ok (.iload_n 2, 1) := by decide +kernel
theorem dX11_set_16 : decode cX11_set 16 = .ok (.iconst 1, 1) := by decide +kernel
theorem dX11_set_17 : decode cX11_set 17 = .ok (.invokevirtual 73, 3) := by decide +kernel
theorem dX11_set_20 : decode cX11_set 20 = .ok (.istore 4, 2) := by decide +kernel
theorem dX11_set_22 : decode cX11_set 22 = .ok (.iload 4, 2) := by decide +kernel
theorem dX11_set_24 : decode cX11_set 24 = .ok (.ifCond .eq 10, 3) := by decide +kernel
theorem dX11_set_27 : decode cX11_set 27 = .ok (.aload_n 0, 1) := by decide +kernel
theorem dX11_set_28 : decode cX11_set 28 = .ok (.iload 4, 2) := by decide +kernel
theorem dX11_set_30 : decode cX11_set 30 = .ok (.invokevirtual 62, 3) := by decide +kernel
theorem dX11_set_33 : decode cX11_set 33 = .ok (.ireturn, 1) := by decide +kernel
theorem dX11_set_34 : decode cX11_set 34 = .ok (.aload_n 0, 1) := by decide +kernel
theorem dX11_set_35 : decode cX11_set 35 = .ok (.aload_n 0, 1) := by decide +kernel
theorem dX11_set_36 : decode cX11_set 36 = .ok (.getfield 10, 3) := by decide +kernel
theorem dX11_set_39 : decode cX11_set 39 = .ok (.iload_n 1, 1) := by decide +kernel
theorem dX11_set_40 : decode cX11_set 40 = .ok (.iload_n 2, 1) := by decide +kernel
theorem dX11_set_41 : decode cX11_set 41 = .ok (.iload_n 3, 1) := by decide +kernel
theorem dX11_set_42 : decode cX11_set 42 = .ok (.invokevirtual 77, 3) := by decide +kernel
theorem dX11_set_45 : decode cX11_set 45 = .ok (.invokevirtual 70, 3) := by decide +kernel
theorem dX11_set_48 : decode cX11_set 48 = .ok (.ireturn, 1) := by decide +kernel
theorem dX11_copy_0 : decode cX11_copy 0 = .ok (.iload_n 1, 1) := by decide +kernel
theorem dX11_copy_1 : decode cX11_copy 1 = .ok (.invokestatic 54, 3) := by decide +kernel
theorem dX11_copy_4 : decode cX11_copy 4 = .ok (.ifCond .eq 10, 3) := by decide +kernel
theorem dX11_copy_7 : decode cX11_copy 7 = .ok (.iload_n 3, 1) := by decide +kernel
theorem dX11_copy_8 : decode cX11_copy 8 = .ok (.invokestatic 54, 3) := by decide +kernel
theorem dX11_copy_11 : decode cX11_copy 11 = .ok (.ifCond .ne 6, 3) := by decide +kernel
theorem dX11_copy_14 : decode cX11_copy 14 = .ok (.ldc 61, 2) := by decide +kernel
theorem dX11_copy_16 : decode cX11_copy 16 = .ok (.ireturn, 1) := by decide +kernel
theorem dX11_copy_17 : decode cX11_copy 17 = .ok (.aload_n 0, 1) := by decide +kernel
theorem dX11_copy_18 : decode cX11_copy 18 = .ok (.getfield 10, 3) := by decide +kernel
theorem dX11_copy_21 : decode cX11_copy 21 = .ok (.iload_n 1, 1) := by decide +kernel
theorem dX11_copy_22 : decode cX11_copy 22 = .ok (.iload_n 2, 1) := by decide +kernel
theorem dX11_copy_23 : decode cX11_copy 23 = .ok (.iload_n 3, 1) := by decide +kernel
theorem dX11_copy_24 : decode cX11_copy 24 = .ok (.iload 4, 2) := by decide +kernel
theorem dX11_copy_26 : decode cX11_copy 26 = .ok (.iload 5, 2) := by decide +kernel
theorem dX11_copy_28 : decode cX11_copy 28 = .ok (.invokevirtual 80, 3) := by decide +kernel
theorem dX11_copy_31 : decode cX11_copy 31 = .ok (.istore 6, 2) := by decide +kernel
theorem dX11_copy_33 : decode cX11_copy 33 = .ok (.iload 6, 2) := by decide +kernel
theorem dX11_copy_35 : decode cX11_copy 35 = .ok (.ifCond .eq 10, 3) := by decide +kernel
theorem dX11_copy_38 : decode cX11_copy 38 = .ok (.aload_n 0, 1) := by decide +kernel
theorem dX11_copy_39 : decode cX11_copy 39 = .ok (.iload 6, 2) := by decide +kernel
theorem dX11_copy_41 : decode cX11_copy 41 = .ok (.invokevirtual 62, 3) := by decide +kernel
theorem dX11_copy_44 : decode cX11_copy 44 = .ok (.ireturn, 1) := by decide +kernel
theorem dX11_copy_45 : decode cX11_copy 45 = .ok (.aload_n 0, 1) := by decide +kernel
theorem dX11_copy_46 : decode cX11_copy 46 = .ok (.getfield 10, 3) := by decide +kernel
theorem dX11_copy_49 : decode cX11_copy 49 = .ok (.iload_n 1, 1) := by decide +kernel
theorem dX11_copy_50 : decode cX11_copy 50 = .ok (.iload_n 2, 1) := by decide +kernel
theorem dX11_copy_51 : decode cX11_copy 51 = .ok (.iload_n 3, 1) := by decide +kernel
theorem dX11_copy_52 : decode cX11_copy 52 = .ok (.iload 4, 2) := by decide +kernel
theorem dX11_copy_54 : decode cX11_copy 54 = .ok (.iload 5, 2) := by decide +kernel
theorem dX11_copy_56 : decode cX11_copy 56 = .ok (.invokevirtual 84, 3) := by decide +kernel
theorem dX11_copy_59 : decode cX11_copy 59 = .ok (.aload_n 0, 1) := by decide +kernel
theorem dX11_copy_60 : decode cX11_copy 60 = .ok (.iload 5, 2) := by decide +kernel
theorem dX11_copy_62 : decode cX11_copy 62 = .ok (.invokevirtual 70, 3) := by decide +kernel
theorem dX11_copy_65 : decode cX11_copy 65 = .ok (.ireturn, 1) := by decide +kernel
theorem dX11_drop_0 : decode cX11_drop 0 = .ok (.iload_n 1, 1) := by decide +kernel
theorem dX11_drop_1 : decode cX11_drop 1 = .ok (.invokestatic 54, 3) := by decide +kernel
theorem dX11_drop_4 : decode cX11_drop 4 = .ok (.ifCond .ne 6, 3) := by decide +kernel
theorem dX11_drop_7 : decode cX11_drop 7 = .ok (.ldc 61, 2) := by decide +kernel
theorem dX11_drop_9 : decode cX11_drop 9 = .ok (.ireturn, 1) := by decide +kernel
theorem dX11_drop_10 : decode cX11_drop 10 = .ok (.aload_n 0, 1) := by decide +kernel
theorem dX11_drop_11 : decode cX11_drop 11 = .ok (.getfield 10, 3) := by decide +kernel
theorem dX11_drop_14 : decode cX11_drop 14 = .ok (.iload_n 1, 1) := by decide +kernel
theorem dX11_drop_15 : decode cX11_drop 15 = .ok (.invokevirtual 88, 3) := by decide +kernel
theorem dX11_drop_18 : decode cX11_drop 18 = .ok (.ifCond .eq 9, 3) := by decide +kernel
theorem dX11_drop_21 : decode cX11_drop 21 = .ok (.aload_n 0, 1) := by decide +kernel
theorem dX11_drop_22 : decode cX11_drop 22 = .ok (.iconst 1, 1) := by decide +kernel
theorem dX11_drop_23 : decode cX11_drop 23 = .ok (.invokevirtual 62, 3) := by decide +kernel
theorem dX11_drop_26 : decode cX11_drop 26 = .ok (.ireturn, 1) := by decide +kernel
theorem dX11_drop_27 : decode cX11_drop 27 = .ok (.aload_n 0, 1) := by decide +kernel
theorem dX11_drop_28 : decode cX11_drop 28 = .ok (.aload_n 0, 1) := by decide +kernel
theorem dX11_drop_29 : decode cX11_drop 29 = .ok (.getfield 10, 3) := by decide +kernel
theorem dX11_drop_32 : decode cX11_drop 32 = .ok (.iload_n 1, 1) := by decide +kernel
theorem dX11_drop_33 : decode cX11_drop 33 = .ok (.invokevirtual 91, 3) := by decide +kernel
theorem dX11_drop_36 : decode cX11_drop 36 = .ok (.invokevirtual 70, 3) := by decide +kernel
theorem dX11_drop_39 : decode cX11_drop 39 = .ok (.ireturn, 1) := by decide +kernel
theorem dX11_feed_0 : decode cX11_feed 0 = .ok (.iload_n 1, 1) := by decide +kernel
theorem dX11_feed_1 : decode cX11_feed 1 = .ok (.ifCond .lt 10, 3) := by decide +kernel
theorem dX11_feed_4 : decode cX11_feed 4 = .ok (.iload_n 1, 1) := by decide +kernel
theorem dX11_feed_5 : decode cX11_feed 5 = .ok (.sipush 255, 3) := by decide +kernel
theorem dX11_feed_8 : decode cX11_feed 8 = .ok (.if_icmp .le 6, 3) := by decide +kernel
theorem dX11_feed_11 : decode cX11_feed 11 = .ok (.ldc 61, 2) := by decide +kernel
theorem dX11_feed_13 : decode cX11_feed 13 = .ok (.ireturn, 1) := by decide +kernel
theorem dX11_feed_14 : decode cX11_feed 14 = .ok (.aload_n 0, 1) := by decide +kernel
theorem dX11_feed_15 : decode cX11_feed 15 = .ok (.getfield 19, 3) := by decide +kernel
theorem dX11_feed_18 : decode cX11_feed 18 = .ok (.invokevirtual 94, 3) := by decide +kernel
theorem dX11_feed_21 : decode cX11_feed 21 = .ok (.ifCond .eq 6, 3) := by decide +kernel
theorem dX11_feed_24 : decode cX11_feed 24 = .ok (.ldc 98, 2) := by decide +kernel
theorem dX11_feed_26 : decode cX11_feed 26 = .ok (.ireturn, 1) := by decide +kernel
theorem dX11_feed_27 : decode cX11_feed 27 = .ok (.aload_n 0, 1) := by decide +kernel
theorem dX11_feed_28 : decode cX11_feed 28 = .ok (.getfield 19, 3) := by decide +kernel
theorem dX11_feed_31 : decode cX11_feed 31 = .ok (.iload_n 1, 1) := by decide +kernel
theorem dX11_feed_32 : decode cX11_feed 32 = .ok (.invokevirtual 99, 3) := by decide +kernel
theorem dX11_feed_35 : decode cX11_feed 35 = .ok (.ireturn, 1) := by decide +kernel
theorem dX11_street_0 : decode cX11_street 0 = .ok (.aload_n 0, 1) := by decide +kernel
theorem dX11_street_1 : decode cX11_street 1 = .ok (.getfield 19, 3) := by decide +kernel
theorem dX11_street_4 : decode cX11_street 4 = .ok (.aload_n 0, 1) := by decide +kernel
theorem dX11_street_5 : decode cX11_street 5 = .ok (.getfield 30, 3) := by decide +kernel
theorem dX11_street_8 : decode cX11_street 8 = .ok (.invokevirtual 102, 3) := by decide +kernel
theorem dX11_street_11 : decode cX11_street 11 = .ok (.istore_n 1, 1) := by decide +kernel
theorem dX11_street_12 : decode cX11_street 12 = .ok (.aload_n 0, 1) := by decide +kernel
theorem dX11_street_13 : decode cX11_street 13 = .ok (.getfield 19, 3) := by decide +kernel
theorem dX11_street_16 : decode cX11_street 16 = .ok (.iconst 0, 1) := by decide +kernel
theorem dX11_street_17 : decode cX11_street 17 = .ok (.putfield 106, 3) := by decide +kernel
theorem dX11_street_20 : decode cX11_street 20 = .ok (.iload_n 1, 1) := by decide +kernel
theorem dX11_street_21 : decode cX11_street 21 = .ok (.ifCond .ne 25, 3) := by decide +kernel
theorem dX11_street_24 : decode cX11_street 24 = .ok (.aload_n 0, 1) := by decide +kernel
theorem dX11_street_25 : decode cX11_street 25 = .ok (.aload_n 0, 1) := by decide +kernel
theorem dX11_street_26 : decode cX11_street 26 = .ok (.getfield 19, 3) := by decide +kernel
theorem dX11_street_29 : decode cX11_street 29 = .ok (.getfield 110, 3) := by decide +kernel
theorem dX11_street_32 : decode cX11_street 32 = .ok (.putfield 113, 3) := by decide +kernel
theorem dX11_street_35 : decode cX11_street 35 = .ok (.ldc 116, 2) := by decide +kernel
theorem dX11_street_37 : decode cX11_street 37 = .ok (.aload_n 0, 1) := by decide +kernel
theorem dX11_street_38 : decode cX11_street 38 = .ok (.getfield 19, 3) := by decide +kernel
theorem dX11_street_41 : decode cX11_street 41 = .ok (.getfield 117, 3) := by decide +kernel
theorem dX11_street_44 : decode cX11_street 44 = .ok (.isub, 1) := by decide +kernel
theorem dX11_street_45 : decode cX11_street 45 = .ok (.ireturn, 1) := by decide +kernel
theorem dX11_street_46 : decode cX11_street 46 = .ok (.aload_n 0, 1) := by decide +kernel
theorem dX11_street_47 : decode cX11_street 47 = .ok (.getfield 26, 3) := by decide +kernel
theorem dX11_street_50 : decode cX11_street 50 = .ok (.aload_n 0, 1) := by decide +kernel
theorem dX11_street_51 : decode cX11_street 51 = .ok (.getfield 30, 3) := by decide +kernel
theorem dX11_street_54 : decode cX11_street 54 = .ok (.invokevirtual 120, 3) := by decide +kernel
theorem dX11_street_57 : decode cX11_street 57 = .ok (.aload_n 0, 1) := by decide +kernel
theorem dX11_street_58 : decode cX11_street 58 = .ok (.iconst 0, 1) := by decide +kernel
theorem dX11_street_59 : decode cX11_street 59 = .ok (.putfield 124, 3) := by decide +kernel
theorem dX11_street_62 : decode cX11_street 62 = .ok (.aload_n 0, 1) := by decide +kernel
theorem dX11_street_63 : decode cX11_street 63 = .ok (.getfield 26, 3) := by decide +kernel
theorem dX11_street_66 : decode cX11_street 66 = .ok (.getfield 127, 3) := by decide +kernel
theorem dX11_street_69 : decode cX11_street 69 = .ok (.ireturn, 1) := by decide +kernel
theorem dX11_fault_0 : decode cX11_fault 0 = .ok (.aload_n 0, 1) := by decide +kernel
theorem dX11_fault_1 : decode cX11_fault 1 = .ok (.getfield 113, 3) := by decide +kernel
theorem dX11_fault_4 : decode cX11_fault 4 = .ok (.ireturn, 1) := by decide +kernel
theorem dX11_undo_0 : decode cX11_undo 0 = .ok (.aload_n 0, 1) := by decide +kernel
theorem dX11_undo_1 : decode cX11_undo 1 = .ok (.getfield 124, 3) := by decide +kernel
theorem dX11_undo_4 : decode cX11_undo 4 = .ok (.ifCond .le 15, 3) := by decide +kernel
theorem dX11_undo_7 : decode cX11_undo 7 = .ok (.aload_n 0, 1) := by decide +kernel
theorem dX11_undo_8 : decode cX11_undo 8 = .ok (.getfield 51, 3) := by decide +kernel
theorem dX11_undo_11 : decode cX11_undo 11 = .ok (.aload_n 0, 1) := by decide +kernel
theorem dX11_undo_12 : decode cX11_undo 12 = .ok (.getfield 130, 3) := by decide +kernel
theorem dX11_undo_15 : decode cX11_undo 15 = .ok (.aaload, 1) := by decide +kernel
theorem dX11_undo_16 : decode cX11_undo 16 = .ok (.goto 4, 3) := by decide +kernel
theorem dX11_undo_19 : decode cX11_undo 19 = .ok (.aconst_null, 1) := by decide +kernel
theorem dX11_undo_20 : decode cX11_undo 20 = .ok (.astore_n 1, 1) := by decide +kernel
theorem dX11_undo_21 : decode cX11_undo 21 = .ok (.aload_n 1, 1) := by decide +kernel
theorem dX11_undo_22 : decode cX11_undo 22 = .ok (.ifnonnull 6, 3) := by decide +kernel
theorem dX11_undo_25 : decode cX11_undo 25 = .ok (.ldc 133, 2) := by decide +kernel
theorem dX11_undo_27 : decode cX11_undo 27 = .ok (.ireturn, 1) := by decide +kernel
theorem dX11_undo_28 : decode cX11_undo 28 = .ok (.aload_n 0, 1) := by decide +kernel
theorem dX11_undo_29 : decode cX11_undo 29 = .ok (.getfield 26, 3) := by decide +kernel
theorem dX11_undo_32 : decode cX11_undo 32 = .ok (.aload_n 1, 1) := by decide +kernel
theorem dX11_undo_33 : decode cX11_undo 33 = .ok (.invokevirtual 120, 3) := by decide +kernel
theorem dX11_undo_36 : decode cX11_undo 36 = .ok (.aload_n 0, 1) := by decide +kernel
theorem dX11_undo_37 : decode cX11_undo 37 = .ok (.aload_n 0, 1) := by decide +kernel
theorem dX11_undo_38 : decode cX11_undo 38 = .ok (.getfield 130, 3) := by decide +kernel
theorem dX11_undo_41 : decode cX11_undo 41 = .ok (.bipush 24, 2) := by decide +kernel
theorem dX11_undo_43 : decode cX11_undo 43 = .ok (.iadd, 1) := by decide +kernel
theorem dX11_undo_44 : decode cX11_undo 44 = .ok (.iconst 1, 1) := by decide +kernel
theorem dX11_undo_45 : decode cX11_undo 45 = .ok (.isub, 1) := by decide +kernel
theorem dX11_undo_46 : decode cX11_undo 46 = .ok (.bipush 24, 2) := by decide +kernel
theorem dX11_undo_48 : decode cX11_undo 48 = .ok (.irem, 1) := by decide +kernel
theorem dX11_undo_49 : decode cX11_undo 49 = .ok (.putfield 130, 3) := by decide +kernel
theorem dX11_undo_52 : decode cX11_undo 52 = .ok (.aload_n 0, 1) := by decide +kernel
theorem dX11_undo_53 : decode cX11_undo 53 = .ok (.dup, 1) := by decide +kernel
theorem dX11_undo_54 : decode cX11_undo 54 = .ok (.getfield 124, 3) := by decide +kernel
theorem dX11_undo_57 : decode cX11_undo 57 = .ok (.iconst 1, 1) := by decide +kernel
theorem dX11_undo_58 : decode cX11_undo 58 = .ok (.isub, 1) := by decide +kernel
theorem dX11_undo_59 : decode cX11_undo 59 = .ok (.putfield 124, 3) := by decide +kernel
theorem dX11_undo_62 : decode cX11_undo 62 = .ok (.aload_n 0, 1) := by decide +kernel
theorem dX11_undo_63 : decode cX11_undo 63 = .ok (.getfield 124, 3) := by decide +kernel
theorem dX11_undo_66 : decode cX11_undo 66 = .ok (.ireturn, 1) := by decide +kernel
theorem dX11_tell_0 : decode cX11_tell 0 = .ok (.aload_n 0, 1) := by decide +kernel
theorem dX11_tell_1 : decode cX11_tell 1 = .ok (.getfield 26, 3) := by decide +kernel
theorem dX11_tell_4 : decode cX11_tell 4 = .ok (.iload_n 1, 1) := by decide +kernel
theorem dX11_tell_5 : decode cX11_tell 5 = .ok (.invokevirtual 134, 3) := by decide +kernel
theorem dX11_tell_8 : decode cX11_tell 8 = .ok (.astore 5, 2) := by decide +kernel
theorem dX11_tell_10 : decode cX11_tell 10 = .ok (.aload 5, 2) := by decide +kernel
theorem dX11_tell_12 : decode cX11_tell 12 = .ok (.ifnull 23, 3) := by decide +kernel
theorem dX11_tell_15 : decode cX11_tell 15 = .ok (.aload_n 0, 1) := by decide +kernel
theorem dX11_tell_16 : decode cX11_tell 16 = .ok (.getfield 26, 3) := by decide +kernel
theorem dX11_tell_19 : decode cX11_tell 19 = .ok (.iload_n 2, 1) := by decide +kernel
theorem dX11_tell_20 : decode cX11_tell 20 = .ok (.iload_n 3, 1) := by decide +kernel
theorem dX11_tell_21 : decode cX11_tell 21 = .ok (.invokevirtual 138, 3) := by decide +kernel
theorem dX11_tell_24 : decode cX11_tell 24 = .ok (.ifCond .eq 11, 3) := by decide +kernel
theorem dX11_tell_27 : decode cX11_tell 27 = .ok (.iload 4, 2) := by decide +kernel
theorem dX11_tell_29 : decode cX11_tell 29 = .ok (.invokestatic 142, 3) := by decide +kernel
theorem dX11_tell_32 : decode cX11_tell 32 = .ok (.ifCond .ne 6, 3) := by decide +kernel
theorem dX11_tell_35 : decode cX11_tell 35 = .ok (.ldc 61, 2) := by decide +kernel
theorem dX11_tell_37 : decode cX11_tell 37 = .ok (.ireturn, 1) := by decide +kernel
theorem dX11_tell_38 : decode cX11_tell 38 = .ok (.aload 5, 2) := by decide +kernel
theorem dX11_tell_40 : decode cX11_tell 40 = .ok (.iload 4, 2) := by decide +kernel
theorem dX11_tell_42 : decode cX11_tell 42 = .ok (.invokevirtual 145, 3) := by decide +kernel
theorem dX11_tell_45 : decode cX11_tell 45 = .ok (.istore 6, 2) := by decide +kernel
theorem dX11_tell_47 : decode cX11_tell 47 = .ok (.aload_n 0, 1) := by decide +kernel
theorem dX11_tell_48 : decode cX11_tell 48 = .ok (.getfield 26, 3) := by decide +kernel
theorem dX11_tell_51 : decode cX11_tell 51 = .ok (.invokevirtual 150, 3) := by decide +kernel
theorem dX11_tell_54 : decode cX11_tell 54 = .ok (.ifCond .ne 19, 3) := by decide +kernel
theorem dX11_tell_57 : decode cX11_tell 57 = .ok (.aload_n 0, 1) := by decide +kernel
theorem dX11_tell_58 : decode cX11_tell 58 = .ok (.getfield 26, 3) := by decide +kernel
theorem dX11_tell_61 : decode cX11_tell 61 = .ok (.iload_n 2, 1) := by decide +kernel
theorem dX11_tell_62 : decode cX11_tell 62 = .ok (.iload_n 3, 1) := by decide +kernel
theorem dX11_tell_63 : decode cX11_tell 63 = .ok (.iload 6, 2) := by decide +kernel
theorem dX11_tell_65 : decode cX11_tell 65 = .ok (.iload 4, 2) := by decide +kernel
theorem dX11_tell_67 : decode cX11_tell 67 = .ok (.invokevirtual 153, 3) := by decide +kernel
theorem dX11_tell_70 : decode cX11_tell 70 = .ok (.ifCond .ne 6, 3) := by decide +kernel
theorem dX11_tell_73 : decode cX11_tell 73 = .ok (.ldc 98, 2) := by decide +kernel
theorem dX11_tell_75 : decode cX11_tell 75 = .ok (.ireturn, 1) := by decide +kernel
theorem dX11_tell_76 : decode cX11_tell 76 = .ok (.aload_n 0, 1) := by decide +kernel
theorem dX11_tell_77 : decode cX11_tell 77 = .ok (.invokevirtual 157, 3) := by decide +kernel
theorem dX11_tell_80 : decode cX11_tell 80 = .ok (.aload_n 0, 1) := by decide +kernel
theorem dX11_tell_81 : decode cX11_tell 81 = .ok (.getfield 26, 3) := by decide +kernel
theorem dX11_tell_84 : decode cX11_tell 84 = .ok (.iload_n 1, 1) := by decide +kernel
theorem dX11_tell_85 : decode cX11_tell 85 = .ok (.iload_n 2, 1) := by decide +kernel
theorem dX11_tell_86 : decode cX11_tell 86 = .ok (.iload_n 3, 1) := by decide +kernel
theorem dX11_tell_87 : decode cX11_tell 87 = .ok (.iload 4, 2) := by decide +kernel
theorem dX11_tell_89 : decode cX11_tell 89 = .ok (.iload 6, 2) := by decide +kernel
theorem dX11_tell_91 : decode cX11_tell 91 = .ok (.invokevirtual 160, 3) := by decide +kernel
theorem dX11_tell_94 : decode cX11_tell 94 = .ok (.aload_n 0, 1) := by decide +kernel
theorem dX11_tell_95 : decode cX11_tell 95 = .ok (.getfield 26, 3) := by decide +kernel
theorem dX11_tell_98 : decode cX11_tell 98 = .ok (.getfield 163, 3) := by decide +kernel
theorem dX11_tell_101 : decode cX11_tell 101 = .ok (.iload_n 2, 1) := by decide +kernel
theorem dX11_tell_102 : decode cX11_tell 102 = .ok (.iload_n 3, 1) := by decide +kernel
theorem dX11_tell_103 : decode cX11_tell 103 = .ok (.invokestatic 167, 3) := by decide +kernel
theorem dX11_tell_106 : decode cX11_tell 106 = .ok (.iaload, 1) := by decide +kernel
theorem dX11_tell_107 : decode cX11_tell 107 = .ok (.ireturn, 1) := by decide +kernel
theorem dX11_year_0 : decode cX11_year 0 = .ok (.aload_n 0, 1) := by decide +kernel
theorem dX11_year_1 : decode cX11_year 1 = .ok (.getfield 26, 3) := by decide +kernel
theorem dX11_year_4 : decode cX11_year 4 = .ok (.getfield 171, 3) := by decide +kernel
theorem dX11_year_7 : decode cX11_year 7 = .ok (.ifCond .ne 6, 3) := by decide +kernel
theorem dX11_year_10 : decode cX11_year 10 = .ok (.ldc 133, 2) := by decide +kernel
theorem dX11_year_12 : decode cX11_year 12 = .ok (.ireturn, 1) := by decide +kernel
theorem dX11_year_13 : decode cX11_year 13 = .ok (.aload_n 0, 1) := by decide +kernel
theorem dX11_year_14 : decode cX11_year 14 = .ok (.getfield 26, 3) := by decide +kernel
theorem dX11_year_17 : decode cX11_year 17 = .ok (.invokevirtual 150, 3) := by decide +kernel
theorem dX11_year_20 : decode cX11_year 20 = .ok (.ifCond .eq 6, 3) := by decide +kernel
theorem dX11_year_23 : decode cX11_year 23 = .ok (.ldc 98, 2) := by decide +kernel
theorem dX11_year_25 : decode cX11_year 25 = .ok (.ireturn, 1) := by decide +kernel
theorem dX11_year_26 : decode cX11_year 26 = .ok (.aload_n 0, 1) := by decide +kernel
theorem dX11_year_27 : decode cX11_year 27 = .ok (.invokevirtual 157, 3) := by decide +kernel
theorem dX11_year_30 : decode cX11_year 30 = .ok (.aload_n 0, 1) := by decide +kernel
theorem dX11_year_31 : decode cX11_year 31 = .ok (.getfield 26, 3) := by decide +kernel
theorem dX11_year_34 : decode cX11_year 34 = .ok (.invokevirtual 175, 3) := by decide +kernel
theorem dX11_year_37 : decode cX11_year 37 = .ok (.ireturn, 1) := by decide +kernel
theorem dX11_swap_0 : decode cX11_swap 0 = .ok (.aload_n 0, 1) := by decide +kernel
theorem dX11_swap_1 : decode cX11_swap 1 = .ok (.getfield 26, 3) := by decide +kernel
theorem dX11_swap_4 : decode cX11_swap 4 = .ok (.iload_n 1, 1) := by decide +kernel
theorem dX11_swap_5 : decode cX11_swap 5 = .ok (.invokevirtual 179, 3) := by decide +kernel
theorem dX11_swap_8 : decode cX11_swap 8 = .ok (.ifCond .eq 19, 3) := by decide +kernel
theorem dX11_swap_11 : decode cX11_swap 11 = .ok (.aload_n 0, 1) := by decide +kernel
theorem dX11_swap_12 : decode cX11_swap 12 = .ok (.getfield 26, 3) := by decide +kernel
theorem dX11_swap_15 : decode cX11_swap 15 = .ok (.iload_n 2, 1) := by decide +kernel
theorem dX11_swap_16 : decode cX11_swap 16 = .ok (.invokevirtual 179, 3) := by decide +kernel
theorem dX11_swap_19 : decode cX11_swap 19 = .ok (.ifCond .eq 8, 3) := by decide +kernel
theorem dX11_swap_22 : decode cX11_swap 22 = .ok (.iload_n 1, 1) := by decide +kernel
theorem dX11_swap_23 : decode cX11_swap 23 = .ok (.iload_n 2, 1) := by decide +kernel
theorem dX11_swap_24 : decode cX11_swap 24 = .ok (.if_icmp .ne 6, 3) := by decide +kernel
theorem dX11_swap_27 : decode cX11_swap 27 = .ok (.ldc 61, 2) := by decide +kernel
theorem dX11_swap_29 : decode cX11_swap 29 = .ok (.ireturn, 1) := by decide +kernel
theorem dX11_swap_30 : decode cX11_swap 30 = .ok (.aload_n 0, 1) := by decide +kernel
theorem dX11_swap_31 : decode cX11_swap 31 = .ok (.getfield 26, 3) := by decide +kernel
theorem dX11_swap_34 : decode cX11_swap 34 = .ok (.invokevirtual 150, 3) := by decide +kernel
theorem dX11_swap_37 : decode cX11_swap 37 = .ok (.ifCond .eq 6, 3) := by decide +kernel
theorem dX11_swap_40 : decode cX11_swap 40 = .ok (.ldc 98, 2) := by decide +kernel
theorem dX11_swap_42 : decode cX11_swap 42 = .ok (.ireturn, 1) := by decide +kernel
theorem dX11_swap_43 : decode cX11_swap 43 = .ok (.aload_n 0, 1) := by decide +kernel
theorem dX11_swap_44 : decode cX11_swap 44 = .ok (.invokevirtual 157, 3) := by decide +kernel
theorem dX11_swap_47 : decode cX11_swap 47 = .ok (.aload_n 0, 1) := by decide +kernel
theorem dX11_swap_48 : decode cX11_swap 48 = .ok (.getfield 26, 3) := by decide +kernel
theorem dX11_swap_51 : decode cX11_swap 51 = .ok (.iload_n 1, 1) := by decide +kernel
theorem dX11_swap_52 : decode cX11_swap 52 = .ok (.iload_n 2, 1) := by decide +kernel
theorem dX11_swap_53 : decode cX11_swap 53 = .ok (.invokestatic 182, 3) := by decide +kernel
theorem dX11_swap_56 : decode cX11_swap 56 = .ok (.iload_n 1, 1) := by decide +kernel
theorem dX11_swap_57 : decode cX11_swap 57 = .ok (.iload_n 2, 1) := by decide +kernel
theorem dX11_swap_58 : decode cX11_swap 58 = .ok (.invokestatic 187, 3) := by decide +kernel
theorem dX11_swap_61 : decode cX11_swap 61 = .ok (.invokevirtual 190, 3) := by decide +kernel
theorem dX11_swap_64 : decode cX11_swap 64 = .ok (.aload_n 0, 1) := by decide +kernel
theorem dX11_swap_65 : decode cX11_swap 65 = .ok (.getfield 26, 3) := by decide +kernel
theorem dX11_swap_68 : decode cX11_swap 68 = .ok (.getfield 194, 3) := by decide +kernel
theorem dX11_swap_71 : decode cX11_swap 71 = .ok (.ireturn, 1) := by decide +kernel
theorem dX11_close_0 : decode cX11_close 0 = .ok (.aload_n 0, 1) := by decide +kernel
theorem dX11_close_1 : decode cX11_close 1 = .ok (.getfield 26, 3) := by decide +kernel
theorem dX11_close_4 : decode cX11_close 4 = .ok (.getfield 171, 3) := by decide +kernel
theorem dX11_close_7 : decode cX11_close 7 = .ok (.ifCond .ne 6, 3) := by decide +kernel
theorem dX11_close_10 : decode cX11_close 10 = .ok (.ldc 133, 2) := by decide +kernel
theorem dX11_close_12 : decode cX11_close 12 = .ok (.ireturn, 1) := by decide +kernel
theorem dX11_close_13 : decode cX11_close 13 = .ok (.aload_n 0, 1) := by decide +kernel
theorem dX11_close_14 : decode cX11_close 14 = .ok (.invokevirtual 157, 3) := by decide +kernel
theorem dX11_close_17 : decode cX11_close 17 = .ok (.aload_n 0, 1) := by decide +kernel
theorem dX11_close_18 : decode cX11_close 18 = .ok (.getfield 26, 3) := by decide +kernel
theorem dX11_close_21 : decode cX11_close 21 = .ok (.invokevirtual 197, 3) := by decide +kernel
theorem dX11_close_24 : decode cX11_close 24 = .ok (.ireturn, 1) := by decide +kernel
theorem dX11_dummy_0 : decode cX11_dummy 0 = .ok (.aload_n 0, 1) := by decide +kernel
theorem dX11_dummy_1 : decode cX11_dummy 1 = .ok (.getfield 26, 3) := by decide +kernel
theorem dX11_dummy_4 : decode cX11_dummy 4 = .ok (.iload_n 1, 1) := by decide +kernel
theorem dX11_dummy_5 : decode cX11_dummy 5 = .ok (.iload_n 2, 1) := by decide +kernel
theorem dX11_dummy_6 : decode cX11_dummy 6 = .ok (.invokevirtual 138, 3) := by decide +kernel
theorem dX11_dummy_9 : decode cX11_dummy 9 = .ok (.ifCond .ne 6, 3) := by decide +kernel
theorem dX11_dummy_12 : decode cX11_dummy 12 = .ok (.ldc 61, 2) := by decide +kernel
theorem dX11_dummy_14 : decode cX11_dummy 14 = .ok (.ireturn, 1) := by decide +kernel
theorem dX11_dummy_15 : decode cX11_dummy 15 = .ok (.iload_n 1, 1) := by decide +kernel
theorem dX11_dummy_16 : decode cX11_dummy 16 = .ok (.iload_n 2, 1) := by decide +kernel
theorem dX11_dummy_17 : decode cX11_dummy 17 = .ok (.invokestatic 167, 3) := by decide +kernel
theorem dX11_dummy_20 : decode cX11_dummy 20 = .ok (.istore 4, 2) := by decide +kernel
theorem dX11_dummy_22 : decode cX11_dummy 22 = .ok (.iload_n 3, 1) := by decide +kernel
theorem dX11_dummy_23 : decode cX11_dummy 23 = .ok (.tableswitch 72 0 3 #[29, 40, 51, 62], 29) := by decide +kernel
theorem dX11_dummy_52 : decode cX11_dummy 52 = .ok (.aload_n 0, 1) := by decide +kernel
theorem dX11_dummy_53 : decode cX11_dummy 53 = .ok (.getfield 26, 3) := by decide +kernel
theorem dX11_dummy_56 : decode cX11_dummy 56 = .ok (.getfield 163, 3) := by decide +kernel
theorem dX11_dummy_59 : decode cX11_dummy 59 = .ok (.iload 4, 2) := by decide +kernel
theorem dX11_dummy_61 : decode cX11_dummy 61 = .ok (.iaload, 1) := by decide +kernel
theorem dX11_dummy_62 : decode cX11_dummy 62 = .ok (.ireturn, 1) := by decide +kernel
theorem dX11_dummy_63 : decode cX11_dummy 63 = .ok (.aload_n 0, 1) := by decide +kernel
theorem dX11_dummy_64 : decode cX11_dummy 64 = .ok (.getfield 26, 3) := by decide +kernel
theorem dX11_dummy_67 : decode cX11_dummy 67 = .ok (.getfield 200, 3) := by decide +kernel
theorem dX11_dummy_70 : decode cX11_dummy 70 = .ok (.iload 4, 2) := by decide +kernel
theorem dX11_dummy_72 : decode cX11_dummy 72 = .ok (.iaload, 1) := by decide +kernel
theorem dX11_dummy_73 : decode cX11_dummy 73 = .ok (.ireturn, 1) := by decide +kernel
theorem dX11_dummy_74 : decode cX11_dummy 74 = .ok (.aload_n 0, 1) := by decide +kernel
theorem dX11_dummy_75 : decode cX11_dummy 75 = .ok (.getfield 26, 3) := by decide +kernel
theorem dX11_dummy_78 : decode cX11_dummy 78 = .ok (.getfield 203, 3) := by decide +kernel
theorem dX11_dummy_81 : decode cX11_dummy 81 = .ok (.iload 4, 2) := by decide +kernel
theorem dX11_dummy_83 : decode cX11_dummy 83 = .ok (.iaload, 1) := by decide +kernel
theorem dX11_dummy_84 : decode cX11_dummy 84 = .ok (.ireturn, 1) := by decide +kernel
theorem dX11_dummy_85 : decode cX11_dummy 85 = .ok (.aload_n 0, 1) := by decide +kernel
theorem dX11_dummy_86 : decode cX11_dummy 86 = .ok (.getfield 26, 3) := by decide +kernel
theorem dX11_dummy_89 : decode cX11_dummy 89 = .ok (.iload 4, 2) := by decide +kernel
theorem dX11_dummy_91 : decode cX11_dummy 91 = .ok (.invokevirtual 206, 3) := by decide +kernel
theorem dX11_dummy_94 : decode cX11_dummy 94 = .ok (.ireturn, 1) := by decide +kernel
theorem dX11_dummy_95 : decode cX11_dummy 95 = .ok (.ldc 61, 2) := by decide +kernel
theorem dX11_dummy_97 : decode cX11_dummy 97 = .ok (.ireturn, 1) := by decide +kernel
theorem dX11_line_0 : decode cX11_line 0 = .ok (.iload_n 1, 1) := by decide +kernel
theorem dX11_line_1 : decode cX11_line 1 = .ok (.ifCond .lt 24, 3) := by decide +kernel
theorem dX11_line_4 : decode cX11_line 4 = .ok (.iload_n 1, 1) := by decide +kernel
theorem dX11_line_5 : decode cX11_line 5 = .ok (.aload_n 0, 1) := by decide +kernel
theorem dX11_line_6 : decode cX11_line 6 = .ok (.getfield 26, 3) := by decide +kernel
theorem dX11_line_9 : decode cX11_line 9 = .ok (.getfield 194, 3) := by decide +kernel
theorem dX11_line_12 : decode cX11_line 12 = .ok (.if_icmp .ge 13, 3) := by decide +kernel
theorem dX11_line_15 : decode cX11_line 15 = .ok (.iload_n 2, 1) := by decide +kernel
theorem dX11_line_16 : decode cX11_line 16 = .ok (.ifCond .lt 9, 3) := by decide +kernel
theorem dX11_line_19 : decode cX11_line 19 = .ok (.iload_n 2, 1) := by decide +kernel
theorem dX11_line_20 : decode cX11_line 20 = .ok (.bipush 6, 2) := by decide +kernel
theorem dX11_line_22 : decode cX11_line 22 = .ok (.if_icmp .lt 6, 3) := by decide +kernel
theorem dX11_line_25 : decode cX11_line 25 = .ok (.ldc 61, 2) := by decide +kernel
theorem dX11_line_27 : decode cX11_line 27 = .ok (.ireturn, 1) := by decide +kernel
theorem dX11_line_28 : decode cX11_line 28 = .ok (.aload_n 0, 1) := by decide +kernel
theorem dX11_line_29 : decode cX11_line 29 = .ok (.getfield 26, 3) := by decide +kernel
theorem dX11_line_32 : decode cX11_line 32 = .ok (.iload_n 1, 1) := by decide +kernel
theorem dX11_line_33 : decode cX11_line 33 = .ok (.iload_n 2, 1) := by decide +kernel
theorem dX11_line_34 : decode cX11_line 34 = .ok (.invokevirtual 209, 3) := by decide +kernel
theorem dX11_line_37 : decode cX11_line 37 = .ok (.ireturn, 1) := by decide +kernel
theorem dX11_pads_0 : decode cX11_pads 0 = .ok (.aload_n 0, 1) := by decide +kernel
theorem dX11_pads_1 : decode cX11_pads 1 = .ok (.getfield 26, 3) := by decide +kernel
theorem dX11_pads_4 : decode cX11_pads 4 = .ok (.iload_n 1, 1) := by decide +kernel
theorem dX11_pads_5 : decode cX11_pads 5 = .ok (.invokevirtual 134, 3) := by decide +kernel
theorem dX11_pads_8 : decode cX11_pads 8 = .ok (.astore_n 3, 1) := by decide +kernel
theorem dX11_pads_9 : decode cX11_pads 9 = .ok (.aload_n 3, 1) := by decide +kernel
theorem dX11_pads_10 : decode cX11_pads 10 = .ok (.ifnull 10, 3) := by decide +kernel
theorem dX11_pads_13 : decode cX11_pads 13 = .ok (.iload_n 2, 1) := by decide +kernel
theorem dX11_pads_14 : decode cX11_pads 14 = .ok (.invokestatic 142, 3) := by decide +kernel
theorem dX11_pads_17 : decode cX11_pads 17 = .ok (.ifCond .ne 6, 3) := by decide +kernel
theorem dX11_pads_20 : decode cX11_pads 20 = .ok (.ldc 61, 2) := by decide +kernel
theorem dX11_pads_22 : decode cX11_pads 22 = .ok (.ireturn, 1) := by decide +kernel
theorem dX11_pads_23 : decode cX11_pads 23 = .ok (.aload_n 3, 1) := by decide +kernel
theorem dX11_pads_24 : decode cX11_pads 24 = .ok (.iload_n 2, 1) := by decide +kernel
theorem dX11_pads_25 : decode cX11_pads 25 = .ok (.invokevirtual 145, 3) := by decide +kernel
theorem dX11_pads_28 : decode cX11_pads 28 = .ok (.ireturn, 1) := by decide +kernel
theorem dX11_was_0 : decode cX11_was 0 = .ok (.iload_n 1, 1) := by decide +kernel
theorem dX11_was_1 : decode cX11_was 1 = .ok (.ifCond .lt 26, 3) := by decide +kernel
theorem dX11_was_4 : decode cX11_was 4 = .ok (.iload_n 1, 1) := by decide +kernel
theorem dX11_was_5 : decode cX11_was 5 = .ok (.aload_n 0, 1) := by decide +kernel
theorem dX11_was_6 : decode cX11_was 6 = .ok (.getfield 26, 3) := by decide +kernel
theorem dX11_was_9 : decode cX11_was 9 = .ok (.getfield 194, 3) := by decide +kernel
theorem dX11_was_12 : decode cX11_was 12 = .ok (.if_icmp .gt 15, 3) := by decide +kernel
theorem dX11_was_15 : decode cX11_was 15 = .ok (.aload_n 0, 1) := by decide +kernel
theorem dX11_was_16 : decode cX11_was 16 = .ok (.getfield 26, 3) := by decide +kernel
theorem dX11_was_19 : decode cX11_was 19 = .ok (.iload_n 2, 1) := by decide +kernel
theorem dX11_was_20 : decode cX11_was 20 = .ok (.iload_n 3, 1) := by decide +kernel
theorem dX11_was_21 : decode cX11_was 21 = .ok (.invokevirtual 138, 3) := by decide +kernel
theorem dX11_was_24 : decode cX11_was 24 = .ok (.ifCond .ne 6, 3) := by decide +kernel
theorem dX11_was_27 : decode cX11_was 27 = .ok (.ldc 61, 2) := by decide +kernel
theorem dX11_was_29 : decode cX11_was 29 = .ok (.ireturn, 1) := by decide +kernel
theorem dX11_was_30 : decode cX11_was 30 = .ok (.aload_n 0, 1) := by decide +kernel
theorem dX11_was_31 : decode cX11_was 31 = .ok (.getfield 30, 3) := by decide +kernel
theorem dX11_was_34 : decode cX11_was 34 = .ok (.aload_n 0, 1) := by decide +kernel
theorem dX11_was_35 : decode cX11_was 35 = .ok (.getfield 26, 3) := by decide +kernel
theorem dX11_was_38 : decode cX11_was 38 = .ok (.invokevirtual 120, 3) := by decide +kernel
theorem dX11_was_41 : decode cX11_was 41 = .ok (.aload_n 0, 1) := by decide +kernel
theorem dX11_was_42 : decode cX11_was 42 = .ok (.getfield 30, 3) := by decide +kernel
theorem dX11_was_45 : decode cX11_was 45 = .ok (.iload_n 1, 1) := by decide +kernel
theorem dX11_was_46 : decode cX11_was 46 = .ok (.invokevirtual 212, 3) := by decide +kernel
theorem dX11_was_49 : decode cX11_was 49 = .ok (.aload_n 0, 1) := by decide +kernel
theorem dX11_was_50 : decode cX11_was 50 = .ok (.getfield 30, 3) := by decide +kernel
theorem dX11_was_53 : decode cX11_was 53 = .ok (.getfield 163, 3) := by decide +kernel
theorem dX11_was_56 : decode cX11_was 56 = .ok (.iload_n 2, 1) := by decide +kernel
theorem dX11_was_57 : decode cX11_was 57 = .ok (.iload_n 3, 1) := by decide +kernel
theorem dX11_was_58 : decode cX11_was 58 = .ok (.invokestatic 167, 3) := by decide +kernel
theorem dX11_was_61 : decode cX11_was 61 = .ok (.iaload, 1) := by decide +kernel
theorem dX11_was_62 : decode cX11_was 62 = .ok (.ireturn, 1) := by decide +kernel
theorem dX11_liars_0 : decode cX11_liars 0 = .ok (.aload_n 0, 1) := by decide +kernel
theorem dX11_liars_1 : decode cX11_liars 1 = .ok (.getfield 26, 3) := by decide +kernel
theorem dX11_liars_4 : decode cX11_liars 4 = .ok (.iload_n 1, 1) := by decide +kernel
theorem dX11_liars_5 : decode cX11_liars 5 = .ok (.invokevirtual 179, 3) := by decide +kernel
theorem dX11_liars_8 : decode cX11_liars 8 = .ok (.ifCond .eq 18, 3) := by decide +kernel
theorem dX11_liars_11 : decode cX11_liars 11 = .ok (.iload_n 2, 1) := by decide +kernel
theorem dX11_liars_12 : decode cX11_liars 12 = .ok (.invokestatic 54, 3) := by decide +kernel
theorem dX11_liars_15 : decode cX11_liars 15 = .ok (.ifCond .eq 11, 3) := by decide +kernel
theorem dX11_liars_18 : decode cX11_liars 18 = .ok (.iload 4, 2) := by decide +kernel
theorem dX11_liars_20 : decode cX11_liars 20 = .ok (.invokestatic 216, 3) := by decide +kernel
theorem dX11_liars_23 : decode cX11_liars 23 = .ok (.ifCond .ne 6, 3) := by decide +kernel
theorem dX11_liars_26 : decode cX11_liars 26 = .ok (.ldc 61, 2) := by decide +kernel
theorem dX11_liars_28 : decode cX11_liars 28 = .ok (.ireturn, 1) := by decide +kernel
theorem dX11_liars_29 : decode cX11_liars 29 = .ok (.aload_n 0, 1) := by decide +kernel
theorem dX11_liars_30 : decode cX11_liars 30 = .ok (.getfield 10, 3) := by decide +kernel
theorem dX11_liars_33 : decode cX11_liars 33 = .ok (.iload_n 2, 1) := by decide +kernel
theorem dX11_liars_34 : decode cX11_liars 34 = .ok (.iload_n 3, 1) := by decide +kernel
theorem dX11_liars_35 : decode cX11_liars 35 = .ok (.iconst 3, 1) := by decide +kernel
theorem dX11_liars_36 : decode cX11_liars 36 = .ok (.invokevirtual 73, 3) := by decide +kernel
theorem dX11_liars_39 : decode cX11_liars 39 = .ok (.istore 5, 2) := by decide +kernel
theorem dX11_liars_41 : decode cX11_liars 41 = .ok (.iload 5, 2) := by decide +kernel
theorem dX11_liars_43 : decode cX11_liars 43 = .ok (.ifCond .eq 10, 3) := by decide +kernel
theorem dX11_liars_46 : decode cX11_liars 46 = .ok (.aload_n 0, 1) := by decide +kernel
theorem dX11_liars_47 : decode cX11_liars 47 = .ok (.iload 5, 2) := by decide +kernel
theorem dX11_liars_49 : decode cX11_liars 49 = .ok (.invokevirtual 62, 3) := by decide +kernel
theorem dX11_liars_52 : decode cX11_liars 52 = .ok (.ireturn, 1) := by decide +kernel
theorem dX11_liars_53 : decode cX11_liars 53 = .ok (.aload_n 0, 1) := by decide +kernel
theorem dX11_liars_54 : decode cX11_liars 54 = .ok (.getfield 36, 3) := by decide +kernel
theorem dX11_liars_57 : decode cX11_liars 57 = .ok (.aload_n 0, 1) := by decide +kernel
theorem dX11_liars_58 : decode cX11_liars 58 = .ok (.getfield 26, 3) := by decide +kernel
theorem dX11_liars_61 : decode cX11_liars 61 = .ok (.iload_n 1, 1) := by decide +kernel
theorem dX11_liars_62 : decode cX11_liars 62 = .ok (.aload_n 0, 1) := by decide +kernel
theorem dX11_liars_63 : decode cX11_liars 63 = .ok (.getfield 10, 3) := by decide +kernel
theorem dX11_liars_66 : decode cX11_liars 66 = .ok (.iload_n 2, 1) := by decide +kernel
theorem dX11_liars_67 : decode cX11_liars 67 = .ok (.iload_n 3, 1) := by decide +kernel
theorem dX11_liars_68 : decode cX11_liars 68 = .ok (.invokevirtual 219, 3) := by decide +kernel
theorem dX11_liars_71 : decode cX11_liars 71 = .ok (.istore 6, 2) := by decide +kernel
theorem dX11_liars_73 : decode cX11_liars 73 = .ok (.aload_n 0, 1) := by decide +kernel
theorem dX11_liars_74 : decode cX11_liars 74 = .ok (.iload 4, 2) := by decide +kernel
theorem dX11_liars_76 : decode cX11_liars 76 = .ok (.ifCond .ne 11, 3) := by decide +kernel
theorem dX11_liars_79 : decode cX11_liars 79 = .ok (.iload 6, 2) := by decide +kernel
theorem dX11_liars_81 : decode cX11_liars 81 = .ok (.invokestatic 223, 3) := by decide +kernel
theorem dX11_liars_84 : decode cX11_liars 84 = .ok (.goto 12, 3) := by decide +kernel
theorem dX11_liars_87 : decode cX11_liars 87 = .ok (.aload_n 0, 1) := by decide +kernel
theorem dX11_liars_88 : decode cX11_liars 88 = .ok (.getfield 36, 3) := by decide +kernel
theorem dX11_liars_91 : decode cX11_liars 91 = .ok (.iload 6, 2) := by decide +kernel
theorem dX11_liars_93 : decode cX11_liars 93 = .ok (.invokevirtual 228, 3) := by decide +kernel
theorem dX11_liars_96 : decode cX11_liars 96 = .ok (.invokevirtual 70, 3) := by decide +kernel
theorem dX11_liars_99 : decode cX11_liars 99 = .ok (.ireturn, 1) := by decide +kernel
theorem dX11_blame_0 : decode cX11_blame 0 = .ok (.aload_n 0, 1) := by decide +kernel
theorem dX11_blame_1 : decode cX11_blame 1 = .ok (.getfield 26, 3) := by decide +kernel
theorem dX11_blame_4 : decode cX11_blame 4 = .ok (.iload_n 1, 1) := by decide +kernel
theorem dX11_blame_5 : decode cX11_blame 5 = .ok (.invokevirtual 179, 3) := by decide +kernel
theorem dX11_blame_8 : decode cX11_blame 8 = .ok (.ifCond .eq 29, 3) := by decide +kernel
theorem dX11_blame_11 : decode cX11_blame 11 = .ok (.aload_n 0, 1) := by decide +kernel
theorem dX11_blame_12 : decode cX11_blame 12 = .ok (.getfield 26, 3) := by decide +kernel
theorem dX11_blame_15 : decode cX11_blame 15 = .ok (.iload_n 2, 1) := by decide +kernel
theorem dX11_blame_16 : decode cX11_blame 16 = .ok (.invokevirtual 134, 3) := by decide +kernel
theorem dX11_blame_19 : decode cX11_blame 19 = .ok (.ifnull 18, 3) := by decide +kernel
theorem dX11_blame_22 : decode cX11_blame 22 = .ok (.iload_n 3, 1) := by decide +kernel
theorem dX11_blame_23 : decode cX11_blame 23 = .ok (.invokestatic 54, 3) := by decide +kernel
theorem dX11_blame_26 : decode cX11_blame 26 = .ok (.ifCond .eq 11, 3) := by decide +kernel
theorem dX11_blame_29 : decode cX11_blame 29 = .ok (.iload 5, 2) := by decide +kernel
theorem dX11_blame_31 : decode cX11_blame 31 = .ok (.invokestatic 216, 3) := by decide +kernel
theorem dX11_blame_34 : decode cX11_blame 34 = .ok (.ifCond .ne 6, 3) := by decide +kernel
theorem dX11_blame_37 : decode cX11_blame 37 = .ok (.ldc 61, 2) := by decide +kernel
theorem dX11_blame_39 : decode cX11_blame 39 = .ok (.ireturn, 1) := by decide +kernel
theorem dX11_blame_40 : decode cX11_blame 40 = .ok (.aload_n 0, 1) := by decide +kernel
theorem dX11_blame_41 : decode cX11_blame 41 = .ok (.getfield 10, 3) := by decide +kernel
theorem dX11_blame_44 : decode cX11_blame 44 = .ok (.iload_n 3, 1) := by decide +kernel
theorem dX11_blame_45 : decode cX11_blame 45 = .ok (.iload 4, 2) := by decide +kernel
theorem dX11_blame_47 : decode cX11_blame 47 = .ok (.iconst 3, 1) := by decide +kernel
theorem dX11_blame_48 : decode cX11_blame 48 = .ok (.invokevirtual 73, 3) := by decide +kernel
theorem dX11_blame_51 : decode cX11_blame 51 = .ok (.istore 6, 2) := by decide +kernel
theorem dX11_blame_53 : decode cX11_blame 53 = .ok (.iload 6, 2) := by decide +kernel
theorem dX11_blame_55 : decode cX11_blame 55 = .ok (.ifCond .eq 10, 3) := by decide +kernel
theorem dX11_blame_58 : decode cX11_blame 58 = .ok (.aload_n 0, 1) := by decide +kernel
theorem dX11_blame_59 : decode cX11_blame 59 = .ok (.iload 6, 2) := by decide +kernel
theorem dX11_blame_61 : decode cX11_blame 61 = .ok (.invokevirtual 62, 3) := by decide +kernel
theorem dX11_blame_64 : decode cX11_blame 64 = .ok (.ireturn, 1) := by decide +kernel
theorem dX11_blame_65 : decode cX11_blame 65 = .ok (.aload_n 0, 1) := by decide +kernel
theorem dX11_blame_66 : decode cX11_blame 66 = .ok (.getfield 36, 3) := by decide +kernel
theorem dX11_blame_69 : decode cX11_blame 69 = .ok (.aload_n 0, 1) := by decide +kernel
theorem dX11_blame_70 : decode cX11_blame 70 = .ok (.getfield 26, 3) := by decide +kernel
theorem dX11_blame_73 : decode cX11_blame 73 = .ok (.iload_n 1, 1) := by decide +kernel
theorem dX11_blame_74 : decode cX11_blame 74 = .ok (.aload_n 0, 1) := by decide +kernel
theorem dX11_blame_75 : decode cX11_blame 75 = .ok (.getfield 10, 3) := by decide +kernel
theorem dX11_blame_78 : decode cX11_blame 78 = .ok (.iload_n 3, 1) := by decide +kernel
theorem dX11_blame_79 : decode cX11_blame 79 = .ok (.iload 4, 2) := by decide +kernel
theorem dX11_blame_81 : decode cX11_blame 81 = .ok (.invokevirtual 219, 3) := by decide +kernel
theorem dX11_blame_84 : decode cX11_blame 84 = .ok (.istore 7, 2) := by decide +kernel
theorem dX11_blame_86 : decode cX11_blame 86 = .ok (.iload 7, 2) := by decide +kernel
theorem dX11_blame_88 : decode cX11_blame 88 = .ok (.ifCond .ne 10, 3) := by decide +kernel
theorem dX11_blame_91 : decode cX11_blame 91 = .ok (.aload_n 0, 1) := by decide +kernel
theorem dX11_blame_92 : decode cX11_blame 92 = .ok (.ldc 231, 2) := by decide +kernel
theorem dX11_blame_94 : decode cX11_blame 94 = .ok (.invokevirtual 70, 3) := by decide +kernel
theorem dX11_blame_97 : decode cX11_blame 97 = .ok (.ireturn, 1) := by decide +kernel
theorem dX11_blame_98 : decode cX11_blame 98 = .ok (.aload_n 0, 1) := by decide +kernel
theorem dX11_blame_99 : decode cX11_blame 99 = .ok (.getfield 36, 3) := by decide +kernel
theorem dX11_blame_102 : decode cX11_blame 102 = .ok (.iload 7, 2) := by decide +kernel
theorem dX11_blame_104 : decode cX11_blame 104 = .ok (.iload_n 2, 1) := by decide +kernel
theorem dX11_blame_105 : decode cX11_blame 105 = .ok (.invokevirtual 232, 3) := by decide +kernel
theorem dX11_blame_108 : decode cX11_blame 108 = .ok (.istore 8, 2) := by decide +kernel
theorem dX11_blame_110 : decode cX11_blame 110 = .ok (.aload_n 0, 1) := by decide +kernel
theorem dX11_blame_111 : decode cX11_blame 111 = .ok (.aload_n 0, 1) := by decide +kernel
theorem dX11_blame_112 : decode cX11_blame 112 = .ok (.getfield 36, 3) := by decide +kernel
theorem dX11_blame_115 : decode cX11_blame 115 = .ok (.iload 8, 2) := by decide +kernel
theorem dX11_blame_117 : decode cX11_blame 117 = .ok (.iload 7, 2) := by decide +kernel
theorem dX11_blame_119 : decode cX11_blame 119 = .ok (.invokestatic 223, 3) := by decide +kernel
theorem dX11_blame_122 : decode cX11_blame 122 = .ok (.iload 5, 2) := by decide +kernel
theorem dX11_blame_124 : decode cX11_blame 124 = .ok (.invokevirtual 235, 3) := by decide +kernel
theorem dX11_blame_127 : decode cX11_blame 127 = .ok (.invokevirtual 70, 3) := by decide +kernel
theorem dX11_blame_130 : decode cX11_blame 130 = .ok (.ireturn, 1) := by decide +kernel
theorem dX11_right_0 : decode cX11_right 0 = .ok (.aload_n 0, 1) := by decide +kernel
theorem dX11_right_1 : decode cX11_right 1 = .ok (.getfield 26, 3) := by decide +kernel
theorem dX11_right_4 : decode cX11_right 4 = .ok (.iload_n 1, 1) := by decide +kernel
theorem dX11_right_5 : decode cX11_right 5 = .ok (.invokevirtual 179, 3) := by decide +kernel
theorem dX11_right_8 : decode cX11_right 8 = .ok (.ifCond .eq 13, 3) := by decide +kernel
theorem dX11_right_11 : decode cX11_right 11 = .ok (.iload_n 2, 1) := by decide +kernel
theorem dX11_right_12 : decode cX11_right 12 = .ok (.ifCond .lt 9, 3) := by decide +kernel
theorem dX11_right_15 : decode cX11_right 15 = .ok (.iload_n 2, 1) := by decide +kernel
theorem dX11_right_16 : decode cX11_right 16 = .ok (.bipush 6, 2) := by decide +kernel
theorem dX11_right_18 : decode cX11_right 18 = .ok (.if_icmp .le 6, 3) := by decide +kernel
theorem dX11_right_21 : decode cX11_right 21 = .ok (.ldc 61, 2) := by decide +kernel
theorem dX11_right_23 : decode cX11_right 23 = .ok (.ireturn, 1) := by decide +kernel
theorem dX11_right_24 : decode cX11_right 24 = .ok (.aload_n 0, 1) := by decide +kernel
theorem dX11_right_25 : decode cX11_right 25 = .ok (.getfield 36, 3) := by decide +kernel
theorem dX11_right_28 : decode cX11_right 28 = .ok (.aload_n 0, 1) := by decide +kernel
theorem dX11_right_29 : decode cX11_right 29 = .ok (.getfield 26, 3) := by decide +kernel
theorem dX11_right_32 : decode cX11_right 32 = .ok (.iload_n 1, 1) := by decide +kernel
theorem dX11_right_33 : decode cX11_right 33 = .ok (.iload_n 2, 1) := by decide +kernel
theorem dX11_right_34 : decode cX11_right 34 = .ok (.invokevirtual 238, 3) := by decide +kernel
theorem dX11_right_37 : decode cX11_right 37 = .ok (.ireturn, 1) := by decide +kernel
theorem dX11_most_0 : decode cX11_most 0 = .ok (.aload_n 0, 1) := by decide +kernel
theorem dX11_most_1 : decode cX11_most 1 = .ok (.getfield 26, 3) := by decide +kernel
theorem dX11_most_4 : decode cX11_most 4 = .ok (.iload_n 1, 1) := by decide +kernel
theorem dX11_most_5 : decode cX11_most 5 = .ok (.iload_n 2, 1) := by decide +kernel
theorem dX11_most_6 : decode cX11_most 6 = .ok (.invokevirtual 138, 3) := by decide +kernel
theorem dX11_most_9 : decode cX11_most 9 = .ok (.ifCond .eq 10, 3) := by decide +kernel
theorem dX11_most_12 : decode cX11_most 12 = .ok (.iload_n 3, 1) := by decide +kernel
theorem dX11_most_13 : decode cX11_most 13 = .ok (.invokestatic 216, 3) := by decide +kernel
theorem dX11_most_16 : decode cX11_most 16 = .ok (.ifCond .ne 6, 3) := by decide +kernel
theorem dX11_most_19 : decode cX11_most 19 = .ok (.ldc 61, 2) := by decide +kernel
theorem dX11_most_21 : decode cX11_most 21 = .ok (.ireturn, 1) := by decide +kernel
theorem dX11_most_22 : decode cX11_most 22 = .ok (.aload_n 0, 1) := by decide +kernel
theorem dX11_most_23 : decode cX11_most 23 = .ok (.getfield 36, 3) := by decide +kernel
theorem dX11_most_26 : decode cX11_most 26 = .ok (.aload_n 0, 1) := by decide +kernel
theorem dX11_most_27 : decode cX11_most 27 = .ok (.getfield 26, 3) := by decide +kernel
theorem dX11_most_30 : decode cX11_most 30 = .ok (.iload_n 1, 1) := by decide +kernel
theorem dX11_most_31 : decode cX11_most 31 = .ok (.iload_n 2, 1) := by decide +kernel
theorem dX11_most_32 : decode cX11_most 32 = .ok (.iload_n 3, 1) := by decide +kernel
theorem dX11_most_33 : decode cX11_most 33 = .ok (.invokevirtual 242, 3) := by decide +kernel
theorem dX11_most_36 : decode cX11_most 36 = .ok (.ireturn, 1) := by decide +kernel
theorem dX11_swaps_0 : decode cX11_swaps 0 = .ok (.aload_n 0, 1) := by decide +kernel
theorem dX11_swaps_1 : decode cX11_swaps 1 = .ok (.getfield 26, 3) := by decide +kernel
theorem dX11_swaps_4 : decode cX11_swaps 4 = .ok (.getfield 171, 3) := by decide +kernel
theorem dX11_swaps_7 : decode cX11_swaps 7 = .ok (.ifCond .ne 6, 3) := by decide +kernel
theorem dX11_swaps_10 : decode cX11_swaps 10 = .ok (.ldc 133, 2) := by decide +kernel
theorem dX11_swaps_12 : decode cX11_swaps 12 = .ok (.ireturn, 1) := by decide +kernel
theorem dX11_swaps_13 : decode cX11_swaps 13 = .ok (.iload_n 1, 1) := by decide +kernel
theorem dX11_swaps_14 : decode cX11_swaps 14 = .ok (.invokestatic 54, 3) := by decide +kernel
theorem dX11_swaps_17 : decode cX11_swaps 17 = .ok (.ifCond .eq 10, 3) := by decide +kernel
theorem dX11_swaps_20 : decode cX11_swaps 20 = .ok (.iload_n 3, 1) := by decide +kernel
theorem dX11_swaps_21 : decode cX11_swaps 21 = .ok (.invokestatic 216, 3) := by decide +kernel
theorem dX11_swaps_24 : decode cX11_swaps 24 = .ok (.ifCond .ne 6, 3) := by decide +kernel
theorem dX11_swaps_27 : decode cX11_swaps 27 = .ok (.ldc 61, 2) := by decide +kernel
theorem dX11_swaps_29 : decode cX11_swaps 29 = .ok (.ireturn, 1) := by decide +kernel
theorem dX11_swaps_30 : decode cX11_swaps 30 = .ok (.aload_n 0, 1) := by decide +kernel
theorem dX11_swaps_31 : decode cX11_swaps 31 = .ok (.getfield 10, 3) := by decide +kernel
theorem dX11_swaps_34 : decode cX11_swaps 34 = .ok (.iload_n 1, 1) := by decide +kernel
theorem dX11_swaps_35 : decode cX11_swaps 35 = .ok (.iload_n 2, 1) := by decide +kernel
theorem dX11_swaps_36 : decode cX11_swaps 36 = .ok (.iconst 3, 1) := by decide +kernel
theorem dX11_swaps_37 : decode cX11_swaps 37 = .ok (.aload_n 0, 1) := by decide +kernel
theorem dX11_swaps_38 : decode cX11_swaps 38 = .ok (.getfield 26, 3) := by decide +kernel
theorem dX11_swaps_41 : decode cX11_swaps 41 = .ok (.getfield 127, 3) := by decide +kernel
theorem dX11_swaps_44 : decode cX11_swaps 44 = .ok (.imul, 1) := by decide +kernel
theorem dX11_swaps_45 : decode cX11_swaps 45 = .ok (.invokevirtual 73, 3) := by decide +kernel
theorem dX11_swaps_48 : decode cX11_swaps 48 = .ok (.istore 4, 2) := by decide +kernel
theorem dX11_swaps_50 : decode cX11_swaps 50 = .ok (.iload 4, 2) := by decide +kernel
theorem dX11_swaps_52 : decode cX11_swaps 52 = .ok (.ifCond .eq 10, 3) := by decide +kernel
theorem dX11_swaps_55 : decode cX11_swaps 55 = .ok (.aload_n 0, 1) := by decide +kernel
theorem dX11_swaps_56 : decode cX11_swaps 56 = .ok (.iload 4, 2) := by decide +kernel
theorem dX11_swaps_58 : decode cX11_swaps 58 = .ok (.invokevirtual 62, 3) := by decide +kernel
theorem dX11_swaps_61 : decode cX11_swaps 61 = .ok (.ireturn, 1) := by decide +kernel
theorem dX11_swaps_62 : decode cX11_swaps 62 = .ok (.aload_n 0, 1) := by decide +kernel
theorem dX11_swaps_63 : decode cX11_swaps 63 = .ok (.aload_n 0, 1) := by decide +kernel
theorem dX11_swaps_64 : decode cX11_swaps 64 = .ok (.getfield 36, 3) := by decide +kernel
theorem dX11_swaps_67 : decode cX11_swaps 67 = .ok (.aload_n 0, 1) := by decide +kernel
theorem dX11_swaps_68 : decode cX11_swaps 68 = .ok (.getfield 26, 3) := by decide +kernel
theorem dX11_swaps_71 : decode cX11_swaps 71 = .ok (.aload_n 0, 1) := by decide +kernel
theorem dX11_swaps_72 : decode cX11_swaps 72 = .ok (.getfield 10, 3) := by decide +kernel
theorem dX11_swaps_75 : decode cX11_swaps 75 = .ok (.iload_n 1, 1) := by decide +kernel
theorem dX11_swaps_76 : decode cX11_swaps 76 = .ok (.iload_n 2, 1) := by decide +kernel
theorem dX11_swaps_77 : decode cX11_swaps 77 = .ok (.iload_n 3, 1) := by decide +kernel
theorem dX11_swaps_78 : decode cX11_swaps 78 = .ok (.invokevirtual 246, 3) := by decide +kernel
theorem dX11_swaps_81 : decode cX11_swaps 81 = .ok (.invokevirtual 70, 3) := by decide +kernel
theorem dX11_swaps_84 : decode cX11_swaps 84 = .ok (.ireturn, 1) := by decide +kernel
theorem dX11_lent_0 : decode cX11_lent 0 = .ok (.aload_n 0, 1) := by decide +kernel
theorem dX11_lent_1 : decode cX11_lent 1 = .ok (.getfield 26, 3) := by decide +kernel
theorem dX11_lent_4 : decode cX11_lent 4 = .ok (.getfield 171, 3) := by decide +kernel
theorem dX11_lent_7 : decode cX11_lent 7 = .ok (.ifCond .ne 6, 3) := by decide +kernel
theorem dX11_lent_10 : decode cX11_lent 10 = .ok (.ldc 133, 2) := by decide +kernel
theorem dX11_lent_12 : decode cX11_lent 12 = .ok (.ireturn, 1) := by decide +kernel
theorem dX11_lent_13 : decode cX11_lent 13 = .ok (.iload_n 1, 1) := by decide +kernel
theorem dX11_lent_14 : decode cX11_lent 14 = .ok (.invokestatic 250, 3) := by decide +kernel
theorem dX11_lent_17 : decode cX11_lent 17 = .ok (.ifCond .eq 10, 3) := by decide +kernel
theorem dX11_lent_20 : decode cX11_lent 20 = .ok (.iload_n 2, 1) := by decide +kernel
theorem dX11_lent_21 : decode cX11_lent 21 = .ok (.invokestatic 216, 3) := by decide +kernel
theorem dX11_lent_24 : decode cX11_lent 24 = .ok (.ifCond .ne 6, 3) := by decide +kernel
theorem dX11_lent_27 : decode cX11_lent 27 = .ok (.ldc 61, 2) := by decide +kernel
theorem dX11_lent_29 : decode cX11_lent 29 = .ok (.ireturn, 1) := by decide +kernel
theorem dX11_lent_30 : decode cX11_lent 30 = .ok (.aload_n 0, 1) := by decide +kernel
theorem dX11_lent_31 : decode cX11_lent 31 = .ok (.getfield 47, 3) := by decide +kernel
theorem dX11_lent_34 : decode cX11_lent 34 = .ok (.iload_n 1, 1) := by decide +kernel
theorem dX11_lent_35 : decode cX11_lent 35 = .ok (.aaload, 1) := by decide +kernel
theorem dX11_lent_36 : decode cX11_lent 36 = .ok (.astore_n 3, 1) := by decide +kernel
theorem dX11_lent_37 : decode cX11_lent 37 = .ok (.aload_n 3, 1) := by decide +kernel
theorem dX11_lent_38 : decode cX11_lent 38 = .ok (.ifnull 17, 3) := by decide +kernel
theorem dX11_lent_41 : decode cX11_lent 41 = .ok (.aload_n 3, 1) := by decide +kernel
theorem dX11_lent_42 : decode cX11_lent 42 = .ok (.getfield 127, 3) := by decide +kernel
theorem dX11_lent_45 : decode cX11_lent 45 = .ok (.aload_n 0, 1) := by decide +kernel
theorem dX11_lent_46 : decode cX11_lent 46 = .ok (.getfield 26, 3) := by decide +kernel
theorem dX11_lent_49 : decode cX11_lent 49 = .ok (.getfield 127, 3) := by decide +kernel
theorem dX11_lent_52 : decode cX11_lent 52 = .ok (.if_icmp .eq 6, 3) := by decide +kernel
theorem dX11_lent_55 : decode cX11_lent 55 = .ok (.ldc 133, 2) := by decide +kernel
theorem dX11_lent_57 : decode cX11_lent 57 = .ok (.ireturn, 1) := by decide +kernel
theorem dX11_lent_58 : decode cX11_lent 58 = .ok (.iload_n 2, 1) := by decide +kernel
theorem dX11_lent_59 : decode cX11_lent 59 = .ok (.ifCond .ne 18, 3) := by decide +kernel
theorem dX11_lent_62 : decode cX11_lent 62 = .ok (.aload_n 0, 1) := by decide +kernel
theorem dX11_lent_63 : decode cX11_lent 63 = .ok (.getfield 36, 3) := by decide +kernel
theorem dX11_lent_66 : decode cX11_lent 66 = .ok (.aload_n 0, 1) := by decide +kernel
theorem dX11_lent_67 : decode cX11_lent 67 = .ok (.getfield 26, 3) := by decide +kernel
theorem dX11_lent_70 : decode cX11_lent 70 = .ok (.aload_n 3, 1) := by decide +kernel
theorem dX11_lent_71 : decode cX11_lent 71 = .ok (.invokevirtual 253, 3) := by decide +kernel
theorem dX11_lent_74 : decode cX11_lent 74 = .ok (.goto 15, 3) := by decide +kernel
theorem dX11_lent_77 : decode cX11_lent 77 = .ok (.aload_n 0, 1) := by decide +kernel
theorem dX11_lent_78 : decode cX11_lent 78 = .ok (.getfield 36, 3) := by decide +kernel
theorem dX11_lent_81 : decode cX11_lent 81 = .ok (.aload_n 0, 1) := by decide +kernel
theorem dX11_lent_82 : decode cX11_lent 82 = .ok (.getfield 26, 3) := by decide +kernel
theorem dX11_lent_85 : decode cX11_lent 85 = .ok (.aload_n 3, 1) := by decide +kernel
theorem dX11_lent_86 : decode cX11_lent 86 = .ok (.invokevirtual 257, 3) := by decide +kernel
theorem dX11_lent_89 : decode cX11_lent 89 = .ok (.ireturn, 1) := by decide +kernel
theorem dX11_parted_0 : decode cX11_parted 0 = .ok (.aload_n 0, 1) := by decide +kernel
theorem dX11_parted_1 : decode cX11_parted 1 = .ok (.getfield 26, 3) := by decide +kernel
theorem dX11_parted_4 : decode cX11_parted 4 = .ok (.iload_n 1, 1) := by decide +kernel
theorem dX11_parted_5 : decode cX11_parted 5 = .ok (.invokevirtual 134, 3) := by decide +kernel
theorem dX11_parted_8 : decode cX11_parted 8 = .ok (.astore 5, 2) := by decide +kernel
theorem dX11_parted_10 : decode cX11_parted 10 = .ok (.aload_n 0, 1) := by decide +kernel
theorem dX11_parted_11 : decode cX11_parted 11 = .ok (.getfield 26, 3) := by decide +kernel
theorem dX11_parted_14 : decode cX11_parted 14 = .ok (.iload_n 2, 1) := by decide +kernel
theorem dX11_parted_15 : decode cX11_parted 15 = .ok (.invokevirtual 134, 3) := by decide +kernel
theorem dX11_parted_18 : decode cX11_parted 18 = .ok (.astore 6, 2) := by decide +kernel
theorem dX11_parted_20 : decode cX11_parted 20 = .ok (.aload 5, 2) := by decide +kernel
theorem dX11_parted_22 : decode cX11_parted 22 = .ok (.ifnull 35, 3) := by decide +kernel
theorem dX11_parted_25 : decode cX11_parted 25 = .ok (.aload 6, 2) := by decide +kernel
theorem dX11_parted_27 : decode cX11_parted 27 = .ok (.ifnull 30, 3) := by decide +kernel
theorem dX11_parted_30 : decode cX11_parted 30 = .ok (.iload_n 1, 1) := by decide +kernel
theorem dX11_parted_31 : decode cX11_parted 31 = .ok (.iload_n 2, 1) := by decide +kernel
theorem dX11_parted_32 : decode cX11_parted 32 = .ok (.if_icmp .eq 25, 3) := by decide +kernel
theorem dX11_parted_35 : decode cX11_parted 35 = .ok (.iload 4, 2) := by decide +kernel
theorem dX11_parted_37 : decode cX11_parted 37 = .ok (.invokestatic 216, 3) := by decide +kernel
theorem dX11_parted_40 : decode cX11_parted 40 = .ok (.ifCond .eq 17, 3) := by decide +kernel
theorem dX11_parted_43 : decode cX11_parted 43 = .ok (.iload_n 3, 1) := by decide +kernel
theorem dX11_parted_44 : decode cX11_parted 44 = .ok (.sipush (-200), 3) := by decide +kernel
theorem dX11_parted_47 : decode cX11_parted 47 = .ok (.if_icmp .lt 10, 3) := by decide +kernel
theorem dX11_parted_50 : decode cX11_parted 50 = .ok (.iload_n 3, 1) := by decide +kernel
theorem dX11_parted_51 : decode cX11_parted 51 = .ok (.sipush 200, 3) := by decide +kernel
theorem dX11_parted_54 : decode cX11_parted 54 = .ok (.if_icmp .le 6, 3) := by decide +kernel
theorem dX11_parted_57 : decode cX11_parted 57 = .ok (.ldc 61, 2) := by decide +kernel
theorem dX11_parted_59 : decode cX11_parted 59 = .ok (.ireturn, 1) := by decide +kernel
theorem dX11_parted_60 : decode cX11_parted 60 = .ok (.aload_n 0, 1) := by decide +kernel
theorem dX11_parted_61 : decode cX11_parted 61 = .ok (.getfield 36, 3) := by decide +kernel
theorem dX11_parted_64 : decode cX11_parted 64 = .ok (.aload 5, 2) := by decide +kernel
theorem dX11_parted_66 : decode cX11_parted 66 = .ok (.aload 6, 2) := by decide +kernel
theorem dX11_parted_68 : decode cX11_parted 68 = .ok (.iload_n 3, 1) := by decide +kernel
theorem dX11_parted_69 : decode cX11_parted 69 = .ok (.iload 4, 2) := by decide +kernel
theorem dX11_parted_71 : decode cX11_parted 71 = .ok (.invokevirtual 260, 3) := by decide +kernel
theorem dX11_parted_74 : decode cX11_parted 74 = .ok (.ireturn, 1) := by decide +kernel
theorem dX11_addedUp_0 : decode cX11_addedUp 0 = .ok (.aload_n 0, 1) := by decide +kernel
theorem dX11_addedUp_1 : decode cX11_addedUp 1 = .ok (.getfield 26, 3) := by decide +kernel
theorem dX11_addedUp_4 : decode cX11_addedUp 4 = .ok (.iload_n 1, 1) := by decide +kernel
theorem dX11_addedUp_5 : decode cX11_addedUp 5 = .ok (.invokevirtual 179, 3) := by decide +kernel
theorem dX11_addedUp_8 : decode cX11_addedUp 8 = .ok (.ifCond .eq 21, 3) := by decide +kernel
theorem dX11_addedUp_11 : decode cX11_addedUp 11 = .ok (.iload_n 2, 1) := by decide +kernel
theorem dX11_addedUp_12 : decode cX11_addedUp 12 = .ok (.ifCond .lt 17, 3) := by decide +kernel
theorem dX11_addedUp_15 : decode cX11_addedUp 15 = .ok (.iload_n 2, 1) := by decide +kernel
theorem dX11_addedUp_16 : decode cX11_addedUp 16 = .ok (.sipush 297, 3) := by decide +kernel
theorem dX11_addedUp_19 : decode cX11_addedUp 19 = .ok (.if_icmp .gt 10, 3) := by decide +kernel
theorem dX11_addedUp_22 : decode cX11_addedUp 22 = .ok (.iload_n 3, 1) := by decide +kernel
theorem dX11_addedUp_23 : decode cX11_addedUp 23 = .ok (.invokestatic 216, 3) := by decide +kernel
theorem dX11_addedUp_26 : decode cX11_addedUp 26 = .ok (.ifCond .ne 6, 3) := by decide +kernel
theorem dX11_addedUp_29 : decode cX11_addedUp 29 = .ok (.ldc 61, 2) := by decide +kernel
theorem dX11_addedUp_31 : decode cX11_addedUp 31 = .ok (.ireturn, 1) := by decide +kernel
theorem dX11_addedUp_32 : decode cX11_addedUp 32 = .ok (.aload_n 0, 1) := by decide +kernel
theorem dX11_addedUp_33 : decode cX11_addedUp 33 = .ok (.getfield 36, 3) := by decide +kernel
theorem dX11_addedUp_36 : decode cX11_addedUp 36 = .ok (.aload_n 0, 1) := by decide +kernel
theorem dX11_addedUp_37 : decode cX11_addedUp 37 = .ok (.getfield 26, 3) := by decide +kernel
theorem dX11_addedUp_40 : decode cX11_addedUp 40 = .ok (.iload_n 1, 1) := by decide +kernel
theorem dX11_addedUp_41 : decode cX11_addedUp 41 = .ok (.iload_n 2, 1) := by decide +kernel
theorem dX11_addedUp_42 : decode cX11_addedUp 42 = .ok (.invokevirtual 264, 3) := by decide +kernel
theorem dX11_addedUp_45 : decode cX11_addedUp 45 = .ok (.istore 4, 2) := by decide +kernel
theorem dX11_addedUp_47 : decode cX11_addedUp 47 = .ok (.iload 4, 2) := by decide +kernel
theorem dX11_addedUp_49 : decode cX11_addedUp 49 = .ok (.ldc 231, 2) := by decide +kernel
theorem dX11_addedUp_51 : decode cX11_addedUp 51 = .ok (.if_icmp .eq 8, 3) := by decide +kernel
theorem dX11_addedUp_54 : decode cX11_addedUp 54 = .ok (.iload_n 3, 1) := by decide +kernel
theorem dX11_addedUp_55 : decode cX11_addedUp 55 = .ok (.iconst 1, 1) := by decide +kernel
theorem dX11_addedUp_56 : decode cX11_addedUp 56 = .ok (.if_icmp .ne 8, 3) := by decide +kernel
theorem dX11_addedUp_59 : decode cX11_addedUp 59 = .ok (.iload 4, 2) := by decide +kernel
theorem dX11_addedUp_61 : decode cX11_addedUp 61 = .ok (.goto 8, 3) := by decide +kernel
theorem dX11_addedUp_64 : decode cX11_addedUp 64 = .ok (.iload 4, 2) := by decide +kernel
theorem dX11_addedUp_66 : decode cX11_addedUp 66 = .ok (.invokestatic 223, 3) := by decide +kernel
theorem dX11_addedUp_69 : decode cX11_addedUp 69 = .ok (.ireturn, 1) := by decide +kernel
theorem dX11_felt_0 : decode cX11_felt 0 = .ok (.aload_n 0, 1) := by decide +kernel
theorem dX11_felt_1 : decode cX11_felt 1 = .ok (.getfield 26, 3) := by decide +kernel
theorem dX11_felt_4 : decode cX11_felt 4 = .ok (.getfield 171, 3) := by decide +kernel
theorem dX11_felt_7 : decode cX11_felt 7 = .ok (.ifCond .ne 6, 3) := by decide +kernel
theorem dX11_felt_10 : decode cX11_felt 10 = .ok (.ldc 133, 2) := by decide +kernel
theorem dX11_felt_12 : decode cX11_felt 12 = .ok (.ireturn, 1) := by decide +kernel
theorem dX11_felt_13 : decode cX11_felt 13 = .ok (.iload_n 1, 1) := by decide +kernel
theorem dX11_felt_14 : decode cX11_felt 14 = .ok (.ifCond .lt 27, 3) := by decide +kernel
theorem dX11_felt_17 : decode cX11_felt 17 = .ok (.iload_n 1, 1) := by decide +kernel
theorem dX11_felt_18 : decode cX11_felt 18 = .ok (.iconst 3, 1) := by decide +kernel
theorem dX11_felt_19 : decode cX11_felt 19 = .ok (.if_icmp .ge 22, 3) := by decide +kernel
theorem dX11_felt_22 : decode cX11_felt 22 = .ok (.iload_n 2, 1) := by decide +kernel
theorem dX11_felt_23 : decode cX11_felt 23 = .ok (.iconst 1, 1) := by decide +kernel
theorem dX11_felt_24 : decode cX11_felt 24 = .ok (.if_icmp .lt 17, 3) := by decide +kernel
theorem dX11_felt_27 : decode cX11_felt 27 = .ok (.iload_n 2, 1) := by decide +kernel
theorem dX11_felt_28 : decode cX11_felt 28 = .ok (.sipush 200, 3) := by decide +kernel
theorem dX11_felt_31 : decode cX11_felt 31 = .ok (.if_icmp .gt 10, 3) := by decide +kernel
theorem dX11_felt_34 : decode cX11_felt 34 = .ok (.iload_n 3, 1) := by decide +kernel
theorem dX11_felt_35 : decode cX11_felt 35 = .ok (.invokestatic 216, 3) := by decide +kernel
theorem dX11_felt_38 : decode cX11_felt 38 = .ok (.ifCond .ne 6, 3) := by decide +kernel
theorem dX11_felt_41 : decode cX11_felt 41 = .ok (.ldc 61, 2) := by decide +kernel
theorem dX11_felt_43 : decode cX11_felt 43 = .ok (.ireturn, 1) := by decide +kernel
theorem dX11_felt_44 : decode cX11_felt 44 = .ok (.aload_n 0, 1) := by decide +kernel
theorem dX11_felt_45 : decode cX11_felt 45 = .ok (.getfield 36, 3) := by decide +kernel
theorem dX11_felt_48 : decode cX11_felt 48 = .ok (.aload_n 0, 1) := by decide +kernel
theorem dX11_felt_49 : decode cX11_felt 49 = .ok (.getfield 26, 3) := by decide +kernel
theorem dX11_felt_52 : decode cX11_felt 52 = .ok (.iload_n 1, 1) := by decide +kernel
theorem dX11_felt_53 : decode cX11_felt 53 = .ok (.iload_n 2, 1) := by decide +kernel
theorem dX11_felt_54 : decode cX11_felt 54 = .ok (.invokevirtual 267, 3) := by decide +kernel
theorem dX11_felt_57 : decode cX11_felt 57 = .ok (.istore 4, 2) := by decide +kernel
theorem dX11_felt_59 : decode cX11_felt 59 = .ok (.iload 4, 2) := by decide +kernel
theorem dX11_felt_61 : decode cX11_felt 61 = .ok (.ldc 231, 2) := by decide +kernel
theorem dX11_felt_63 : decode cX11_felt 63 = .ok (.if_icmp .eq 7, 3) := by decide +kernel
theorem dX11_felt_66 : decode cX11_felt 66 = .ok (.iload_n 3, 1) := by decide +kernel
theorem dX11_felt_67 : decode cX11_felt 67 = .ok (.ifCond .ne 8, 3) := by decide +kernel
theorem dX11_felt_70 : decode cX11_felt 70 = .ok (.iload 4, 2) := by decide +kernel
theorem dX11_felt_72 : decode cX11_felt 72 = .ok (.goto 20, 3) := by decide +kernel
theorem dX11_felt_75 : decode cX11_felt 75 = .ok (.iload 4, 2) := by decide +kernel
theorem dX11_felt_77 : decode cX11_felt 77 = .ok (.iload_n 2, 1) := by decide +kernel
theorem dX11_felt_78 : decode cX11_felt 78 = .ok (.imul, 1) := by decide +kernel
theorem dX11_felt_79 : decode cX11_felt 79 = .ok (.aload_n 0, 1) := by decide +kernel
theorem dX11_felt_80 : decode cX11_felt 80 = .ok (.getfield 36, 3) := by decide +kernel
theorem dX11_felt_83 : decode cX11_felt 83 = .ok (.aload_n 0, 1) := by decide +kernel
theorem dX11_felt_84 : decode cX11_felt 84 = .ok (.getfield 26, 3) := by decide +kernel
theorem dX11_felt_87 : decode cX11_felt 87 = .ok (.iload_n 1, 1) := by decide +kernel
theorem dX11_felt_88 : decode cX11_felt 88 = .ok (.invokevirtual 270, 3) := by decide +kernel
theorem dX11_felt_91 : decode cX11_felt 91 = .ok (.isub, 1) := by decide +kernel
theorem dX11_felt_92 : decode cX11_felt 92 = .ok (.ireturn, 1) := by decide +kernel
theorem dX11_twins_0 : decode cX11_twins 0 = .ok (.aload_n 0, 1) := by decide +kernel
theorem dX11_twins_1 : decode cX11_twins 1 = .ok (.getfield 26, 3) := by decide +kernel
theorem dX11_twins_4 : decode cX11_twins 4 = .ok (.getfield 171, 3) := by decide +kernel
theorem dX11_twins_7 : decode cX11_twins 7 = .ok (.ifCond .ne 6, 3) := by decide +kernel
theorem dX11_twins_10 : decode cX11_twins 10 = .ok (.ldc 133, 2) := by decide +kernel
theorem dX11_twins_12 : decode cX11_twins 12 = .ok (.ireturn, 1) := by decide +kernel
theorem dX11_twins_13 : decode cX11_twins 13 = .ok (.iload_n 1, 1) := by decide +kernel
theorem dX11_twins_14 : decode cX11_twins 14 = .ok (.iconst (-1), 1) := by decide +kernel
theorem dX11_twins_15 : decode cX11_twins 15 = .ok (.if_icmp .eq 17, 3) := by decide +kernel
theorem dX11_twins_18 : decode cX11_twins 18 = .ok (.aload_n 0, 1) := by decide +kernel
theorem dX11_twins_19 : decode cX11_twins 19 = .ok (.getfield 26, 3) := by decide +kernel
theorem dX11_twins_22 : decode cX11_twins 22 = .ok (.iload_n 1, 1) := by decide +kernel
theorem dX11_twins_23 : decode cX11_twins 23 = .ok (.invokevirtual 179, 3) := by decide +kernel
theorem dX11_twins_26 : decode cX11_twins 26 = .ok (.ifCond .ne 6, 3) := by decide +kernel
theorem dX11_twins_29 : decode cX11_twins 29 = .ok (.ldc 61, 2) := by decide +kernel
theorem dX11_twins_31 : decode cX11_twins 31 = .ok (.ireturn, 1) := by decide +kernel
theorem dX11_twins_32 : decode cX11_twins 32 = .ok (.aload_n 0, 1) := by decide +kernel
theorem dX11_twins_33 : decode cX11_twins 33 = .ok (.getfield 36, 3) := by decide +kernel
theorem dX11_twins_36 : decode cX11_twins 36 = .ok (.aload_n 0, 1) := by decide +kernel
theorem dX11_twins_37 : decode cX11_twins 37 = .ok (.getfield 26, 3) := by decide +kernel
theorem dX11_twins_40 : decode cX11_twins 40 = .ok (.invokevirtual 274, 3) := by decide +kernel
theorem dX11_twins_43 : decode cX11_twins 43 = .ok (.istore_n 2, 1) := by decide +kernel
theorem dX11_twins_44 : decode cX11_twins 44 = .ok (.iload_n 1, 1) := by decide +kernel
theorem dX11_twins_45 : decode cX11_twins 45 = .ok (.iconst (-1), 1) := by decide +kernel
theorem dX11_twins_46 : decode cX11_twins 46 = .ok (.if_icmp .ne 16, 3) := by decide +kernel
theorem dX11_twins_49 : decode cX11_twins 49 = .ok (.aload_n 0, 1) := by decide +kernel
theorem dX11_twins_50 : decode cX11_twins 50 = .ok (.getfield 36, 3) := by decide +kernel
theorem dX11_twins_53 : decode cX11_twins 53 = .ok (.aload_n 0, 1) := by decide +kernel
theorem dX11_twins_54 : decode cX11_twins 54 = .ok (.getfield 26, 3) := by decide +kernel
theorem dX11_twins_57 : decode cX11_twins 57 = .ok (.iload_n 2, 1) := by decide +kernel
theorem dX11_twins_58 : decode cX11_twins 58 = .ok (.invokevirtual 278, 3) := by decide +kernel
theorem dX11_twins_61 : decode cX11_twins 61 = .ok (.ireturn, 1) := by decide +kernel
theorem dX11_twins_62 : decode cX11_twins 62 = .ok (.aload_n 0, 1) := by decide +kernel
theorem dX11_twins_63 : decode cX11_twins 63 = .ok (.getfield 36, 3) := by decide +kernel
theorem dX11_twins_66 : decode cX11_twins 66 = .ok (.aload_n 0, 1) := by decide +kernel
theorem dX11_twins_67 : decode cX11_twins 67 = .ok (.getfield 26, 3) := by decide +kernel
theorem dX11_twins_70 : decode cX11_twins 70 = .ok (.iload_n 2, 1) := by decide +kernel
theorem dX11_twins_71 : decode cX11_twins 71 = .ok (.iload_n 1, 1) := by decide +kernel
theorem dX11_twins_72 : decode cX11_twins 72 = .ok (.invokevirtual 281, 3) := by decide +kernel
theorem dX11_twins_75 : decode cX11_twins 75 = .ok (.ireturn, 1) := by decide +kernel
theorem dX11_image_0 : decode cX11_image 0 = .ok (.iload_n 1, 1) := by decide +kernel
theorem dX11_image_1 : decode cX11_image 1 = .ok (.invokestatic 250, 3) := by decide +kernel
theorem dX11_image_4 : decode cX11_image 4 = .ok (.ifCond .ne 6, 3) := by decide +kernel
theorem dX11_image_7 : decode cX11_image 7 = .ok (.ldc 61, 2) := by decide +kernel
theorem dX11_image_9 : decode cX11_image 9 = .ok (.ireturn, 1) := by decide +kernel
theorem dX11_image_10 : decode cX11_image 10 = .ok (.aload_n 0, 1) := by decide +kernel
theorem dX11_image_11 : decode cX11_image 11 = .ok (.getfield 26, 3) := by decide +kernel
theorem dX11_image_14 : decode cX11_image 14 = .ok (.getfield 171, 3) := by decide +kernel
theorem dX11_image_17 : decode cX11_image 17 = .ok (.ifCond .ne 6, 3) := by decide +kernel
theorem dX11_image_20 : decode cX11_image 20 = .ok (.ldc 133, 2) := by decide +kernel
theorem dX11_image_22 : decode cX11_image 22 = .ok (.ireturn, 1) := by decide +kernel
theorem dX11_image_23 : decode cX11_image 23 = .ok (.aload_n 0, 1) := by decide +kernel
theorem dX11_image_24 : decode cX11_image 24 = .ok (.getfield 47, 3) := by decide +kernel
theorem dX11_image_27 : decode cX11_image 27 = .ok (.iload_n 1, 1) := by decide +kernel
theorem dX11_image_28 : decode cX11_image 28 = .ok (.aload_n 0, 1) := by decide +kernel
theorem dX11_image_29 : decode cX11_image 29 = .ok (.aload_n 0, 1) := by decide +kernel
theorem dX11_image_30 : decode cX11_image 30 = .ok (.getfield 47, 3) := by decide +kernel
theorem dX11_image_33 : decode cX11_image 33 = .ok (.iload_n 1, 1) := by decide +kernel
theorem dX11_image_34 : decode cX11_image 34 = .ok (.aaload, 1) := by decide +kernel
theorem dX11_image_35 : decode cX11_image 35 = .ok (.invokevirtual 284, 3) := by decide +kernel
theorem dX11_image_38 : decode cX11_image 38 = .ok (.aastore, 1) := by decide +kernel
theorem dX11_image_39 : decode cX11_image 39 = .ok (.iconst 1, 1) := by decide +kernel
theorem dX11_image_40 : decode cX11_image 40 = .ok (.ireturn, 1) := by decide +kernel
theorem dX11_restore_0 : decode cX11_restore 0 = .ok (.iload_n 1, 1) := by decide +kernel
theorem dX11_restore_1 : decode cX11_restore 1 = .ok (.invokestatic 250, 3) := by decide +kernel
theorem dX11_restore_4 : decode cX11_restore 4 = .ok (.ifCond .ne 6, 3) := by decide +kernel
theorem dX11_restore_7 : decode cX11_restore 7 = .ok (.ldc 61, 2) := by decide +kernel
theorem dX11_restore_9 : decode cX11_restore 9 = .ok (.ireturn, 1) := by decide +kernel
theorem dX11_restore_10 : decode cX11_restore 10 = .ok (.aload_n 0, 1) := by decide +kernel
theorem dX11_restore_11 : decode cX11_restore 11 = .ok (.getfield 47, 3) := by decide +kernel
theorem dX11_restore_14 : decode cX11_restore 14 = .ok (.iload_n 1, 1) := by decide +kernel
theorem dX11_restore_15 : decode cX11_restore 15 = .ok (.aaload, 1) := by decide +kernel
theorem dX11_restore_16 : decode cX11_restore 16 = .ok (.astore_n 2, 1) := by decide +kernel
theorem dX11_restore_17 : decode cX11_restore 17 = .ok (.aload_n 2, 1) := by decide +kernel
theorem dX11_restore_18 : decode cX11_restore 18 = .ok (.ifnonnull 6, 3) := by decide +kernel
theorem dX11_restore_21 : decode cX11_restore 21 = .ok (.ldc 133, 2) := by decide +kernel
theorem dX11_restore_23 : decode cX11_restore 23 = .ok (.ireturn, 1) := by decide +kernel
theorem dX11_restore_24 : decode cX11_restore 24 = .ok (.aload_n 0, 1) := by decide +kernel
theorem dX11_restore_25 : decode cX11_restore 25 = .ok (.getfield 26, 3) := by decide +kernel
theorem dX11_restore_28 : decode cX11_restore 28 = .ok (.aload_n 2, 1) := by decide +kernel
theorem dX11_restore_29 : decode cX11_restore 29 = .ok (.invokevirtual 120, 3) := by decide +kernel
theorem dX11_restore_32 : decode cX11_restore 32 = .ok (.aload_n 0, 1) := by decide +kernel
theorem dX11_restore_33 : decode cX11_restore 33 = .ok (.iconst 0, 1) := by decide +kernel
theorem dX11_restore_34 : decode cX11_restore 34 = .ok (.putfield 124, 3) := by decide +kernel
theorem dX11_restore_37 : decode cX11_restore 37 = .ok (.iconst 1, 1) := by decide +kernel
theorem dX11_restore_38 : decode cX11_restore 38 = .ok (.ireturn, 1) := by decide +kernel
theorem dX11_kind_0 : decode cX11_kind 0 = .ok (.aload_n 0, 1) := by decide +kernel
theorem dX11_kind_1 : decode cX11_kind 1 = .ok (.getfield 26, 3) := by decide +kernel
theorem dX11_kind_4 : decode cX11_kind 4 = .ok (.iload_n 1, 1) := by decide +kernel
theorem dX11_kind_5 : decode cX11_kind 5 = .ok (.invokevirtual 134, 3) := by decide +kernel
theorem dX11_kind_8 : decode cX11_kind 8 = .ok (.astore_n 2, 1) := by decide +kernel
theorem dX11_kind_9 : decode cX11_kind 9 = .ok (.aload_n 2, 1) := by decide +kernel
theorem dX11_kind_10 : decode cX11_kind 10 = .ok (.ifnonnull 8, 3) := by decide +kernel
theorem dX11_kind_13 : decode cX11_kind 13 = .ok (.ldc 61, 2) := by decide +kernel
theorem dX11_kind_15 : decode cX11_kind 15 = .ok (.goto 7, 3) := by decide +kernel
theorem dX11_kind_18 : decode cX11_kind 18 = .ok (.aload_n 2, 1) := by decide +kernel
theorem dX11_kind_19 : decode cX11_kind 19 = .ok (.invokevirtual 288, 3) := by decide +kernel
theorem dX11_kind_22 : decode cX11_kind 22 = .ok (.ireturn, 1) := by decide +kernel
theorem dX11_as_0 : decode cX11_as 0 = .ok (.aload_n 0, 1) := by decide +kernel
theorem dX11_as_1 : decode cX11_as 1 = .ok (.getfield 26, 3) := by decide +kernel
theorem dX11_as_4 : decode cX11_as 4 = .ok (.iload_n 1, 1) := by decide +kernel
theorem dX11_as_5 : decode cX11_as 5 = .ok (.invokevirtual 134, 3) := by decide +kernel
theorem dX11_as_8 : decode cX11_as 8 = .ok (.astore_n 3, 1) := by decide +kernel
theorem dX11_as_9 : decode cX11_as 9 = .ok (.aload_n 3, 1) := by decide +kernel
theorem dX11_as_10 : decode cX11_as 10 = .ok (.ifnull 12, 3) := by decide +kernel
theorem dX11_as_13 : decode cX11_as 13 = .ok (.iload_n 2, 1) := by decide +kernel
theorem dX11_as_14 : decode cX11_as 14 = .ok (.ifCond .lt 8, 3) := by decide +kernel
theorem dX11_as_17 : decode cX11_as 17 = .ok (.iload_n 2, 1) := by decide +kernel
theorem dX11_as_18 : decode cX11_as 18 = .ok (.iconst 5, 1) := by decide +kernel
theorem dX11_as_19 : decode cX11_as 19 = .ok (.if_icmp .le 6, 3) := by decide +kernel
theorem dX11_as_22 : decode cX11_as 22 = .ok (.ldc 61, 2) := by decide +kernel
theorem dX11_as_24 : decode cX11_as 24 = .ok (.ireturn, 1) := by decide +kernel
theorem dX11_as_25 : decode cX11_as 25 = .ok (.aload_n 3, 1) := by decide +kernel
theorem dX11_as_26 : decode cX11_as 26 = .ok (.iload_n 2, 1) := by decide +kernel
theorem dX11_as_27 : decode cX11_as 27 = .ok (.invokestatic 291, 3) := by decide +kernel
theorem dX11_as_30 : decode cX11_as 30 = .ok (.ifCond .eq 14, 3) := by decide +kernel
theorem dX11_as_33 : decode cX11_as 33 = .ok (.aload_n 0, 1) := by decide +kernel
theorem dX11_as_34 : decode cX11_as 34 = .ok (.aload_n 3, 1) := by decide +kernel
theorem dX11_as_35 : decode cX11_as 35 = .ok (.getfield 295, 3) := by decide +kernel
theorem dX11_as_38 : decode cX11_as 38 = .ok (.invokevirtual 70, 3) := by decide +kernel
theorem dX11_as_41 : decode cX11_as 41 = .ok (.goto 8, 3) := by decide +kernel
theorem dX11_as_44 : decode cX11_as 44 = .ok (.aload_n 0, 1) := by decide +kernel
theorem dX11_as_45 : decode cX11_as 45 = .ok (.iconst 3, 1) := by decide +kernel
theorem dX11_as_46 : decode cX11_as 46 = .ok (.invokevirtual 62, 3) := by decide +kernel
theorem dX11_as_49 : decode cX11_as 49 = .ok (.ireturn, 1) := by decide +kernel
theorem dX11_ask_0 : decode cX11_ask 0 = .ok (.aload_n 0, 1) := by decide +kernel
theorem dX11_ask_1 : decode cX11_ask 1 = .ok (.getfield 26, 3) := by decide +kernel
theorem dX11_ask_4 : decode cX11_ask 4 = .ok (.iload_n 1, 1) := by decide +kernel
theorem dX11_ask_5 : decode cX11_ask 5 = .ok (.invokevirtual 134, 3) := by decide +kernel
theorem dX11_ask_8 : decode cX11_ask 8 = .ok (.astore_n 3, 1) := by decide +kernel
theorem dX11_ask_9 : decode cX11_ask 9 = .ok (.aload_n 3, 1) := by decide +kernel
theorem dX11_ask_10 : decode cX11_ask 10 = .ok (.ifnull 10, 3) := by decide +kernel
theorem dX11_ask_13 : decode cX11_ask 13 = .ok (.iload_n 2, 1) := by decide +kernel
theorem dX11_ask_14 : decode cX11_ask 14 = .ok (.invokestatic 216, 3) := by decide +kernel
theorem dX11_ask_17 : decode cX11_ask 17 = .ok (.ifCond .ne 6, 3) := by decide +kernel
theorem dX11_ask_20 : decode cX11_ask 20 = .ok (.ldc 61, 2) := by decide +kernel
theorem dX11_ask_22 : decode cX11_ask 22 = .ok (.ireturn, 1) := by decide +kernel
theorem dX11_ask_23 : decode cX11_ask 23 = .ok (.aload_n 0, 1) := by decide +kernel
theorem dX11_ask_24 : decode cX11_ask 24 = .ok (.getfield 43, 3) := by decide +kernel
theorem dX11_ask_27 : decode cX11_ask 27 = .ok (.aload_n 0, 1) := by decide +kernel
theorem dX11_ask_28 : decode cX11_ask 28 = .ok (.getfield 26, 3) := by decide +kernel
theorem dX11_ask_31 : decode cX11_ask 31 = .ok (.iload_n 1, 1) := by decide +kernel
theorem dX11_ask_32 : decode cX11_ask 32 = .ok (.invokevirtual 298, 3) := by decide +kernel
theorem dX11_ask_35 : decode cX11_ask 35 = .ok (.invokevirtual 301, 3) := by decide +kernel
theorem dX11_ask_38 : decode cX11_ask 38 = .ok (.iload_n 2, 1) := by decide +kernel
theorem dX11_ask_39 : decode cX11_ask 39 = .ok (.ifCond .ne 14, 3) := by decide +kernel
theorem dX11_ask_42 : decode cX11_ask 42 = .ok (.aload_n 3, 1) := by decide +kernel
theorem dX11_ask_43 : decode cX11_ask 43 = .ok (.aload_n 0, 1) := by decide +kernel
theorem dX11_ask_44 : decode cX11_ask 44 = .ok (.getfield 43, 3) := by decide +kernel
theorem dX11_ask_47 : decode cX11_ask 47 = .ok (.invokevirtual 304, 3) := by decide +kernel
theorem dX11_ask_50 : decode cX11_ask 50 = .ok (.goto 11, 3) := by decide +kernel
theorem dX11_ask_53 : decode cX11_ask 53 = .ok (.aload_n 3, 1) := by decide +kernel
theorem dX11_ask_54 : decode cX11_ask 54 = .ok (.aload_n 0, 1) := by decide +kernel
theorem dX11_ask_55 : decode cX11_ask 55 = .ok (.getfield 43, 3) := by decide +kernel
theorem dX11_ask_58 : decode cX11_ask 58 = .ok (.invokevirtual 308, 3) := by decide +kernel
theorem dX11_ask_61 : decode cX11_ask 61 = .ok (.ireturn, 1) := by decide +kernel
theorem dX11_trace_0 : decode cX11_trace 0 = .ok (.aload_n 0, 1) := by decide +kernel
theorem dX11_trace_1 : decode cX11_trace 1 = .ok (.getfield 43, 3) := by decide +kernel
theorem dX11_trace_4 : decode cX11_trace 4 = .ok (.iload_n 1, 1) := by decide +kernel
theorem dX11_trace_5 : decode cX11_trace 5 = .ok (.invokevirtual 311, 3) := by decide +kernel
theorem dX11_trace_8 : decode cX11_trace 8 = .ok (.ireturn, 1) := by decide +kernel
theorem dX11_count_0 : decode cX11_count 0 = .ok (.iload_n 1, 1) := by decide +kernel
theorem dX11_count_1 : decode cX11_count 1 = .ok (.tableswitch 96 0 6 #[43, 51, 59, 67, 75, 83, 88], 43) := by decide +kernel
theorem dX11_count_44 : decode cX11_count 44 = .ok (.aload_n 0, 1) := by decide +kernel
theorem dX11_count_45 : decode cX11_count 45 = .ok (.getfield 10, 3) := by decide +kernel
theorem dX11_count_48 : decode cX11_count 48 = .ok (.invokevirtual 314, 3) := by decide +kernel
theorem dX11_count_51 : decode cX11_count 51 = .ok (.ireturn, 1) := by decide +kernel
theorem dX11_count_52 : decode cX11_count 52 = .ok (.aload_n 0, 1) := by decide +kernel
theorem dX11_count_53 : decode cX11_count 53 = .ok (.getfield 26, 3) := by decide +kernel
theorem dX11_count_56 : decode cX11_count 56 = .ok (.getfield 127, 3) := by decide +kernel
theorem dX11_count_59 : decode cX11_count 59 = .ok (.ireturn, 1) := by decide +kernel
theorem dX11_count_60 : decode cX11_count 60 = .ok (.aload_n 0, 1) := by decide +kernel
theorem dX11_count_61 : decode cX11_count 61 = .ok (.getfield 26, 3) := by decide +kernel
theorem dX11_count_64 : decode cX11_count 64 = .ok (.getfield 317, 3) := by decide +kernel
theorem dX11_count_67 : decode cX11_count 67 = .ok (.ireturn, 1) := by decide +kernel
theorem dX11_count_68 : decode cX11_count 68 = .ok (.aload_n 0, 1) := by decide +kernel
theorem dX11_count_69 : decode cX11_count 69 = .ok (.getfield 26, 3) := by decide +kernel
theorem dX11_count_72 : decode cX11_count 72 = .ok (.getfield 194, 3) := by decide +kernel
theorem dX11_count_75 : decode cX11_count 75 = .ok (.ireturn, 1) := by decide +kernel
theorem dX11_count_76 : decode cX11_count 76 = .ok (.aload_n 0, 1) := by decide +kernel
theorem dX11_count_77 : decode cX11_count 77 = .ok (.getfield 26, 3) := by decide +kernel
theorem dX11_count_80 : decode cX11_count 80 = .ok (.invokevirtual 320, 3) := by decide +kernel
theorem dX11_count_83 : decode cX11_count 83 = .ok (.ireturn, 1) := by decide +kernel
theorem dX11_count_84 : decode cX11_count 84 = .ok (.aload_n 0, 1) := by decide +kernel
theorem dX11_count_85 : decode cX11_count 85 = .ok (.getfield 124, 3) := by decide +kernel
theorem dX11_count_88 : decode cX11_count 88 = .ok (.ireturn, 1) := by decide +kernel
theorem dX11_count_89 : decode cX11_count 89 = .ok (.aload_n 0, 1) := by decide +kernel
theorem dX11_count_90 : decode cX11_count 90 = .ok (.getfield 19, 3) := by decide +kernel
theorem dX11_count_93 : decode cX11_count 93 = .ok (.getfield 106, 3) := by decide +kernel
theorem dX11_count_96 : decode cX11_count 96 = .ok (.ireturn, 1) := by decide +kernel
theorem dX11_count_97 : decode cX11_count 97 = .ok (.ldc 61, 2) := by decide +kernel
theorem dX11_count_99 : decode cX11_count 99 = .ok (.ireturn, 1) := by decide +kernel
theorem dX11_status_0 : decode cX11_status 0 = .ok (.aload_n 0, 1) := by decide +kernel
theorem dX11_status_1 : decode cX11_status 1 = .ok (.getfield 323, 3) := by decide +kernel
theorem dX11_status_4 : decode cX11_status 4 = .ok (.ireturn, 1) := by decide +kernel
theorem dX11_found_0 : decode cX11_found 0 = .ok (.aload_n 0, 1) := by decide +kernel
theorem dX11_found_1 : decode cX11_found 1 = .ok (.iload_n 1, 1) := by decide +kernel
theorem dX11_found_2 : decode cX11_found 2 = .ok (.putfield 323, 3) := by decide +kernel
theorem dX11_found_5 : decode cX11_found 5 = .ok (.ldc_w 326, 3) := by decide +kernel
theorem dX11_found_8 : decode cX11_found 8 = .ok (.iload_n 1, 1) := by decide +kernel
theorem dX11_found_9 : decode cX11_found 9 = .ok (.isub, 1) := by decide +kernel
theorem dX11_found_10 : decode cX11_found 10 = .ok (.ireturn, 1) := by decide +kernel
theorem dX11_answered_0 : decode cX11_answered 0 = .ok (.aload_n 0, 1) := by decide +kernel
theorem dX11_answered_1 : decode cX11_answered 1 = .ok (.iconst 0, 1) := by decide +kernel
theorem dX11_answered_2 : decode cX11_answered 2 = .ok (.putfield 323, 3) := by decide +kernel
theorem dX11_answered_5 : decode cX11_answered 5 = .ok (.iload_n 1, 1) := by decide +kernel
theorem dX11_answered_6 : decode cX11_answered 6 = .ok (.ireturn, 1) := by decide +kernel
theorem dX11_keepAct_0 : decode cX11_keepAct 0 = .ok (.aload_n 0, 1) := by decide +kernel
theorem dX11_keepAct_1 : decode cX11_keepAct 1 = .ok (.aload_n 0, 1) := by decide +kernel
theorem dX11_keepAct_2 : decode cX11_keepAct 2 = .ok (.getfield 130, 3) := by decide +kernel
theorem dX11_keepAct_5 : decode cX11_keepAct 5 = .ok (.iconst 1, 1) := by decide +kernel
theorem dX11_keepAct_6 : decode cX11_keepAct 6 = .ok (.iadd, 1) := by decide +kernel
theorem dX11_keepAct_7 : decode cX11_keepAct 7 = .ok (.bipush 24, 2) := by decide +kernel
theorem dX11_keepAct_9 : decode cX11_keepAct 9 = .ok (.irem, 1) := by decide +kernel
theorem dX11_keepAct_10 : decode cX11_keepAct 10 = .ok (.putfield 130, 3) := by decide +kernel
theorem dX11_keepAct_13 : decode cX11_keepAct 13 = .ok (.aload_n 0, 1) := by decide +kernel
theorem dX11_keepAct_14 : decode cX11_keepAct 14 = .ok (.getfield 51, 3) := by decide +kernel
theorem dX11_keepAct_17 : decode cX11_keepAct 17 = .ok (.aload_n 0, 1) := by decide +kernel
theorem dX11_keepAct_18 : decode cX11_keepAct 18 = .ok (.getfield 130, 3) := by decide +kernel
theorem dX11_keepAct_21 : decode cX11_keepAct 21 = .ok (.aload_n 0, 1) := by decide +kernel
theorem dX11_keepAct_22 : decode cX11_keepAct 22 = .ok (.aload_n 0, 1) := by decide +kernel
theorem dX11_keepAct_23 : decode cX11_keepAct 23 = .ok (.getfield 51, 3) := by decide +kernel
theorem dX11_keepAct_26 : decode cX11_keepAct 26 = .ok (.aload_n 0, 1) := by decide +kernel
theorem dX11_keepAct_27 : decode cX11_keepAct 27 = .ok (.getfield 130, 3) := by decide +kernel
theorem dX11_keepAct_30 : decode cX11_keepAct 30 = .ok (.aaload, 1) := by decide +kernel
theorem dX11_keepAct_31 : decode cX11_keepAct 31 = .ok (.invokevirtual 284, 3) := by decide +kernel
theorem dX11_keepAct_34 : decode cX11_keepAct 34 = .ok (.aastore, 1) := by decide +kernel
theorem dX11_keepAct_35 : decode cX11_keepAct 35 = .ok (.aload_n 0, 1) := by decide +kernel
theorem dX11_keepAct_36 : decode cX11_keepAct 36 = .ok (.aload_n 0, 1) := by decide +kernel
theorem dX11_keepAct_37 : decode cX11_keepAct 37 = .ok (.getfield 124, 3) := by decide +kernel
theorem dX11_keepAct_40 : decode cX11_keepAct 40 = .ok (.iconst 1, 1) := by decide +kernel
theorem dX11_keepAct_41 : decode cX11_keepAct 41 = .ok (.iadd, 1) := by decide +kernel
theorem dX11_keepAct_42 : decode cX11_keepAct 42 = .ok (.bipush 24, 2) := by decide +kernel
theorem dX11_keepAct_44 : decode cX11_keepAct 44 = .ok (.invokestatic 182, 3) := by decide +kernel
theorem dX11_keepAct_47 : decode cX11_keepAct 47 = .ok (.putfield 124, 3) := by decide +kernel
theorem dX11_keepAct_50 : decode cX11_keepAct 50 = .ok (.return_, 1) := by decide +kernel
theorem dX11_copyOver_0 : decode cX11_copyOver 0 = .ok (.aload_n 1, 1) := by decide +kernel
theorem dX11_copyOver_1 : decode cX11_copyOver 1 = .ok (.ifnonnull 13, 3) := by decide +kernel
theorem dX11_copyOver_4 : decode cX11_copyOver 4 = .ok (.new 23, 3) := by decide +kernel
theorem dX11_copyOver_7 : decode cX11_copyOver 7 = .ok (.dup, 1) := by decide +kernel
theorem dX11_copyOver_8 : decode cX11_copyOver 8 = .ok (.invokespecial 25, 3) := by decide +kernel
theorem dX11_copyOver_11 : decode cX11_copyOver 11 = .ok (.goto 4, 3) := by decide +kernel
theorem dX11_copyOver_14 : decode cX11_copyOver 14 = .ok (.aload_n 1, 1) := by decide +kernel
theorem dX11_copyOver_15 : decode cX11_copyOver 15 = .ok (.astore_n 2, 1) := by decide +kernel
theorem dX11_copyOver_16 : decode cX11_copyOver 16 = .ok (.aload_n 2, 1) := by decide +kernel
theorem dX11_copyOver_17 : decode cX11_copyOver 17 = .ok (.aload_n 0, 1) := by decide +kernel
theorem dX11_copyOver_18 : decode cX11_copyOver 18 = .ok (.getfield 26, 3) := by decide +kernel
theorem dX11_copyOver_21 : decode cX11_copyOver 21 = .ok (.invokevirtual 120, 3) := by decide +kernel
theorem dX11_copyOver_24 : decode cX11_copyOver 24 = .ok (.aload_n 2, 1) := by decide +kernel
theorem dX11_copyOver_25 : decode cX11_copyOver 25 = .ok (.areturn, 1) := by decide +kernel
theorem dX11_isTold_0 : decode cX11_isTold 0 = .ok (.iload_n 0, 1) := by decide +kernel
theorem dX11_isTold_1 : decode cX11_isTold 1 = .ok (.bipush (-99), 2) := by decide +kernel
theorem dX11_isTold_3 : decode cX11_isTold 3 = .ok (.if_icmp .lt 13, 3) := by decide +kernel
theorem dX11_isTold_6 : decode cX11_isTold 6 = .ok (.iload_n 0, 1) := by decide +kernel
theorem dX11_isTold_7 : decode cX11_isTold 7 = .ok (.bipush 99, 2) := by decide +kernel
theorem dX11_isTold_9 : decode cX11_isTold 9 = .ok (.if_icmp .gt 7, 3) := by decide +kernel
theorem dX11_isTold_12 : decode cX11_isTold 12 = .ok (.iconst 1, 1) := by decide +kernel
theorem dX11_isTold_13 : decode cX11_isTold 13 = .ok (.goto 4, 3) := by decide +kernel
theorem dX11_isTold_16 : decode cX11_isTold 16 = .ok (.iconst 0, 1) := by decide +kernel
theorem dX11_isTold_17 : decode cX11_isTold 17 = .ok (.ireturn, 1) := by decide +kernel
theorem dX11_isFirstOrSecond_0 : decode cX11_isFirstOrSecond 0 = .ok (.iload_n 0, 1) := by decide +kernel
theorem dX11_isFirstOrSecond_1 : decode cX11_isFirstOrSecond 1 = .ok (.ifCond .eq 8, 3) := by decide +kernel
theorem dX11_isFirstOrSecond_4 : decode cX11_isFirstOrSecond 4 = .ok (.iload_n 0, 1) := by decide +kernel
theorem dX11_isFirstOrSecond_5 : decode cX11_isFirstOrSecond 5 = .ok (.iconst 1, 1) := by decide +kernel
theorem dX11_isFirstOrSecond_6 : decode cX11_isFirstOrSecond 6 = .ok (.if_icmp .ne 7, 3) := by decide +kernel
theorem dX11_isFirstOrSecond_9 : decode cX11_isFirstOrSecond 9 = .ok (.iconst 1, 1) := by decide +kernel
theorem dX11_isFirstOrSecond_10 : decode cX11_isFirstOrSecond 10 = .ok (.goto 4, 3) := by decide +kernel
theorem dX11_isFirstOrSecond_13 : decode cX11_isFirstOrSecond 13 = .ok (.iconst 0, 1) := by decide +kernel
theorem dX11_isFirstOrSecond_14 : decode cX11_isFirstOrSecond 14 = .ok (.ireturn, 1) := by decide +kernel
theorem dX11_isImage_0 : decode cX11_isImage 0 = .ok (.iload_n 0, 1) := by decide +kernel
theorem dX11_isImage_1 : decode cX11_isImage 1 = .ok (.ifCond .lt 12, 3) := by decide +kernel
theorem dX11_isImage_4 : decode cX11_isImage 4 = .ok (.iload_n 0, 1) := by decide +kernel
theorem dX11_isImage_5 : decode cX11_isImage 5 = .ok (.iconst 2, 1) := by decide +kernel
theorem dX11_isImage_6 : decode cX11_isImage 6 = .ok (.if_icmp .ge 7, 3) := by decide +kernel
theorem dX11_isImage_9 : decode cX11_isImage 9 = .ok (.iconst 1, 1) := by decide +kernel
theorem dX11_isImage_10 : decode cX11_isImage 10 = .ok (.goto 4, 3) := by decide +kernel
theorem dX11_isImage_13 : decode cX11_isImage 13 = .ok (.iconst 0, 1) := by decide +kernel
theorem dX11_isImage_14 : decode cX11_isImage 14 = .ok (.ireturn, 1) := by decide +kernel
theorem dX11_isOne_0 : decode cX11_isOne 0 = .ok (.iload_n 1, 1) := by decide +kernel
theorem dX11_isOne_1 : decode cX11_isOne 1 = .ok (.tableswitch 60 1 5 #[35, 40, 45, 50, 55], 35) := by decide +kernel
theorem dX11_isOne_36 : decode cX11_isOne 36 = .ok (.aload_n 0, 1) := by decide +kernel
theorem dX11_isOne_37 : decode cX11_isOne 37 = .ok (.instanceof 327, 3) := by decide +kernel
theorem dX11_isOne_40 : decode cX11_isOne 40 = .ok (.ireturn, 1) := by decide +kernel
theorem dX11_isOne_41 : decode cX11_isOne 41 = .ok (.aload_n 0, 1) := by decide +kernel
theorem dX11_isOne_42 : decode cX11_isOne 42 = .ok (.instanceof 329, 3) := by decide +kernel
theorem dX11_isOne_45 : decode cX11_isOne 45 = .ok (.ireturn, 1) := by decide +kernel
theorem dX11_isOne_46 : decode cX11_isOne 46 = .ok (.aload_n 0, 1) := by decide +kernel
theorem dX11_isOne_47 : decode cX11_isOne 47 = .ok (.instanceof 331, 3) := by decide +kernel
theorem dX11_isOne_50 : decode cX11_isOne 50 = .ok (.ireturn, 1) := by decide +kernel
theorem dX11_isOne_51 : decode cX11_isOne 51 = .ok (.aload_n 0, 1) := by decide +kernel
theorem dX11_isOne_52 : decode cX11_isOne 52 = .ok (.instanceof 333, 3) := by decide +kernel
theorem dX11_isOne_55 : decode cX11_isOne 55 = .ok (.ireturn, 1) := by decide +kernel
theorem dX11_isOne_56 : decode cX11_isOne 56 = .ok (.aload_n 0, 1) := by decide +kernel
theorem dX11_isOne_57 : decode cX11_isOne 57 = .ok (.instanceof 335, 3) := by decide +kernel
theorem dX11_isOne_60 : decode cX11_isOne 60 = .ok (.ireturn, 1) := by decide +kernel
theorem dX11_isOne_61 : decode cX11_isOne 61 = .ok (.iconst 1, 1) := by decide +kernel
theorem dX11_isOne_62 : decode cX11_isOne 62 = .ok (.ireturn, 1) := by decide +kernel
theorem dJ6_bitCount_0f7a4_0 : decode cJ6_bitCount_0f7a4 0 = .ok (.iload_n 0, 1) := by decide +kernel
theorem dJ6_bitCount_0f7a4_1 : decode cJ6_bitCount_0f7a4 1 = .ok (.iload_n 0, 1) := by decide +kernel
theorem dJ6_bitCount_0f7a4_2 : decode cJ6_bitCount_0f7a4 2 = .ok (.iconst 1, 1) := by decide +kernel
theorem dJ6_bitCount_0f7a4_3 : decode cJ6_bitCount_0f7a4 3 = .ok (.iushr, 1) := by decide +kernel
theorem dJ6_bitCount_0f7a4_4 : decode cJ6_bitCount_0f7a4 4 = .ok (.ldc_w 265, 3) := by decide +kernel
theorem dJ6_bitCount_0f7a4_7 : decode cJ6_bitCount_0f7a4 7 = .ok (.iand, 1) := by decide +kernel
theorem dJ6_bitCount_0f7a4_8 : decode cJ6_bitCount_0f7a4 8 = .ok (.isub, 1) := by decide +kernel
theorem dJ6_bitCount_0f7a4_9 : decode cJ6_bitCount_0f7a4 9 = .ok (.istore_n 0, 1) := by decide +kernel
theorem dJ6_bitCount_0f7a4_10 : decode cJ6_bitCount_0f7a4 10 = .ok (.iload_n 0, 1) := by decide +kernel
theorem dJ6_bitCount_0f7a4_11 : decode cJ6_bitCount_0f7a4 11 = .ok (.ldc_w 266, 3) := by decide +kernel
theorem dJ6_bitCount_0f7a4_14 : decode cJ6_bitCount_0f7a4 14 = .ok (.iand, 1) := by decide +kernel
theorem dJ6_bitCount_0f7a4_15 : decode cJ6_bitCount_0f7a4 15 = .ok (.iload_n 0, 1) := by decide +kernel
theorem dJ6_bitCount_0f7a4_16 : decode cJ6_bitCount_0f7a4 16 = .ok (.iconst 2, 1) := by decide +kernel
theorem dJ6_bitCount_0f7a4_17 : decode cJ6_bitCount_0f7a4 17 = .ok (.iushr, 1) := by decide +kernel
theorem dJ6_bitCount_0f7a4_18 : decode cJ6_bitCount_0f7a4 18 = .ok (.ldc_w 266, 3) := by decide +kernel
theorem dJ6_bitCount_0f7a4_21 : decode cJ6_bitCount_0f7a4 21 = .ok (.iand, 1) := by decide +kernel
theorem dJ6_bitCount_0f7a4_22 : decode cJ6_bitCount_0f7a4 22 = .ok (.iadd, 1) := by decide +kernel
theorem dJ6_bitCount_0f7a4_23 : decode cJ6_bitCount_0f7a4 23 = .ok (.istore_n 0, 1) := by decide +kernel
theorem dJ6_bitCount_0f7a4_24 : decode cJ6_bitCount_0f7a4 24 = .ok (.iload_n 0, 1) := by decide +kernel
theorem dJ6_bitCount_0f7a4_25 : decode cJ6_bitCount_0f7a4 25 = .ok (.iload_n 0, 1) := by decide +kernel
theorem dJ6_bitCount_0f7a4_26 : decode cJ6_bitCount_0f7a4 26 = .ok (.iconst 4, 1) := by decide +kernel
theorem dJ6_bitCount_0f7a4_27 : decode cJ6_bitCount_0f7a4 27 = .ok (.iushr, 1) := by decide +kernel
theorem dJ6_bitCount_0f7a4_28 : decode cJ6_bitCount_0f7a4 28 = .ok (.iadd, 1) := by decide +kernel
theorem dJ6_bitCount_0f7a4_29 : decode cJ6_bitCount_0f7a4 29 = .ok (.ldc_w 267, 3) := by decide +kernel
theorem dJ6_bitCount_0f7a4_32 : decode cJ6_bitCount_0f7a4 32 = .ok (.iand, 1) := by decide +kernel
theorem dJ6_bitCount_0f7a4_33 : decode cJ6_bitCount_0f7a4 33 = .ok (.istore_n 0, 1) := by decide +kernel
theorem dJ6_bitCount_0f7a4_34 : decode cJ6_bitCount_0f7a4 34 = .ok (.iload_n 0, 1) := by decide +kernel
theorem dJ6_bitCount_0f7a4_35 : decode cJ6_bitCount_0f7a4 35 = .ok (.iload_n 0, 1) := by decide +kernel
theorem dJ6_bitCount_0f7a4_36 : decode cJ6_bitCount_0f7a4 36 = .ok (.bipush 8, 2) := by decide +kernel
theorem dJ6_bitCount_0f7a4_38 : decode cJ6_bitCount_0f7a4 38 = .ok (.iushr, 1) := by decide +kernel
theorem dJ6_bitCount_0f7a4_39 : decode cJ6_bitCount_0f7a4 39 = .ok (.iadd, 1) := by decide +kernel
theorem dJ6_bitCount_0f7a4_40 : decode cJ6_bitCount_0f7a4 40 = .ok (.istore_n 0, 1) := by decide +kernel
theorem dJ6_bitCount_0f7a4_41 : decode cJ6_bitCount_0f7a4 41 = .ok (.iload_n 0, 1) := by decide +kernel
theorem dJ6_bitCount_0f7a4_42 : decode cJ6_bitCount_0f7a4 42 = .ok (.iload_n 0, 1) := by decide +kernel
theorem dJ6_bitCount_0f7a4_43 : decode cJ6_bitCount_0f7a4 43 = .ok (.bipush 16, 2) := by decide +kernel
theorem dJ6_bitCount_0f7a4_45 : decode cJ6_bitCount_0f7a4 45 = .ok (.iushr, 1) := by decide +kernel
theorem dJ6_bitCount_0f7a4_46 : decode cJ6_bitCount_0f7a4 46 = .ok (.iadd, 1) := by decide +kernel
theorem dJ6_bitCount_0f7a4_47 : decode cJ6_bitCount_0f7a4 47 = .ok (.istore_n 0, 1) := by decide +kernel
theorem dJ6_bitCount_0f7a4_48 : decode cJ6_bitCount_0f7a4 48 = .ok (.iload_n 0, 1) := by decide +kernel
theorem dJ6_bitCount_0f7a4_49 : decode cJ6_bitCount_0f7a4 49 = .ok (.bipush 63, 2) := by decide +kernel
theorem dJ6_bitCount_0f7a4_51 : decode cJ6_bitCount_0f7a4 51 = .ok (.iand, 1) := by decide +kernel
theorem dJ6_bitCount_0f7a4_52 : decode cJ6_bitCount_0f7a4 52 = .ok (.ireturn, 1) := by decide +kernel
theorem dJ9_abs_0f7a4_0 : decode cJ9_abs_0f7a4 0 = .ok (.iload_n 0, 1) := by decide +kernel
theorem dJ9_abs_0f7a4_1 : decode cJ9_abs_0f7a4 1 = .ok (.ifCond .ge 8, 3) := by decide +kernel
theorem dJ9_abs_0f7a4_4 : decode cJ9_abs_0f7a4 4 = .ok (.iload_n 0, 1) := by decide +kernel
theorem dJ9_abs_0f7a4_5 : decode cJ9_abs_0f7a4 5 = .ok (.ineg, 1) := by decide +kernel
theorem dJ9_abs_0f7a4_6 : decode cJ9_abs_0f7a4 6 = .ok (.goto 4, 3) := by decide +kernel
theorem dJ9_abs_0f7a4_9 : decode cJ9_abs_0f7a4 9 = .ok (.iload_n 0, 1) := by decide +kernel
theorem dJ9_abs_0f7a4_10 : decode cJ9_abs_0f7a4 10 = .ok (.ireturn, 1) := by decide +kernel
theorem dJ9_max_7cf53_0 : decode cJ9_max_7cf53 0 = .ok (.iload_n 0, 1) := by decide +kernel
theorem dJ9_max_7cf53_1 : decode cJ9_max_7cf53 1 = .ok (.iload_n 1, 1) := by decide +kernel
theorem dJ9_max_7cf53_2 : decode cJ9_max_7cf53 2 = .ok (.if_icmp .lt 7, 3) := by decide +kernel
theorem dJ9_max_7cf53_5 : decode cJ9_max_7cf53 5 = .ok (.iload_n 0, 1) := by decide +kernel
theorem dJ9_max_7cf53_6 : decode cJ9_max_7cf53 6 = .ok (.goto 4, 3) := by decide +kernel
theorem dJ9_max_7cf53_9 : decode cJ9_max_7cf53 9 = .ok (.iload_n 1, 1) := by decide +kernel
theorem dJ9_max_7cf53_10 : decode cJ9_max_7cf53 10 = .ok (.ireturn, 1) := by decide +kernel
theorem dJ9_min_7cf53_0 : decode cJ9_min_7cf53 0 = .ok (.iload_n 0, 1) := by decide +kernel
theorem dJ9_min_7cf53_1 : decode cJ9_min_7cf53 1 = .ok (.iload_n 1, 1) := by decide +kernel
theorem dJ9_min_7cf53_2 : decode cJ9_min_7cf53 2 = .ok (.if_icmp .gt 7, 3) := by decide +kernel
theorem dJ9_min_7cf53_5 : decode cJ9_min_7cf53 5 = .ok (.iload_n 0, 1) := by decide +kernel
theorem dJ9_min_7cf53_6 : decode cJ9_min_7cf53 6 = .ok (.goto 4, 3) := by decide +kernel
theorem dJ9_min_7cf53_9 : decode cJ9_min_7cf53 9 = .ok (.iload_n 1, 1) := by decide +kernel
theorem dJ9_min_7cf53_10 : decode cJ9_min_7cf53 10 = .ok (.ireturn, 1) := by decide +kernel
theorem dJ7_fill_53178_0 : decode cJ7_fill_53178 0 = .ok (.iconst 0, 1) := by decide +kernel
theorem dJ7_fill_53178_1 : decode cJ7_fill_53178 1 = .ok (.istore_n 2, 1) := by decide +kernel
theorem dJ7_fill_53178_2 : decode cJ7_fill_53178 2 = .ok (.aload_n 0, 1) := by decide +kernel
theorem dJ7_fill_53178_3 : decode cJ7_fill_53178 3 = .ok (.arraylength, 1) := by decide +kernel
theorem dJ7_fill_53178_4 : decode cJ7_fill_53178 4 = .ok (.istore_n 3, 1) := by decide +kernel
theorem dJ7_fill_53178_5 : decode cJ7_fill_53178 5 = .ok (.iload_n 2, 1) := by decide +kernel
theorem dJ7_fill_53178_6 : decode cJ7_fill_53178 6 = .ok (.iload_n 3, 1) := by decide +kernel
theorem dJ7_fill_53178_7 : decode cJ7_fill_53178 7 = .ok (.if_icmp .ge 13, 3) := by decide +kernel
theorem dJ7_fill_53178_10 : decode cJ7_fill_53178 10 = .ok (.aload_n 0, 1) := by decide +kernel
theorem dJ7_fill_53178_11 : decode cJ7_fill_53178 11 = .ok (.iload_n 2, 1) := by decide +kernel
theorem dJ7_fill_53178_12 : decode cJ7_fill_53178 12 = .ok (.iload_n 1, 1) := by decide +kernel
theorem dJ7_fill_53178_13 : decode cJ7_fill_53178 13 = .ok (.iastore, 1) := by decide +kernel
theorem dJ7_fill_53178_14 : decode cJ7_fill_53178 14 = .ok (.iinc 2 1, 3) := by decide +kernel
theorem dJ7_fill_53178_17 : decode cJ7_fill_53178 17 = .ok (.goto (-12), 3) := by decide +kernel
theorem dJ7_fill_53178_20 : decode cJ7_fill_53178 20 = .ok (.return_, 1) := by decide +kernel
end
section
theorem dX12_init_0 : decode cX12_init 0 = .ok (.aload_n 0, 1) := by decide +kernel
theorem dX12_init_1 : decode cX12_init 1 = .ok (.invokespecial 1, 3) := by decide +kernel
theorem dX12_init_4 : decode cX12_init 4 = .ok (.aload_n 0, 1) := by decide +kernel
theorem dX12_init_5 : decode cX12_init 5 = .ok (.bipush 8, 2) := by decide +kernel
theorem dX12_init_7 : decode cX12_init 7 = .ok (.newarray .int, 2) := by decide +kernel
theorem dX12_init_9 : decode cX12_init 9 = .ok (.dup, 1) := by decide +kernel
theorem dX12_init_10 : decode cX12_init 10 = .ok (.iconst 0, 1) := by decide +kernel
theorem dX12_init_11 : decode cX12_init 11 = .ok (.iconst (-1), 1) := by decide +kernel
theorem dX12_init_12 : decode cX12_init 12 = .ok (.iastore, 1) := by decide +kernel
theorem dX12_init_13 : decode cX12_init 13 = .ok (.dup, 1) := by decide +kernel
theorem dX12_init_14 : decode cX12_init 14 = .ok (.iconst 1, 1) := by decide +kernel
theorem dX12_init_15 : decode cX12_init 15 = .ok (.iconst (-1), 1) := by decide +kernel
theorem dX12_init_16 : decode cX12_init 16 = .ok (.iastore, 1) := by decide +kernel
theorem dX12_init_17 : decode cX12_init 17 = .ok (.dup, 1) := by decide +kernel
theorem dX12_init_18 : decode cX12_init 18 = .ok (.iconst 2, 1) := by decide +kernel
theorem dX12_init_19 : decode cX12_init 19 = .ok (.iconst (-1), 1) := by decide +kernel
theorem dX12_init_20 : decode cX12_init 20 = .ok (.iastore, 1) := by decide +kernel
theorem dX12_init_21 : decode cX12_init 21 = .ok (.dup, 1) := by decide +kernel
theorem dX12_init_22 : decode cX12_init 22 = .ok (.iconst 3, 1) := by decide +kernel
theorem dX12_init_23 : decode cX12_init 23 = .ok (.iconst (-1), 1) := by decide +kernel
theorem dX12_init_24 : decode cX12_init 24 = .ok (.iastore, 1) := by decide +kernel
theorem dX12_init_25 : decode cX12_init 25 = .ok (.dup, 1) := by decide +kernel
theorem dX12_init_26 : decode cX12_init 26 = .ok (.iconst 4, 1) := by decide +kernel
theorem dX12_init_27 : decode cX12_init 27 = .ok (.iconst (-1), 1) := by decide +kernel
theorem dX12_init_28 : decode cX12_init 28 = .ok (.iastore, 1) := by decide +kernel
theorem dX12_init_29 : decode cX12_init 29 = .ok (.dup, 1) := by decide +kernel
theorem dX12_init_30 : decode cX12_init 30 = .ok (.iconst 5, 1) := by decide +kernel
theorem dX12_init_31 : decode cX12_init 31 = .ok (.iconst (-1), 1) := by decide +kernel
theorem dX12_init_32 : decode cX12_init 32 = .ok (.iastore, 1) := by decide +kernel
theorem dX12_init_33 : decode cX12_init 33 = .ok (.dup, 1) := by decide +kernel
theorem dX12_init_34 : decode cX12_init 34 = .ok (.bipush 6, 2) := by decide +kernel
theorem dX12_init_36 : decode cX12_init 36 = .ok (.iconst (-1), 1) := by decide +kernel
theorem dX12_init_37 : decode cX12_init 37 = .ok (.iastore, 1) := by decide +kernel
theorem dX12_init_38 : decode cX12_init 38 = .ok (.dup, 1) := by decide +kernel
theorem dX12_init_39 : decode cX12_init 39 = .ok (.bipush 7, 2) := by decide +kernel
theorem dX12_init_41 : decode cX12_init 41 = .ok (.iconst (-1), 1) := by decide +kernel
theorem dX12_init_42 : decode cX12_init 42 = .ok (.iastore, 1) := by decide +kernel
theorem dX12_init_43 : decode cX12_init 43 = .ok (.putfield 7, 3) := by decide +kernel
theorem dX12_init_46 : decode cX12_init 46 = .ok (.aload_n 0, 1) := by decide +kernel
theorem dX12_init_47 : decode cX12_init 47 = .ok (.bipush 8, 2) := by decide +kernel
theorem dX12_init_49 : decode cX12_init 49 = .ok (.newarray .int, 2) := by decide +kernel
theorem dX12_init_51 : decode cX12_init 51 = .ok (.putfield 13, 3) := by decide +kernel
theorem dX12_init_54 : decode cX12_init 54 = .ok (.aload_n 0, 1) := by decide +kernel
theorem dX12_init_55 : decode cX12_init 55 = .ok (.sipush 320, 3) := by decide +kernel
theorem dX12_init_58 : decode cX12_init 58 = .ok (.newarray .int, 2) := by decide +kernel
theorem dX12_init_60 : decode cX12_init 60 = .ok (.putfield 16, 3) := by decide +kernel
theorem dX12_init_63 : decode cX12_init 63 = .ok (.aload_n 0, 1) := by decide +kernel
theorem dX12_init_64 : decode cX12_init 64 = .ok (.sipush 147, 3) := by decide +kernel
theorem dX12_init_67 : decode cX12_init 67 = .ok (.newarray .int, 2) := by decide +kernel
theorem dX12_init_69 : decode cX12_init 69 = .ok (.putfield 19, 3) := by decide +kernel
theorem dX12_init_72 : decode cX12_init 72 = .ok (.aload_n 0, 1) := by decide +kernel
theorem dX12_init_73 : decode cX12_init 73 = .ok (.sipush 147, 3) := by decide +kernel
theorem dX12_init_76 : decode cX12_init 76 = .ok (.newarray .int, 2) := by decide +kernel
theorem dX12_init_78 : decode cX12_init 78 = .ok (.putfield 22, 3) := by decide +kernel
theorem dX12_init_81 : decode cX12_init 81 = .ok (.aload_n 0, 1) := by decide +kernel
theorem dX12_init_82 : decode cX12_init 82 = .ok (.sipush 3528, 3) := by decide +kernel
theorem dX12_init_85 : decode cX12_init 85 = .ok (.newarray .int, 2) := by decide +kernel
theorem dX12_init_87 : decode cX12_init 87 = .ok (.putfield 25, 3) := by decide +kernel
theorem dX12_init_90 : decode cX12_init 90 = .ok (.aload_n 0, 1) := by decide +kernel
theorem dX12_init_91 : decode cX12_init 91 = .ok (.sipush 140, 3) := by decide +kernel
theorem dX12_init_94 : decode cX12_init 94 = .ok (.newarray .int, 2) := by decide +kernel
theorem dX12_init_96 : decode cX12_init 96 = .ok (.putfield 28, 3) := by decide +kernel
theorem dX12_init_99 : decode cX12_init 99 = .ok (.aload_n 0, 1) := by decide +kernel
theorem dX12_init_100 : decode cX12_init 100 = .ok (.bipush 12, 2) := by decide +kernel
theorem dX12_init_102 : decode cX12_init 102 = .ok (.newarray .int, 2) := by decide +kernel
theorem dX12_init_104 : decode cX12_init 104 = .ok (.putfield 31, 3) := by decide +kernel
theorem dX12_init_107 : decode cX12_init 107 = .ok (.aload_n 0, 1) := by decide +kernel
theorem dX12_init_108 : decode cX12_init 108 = .ok (.iconst 2, 1) := by decide +kernel
theorem dX12_init_109 : decode cX12_init 109 = .ok (.newarray .boolean, 2) := by decide +kernel
theorem dX12_init_111 : decode cX12_init 111 = .ok (.putfield 34, 3) := by decide +kernel
theorem dX12_init_114 : decode cX12_init 114 = .ok (.aload_n 0, 1) := by decide +kernel
theorem dX12_init_115 : decode cX12_init 115 = .ok (.sipush 294, 3) := by decide +kernel
theorem dX12_init_118 : decode cX12_init 118 = .ok (.newarray .int, 2) := by decide +kernel
theorem dX12_init_120 : decode cX12_init 120 = .ok (.putfield 38, 3) := by decide +kernel
theorem dX12_init_123 : decode cX12_init 123 = .ok (.aload_n 0, 1) := by decide +kernel
theorem dX12_init_124 : decode cX12_init 124 = .ok (.iconst 4, 1) := by decide +kernel
theorem dX12_init_125 : decode cX12_init 125 = .ok (.newarray .int, 2) := by decide +kernel
theorem dX12_init_127 : decode cX12_init 127 = .ok (.putfield 41, 3) := by decide +kernel
theorem dX12_init_130 : decode cX12_init 130 = .ok (.aload_n 0, 1) := by decide +kernel
theorem dX12_init_131 : decode cX12_init 131 = .ok (.iconst 4, 1) := by decide +kernel
theorem dX12_init_132 : decode cX12_init 132 = .ok (.newarray .int, 2) := by decide +kernel
theorem dX12_init_134 : decode cX12_init 134 = .ok (.putfield 44, 3) := by decide +kernel
theorem dX12_init_137 : decode cX12_init 137 = .ok (.aload_n 0, 1) := by decide +kernel
theorem dX12_init_138 : decode cX12_init 138 = .ok (.iconst 4, 1) := by decide +kernel
theorem dX12_init_139 : decode cX12_init 139 = .ok (.newarray .int, 2) := by decide +kernel
theorem dX12_init_141 : decode cX12_init 141 = .ok (.putfield 47, 3) := by decide +kernel
theorem dX12_init_144 : decode cX12_init 144 = .ok (.aload_n 0, 1) := by decide +kernel
theorem dX12_init_145 : decode cX12_init 145 = .ok (.bipush 16, 2) := by decide +kernel
theorem dX12_init_147 : decode cX12_init 147 = .ok (.newarray .int, 2) := by decide +kernel
theorem dX12_init_149 : decode cX12_init 149 = .ok (.putfield 50, 3) := by decide +kernel
theorem dX12_init_152 : decode cX12_init 152 = .ok (.return_, 1) := by decide +kernel
theorem dX12_in_0 : decode cX12_in 0 = .ok (.lload_n 0, 1) := by decide +kernel
theorem dX12_in_1 : decode cX12_in 1 = .ok (.lload_n 2, 1) := by decide +kernel
theorem dX12_in_2 : decode cX12_in 2 = .ok (.lcmp, 1) := by decide +kernel
theorem dX12_in_3 : decode cX12_in 3 = .ok (.ifCond .lt 14, 3) := by decide +kernel
theorem dX12_in_6 : decode cX12_in 6 = .ok (.lload_n 0, 1) := by decide +kernel
theorem dX12_in_7 : decode cX12_in 7 = .ok (.lload 4, 2) := by decide +kernel
theorem dX12_in_9 : decode cX12_in 9 = .ok (.lcmp, 1) := by decide +kernel
theorem dX12_in_10 : decode cX12_in 10 = .ok (.ifCond .gt 7, 3) := by decide +kernel
theorem dX12_in_13 : decode cX12_in 13 = .ok (.iconst 1, 1) := by decide +kernel
theorem dX12_in_14 : decode cX12_in 14 = .ok (.goto 4, 3) := by decide +kernel
theorem dX12_in_17 : decode cX12_in 17 = .ok (.iconst 0, 1) := by decide +kernel
theorem dX12_in_18 : decode cX12_in 18 = .ok (.ireturn, 1) := by decide +kernel
theorem dX12_finding_0 : decode cX12_finding 0 = .ok (.aload_n 0, 1) := by decide +kernel
theorem dX12_finding_1 : decode cX12_finding 1 = .ok (.iload_n 1, 1) := by decide +kernel
theorem dX12_finding_2 : decode cX12_finding 2 = .ok (.putfield 57, 3) := by decide +kernel
theorem dX12_finding_5 : decode cX12_finding 5 = .ok (.ldc 60, 2) := by decide +kernel
theorem dX12_finding_7 : decode cX12_finding 7 = .ok (.iload_n 1, 1) := by decide +kernel
theorem dX12_finding_8 : decode cX12_finding 8 = .ok (.isub, 1) := by decide +kernel
theorem dX12_finding_9 : decode cX12_finding 9 = .ok (.ireturn, 1) := by decide +kernel
theorem dX12_isRow_0 : decode cX12_isRow 0 = .ok (.iload_n 0, 1) := by decide +kernel
theorem dX12_isRow_1 : decode cX12_isRow 1 = .ok (.i2l, 1) := by decide +kernel
theorem dX12_isRow_2 : decode cX12_isRow 2 = .ok (.lconst 0, 1) := by decide +kernel
theorem dX12_isRow_3 : decode cX12_isRow 3 = .ok (.ldc2_w 61, 3) := by decide +kernel
theorem dX12_isRow_6 : decode cX12_isRow 6 = .ok (.invokestatic 63, 3) := by decide +kernel
theorem dX12_isRow_9 : decode cX12_isRow 9 = .ok (.ireturn, 1) := by decide +kernel
theorem dX12_row_0 : decode cX12_row 0 = .ok (.aload_n 0, 1) := by decide +kernel
theorem dX12_row_1 : decode cX12_row 1 = .ok (.iconst 0, 1) := by decide +kernel
theorem dX12_row_2 : decode cX12_row 2 = .ok (.putfield 53, 3) := by decide +kernel
theorem dX12_row_5 : decode cX12_row 5 = .ok (.iload_n 1, 1) := by decide +kernel
theorem dX12_row_6 : decode cX12_row 6 = .ok (.invokestatic 67, 3) := by decide +kernel
theorem dX12_row_9 : decode cX12_row 9 = .ok (.ifCond .eq 21, 3) := by decide +kernel
theorem dX12_row_12 : decode cX12_row 12 = .ok (.iload_n 2, 1) := by decide +kernel
theorem dX12_row_13 : decode cX12_row 13 = .ok (.i2l, 1) := by decide +kernel
theorem dX12_row_14 : decode cX12_row 14 = .ok (.lconst 0, 1) := by decide +kernel
theorem dX12_row_15 : decode cX12_row 15 = .ok (.ldc2_w 71, 3) := by decide +kernel
theorem dX12_row_18 : decode cX12_row 18 = .ok (.invokestatic 63, 3) := by decide +kernel
theorem dX12_row_21 : decode cX12_row 21 = .ok (.ifCond .eq 9, 3) := by decide +kernel
theorem dX12_row_24 : decode cX12_row 24 = .ok (.iload_n 3, 1) := by decide +kernel
theorem dX12_row_25 : decode cX12_row 25 = .ok (.bipush 40, 2) := by decide +kernel
theorem dX12_row_27 : decode cX12_row 27 = .ok (.if_icmp .le 6, 3) := by decide +kernel
theorem dX12_row_30 : decode cX12_row 30 = .ok (.ldc 73, 2) := by decide +kernel
theorem dX12_row_32 : decode cX12_row 32 = .ok (.ireturn, 1) := by decide +kernel
theorem dX12_row_33 : decode cX12_row 33 = .ok (.aload_n 0, 1) := by decide +kernel
theorem dX12_row_34 : decode cX12_row 34 = .ok (.iconst 0, 1) := by decide +kernel
theorem dX12_row_35 : decode cX12_row 35 = .ok (.putfield 57, 3) := by decide +kernel
theorem dX12_row_38 : decode cX12_row 38 = .ok (.iload_n 3, 1) := by decide +kernel
theorem dX12_row_39 : decode cX12_row 39 = .ok (.ifCond .ge 9, 3) := by decide +kernel
theorem dX12_row_42 : decode cX12_row 42 = .ok (.aload_n 0, 1) := by decide +kernel
theorem dX12_row_43 : decode cX12_row 43 = .ok (.iconst 4, 1) := by decide +kernel
theorem dX12_row_44 : decode cX12_row 44 = .ok (.invokevirtual 74, 3) := by decide +kernel
theorem dX12_row_47 : decode cX12_row 47 = .ok (.ireturn, 1) := by decide +kernel
theorem dX12_row_48 : decode cX12_row 48 = .ok (.aload_n 0, 1) := by decide +kernel
theorem dX12_row_49 : decode cX12_row 49 = .ok (.getfield 7, 3) := by decide +kernel
theorem dX12_row_52 : decode cX12_row 52 = .ok (.iload_n 1, 1) := by decide +kernel
theorem dX12_row_53 : decode cX12_row 53 = .ok (.iload_n 2, 1) := by decide +kernel
theorem dX12_row_54 : decode cX12_row 54 = .ok (.iastore, 1) := by decide +kernel
theorem dX12_row_55 : decode cX12_row 55 = .ok (.aload_n 0, 1) := by decide +kernel
theorem dX12_row_56 : decode cX12_row 56 = .ok (.getfield 13, 3) := by decide +kernel
theorem dX12_row_59 : decode cX12_row 59 = .ok (.iload_n 1, 1) := by decide +kernel
theorem dX12_row_60 : decode cX12_row 60 = .ok (.iload_n 3, 1) := by decide +kernel
theorem dX12_row_61 : decode cX12_row 61 = .ok (.iastore, 1) := by decide +kernel
theorem dX12_row_62 : decode cX12_row 62 = .ok (.iconst 0, 1) := by decide +kernel
theorem dX12_row_63 : decode cX12_row 63 = .ok (.istore 4, 2) := by decide +kernel
theorem dX12_row_65 : decode cX12_row 65 = .ok (.iload 4, 2) := by decide +kernel
theorem dX12_row_67 : decode cX12_row 67 = .ok (.bipush 40, 2) := by decide +kernel
theorem dX12_row_69 : decode cX12_row 69 = .ok (.if_icmp .ge 22, 3) := by decide +kernel
theorem dX12_row_72 : decode cX12_row 72 = .ok (.aload_n 0, 1) := by decide +kernel
theorem dX12_row_73 : decode cX12_row 73 = .ok (.getfield 16, 3) := by decide +kernel
theorem dX12_row_76 : decode cX12_row 76 = .ok (.bipush 40, 2) := by decide +kernel
theorem dX12_row_78 : decode cX12_row 78 = .ok (.iload_n 1, 1) := by decide +kernel
theorem dX12_row_79 : decode cX12_row 79 = .ok (.imul, 1) := by decide +kernel
theorem dX12_row_80 : decode cX12_row 80 = .ok (.iload 4, 2) := by decide +kernel
theorem dX12_row_82 : decode cX12_row 82 = .ok (.iadd, 1) := by decide +kernel
theorem dX12_row_83 : decode cX12_row 83 = .ok (.iconst 0, 1) := by decide +kernel
theorem dX12_row_84 : decode cX12_row 84 = .ok (.iastore, 1) := by decide +kernel
theorem dX12_row_85 : decode cX12_row 85 = .ok (.iinc 4 1, 3) := by decide +kernel
theorem dX12_row_88 : decode cX12_row 88 = .ok (.goto (-23), 3) := by decide +kernel
theorem dX12_row_91 : decode cX12_row 91 = .ok (.iload_n 3, 1) := by decide +kernel
theorem dX12_row_92 : decode cX12_row 92 = .ok (.ireturn, 1) := by decide +kernel
theorem dX12_set_0 : decode cX12_set 0 = .ok (.aload_n 0, 1) := by decide +kernel
theorem dX12_set_1 : decode cX12_set 1 = .ok (.iconst 0, 1) := by decide +kernel
theorem dX12_set_2 : decode cX12_set 2 = .ok (.putfield 53, 3) := by decide +kernel
theorem dX12_set_5 : decode cX12_set 5 = .ok (.iload_n 1, 1) := by decide +kernel
theorem dX12_set_6 : decode cX12_set 6 = .ok (.invokestatic 67, 3) := by decide +kernel
theorem dX12_set_9 : decode cX12_set 9 = .ok (.ifCond .ne 6, 3) := by decide +kernel
theorem dX12_set_12 : decode cX12_set 12 = .ok (.ldc 73, 2) := by decide +kernel
theorem dX12_set_14 : decode cX12_set 14 = .ok (.ireturn, 1) := by decide +kernel
theorem dX12_set_15 : decode cX12_set 15 = .ok (.aload_n 0, 1) := by decide +kernel
theorem dX12_set_16 : decode cX12_set 16 = .ok (.iconst 0, 1) := by decide +kernel
theorem dX12_set_17 : decode cX12_set 17 = .ok (.putfield 57, 3) := by decide +kernel
theorem dX12_set_20 : decode cX12_set 20 = .ok (.aload_n 0, 1) := by decide +kernel
theorem dX12_set_21 : decode cX12_set 21 = .ok (.getfield 7, 3) := by decide +kernel
theorem dX12_set_24 : decode cX12_set 24 = .ok (.iload_n 1, 1) := by decide +kernel
theorem dX12_set_25 : decode cX12_set 25 = .ok (.iaload, 1) := by decide +kernel
theorem dX12_set_26 : decode cX12_set 26 = .ok (.ifCond .ge 9, 3) := by decide +kernel
theorem dX12_set_29 : decode cX12_set 29 = .ok (.aload_n 0, 1) := by decide +kernel
theorem dX12_set_30 : decode cX12_set 30 = .ok (.iconst 1, 1) := by decide +kernel
theorem dX12_set_31 : decode cX12_set 31 = .ok (.invokevirtual 74, 3) := by decide +kernel
theorem dX12_set_34 : decode cX12_set 34 = .ok (.ireturn, 1) := by decide +kernel
theorem dX12_set_35 : decode cX12_set 35 = .ok (.iload_n 2, 1) := by decide +kernel
theorem dX12_set_36 : decode cX12_set 36 = .ok (.i2l, 1) := by decide +kernel
theorem dX12_set_37 : decode cX12_set 37 = .ok (.lconst 0, 1) := by decide +kernel
theorem dX12_set_38 : decode cX12_set 38 = .ok (.aload_n 0, 1) := by decide +kernel
theorem dX12_set_39 : decode cX12_set 39 = .ok (.getfield 13, 3) := by decide +kernel
theorem dX12_set_42 : decode cX12_set 42 = .ok (.iload_n 1, 1) := by decide +kernel
theorem dX12_set_43 : decode cX12_set 43 = .ok (.iaload, 1) := by decide +kernel
theorem dX12_set_44 : decode cX12_set 44 = .ok (.iconst 1, 1) := by decide +kernel
theorem dX12_set_45 : decode cX12_set 45 = .ok (.isub, 1) := by decide +kernel
theorem dX12_set_46 : decode cX12_set 46 = .ok (.i2l, 1) := by decide +kernel
theorem dX12_set_47 : decode cX12_set 47 = .ok (.invokestatic 63, 3) := by decide +kernel
theorem dX12_set_50 : decode cX12_set 50 = .ok (.ifCond .ne 9, 3) := by decide +kernel
theorem dX12_set_53 : decode cX12_set 53 = .ok (.aload_n 0, 1) := by decide +kernel
theorem dX12_set_54 : decode cX12_set 54 = .ok (.iconst 2, 1) := by decide +kernel
theorem dX12_set_55 : decode cX12_set 55 = .ok (.invokevirtual 74, 3) := by decide +kernel
theorem dX12_set_58 : decode cX12_set 58 = .ok (.ireturn, 1) := by decide +kernel
theorem dX12_set_59 : decode cX12_set 59 = .ok (.aload_n 0, 1) := by decide +kernel
theorem dX12_set_60 : decode cX12_set 60 = .ok (.getfield 16, 3) := by decide +kernel
theorem dX12_set_63 : decode cX12_set 63 = .ok (.bipush 40, 2) := by decide +kernel
theorem dX12_set_65 : decode cX12_set 65 = .ok (.iload_n 1, 1) := by decide +kernel
theorem dX12_set_66 : decode cX12_set 66 = .ok (.imul, 1) := by decide +kernel
theorem dX12_set_67 : decode cX12_set 67 = .ok (.iload_n 2, 1) := by decide +kernel
theorem dX12_set_68 : decode cX12_set 68 = .ok (.iadd, 1) := by decide +kernel
theorem dX12_set_69 : decode cX12_set 69 = .ok (.aload_n 0, 1) := by decide +kernel
theorem dX12_set_70 : decode cX12_set 70 = .ok (.getfield 7, 3) := by decide +kernel
theorem dX12_set_73 : decode cX12_set 73 = .ok (.iload_n 1, 1) := by decide +kernel
theorem dX12_set_74 : decode cX12_set 74 = .ok (.iaload, 1) := by decide +kernel
theorem dX12_set_75 : decode cX12_set 75 = .ok (.ifCond .ne 8, 3) := by decide +kernel
theorem dX12_set_78 : decode cX12_set 78 = .ok (.iload_n 3, 1) := by decide +kernel
theorem dX12_set_79 : decode cX12_set 79 = .ok (.i2b, 1) := by decide +kernel
theorem dX12_set_80 : decode cX12_set 80 = .ok (.goto 19, 3) := by decide +kernel
theorem dX12_set_83 : decode cX12_set 83 = .ok (.aload_n 0, 1) := by decide +kernel
theorem dX12_set_84 : decode cX12_set 84 = .ok (.getfield 7, 3) := by decide +kernel
theorem dX12_set_87 : decode cX12_set 87 = .ok (.iload_n 1, 1) := by decide +kernel
theorem dX12_set_88 : decode cX12_set 88 = .ok (.iaload, 1) := by decide +kernel
theorem dX12_set_89 : decode cX12_set 89 = .ok (.iconst 1, 1) := by decide +kernel
theorem dX12_set_90 : decode cX12_set 90 = .ok (.if_icmp .ne 8, 3) := by decide +kernel
theorem dX12_set_93 : decode cX12_set 93 = .ok (.iload_n 3, 1) := by decide +kernel
theorem dX12_set_94 : decode cX12_set 94 = .ok (.i2s, 1) := by decide +kernel
theorem dX12_set_95 : decode cX12_set 95 = .ok (.goto 4, 3) := by decide +kernel
theorem dX12_set_98 : decode cX12_set 98 = .ok (.iload_n 3, 1) := by decide +kernel
theorem dX12_set_99 : decode cX12_set 99 = .ok (.iastore, 1) := by decide +kernel
theorem dX12_set_100 : decode cX12_set 100 = .ok (.aload_n 0, 1) := by decide +kernel
theorem dX12_set_101 : decode cX12_set 101 = .ok (.getfield 16, 3) := by decide +kernel
theorem dX12_set_104 : decode cX12_set 104 = .ok (.bipush 40, 2) := by decide +kernel
theorem dX12_set_106 : decode cX12_set 106 = .ok (.iload_n 1, 1) := by decide +kernel
theorem dX12_set_107 : decode cX12_set 107 = .ok (.imul, 1) := by decide +kernel
theorem dX12_set_108 : decode cX12_set 108 = .ok (.iload_n 2, 1) := by decide +kernel
theorem dX12_set_109 : decode cX12_set 109 = .ok (.iadd, 1) := by decide +kernel
theorem dX12_set_110 : decode cX12_set 110 = .ok (.iaload, 1) := by decide +kernel
theorem dX12_set_111 : decode cX12_set 111 = .ok (.ireturn, 1) := by decide +kernel
theorem dX12_copy_0 : decode cX12_copy 0 = .ok (.aload_n 0, 1) := by decide +kernel
theorem dX12_copy_1 : decode cX12_copy 1 = .ok (.iconst 0, 1) := by decide +kernel
theorem dX12_copy_2 : decode cX12_copy 2 = .ok (.putfield 53, 3) := by decide +kernel
theorem dX12_copy_5 : decode cX12_copy 5 = .ok (.iload_n 1, 1) := by decide +kernel
theorem dX12_copy_6 : decode cX12_copy 6 = .ok (.invokestatic 67, 3) := by decide +kernel
theorem dX12_copy_9 : decode cX12_copy 9 = .ok (.ifCond .eq 10, 3) := by decide +kernel
theorem dX12_copy_12 : decode cX12_copy 12 = .ok (.iload_n 3, 1) := by decide +kernel
theorem dX12_copy_13 : decode cX12_copy 13 = .ok (.invokestatic 67, 3) := by decide +kernel
theorem dX12_copy_16 : decode cX12_copy 16 = .ok (.ifCond .ne 6, 3) := by decide +kernel
theorem dX12_copy_19 : decode cX12_copy 19 = .ok (.ldc 73, 2) := by decide +kernel
theorem dX12_copy_21 : decode cX12_copy 21 = .ok (.ireturn, 1) := by decide +kernel
theorem dX12_copy_22 : decode cX12_copy 22 = .ok (.aload_n 0, 1) := by decide +kernel
theorem dX12_copy_23 : decode cX12_copy 23 = .ok (.iconst 0, 1) := by decide +kernel
theorem dX12_copy_24 : decode cX12_copy 24 = .ok (.putfield 57, 3) := by decide +kernel
theorem dX12_copy_27 : decode cX12_copy 27 = .ok (.aload_n 0, 1) := by decide +kernel
theorem dX12_copy_28 : decode cX12_copy 28 = .ok (.getfield 7, 3) := by decide +kernel
theorem dX12_copy_31 : decode cX12_copy 31 = .ok (.iload_n 1, 1) := by decide +kernel
theorem dX12_copy_32 : decode cX12_copy 32 = .ok (.iaload, 1) := by decide +kernel
theorem dX12_copy_33 : decode cX12_copy 33 = .ok (.ifCond .lt 12, 3) := by decide +kernel
theorem dX12_copy_36 : decode cX12_copy 36 = .ok (.aload_n 0, 1) := by decide +kernel
theorem dX12_copy_37 : decode cX12_copy 37 = .ok (.getfield 7, 3) := by decide +kernel
theorem dX12_copy_40 : decode cX12_copy 40 = .ok (.iload_n 3, 1) := by decide +kernel
theorem dX12_copy_41 : decode cX12_copy 41 = .ok (.iaload, 1) := by decide +kernel
theorem dX12_copy_42 : decode cX12_copy 42 = .ok (.ifCond .ge 9, 3) := by decide +kernel
theorem dX12_copy_45 : decode cX12_copy 45 = .ok (.aload_n 0, 1) := by decide +kernel
theorem dX12_copy_46 : decode cX12_copy 46 = .ok (.iconst 1, 1) := by decide +kernel
theorem dX12_copy_47 : decode cX12_copy 47 = .ok (.invokevirtual 74, 3) := by decide +kernel
theorem dX12_copy_50 : decode cX12_copy 50 = .ok (.ireturn, 1) := by decide +kernel
theorem dX12_copy_51 : decode cX12_copy 51 = .ok (.aload_n 0, 1) := by decide +kernel
theorem dX12_copy_52 : decode cX12_copy 52 = .ok (.getfield 7, 3) := by decide +kernel
theorem dX12_copy_55 : decode cX12_copy 55 = .ok (.iload_n 1, 1) := by decide +kernel
theorem dX12_copy_56 : decode cX12_copy 56 = .ok (.iaload, 1) := by decide +kernel
theorem dX12_copy_57 : decode cX12_copy 57 = .ok (.aload_n 0, 1) := by decide +kernel
theorem dX12_copy_58 : decode cX12_copy 58 = .ok (.getfield 7, 3) := by decide +kernel
theorem dX12_copy_61 : decode cX12_copy 61 = .ok (.iload_n 3, 1) := by decide +kernel
theorem dX12_copy_62 : decode cX12_copy 62 = .ok (.iaload, 1) := by decide +kernel
theorem dX12_copy_63 : decode cX12_copy 63 = .ok (.if_icmp .eq 9, 3) := by decide +kernel
theorem dX12_copy_66 : decode cX12_copy 66 = .ok (.aload_n 0, 1) := by decide +kernel
theorem dX12_copy_67 : decode cX12_copy 67 = .ok (.iconst 5, 1) := by decide +kernel
theorem dX12_copy_68 : decode cX12_copy 68 = .ok (.invokevirtual 74, 3) := by decide +kernel
theorem dX12_copy_71 : decode cX12_copy 71 = .ok (.ireturn, 1) := by decide +kernel
theorem dX12_copy_72 : decode cX12_copy 72 = .ok (.iload_n 2, 1) := by decide +kernel
theorem dX12_copy_73 : decode cX12_copy 73 = .ok (.ifCond .lt 48, 3) := by decide +kernel
theorem dX12_copy_76 : decode cX12_copy 76 = .ok (.iload 4, 2) := by decide +kernel
theorem dX12_copy_78 : decode cX12_copy 78 = .ok (.ifCond .lt 43, 3) := by decide +kernel
theorem dX12_copy_81 : decode cX12_copy 81 = .ok (.iload 5, 2) := by decide +kernel
theorem dX12_copy_83 : decode cX12_copy 83 = .ok (.ifCond .lt 38, 3) := by decide +kernel
theorem dX12_copy_86 : decode cX12_copy 86 = .ok (.iload_n 2, 1) := by decide +kernel
theorem dX12_copy_87 : decode cX12_copy 87 = .ok (.i2l, 1) := by decide +kernel
theorem dX12_copy_88 : decode cX12_copy 88 = .ok (.iload 5, 2) := by decide +kernel
theorem dX12_copy_90 : decode cX12_copy 90 = .ok (.i2l, 1) := by decide +kernel
theorem dX12_copy_91 : decode cX12_copy 91 = .ok (.ladd, 1) := by decide +kernel
theorem dX12_copy_92 : decode cX12_copy 92 = .ok (.aload_n 0, 1) := by decide +kernel
theorem dX12_copy_93 : decode cX12_copy 93 = .ok (.getfield 13, 3) := by decide +kernel
theorem dX12_copy_96 : decode cX12_copy 96 = .ok (.iload_n 1, 1) := by decide +kernel
theorem dX12_copy_97 : decode cX12_copy 97 = .ok (.iaload, 1) := by decide +kernel
theorem dX12_copy_98 : decode cX12_copy 98 = .ok (.i2l, 1) := by decide +kernel
theorem dX12_copy_99 : decode cX12_copy 99 = .ok (.lcmp, 1) := by decide +kernel
theorem dX12_copy_100 : decode cX12_copy 100 = .ok (.ifCond .gt 21, 3) := by decide +kernel
theorem dX12_copy_103 : decode cX12_copy 103 = .ok (.iload 4, 2) := by decide +kernel
theorem dX12_copy_105 : decode cX12_copy 105 = .ok (.i2l, 1) := by decide +kernel
theorem dX12_copy_106 : decode cX12_copy 106 = .ok (.iload 5, 2) := by decide +kernel
theorem dX12_copy_108 : decode cX12_copy 108 = .ok (.i2l, 1) := by decide +kernel
theorem dX12_copy_109 : decode cX12_copy 109 = .ok (.ladd, 1) := by decide +kernel
theorem dX12_copy_110 : decode cX12_copy 110 = .ok (.aload_n 0, 1) := by decide +kernel
theorem dX12_copy_111 : decode cX12_copy 111 = .ok (.getfield 13, 3) := by decide +kernel
theorem dX12_copy_114 : decode cX12_copy 114 = .ok (.iload_n 3, 1) := by decide +kernel
theorem dX12_copy_115 : decode cX12_copy 115 = .ok (.iaload, 1) := by decide +kernel
theorem dX12_copy_116 : decode cX12_copy 116 = .ok (.i2l, 1) := by decide +kernel
theorem dX12_copy_117 : decode cX12_copy 117 = .ok (.lcmp, 1) := by decide +kernel
theorem dX12_copy_118 : decode cX12_copy 118 = .ok (.ifCond .le 9, 3) := by decide +kernel
theorem dX12_copy_121 : decode cX12_copy 121 = .ok (.aload_n 0, 1) := by decide +kernel
theorem dX12_copy_122 : decode cX12_copy 122 = .ok (.iconst 2, 1) := by decide +kernel
theorem dX12_copy_123 : decode cX12_copy 123 = .ok (.invokevirtual 74, 3) := by decide +kernel
theorem dX12_copy_126 : decode cX12_copy 126 = .ok (.ireturn, 1) := by decide +kernel
theorem dX12_copy_127 : decode cX12_copy 127 = .ok (.iload_n 2, 1) := by decide +kernel
theorem dX12_copy_128 : decode cX12_copy 128 = .ok (.iload 4, 2) := by decide +kernel
theorem dX12_copy_130 : decode cX12_copy 130 = .ok (.if_icmp .lt 7, 3) := by decide +kernel
theorem dX12_copy_133 : decode cX12_copy 133 = .ok (.iconst 1, 1) := by decide +kernel
theorem dX12_copy_134 : decode cX12_copy 134 = .ok (.goto 4, 3) := by decide +kernel
theorem dX12_copy_137 : decode cX12_copy 137 = .ok (.iconst 0, 1) := by decide +kernel
theorem dX12_copy_138 : decode cX12_copy 138 = .ok (.istore 6, 2) := by decide +kernel
theorem dX12_copy_140 : decode cX12_copy 140 = .ok (.iconst 0, 1) := by decide +kernel
theorem dX12_copy_141 : decode cX12_copy 141 = .ok (.istore 7, 2) := by decide +kernel
theorem dX12_copy_143 : decode cX12_copy 143 = .ok (.iload 7, 2) := by decide +kernel
theorem dX12_copy_145 : decode cX12_copy 145 = .ok (.iload 5, 2) := by decide +kernel
theorem dX12_copy_147 : decode cX12_copy 147 = .ok (.if_icmp .ge 57, 3) := by decide +kernel
theorem dX12_copy_150 : decode cX12_copy 150 = .ok (.iload 6, 2) := by decide +kernel
theorem dX12_copy_152 : decode cX12_copy 152 = .ok (.ifCond .eq 8, 3) := by decide +kernel
theorem dX12_copy_155 : decode cX12_copy 155 = .ok (.iload 7, 2) := by decide +kernel
theorem dX12_copy_157 : decode cX12_copy 157 = .ok (.goto 10, 3) := by decide +kernel
theorem dX12_copy_160 : decode cX12_copy 160 = .ok (.iload 5, 2) := by decide +kernel
theorem dX12_copy_162 : decode cX12_copy 162 = .ok (.iconst 1, 1) := by decide +kernel
theorem dX12_copy_163 : decode cX12_copy 163 = .ok (.isub, 1) := by decide +kernel
theorem dX12_copy_164 : decode cX12_copy 164 = .ok (.iload 7, 2) := by decide +kernel
theorem dX12_copy_166 : decode cX12_copy 166 = .ok (.isub, 1) := by decide +kernel
theorem dX12_copy_167 : decode cX12_copy 167 = .ok (.istore 8, 2) := by decide +kernel
theorem dX12_copy_169 : decode cX12_copy 169 = .ok (.aload_n 0, 1) := by decide +kernel
theorem dX12_copy_170 : decode cX12_copy 170 = .ok (.getfield 16, 3) := by decide +kernel
theorem dX12_copy_173 : decode cX12_copy 173 = .ok (.bipush 40, 2) := by decide +kernel
theorem dX12_copy_175 : decode cX12_copy 175 = .ok (.iload_n 3, 1) := by decide +kernel
theorem dX12_copy_176 : decode cX12_copy 176 = .ok (.imul, 1) := by decide +kernel
theorem dX12_copy_177 : decode cX12_copy 177 = .ok (.iload 4, 2) := by decide +kernel
theorem dX12_copy_179 : decode cX12_copy 179 = .ok (.iadd, 1) := by decide +kernel
theorem dX12_copy_180 : decode cX12_copy 180 = .ok (.iload 8, 2) := by decide +kernel
theorem dX12_copy_182 : decode cX12_copy 182 = .ok (.iadd, 1) := by decide +kernel
theorem dX12_copy_183 : decode cX12_copy 183 = .ok (.aload_n 0, 1) := by decide +kernel
theorem dX12_copy_184 : decode cX12_copy 184 = .ok (.getfield 16, 3) := by decide +kernel
theorem dX12_copy_187 : decode cX12_copy 187 = .ok (.bipush 40, 2) := by decide +kernel
theorem dX12_copy_189 : decode cX12_copy 189 = .ok (.iload_n 1, 1) := by decide +kernel
theorem dX12_copy_190 : decode cX12_copy 190 = .ok (.imul, 1) := by decide +kernel
theorem dX12_copy_191 : decode cX12_copy 191 = .ok (.iload_n 2, 1) := by decide +kernel
theorem dX12_copy_192 : decode cX12_copy 192 = .ok (.iadd, 1) := by decide +kernel
theorem dX12_copy_193 : decode cX12_copy 193 = .ok (.iload 8, 2) := by decide +kernel
theorem dX12_copy_195 : decode cX12_copy 195 = .ok (.iadd, 1) := by decide +kernel
theorem dX12_copy_196 : decode cX12_copy 196 = .ok (.iaload, 1) := by decide +kernel
theorem dX12_copy_197 : decode cX12_copy 197 = .ok (.iastore, 1) := by decide +kernel
theorem dX12_copy_198 : decode cX12_copy 198 = .ok (.iinc 7 1, 3) := by decide +kernel
theorem dX12_copy_201 : decode cX12_copy 201 = .ok (.goto (-58), 3) := by decide +kernel
theorem dX12_copy_204 : decode cX12_copy 204 = .ok (.iload 5, 2) := by decide +kernel
theorem dX12_copy_206 : decode cX12_copy 206 = .ok (.ireturn, 1) := by decide +kernel
theorem dX12_drop_0 : decode cX12_drop 0 = .ok (.aload_n 0, 1) := by decide +kernel
theorem dX12_drop_1 : decode cX12_drop 1 = .ok (.iconst 0, 1) := by decide +kernel
theorem dX12_drop_2 : decode cX12_drop 2 = .ok (.putfield 53, 3) := by decide +kernel
theorem dX12_drop_5 : decode cX12_drop 5 = .ok (.iload_n 1, 1) := by decide +kernel
theorem dX12_drop_6 : decode cX12_drop 6 = .ok (.invokestatic 67, 3) := by decide +kernel
theorem dX12_drop_9 : decode cX12_drop 9 = .ok (.ifCond .ne 6, 3) := by decide +kernel
theorem dX12_drop_12 : decode cX12_drop 12 = .ok (.ldc 73, 2) := by decide +kernel
theorem dX12_drop_14 : decode cX12_drop 14 = .ok (.ireturn, 1) := by decide +kernel
theorem dX12_drop_15 : decode cX12_drop 15 = .ok (.aload_n 0, 1) := by decide +kernel
theorem dX12_drop_16 : decode cX12_drop 16 = .ok (.iconst 0, 1) := by decide +kernel
theorem dX12_drop_17 : decode cX12_drop 17 = .ok (.putfield 57, 3) := by decide +kernel
theorem dX12_drop_20 : decode cX12_drop 20 = .ok (.aload_n 0, 1) := by decide +kernel
theorem dX12_drop_21 : decode cX12_drop 21 = .ok (.getfield 7, 3) := by decide +kernel
theorem dX12_drop_24 : decode cX12_drop 24 = .ok (.iload_n 1, 1) := by decide +kernel
theorem dX12_drop_25 : decode cX12_drop 25 = .ok (.iaload, 1) := by decide +kernel
theorem dX12_drop_26 : decode cX12_drop 26 = .ok (.ifCond .ge 9, 3) := by decide +kernel
theorem dX12_drop_29 : decode cX12_drop 29 = .ok (.aload_n 0, 1) := by decide +kernel
theorem dX12_drop_30 : decode cX12_drop 30 = .ok (.iconst 1, 1) := by decide +kernel
theorem dX12_drop_31 : decode cX12_drop 31 = .ok (.invokevirtual 74, 3) := by decide +kernel
theorem dX12_drop_34 : decode cX12_drop 34 = .ok (.ireturn, 1) := by decide +kernel
theorem dX12_drop_35 : decode cX12_drop 35 = .ok (.aload_n 0, 1) := by decide +kernel
theorem dX12_drop_36 : decode cX12_drop 36 = .ok (.getfield 7, 3) := by decide +kernel
theorem dX12_drop_39 : decode cX12_drop 39 = .ok (.iload_n 1, 1) := by decide +kernel
theorem dX12_drop_40 : decode cX12_drop 40 = .ok (.iconst (-1), 1) := by decide +kernel
theorem dX12_drop_41 : decode cX12_drop 41 = .ok (.iastore, 1) := by decide +kernel
theorem dX12_drop_42 : decode cX12_drop 42 = .ok (.aload_n 0, 1) := by decide +kernel
theorem dX12_drop_43 : decode cX12_drop 43 = .ok (.getfield 13, 3) := by decide +kernel
theorem dX12_drop_46 : decode cX12_drop 46 = .ok (.iload_n 1, 1) := by decide +kernel
theorem dX12_drop_47 : decode cX12_drop 47 = .ok (.iaload, 1) := by decide +kernel
theorem dX12_drop_48 : decode cX12_drop 48 = .ok (.ireturn, 1) := by decide +kernel
theorem dX12_feed_0 : decode cX12_feed 0 = .ok (.aload_n 0, 1) := by decide +kernel
theorem dX12_feed_1 : decode cX12_feed 1 = .ok (.iconst 0, 1) := by decide +kernel
theorem dX12_feed_2 : decode cX12_feed 2 = .ok (.putfield 53, 3) := by decide +kernel
theorem dX12_feed_5 : decode cX12_feed 5 = .ok (.iload_n 1, 1) := by decide +kernel
theorem dX12_feed_6 : decode cX12_feed 6 = .ok (.i2l, 1) := by decide +kernel
theorem dX12_feed_7 : decode cX12_feed 7 = .ok (.lconst 0, 1) := by decide +kernel
theorem dX12_feed_8 : decode cX12_feed 8 = .ok (.ldc2_w 78, 3) := by decide +kernel
theorem dX12_feed_11 : decode cX12_feed 11 = .ok (.invokestatic 63, 3) := by decide +kernel
theorem dX12_feed_14 : decode cX12_feed 14 = .ok (.ifCond .ne 6, 3) := by decide +kernel
theorem dX12_feed_17 : decode cX12_feed 17 = .ok (.ldc 73, 2) := by decide +kernel
theorem dX12_feed_19 : decode cX12_feed 19 = .ok (.ireturn, 1) := by decide +kernel
theorem dX12_feed_20 : decode cX12_feed 20 = .ok (.aload_n 0, 1) := by decide +kernel
theorem dX12_feed_21 : decode cX12_feed 21 = .ok (.getfield 80, 3) := by decide +kernel
theorem dX12_feed_24 : decode cX12_feed 24 = .ok (.sipush 140, 3) := by decide +kernel
theorem dX12_feed_27 : decode cX12_feed 27 = .ok (.if_icmp .ne 6, 3) := by decide +kernel
theorem dX12_feed_30 : decode cX12_feed 30 = .ok (.ldc 83, 2) := by decide +kernel
theorem dX12_feed_32 : decode cX12_feed 32 = .ok (.ireturn, 1) := by decide +kernel
theorem dX12_feed_33 : decode cX12_feed 33 = .ok (.aload_n 0, 1) := by decide +kernel
theorem dX12_feed_34 : decode cX12_feed 34 = .ok (.getfield 28, 3) := by decide +kernel
theorem dX12_feed_37 : decode cX12_feed 37 = .ok (.aload_n 0, 1) := by decide +kernel
theorem dX12_feed_38 : decode cX12_feed 38 = .ok (.getfield 80, 3) := by decide +kernel
theorem dX12_feed_41 : decode cX12_feed 41 = .ok (.iload_n 1, 1) := by decide +kernel
theorem dX12_feed_42 : decode cX12_feed 42 = .ok (.iastore, 1) := by decide +kernel
theorem dX12_feed_43 : decode cX12_feed 43 = .ok (.aload_n 0, 1) := by decide +kernel
theorem dX12_feed_44 : decode cX12_feed 44 = .ok (.dup, 1) := by decide +kernel
theorem dX12_feed_45 : decode cX12_feed 45 = .ok (.getfield 80, 3) := by decide +kernel
theorem dX12_feed_48 : decode cX12_feed 48 = .ok (.iconst 1, 1) := by decide +kernel
theorem dX12_feed_49 : decode cX12_feed 49 = .ok (.iadd, 1) := by decide +kernel
theorem dX12_feed_50 : decode cX12_feed 50 = .ok (.putfield 80, 3) := by decide +kernel
theorem dX12_feed_53 : decode cX12_feed 53 = .ok (.aload_n 0, 1) := by decide +kernel
theorem dX12_feed_54 : decode cX12_feed 54 = .ok (.getfield 80, 3) := by decide +kernel
theorem dX12_feed_57 : decode cX12_feed 57 = .ok (.ireturn, 1) := by decide +kernel
theorem dX12_bad_0 : decode cX12_bad 0 = .ok (.aload_n 0, 1) := by decide +kernel
theorem dX12_bad_1 : decode cX12_bad 1 = .ok (.getfield 84, 3) := by decide +kernel
theorem dX12_bad_4 : decode cX12_bad 4 = .ok (.ifCond .ne 16, 3) := by decide +kernel
theorem dX12_bad_7 : decode cX12_bad 7 = .ok (.aload_n 0, 1) := by decide +kernel
theorem dX12_bad_8 : decode cX12_bad 8 = .ok (.iload_n 1, 1) := by decide +kernel
theorem dX12_bad_9 : decode cX12_bad 9 = .ok (.putfield 84, 3) := by decide +kernel
theorem dX12_bad_12 : decode cX12_bad 12 = .ok (.aload_n 0, 1) := by decide +kernel
theorem dX12_bad_13 : decode cX12_bad 13 = .ok (.aload_n 0, 1) := by decide +kernel
theorem dX12_bad_14 : decode cX12_bad 14 = .ok (.getfield 87, 3) := by decide +kernel
theorem dX12_bad_17 : decode cX12_bad 17 = .ok (.putfield 90, 3) := by decide +kernel
theorem dX12_bad_20 : decode cX12_bad 20 = .ok (.return_, 1) := by decide +kernel
theorem dX12_nextToken_0 : decode cX12_nextToken 0 = .ok (.aload_n 0, 1) := by decide +kernel
theorem dX12_nextToken_1 : decode cX12_nextToken 1 = .ok (.aload_n 0, 1) := by decide +kernel
theorem dX12_nextToken_2 : decode cX12_nextToken 2 = .ok (.getfield 93, 3) := by decide +kernel
theorem dX12_nextToken_5 : decode cX12_nextToken 5 = .ok (.putfield 87, 3) := by decide +kernel
theorem dX12_nextToken_8 : decode cX12_nextToken 8 = .ok (.aload_n 0, 1) := by decide +kernel
theorem dX12_nextToken_9 : decode cX12_nextToken 9 = .ok (.aload_n 0, 1) := by decide +kernel
theorem dX12_nextToken_10 : decode cX12_nextToken 10 = .ok (.getfield 93, 3) := by decide +kernel
theorem dX12_nextToken_13 : decode cX12_nextToken 13 = .ok (.aload_n 0, 1) := by decide +kernel
theorem dX12_nextToken_14 : decode cX12_nextToken 14 = .ok (.getfield 80, 3) := by decide +kernel
theorem dX12_nextToken_17 : decode cX12_nextToken 17 = .ok (.if_icmp .ge 15, 3) := by decide +kernel
theorem dX12_nextToken_20 : decode cX12_nextToken 20 = .ok (.aload_n 0, 1) := by decide +kernel
theorem dX12_nextToken_21 : decode cX12_nextToken 21 = .ok (.getfield 28, 3) := by decide +kernel
theorem dX12_nextToken_24 : decode cX12_nextToken 24 = .ok (.aload_n 0, 1) := by decide +kernel
theorem dX12_nextToken_25 : decode cX12_nextToken 25 = .ok (.getfield 93, 3) := by decide +kernel
theorem dX12_nextToken_28 : decode cX12_nextToken 28 = .ok (.iaload, 1) := by decide +kernel
theorem dX12_nextToken_29 : decode cX12_nextToken 29 = .ok (.goto 5, 3) := by decide +kernel
theorem dX12_nextToken_32 : decode cX12_nextToken 32 = .ok (.ldc 96, 2) := by decide +kernel
theorem dX12_nextToken_34 : decode cX12_nextToken 34 = .ok (.putfield 97, 3) := by decide +kernel
theorem dX12_nextToken_37 : decode cX12_nextToken 37 = .ok (.aload_n 0, 1) := by decide +kernel
theorem dX12_nextToken_38 : decode cX12_nextToken 38 = .ok (.aload_n 0, 1) := by decide +kernel
theorem dX12_nextToken_39 : decode cX12_nextToken 39 = .ok (.getfield 93, 3) := by decide +kernel
theorem dX12_nextToken_42 : decode cX12_nextToken 42 = .ok (.aload_n 0, 1) := by decide +kernel
theorem dX12_nextToken_43 : decode cX12_nextToken 43 = .ok (.getfield 80, 3) := by decide +kernel
theorem dX12_nextToken_46 : decode cX12_nextToken 46 = .ok (.if_icmp .ne 7, 3) := by decide +kernel
theorem dX12_nextToken_49 : decode cX12_nextToken 49 = .ok (.iconst 1, 1) := by decide +kernel
theorem dX12_nextToken_50 : decode cX12_nextToken 50 = .ok (.goto 68, 3) := by decide +kernel
theorem dX12_nextToken_53 : decode cX12_nextToken 53 = .ok (.aload_n 0, 1) := by decide +kernel
theorem dX12_nextToken_54 : decode cX12_nextToken 54 = .ok (.getfield 97, 3) := by decide +kernel
theorem dX12_nextToken_57 : decode cX12_nextToken 57 = .ok (.i2l, 1) := by decide +kernel
theorem dX12_nextToken_58 : decode cX12_nextToken 58 = .ok (.ldc2_w 100, 3) := by decide +kernel
theorem dX12_nextToken_61 : decode cX12_nextToken 61 = .ok (.ldc2_w 102, 3) := by decide +kernel
theorem dX12_nextToken_64 : decode cX12_nextToken 64 = .ok (.invokestatic 63, 3) := by decide +kernel
theorem dX12_nextToken_67 : decode cX12_nextToken 67 = .ok (.ifCond .eq 7, 3) := by decide +kernel
theorem dX12_nextToken_70 : decode cX12_nextToken 70 = .ok (.iconst 2, 1) := by decide +kernel
theorem dX12_nextToken_71 : decode cX12_nextToken 71 = .ok (.goto 47, 3) := by decide +kernel
theorem dX12_nextToken_74 : decode cX12_nextToken 74 = .ok (.aload_n 0, 1) := by decide +kernel
theorem dX12_nextToken_75 : decode cX12_nextToken 75 = .ok (.getfield 97, 3) := by decide +kernel
theorem dX12_nextToken_78 : decode cX12_nextToken 78 = .ok (.i2l, 1) := by decide +kernel
theorem dX12_nextToken_79 : decode cX12_nextToken 79 = .ok (.ldc2_w 104, 3) := by decide +kernel
theorem dX12_nextToken_82 : decode cX12_nextToken 82 = .ok (.ldc2_w 106, 3) := by decide +kernel
theorem dX12_nextToken_85 : decode cX12_nextToken 85 = .ok (.invokestatic 63, 3) := by decide +kernel
theorem dX12_nextToken_88 : decode cX12_nextToken 88 = .ok (.ifCond .eq 7, 3) := by decide +kernel
theorem dX12_nextToken_91 : decode cX12_nextToken 91 = .ok (.iconst 3, 1) := by decide +kernel
theorem dX12_nextToken_92 : decode cX12_nextToken 92 = .ok (.goto 26, 3) := by decide +kernel
theorem dX12_nextToken_95 : decode cX12_nextToken 95 = .ok (.aload_n 0, 1) := by decide +kernel
theorem dX12_nextToken_96 : decode cX12_nextToken 96 = .ok (.getfield 97, 3) := by decide +kernel
theorem dX12_nextToken_99 : decode cX12_nextToken 99 = .ok (.bipush 44, 2) := by decide +kernel
theorem dX12_nextToken_101 : decode cX12_nextToken 101 = .ok (.if_icmp .eq 12, 3) := by decide +kernel
theorem dX12_nextToken_104 : decode cX12_nextToken 104 = .ok (.aload_n 0, 1) := by decide +kernel
theorem dX12_nextToken_105 : decode cX12_nextToken 105 = .ok (.getfield 97, 3) := by decide +kernel
theorem dX12_nextToken_108 : decode cX12_nextToken 108 = .ok (.bipush 59, 2) := by decide +kernel
theorem dX12_nextToken_110 : decode cX12_nextToken 110 = .ok (.if_icmp .ne 7, 3) := by decide +kernel
theorem dX12_nextToken_113 : decode cX12_nextToken 113 = .ok (.iconst 4, 1) := by decide +kernel
theorem dX12_nextToken_114 : decode cX12_nextToken 114 = .ok (.goto 4, 3) := by decide +kernel
theorem dX12_nextToken_117 : decode cX12_nextToken 117 = .ok (.iconst 0, 1) := by decide +kernel
theorem dX12_nextToken_118 : decode cX12_nextToken 118 = .ok (.putfield 108, 3) := by decide +kernel
theorem dX12_nextToken_121 : decode cX12_nextToken 121 = .ok (.aload_n 0, 1) := by decide +kernel
theorem dX12_nextToken_122 : decode cX12_nextToken 122 = .ok (.dup, 1) := by decide +kernel
theorem dX12_nextToken_123 : decode cX12_nextToken 123 = .ok (.getfield 93, 3) := by decide +kernel
theorem dX12_nextToken_126 : decode cX12_nextToken 126 = .ok (.aload_n 0, 1) := by decide +kernel
theorem dX12_nextToken_127 : decode cX12_nextToken 127 = .ok (.getfield 93, 3) := by decide +kernel
theorem dX12_nextToken_130 : decode cX12_nextToken 130 = .ok (.aload_n 0, 1) := by decide +kernel
theorem dX12_nextToken_131 : decode cX12_nextToken 131 = .ok (.getfield 80, 3) := by decide +kernel
theorem dX12_nextToken_134 : decode cX12_nextToken 134 = .ok (.if_icmp .ge 7, 3) := by decide +kernel
theorem dX12_nextToken_137 : decode cX12_nextToken 137 = .ok (.iconst 1, 1) := by decide +kernel
theorem dX12_nextToken_138 : decode cX12_nextToken 138 = .ok (.goto 4, 3) := by decide +kernel
theorem dX12_nextToken_141 : decode cX12_nextToken 141 = .ok (.iconst 0, 1) := by decide +kernel
theorem dX12_nextToken_142 : decode cX12_nextToken 142 = .ok (.iadd, 1) := by decide +kernel
theorem dX12_nextToken_143 : decode cX12_nextToken 143 = .ok (.putfield 93, 3) := by decide +kernel
theorem dX12_nextToken_146 : decode cX12_nextToken 146 = .ok (.aload_n 0, 1) := by decide +kernel
theorem dX12_nextToken_147 : decode cX12_nextToken 147 = .ok (.getfield 108, 3) := by decide +kernel
theorem dX12_nextToken_150 : decode cX12_nextToken 150 = .ok (.iconst 3, 1) := by decide +kernel
theorem dX12_nextToken_151 : decode cX12_nextToken 151 = .ok (.if_icmp .ne 126, 3) := by decide +kernel
theorem dX12_nextToken_154 : decode cX12_nextToken 154 = .ok (.aload_n 0, 1) := by decide +kernel
theorem dX12_nextToken_155 : decode cX12_nextToken 155 = .ok (.dup, 1) := by decide +kernel
theorem dX12_nextToken_156 : decode cX12_nextToken 156 = .ok (.getfield 97, 3) := by decide +kernel
theorem dX12_nextToken_159 : decode cX12_nextToken 159 = .ok (.bipush 48, 2) := by decide +kernel
theorem dX12_nextToken_161 : decode cX12_nextToken 161 = .ok (.isub, 1) := by decide +kernel
theorem dX12_nextToken_162 : decode cX12_nextToken 162 = .ok (.putfield 97, 3) := by decide +kernel
theorem dX12_nextToken_165 : decode cX12_nextToken 165 = .ok (.aload_n 0, 1) := by decide +kernel
theorem dX12_nextToken_166 : decode cX12_nextToken 166 = .ok (.getfield 93, 3) := by decide +kernel
theorem dX12_nextToken_169 : decode cX12_nextToken 169 = .ok (.aload_n 0, 1) := by decide +kernel
theorem dX12_nextToken_170 : decode cX12_nextToken 170 = .ok (.getfield 80, 3) := by decide +kernel
theorem dX12_nextToken_173 : decode cX12_nextToken 173 = .ok (.if_icmp .ge 82, 3) := by decide +kernel
theorem dX12_nextToken_176 : decode cX12_nextToken 176 = .ok (.aload_n 0, 1) := by decide +kernel
theorem dX12_nextToken_177 : decode cX12_nextToken 177 = .ok (.getfield 28, 3) := by decide +kernel
theorem dX12_nextToken_180 : decode cX12_nextToken 180 = .ok (.aload_n 0, 1) := by decide +kernel
theorem dX12_nextToken_181 : decode cX12_nextToken 181 = .ok (.getfield 93, 3) := by decide +kernel
theorem dX12_nextToken_184 : decode cX12_nextToken 184 = .ok (.iaload, 1) := by decide +kernel
theorem dX12_nextToken_185 : decode cX12_nextToken 185 = .ok (.i2l, 1) := by decide +kernel
theorem dX12_nextToken_186 : decode cX12_nextToken 186 = .ok (.ldc2_w 104, 3) := by decide +kernel
theorem dX12_nextToken_189 : decode cX12_nextToken 189 = .ok (.ldc2_w 106, 3) := by decide +kernel
theorem dX12_nextToken_192 : decode cX12_nextToken 192 = .ok (.invokestatic 63, 3) := by decide +kernel
theorem dX12_nextToken_195 : decode cX12_nextToken 195 = .ok (.ifCond .eq 60, 3) := by decide +kernel
theorem dX12_nextToken_198 : decode cX12_nextToken 198 = .ok (.aload_n 0, 1) := by decide +kernel
theorem dX12_nextToken_199 : decode cX12_nextToken 199 = .ok (.aload_n 0, 1) := by decide +kernel
theorem dX12_nextToken_200 : decode cX12_nextToken 200 = .ok (.getfield 93, 3) := by decide +kernel
theorem dX12_nextToken_203 : decode cX12_nextToken 203 = .ok (.aload_n 0, 1) := by decide +kernel
theorem dX12_nextToken_204 : decode cX12_nextToken 204 = .ok (.getfield 87, 3) := by decide +kernel
theorem dX12_nextToken_207 : decode cX12_nextToken 207 = .ok (.isub, 1) := by decide +kernel
theorem dX12_nextToken_208 : decode cX12_nextToken 208 = .ok (.iconst 2, 1) := by decide +kernel
theorem dX12_nextToken_209 : decode cX12_nextToken 209 = .ok (.if_icmp .ge 26, 3) := by decide +kernel
theorem dX12_nextToken_212 : decode cX12_nextToken 212 = .ok (.bipush 10, 2) := by decide +kernel
theorem dX12_nextToken_214 : decode cX12_nextToken 214 = .ok (.aload_n 0, 1) := by decide +kernel
theorem dX12_nextToken_215 : decode cX12_nextToken 215 = .ok (.getfield 97, 3) := by decide +kernel
theorem dX12_nextToken_218 : decode cX12_nextToken 218 = .ok (.imul, 1) := by decide +kernel
theorem dX12_nextToken_219 : decode cX12_nextToken 219 = .ok (.aload_n 0, 1) := by decide +kernel
theorem dX12_nextToken_220 : decode cX12_nextToken 220 = .ok (.getfield 28, 3) := by decide +kernel
theorem dX12_nextToken_223 : decode cX12_nextToken 223 = .ok (.aload_n 0, 1) := by decide +kernel
theorem dX12_nextToken_224 : decode cX12_nextToken 224 = .ok (.getfield 93, 3) := by decide +kernel
theorem dX12_nextToken_227 : decode cX12_nextToken 227 = .ok (.iaload, 1) := by decide +kernel
theorem dX12_nextToken_228 : decode cX12_nextToken 228 = .ok (.iadd, 1) := by decide +kernel
theorem dX12_nextToken_229 : decode cX12_nextToken 229 = .ok (.bipush 48, 2) := by decide +kernel
theorem dX12_nextToken_231 : decode cX12_nextToken 231 = .ok (.isub, 1) := by decide +kernel
theorem dX12_nextToken_232 : decode cX12_nextToken 232 = .ok (.goto 7, 3) := by decide +kernel
theorem dX12_nextToken_235 : decode cX12_nextToken 235 = .ok (.aload_n 0, 1) := by decide +kernel
theorem dX12_nextToken_236 : decode cX12_nextToken 236 = .ok (.getfield 97, 3) := by decide +kernel
theorem dX12_nextToken_239 : decode cX12_nextToken 239 = .ok (.putfield 97, 3) := by decide +kernel
theorem dX12_nextToken_242 : decode cX12_nextToken 242 = .ok (.aload_n 0, 1) := by decide +kernel
theorem dX12_nextToken_243 : decode cX12_nextToken 243 = .ok (.dup, 1) := by decide +kernel
theorem dX12_nextToken_244 : decode cX12_nextToken 244 = .ok (.getfield 93, 3) := by decide +kernel
theorem dX12_nextToken_247 : decode cX12_nextToken 247 = .ok (.iconst 1, 1) := by decide +kernel
theorem dX12_nextToken_248 : decode cX12_nextToken 248 = .ok (.iadd, 1) := by decide +kernel
theorem dX12_nextToken_249 : decode cX12_nextToken 249 = .ok (.putfield 93, 3) := by decide +kernel
theorem dX12_nextToken_252 : decode cX12_nextToken 252 = .ok (.goto (-87), 3) := by decide +kernel
theorem dX12_nextToken_255 : decode cX12_nextToken 255 = .ok (.aload_n 0, 1) := by decide +kernel
theorem dX12_nextToken_256 : decode cX12_nextToken 256 = .ok (.aload_n 0, 1) := by decide +kernel
theorem dX12_nextToken_257 : decode cX12_nextToken 257 = .ok (.getfield 93, 3) := by decide +kernel
theorem dX12_nextToken_260 : decode cX12_nextToken 260 = .ok (.aload_n 0, 1) := by decide +kernel
theorem dX12_nextToken_261 : decode cX12_nextToken 261 = .ok (.getfield 87, 3) := by decide +kernel
theorem dX12_nextToken_264 : decode cX12_nextToken 264 = .ok (.isub, 1) := by decide +kernel
theorem dX12_nextToken_265 : decode cX12_nextToken 265 = .ok (.iconst 2, 1) := by decide +kernel
theorem dX12_nextToken_266 : decode cX12_nextToken 266 = .ok (.if_icmp .le 7, 3) := by decide +kernel
theorem dX12_nextToken_269 : decode cX12_nextToken 269 = .ok (.iconst 0, 1) := by decide +kernel
theorem dX12_nextToken_270 : decode cX12_nextToken 270 = .ok (.goto 4, 3) := by decide +kernel
theorem dX12_nextToken_273 : decode cX12_nextToken 273 = .ok (.iconst 3, 1) := by decide +kernel
theorem dX12_nextToken_274 : decode cX12_nextToken 274 = .ok (.putfield 108, 3) := by decide +kernel
theorem dX12_nextToken_277 : decode cX12_nextToken 277 = .ok (.return_, 1) := by decide +kernel
theorem dX12_must_0 : decode cX12_must 0 = .ok (.iload_n 1, 1) := by decide +kernel
theorem dX12_must_1 : decode cX12_must 1 = .ok (.ifCond .ne 8, 3) := by decide +kernel
theorem dX12_must_4 : decode cX12_must 4 = .ok (.aload_n 0, 1) := by decide +kernel
theorem dX12_must_5 : decode cX12_must 5 = .ok (.iconst 1, 1) := by decide +kernel
theorem dX12_must_6 : decode cX12_must 6 = .ok (.invokevirtual 111, 3) := by decide +kernel
theorem dX12_must_9 : decode cX12_must 9 = .ok (.aload_n 0, 1) := by decide +kernel
theorem dX12_must_10 : decode cX12_must 10 = .ok (.getfield 84, 3) := by decide +kernel
theorem dX12_must_13 : decode cX12_must 13 = .ok (.ifCond .ne 7, 3) := by decide +kernel
theorem dX12_must_16 : decode cX12_must 16 = .ok (.aload_n 0, 1) := by decide +kernel
theorem dX12_must_17 : decode cX12_must 17 = .ok (.invokevirtual 115, 3) := by decide +kernel
theorem dX12_must_20 : decode cX12_must 20 = .ok (.return_, 1) := by decide +kernel
theorem dX12_isLetter_0 : decode cX12_isLetter 0 = .ok (.aload_n 0, 1) := by decide +kernel
theorem dX12_isLetter_1 : decode cX12_isLetter 1 = .ok (.getfield 84, 3) := by decide +kernel
theorem dX12_isLetter_4 : decode cX12_isLetter 4 = .ok (.ifCond .ne 23, 3) := by decide +kernel
theorem dX12_isLetter_7 : decode cX12_isLetter 7 = .ok (.aload_n 0, 1) := by decide +kernel
theorem dX12_isLetter_8 : decode cX12_isLetter 8 = .ok (.getfield 108, 3) := by decide +kernel
theorem dX12_isLetter_11 : decode cX12_isLetter 11 = .ok (.iconst 2, 1) := by decide +kernel
theorem dX12_isLetter_12 : decode cX12_isLetter 12 = .ok (.if_icmp .ne 15, 3) := by decide +kernel
theorem dX12_isLetter_15 : decode cX12_isLetter 15 = .ok (.aload_n 0, 1) := by decide +kernel
theorem dX12_isLetter_16 : decode cX12_isLetter 16 = .ok (.getfield 97, 3) := by decide +kernel
theorem dX12_isLetter_19 : decode cX12_isLetter 19 = .ok (.iload_n 1, 1) := by decide +kernel
theorem dX12_isLetter_20 : decode cX12_isLetter 20 = .ok (.if_icmp .ne 7, 3) := by decide +kernel
theorem dX12_isLetter_23 : decode cX12_isLetter 23 = .ok (.iconst 1, 1) := by decide +kernel
theorem dX12_isLetter_24 : decode cX12_isLetter 24 = .ok (.goto 4, 3) := by decide +kernel
theorem dX12_isLetter_27 : decode cX12_isLetter 27 = .ok (.iconst 0, 1) := by decide +kernel
theorem dX12_isLetter_28 : decode cX12_isLetter 28 = .ok (.ireturn, 1) := by decide +kernel
theorem dX12_number_0 : decode cX12_number 0 = .ok (.aload_n 0, 1) := by decide +kernel
theorem dX12_number_1 : decode cX12_number 1 = .ok (.getfield 84, 3) := by decide +kernel
theorem dX12_number_4 : decode cX12_number 4 = .ok (.ifCond .ne 16, 3) := by decide +kernel
theorem dX12_number_7 : decode cX12_number 7 = .ok (.aload_n 0, 1) := by decide +kernel
theorem dX12_number_8 : decode cX12_number 8 = .ok (.getfield 108, 3) := by decide +kernel
theorem dX12_number_11 : decode cX12_number 11 = .ok (.iconst 3, 1) := by decide +kernel
theorem dX12_number_12 : decode cX12_number 12 = .ok (.if_icmp .eq 8, 3) := by decide +kernel
theorem dX12_number_15 : decode cX12_number 15 = .ok (.aload_n 0, 1) := by decide +kernel
theorem dX12_number_16 : decode cX12_number 16 = .ok (.iconst 1, 1) := by decide +kernel
theorem dX12_number_17 : decode cX12_number 17 = .ok (.invokevirtual 111, 3) := by decide +kernel
theorem dX12_number_20 : decode cX12_number 20 = .ok (.aload_n 0, 1) := by decide +kernel
theorem dX12_number_21 : decode cX12_number 21 = .ok (.getfield 84, 3) := by decide +kernel
theorem dX12_number_24 : decode cX12_number 24 = .ok (.ifCond .ne 23, 3) := by decide +kernel
theorem dX12_number_27 : decode cX12_number 27 = .ok (.aload_n 0, 1) := by decide +kernel
theorem dX12_number_28 : decode cX12_number 28 = .ok (.getfield 97, 3) := by decide +kernel
theorem dX12_number_31 : decode cX12_number 31 = .ok (.i2l, 1) := by decide +kernel
theorem dX12_number_32 : decode cX12_number 32 = .ok (.iload_n 1, 1) := by decide +kernel
theorem dX12_number_33 : decode cX12_number 33 = .ok (.i2l, 1) := by decide +kernel
theorem dX12_number_34 : decode cX12_number 34 = .ok (.iload_n 2, 1) := by decide +kernel
theorem dX12_number_35 : decode cX12_number 35 = .ok (.i2l, 1) := by decide +kernel
theorem dX12_number_36 : decode cX12_number 36 = .ok (.invokestatic 63, 3) := by decide +kernel
theorem dX12_number_39 : decode cX12_number 39 = .ok (.ifCond .ne 8, 3) := by decide +kernel
theorem dX12_number_42 : decode cX12_number 42 = .ok (.aload_n 0, 1) := by decide +kernel
theorem dX12_number_43 : decode cX12_number 43 = .ok (.iconst 2, 1) := by decide +kernel
theorem dX12_number_44 : decode cX12_number 44 = .ok (.invokevirtual 111, 3) := by decide +kernel
theorem dX12_number_47 : decode cX12_number 47 = .ok (.aload_n 0, 1) := by decide +kernel
theorem dX12_number_48 : decode cX12_number 48 = .ok (.getfield 84, 3) := by decide +kernel
theorem dX12_number_51 : decode cX12_number 51 = .ok (.ifCond .ne 10, 3) := by decide +kernel
theorem dX12_number_54 : decode cX12_number 54 = .ok (.aload_n 0, 1) := by decide +kernel
theorem dX12_number_55 : decode cX12_number 55 = .ok (.getfield 97, 3) := by decide +kernel
theorem dX12_number_58 : decode cX12_number 58 = .ok (.goto 4, 3) := by decide +kernel
theorem dX12_number_61 : decode cX12_number 61 = .ok (.iload_n 1, 1) := by decide +kernel
theorem dX12_number_62 : decode cX12_number 62 = .ok (.istore_n 3, 1) := by decide +kernel
theorem dX12_number_63 : decode cX12_number 63 = .ok (.aload_n 0, 1) := by decide +kernel
theorem dX12_number_64 : decode cX12_number 64 = .ok (.iconst 1, 1) := by decide +kernel
theorem dX12_number_65 : decode cX12_number 65 = .ok (.invokevirtual 118, 3) := by decide +kernel
theorem dX12_number_68 : decode cX12_number 68 = .ok (.iload_n 3, 1) := by decide +kernel
theorem dX12_number_69 : decode cX12_number 69 = .ok (.ireturn, 1) := by decide +kernel
theorem dX12_mustSign_0 : decode cX12_mustSign 0 = .ok (.aload_n 0, 1) := by decide +kernel
theorem dX12_mustSign_1 : decode cX12_mustSign 1 = .ok (.aload_n 0, 1) := by decide +kernel
theorem dX12_mustSign_2 : decode cX12_mustSign 2 = .ok (.getfield 108, 3) := by decide +kernel
theorem dX12_mustSign_5 : decode cX12_mustSign 5 = .ok (.iconst 4, 1) := by decide +kernel
theorem dX12_mustSign_6 : decode cX12_mustSign 6 = .ok (.if_icmp .ne 15, 3) := by decide +kernel
theorem dX12_mustSign_9 : decode cX12_mustSign 9 = .ok (.aload_n 0, 1) := by decide +kernel
theorem dX12_mustSign_10 : decode cX12_mustSign 10 = .ok (.getfield 97, 3) := by decide +kernel
theorem dX12_mustSign_13 : decode cX12_mustSign 13 = .ok (.iload_n 1, 1) := by decide +kernel
theorem dX12_mustSign_14 : decode cX12_mustSign 14 = .ok (.if_icmp .ne 7, 3) := by decide +kernel
theorem dX12_mustSign_17 : decode cX12_mustSign 17 = .ok (.iconst 1, 1) := by decide +kernel
theorem dX12_mustSign_18 : decode cX12_mustSign 18 = .ok (.goto 4, 3) := by decide +kernel
theorem dX12_mustSign_21 : decode cX12_mustSign 21 = .ok (.iconst 0, 1) := by decide +kernel
theorem dX12_mustSign_22 : decode cX12_mustSign 22 = .ok (.invokevirtual 118, 3) := by decide +kernel
theorem dX12_mustSign_25 : decode cX12_mustSign 25 = .ok (.return_, 1) := by decide +kernel
theorem dX12_begin_0 : decode cX12_begin 0 = .ok (.aload_n 0, 1) := by decide +kernel
theorem dX12_begin_1 : decode cX12_begin 1 = .ok (.iconst 0, 1) := by decide +kernel
theorem dX12_begin_2 : decode cX12_begin 2 = .ok (.putfield 93, 3) := by decide +kernel
theorem dX12_begin_5 : decode cX12_begin 5 = .ok (.aload_n 0, 1) := by decide +kernel
theorem dX12_begin_6 : decode cX12_begin 6 = .ok (.iconst 0, 1) := by decide +kernel
theorem dX12_begin_7 : decode cX12_begin 7 = .ok (.putfield 84, 3) := by decide +kernel
theorem dX12_begin_10 : decode cX12_begin 10 = .ok (.aload_n 0, 1) := by decide +kernel
theorem dX12_begin_11 : decode cX12_begin 11 = .ok (.invokevirtual 115, 3) := by decide +kernel
theorem dX12_begin_14 : decode cX12_begin 14 = .ok (.return_, 1) := by decide +kernel
theorem dX12_failed_0 : decode cX12_failed 0 = .ok (.aload_n 0, 1) := by decide +kernel
theorem dX12_failed_1 : decode cX12_failed 1 = .ok (.getfield 84, 3) := by decide +kernel
theorem dX12_failed_4 : decode cX12_failed 4 = .ok (.ifCond .ne 16, 3) := by decide +kernel
theorem dX12_failed_7 : decode cX12_failed 7 = .ok (.aload_n 0, 1) := by decide +kernel
theorem dX12_failed_8 : decode cX12_failed 8 = .ok (.getfield 108, 3) := by decide +kernel
theorem dX12_failed_11 : decode cX12_failed 11 = .ok (.iconst 1, 1) := by decide +kernel
theorem dX12_failed_12 : decode cX12_failed 12 = .ok (.if_icmp .eq 8, 3) := by decide +kernel
theorem dX12_failed_15 : decode cX12_failed 15 = .ok (.aload_n 0, 1) := by decide +kernel
theorem dX12_failed_16 : decode cX12_failed 16 = .ok (.iconst 1, 1) := by decide +kernel
theorem dX12_failed_17 : decode cX12_failed 17 = .ok (.invokevirtual 111, 3) := by decide +kernel
theorem dX12_failed_20 : decode cX12_failed 20 = .ok (.aload_n 0, 1) := by decide +kernel
theorem dX12_failed_21 : decode cX12_failed 21 = .ok (.iconst 0, 1) := by decide +kernel
theorem dX12_failed_22 : decode cX12_failed 22 = .ok (.putfield 80, 3) := by decide +kernel
theorem dX12_failed_25 : decode cX12_failed 25 = .ok (.aload_n 0, 1) := by decide +kernel
theorem dX12_failed_26 : decode cX12_failed 26 = .ok (.aload_n 0, 1) := by decide +kernel
theorem dX12_failed_27 : decode cX12_failed 27 = .ok (.getfield 84, 3) := by decide +kernel
theorem dX12_failed_30 : decode cX12_failed 30 = .ok (.ifCond .le 10, 3) := by decide +kernel
theorem dX12_failed_33 : decode cX12_failed 33 = .ok (.aload_n 0, 1) := by decide +kernel
theorem dX12_failed_34 : decode cX12_failed 34 = .ok (.getfield 84, 3) := by decide +kernel
theorem dX12_failed_37 : decode cX12_failed 37 = .ok (.goto 7, 3) := by decide +kernel
theorem dX12_failed_40 : decode cX12_failed 40 = .ok (.aload_n 0, 1) := by decide +kernel
theorem dX12_failed_41 : decode cX12_failed 41 = .ok (.getfield 122, 3) := by decide +kernel
theorem dX12_failed_44 : decode cX12_failed 44 = .ok (.putfield 122, 3) := by decide +kernel
theorem dX12_failed_47 : decode cX12_failed 47 = .ok (.aload_n 0, 1) := by decide +kernel
theorem dX12_failed_48 : decode cX12_failed 48 = .ok (.getfield 84, 3) := by decide +kernel
theorem dX12_failed_51 : decode cX12_failed 51 = .ok (.ifCond .le 7, 3) := by decide +kernel
theorem dX12_failed_54 : decode cX12_failed 54 = .ok (.iconst 1, 1) := by decide +kernel
theorem dX12_failed_55 : decode cX12_failed 55 = .ok (.goto 4, 3) := by decide +kernel
theorem dX12_failed_58 : decode cX12_failed 58 = .ok (.iconst 0, 1) := by decide +kernel
theorem dX12_failed_59 : decode cX12_failed 59 = .ok (.ireturn, 1) := by decide +kernel
theorem dX12_fault_0 : decode cX12_fault 0 = .ok (.aload_n 0, 1) := by decide +kernel
theorem dX12_fault_1 : decode cX12_fault 1 = .ok (.iconst 0, 1) := by decide +kernel
theorem dX12_fault_2 : decode cX12_fault 2 = .ok (.putfield 53, 3) := by decide +kernel
theorem dX12_fault_5 : decode cX12_fault 5 = .ok (.aload_n 0, 1) := by decide +kernel
theorem dX12_fault_6 : decode cX12_fault 6 = .ok (.getfield 122, 3) := by decide +kernel
theorem dX12_fault_9 : decode cX12_fault 9 = .ok (.ireturn, 1) := by decide +kernel
theorem dX12_kindBy_0 : decode cX12_kindBy 0 = .ok (.iload_n 0, 1) := by decide +kernel
theorem dX12_kindBy_1 : decode cX12_kindBy 1 = .ok (.bipush 118, 2) := by decide +kernel
theorem dX12_kindBy_3 : decode cX12_kindBy 3 = .ok (.if_icmp .ne 7, 3) := by decide +kernel
theorem dX12_kindBy_6 : decode cX12_kindBy 6 = .ok (.iconst 1, 1) := by decide +kernel
theorem dX12_kindBy_7 : decode cX12_kindBy 7 = .ok (.goto 45, 3) := by decide +kernel
theorem dX12_kindBy_10 : decode cX12_kindBy 10 = .ok (.iload_n 0, 1) := by decide +kernel
theorem dX12_kindBy_11 : decode cX12_kindBy 11 = .ok (.bipush 107, 2) := by decide +kernel
theorem dX12_kindBy_13 : decode cX12_kindBy 13 = .ok (.if_icmp .ne 7, 3) := by decide +kernel
theorem dX12_kindBy_16 : decode cX12_kindBy 16 = .ok (.iconst 2, 1) := by decide +kernel
theorem dX12_kindBy_17 : decode cX12_kindBy 17 = .ok (.goto 35, 3) := by decide +kernel
theorem dX12_kindBy_20 : decode cX12_kindBy 20 = .ok (.iload_n 0, 1) := by decide +kernel
theorem dX12_kindBy_21 : decode cX12_kindBy 21 = .ok (.bipush 114, 2) := by decide +kernel
theorem dX12_kindBy_23 : decode cX12_kindBy 23 = .ok (.if_icmp .ne 7, 3) := by decide +kernel
theorem dX12_kindBy_26 : decode cX12_kindBy 26 = .ok (.iconst 3, 1) := by decide +kernel
theorem dX12_kindBy_27 : decode cX12_kindBy 27 = .ok (.goto 25, 3) := by decide +kernel
theorem dX12_kindBy_30 : decode cX12_kindBy 30 = .ok (.iload_n 0, 1) := by decide +kernel
theorem dX12_kindBy_31 : decode cX12_kindBy 31 = .ok (.bipush 103, 2) := by decide +kernel
theorem dX12_kindBy_33 : decode cX12_kindBy 33 = .ok (.if_icmp .ne 7, 3) := by decide +kernel
theorem dX12_kindBy_36 : decode cX12_kindBy 36 = .ok (.iconst 4, 1) := by decide +kernel
theorem dX12_kindBy_37 : decode cX12_kindBy 37 = .ok (.goto 15, 3) := by decide +kernel
theorem dX12_kindBy_40 : decode cX12_kindBy 40 = .ok (.iload_n 0, 1) := by decide +kernel
theorem dX12_kindBy_41 : decode cX12_kindBy 41 = .ok (.bipush 115, 2) := by decide +kernel
theorem dX12_kindBy_43 : decode cX12_kindBy 43 = .ok (.if_icmp .ne 7, 3) := by decide +kernel
theorem dX12_kindBy_46 : decode cX12_kindBy 46 = .ok (.iconst 5, 1) := by decide +kernel
theorem dX12_kindBy_47 : decode cX12_kindBy 47 = .ok (.goto 5, 3) := by decide +kernel
theorem dX12_kindBy_50 : decode cX12_kindBy 50 = .ok (.ldc 96, 2) := by decide +kernel
theorem dX12_kindBy_52 : decode cX12_kindBy 52 = .ok (.ireturn, 1) := by decide +kernel
theorem dX12_readDummy_0 : decode cX12_readDummy 0 = .ok (.aload_n 0, 1) := by decide +kernel
theorem dX12_readDummy_1 : decode cX12_readDummy 1 = .ok (.getfield 22, 3) := by decide +kernel
theorem dX12_readDummy_4 : decode cX12_readDummy 4 = .ok (.iconst 2, 1) := by decide +kernel
theorem dX12_readDummy_5 : decode cX12_readDummy 5 = .ok (.iaload, 1) := by decide +kernel
theorem dX12_readDummy_6 : decode cX12_readDummy 6 = .ok (.iconst 4, 1) := by decide +kernel
theorem dX12_readDummy_7 : decode cX12_readDummy 7 = .ok (.if_icmp .ne 8, 3) := by decide +kernel
theorem dX12_readDummy_10 : decode cX12_readDummy 10 = .ok (.aload_n 0, 1) := by decide +kernel
theorem dX12_readDummy_11 : decode cX12_readDummy 11 = .ok (.iconst 3, 1) := by decide +kernel
theorem dX12_readDummy_12 : decode cX12_readDummy 12 = .ok (.invokevirtual 111, 3) := by decide +kernel
theorem dX12_readDummy_15 : decode cX12_readDummy 15 = .ok (.aload_n 0, 1) := by decide +kernel
theorem dX12_readDummy_16 : decode cX12_readDummy 16 = .ok (.iconst 1, 1) := by decide +kernel
theorem dX12_readDummy_17 : decode cX12_readDummy 17 = .ok (.invokevirtual 118, 3) := by decide +kernel
theorem dX12_readDummy_20 : decode cX12_readDummy 20 = .ok (.aload_n 0, 1) := by decide +kernel
theorem dX12_readDummy_21 : decode cX12_readDummy 21 = .ok (.iconst 0, 1) := by decide +kernel
theorem dX12_readDummy_22 : decode cX12_readDummy 22 = .ok (.bipush 99, 2) := by decide +kernel
theorem dX12_readDummy_24 : decode cX12_readDummy 24 = .ok (.invokevirtual 125, 3) := by decide +kernel
theorem dX12_readDummy_27 : decode cX12_readDummy 27 = .ok (.istore_n 1, 1) := by decide +kernel
theorem dX12_readDummy_28 : decode cX12_readDummy 28 = .ok (.aload_n 0, 1) := by decide +kernel
theorem dX12_readDummy_29 : decode cX12_readDummy 29 = .ok (.bipush 44, 2) := by decide +kernel
theorem dX12_readDummy_31 : decode cX12_readDummy 31 = .ok (.invokevirtual 129, 3) := by decide +kernel
theorem dX12_readDummy_34 : decode cX12_readDummy 34 = .ok (.aload_n 0, 1) := by decide +kernel
theorem dX12_readDummy_35 : decode cX12_readDummy 35 = .ok (.iconst 0, 1) := by decide +kernel
theorem dX12_readDummy_36 : decode cX12_readDummy 36 = .ok (.bipush 99, 2) := by decide +kernel
theorem dX12_readDummy_38 : decode cX12_readDummy 38 = .ok (.invokevirtual 125, 3) := by decide +kernel
theorem dX12_readDummy_41 : decode cX12_readDummy 41 = .ok (.istore_n 2, 1) := by decide +kernel
theorem dX12_readDummy_42 : decode cX12_readDummy 42 = .ok (.aload_n 0, 1) := by decide +kernel
theorem dX12_readDummy_43 : decode cX12_readDummy 43 = .ok (.bipush 44, 2) := by decide +kernel
theorem dX12_readDummy_45 : decode cX12_readDummy 45 = .ok (.invokevirtual 129, 3) := by decide +kernel
theorem dX12_readDummy_48 : decode cX12_readDummy 48 = .ok (.aload_n 0, 1) := by decide +kernel
theorem dX12_readDummy_49 : decode cX12_readDummy 49 = .ok (.iconst 0, 1) := by decide +kernel
theorem dX12_readDummy_50 : decode cX12_readDummy 50 = .ok (.bipush 99, 2) := by decide +kernel
theorem dX12_readDummy_52 : decode cX12_readDummy 52 = .ok (.invokevirtual 125, 3) := by decide +kernel
theorem dX12_readDummy_55 : decode cX12_readDummy 55 = .ok (.istore_n 3, 1) := by decide +kernel
theorem dX12_readDummy_56 : decode cX12_readDummy 56 = .ok (.aload_n 0, 1) := by decide +kernel
theorem dX12_readDummy_57 : decode cX12_readDummy 57 = .ok (.bipush 59, 2) := by decide +kernel
theorem dX12_readDummy_59 : decode cX12_readDummy 59 = .ok (.invokevirtual 129, 3) := by decide +kernel
theorem dX12_readDummy_62 : decode cX12_readDummy 62 = .ok (.aload_n 0, 1) := by decide +kernel
theorem dX12_readDummy_63 : decode cX12_readDummy 63 = .ok (.getfield 84, 3) := by decide +kernel
theorem dX12_readDummy_66 : decode cX12_readDummy 66 = .ok (.ifCond .ne 112, 3) := by decide +kernel
theorem dX12_readDummy_69 : decode cX12_readDummy 69 = .ok (.iconst 0, 1) := by decide +kernel
theorem dX12_readDummy_70 : decode cX12_readDummy 70 = .ok (.istore 4, 2) := by decide +kernel
theorem dX12_readDummy_72 : decode cX12_readDummy 72 = .ok (.iload 4, 2) := by decide +kernel
theorem dX12_readDummy_74 : decode cX12_readDummy 74 = .ok (.iconst 3, 1) := by decide +kernel
theorem dX12_readDummy_75 : decode cX12_readDummy 75 = .ok (.if_icmp .ge 93, 3) := by decide +kernel
theorem dX12_readDummy_78 : decode cX12_readDummy 78 = .ok (.iload 4, 2) := by decide +kernel
theorem dX12_readDummy_80 : decode cX12_readDummy 80 = .ok (.ifCond .ne 7, 3) := by decide +kernel
theorem dX12_readDummy_83 : decode cX12_readDummy 83 = .ok (.iload_n 1, 1) := by decide +kernel
theorem dX12_readDummy_84 : decode cX12_readDummy 84 = .ok (.goto 14, 3) := by decide +kernel
theorem dX12_readDummy_87 : decode cX12_readDummy 87 = .ok (.iload 4, 2) := by decide +kernel
theorem dX12_readDummy_89 : decode cX12_readDummy 89 = .ok (.iconst 1, 1) := by decide +kernel
theorem dX12_readDummy_90 : decode cX12_readDummy 90 = .ok (.if_icmp .ne 7, 3) := by decide +kernel
theorem dX12_readDummy_93 : decode cX12_readDummy 93 = .ok (.iload_n 2, 1) := by decide +kernel
theorem dX12_readDummy_94 : decode cX12_readDummy 94 = .ok (.goto 4, 3) := by decide +kernel
theorem dX12_readDummy_97 : decode cX12_readDummy 97 = .ok (.iload_n 3, 1) := by decide +kernel
theorem dX12_readDummy_98 : decode cX12_readDummy 98 = .ok (.istore 5, 2) := by decide +kernel
theorem dX12_readDummy_100 : decode cX12_readDummy 100 = .ok (.aload_n 0, 1) := by decide +kernel
theorem dX12_readDummy_101 : decode cX12_readDummy 101 = .ok (.getfield 22, 3) := by decide +kernel
theorem dX12_readDummy_104 : decode cX12_readDummy 104 = .ok (.iconst 5, 1) := by decide +kernel
theorem dX12_readDummy_105 : decode cX12_readDummy 105 = .ok (.iconst 3, 1) := by decide +kernel
theorem dX12_readDummy_106 : decode cX12_readDummy 106 = .ok (.aload_n 0, 1) := by decide +kernel
theorem dX12_readDummy_107 : decode cX12_readDummy 107 = .ok (.getfield 22, 3) := by decide +kernel
theorem dX12_readDummy_110 : decode cX12_readDummy 110 = .ok (.iconst 2, 1) := by decide +kernel
theorem dX12_readDummy_111 : decode cX12_readDummy 111 = .ok (.iaload, 1) := by decide +kernel
theorem dX12_readDummy_112 : decode cX12_readDummy 112 = .ok (.imul, 1) := by decide +kernel
theorem dX12_readDummy_113 : decode cX12_readDummy 113 = .ok (.iadd, 1) := by decide +kernel
theorem dX12_readDummy_114 : decode cX12_readDummy 114 = .ok (.iload 4, 2) := by decide +kernel
theorem dX12_readDummy_116 : decode cX12_readDummy 116 = .ok (.iadd, 1) := by decide +kernel
theorem dX12_readDummy_117 : decode cX12_readDummy 117 = .ok (.iload 5, 2) := by decide +kernel
theorem dX12_readDummy_119 : decode cX12_readDummy 119 = .ok (.iastore, 1) := by decide +kernel
theorem dX12_readDummy_120 : decode cX12_readDummy 120 = .ok (.aload_n 0, 1) := by decide +kernel
theorem dX12_readDummy_121 : decode cX12_readDummy 121 = .ok (.getfield 22, 3) := by decide +kernel
theorem dX12_readDummy_124 : decode cX12_readDummy 124 = .ok (.bipush 17, 2) := by decide +kernel
theorem dX12_readDummy_126 : decode cX12_readDummy 126 = .ok (.iconst 3, 1) := by decide +kernel
theorem dX12_readDummy_127 : decode cX12_readDummy 127 = .ok (.aload_n 0, 1) := by decide +kernel
theorem dX12_readDummy_128 : decode cX12_readDummy 128 = .ok (.getfield 22, 3) := by decide +kernel
theorem dX12_readDummy_131 : decode cX12_readDummy 131 = .ok (.iconst 2, 1) := by decide +kernel
theorem dX12_readDummy_132 : decode cX12_readDummy 132 = .ok (.iaload, 1) := by decide +kernel
theorem dX12_readDummy_133 : decode cX12_readDummy 133 = .ok (.imul, 1) := by decide +kernel
theorem dX12_readDummy_134 : decode cX12_readDummy 134 = .ok (.iadd, 1) := by decide +kernel
theorem dX12_readDummy_135 : decode cX12_readDummy 135 = .ok (.iload 4, 2) := by decide +kernel
theorem dX12_readDummy_137 : decode cX12_readDummy 137 = .ok (.iadd, 1) := by decide +kernel
theorem dX12_readDummy_138 : decode cX12_readDummy 138 = .ok (.iload 5, 2) := by decide +kernel
theorem dX12_readDummy_140 : decode cX12_readDummy 140 = .ok (.iastore, 1) := by decide +kernel
theorem dX12_readDummy_141 : decode cX12_readDummy 141 = .ok (.aload_n 0, 1) := by decide +kernel
theorem dX12_readDummy_142 : decode cX12_readDummy 142 = .ok (.getfield 22, 3) := by decide +kernel
theorem dX12_readDummy_145 : decode cX12_readDummy 145 = .ok (.bipush 29, 2) := by decide +kernel
theorem dX12_readDummy_147 : decode cX12_readDummy 147 = .ok (.iconst 3, 1) := by decide +kernel
theorem dX12_readDummy_148 : decode cX12_readDummy 148 = .ok (.aload_n 0, 1) := by decide +kernel
theorem dX12_readDummy_149 : decode cX12_readDummy 149 = .ok (.getfield 22, 3) := by decide +kernel
theorem dX12_readDummy_152 : decode cX12_readDummy 152 = .ok (.iconst 2, 1) := by decide +kernel
theorem dX12_readDummy_153 : decode cX12_readDummy 153 = .ok (.iaload, 1) := by decide +kernel
theorem dX12_readDummy_154 : decode cX12_readDummy 154 = .ok (.imul, 1) := by decide +kernel
theorem dX12_readDummy_155 : decode cX12_readDummy 155 = .ok (.iadd, 1) := by decide +kernel
theorem dX12_readDummy_156 : decode cX12_readDummy 156 = .ok (.iload 4, 2) := by decide +kernel
theorem dX12_readDummy_158 : decode cX12_readDummy 158 = .ok (.iadd, 1) := by decide +kernel
theorem dX12_readDummy_159 : decode cX12_readDummy 159 = .ok (.iload 5, 2) := by decide +kernel
theorem dX12_readDummy_161 : decode cX12_readDummy 161 = .ok (.iastore, 1) := by decide +kernel
theorem dX12_readDummy_162 : decode cX12_readDummy 162 = .ok (.iinc 4 1, 3) := by decide +kernel
theorem dX12_readDummy_165 : decode cX12_readDummy 165 = .ok (.goto (-93), 3) := by decide +kernel
theorem dX12_readDummy_168 : decode cX12_readDummy 168 = .ok (.aload_n 0, 1) := by decide +kernel
theorem dX12_readDummy_169 : decode cX12_readDummy 169 = .ok (.getfield 22, 3) := by decide +kernel
theorem dX12_readDummy_172 : decode cX12_readDummy 172 = .ok (.iconst 2, 1) := by decide +kernel
theorem dX12_readDummy_173 : decode cX12_readDummy 173 = .ok (.dup2, 1) := by decide +kernel
theorem dX12_readDummy_174 : decode cX12_readDummy 174 = .ok (.iaload, 1) := by decide +kernel
theorem dX12_readDummy_175 : decode cX12_readDummy 175 = .ok (.iconst 1, 1) := by decide +kernel
theorem dX12_readDummy_176 : decode cX12_readDummy 176 = .ok (.iadd, 1) := by decide +kernel
theorem dX12_readDummy_177 : decode cX12_readDummy 177 = .ok (.iastore, 1) := by decide +kernel
theorem dX12_readDummy_178 : decode cX12_readDummy 178 = .ok (.return_, 1) := by decide +kernel
theorem dX12_readMouth_0 : decode cX12_readMouth 0 = .ok (.aload_n 0, 1) := by decide +kernel
theorem dX12_readMouth_1 : decode cX12_readMouth 1 = .ok (.getfield 97, 3) := by decide +kernel
theorem dX12_readMouth_4 : decode cX12_readMouth 4 = .ok (.invokestatic 132, 3) := by decide +kernel
theorem dX12_readMouth_7 : decode cX12_readMouth 7 = .ok (.istore_n 1, 1) := by decide +kernel
theorem dX12_readMouth_8 : decode cX12_readMouth 8 = .ok (.aload_n 0, 1) := by decide +kernel
theorem dX12_readMouth_9 : decode cX12_readMouth 9 = .ok (.getfield 22, 3) := by decide +kernel
theorem dX12_readMouth_12 : decode cX12_readMouth 12 = .ok (.iconst 3, 1) := by decide +kernel
theorem dX12_readMouth_13 : decode cX12_readMouth 13 = .ok (.iaload, 1) := by decide +kernel
theorem dX12_readMouth_14 : decode cX12_readMouth 14 = .ok (.iconst 5, 1) := by decide +kernel
theorem dX12_readMouth_15 : decode cX12_readMouth 15 = .ok (.if_icmp .ne 8, 3) := by decide +kernel
theorem dX12_readMouth_18 : decode cX12_readMouth 18 = .ok (.aload_n 0, 1) := by decide +kernel
theorem dX12_readMouth_19 : decode cX12_readMouth 19 = .ok (.iconst 3, 1) := by decide +kernel
theorem dX12_readMouth_20 : decode cX12_readMouth 20 = .ok (.invokevirtual 111, 3) := by decide +kernel
theorem dX12_readMouth_23 : decode cX12_readMouth 23 = .ok (.aload_n 0, 1) := by decide +kernel
theorem dX12_readMouth_24 : decode cX12_readMouth 24 = .ok (.iconst 1, 1) := by decide +kernel
theorem dX12_readMouth_25 : decode cX12_readMouth 25 = .ok (.invokevirtual 118, 3) := by decide +kernel
theorem dX12_readMouth_28 : decode cX12_readMouth 28 = .ok (.aload_n 0, 1) := by decide +kernel
theorem dX12_readMouth_29 : decode cX12_readMouth 29 = .ok (.iconst 0, 1) := by decide +kernel
theorem dX12_readMouth_30 : decode cX12_readMouth 30 = .ok (.bipush 99, 2) := by decide +kernel
theorem dX12_readMouth_32 : decode cX12_readMouth 32 = .ok (.invokevirtual 125, 3) := by decide +kernel
theorem dX12_readMouth_35 : decode cX12_readMouth 35 = .ok (.istore_n 2, 1) := by decide +kernel
theorem dX12_readMouth_36 : decode cX12_readMouth 36 = .ok (.aload_n 0, 1) := by decide +kernel
theorem dX12_readMouth_37 : decode cX12_readMouth 37 = .ok (.bipush 59, 2) := by decide +kernel
theorem dX12_readMouth_39 : decode cX12_readMouth 39 = .ok (.invokevirtual 129, 3) := by decide +kernel
theorem dX12_readMouth_42 : decode cX12_readMouth 42 = .ok (.aload_n 0, 1) := by decide +kernel
theorem dX12_readMouth_43 : decode cX12_readMouth 43 = .ok (.getfield 84, 3) := by decide +kernel
theorem dX12_readMouth_46 : decode cX12_readMouth 46 = .ok (.ifCond .ne 49, 3) := by decide +kernel
theorem dX12_readMouth_49 : decode cX12_readMouth 49 = .ok (.aload_n 0, 1) := by decide +kernel
theorem dX12_readMouth_50 : decode cX12_readMouth 50 = .ok (.getfield 22, 3) := by decide +kernel
theorem dX12_readMouth_53 : decode cX12_readMouth 53 = .ok (.bipush 41, 2) := by decide +kernel
theorem dX12_readMouth_55 : decode cX12_readMouth 55 = .ok (.iconst 2, 1) := by decide +kernel
theorem dX12_readMouth_56 : decode cX12_readMouth 56 = .ok (.aload_n 0, 1) := by decide +kernel
theorem dX12_readMouth_57 : decode cX12_readMouth 57 = .ok (.getfield 22, 3) := by decide +kernel
theorem dX12_readMouth_60 : decode cX12_readMouth 60 = .ok (.iconst 3, 1) := by decide +kernel
theorem dX12_readMouth_61 : decode cX12_readMouth 61 = .ok (.iaload, 1) := by decide +kernel
theorem dX12_readMouth_62 : decode cX12_readMouth 62 = .ok (.imul, 1) := by decide +kernel
theorem dX12_readMouth_63 : decode cX12_readMouth 63 = .ok (.iadd, 1) := by decide +kernel
theorem dX12_readMouth_64 : decode cX12_readMouth 64 = .ok (.iload_n 1, 1) := by decide +kernel
theorem dX12_readMouth_65 : decode cX12_readMouth 65 = .ok (.iastore, 1) := by decide +kernel
theorem dX12_readMouth_66 : decode cX12_readMouth 66 = .ok (.aload_n 0, 1) := by decide +kernel
theorem dX12_readMouth_67 : decode cX12_readMouth 67 = .ok (.getfield 22, 3) := by decide +kernel
theorem dX12_readMouth_70 : decode cX12_readMouth 70 = .ok (.bipush 41, 2) := by decide +kernel
theorem dX12_readMouth_72 : decode cX12_readMouth 72 = .ok (.iconst 2, 1) := by decide +kernel
theorem dX12_readMouth_73 : decode cX12_readMouth 73 = .ok (.aload_n 0, 1) := by decide +kernel
theorem dX12_readMouth_74 : decode cX12_readMouth 74 = .ok (.getfield 22, 3) := by decide +kernel
theorem dX12_readMouth_77 : decode cX12_readMouth 77 = .ok (.iconst 3, 1) := by decide +kernel
theorem dX12_readMouth_78 : decode cX12_readMouth 78 = .ok (.iaload, 1) := by decide +kernel
theorem dX12_readMouth_79 : decode cX12_readMouth 79 = .ok (.imul, 1) := by decide +kernel
theorem dX12_readMouth_80 : decode cX12_readMouth 80 = .ok (.iadd, 1) := by decide +kernel
theorem dX12_readMouth_81 : decode cX12_readMouth 81 = .ok (.iconst 1, 1) := by decide +kernel
theorem dX12_readMouth_82 : decode cX12_readMouth 82 = .ok (.iadd, 1) := by decide +kernel
theorem dX12_readMouth_83 : decode cX12_readMouth 83 = .ok (.iload_n 2, 1) := by decide +kernel
theorem dX12_readMouth_84 : decode cX12_readMouth 84 = .ok (.iastore, 1) := by decide +kernel
theorem dX12_readMouth_85 : decode cX12_readMouth 85 = .ok (.aload_n 0, 1) := by decide +kernel
theorem dX12_readMouth_86 : decode cX12_readMouth 86 = .ok (.getfield 22, 3) := by decide +kernel
theorem dX12_readMouth_89 : decode cX12_readMouth 89 = .ok (.iconst 3, 1) := by decide +kernel
theorem dX12_readMouth_90 : decode cX12_readMouth 90 = .ok (.dup2, 1) := by decide +kernel
theorem dX12_readMouth_91 : decode cX12_readMouth 91 = .ok (.iaload, 1) := by decide +kernel
theorem dX12_readMouth_92 : decode cX12_readMouth 92 = .ok (.iconst 1, 1) := by decide +kernel
theorem dX12_readMouth_93 : decode cX12_readMouth 93 = .ok (.iadd, 1) := by decide +kernel
theorem dX12_readMouth_94 : decode cX12_readMouth 94 = .ok (.iastore, 1) := by decide +kernel
theorem dX12_readMouth_95 : decode cX12_readMouth 95 = .ok (.return_, 1) := by decide +kernel
theorem dX12_street_0 : decode cX12_street 0 = .ok (.aload_n 0, 1) := by decide +kernel
theorem dX12_street_1 : decode cX12_street 1 = .ok (.iconst 0, 1) := by decide +kernel
theorem dX12_street_2 : decode cX12_street 2 = .ok (.putfield 53, 3) := by decide +kernel
theorem dX12_street_5 : decode cX12_street 5 = .ok (.aload_n 0, 1) := by decide +kernel
theorem dX12_street_6 : decode cX12_street 6 = .ok (.invokevirtual 135, 3) := by decide +kernel
theorem dX12_street_9 : decode cX12_street 9 = .ok (.iconst 0, 1) := by decide +kernel
theorem dX12_street_10 : decode cX12_street 10 = .ok (.istore_n 1, 1) := by decide +kernel
theorem dX12_street_11 : decode cX12_street 11 = .ok (.iload_n 1, 1) := by decide +kernel
theorem dX12_street_12 : decode cX12_street 12 = .ok (.sipush 147, 3) := by decide +kernel
theorem dX12_street_15 : decode cX12_street 15 = .ok (.if_icmp .ge 16, 3) := by decide +kernel
theorem dX12_street_18 : decode cX12_street 18 = .ok (.aload_n 0, 1) := by decide +kernel
theorem dX12_street_19 : decode cX12_street 19 = .ok (.getfield 22, 3) := by decide +kernel
theorem dX12_street_22 : decode cX12_street 22 = .ok (.iload_n 1, 1) := by decide +kernel
theorem dX12_street_23 : decode cX12_street 23 = .ok (.iconst 0, 1) := by decide +kernel
theorem dX12_street_24 : decode cX12_street 24 = .ok (.iastore, 1) := by decide +kernel
theorem dX12_street_25 : decode cX12_street 25 = .ok (.iinc 1 1, 3) := by decide +kernel
theorem dX12_street_28 : decode cX12_street 28 = .ok (.goto (-17), 3) := by decide +kernel
theorem dX12_street_31 : decode cX12_street 31 = .ok (.aload_n 0, 1) := by decide +kernel
theorem dX12_street_32 : decode cX12_street 32 = .ok (.getfield 22, 3) := by decide +kernel
theorem dX12_street_35 : decode cX12_street 35 = .ok (.iconst 0, 1) := by decide +kernel
theorem dX12_street_36 : decode cX12_street 36 = .ok (.iconst 1, 1) := by decide +kernel
theorem dX12_street_37 : decode cX12_street 37 = .ok (.iastore, 1) := by decide +kernel
theorem dX12_street_38 : decode cX12_street 38 = .ok (.aload_n 0, 1) := by decide +kernel
theorem dX12_street_39 : decode cX12_street 39 = .ok (.aload_n 0, 1) := by decide +kernel
theorem dX12_street_40 : decode cX12_street 40 = .ok (.bipush 119, 2) := by decide +kernel
theorem dX12_street_42 : decode cX12_street 42 = .ok (.invokevirtual 138, 3) := by decide +kernel
theorem dX12_street_45 : decode cX12_street 45 = .ok (.invokevirtual 118, 3) := by decide +kernel
theorem dX12_street_48 : decode cX12_street 48 = .ok (.aload_n 0, 1) := by decide +kernel
theorem dX12_street_49 : decode cX12_street 49 = .ok (.getfield 22, 3) := by decide +kernel
theorem dX12_street_52 : decode cX12_street 52 = .ok (.iconst 1, 1) := by decide +kernel
theorem dX12_street_53 : decode cX12_street 53 = .ok (.aload_n 0, 1) := by decide +kernel
theorem dX12_street_54 : decode cX12_street 54 = .ok (.iconst 2, 1) := by decide +kernel
theorem dX12_street_55 : decode cX12_street 55 = .ok (.bipush 20, 2) := by decide +kernel
theorem dX12_street_57 : decode cX12_street 57 = .ok (.invokevirtual 125, 3) := by decide +kernel
theorem dX12_street_60 : decode cX12_street 60 = .ok (.iastore, 1) := by decide +kernel
theorem dX12_street_61 : decode cX12_street 61 = .ok (.aload_n 0, 1) := by decide +kernel
theorem dX12_street_62 : decode cX12_street 62 = .ok (.bipush 59, 2) := by decide +kernel
theorem dX12_street_64 : decode cX12_street 64 = .ok (.invokevirtual 129, 3) := by decide +kernel
theorem dX12_street_67 : decode cX12_street 67 = .ok (.aload_n 0, 1) := by decide +kernel
theorem dX12_street_68 : decode cX12_street 68 = .ok (.bipush 100, 2) := by decide +kernel
theorem dX12_street_70 : decode cX12_street 70 = .ok (.invokevirtual 138, 3) := by decide +kernel
theorem dX12_street_73 : decode cX12_street 73 = .ok (.ifCond .eq 10, 3) := by decide +kernel
theorem dX12_street_76 : decode cX12_street 76 = .ok (.aload_n 0, 1) := by decide +kernel
theorem dX12_street_77 : decode cX12_street 77 = .ok (.invokevirtual 141, 3) := by decide +kernel
theorem dX12_street_80 : decode cX12_street 80 = .ok (.goto (-13), 3) := by decide +kernel
theorem dX12_street_83 : decode cX12_street 83 = .ok (.aload_n 0, 1) := by decide +kernel
theorem dX12_street_84 : decode cX12_street 84 = .ok (.getfield 84, 3) := by decide +kernel
theorem dX12_street_87 : decode cX12_street 87 = .ok (.ifCond .ne 30, 3) := by decide +kernel
theorem dX12_street_90 : decode cX12_street 90 = .ok (.aload_n 0, 1) := by decide +kernel
theorem dX12_street_91 : decode cX12_street 91 = .ok (.getfield 108, 3) := by decide +kernel
theorem dX12_street_94 : decode cX12_street 94 = .ok (.iconst 2, 1) := by decide +kernel
theorem dX12_street_95 : decode cX12_street 95 = .ok (.if_icmp .ne 22, 3) := by decide +kernel
theorem dX12_street_98 : decode cX12_street 98 = .ok (.aload_n 0, 1) := by decide +kernel
theorem dX12_street_99 : decode cX12_street 99 = .ok (.getfield 97, 3) := by decide +kernel
theorem dX12_street_102 : decode cX12_street 102 = .ok (.invokestatic 132, 3) := by decide +kernel
theorem dX12_street_105 : decode cX12_street 105 = .ok (.ldc 96, 2) := by decide +kernel
theorem dX12_street_107 : decode cX12_street 107 = .ok (.if_icmp .eq 10, 3) := by decide +kernel
theorem dX12_street_110 : decode cX12_street 110 = .ok (.aload_n 0, 1) := by decide +kernel
theorem dX12_street_111 : decode cX12_street 111 = .ok (.invokevirtual 144, 3) := by decide +kernel
theorem dX12_street_114 : decode cX12_street 114 = .ok (.goto (-31), 3) := by decide +kernel
theorem dX12_street_117 : decode cX12_street 117 = .ok (.aload_n 0, 1) := by decide +kernel
theorem dX12_street_118 : decode cX12_street 118 = .ok (.invokevirtual 147, 3) := by decide +kernel
theorem dX12_street_121 : decode cX12_street 121 = .ok (.ifCond .eq 11, 3) := by decide +kernel
theorem dX12_street_124 : decode cX12_street 124 = .ok (.ldc 151, 2) := by decide +kernel
theorem dX12_street_126 : decode cX12_street 126 = .ok (.aload_n 0, 1) := by decide +kernel
theorem dX12_street_127 : decode cX12_street 127 = .ok (.getfield 90, 3) := by decide +kernel
theorem dX12_street_130 : decode cX12_street 130 = .ok (.isub, 1) := by decide +kernel
theorem dX12_street_131 : decode cX12_street 131 = .ok (.ireturn, 1) := by decide +kernel
theorem dX12_street_132 : decode cX12_street 132 = .ok (.aload_n 0, 1) := by decide +kernel
theorem dX12_street_133 : decode cX12_street 133 = .ok (.iconst 0, 1) := by decide +kernel
theorem dX12_street_134 : decode cX12_street 134 = .ok (.putfield 152, 3) := by decide +kernel
theorem dX12_street_137 : decode cX12_street 137 = .ok (.iconst 0, 1) := by decide +kernel
theorem dX12_street_138 : decode cX12_street 138 = .ok (.istore_n 1, 1) := by decide +kernel
theorem dX12_street_139 : decode cX12_street 139 = .ok (.iload_n 1, 1) := by decide +kernel
theorem dX12_street_140 : decode cX12_street 140 = .ok (.sipush 147, 3) := by decide +kernel
theorem dX12_street_143 : decode cX12_street 143 = .ok (.if_icmp .ge 21, 3) := by decide +kernel
theorem dX12_street_146 : decode cX12_street 146 = .ok (.aload_n 0, 1) := by decide +kernel
theorem dX12_street_147 : decode cX12_street 147 = .ok (.getfield 19, 3) := by decide +kernel
theorem dX12_street_150 : decode cX12_street 150 = .ok (.iload_n 1, 1) := by decide +kernel
theorem dX12_street_151 : decode cX12_street 151 = .ok (.aload_n 0, 1) := by decide +kernel
theorem dX12_street_152 : decode cX12_street 152 = .ok (.getfield 22, 3) := by decide +kernel
theorem dX12_street_155 : decode cX12_street 155 = .ok (.iload_n 1, 1) := by decide +kernel
theorem dX12_street_156 : decode cX12_street 156 = .ok (.iaload, 1) := by decide +kernel
theorem dX12_street_157 : decode cX12_street 157 = .ok (.iastore, 1) := by decide +kernel
theorem dX12_street_158 : decode cX12_street 158 = .ok (.iinc 1 1, 3) := by decide +kernel
theorem dX12_street_161 : decode cX12_street 161 = .ok (.goto (-22), 3) := by decide +kernel
theorem dX12_street_164 : decode cX12_street 164 = .ok (.aload_n 0, 1) := by decide +kernel
theorem dX12_street_165 : decode cX12_street 165 = .ok (.getfield 19, 3) := by decide +kernel
theorem dX12_street_168 : decode cX12_street 168 = .ok (.iconst 2, 1) := by decide +kernel
theorem dX12_street_169 : decode cX12_street 169 = .ok (.iaload, 1) := by decide +kernel
theorem dX12_street_170 : decode cX12_street 170 = .ok (.ireturn, 1) := by decide +kernel
theorem dX12_isThere_0 : decode cX12_isThere 0 = .ok (.aload_n 0, 1) := by decide +kernel
theorem dX12_isThere_1 : decode cX12_isThere 1 = .ok (.getfield 19, 3) := by decide +kernel
theorem dX12_isThere_4 : decode cX12_isThere 4 = .ok (.iconst 0, 1) := by decide +kernel
theorem dX12_isThere_5 : decode cX12_isThere 5 = .ok (.iaload, 1) := by decide +kernel
theorem dX12_isThere_6 : decode cX12_isThere 6 = .ok (.iconst 1, 1) := by decide +kernel
theorem dX12_isThere_7 : decode cX12_isThere 7 = .ok (.if_icmp .ne 7, 3) := by decide +kernel
theorem dX12_isThere_10 : decode cX12_isThere 10 = .ok (.iconst 1, 1) := by decide +kernel
theorem dX12_isThere_11 : decode cX12_isThere 11 = .ok (.goto 4, 3) := by decide +kernel
theorem dX12_isThere_14 : decode cX12_isThere 14 = .ok (.iconst 0, 1) := by decide +kernel
theorem dX12_isThere_15 : decode cX12_isThere 15 = .ok (.ireturn, 1) := by decide +kernel
theorem dX12_isDummy_0 : decode cX12_isDummy 0 = .ok (.iload_n 1, 1) := by decide +kernel
theorem dX12_isDummy_1 : decode cX12_isDummy 1 = .ok (.i2l, 1) := by decide +kernel
theorem dX12_isDummy_2 : decode cX12_isDummy 2 = .ok (.lconst 0, 1) := by decide +kernel
theorem dX12_isDummy_3 : decode cX12_isDummy 3 = .ok (.aload_n 0, 1) := by decide +kernel
theorem dX12_isDummy_4 : decode cX12_isDummy 4 = .ok (.getfield 19, 3) := by decide +kernel
theorem dX12_isDummy_7 : decode cX12_isDummy 7 = .ok (.iconst 2, 1) := by decide +kernel
theorem dX12_isDummy_8 : decode cX12_isDummy 8 = .ok (.iaload, 1) := by decide +kernel
theorem dX12_isDummy_9 : decode cX12_isDummy 9 = .ok (.iconst 1, 1) := by decide +kernel
theorem dX12_isDummy_10 : decode cX12_isDummy 10 = .ok (.isub, 1) := by decide +kernel
theorem dX12_isDummy_11 : decode cX12_isDummy 11 = .ok (.i2l, 1) := by decide +kernel
theorem dX12_isDummy_12 : decode cX12_isDummy 12 = .ok (.invokestatic 63, 3) := by decide +kernel
theorem dX12_isDummy_15 : decode cX12_isDummy 15 = .ok (.ireturn, 1) := by decide +kernel
theorem dX12_isPlace_0 : decode cX12_isPlace 0 = .ok (.iload_n 0, 1) := by decide +kernel
theorem dX12_isPlace_1 : decode cX12_isPlace 1 = .ok (.i2l, 1) := by decide +kernel
theorem dX12_isPlace_2 : decode cX12_isPlace 2 = .ok (.lconst 0, 1) := by decide +kernel
theorem dX12_isPlace_3 : decode cX12_isPlace 3 = .ok (.ldc2_w 71, 3) := by decide +kernel
theorem dX12_isPlace_6 : decode cX12_isPlace 6 = .ok (.invokestatic 63, 3) := by decide +kernel
theorem dX12_isPlace_9 : decode cX12_isPlace 9 = .ok (.ireturn, 1) := by decide +kernel
theorem dX12_isMouth_0 : decode cX12_isMouth 0 = .ok (.iload_n 1, 1) := by decide +kernel
theorem dX12_isMouth_1 : decode cX12_isMouth 1 = .ok (.i2l, 1) := by decide +kernel
theorem dX12_isMouth_2 : decode cX12_isMouth 2 = .ok (.lconst 0, 1) := by decide +kernel
theorem dX12_isMouth_3 : decode cX12_isMouth 3 = .ok (.aload_n 0, 1) := by decide +kernel
theorem dX12_isMouth_4 : decode cX12_isMouth 4 = .ok (.getfield 19, 3) := by decide +kernel
theorem dX12_isMouth_7 : decode cX12_isMouth 7 = .ok (.iconst 3, 1) := by decide +kernel
theorem dX12_isMouth_8 : decode cX12_isMouth 8 = .ok (.iaload, 1) := by decide +kernel
theorem dX12_isMouth_9 : decode cX12_isMouth 9 = .ok (.iconst 1, 1) := by decide +kernel
theorem dX12_isMouth_10 : decode cX12_isMouth 10 = .ok (.isub, 1) := by decide +kernel
theorem dX12_isMouth_11 : decode cX12_isMouth 11 = .ok (.i2l, 1) := by decide +kernel
theorem dX12_isMouth_12 : decode cX12_isMouth 12 = .ok (.invokestatic 63, 3) := by decide +kernel
theorem dX12_isMouth_15 : decode cX12_isMouth 15 = .ok (.ireturn, 1) := by decide +kernel
theorem dX12_kindOf_0 : decode cX12_kindOf 0 = .ok (.aload_n 0, 1) := by decide +kernel
theorem dX12_kindOf_1 : decode cX12_kindOf 1 = .ok (.getfield 19, 3) := by decide +kernel
theorem dX12_kindOf_4 : decode cX12_kindOf 4 = .ok (.bipush 41, 2) := by decide +kernel
theorem dX12_kindOf_6 : decode cX12_kindOf 6 = .ok (.iconst 2, 1) := by decide +kernel
theorem dX12_kindOf_7 : decode cX12_kindOf 7 = .ok (.iload_n 1, 1) := by decide +kernel
theorem dX12_kindOf_8 : decode cX12_kindOf 8 = .ok (.imul, 1) := by decide +kernel
theorem dX12_kindOf_9 : decode cX12_kindOf 9 = .ok (.iadd, 1) := by decide +kernel
theorem dX12_kindOf_10 : decode cX12_kindOf 10 = .ok (.iaload, 1) := by decide +kernel
theorem dX12_kindOf_11 : decode cX12_kindOf 11 = .ok (.ireturn, 1) := by decide +kernel
theorem dX12_bribeOf_0 : decode cX12_bribeOf 0 = .ok (.aload_n 0, 1) := by decide +kernel
theorem dX12_bribeOf_1 : decode cX12_bribeOf 1 = .ok (.getfield 19, 3) := by decide +kernel
theorem dX12_bribeOf_4 : decode cX12_bribeOf 4 = .ok (.bipush 41, 2) := by decide +kernel
theorem dX12_bribeOf_6 : decode cX12_bribeOf 6 = .ok (.iconst 2, 1) := by decide +kernel
theorem dX12_bribeOf_7 : decode cX12_bribeOf 7 = .ok (.iload_n 1, 1) := by decide +kernel
theorem dX12_bribeOf_8 : decode cX12_bribeOf 8 = .ok (.imul, 1) := by decide +kernel
theorem dX12_bribeOf_9 : decode cX12_bribeOf 9 = .ok (.iadd, 1) := by decide +kernel
theorem dX12_bribeOf_10 : decode cX12_bribeOf 10 = .ok (.iconst 1, 1) := by decide +kernel
theorem dX12_bribeOf_11 : decode cX12_bribeOf 11 = .ok (.iadd, 1) := by decide +kernel
theorem dX12_bribeOf_12 : decode cX12_bribeOf 12 = .ok (.iaload, 1) := by decide +kernel
theorem dX12_bribeOf_13 : decode cX12_bribeOf 13 = .ok (.ireturn, 1) := by decide +kernel
theorem dX12_padsOf_0 : decode cX12_padsOf 0 = .ok (.aload_n 0, 1) := by decide +kernel
theorem dX12_padsOf_1 : decode cX12_padsOf 1 = .ok (.iload_n 1, 1) := by decide +kernel
theorem dX12_padsOf_2 : decode cX12_padsOf 2 = .ok (.invokevirtual 155, 3) := by decide +kernel
theorem dX12_padsOf_5 : decode cX12_padsOf 5 = .ok (.tableswitch 55 2 5 #[31, 43, 46, 50], 31) := by decide +kernel
theorem dX12_padsOf_36 : decode cX12_padsOf 36 = .ok (.iload_n 2, 1) := by decide +kernel
theorem dX12_padsOf_37 : decode cX12_padsOf 37 = .ok (.ifCond .le 9, 3) := by decide +kernel
theorem dX12_padsOf_40 : decode cX12_padsOf 40 = .ok (.iconst 2, 1) := by decide +kernel
theorem dX12_padsOf_41 : decode cX12_padsOf 41 = .ok (.iload_n 2, 1) := by decide +kernel
theorem dX12_padsOf_42 : decode cX12_padsOf 42 = .ok (.imul, 1) := by decide +kernel
theorem dX12_padsOf_43 : decode cX12_padsOf 43 = .ok (.goto 4, 3) := by decide +kernel
theorem dX12_padsOf_46 : decode cX12_padsOf 46 = .ok (.iload_n 2, 1) := by decide +kernel
theorem dX12_padsOf_47 : decode cX12_padsOf 47 = .ok (.ireturn, 1) := by decide +kernel
theorem dX12_padsOf_48 : decode cX12_padsOf 48 = .ok (.iload_n 2, 1) := by decide +kernel
theorem dX12_padsOf_49 : decode cX12_padsOf 49 = .ok (.ineg, 1) := by decide +kernel
theorem dX12_padsOf_50 : decode cX12_padsOf 50 = .ok (.ireturn, 1) := by decide +kernel
theorem dX12_padsOf_51 : decode cX12_padsOf 51 = .ok (.iload_n 2, 1) := by decide +kernel
theorem dX12_padsOf_52 : decode cX12_padsOf 52 = .ok (.iconst 2, 1) := by decide +kernel
theorem dX12_padsOf_53 : decode cX12_padsOf 53 = .ok (.idiv, 1) := by decide +kernel
theorem dX12_padsOf_54 : decode cX12_padsOf 54 = .ok (.ireturn, 1) := by decide +kernel
theorem dX12_padsOf_55 : decode cX12_padsOf 55 = .ok (.iload_n 2, 1) := by decide +kernel
theorem dX12_padsOf_56 : decode cX12_padsOf 56 = .ok (.iconst 2, 1) := by decide +kernel
theorem dX12_padsOf_57 : decode cX12_padsOf 57 = .ok (.idiv, 1) := by decide +kernel
theorem dX12_padsOf_58 : decode cX12_padsOf 58 = .ok (.ineg, 1) := by decide +kernel
theorem dX12_padsOf_59 : decode cX12_padsOf 59 = .ok (.ireturn, 1) := by decide +kernel
theorem dX12_padsOf_60 : decode cX12_padsOf 60 = .ok (.iload_n 2, 1) := by decide +kernel
theorem dX12_padsOf_61 : decode cX12_padsOf 61 = .ok (.ireturn, 1) := by decide +kernel
theorem dX12_keep_0 : decode cX12_keep 0 = .ok (.aload_n 0, 1) := by decide +kernel
theorem dX12_keep_1 : decode cX12_keep 1 = .ok (.getfield 152, 3) := by decide +kernel
theorem dX12_keep_4 : decode cX12_keep 4 = .ok (.bipush 24, 2) := by decide +kernel
theorem dX12_keep_6 : decode cX12_keep 6 = .ok (.if_icmp .ne 44, 3) := by decide +kernel
theorem dX12_keep_9 : decode cX12_keep 9 = .ok (.iconst 0, 1) := by decide +kernel
theorem dX12_keep_10 : decode cX12_keep 10 = .ok (.istore_n 1, 1) := by decide +kernel
theorem dX12_keep_11 : decode cX12_keep 11 = .ok (.iload_n 1, 1) := by decide +kernel
theorem dX12_keep_12 : decode cX12_keep 12 = .ok (.sipush 3381, 3) := by decide +kernel
theorem dX12_keep_15 : decode cX12_keep 15 = .ok (.if_icmp .ge 25, 3) := by decide +kernel
theorem dX12_keep_18 : decode cX12_keep 18 = .ok (.aload_n 0, 1) := by decide +kernel
theorem dX12_keep_19 : decode cX12_keep 19 = .ok (.getfield 25, 3) := by decide +kernel
theorem dX12_keep_22 : decode cX12_keep 22 = .ok (.iload_n 1, 1) := by decide +kernel
theorem dX12_keep_23 : decode cX12_keep 23 = .ok (.aload_n 0, 1) := by decide +kernel
theorem dX12_keep_24 : decode cX12_keep 24 = .ok (.getfield 25, 3) := by decide +kernel
theorem dX12_keep_27 : decode cX12_keep 27 = .ok (.iload_n 1, 1) := by decide +kernel
theorem dX12_keep_28 : decode cX12_keep 28 = .ok (.sipush 147, 3) := by decide +kernel
theorem dX12_keep_31 : decode cX12_keep 31 = .ok (.iadd, 1) := by decide +kernel
theorem dX12_keep_32 : decode cX12_keep 32 = .ok (.iaload, 1) := by decide +kernel
theorem dX12_keep_33 : decode cX12_keep 33 = .ok (.iastore, 1) := by decide +kernel
theorem dX12_keep_34 : decode cX12_keep 34 = .ok (.iinc 1 1, 3) := by decide +kernel
theorem dX12_keep_37 : decode cX12_keep 37 = .ok (.goto (-26), 3) := by decide +kernel
theorem dX12_keep_40 : decode cX12_keep 40 = .ok (.aload_n 0, 1) := by decide +kernel
theorem dX12_keep_41 : decode cX12_keep 41 = .ok (.dup, 1) := by decide +kernel
theorem dX12_keep_42 : decode cX12_keep 42 = .ok (.getfield 152, 3) := by decide +kernel
theorem dX12_keep_45 : decode cX12_keep 45 = .ok (.iconst 1, 1) := by decide +kernel
theorem dX12_keep_46 : decode cX12_keep 46 = .ok (.isub, 1) := by decide +kernel
theorem dX12_keep_47 : decode cX12_keep 47 = .ok (.putfield 152, 3) := by decide +kernel
theorem dX12_keep_50 : decode cX12_keep 50 = .ok (.iconst 0, 1) := by decide +kernel
theorem dX12_keep_51 : decode cX12_keep 51 = .ok (.istore_n 1, 1) := by decide +kernel
theorem dX12_keep_52 : decode cX12_keep 52 = .ok (.iload_n 1, 1) := by decide +kernel
theorem dX12_keep_53 : decode cX12_keep 53 = .ok (.sipush 147, 3) := by decide +kernel
theorem dX12_keep_56 : decode cX12_keep 56 = .ok (.if_icmp .ge 30, 3) := by decide +kernel
theorem dX12_keep_59 : decode cX12_keep 59 = .ok (.aload_n 0, 1) := by decide +kernel
theorem dX12_keep_60 : decode cX12_keep 60 = .ok (.getfield 25, 3) := by decide +kernel
theorem dX12_keep_63 : decode cX12_keep 63 = .ok (.sipush 147, 3) := by decide +kernel
theorem dX12_keep_66 : decode cX12_keep 66 = .ok (.aload_n 0, 1) := by decide +kernel
theorem dX12_keep_67 : decode cX12_keep 67 = .ok (.getfield 152, 3) := by decide +kernel
theorem dX12_keep_70 : decode cX12_keep 70 = .ok (.imul, 1) := by decide +kernel
theorem dX12_keep_71 : decode cX12_keep 71 = .ok (.iload_n 1, 1) := by decide +kernel
theorem dX12_keep_72 : decode cX12_keep 72 = .ok (.iadd, 1) := by decide +kernel
theorem dX12_keep_73 : decode cX12_keep 73 = .ok (.aload_n 0, 1) := by decide +kernel
theorem dX12_keep_74 : decode cX12_keep 74 = .ok (.getfield 19, 3) := by decide +kernel
theorem dX12_keep_77 : decode cX12_keep 77 = .ok (.iload_n 1, 1) := by decide +kernel
theorem dX12_keep_78 : decode cX12_keep 78 = .ok (.iaload, 1) := by decide +kernel
theorem dX12_keep_79 : decode cX12_keep 79 = .ok (.iastore, 1) := by decide +kernel
theorem dX12_keep_80 : decode cX12_keep 80 = .ok (.iinc 1 1, 3) := by decide +kernel
theorem dX12_keep_83 : decode cX12_keep 83 = .ok (.goto (-31), 3) := by decide +kernel
theorem dX12_keep_86 : decode cX12_keep 86 = .ok (.aload_n 0, 1) := by decide +kernel
theorem dX12_keep_87 : decode cX12_keep 87 = .ok (.dup, 1) := by decide +kernel
theorem dX12_keep_88 : decode cX12_keep 88 = .ok (.getfield 152, 3) := by decide +kernel
theorem dX12_keep_91 : decode cX12_keep 91 = .ok (.iconst 1, 1) := by decide +kernel
theorem dX12_keep_92 : decode cX12_keep 92 = .ok (.iadd, 1) := by decide +kernel
theorem dX12_keep_93 : decode cX12_keep 93 = .ok (.putfield 152, 3) := by decide +kernel
theorem dX12_keep_96 : decode cX12_keep 96 = .ok (.return_, 1) := by decide +kernel
theorem dX12_lineOf_0 : decode cX12_lineOf 0 = .ok (.aload_n 0, 1) := by decide +kernel
theorem dX12_lineOf_1 : decode cX12_lineOf 1 = .ok (.getfield 19, 3) := by decide +kernel
theorem dX12_lineOf_4 : decode cX12_lineOf 4 = .ok (.bipush 51, 2) := by decide +kernel
theorem dX12_lineOf_6 : decode cX12_lineOf 6 = .ok (.bipush 6, 2) := by decide +kernel
theorem dX12_lineOf_8 : decode cX12_lineOf 8 = .ok (.iload_n 1, 1) := by decide +kernel
theorem dX12_lineOf_9 : decode cX12_lineOf 9 = .ok (.imul, 1) := by decide +kernel
theorem dX12_lineOf_10 : decode cX12_lineOf 10 = .ok (.iadd, 1) := by decide +kernel
theorem dX12_lineOf_11 : decode cX12_lineOf 11 = .ok (.iload_n 2, 1) := by decide +kernel
theorem dX12_lineOf_12 : decode cX12_lineOf 12 = .ok (.iadd, 1) := by decide +kernel
theorem dX12_lineOf_13 : decode cX12_lineOf 13 = .ok (.iaload, 1) := by decide +kernel
theorem dX12_lineOf_14 : decode cX12_lineOf 14 = .ok (.ireturn, 1) := by decide +kernel
theorem dX12_logs_0 : decode cX12_logs 0 = .ok (.bipush 51, 2) := by decide +kernel
theorem dX12_logs_2 : decode cX12_logs 2 = .ok (.bipush 6, 2) := by decide +kernel
theorem dX12_logs_4 : decode cX12_logs 4 = .ok (.aload_n 0, 1) := by decide +kernel
theorem dX12_logs_5 : decode cX12_logs 5 = .ok (.getfield 19, 3) := by decide +kernel
theorem dX12_logs_8 : decode cX12_logs 8 = .ok (.iconst 4, 1) := by decide +kernel
theorem dX12_logs_9 : decode cX12_logs 9 = .ok (.iaload, 1) := by decide +kernel
theorem dX12_logs_10 : decode cX12_logs 10 = .ok (.imul, 1) := by decide +kernel
theorem dX12_logs_11 : decode cX12_logs 11 = .ok (.iadd, 1) := by decide +kernel
theorem dX12_logs_12 : decode cX12_logs 12 = .ok (.istore 7, 2) := by decide +kernel
theorem dX12_logs_14 : decode cX12_logs 14 = .ok (.aload_n 0, 1) := by decide +kernel
theorem dX12_logs_15 : decode cX12_logs 15 = .ok (.getfield 19, 3) := by decide +kernel
theorem dX12_logs_18 : decode cX12_logs 18 = .ok (.iload 7, 2) := by decide +kernel
theorem dX12_logs_20 : decode cX12_logs 20 = .ok (.iload_n 1, 1) := by decide +kernel
theorem dX12_logs_21 : decode cX12_logs 21 = .ok (.iastore, 1) := by decide +kernel
theorem dX12_logs_22 : decode cX12_logs 22 = .ok (.aload_n 0, 1) := by decide +kernel
theorem dX12_logs_23 : decode cX12_logs 23 = .ok (.getfield 19, 3) := by decide +kernel
theorem dX12_logs_26 : decode cX12_logs 26 = .ok (.iload 7, 2) := by decide +kernel
theorem dX12_logs_28 : decode cX12_logs 28 = .ok (.iconst 1, 1) := by decide +kernel
theorem dX12_logs_29 : decode cX12_logs 29 = .ok (.iadd, 1) := by decide +kernel
theorem dX12_logs_30 : decode cX12_logs 30 = .ok (.iload_n 2, 1) := by decide +kernel
theorem dX12_logs_31 : decode cX12_logs 31 = .ok (.iastore, 1) := by decide +kernel
theorem dX12_logs_32 : decode cX12_logs 32 = .ok (.aload_n 0, 1) := by decide +kernel
theorem dX12_logs_33 : decode cX12_logs 33 = .ok (.getfield 19, 3) := by decide +kernel
theorem dX12_logs_36 : decode cX12_logs 36 = .ok (.iload 7, 2) := by decide +kernel
theorem dX12_logs_38 : decode cX12_logs 38 = .ok (.iconst 2, 1) := by decide +kernel
theorem dX12_logs_39 : decode cX12_logs 39 = .ok (.iadd, 1) := by decide +kernel
theorem dX12_logs_40 : decode cX12_logs 40 = .ok (.iload_n 3, 1) := by decide +kernel
theorem dX12_logs_41 : decode cX12_logs 41 = .ok (.iastore, 1) := by decide +kernel
theorem dX12_logs_42 : decode cX12_logs 42 = .ok (.aload_n 0, 1) := by decide +kernel
theorem dX12_logs_43 : decode cX12_logs 43 = .ok (.getfield 19, 3) := by decide +kernel
theorem dX12_logs_46 : decode cX12_logs 46 = .ok (.iload 7, 2) := by decide +kernel
theorem dX12_logs_48 : decode cX12_logs 48 = .ok (.iconst 3, 1) := by decide +kernel
theorem dX12_logs_49 : decode cX12_logs 49 = .ok (.iadd, 1) := by decide +kernel
theorem dX12_logs_50 : decode cX12_logs 50 = .ok (.iload 4, 2) := by decide +kernel
theorem dX12_logs_52 : decode cX12_logs 52 = .ok (.iastore, 1) := by decide +kernel
theorem dX12_logs_53 : decode cX12_logs 53 = .ok (.aload_n 0, 1) := by decide +kernel
theorem dX12_logs_54 : decode cX12_logs 54 = .ok (.getfield 19, 3) := by decide +kernel
theorem dX12_logs_57 : decode cX12_logs 57 = .ok (.iload 7, 2) := by decide +kernel
theorem dX12_logs_59 : decode cX12_logs 59 = .ok (.iconst 4, 1) := by decide +kernel
theorem dX12_logs_60 : decode cX12_logs 60 = .ok (.iadd, 1) := by decide +kernel
theorem dX12_logs_61 : decode cX12_logs 61 = .ok (.iload 5, 2) := by decide +kernel
theorem dX12_logs_63 : decode cX12_logs 63 = .ok (.iastore, 1) := by decide +kernel
theorem dX12_logs_64 : decode cX12_logs 64 = .ok (.aload_n 0, 1) := by decide +kernel
theorem dX12_logs_65 : decode cX12_logs 65 = .ok (.getfield 19, 3) := by decide +kernel
theorem dX12_logs_68 : decode cX12_logs 68 = .ok (.iload 7, 2) := by decide +kernel
theorem dX12_logs_70 : decode cX12_logs 70 = .ok (.iconst 5, 1) := by decide +kernel
theorem dX12_logs_71 : decode cX12_logs 71 = .ok (.iadd, 1) := by decide +kernel
theorem dX12_logs_72 : decode cX12_logs 72 = .ok (.iload 6, 2) := by decide +kernel
theorem dX12_logs_74 : decode cX12_logs 74 = .ok (.iastore, 1) := by decide +kernel
theorem dX12_logs_75 : decode cX12_logs 75 = .ok (.aload_n 0, 1) := by decide +kernel
theorem dX12_logs_76 : decode cX12_logs 76 = .ok (.getfield 19, 3) := by decide +kernel
theorem dX12_logs_79 : decode cX12_logs 79 = .ok (.iconst 4, 1) := by decide +kernel
theorem dX12_logs_80 : decode cX12_logs 80 = .ok (.dup2, 1) := by decide +kernel
theorem dX12_logs_81 : decode cX12_logs 81 = .ok (.iaload, 1) := by decide +kernel
theorem dX12_logs_82 : decode cX12_logs 82 = .ok (.iconst 1, 1) := by decide +kernel
theorem dX12_logs_83 : decode cX12_logs 83 = .ok (.iadd, 1) := by decide +kernel
theorem dX12_logs_84 : decode cX12_logs 84 = .ok (.iastore, 1) := by decide +kernel
theorem dX12_logs_85 : decode cX12_logs 85 = .ok (.return_, 1) := by decide +kernel
theorem dX12_tell_0 : decode cX12_tell 0 = .ok (.aload_n 0, 1) := by decide +kernel
theorem dX12_tell_1 : decode cX12_tell 1 = .ok (.iconst 0, 1) := by decide +kernel
theorem dX12_tell_2 : decode cX12_tell 2 = .ok (.putfield 53, 3) := by decide +kernel
theorem dX12_tell_5 : decode cX12_tell 5 = .ok (.aload_n 0, 1) := by decide +kernel
theorem dX12_tell_6 : decode cX12_tell 6 = .ok (.iload_n 1, 1) := by decide +kernel
theorem dX12_tell_7 : decode cX12_tell 7 = .ok (.invokevirtual 158, 3) := by decide +kernel
theorem dX12_tell_10 : decode cX12_tell 10 = .ok (.ifCond .eq 33, 3) := by decide +kernel
theorem dX12_tell_13 : decode cX12_tell 13 = .ok (.aload_n 0, 1) := by decide +kernel
theorem dX12_tell_14 : decode cX12_tell 14 = .ok (.iload_n 2, 1) := by decide +kernel
theorem dX12_tell_15 : decode cX12_tell 15 = .ok (.invokevirtual 161, 3) := by decide +kernel
theorem dX12_tell_18 : decode cX12_tell 18 = .ok (.ifCond .eq 25, 3) := by decide +kernel
theorem dX12_tell_21 : decode cX12_tell 21 = .ok (.iload_n 3, 1) := by decide +kernel
theorem dX12_tell_22 : decode cX12_tell 22 = .ok (.invokestatic 164, 3) := by decide +kernel
theorem dX12_tell_25 : decode cX12_tell 25 = .ok (.ifCond .eq 18, 3) := by decide +kernel
theorem dX12_tell_28 : decode cX12_tell 28 = .ok (.iload 4, 2) := by decide +kernel
theorem dX12_tell_30 : decode cX12_tell 30 = .ok (.i2l, 1) := by decide +kernel
theorem dX12_tell_31 : decode cX12_tell 31 = .ok (.ldc2_w 167, 3) := by decide +kernel
theorem dX12_tell_34 : decode cX12_tell 34 = .ok (.ldc2_w 169, 3) := by decide +kernel
theorem dX12_tell_37 : decode cX12_tell 37 = .ok (.invokestatic 63, 3) := by decide +kernel
theorem dX12_tell_40 : decode cX12_tell 40 = .ok (.ifCond .ne 6, 3) := by decide +kernel
theorem dX12_tell_43 : decode cX12_tell 43 = .ok (.ldc 73, 2) := by decide +kernel
theorem dX12_tell_45 : decode cX12_tell 45 = .ok (.ireturn, 1) := by decide +kernel
theorem dX12_tell_46 : decode cX12_tell 46 = .ok (.aload_n 0, 1) := by decide +kernel
theorem dX12_tell_47 : decode cX12_tell 47 = .ok (.iload_n 1, 1) := by decide +kernel
theorem dX12_tell_48 : decode cX12_tell 48 = .ok (.iload 4, 2) := by decide +kernel
theorem dX12_tell_50 : decode cX12_tell 50 = .ok (.invokevirtual 171, 3) := by decide +kernel
theorem dX12_tell_53 : decode cX12_tell 53 = .ok (.istore 5, 2) := by decide +kernel
theorem dX12_tell_55 : decode cX12_tell 55 = .ok (.iconst 3, 1) := by decide +kernel
theorem dX12_tell_56 : decode cX12_tell 56 = .ok (.iload_n 2, 1) := by decide +kernel
theorem dX12_tell_57 : decode cX12_tell 57 = .ok (.imul, 1) := by decide +kernel
theorem dX12_tell_58 : decode cX12_tell 58 = .ok (.iload_n 3, 1) := by decide +kernel
theorem dX12_tell_59 : decode cX12_tell 59 = .ok (.iadd, 1) := by decide +kernel
theorem dX12_tell_60 : decode cX12_tell 60 = .ok (.istore 6, 2) := by decide +kernel
theorem dX12_tell_62 : decode cX12_tell 62 = .ok (.aload_n 0, 1) := by decide +kernel
theorem dX12_tell_63 : decode cX12_tell 63 = .ok (.getfield 19, 3) := by decide +kernel
theorem dX12_tell_66 : decode cX12_tell 66 = .ok (.iconst 4, 1) := by decide +kernel
theorem dX12_tell_67 : decode cX12_tell 67 = .ok (.iaload, 1) := by decide +kernel
theorem dX12_tell_68 : decode cX12_tell 68 = .ok (.bipush 16, 2) := by decide +kernel
theorem dX12_tell_70 : decode cX12_tell 70 = .ok (.if_icmp .eq 54, 3) := by decide +kernel
theorem dX12_tell_73 : decode cX12_tell 73 = .ok (.aload_n 0, 1) := by decide +kernel
theorem dX12_tell_74 : decode cX12_tell 74 = .ok (.getfield 19, 3) := by decide +kernel
theorem dX12_tell_77 : decode cX12_tell 77 = .ok (.iconst 5, 1) := by decide +kernel
theorem dX12_tell_78 : decode cX12_tell 78 = .ok (.iload 6, 2) := by decide +kernel
theorem dX12_tell_80 : decode cX12_tell 80 = .ok (.iadd, 1) := by decide +kernel
theorem dX12_tell_81 : decode cX12_tell 81 = .ok (.iaload, 1) := by decide +kernel
theorem dX12_tell_82 : decode cX12_tell 82 = .ok (.iload 5, 2) := by decide +kernel
theorem dX12_tell_84 : decode cX12_tell 84 = .ok (.iadd, 1) := by decide +kernel
theorem dX12_tell_85 : decode cX12_tell 85 = .ok (.i2l, 1) := by decide +kernel
theorem dX12_tell_86 : decode cX12_tell 86 = .ok (.ldc2_w 174, 3) := by decide +kernel
theorem dX12_tell_89 : decode cX12_tell 89 = .ok (.ldc2_w 176, 3) := by decide +kernel
theorem dX12_tell_92 : decode cX12_tell 92 = .ok (.invokestatic 63, 3) := by decide +kernel
theorem dX12_tell_95 : decode cX12_tell 95 = .ok (.ifCond .eq 29, 3) := by decide +kernel
theorem dX12_tell_98 : decode cX12_tell 98 = .ok (.aload_n 0, 1) := by decide +kernel
theorem dX12_tell_99 : decode cX12_tell 99 = .ok (.getfield 19, 3) := by decide +kernel
theorem dX12_tell_102 : decode cX12_tell 102 = .ok (.bipush 29, 2) := by decide +kernel
theorem dX12_tell_104 : decode cX12_tell 104 = .ok (.iload 6, 2) := by decide +kernel
theorem dX12_tell_106 : decode cX12_tell 106 = .ok (.iadd, 1) := by decide +kernel
theorem dX12_tell_107 : decode cX12_tell 107 = .ok (.iaload, 1) := by decide +kernel
theorem dX12_tell_108 : decode cX12_tell 108 = .ok (.iload 4, 2) := by decide +kernel
theorem dX12_tell_110 : decode cX12_tell 110 = .ok (.iadd, 1) := by decide +kernel
theorem dX12_tell_111 : decode cX12_tell 111 = .ok (.i2l, 1) := by decide +kernel
theorem dX12_tell_112 : decode cX12_tell 112 = .ok (.ldc2_w 174, 3) := by decide +kernel
theorem dX12_tell_115 : decode cX12_tell 115 = .ok (.ldc2_w 176, 3) := by decide +kernel
theorem dX12_tell_118 : decode cX12_tell 118 = .ok (.invokestatic 63, 3) := by decide +kernel
theorem dX12_tell_121 : decode cX12_tell 121 = .ok (.ifCond .ne 6, 3) := by decide +kernel
theorem dX12_tell_124 : decode cX12_tell 124 = .ok (.ldc 83, 2) := by decide +kernel
theorem dX12_tell_126 : decode cX12_tell 126 = .ok (.ireturn, 1) := by decide +kernel
theorem dX12_tell_127 : decode cX12_tell 127 = .ok (.aload_n 0, 1) := by decide +kernel
theorem dX12_tell_128 : decode cX12_tell 128 = .ok (.invokevirtual 178, 3) := by decide +kernel
theorem dX12_tell_131 : decode cX12_tell 131 = .ok (.aload_n 0, 1) := by decide +kernel
theorem dX12_tell_132 : decode cX12_tell 132 = .ok (.iconst 0, 1) := by decide +kernel
theorem dX12_tell_133 : decode cX12_tell 133 = .ok (.iload_n 1, 1) := by decide +kernel
theorem dX12_tell_134 : decode cX12_tell 134 = .ok (.iload_n 2, 1) := by decide +kernel
theorem dX12_tell_135 : decode cX12_tell 135 = .ok (.iload_n 3, 1) := by decide +kernel
theorem dX12_tell_136 : decode cX12_tell 136 = .ok (.iload 4, 2) := by decide +kernel
theorem dX12_tell_138 : decode cX12_tell 138 = .ok (.iload 5, 2) := by decide +kernel
theorem dX12_tell_140 : decode cX12_tell 140 = .ok (.invokevirtual 181, 3) := by decide +kernel
theorem dX12_tell_143 : decode cX12_tell 143 = .ok (.aload_n 0, 1) := by decide +kernel
theorem dX12_tell_144 : decode cX12_tell 144 = .ok (.getfield 19, 3) := by decide +kernel
theorem dX12_tell_147 : decode cX12_tell 147 = .ok (.iconst 5, 1) := by decide +kernel
theorem dX12_tell_148 : decode cX12_tell 148 = .ok (.iload 6, 2) := by decide +kernel
theorem dX12_tell_150 : decode cX12_tell 150 = .ok (.iadd, 1) := by decide +kernel
theorem dX12_tell_151 : decode cX12_tell 151 = .ok (.dup2, 1) := by decide +kernel
theorem dX12_tell_152 : decode cX12_tell 152 = .ok (.iaload, 1) := by decide +kernel
theorem dX12_tell_153 : decode cX12_tell 153 = .ok (.iload 5, 2) := by decide +kernel
theorem dX12_tell_155 : decode cX12_tell 155 = .ok (.iadd, 1) := by decide +kernel
theorem dX12_tell_156 : decode cX12_tell 156 = .ok (.iastore, 1) := by decide +kernel
theorem dX12_tell_157 : decode cX12_tell 157 = .ok (.aload_n 0, 1) := by decide +kernel
theorem dX12_tell_158 : decode cX12_tell 158 = .ok (.getfield 19, 3) := by decide +kernel
theorem dX12_tell_161 : decode cX12_tell 161 = .ok (.bipush 29, 2) := by decide +kernel
theorem dX12_tell_163 : decode cX12_tell 163 = .ok (.iload 6, 2) := by decide +kernel
theorem dX12_tell_165 : decode cX12_tell 165 = .ok (.iadd, 1) := by decide +kernel
theorem dX12_tell_166 : decode cX12_tell 166 = .ok (.dup2, 1) := by decide +kernel
theorem dX12_tell_167 : decode cX12_tell 167 = .ok (.iaload, 1) := by decide +kernel
theorem dX12_tell_168 : decode cX12_tell 168 = .ok (.iload 4, 2) := by decide +kernel
theorem dX12_tell_170 : decode cX12_tell 170 = .ok (.iadd, 1) := by decide +kernel
theorem dX12_tell_171 : decode cX12_tell 171 = .ok (.iastore, 1) := by decide +kernel
theorem dX12_tell_172 : decode cX12_tell 172 = .ok (.aload_n 0, 1) := by decide +kernel
theorem dX12_tell_173 : decode cX12_tell 173 = .ok (.getfield 19, 3) := by decide +kernel
theorem dX12_tell_176 : decode cX12_tell 176 = .ok (.iconst 5, 1) := by decide +kernel
theorem dX12_tell_177 : decode cX12_tell 177 = .ok (.iload 6, 2) := by decide +kernel
theorem dX12_tell_179 : decode cX12_tell 179 = .ok (.iadd, 1) := by decide +kernel
theorem dX12_tell_180 : decode cX12_tell 180 = .ok (.iaload, 1) := by decide +kernel
theorem dX12_tell_181 : decode cX12_tell 181 = .ok (.ireturn, 1) := by decide +kernel
theorem dX12_lessOf_0 : decode cX12_lessOf 0 = .ok (.iload_n 1, 1) := by decide +kernel
theorem dX12_lessOf_1 : decode cX12_lessOf 1 = .ok (.iload_n 2, 1) := by decide +kernel
theorem dX12_lessOf_2 : decode cX12_lessOf 2 = .ok (.if_icmp .le 16, 3) := by decide +kernel
theorem dX12_lessOf_5 : decode cX12_lessOf 5 = .ok (.iload_n 1, 1) := by decide +kernel
theorem dX12_lessOf_6 : decode cX12_lessOf 6 = .ok (.iload_n 2, 1) := by decide +kernel
theorem dX12_lessOf_7 : decode cX12_lessOf 7 = .ok (.isub, 1) := by decide +kernel
theorem dX12_lessOf_8 : decode cX12_lessOf 8 = .ok (.aload_n 0, 1) := by decide +kernel
theorem dX12_lessOf_9 : decode cX12_lessOf 9 = .ok (.getfield 19, 3) := by decide +kernel
theorem dX12_lessOf_12 : decode cX12_lessOf 12 = .ok (.iconst 1, 1) := by decide +kernel
theorem dX12_lessOf_13 : decode cX12_lessOf 13 = .ok (.iaload, 1) := by decide +kernel
theorem dX12_lessOf_14 : decode cX12_lessOf 14 = .ok (.idiv, 1) := by decide +kernel
theorem dX12_lessOf_15 : decode cX12_lessOf 15 = .ok (.goto 4, 3) := by decide +kernel
theorem dX12_lessOf_18 : decode cX12_lessOf 18 = .ok (.iconst 0, 1) := by decide +kernel
theorem dX12_lessOf_19 : decode cX12_lessOf 19 = .ok (.ireturn, 1) := by decide +kernel
theorem dX12_year_0 : decode cX12_year 0 = .ok (.aload_n 0, 1) := by decide +kernel
theorem dX12_year_1 : decode cX12_year 1 = .ok (.iconst 0, 1) := by decide +kernel
theorem dX12_year_2 : decode cX12_year 2 = .ok (.putfield 53, 3) := by decide +kernel
theorem dX12_year_5 : decode cX12_year 5 = .ok (.aload_n 0, 1) := by decide +kernel
theorem dX12_year_6 : decode cX12_year 6 = .ok (.invokevirtual 185, 3) := by decide +kernel
theorem dX12_year_9 : decode cX12_year 9 = .ok (.ifCond .ne 6, 3) := by decide +kernel
theorem dX12_year_12 : decode cX12_year 12 = .ok (.ldc 188, 2) := by decide +kernel
theorem dX12_year_14 : decode cX12_year 14 = .ok (.ireturn, 1) := by decide +kernel
theorem dX12_year_15 : decode cX12_year 15 = .ok (.aload_n 0, 1) := by decide +kernel
theorem dX12_year_16 : decode cX12_year 16 = .ok (.getfield 19, 3) := by decide +kernel
theorem dX12_year_19 : decode cX12_year 19 = .ok (.iconst 4, 1) := by decide +kernel
theorem dX12_year_20 : decode cX12_year 20 = .ok (.iaload, 1) := by decide +kernel
theorem dX12_year_21 : decode cX12_year 21 = .ok (.bipush 16, 2) := by decide +kernel
theorem dX12_year_23 : decode cX12_year 23 = .ok (.if_icmp .ne 6, 3) := by decide +kernel
theorem dX12_year_26 : decode cX12_year 26 = .ok (.ldc 83, 2) := by decide +kernel
theorem dX12_year_28 : decode cX12_year 28 = .ok (.ireturn, 1) := by decide +kernel
theorem dX12_year_29 : decode cX12_year 29 = .ok (.aload_n 0, 1) := by decide +kernel
theorem dX12_year_30 : decode cX12_year 30 = .ok (.invokevirtual 178, 3) := by decide +kernel
theorem dX12_year_33 : decode cX12_year 33 = .ok (.aload_n 0, 1) := by decide +kernel
theorem dX12_year_34 : decode cX12_year 34 = .ok (.iconst 1, 1) := by decide +kernel
theorem dX12_year_35 : decode cX12_year 35 = .ok (.ldc 96, 2) := by decide +kernel
theorem dX12_year_37 : decode cX12_year 37 = .ok (.ldc 96, 2) := by decide +kernel
theorem dX12_year_39 : decode cX12_year 39 = .ok (.ldc 96, 2) := by decide +kernel
theorem dX12_year_41 : decode cX12_year 41 = .ok (.iconst 0, 1) := by decide +kernel
theorem dX12_year_42 : decode cX12_year 42 = .ok (.iconst 0, 1) := by decide +kernel
theorem dX12_year_43 : decode cX12_year 43 = .ok (.invokevirtual 181, 3) := by decide +kernel
theorem dX12_year_46 : decode cX12_year 46 = .ok (.iconst 0, 1) := by decide +kernel
theorem dX12_year_47 : decode cX12_year 47 = .ok (.istore_n 1, 1) := by decide +kernel
theorem dX12_year_48 : decode cX12_year 48 = .ok (.iconst 0, 1) := by decide +kernel
theorem dX12_year_49 : decode cX12_year 49 = .ok (.istore_n 2, 1) := by decide +kernel
theorem dX12_year_50 : decode cX12_year 50 = .ok (.iload_n 2, 1) := by decide +kernel
theorem dX12_year_51 : decode cX12_year 51 = .ok (.iconst 3, 1) := by decide +kernel
theorem dX12_year_52 : decode cX12_year 52 = .ok (.aload_n 0, 1) := by decide +kernel
theorem dX12_year_53 : decode cX12_year 53 = .ok (.getfield 19, 3) := by decide +kernel
theorem dX12_year_56 : decode cX12_year 56 = .ok (.iconst 2, 1) := by decide +kernel
theorem dX12_year_57 : decode cX12_year 57 = .ok (.iaload, 1) := by decide +kernel
theorem dX12_year_58 : decode cX12_year 58 = .ok (.imul, 1) := by decide +kernel
theorem dX12_year_59 : decode cX12_year 59 = .ok (.if_icmp .ge 47, 3) := by decide +kernel
theorem dX12_year_62 : decode cX12_year 62 = .ok (.aload_n 0, 1) := by decide +kernel
theorem dX12_year_63 : decode cX12_year 63 = .ok (.aload_n 0, 1) := by decide +kernel
theorem dX12_year_64 : decode cX12_year 64 = .ok (.getfield 19, 3) := by decide +kernel
theorem dX12_year_67 : decode cX12_year 67 = .ok (.iconst 5, 1) := by decide +kernel
theorem dX12_year_68 : decode cX12_year 68 = .ok (.iload_n 2, 1) := by decide +kernel
theorem dX12_year_69 : decode cX12_year 69 = .ok (.iadd, 1) := by decide +kernel
theorem dX12_year_70 : decode cX12_year 70 = .ok (.iaload, 1) := by decide +kernel
theorem dX12_year_71 : decode cX12_year 71 = .ok (.aload_n 0, 1) := by decide +kernel
theorem dX12_year_72 : decode cX12_year 72 = .ok (.getfield 19, 3) := by decide +kernel
theorem dX12_year_75 : decode cX12_year 75 = .ok (.bipush 17, 2) := by decide +kernel
theorem dX12_year_77 : decode cX12_year 77 = .ok (.iload_n 2, 1) := by decide +kernel
theorem dX12_year_78 : decode cX12_year 78 = .ok (.iadd, 1) := by decide +kernel
theorem dX12_year_79 : decode cX12_year 79 = .ok (.iaload, 1) := by decide +kernel
theorem dX12_year_80 : decode cX12_year 80 = .ok (.invokevirtual 189, 3) := by decide +kernel
theorem dX12_year_83 : decode cX12_year 83 = .ok (.istore_n 3, 1) := by decide +kernel
theorem dX12_year_84 : decode cX12_year 84 = .ok (.aload_n 0, 1) := by decide +kernel
theorem dX12_year_85 : decode cX12_year 85 = .ok (.getfield 19, 3) := by decide +kernel
theorem dX12_year_88 : decode cX12_year 88 = .ok (.iconst 5, 1) := by decide +kernel
theorem dX12_year_89 : decode cX12_year 89 = .ok (.iload_n 2, 1) := by decide +kernel
theorem dX12_year_90 : decode cX12_year 90 = .ok (.iadd, 1) := by decide +kernel
theorem dX12_year_91 : decode cX12_year 91 = .ok (.dup2, 1) := by decide +kernel
theorem dX12_year_92 : decode cX12_year 92 = .ok (.iaload, 1) := by decide +kernel
theorem dX12_year_93 : decode cX12_year 93 = .ok (.iload_n 3, 1) := by decide +kernel
theorem dX12_year_94 : decode cX12_year 94 = .ok (.isub, 1) := by decide +kernel
theorem dX12_year_95 : decode cX12_year 95 = .ok (.iastore, 1) := by decide +kernel
theorem dX12_year_96 : decode cX12_year 96 = .ok (.iload_n 1, 1) := by decide +kernel
theorem dX12_year_97 : decode cX12_year 97 = .ok (.iload_n 3, 1) := by decide +kernel
theorem dX12_year_98 : decode cX12_year 98 = .ok (.iadd, 1) := by decide +kernel
theorem dX12_year_99 : decode cX12_year 99 = .ok (.istore_n 1, 1) := by decide +kernel
theorem dX12_year_100 : decode cX12_year 100 = .ok (.iinc 2 1, 3) := by decide +kernel
theorem dX12_year_103 : decode cX12_year 103 = .ok (.goto (-53), 3) := by decide +kernel
theorem dX12_year_106 : decode cX12_year 106 = .ok (.iload_n 1, 1) := by decide +kernel
theorem dX12_year_107 : decode cX12_year 107 = .ok (.ireturn, 1) := by decide +kernel
theorem dX12_swap_0 : decode cX12_swap 0 = .ok (.aload_n 0, 1) := by decide +kernel
theorem dX12_swap_1 : decode cX12_swap 1 = .ok (.iconst 0, 1) := by decide +kernel
theorem dX12_swap_2 : decode cX12_swap 2 = .ok (.putfield 53, 3) := by decide +kernel
theorem dX12_swap_5 : decode cX12_swap 5 = .ok (.aload_n 0, 1) := by decide +kernel
theorem dX12_swap_6 : decode cX12_swap 6 = .ok (.iload_n 1, 1) := by decide +kernel
theorem dX12_swap_7 : decode cX12_swap 7 = .ok (.invokevirtual 161, 3) := by decide +kernel
theorem dX12_swap_10 : decode cX12_swap 10 = .ok (.ifCond .eq 16, 3) := by decide +kernel
theorem dX12_swap_13 : decode cX12_swap 13 = .ok (.aload_n 0, 1) := by decide +kernel
theorem dX12_swap_14 : decode cX12_swap 14 = .ok (.iload_n 2, 1) := by decide +kernel
theorem dX12_swap_15 : decode cX12_swap 15 = .ok (.invokevirtual 161, 3) := by decide +kernel
theorem dX12_swap_18 : decode cX12_swap 18 = .ok (.ifCond .eq 8, 3) := by decide +kernel
theorem dX12_swap_21 : decode cX12_swap 21 = .ok (.iload_n 1, 1) := by decide +kernel
theorem dX12_swap_22 : decode cX12_swap 22 = .ok (.iload_n 2, 1) := by decide +kernel
theorem dX12_swap_23 : decode cX12_swap 23 = .ok (.if_icmp .ne 6, 3) := by decide +kernel
theorem dX12_swap_26 : decode cX12_swap 26 = .ok (.ldc 73, 2) := by decide +kernel
theorem dX12_swap_28 : decode cX12_swap 28 = .ok (.ireturn, 1) := by decide +kernel
theorem dX12_swap_29 : decode cX12_swap 29 = .ok (.aload_n 0, 1) := by decide +kernel
theorem dX12_swap_30 : decode cX12_swap 30 = .ok (.getfield 19, 3) := by decide +kernel
theorem dX12_swap_33 : decode cX12_swap 33 = .ok (.iconst 4, 1) := by decide +kernel
theorem dX12_swap_34 : decode cX12_swap 34 = .ok (.iaload, 1) := by decide +kernel
theorem dX12_swap_35 : decode cX12_swap 35 = .ok (.bipush 16, 2) := by decide +kernel
theorem dX12_swap_37 : decode cX12_swap 37 = .ok (.if_icmp .ne 6, 3) := by decide +kernel
theorem dX12_swap_40 : decode cX12_swap 40 = .ok (.ldc 83, 2) := by decide +kernel
theorem dX12_swap_42 : decode cX12_swap 42 = .ok (.ireturn, 1) := by decide +kernel
theorem dX12_swap_43 : decode cX12_swap 43 = .ok (.aload_n 0, 1) := by decide +kernel
theorem dX12_swap_44 : decode cX12_swap 44 = .ok (.invokevirtual 178, 3) := by decide +kernel
theorem dX12_swap_47 : decode cX12_swap 47 = .ok (.aload_n 0, 1) := by decide +kernel
theorem dX12_swap_48 : decode cX12_swap 48 = .ok (.iconst 2, 1) := by decide +kernel
theorem dX12_swap_49 : decode cX12_swap 49 = .ok (.iload_n 1, 1) := by decide +kernel
theorem dX12_swap_50 : decode cX12_swap 50 = .ok (.iload_n 2, 1) := by decide +kernel
theorem dX12_swap_51 : decode cX12_swap 51 = .ok (.if_icmp .ge 7, 3) := by decide +kernel
theorem dX12_swap_54 : decode cX12_swap 54 = .ok (.iload_n 1, 1) := by decide +kernel
theorem dX12_swap_55 : decode cX12_swap 55 = .ok (.goto 4, 3) := by decide +kernel
theorem dX12_swap_58 : decode cX12_swap 58 = .ok (.iload_n 2, 1) := by decide +kernel
theorem dX12_swap_59 : decode cX12_swap 59 = .ok (.iload_n 1, 1) := by decide +kernel
theorem dX12_swap_60 : decode cX12_swap 60 = .ok (.iload_n 2, 1) := by decide +kernel
theorem dX12_swap_61 : decode cX12_swap 61 = .ok (.if_icmp .ge 7, 3) := by decide +kernel
theorem dX12_swap_64 : decode cX12_swap 64 = .ok (.iload_n 2, 1) := by decide +kernel
theorem dX12_swap_65 : decode cX12_swap 65 = .ok (.goto 4, 3) := by decide +kernel
theorem dX12_swap_68 : decode cX12_swap 68 = .ok (.iload_n 1, 1) := by decide +kernel
theorem dX12_swap_69 : decode cX12_swap 69 = .ok (.ldc 96, 2) := by decide +kernel
theorem dX12_swap_71 : decode cX12_swap 71 = .ok (.iconst 0, 1) := by decide +kernel
theorem dX12_swap_72 : decode cX12_swap 72 = .ok (.iconst 0, 1) := by decide +kernel
theorem dX12_swap_73 : decode cX12_swap 73 = .ok (.invokevirtual 181, 3) := by decide +kernel
theorem dX12_swap_76 : decode cX12_swap 76 = .ok (.iconst 0, 1) := by decide +kernel
theorem dX12_swap_77 : decode cX12_swap 77 = .ok (.istore_n 3, 1) := by decide +kernel
theorem dX12_swap_78 : decode cX12_swap 78 = .ok (.iload_n 3, 1) := by decide +kernel
theorem dX12_swap_79 : decode cX12_swap 79 = .ok (.iconst 3, 1) := by decide +kernel
theorem dX12_swap_80 : decode cX12_swap 80 = .ok (.if_icmp .ge 61, 3) := by decide +kernel
theorem dX12_swap_83 : decode cX12_swap 83 = .ok (.aload_n 0, 1) := by decide +kernel
theorem dX12_swap_84 : decode cX12_swap 84 = .ok (.getfield 19, 3) := by decide +kernel
theorem dX12_swap_87 : decode cX12_swap 87 = .ok (.iconst 5, 1) := by decide +kernel
theorem dX12_swap_88 : decode cX12_swap 88 = .ok (.iconst 3, 1) := by decide +kernel
theorem dX12_swap_89 : decode cX12_swap 89 = .ok (.iload_n 1, 1) := by decide +kernel
theorem dX12_swap_90 : decode cX12_swap 90 = .ok (.imul, 1) := by decide +kernel
theorem dX12_swap_91 : decode cX12_swap 91 = .ok (.iadd, 1) := by decide +kernel
theorem dX12_swap_92 : decode cX12_swap 92 = .ok (.iload_n 3, 1) := by decide +kernel
theorem dX12_swap_93 : decode cX12_swap 93 = .ok (.iadd, 1) := by decide +kernel
theorem dX12_swap_94 : decode cX12_swap 94 = .ok (.iaload, 1) := by decide +kernel
theorem dX12_swap_95 : decode cX12_swap 95 = .ok (.istore 4, 2) := by decide +kernel
theorem dX12_swap_97 : decode cX12_swap 97 = .ok (.aload_n 0, 1) := by decide +kernel
theorem dX12_swap_98 : decode cX12_swap 98 = .ok (.getfield 19, 3) := by decide +kernel
theorem dX12_swap_101 : decode cX12_swap 101 = .ok (.iconst 5, 1) := by decide +kernel
theorem dX12_swap_102 : decode cX12_swap 102 = .ok (.iconst 3, 1) := by decide +kernel
theorem dX12_swap_103 : decode cX12_swap 103 = .ok (.iload_n 1, 1) := by decide +kernel
theorem dX12_swap_104 : decode cX12_swap 104 = .ok (.imul, 1) := by decide +kernel
theorem dX12_swap_105 : decode cX12_swap 105 = .ok (.iadd, 1) := by decide +kernel
theorem dX12_swap_106 : decode cX12_swap 106 = .ok (.iload_n 3, 1) := by decide +kernel
theorem dX12_swap_107 : decode cX12_swap 107 = .ok (.iadd, 1) := by decide +kernel
theorem dX12_swap_108 : decode cX12_swap 108 = .ok (.aload_n 0, 1) := by decide +kernel
theorem dX12_swap_109 : decode cX12_swap 109 = .ok (.getfield 19, 3) := by decide +kernel
theorem dX12_swap_112 : decode cX12_swap 112 = .ok (.iconst 5, 1) := by decide +kernel
theorem dX12_swap_113 : decode cX12_swap 113 = .ok (.iconst 3, 1) := by decide +kernel
theorem dX12_swap_114 : decode cX12_swap 114 = .ok (.iload_n 2, 1) := by decide +kernel
theorem dX12_swap_115 : decode cX12_swap 115 = .ok (.imul, 1) := by decide +kernel
theorem dX12_swap_116 : decode cX12_swap 116 = .ok (.iadd, 1) := by decide +kernel
theorem dX12_swap_117 : decode cX12_swap 117 = .ok (.iload_n 3, 1) := by decide +kernel
theorem dX12_swap_118 : decode cX12_swap 118 = .ok (.iadd, 1) := by decide +kernel
theorem dX12_swap_119 : decode cX12_swap 119 = .ok (.iaload, 1) := by decide +kernel
theorem dX12_swap_120 : decode cX12_swap 120 = .ok (.iastore, 1) := by decide +kernel
theorem dX12_swap_121 : decode cX12_swap 121 = .ok (.aload_n 0, 1) := by decide +kernel
theorem dX12_swap_122 : decode cX12_swap 122 = .ok (.getfield 19, 3) := by decide +kernel
theorem dX12_swap_125 : decode cX12_swap 125 = .ok (.iconst 5, 1) := by decide +kernel
theorem dX12_swap_126 : decode cX12_swap 126 = .ok (.iconst 3, 1) := by decide +kernel
theorem dX12_swap_127 : decode cX12_swap 127 = .ok (.iload_n 2, 1) := by decide +kernel
theorem dX12_swap_128 : decode cX12_swap 128 = .ok (.imul, 1) := by decide +kernel
theorem dX12_swap_129 : decode cX12_swap 129 = .ok (.iadd, 1) := by decide +kernel
theorem dX12_swap_130 : decode cX12_swap 130 = .ok (.iload_n 3, 1) := by decide +kernel
theorem dX12_swap_131 : decode cX12_swap 131 = .ok (.iadd, 1) := by decide +kernel
theorem dX12_swap_132 : decode cX12_swap 132 = .ok (.iload 4, 2) := by decide +kernel
theorem dX12_swap_134 : decode cX12_swap 134 = .ok (.iastore, 1) := by decide +kernel
theorem dX12_swap_135 : decode cX12_swap 135 = .ok (.iinc 3 1, 3) := by decide +kernel
theorem dX12_swap_138 : decode cX12_swap 138 = .ok (.goto (-60), 3) := by decide +kernel
theorem dX12_swap_141 : decode cX12_swap 141 = .ok (.aload_n 0, 1) := by decide +kernel
theorem dX12_swap_142 : decode cX12_swap 142 = .ok (.getfield 19, 3) := by decide +kernel
theorem dX12_swap_145 : decode cX12_swap 145 = .ok (.iconst 4, 1) := by decide +kernel
theorem dX12_swap_146 : decode cX12_swap 146 = .ok (.iaload, 1) := by decide +kernel
theorem dX12_swap_147 : decode cX12_swap 147 = .ok (.ireturn, 1) := by decide +kernel
theorem dX12_close_0 : decode cX12_close 0 = .ok (.aload_n 0, 1) := by decide +kernel
theorem dX12_close_1 : decode cX12_close 1 = .ok (.iconst 0, 1) := by decide +kernel
theorem dX12_close_2 : decode cX12_close 2 = .ok (.putfield 53, 3) := by decide +kernel
theorem dX12_close_5 : decode cX12_close 5 = .ok (.aload_n 0, 1) := by decide +kernel
theorem dX12_close_6 : decode cX12_close 6 = .ok (.invokevirtual 185, 3) := by decide +kernel
theorem dX12_close_9 : decode cX12_close 9 = .ok (.ifCond .ne 6, 3) := by decide +kernel
theorem dX12_close_12 : decode cX12_close 12 = .ok (.ldc 188, 2) := by decide +kernel
theorem dX12_close_14 : decode cX12_close 14 = .ok (.ireturn, 1) := by decide +kernel
theorem dX12_close_15 : decode cX12_close 15 = .ok (.aload_n 0, 1) := by decide +kernel
theorem dX12_close_16 : decode cX12_close 16 = .ok (.invokevirtual 178, 3) := by decide +kernel
theorem dX12_close_19 : decode cX12_close 19 = .ok (.aload_n 0, 1) := by decide +kernel
theorem dX12_close_20 : decode cX12_close 20 = .ok (.getfield 19, 3) := by decide +kernel
theorem dX12_close_23 : decode cX12_close 23 = .ok (.iconst 4, 1) := by decide +kernel
theorem dX12_close_24 : decode cX12_close 24 = .ok (.iaload, 1) := by decide +kernel
theorem dX12_close_25 : decode cX12_close 25 = .ok (.istore_n 1, 1) := by decide +kernel
theorem dX12_close_26 : decode cX12_close 26 = .ok (.aload_n 0, 1) := by decide +kernel
theorem dX12_close_27 : decode cX12_close 27 = .ok (.getfield 19, 3) := by decide +kernel
theorem dX12_close_30 : decode cX12_close 30 = .ok (.iconst 4, 1) := by decide +kernel
theorem dX12_close_31 : decode cX12_close 31 = .ok (.iconst 0, 1) := by decide +kernel
theorem dX12_close_32 : decode cX12_close 32 = .ok (.iastore, 1) := by decide +kernel
theorem dX12_close_33 : decode cX12_close 33 = .ok (.iconst 0, 1) := by decide +kernel
theorem dX12_close_34 : decode cX12_close 34 = .ok (.istore_n 2, 1) := by decide +kernel
theorem dX12_close_35 : decode cX12_close 35 = .ok (.iload_n 2, 1) := by decide +kernel
theorem dX12_close_36 : decode cX12_close 36 = .ok (.bipush 12, 2) := by decide +kernel
theorem dX12_close_38 : decode cX12_close 38 = .ok (.if_icmp .ge 43, 3) := by decide +kernel
theorem dX12_close_41 : decode cX12_close 41 = .ok (.aload_n 0, 1) := by decide +kernel
theorem dX12_close_42 : decode cX12_close 42 = .ok (.getfield 19, 3) := by decide +kernel
theorem dX12_close_45 : decode cX12_close 45 = .ok (.bipush 17, 2) := by decide +kernel
theorem dX12_close_47 : decode cX12_close 47 = .ok (.iload_n 2, 1) := by decide +kernel
theorem dX12_close_48 : decode cX12_close 48 = .ok (.iadd, 1) := by decide +kernel
theorem dX12_close_49 : decode cX12_close 49 = .ok (.aload_n 0, 1) := by decide +kernel
theorem dX12_close_50 : decode cX12_close 50 = .ok (.getfield 19, 3) := by decide +kernel
theorem dX12_close_53 : decode cX12_close 53 = .ok (.iconst 5, 1) := by decide +kernel
theorem dX12_close_54 : decode cX12_close 54 = .ok (.iload_n 2, 1) := by decide +kernel
theorem dX12_close_55 : decode cX12_close 55 = .ok (.iadd, 1) := by decide +kernel
theorem dX12_close_56 : decode cX12_close 56 = .ok (.iaload, 1) := by decide +kernel
theorem dX12_close_57 : decode cX12_close 57 = .ok (.iastore, 1) := by decide +kernel
theorem dX12_close_58 : decode cX12_close 58 = .ok (.aload_n 0, 1) := by decide +kernel
theorem dX12_close_59 : decode cX12_close 59 = .ok (.getfield 19, 3) := by decide +kernel
theorem dX12_close_62 : decode cX12_close 62 = .ok (.bipush 29, 2) := by decide +kernel
theorem dX12_close_64 : decode cX12_close 64 = .ok (.iload_n 2, 1) := by decide +kernel
theorem dX12_close_65 : decode cX12_close 65 = .ok (.iadd, 1) := by decide +kernel
theorem dX12_close_66 : decode cX12_close 66 = .ok (.aload_n 0, 1) := by decide +kernel
theorem dX12_close_67 : decode cX12_close 67 = .ok (.getfield 19, 3) := by decide +kernel
theorem dX12_close_70 : decode cX12_close 70 = .ok (.iconst 5, 1) := by decide +kernel
theorem dX12_close_71 : decode cX12_close 71 = .ok (.iload_n 2, 1) := by decide +kernel
theorem dX12_close_72 : decode cX12_close 72 = .ok (.iadd, 1) := by decide +kernel
theorem dX12_close_73 : decode cX12_close 73 = .ok (.iaload, 1) := by decide +kernel
theorem dX12_close_74 : decode cX12_close 74 = .ok (.iastore, 1) := by decide +kernel
theorem dX12_close_75 : decode cX12_close 75 = .ok (.iinc 2 1, 3) := by decide +kernel
theorem dX12_close_78 : decode cX12_close 78 = .ok (.goto (-43), 3) := by decide +kernel
theorem dX12_close_81 : decode cX12_close 81 = .ok (.iload_n 1, 1) := by decide +kernel
theorem dX12_close_82 : decode cX12_close 82 = .ok (.ireturn, 1) := by decide +kernel
theorem dX12_undo_0 : decode cX12_undo 0 = .ok (.aload_n 0, 1) := by decide +kernel
theorem dX12_undo_1 : decode cX12_undo 1 = .ok (.iconst 0, 1) := by decide +kernel
theorem dX12_undo_2 : decode cX12_undo 2 = .ok (.putfield 53, 3) := by decide +kernel
theorem dX12_undo_5 : decode cX12_undo 5 = .ok (.aload_n 0, 1) := by decide +kernel
theorem dX12_undo_6 : decode cX12_undo 6 = .ok (.getfield 152, 3) := by decide +kernel
theorem dX12_undo_9 : decode cX12_undo 9 = .ok (.ifCond .ne 6, 3) := by decide +kernel
theorem dX12_undo_12 : decode cX12_undo 12 = .ok (.ldc 188, 2) := by decide +kernel
theorem dX12_undo_14 : decode cX12_undo 14 = .ok (.ireturn, 1) := by decide +kernel
theorem dX12_undo_15 : decode cX12_undo 15 = .ok (.aload_n 0, 1) := by decide +kernel
theorem dX12_undo_16 : decode cX12_undo 16 = .ok (.dup, 1) := by decide +kernel
theorem dX12_undo_17 : decode cX12_undo 17 = .ok (.getfield 152, 3) := by decide +kernel
theorem dX12_undo_20 : decode cX12_undo 20 = .ok (.iconst 1, 1) := by decide +kernel
theorem dX12_undo_21 : decode cX12_undo 21 = .ok (.isub, 1) := by decide +kernel
theorem dX12_undo_22 : decode cX12_undo 22 = .ok (.putfield 152, 3) := by decide +kernel
theorem dX12_undo_25 : decode cX12_undo 25 = .ok (.iconst 0, 1) := by decide +kernel
theorem dX12_undo_26 : decode cX12_undo 26 = .ok (.istore_n 1, 1) := by decide +kernel
theorem dX12_undo_27 : decode cX12_undo 27 = .ok (.iload_n 1, 1) := by decide +kernel
theorem dX12_undo_28 : decode cX12_undo 28 = .ok (.sipush 147, 3) := by decide +kernel
theorem dX12_undo_31 : decode cX12_undo 31 = .ok (.if_icmp .ge 30, 3) := by decide +kernel
theorem dX12_undo_34 : decode cX12_undo 34 = .ok (.aload_n 0, 1) := by decide +kernel
theorem dX12_undo_35 : decode cX12_undo 35 = .ok (.getfield 19, 3) := by decide +kernel
theorem dX12_undo_38 : decode cX12_undo 38 = .ok (.iload_n 1, 1) := by decide +kernel
theorem dX12_undo_39 : decode cX12_undo 39 = .ok (.aload_n 0, 1) := by decide +kernel
theorem dX12_undo_40 : decode cX12_undo 40 = .ok (.getfield 25, 3) := by decide +kernel
theorem dX12_undo_43 : decode cX12_undo 43 = .ok (.sipush 147, 3) := by decide +kernel
theorem dX12_undo_46 : decode cX12_undo 46 = .ok (.aload_n 0, 1) := by decide +kernel
theorem dX12_undo_47 : decode cX12_undo 47 = .ok (.getfield 152, 3) := by decide +kernel
theorem dX12_undo_50 : decode cX12_undo 50 = .ok (.imul, 1) := by decide +kernel
theorem dX12_undo_51 : decode cX12_undo 51 = .ok (.iload_n 1, 1) := by decide +kernel
theorem dX12_undo_52 : decode cX12_undo 52 = .ok (.iadd, 1) := by decide +kernel
theorem dX12_undo_53 : decode cX12_undo 53 = .ok (.iaload, 1) := by decide +kernel
theorem dX12_undo_54 : decode cX12_undo 54 = .ok (.iastore, 1) := by decide +kernel
theorem dX12_undo_55 : decode cX12_undo 55 = .ok (.iinc 1 1, 3) := by decide +kernel
theorem dX12_undo_58 : decode cX12_undo 58 = .ok (.goto (-31), 3) := by decide +kernel
theorem dX12_undo_61 : decode cX12_undo 61 = .ok (.aload_n 0, 1) := by decide +kernel
theorem dX12_undo_62 : decode cX12_undo 62 = .ok (.getfield 152, 3) := by decide +kernel
theorem dX12_undo_65 : decode cX12_undo 65 = .ok (.ireturn, 1) := by decide +kernel
theorem dX12_pinchOf_0 : decode cX12_pinchOf 0 = .ok (.aload_n 0, 1) := by decide +kernel
theorem dX12_pinchOf_1 : decode cX12_pinchOf 1 = .ok (.getfield 19, 3) := by decide +kernel
theorem dX12_pinchOf_4 : decode cX12_pinchOf 4 = .ok (.bipush 29, 2) := by decide +kernel
theorem dX12_pinchOf_6 : decode cX12_pinchOf 6 = .ok (.iconst 3, 1) := by decide +kernel
theorem dX12_pinchOf_7 : decode cX12_pinchOf 7 = .ok (.iload_n 1, 1) := by decide +kernel
theorem dX12_pinchOf_8 : decode cX12_pinchOf 8 = .ok (.imul, 1) := by decide +kernel
theorem dX12_pinchOf_9 : decode cX12_pinchOf 9 = .ok (.iadd, 1) := by decide +kernel
theorem dX12_pinchOf_10 : decode cX12_pinchOf 10 = .ok (.iload_n 2, 1) := by decide +kernel
theorem dX12_pinchOf_11 : decode cX12_pinchOf 11 = .ok (.iadd, 1) := by decide +kernel
theorem dX12_pinchOf_12 : decode cX12_pinchOf 12 = .ok (.iaload, 1) := by decide +kernel
theorem dX12_pinchOf_13 : decode cX12_pinchOf 13 = .ok (.aload_n 0, 1) := by decide +kernel
theorem dX12_pinchOf_14 : decode cX12_pinchOf 14 = .ok (.getfield 19, 3) := by decide +kernel
theorem dX12_pinchOf_17 : decode cX12_pinchOf 17 = .ok (.iconst 5, 1) := by decide +kernel
theorem dX12_pinchOf_18 : decode cX12_pinchOf 18 = .ok (.iconst 3, 1) := by decide +kernel
theorem dX12_pinchOf_19 : decode cX12_pinchOf 19 = .ok (.iload_n 1, 1) := by decide +kernel
theorem dX12_pinchOf_20 : decode cX12_pinchOf 20 = .ok (.imul, 1) := by decide +kernel
theorem dX12_pinchOf_21 : decode cX12_pinchOf 21 = .ok (.iadd, 1) := by decide +kernel
theorem dX12_pinchOf_22 : decode cX12_pinchOf 22 = .ok (.iload_n 2, 1) := by decide +kernel
theorem dX12_pinchOf_23 : decode cX12_pinchOf 23 = .ok (.iadd, 1) := by decide +kernel
theorem dX12_pinchOf_24 : decode cX12_pinchOf 24 = .ok (.iaload, 1) := by decide +kernel
theorem dX12_pinchOf_25 : decode cX12_pinchOf 25 = .ok (.isub, 1) := by decide +kernel
theorem dX12_pinchOf_26 : decode cX12_pinchOf 26 = .ok (.ireturn, 1) := by decide +kernel
theorem dX12_dummy_0 : decode cX12_dummy 0 = .ok (.aload_n 0, 1) := by decide +kernel
theorem dX12_dummy_1 : decode cX12_dummy 1 = .ok (.iconst 0, 1) := by decide +kernel
theorem dX12_dummy_2 : decode cX12_dummy 2 = .ok (.putfield 53, 3) := by decide +kernel
theorem dX12_dummy_5 : decode cX12_dummy 5 = .ok (.aload_n 0, 1) := by decide +kernel
theorem dX12_dummy_6 : decode cX12_dummy 6 = .ok (.iload_n 1, 1) := by decide +kernel
theorem dX12_dummy_7 : decode cX12_dummy 7 = .ok (.invokevirtual 161, 3) := by decide +kernel
theorem dX12_dummy_10 : decode cX12_dummy 10 = .ok (.ifCond .eq 10, 3) := by decide +kernel
theorem dX12_dummy_13 : decode cX12_dummy 13 = .ok (.iload_n 2, 1) := by decide +kernel
theorem dX12_dummy_14 : decode cX12_dummy 14 = .ok (.invokestatic 164, 3) := by decide +kernel
theorem dX12_dummy_17 : decode cX12_dummy 17 = .ok (.ifCond .ne 6, 3) := by decide +kernel
theorem dX12_dummy_20 : decode cX12_dummy 20 = .ok (.ldc 73, 2) := by decide +kernel
theorem dX12_dummy_22 : decode cX12_dummy 22 = .ok (.ireturn, 1) := by decide +kernel
theorem dX12_dummy_23 : decode cX12_dummy 23 = .ok (.iload_n 3, 1) := by decide +kernel
theorem dX12_dummy_24 : decode cX12_dummy 24 = .ok (.tableswitch 80 0 3 #[32, 45, 59, 73], 32) := by decide +kernel
theorem dX12_dummy_56 : decode cX12_dummy 56 = .ok (.aload_n 0, 1) := by decide +kernel
theorem dX12_dummy_57 : decode cX12_dummy 57 = .ok (.getfield 19, 3) := by decide +kernel
theorem dX12_dummy_60 : decode cX12_dummy 60 = .ok (.iconst 5, 1) := by decide +kernel
theorem dX12_dummy_61 : decode cX12_dummy 61 = .ok (.iconst 3, 1) := by decide +kernel
theorem dX12_dummy_62 : decode cX12_dummy 62 = .ok (.iload_n 1, 1) := by decide +kernel
theorem dX12_dummy_63 : decode cX12_dummy 63 = .ok (.imul, 1) := by decide +kernel
theorem dX12_dummy_64 : decode cX12_dummy 64 = .ok (.iadd, 1) := by decide +kernel
theorem dX12_dummy_65 : decode cX12_dummy 65 = .ok (.iload_n 2, 1) := by decide +kernel
theorem dX12_dummy_66 : decode cX12_dummy 66 = .ok (.iadd, 1) := by decide +kernel
theorem dX12_dummy_67 : decode cX12_dummy 67 = .ok (.iaload, 1) := by decide +kernel
theorem dX12_dummy_68 : decode cX12_dummy 68 = .ok (.ireturn, 1) := by decide +kernel
theorem dX12_dummy_69 : decode cX12_dummy 69 = .ok (.aload_n 0, 1) := by decide +kernel
theorem dX12_dummy_70 : decode cX12_dummy 70 = .ok (.getfield 19, 3) := by decide +kernel
theorem dX12_dummy_73 : decode cX12_dummy 73 = .ok (.bipush 17, 2) := by decide +kernel
theorem dX12_dummy_75 : decode cX12_dummy 75 = .ok (.iconst 3, 1) := by decide +kernel
theorem dX12_dummy_76 : decode cX12_dummy 76 = .ok (.iload_n 1, 1) := by decide +kernel
theorem dX12_dummy_77 : decode cX12_dummy 77 = .ok (.imul, 1) := by decide +kernel
theorem dX12_dummy_78 : decode cX12_dummy 78 = .ok (.iadd, 1) := by decide +kernel
theorem dX12_dummy_79 : decode cX12_dummy 79 = .ok (.iload_n 2, 1) := by decide +kernel
theorem dX12_dummy_80 : decode cX12_dummy 80 = .ok (.iadd, 1) := by decide +kernel
theorem dX12_dummy_81 : decode cX12_dummy 81 = .ok (.iaload, 1) := by decide +kernel
theorem dX12_dummy_82 : decode cX12_dummy 82 = .ok (.ireturn, 1) := by decide +kernel
theorem dX12_dummy_83 : decode cX12_dummy 83 = .ok (.aload_n 0, 1) := by decide +kernel
theorem dX12_dummy_84 : decode cX12_dummy 84 = .ok (.getfield 19, 3) := by decide +kernel
theorem dX12_dummy_87 : decode cX12_dummy 87 = .ok (.bipush 29, 2) := by decide +kernel
theorem dX12_dummy_89 : decode cX12_dummy 89 = .ok (.iconst 3, 1) := by decide +kernel
theorem dX12_dummy_90 : decode cX12_dummy 90 = .ok (.iload_n 1, 1) := by decide +kernel
theorem dX12_dummy_91 : decode cX12_dummy 91 = .ok (.imul, 1) := by decide +kernel
theorem dX12_dummy_92 : decode cX12_dummy 92 = .ok (.iadd, 1) := by decide +kernel
theorem dX12_dummy_93 : decode cX12_dummy 93 = .ok (.iload_n 2, 1) := by decide +kernel
theorem dX12_dummy_94 : decode cX12_dummy 94 = .ok (.iadd, 1) := by decide +kernel
theorem dX12_dummy_95 : decode cX12_dummy 95 = .ok (.iaload, 1) := by decide +kernel
theorem dX12_dummy_96 : decode cX12_dummy 96 = .ok (.ireturn, 1) := by decide +kernel
theorem dX12_dummy_97 : decode cX12_dummy 97 = .ok (.aload_n 0, 1) := by decide +kernel
theorem dX12_dummy_98 : decode cX12_dummy 98 = .ok (.iload_n 1, 1) := by decide +kernel
theorem dX12_dummy_99 : decode cX12_dummy 99 = .ok (.iload_n 2, 1) := by decide +kernel
theorem dX12_dummy_100 : decode cX12_dummy 100 = .ok (.invokevirtual 192, 3) := by decide +kernel
theorem dX12_dummy_103 : decode cX12_dummy 103 = .ok (.ireturn, 1) := by decide +kernel
theorem dX12_dummy_104 : decode cX12_dummy 104 = .ok (.ldc 73, 2) := by decide +kernel
theorem dX12_dummy_106 : decode cX12_dummy 106 = .ok (.ireturn, 1) := by decide +kernel
theorem dX12_line_0 : decode cX12_line 0 = .ok (.aload_n 0, 1) := by decide +kernel
theorem dX12_line_1 : decode cX12_line 1 = .ok (.iconst 0, 1) := by decide +kernel
theorem dX12_line_2 : decode cX12_line 2 = .ok (.putfield 53, 3) := by decide +kernel
theorem dX12_line_5 : decode cX12_line 5 = .ok (.iload_n 1, 1) := by decide +kernel
theorem dX12_line_6 : decode cX12_line 6 = .ok (.i2l, 1) := by decide +kernel
theorem dX12_line_7 : decode cX12_line 7 = .ok (.lconst 0, 1) := by decide +kernel
theorem dX12_line_8 : decode cX12_line 8 = .ok (.aload_n 0, 1) := by decide +kernel
theorem dX12_line_9 : decode cX12_line 9 = .ok (.getfield 19, 3) := by decide +kernel
theorem dX12_line_12 : decode cX12_line 12 = .ok (.iconst 4, 1) := by decide +kernel
theorem dX12_line_13 : decode cX12_line 13 = .ok (.iaload, 1) := by decide +kernel
theorem dX12_line_14 : decode cX12_line 14 = .ok (.iconst 1, 1) := by decide +kernel
theorem dX12_line_15 : decode cX12_line 15 = .ok (.isub, 1) := by decide +kernel
theorem dX12_line_16 : decode cX12_line 16 = .ok (.i2l, 1) := by decide +kernel
theorem dX12_line_17 : decode cX12_line 17 = .ok (.invokestatic 63, 3) := by decide +kernel
theorem dX12_line_20 : decode cX12_line 20 = .ok (.ifCond .eq 24, 3) := by decide +kernel
theorem dX12_line_23 : decode cX12_line 23 = .ok (.iload_n 2, 1) := by decide +kernel
theorem dX12_line_24 : decode cX12_line 24 = .ok (.i2l, 1) := by decide +kernel
theorem dX12_line_25 : decode cX12_line 25 = .ok (.lconst 0, 1) := by decide +kernel
theorem dX12_line_26 : decode cX12_line 26 = .ok (.ldc2_w 195, 3) := by decide +kernel
theorem dX12_line_29 : decode cX12_line 29 = .ok (.invokestatic 63, 3) := by decide +kernel
theorem dX12_line_32 : decode cX12_line 32 = .ok (.ifCond .eq 12, 3) := by decide +kernel
theorem dX12_line_35 : decode cX12_line 35 = .ok (.aload_n 0, 1) := by decide +kernel
theorem dX12_line_36 : decode cX12_line 36 = .ok (.iload_n 1, 1) := by decide +kernel
theorem dX12_line_37 : decode cX12_line 37 = .ok (.iload_n 2, 1) := by decide +kernel
theorem dX12_line_38 : decode cX12_line 38 = .ok (.invokevirtual 197, 3) := by decide +kernel
theorem dX12_line_41 : decode cX12_line 41 = .ok (.goto 5, 3) := by decide +kernel
theorem dX12_line_44 : decode cX12_line 44 = .ok (.ldc 73, 2) := by decide +kernel
theorem dX12_line_46 : decode cX12_line 46 = .ok (.ireturn, 1) := by decide +kernel
theorem dX12_pads_0 : decode cX12_pads 0 = .ok (.aload_n 0, 1) := by decide +kernel
theorem dX12_pads_1 : decode cX12_pads 1 = .ok (.iconst 0, 1) := by decide +kernel
theorem dX12_pads_2 : decode cX12_pads 2 = .ok (.putfield 53, 3) := by decide +kernel
theorem dX12_pads_5 : decode cX12_pads 5 = .ok (.aload_n 0, 1) := by decide +kernel
theorem dX12_pads_6 : decode cX12_pads 6 = .ok (.iload_n 1, 1) := by decide +kernel
theorem dX12_pads_7 : decode cX12_pads 7 = .ok (.invokevirtual 158, 3) := by decide +kernel
theorem dX12_pads_10 : decode cX12_pads 10 = .ok (.ifCond .eq 26, 3) := by decide +kernel
theorem dX12_pads_13 : decode cX12_pads 13 = .ok (.iload_n 2, 1) := by decide +kernel
theorem dX12_pads_14 : decode cX12_pads 14 = .ok (.i2l, 1) := by decide +kernel
theorem dX12_pads_15 : decode cX12_pads 15 = .ok (.ldc2_w 167, 3) := by decide +kernel
theorem dX12_pads_18 : decode cX12_pads 18 = .ok (.ldc2_w 169, 3) := by decide +kernel
theorem dX12_pads_21 : decode cX12_pads 21 = .ok (.invokestatic 63, 3) := by decide +kernel
theorem dX12_pads_24 : decode cX12_pads 24 = .ok (.ifCond .eq 12, 3) := by decide +kernel
theorem dX12_pads_27 : decode cX12_pads 27 = .ok (.aload_n 0, 1) := by decide +kernel
theorem dX12_pads_28 : decode cX12_pads 28 = .ok (.iload_n 1, 1) := by decide +kernel
theorem dX12_pads_29 : decode cX12_pads 29 = .ok (.iload_n 2, 1) := by decide +kernel
theorem dX12_pads_30 : decode cX12_pads 30 = .ok (.invokevirtual 171, 3) := by decide +kernel
theorem dX12_pads_33 : decode cX12_pads 33 = .ok (.goto 5, 3) := by decide +kernel
theorem dX12_pads_36 : decode cX12_pads 36 = .ok (.ldc 73, 2) := by decide +kernel
theorem dX12_pads_38 : decode cX12_pads 38 = .ok (.ireturn, 1) := by decide +kernel
theorem dX12_was_0 : decode cX12_was 0 = .ok (.aload_n 0, 1) := by decide +kernel
theorem dX12_was_1 : decode cX12_was 1 = .ok (.iconst 0, 1) := by decide +kernel
theorem dX12_was_2 : decode cX12_was 2 = .ok (.putfield 53, 3) := by decide +kernel
theorem dX12_was_5 : decode cX12_was 5 = .ok (.iload_n 1, 1) := by decide +kernel
theorem dX12_was_6 : decode cX12_was 6 = .ok (.i2l, 1) := by decide +kernel
theorem dX12_was_7 : decode cX12_was 7 = .ok (.lconst 0, 1) := by decide +kernel
theorem dX12_was_8 : decode cX12_was 8 = .ok (.aload_n 0, 1) := by decide +kernel
theorem dX12_was_9 : decode cX12_was 9 = .ok (.getfield 19, 3) := by decide +kernel
theorem dX12_was_12 : decode cX12_was 12 = .ok (.iconst 4, 1) := by decide +kernel
theorem dX12_was_13 : decode cX12_was 13 = .ok (.iaload, 1) := by decide +kernel
theorem dX12_was_14 : decode cX12_was 14 = .ok (.i2l, 1) := by decide +kernel
theorem dX12_was_15 : decode cX12_was 15 = .ok (.invokestatic 63, 3) := by decide +kernel
theorem dX12_was_18 : decode cX12_was 18 = .ok (.ifCond .eq 18, 3) := by decide +kernel
theorem dX12_was_21 : decode cX12_was 21 = .ok (.aload_n 0, 1) := by decide +kernel
theorem dX12_was_22 : decode cX12_was 22 = .ok (.iload_n 2, 1) := by decide +kernel
theorem dX12_was_23 : decode cX12_was 23 = .ok (.invokevirtual 161, 3) := by decide +kernel
theorem dX12_was_26 : decode cX12_was 26 = .ok (.ifCond .eq 10, 3) := by decide +kernel
theorem dX12_was_29 : decode cX12_was 29 = .ok (.iload_n 3, 1) := by decide +kernel
theorem dX12_was_30 : decode cX12_was 30 = .ok (.invokestatic 164, 3) := by decide +kernel
theorem dX12_was_33 : decode cX12_was 33 = .ok (.ifCond .ne 6, 3) := by decide +kernel
theorem dX12_was_36 : decode cX12_was 36 = .ok (.ldc 73, 2) := by decide +kernel
theorem dX12_was_38 : decode cX12_was 38 = .ok (.ireturn, 1) := by decide +kernel
theorem dX12_was_39 : decode cX12_was 39 = .ok (.iconst 0, 1) := by decide +kernel
theorem dX12_was_40 : decode cX12_was 40 = .ok (.istore 4, 2) := by decide +kernel
theorem dX12_was_42 : decode cX12_was 42 = .ok (.iload 4, 2) := by decide +kernel
theorem dX12_was_44 : decode cX12_was 44 = .ok (.bipush 12, 2) := by decide +kernel
theorem dX12_was_46 : decode cX12_was 46 = .ok (.if_icmp .ge 26, 3) := by decide +kernel
theorem dX12_was_49 : decode cX12_was 49 = .ok (.aload_n 0, 1) := by decide +kernel
theorem dX12_was_50 : decode cX12_was 50 = .ok (.getfield 31, 3) := by decide +kernel
theorem dX12_was_53 : decode cX12_was 53 = .ok (.iload 4, 2) := by decide +kernel
theorem dX12_was_55 : decode cX12_was 55 = .ok (.aload_n 0, 1) := by decide +kernel
theorem dX12_was_56 : decode cX12_was 56 = .ok (.getfield 19, 3) := by decide +kernel
theorem dX12_was_59 : decode cX12_was 59 = .ok (.bipush 17, 2) := by decide +kernel
theorem dX12_was_61 : decode cX12_was 61 = .ok (.iload 4, 2) := by decide +kernel
theorem dX12_was_63 : decode cX12_was 63 = .ok (.iadd, 1) := by decide +kernel
theorem dX12_was_64 : decode cX12_was 64 = .ok (.iaload, 1) := by decide +kernel
theorem dX12_was_65 : decode cX12_was 65 = .ok (.iastore, 1) := by decide +kernel
theorem dX12_was_66 : decode cX12_was 66 = .ok (.iinc 4 1, 3) := by decide +kernel
theorem dX12_was_69 : decode cX12_was 69 = .ok (.goto (-27), 3) := by decide +kernel
theorem dX12_was_72 : decode cX12_was 72 = .ok (.iconst 0, 1) := by decide +kernel
theorem dX12_was_73 : decode cX12_was 73 = .ok (.istore 4, 2) := by decide +kernel
theorem dX12_was_75 : decode cX12_was 75 = .ok (.iload 4, 2) := by decide +kernel
theorem dX12_was_77 : decode cX12_was 77 = .ok (.iload_n 1, 1) := by decide +kernel
theorem dX12_was_78 : decode cX12_was 78 = .ok (.if_icmp .ge 189, 3) := by decide +kernel
theorem dX12_was_81 : decode cX12_was 81 = .ok (.aload_n 0, 1) := by decide +kernel
theorem dX12_was_82 : decode cX12_was 82 = .ok (.iload 4, 2) := by decide +kernel
theorem dX12_was_84 : decode cX12_was 84 = .ok (.iconst 0, 1) := by decide +kernel
theorem dX12_was_85 : decode cX12_was 85 = .ok (.invokevirtual 197, 3) := by decide +kernel
theorem dX12_was_88 : decode cX12_was 88 = .ok (.istore 5, 2) := by decide +kernel
theorem dX12_was_90 : decode cX12_was 90 = .ok (.iload 5, 2) := by decide +kernel
theorem dX12_was_92 : decode cX12_was 92 = .ok (.ifCond .ne 38, 3) := by decide +kernel
theorem dX12_was_95 : decode cX12_was 95 = .ok (.aload_n 0, 1) := by decide +kernel
theorem dX12_was_96 : decode cX12_was 96 = .ok (.getfield 31, 3) := by decide +kernel
theorem dX12_was_99 : decode cX12_was 99 = .ok (.iconst 3, 1) := by decide +kernel
theorem dX12_was_100 : decode cX12_was 100 = .ok (.aload_n 0, 1) := by decide +kernel
theorem dX12_was_101 : decode cX12_was 101 = .ok (.iload 4, 2) := by decide +kernel
theorem dX12_was_103 : decode cX12_was 103 = .ok (.iconst 2, 1) := by decide +kernel
theorem dX12_was_104 : decode cX12_was 104 = .ok (.invokevirtual 197, 3) := by decide +kernel
theorem dX12_was_107 : decode cX12_was 107 = .ok (.imul, 1) := by decide +kernel
theorem dX12_was_108 : decode cX12_was 108 = .ok (.aload_n 0, 1) := by decide +kernel
theorem dX12_was_109 : decode cX12_was 109 = .ok (.iload 4, 2) := by decide +kernel
theorem dX12_was_111 : decode cX12_was 111 = .ok (.iconst 3, 1) := by decide +kernel
theorem dX12_was_112 : decode cX12_was 112 = .ok (.invokevirtual 197, 3) := by decide +kernel
theorem dX12_was_115 : decode cX12_was 115 = .ok (.iadd, 1) := by decide +kernel
theorem dX12_was_116 : decode cX12_was 116 = .ok (.dup2, 1) := by decide +kernel
theorem dX12_was_117 : decode cX12_was 117 = .ok (.iaload, 1) := by decide +kernel
theorem dX12_was_118 : decode cX12_was 118 = .ok (.aload_n 0, 1) := by decide +kernel
theorem dX12_was_119 : decode cX12_was 119 = .ok (.iload 4, 2) := by decide +kernel
theorem dX12_was_121 : decode cX12_was 121 = .ok (.iconst 5, 1) := by decide +kernel
theorem dX12_was_122 : decode cX12_was 122 = .ok (.invokevirtual 197, 3) := by decide +kernel
theorem dX12_was_125 : decode cX12_was 125 = .ok (.iadd, 1) := by decide +kernel
theorem dX12_was_126 : decode cX12_was 126 = .ok (.iastore, 1) := by decide +kernel
theorem dX12_was_127 : decode cX12_was 127 = .ok (.goto 134, 3) := by decide +kernel
theorem dX12_was_130 : decode cX12_was 130 = .ok (.iload 5, 2) := by decide +kernel
theorem dX12_was_132 : decode cX12_was 132 = .ok (.iconst 1, 1) := by decide +kernel
theorem dX12_was_133 : decode cX12_was 133 = .ok (.if_icmp .ne 53, 3) := by decide +kernel
theorem dX12_was_136 : decode cX12_was 136 = .ok (.iconst 0, 1) := by decide +kernel
theorem dX12_was_137 : decode cX12_was 137 = .ok (.istore 6, 2) := by decide +kernel
theorem dX12_was_139 : decode cX12_was 139 = .ok (.iload 6, 2) := by decide +kernel
theorem dX12_was_141 : decode cX12_was 141 = .ok (.bipush 12, 2) := by decide +kernel
theorem dX12_was_143 : decode cX12_was 143 = .ok (.if_icmp .ge 40, 3) := by decide +kernel
theorem dX12_was_146 : decode cX12_was 146 = .ok (.aload_n 0, 1) := by decide +kernel
theorem dX12_was_147 : decode cX12_was 147 = .ok (.getfield 31, 3) := by decide +kernel
theorem dX12_was_150 : decode cX12_was 150 = .ok (.iload 6, 2) := by decide +kernel
theorem dX12_was_152 : decode cX12_was 152 = .ok (.dup2, 1) := by decide +kernel
theorem dX12_was_153 : decode cX12_was 153 = .ok (.iaload, 1) := by decide +kernel
theorem dX12_was_154 : decode cX12_was 154 = .ok (.aload_n 0, 1) := by decide +kernel
theorem dX12_was_155 : decode cX12_was 155 = .ok (.aload_n 0, 1) := by decide +kernel
theorem dX12_was_156 : decode cX12_was 156 = .ok (.getfield 31, 3) := by decide +kernel
theorem dX12_was_159 : decode cX12_was 159 = .ok (.iload 6, 2) := by decide +kernel
theorem dX12_was_161 : decode cX12_was 161 = .ok (.iaload, 1) := by decide +kernel
theorem dX12_was_162 : decode cX12_was 162 = .ok (.aload_n 0, 1) := by decide +kernel
theorem dX12_was_163 : decode cX12_was 163 = .ok (.getfield 19, 3) := by decide +kernel
theorem dX12_was_166 : decode cX12_was 166 = .ok (.bipush 17, 2) := by decide +kernel
theorem dX12_was_168 : decode cX12_was 168 = .ok (.iload 6, 2) := by decide +kernel
theorem dX12_was_170 : decode cX12_was 170 = .ok (.iadd, 1) := by decide +kernel
theorem dX12_was_171 : decode cX12_was 171 = .ok (.iaload, 1) := by decide +kernel
theorem dX12_was_172 : decode cX12_was 172 = .ok (.invokevirtual 189, 3) := by decide +kernel
theorem dX12_was_175 : decode cX12_was 175 = .ok (.isub, 1) := by decide +kernel
theorem dX12_was_176 : decode cX12_was 176 = .ok (.iastore, 1) := by decide +kernel
theorem dX12_was_177 : decode cX12_was 177 = .ok (.iinc 6 1, 3) := by decide +kernel
theorem dX12_was_180 : decode cX12_was 180 = .ok (.goto (-41), 3) := by decide +kernel
theorem dX12_was_183 : decode cX12_was 183 = .ok (.goto 78, 3) := by decide +kernel
theorem dX12_was_186 : decode cX12_was 186 = .ok (.iconst 0, 1) := by decide +kernel
theorem dX12_was_187 : decode cX12_was 187 = .ok (.istore 6, 2) := by decide +kernel
theorem dX12_was_189 : decode cX12_was 189 = .ok (.iload 6, 2) := by decide +kernel
theorem dX12_was_191 : decode cX12_was 191 = .ok (.iconst 3, 1) := by decide +kernel
theorem dX12_was_192 : decode cX12_was 192 = .ok (.if_icmp .ge 69, 3) := by decide +kernel
theorem dX12_was_195 : decode cX12_was 195 = .ok (.iconst 3, 1) := by decide +kernel
theorem dX12_was_196 : decode cX12_was 196 = .ok (.aload_n 0, 1) := by decide +kernel
theorem dX12_was_197 : decode cX12_was 197 = .ok (.iload 4, 2) := by decide +kernel
theorem dX12_was_199 : decode cX12_was 199 = .ok (.iconst 1, 1) := by decide +kernel
theorem dX12_was_200 : decode cX12_was 200 = .ok (.invokevirtual 197, 3) := by decide +kernel
theorem dX12_was_203 : decode cX12_was 203 = .ok (.imul, 1) := by decide +kernel
theorem dX12_was_204 : decode cX12_was 204 = .ok (.iload 6, 2) := by decide +kernel
theorem dX12_was_206 : decode cX12_was 206 = .ok (.iadd, 1) := by decide +kernel
theorem dX12_was_207 : decode cX12_was 207 = .ok (.istore 7, 2) := by decide +kernel
theorem dX12_was_209 : decode cX12_was 209 = .ok (.iconst 3, 1) := by decide +kernel
theorem dX12_was_210 : decode cX12_was 210 = .ok (.aload_n 0, 1) := by decide +kernel
theorem dX12_was_211 : decode cX12_was 211 = .ok (.iload 4, 2) := by decide +kernel
theorem dX12_was_213 : decode cX12_was 213 = .ok (.iconst 2, 1) := by decide +kernel
theorem dX12_was_214 : decode cX12_was 214 = .ok (.invokevirtual 197, 3) := by decide +kernel
theorem dX12_was_217 : decode cX12_was 217 = .ok (.imul, 1) := by decide +kernel
theorem dX12_was_218 : decode cX12_was 218 = .ok (.iload 6, 2) := by decide +kernel
theorem dX12_was_220 : decode cX12_was 220 = .ok (.iadd, 1) := by decide +kernel
theorem dX12_was_221 : decode cX12_was 221 = .ok (.istore 8, 2) := by decide +kernel
theorem dX12_was_223 : decode cX12_was 223 = .ok (.aload_n 0, 1) := by decide +kernel
theorem dX12_was_224 : decode cX12_was 224 = .ok (.getfield 31, 3) := by decide +kernel
theorem dX12_was_227 : decode cX12_was 227 = .ok (.iload 7, 2) := by decide +kernel
theorem dX12_was_229 : decode cX12_was 229 = .ok (.iaload, 1) := by decide +kernel
theorem dX12_was_230 : decode cX12_was 230 = .ok (.istore 9, 2) := by decide +kernel
theorem dX12_was_232 : decode cX12_was 232 = .ok (.aload_n 0, 1) := by decide +kernel
theorem dX12_was_233 : decode cX12_was 233 = .ok (.getfield 31, 3) := by decide +kernel
theorem dX12_was_236 : decode cX12_was 236 = .ok (.iload 7, 2) := by decide +kernel
theorem dX12_was_238 : decode cX12_was 238 = .ok (.aload_n 0, 1) := by decide +kernel
theorem dX12_was_239 : decode cX12_was 239 = .ok (.getfield 31, 3) := by decide +kernel
theorem dX12_was_242 : decode cX12_was 242 = .ok (.iload 8, 2) := by decide +kernel
theorem dX12_was_244 : decode cX12_was 244 = .ok (.iaload, 1) := by decide +kernel
theorem dX12_was_245 : decode cX12_was 245 = .ok (.iastore, 1) := by decide +kernel
theorem dX12_was_246 : decode cX12_was 246 = .ok (.aload_n 0, 1) := by decide +kernel
theorem dX12_was_247 : decode cX12_was 247 = .ok (.getfield 31, 3) := by decide +kernel
theorem dX12_was_250 : decode cX12_was 250 = .ok (.iload 8, 2) := by decide +kernel
theorem dX12_was_252 : decode cX12_was 252 = .ok (.iload 9, 2) := by decide +kernel
theorem dX12_was_254 : decode cX12_was 254 = .ok (.iastore, 1) := by decide +kernel
theorem dX12_was_255 : decode cX12_was 255 = .ok (.iinc 6 1, 3) := by decide +kernel
theorem dX12_was_258 : decode cX12_was 258 = .ok (.goto (-69), 3) := by decide +kernel
theorem dX12_was_261 : decode cX12_was 261 = .ok (.iinc 4 1, 3) := by decide +kernel
theorem dX12_was_264 : decode cX12_was 264 = .ok (.goto (-189), 3) := by decide +kernel
theorem dX12_was_267 : decode cX12_was 267 = .ok (.aload_n 0, 1) := by decide +kernel
theorem dX12_was_268 : decode cX12_was 268 = .ok (.getfield 31, 3) := by decide +kernel
theorem dX12_was_271 : decode cX12_was 271 = .ok (.iconst 3, 1) := by decide +kernel
theorem dX12_was_272 : decode cX12_was 272 = .ok (.iload_n 2, 1) := by decide +kernel
theorem dX12_was_273 : decode cX12_was 273 = .ok (.imul, 1) := by decide +kernel
theorem dX12_was_274 : decode cX12_was 274 = .ok (.iload_n 3, 1) := by decide +kernel
theorem dX12_was_275 : decode cX12_was 275 = .ok (.iadd, 1) := by decide +kernel
theorem dX12_was_276 : decode cX12_was 276 = .ok (.iaload, 1) := by decide +kernel
theorem dX12_was_277 : decode cX12_was 277 = .ok (.ireturn, 1) := by decide +kernel
theorem dX12_bits_0 : decode cX12_bits 0 = .ok (.iconst 0, 1) := by decide +kernel
theorem dX12_bits_1 : decode cX12_bits 1 = .ok (.istore_n 1, 1) := by decide +kernel
theorem dX12_bits_2 : decode cX12_bits 2 = .ok (.iconst 0, 1) := by decide +kernel
theorem dX12_bits_3 : decode cX12_bits 3 = .ok (.istore_n 2, 1) := by decide +kernel
theorem dX12_bits_4 : decode cX12_bits 4 = .ok (.iload_n 2, 1) := by decide +kernel
theorem dX12_bits_5 : decode cX12_bits 5 = .ok (.bipush 12, 2) := by decide +kernel
theorem dX12_bits_7 : decode cX12_bits 7 = .ok (.if_icmp .ge 17, 3) := by decide +kernel
theorem dX12_bits_10 : decode cX12_bits 10 = .ok (.iload_n 1, 1) := by decide +kernel
theorem dX12_bits_11 : decode cX12_bits 11 = .ok (.iload_n 0, 1) := by decide +kernel
theorem dX12_bits_12 : decode cX12_bits 12 = .ok (.iload_n 2, 1) := by decide +kernel
theorem dX12_bits_13 : decode cX12_bits 13 = .ok (.ishr, 1) := by decide +kernel
theorem dX12_bits_14 : decode cX12_bits 14 = .ok (.iconst 1, 1) := by decide +kernel
theorem dX12_bits_15 : decode cX12_bits 15 = .ok (.iand, 1) := by decide +kernel
theorem dX12_bits_16 : decode cX12_bits 16 = .ok (.iadd, 1) := by decide +kernel
theorem dX12_bits_17 : decode cX12_bits 17 = .ok (.istore_n 1, 1) := by decide +kernel
theorem dX12_bits_18 : decode cX12_bits 18 = .ok (.iinc 2 1, 3) := by decide +kernel
theorem dX12_bits_21 : decode cX12_bits 21 = .ok (.goto (-17), 3) := by decide +kernel
theorem dX12_bits_24 : decode cX12_bits 24 = .ok (.iload_n 1, 1) := by decide +kernel
theorem dX12_bits_25 : decode cX12_bits 25 = .ok (.ireturn, 1) := by decide +kernel
theorem dX12_isBy_0 : decode cX12_isBy 0 = .ok (.iconst 1, 1) := by decide +kernel
theorem dX12_isBy_1 : decode cX12_isBy 1 = .ok (.istore 4, 2) := by decide +kernel
theorem dX12_isBy_3 : decode cX12_isBy 3 = .ok (.iconst 0, 1) := by decide +kernel
theorem dX12_isBy_4 : decode cX12_isBy 4 = .ok (.istore 5, 2) := by decide +kernel
theorem dX12_isBy_6 : decode cX12_isBy 6 = .ok (.iload 5, 2) := by decide +kernel
theorem dX12_isBy_8 : decode cX12_isBy 8 = .ok (.iconst 3, 1) := by decide +kernel
theorem dX12_isBy_9 : decode cX12_isBy 9 = .ok (.if_icmp .ge 142, 3) := by decide +kernel
theorem dX12_isBy_12 : decode cX12_isBy 12 = .ok (.iconst 0, 1) := by decide +kernel
theorem dX12_isBy_13 : decode cX12_isBy 13 = .ok (.istore 6, 2) := by decide +kernel
theorem dX12_isBy_15 : decode cX12_isBy 15 = .ok (.iconst 0, 1) := by decide +kernel
theorem dX12_isBy_16 : decode cX12_isBy 16 = .ok (.istore 7, 2) := by decide +kernel
theorem dX12_isBy_18 : decode cX12_isBy 18 = .ok (.iload 7, 2) := by decide +kernel
theorem dX12_isBy_20 : decode cX12_isBy 20 = .ok (.aload_n 0, 1) := by decide +kernel
theorem dX12_isBy_21 : decode cX12_isBy 21 = .ok (.getfield 19, 3) := by decide +kernel
theorem dX12_isBy_24 : decode cX12_isBy 24 = .ok (.iconst 4, 1) := by decide +kernel
theorem dX12_isBy_25 : decode cX12_isBy 25 = .ok (.iaload, 1) := by decide +kernel
theorem dX12_isBy_26 : decode cX12_isBy 26 = .ok (.if_icmp .ge 93, 3) := by decide +kernel
theorem dX12_isBy_29 : decode cX12_isBy 29 = .ok (.aload_n 0, 1) := by decide +kernel
theorem dX12_isBy_30 : decode cX12_isBy 30 = .ok (.iload 7, 2) := by decide +kernel
theorem dX12_isBy_32 : decode cX12_isBy 32 = .ok (.iconst 0, 1) := by decide +kernel
theorem dX12_isBy_33 : decode cX12_isBy 33 = .ok (.invokevirtual 197, 3) := by decide +kernel
theorem dX12_isBy_36 : decode cX12_isBy 36 = .ok (.ifCond .ne 45, 3) := by decide +kernel
theorem dX12_isBy_39 : decode cX12_isBy 39 = .ok (.aload_n 0, 1) := by decide +kernel
theorem dX12_isBy_40 : decode cX12_isBy 40 = .ok (.iload 7, 2) := by decide +kernel
theorem dX12_isBy_42 : decode cX12_isBy 42 = .ok (.iconst 2, 1) := by decide +kernel
theorem dX12_isBy_43 : decode cX12_isBy 43 = .ok (.invokevirtual 197, 3) := by decide +kernel
theorem dX12_isBy_46 : decode cX12_isBy 46 = .ok (.iload_n 1, 1) := by decide +kernel
theorem dX12_isBy_47 : decode cX12_isBy 47 = .ok (.if_icmp .ne 34, 3) := by decide +kernel
theorem dX12_isBy_50 : decode cX12_isBy 50 = .ok (.aload_n 0, 1) := by decide +kernel
theorem dX12_isBy_51 : decode cX12_isBy 51 = .ok (.iload 7, 2) := by decide +kernel
theorem dX12_isBy_53 : decode cX12_isBy 53 = .ok (.iconst 3, 1) := by decide +kernel
theorem dX12_isBy_54 : decode cX12_isBy 54 = .ok (.invokevirtual 197, 3) := by decide +kernel
theorem dX12_isBy_57 : decode cX12_isBy 57 = .ok (.iload 5, 2) := by decide +kernel
theorem dX12_isBy_59 : decode cX12_isBy 59 = .ok (.if_icmp .ne 22, 3) := by decide +kernel
theorem dX12_isBy_62 : decode cX12_isBy 62 = .ok (.iload_n 3, 1) := by decide +kernel
theorem dX12_isBy_63 : decode cX12_isBy 63 = .ok (.aload_n 0, 1) := by decide +kernel
theorem dX12_isBy_64 : decode cX12_isBy 64 = .ok (.iload 7, 2) := by decide +kernel
theorem dX12_isBy_66 : decode cX12_isBy 66 = .ok (.iconst 1, 1) := by decide +kernel
theorem dX12_isBy_67 : decode cX12_isBy 67 = .ok (.invokevirtual 197, 3) := by decide +kernel
theorem dX12_isBy_70 : decode cX12_isBy 70 = .ok (.ishr, 1) := by decide +kernel
theorem dX12_isBy_71 : decode cX12_isBy 71 = .ok (.iconst 1, 1) := by decide +kernel
theorem dX12_isBy_72 : decode cX12_isBy 72 = .ok (.iand, 1) := by decide +kernel
theorem dX12_isBy_73 : decode cX12_isBy 73 = .ok (.iconst 1, 1) := by decide +kernel
theorem dX12_isBy_74 : decode cX12_isBy 74 = .ok (.if_icmp .ne 7, 3) := by decide +kernel
theorem dX12_isBy_77 : decode cX12_isBy 77 = .ok (.iconst 1, 1) := by decide +kernel
theorem dX12_isBy_78 : decode cX12_isBy 78 = .ok (.goto 4, 3) := by decide +kernel
theorem dX12_isBy_81 : decode cX12_isBy 81 = .ok (.iconst 0, 1) := by decide +kernel
theorem dX12_isBy_82 : decode cX12_isBy 82 = .ok (.istore 8, 2) := by decide +kernel
theorem dX12_isBy_84 : decode cX12_isBy 84 = .ok (.iload 6, 2) := by decide +kernel
theorem dX12_isBy_86 : decode cX12_isBy 86 = .ok (.iload 8, 2) := by decide +kernel
theorem dX12_isBy_88 : decode cX12_isBy 88 = .ok (.ifCond .eq 21, 3) := by decide +kernel
theorem dX12_isBy_91 : decode cX12_isBy 91 = .ok (.aload_n 0, 1) := by decide +kernel
theorem dX12_isBy_92 : decode cX12_isBy 92 = .ok (.iload 7, 2) := by decide +kernel
theorem dX12_isBy_94 : decode cX12_isBy 94 = .ok (.iconst 4, 1) := by decide +kernel
theorem dX12_isBy_95 : decode cX12_isBy 95 = .ok (.invokevirtual 197, 3) := by decide +kernel
theorem dX12_isBy_98 : decode cX12_isBy 98 = .ok (.aload_n 0, 1) := by decide +kernel
theorem dX12_isBy_99 : decode cX12_isBy 99 = .ok (.iload 7, 2) := by decide +kernel
theorem dX12_isBy_101 : decode cX12_isBy 101 = .ok (.iconst 5, 1) := by decide +kernel
theorem dX12_isBy_102 : decode cX12_isBy 102 = .ok (.invokevirtual 197, 3) := by decide +kernel
theorem dX12_isBy_105 : decode cX12_isBy 105 = .ok (.isub, 1) := by decide +kernel
theorem dX12_isBy_106 : decode cX12_isBy 106 = .ok (.goto 4, 3) := by decide +kernel
theorem dX12_isBy_109 : decode cX12_isBy 109 = .ok (.iconst 0, 1) := by decide +kernel
theorem dX12_isBy_110 : decode cX12_isBy 110 = .ok (.iadd, 1) := by decide +kernel
theorem dX12_isBy_111 : decode cX12_isBy 111 = .ok (.istore 6, 2) := by decide +kernel
theorem dX12_isBy_113 : decode cX12_isBy 113 = .ok (.iinc 7 1, 3) := by decide +kernel
theorem dX12_isBy_116 : decode cX12_isBy 116 = .ok (.goto (-98), 3) := by decide +kernel
theorem dX12_isBy_119 : decode cX12_isBy 119 = .ok (.iload 4, 2) := by decide +kernel
theorem dX12_isBy_121 : decode cX12_isBy 121 = .ok (.ifCond .eq 21, 3) := by decide +kernel
theorem dX12_isBy_124 : decode cX12_isBy 124 = .ok (.iload 6, 2) := by decide +kernel
theorem dX12_isBy_126 : decode cX12_isBy 126 = .ok (.aload_n 0, 1) := by decide +kernel
theorem dX12_isBy_127 : decode cX12_isBy 127 = .ok (.getfield 16, 3) := by decide +kernel
theorem dX12_isBy_130 : decode cX12_isBy 130 = .ok (.iload_n 2, 1) := by decide +kernel
theorem dX12_isBy_131 : decode cX12_isBy 131 = .ok (.iload 5, 2) := by decide +kernel
theorem dX12_isBy_133 : decode cX12_isBy 133 = .ok (.iadd, 1) := by decide +kernel
theorem dX12_isBy_134 : decode cX12_isBy 134 = .ok (.iaload, 1) := by decide +kernel
theorem dX12_isBy_135 : decode cX12_isBy 135 = .ok (.if_icmp .ne 7, 3) := by decide +kernel
theorem dX12_isBy_138 : decode cX12_isBy 138 = .ok (.iconst 1, 1) := by decide +kernel
theorem dX12_isBy_139 : decode cX12_isBy 139 = .ok (.goto 4, 3) := by decide +kernel
theorem dX12_isBy_142 : decode cX12_isBy 142 = .ok (.iconst 0, 1) := by decide +kernel
theorem dX12_isBy_143 : decode cX12_isBy 143 = .ok (.istore 4, 2) := by decide +kernel
theorem dX12_isBy_145 : decode cX12_isBy 145 = .ok (.iinc 5 1, 3) := by decide +kernel
theorem dX12_isBy_148 : decode cX12_isBy 148 = .ok (.goto (-142), 3) := by decide +kernel
theorem dX12_isBy_151 : decode cX12_isBy 151 = .ok (.iload 4, 2) := by decide +kernel
theorem dX12_isBy_153 : decode cX12_isBy 153 = .ok (.ireturn, 1) := by decide +kernel
theorem dX12_setsOf_0 : decode cX12_setsOf 0 = .ok (.iconst 0, 1) := by decide +kernel
theorem dX12_setsOf_1 : decode cX12_setsOf 1 = .ok (.istore 4, 2) := by decide +kernel
theorem dX12_setsOf_3 : decode cX12_setsOf 3 = .ok (.iconst 0, 1) := by decide +kernel
theorem dX12_setsOf_4 : decode cX12_setsOf 4 = .ok (.istore 5, 2) := by decide +kernel
theorem dX12_setsOf_6 : decode cX12_setsOf 6 = .ok (.iload 5, 2) := by decide +kernel
theorem dX12_setsOf_8 : decode cX12_setsOf 8 = .ok (.iconst 1, 1) := by decide +kernel
theorem dX12_setsOf_9 : decode cX12_setsOf 9 = .ok (.aload_n 0, 1) := by decide +kernel
theorem dX12_setsOf_10 : decode cX12_setsOf 10 = .ok (.getfield 19, 3) := by decide +kernel
theorem dX12_setsOf_13 : decode cX12_setsOf 13 = .ok (.iconst 3, 1) := by decide +kernel
theorem dX12_setsOf_14 : decode cX12_setsOf 14 = .ok (.iaload, 1) := by decide +kernel
theorem dX12_setsOf_15 : decode cX12_setsOf 15 = .ok (.ishl, 1) := by decide +kernel
theorem dX12_setsOf_16 : decode cX12_setsOf 16 = .ok (.if_icmp .ge 46, 3) := by decide +kernel
theorem dX12_setsOf_19 : decode cX12_setsOf 19 = .ok (.iload 4, 2) := by decide +kernel
theorem dX12_setsOf_21 : decode cX12_setsOf 21 = .ok (.iload_n 3, 1) := by decide +kernel
theorem dX12_setsOf_22 : decode cX12_setsOf 22 = .ok (.ldc 96, 2) := by decide +kernel
theorem dX12_setsOf_24 : decode cX12_setsOf 24 = .ok (.if_icmp .eq 13, 3) := by decide +kernel
theorem dX12_setsOf_27 : decode cX12_setsOf 27 = .ok (.iload 5, 2) := by decide +kernel
theorem dX12_setsOf_29 : decode cX12_setsOf 29 = .ok (.iload_n 3, 1) := by decide +kernel
theorem dX12_setsOf_30 : decode cX12_setsOf 30 = .ok (.ishr, 1) := by decide +kernel
theorem dX12_setsOf_31 : decode cX12_setsOf 31 = .ok (.iconst 1, 1) := by decide +kernel
theorem dX12_setsOf_32 : decode cX12_setsOf 32 = .ok (.iand, 1) := by decide +kernel
theorem dX12_setsOf_33 : decode cX12_setsOf 33 = .ok (.iconst 1, 1) := by decide +kernel
theorem dX12_setsOf_34 : decode cX12_setsOf 34 = .ok (.if_icmp .ne 18, 3) := by decide +kernel
theorem dX12_setsOf_37 : decode cX12_setsOf 37 = .ok (.aload_n 0, 1) := by decide +kernel
theorem dX12_setsOf_38 : decode cX12_setsOf 38 = .ok (.iload_n 1, 1) := by decide +kernel
theorem dX12_setsOf_39 : decode cX12_setsOf 39 = .ok (.iload_n 2, 1) := by decide +kernel
theorem dX12_setsOf_40 : decode cX12_setsOf 40 = .ok (.iload 5, 2) := by decide +kernel
theorem dX12_setsOf_42 : decode cX12_setsOf 42 = .ok (.invokevirtual 200, 3) := by decide +kernel
theorem dX12_setsOf_45 : decode cX12_setsOf 45 = .ok (.ifCond .eq 7, 3) := by decide +kernel
theorem dX12_setsOf_48 : decode cX12_setsOf 48 = .ok (.iconst 1, 1) := by decide +kernel
theorem dX12_setsOf_49 : decode cX12_setsOf 49 = .ok (.goto 4, 3) := by decide +kernel
theorem dX12_setsOf_52 : decode cX12_setsOf 52 = .ok (.iconst 0, 1) := by decide +kernel
theorem dX12_setsOf_53 : decode cX12_setsOf 53 = .ok (.iadd, 1) := by decide +kernel
theorem dX12_setsOf_54 : decode cX12_setsOf 54 = .ok (.istore 4, 2) := by decide +kernel
theorem dX12_setsOf_56 : decode cX12_setsOf 56 = .ok (.iinc 5 1, 3) := by decide +kernel
theorem dX12_setsOf_59 : decode cX12_setsOf 59 = .ok (.goto (-53), 3) := by decide +kernel
theorem dX12_setsOf_62 : decode cX12_setsOf 62 = .ok (.iload 4, 2) := by decide +kernel
theorem dX12_setsOf_64 : decode cX12_setsOf 64 = .ok (.ireturn, 1) := by decide +kernel
theorem dX12_noRow_0 : decode cX12_noRow 0 = .ok (.aload_n 0, 1) := by decide +kernel
theorem dX12_noRow_1 : decode cX12_noRow 1 = .ok (.getfield 7, 3) := by decide +kernel
theorem dX12_noRow_4 : decode cX12_noRow 4 = .ok (.iload_n 1, 1) := by decide +kernel
theorem dX12_noRow_5 : decode cX12_noRow 5 = .ok (.iaload, 1) := by decide +kernel
theorem dX12_noRow_6 : decode cX12_noRow 6 = .ok (.ifCond .ge 9, 3) := by decide +kernel
theorem dX12_noRow_9 : decode cX12_noRow 9 = .ok (.aload_n 0, 1) := by decide +kernel
theorem dX12_noRow_10 : decode cX12_noRow 10 = .ok (.iconst 1, 1) := by decide +kernel
theorem dX12_noRow_11 : decode cX12_noRow 11 = .ok (.invokevirtual 74, 3) := by decide +kernel
theorem dX12_noRow_14 : decode cX12_noRow 14 = .ok (.ireturn, 1) := by decide +kernel
theorem dX12_noRow_15 : decode cX12_noRow 15 = .ok (.iload_n 2, 1) := by decide +kernel
theorem dX12_noRow_16 : decode cX12_noRow 16 = .ok (.ifCond .lt 19, 3) := by decide +kernel
theorem dX12_noRow_19 : decode cX12_noRow 19 = .ok (.iload_n 2, 1) := by decide +kernel
theorem dX12_noRow_20 : decode cX12_noRow 20 = .ok (.i2l, 1) := by decide +kernel
theorem dX12_noRow_21 : decode cX12_noRow 21 = .ok (.iload_n 3, 1) := by decide +kernel
theorem dX12_noRow_22 : decode cX12_noRow 22 = .ok (.i2l, 1) := by decide +kernel
theorem dX12_noRow_23 : decode cX12_noRow 23 = .ok (.ladd, 1) := by decide +kernel
theorem dX12_noRow_24 : decode cX12_noRow 24 = .ok (.aload_n 0, 1) := by decide +kernel
theorem dX12_noRow_25 : decode cX12_noRow 25 = .ok (.getfield 13, 3) := by decide +kernel
theorem dX12_noRow_28 : decode cX12_noRow 28 = .ok (.iload_n 1, 1) := by decide +kernel
theorem dX12_noRow_29 : decode cX12_noRow 29 = .ok (.iaload, 1) := by decide +kernel
theorem dX12_noRow_30 : decode cX12_noRow 30 = .ok (.i2l, 1) := by decide +kernel
theorem dX12_noRow_31 : decode cX12_noRow 31 = .ok (.lcmp, 1) := by decide +kernel
theorem dX12_noRow_32 : decode cX12_noRow 32 = .ok (.ifCond .le 9, 3) := by decide +kernel
theorem dX12_noRow_35 : decode cX12_noRow 35 = .ok (.aload_n 0, 1) := by decide +kernel
theorem dX12_noRow_36 : decode cX12_noRow 36 = .ok (.iconst 2, 1) := by decide +kernel
theorem dX12_noRow_37 : decode cX12_noRow 37 = .ok (.invokevirtual 74, 3) := by decide +kernel
theorem dX12_noRow_40 : decode cX12_noRow 40 = .ok (.ireturn, 1) := by decide +kernel
theorem dX12_noRow_41 : decode cX12_noRow 41 = .ok (.aload_n 0, 1) := by decide +kernel
theorem dX12_noRow_42 : decode cX12_noRow 42 = .ok (.iconst 0, 1) := by decide +kernel
theorem dX12_noRow_43 : decode cX12_noRow 43 = .ok (.putfield 57, 3) := by decide +kernel
theorem dX12_noRow_46 : decode cX12_noRow 46 = .ok (.iconst 0, 1) := by decide +kernel
theorem dX12_noRow_47 : decode cX12_noRow 47 = .ok (.ireturn, 1) := by decide +kernel
theorem dX12_liars_0 : decode cX12_liars 0 = .ok (.aload_n 0, 1) := by decide +kernel
theorem dX12_liars_1 : decode cX12_liars 1 = .ok (.iconst 0, 1) := by decide +kernel
theorem dX12_liars_2 : decode cX12_liars 2 = .ok (.putfield 53, 3) := by decide +kernel
theorem dX12_liars_5 : decode cX12_liars 5 = .ok (.aload_n 0, 1) := by decide +kernel
theorem dX12_liars_6 : decode cX12_liars 6 = .ok (.iload_n 1, 1) := by decide +kernel
theorem dX12_liars_7 : decode cX12_liars 7 = .ok (.invokevirtual 161, 3) := by decide +kernel
theorem dX12_liars_10 : decode cX12_liars 10 = .ok (.ifCond .eq 21, 3) := by decide +kernel
theorem dX12_liars_13 : decode cX12_liars 13 = .ok (.iload_n 2, 1) := by decide +kernel
theorem dX12_liars_14 : decode cX12_liars 14 = .ok (.invokestatic 67, 3) := by decide +kernel
theorem dX12_liars_17 : decode cX12_liars 17 = .ok (.ifCond .eq 14, 3) := by decide +kernel
theorem dX12_liars_20 : decode cX12_liars 20 = .ok (.iload 4, 2) := by decide +kernel
theorem dX12_liars_22 : decode cX12_liars 22 = .ok (.i2l, 1) := by decide +kernel
theorem dX12_liars_23 : decode cX12_liars 23 = .ok (.lconst 0, 1) := by decide +kernel
theorem dX12_liars_24 : decode cX12_liars 24 = .ok (.lconst 1, 1) := by decide +kernel
theorem dX12_liars_25 : decode cX12_liars 25 = .ok (.invokestatic 63, 3) := by decide +kernel
theorem dX12_liars_28 : decode cX12_liars 28 = .ok (.ifCond .ne 6, 3) := by decide +kernel
theorem dX12_liars_31 : decode cX12_liars 31 = .ok (.ldc 73, 2) := by decide +kernel
theorem dX12_liars_33 : decode cX12_liars 33 = .ok (.ireturn, 1) := by decide +kernel
theorem dX12_liars_34 : decode cX12_liars 34 = .ok (.aload_n 0, 1) := by decide +kernel
theorem dX12_liars_35 : decode cX12_liars 35 = .ok (.iload_n 2, 1) := by decide +kernel
theorem dX12_liars_36 : decode cX12_liars 36 = .ok (.iload_n 3, 1) := by decide +kernel
theorem dX12_liars_37 : decode cX12_liars 37 = .ok (.iconst 3, 1) := by decide +kernel
theorem dX12_liars_38 : decode cX12_liars 38 = .ok (.invokevirtual 204, 3) := by decide +kernel
theorem dX12_liars_41 : decode cX12_liars 41 = .ok (.istore 5, 2) := by decide +kernel
theorem dX12_liars_43 : decode cX12_liars 43 = .ok (.iload 5, 2) := by decide +kernel
theorem dX12_liars_45 : decode cX12_liars 45 = .ok (.ifCond .ge 6, 3) := by decide +kernel
theorem dX12_liars_48 : decode cX12_liars 48 = .ok (.iload 5, 2) := by decide +kernel
theorem dX12_liars_50 : decode cX12_liars 50 = .ok (.ireturn, 1) := by decide +kernel
theorem dX12_liars_51 : decode cX12_liars 51 = .ok (.bipush 40, 2) := by decide +kernel
theorem dX12_liars_53 : decode cX12_liars 53 = .ok (.iload_n 2, 1) := by decide +kernel
theorem dX12_liars_54 : decode cX12_liars 54 = .ok (.imul, 1) := by decide +kernel
theorem dX12_liars_55 : decode cX12_liars 55 = .ok (.iload_n 3, 1) := by decide +kernel
theorem dX12_liars_56 : decode cX12_liars 56 = .ok (.iadd, 1) := by decide +kernel
theorem dX12_liars_57 : decode cX12_liars 57 = .ok (.istore 6, 2) := by decide +kernel
theorem dX12_liars_59 : decode cX12_liars 59 = .ok (.iload 4, 2) := by decide +kernel
theorem dX12_liars_61 : decode cX12_liars 61 = .ok (.ifCond .ne 13, 3) := by decide +kernel
theorem dX12_liars_64 : decode cX12_liars 64 = .ok (.aload_n 0, 1) := by decide +kernel
theorem dX12_liars_65 : decode cX12_liars 65 = .ok (.iload_n 1, 1) := by decide +kernel
theorem dX12_liars_66 : decode cX12_liars 66 = .ok (.iload 6, 2) := by decide +kernel
theorem dX12_liars_68 : decode cX12_liars 68 = .ok (.ldc 96, 2) := by decide +kernel
theorem dX12_liars_70 : decode cX12_liars 70 = .ok (.invokevirtual 208, 3) := by decide +kernel
theorem dX12_liars_73 : decode cX12_liars 73 = .ok (.ireturn, 1) := by decide +kernel
theorem dX12_liars_74 : decode cX12_liars 74 = .ok (.ldc 96, 2) := by decide +kernel
theorem dX12_liars_76 : decode cX12_liars 76 = .ok (.istore 7, 2) := by decide +kernel
theorem dX12_liars_78 : decode cX12_liars 78 = .ok (.iconst 0, 1) := by decide +kernel
theorem dX12_liars_79 : decode cX12_liars 79 = .ok (.istore 8, 2) := by decide +kernel
theorem dX12_liars_81 : decode cX12_liars 81 = .ok (.iload 8, 2) := by decide +kernel
theorem dX12_liars_83 : decode cX12_liars 83 = .ok (.iconst 1, 1) := by decide +kernel
theorem dX12_liars_84 : decode cX12_liars 84 = .ok (.aload_n 0, 1) := by decide +kernel
theorem dX12_liars_85 : decode cX12_liars 85 = .ok (.getfield 19, 3) := by decide +kernel
theorem dX12_liars_88 : decode cX12_liars 88 = .ok (.iconst 3, 1) := by decide +kernel
theorem dX12_liars_89 : decode cX12_liars 89 = .ok (.iaload, 1) := by decide +kernel
theorem dX12_liars_90 : decode cX12_liars 90 = .ok (.ishl, 1) := by decide +kernel
theorem dX12_liars_91 : decode cX12_liars 91 = .ok (.if_icmp .ge 50, 3) := by decide +kernel
theorem dX12_liars_94 : decode cX12_liars 94 = .ok (.aload_n 0, 1) := by decide +kernel
theorem dX12_liars_95 : decode cX12_liars 95 = .ok (.iload_n 1, 1) := by decide +kernel
theorem dX12_liars_96 : decode cX12_liars 96 = .ok (.iload 6, 2) := by decide +kernel
theorem dX12_liars_98 : decode cX12_liars 98 = .ok (.iload 8, 2) := by decide +kernel
theorem dX12_liars_100 : decode cX12_liars 100 = .ok (.invokevirtual 200, 3) := by decide +kernel
theorem dX12_liars_103 : decode cX12_liars 103 = .ok (.ifCond .eq 28, 3) := by decide +kernel
theorem dX12_liars_106 : decode cX12_liars 106 = .ok (.iload 7, 2) := by decide +kernel
theorem dX12_liars_108 : decode cX12_liars 108 = .ok (.ldc 96, 2) := by decide +kernel
theorem dX12_liars_110 : decode cX12_liars 110 = .ok (.if_icmp .eq 16, 3) := by decide +kernel
theorem dX12_liars_113 : decode cX12_liars 113 = .ok (.iload 8, 2) := by decide +kernel
theorem dX12_liars_115 : decode cX12_liars 115 = .ok (.invokestatic 211, 3) := by decide +kernel
theorem dX12_liars_118 : decode cX12_liars 118 = .ok (.iload 7, 2) := by decide +kernel
theorem dX12_liars_120 : decode cX12_liars 120 = .ok (.invokestatic 211, 3) := by decide +kernel
theorem dX12_liars_123 : decode cX12_liars 123 = .ok (.if_icmp .ge 8, 3) := by decide +kernel
theorem dX12_liars_126 : decode cX12_liars 126 = .ok (.iload 8, 2) := by decide +kernel
theorem dX12_liars_128 : decode cX12_liars 128 = .ok (.goto 5, 3) := by decide +kernel
theorem dX12_liars_131 : decode cX12_liars 131 = .ok (.iload 7, 2) := by decide +kernel
theorem dX12_liars_133 : decode cX12_liars 133 = .ok (.istore 7, 2) := by decide +kernel
theorem dX12_liars_135 : decode cX12_liars 135 = .ok (.iinc 8 1, 3) := by decide +kernel
theorem dX12_liars_138 : decode cX12_liars 138 = .ok (.goto (-57), 3) := by decide +kernel
theorem dX12_liars_141 : decode cX12_liars 141 = .ok (.iload 7, 2) := by decide +kernel
theorem dX12_liars_143 : decode cX12_liars 143 = .ok (.ireturn, 1) := by decide +kernel
theorem dX12_common_0 : decode cX12_common 0 = .ok (.iload_n 0, 1) := by decide +kernel
theorem dX12_common_1 : decode cX12_common 1 = .ok (.istore_n 2, 1) := by decide +kernel
theorem dX12_common_2 : decode cX12_common 2 = .ok (.iload_n 1, 1) := by decide +kernel
theorem dX12_common_3 : decode cX12_common 3 = .ok (.istore_n 3, 1) := by decide +kernel
theorem dX12_common_4 : decode cX12_common 4 = .ok (.iload_n 3, 1) := by decide +kernel
theorem dX12_common_5 : decode cX12_common 5 = .ok (.ifCond .eq 16, 3) := by decide +kernel
theorem dX12_common_8 : decode cX12_common 8 = .ok (.iload_n 2, 1) := by decide +kernel
theorem dX12_common_9 : decode cX12_common 9 = .ok (.iload_n 3, 1) := by decide +kernel
theorem dX12_common_10 : decode cX12_common 10 = .ok (.irem, 1) := by decide +kernel
theorem dX12_common_11 : decode cX12_common 11 = .ok (.istore 4, 2) := by decide +kernel
theorem dX12_common_13 : decode cX12_common 13 = .ok (.iload_n 3, 1) := by decide +kernel
theorem dX12_common_14 : decode cX12_common 14 = .ok (.istore_n 2, 1) := by decide +kernel
theorem dX12_common_15 : decode cX12_common 15 = .ok (.iload 4, 2) := by decide +kernel
theorem dX12_common_17 : decode cX12_common 17 = .ok (.istore_n 3, 1) := by decide +kernel
theorem dX12_common_18 : decode cX12_common 18 = .ok (.goto (-14), 3) := by decide +kernel
theorem dX12_common_21 : decode cX12_common 21 = .ok (.iload_n 2, 1) := by decide +kernel
theorem dX12_common_22 : decode cX12_common 22 = .ok (.ireturn, 1) := by decide +kernel
theorem dX12_blame_0 : decode cX12_blame 0 = .ok (.aload_n 0, 1) := by decide +kernel
theorem dX12_blame_1 : decode cX12_blame 1 = .ok (.iconst 0, 1) := by decide +kernel
theorem dX12_blame_2 : decode cX12_blame 2 = .ok (.putfield 53, 3) := by decide +kernel
theorem dX12_blame_5 : decode cX12_blame 5 = .ok (.aload_n 0, 1) := by decide +kernel
theorem dX12_blame_6 : decode cX12_blame 6 = .ok (.iload_n 1, 1) := by decide +kernel
theorem dX12_blame_7 : decode cX12_blame 7 = .ok (.invokevirtual 161, 3) := by decide +kernel
theorem dX12_blame_10 : decode cX12_blame 10 = .ok (.ifCond .eq 29, 3) := by decide +kernel
theorem dX12_blame_13 : decode cX12_blame 13 = .ok (.aload_n 0, 1) := by decide +kernel
theorem dX12_blame_14 : decode cX12_blame 14 = .ok (.iload_n 2, 1) := by decide +kernel
theorem dX12_blame_15 : decode cX12_blame 15 = .ok (.invokevirtual 158, 3) := by decide +kernel
theorem dX12_blame_18 : decode cX12_blame 18 = .ok (.ifCond .eq 21, 3) := by decide +kernel
theorem dX12_blame_21 : decode cX12_blame 21 = .ok (.iload_n 3, 1) := by decide +kernel
theorem dX12_blame_22 : decode cX12_blame 22 = .ok (.invokestatic 67, 3) := by decide +kernel
theorem dX12_blame_25 : decode cX12_blame 25 = .ok (.ifCond .eq 14, 3) := by decide +kernel
theorem dX12_blame_28 : decode cX12_blame 28 = .ok (.iload 5, 2) := by decide +kernel
theorem dX12_blame_30 : decode cX12_blame 30 = .ok (.i2l, 1) := by decide +kernel
theorem dX12_blame_31 : decode cX12_blame 31 = .ok (.lconst 0, 1) := by decide +kernel
theorem dX12_blame_32 : decode cX12_blame 32 = .ok (.lconst 1, 1) := by decide +kernel
theorem dX12_blame_33 : decode cX12_blame 33 = .ok (.invokestatic 63, 3) := by decide +kernel
theorem dX12_blame_36 : decode cX12_blame 36 = .ok (.ifCond .ne 6, 3) := by decide +kernel
theorem dX12_blame_39 : decode cX12_blame 39 = .ok (.ldc 73, 2) := by decide +kernel
theorem dX12_blame_41 : decode cX12_blame 41 = .ok (.ireturn, 1) := by decide +kernel
theorem dX12_blame_42 : decode cX12_blame 42 = .ok (.aload_n 0, 1) := by decide +kernel
theorem dX12_blame_43 : decode cX12_blame 43 = .ok (.iload_n 3, 1) := by decide +kernel
theorem dX12_blame_44 : decode cX12_blame 44 = .ok (.iload 4, 2) := by decide +kernel
theorem dX12_blame_46 : decode cX12_blame 46 = .ok (.iconst 3, 1) := by decide +kernel
theorem dX12_blame_47 : decode cX12_blame 47 = .ok (.invokevirtual 204, 3) := by decide +kernel
theorem dX12_blame_50 : decode cX12_blame 50 = .ok (.istore 6, 2) := by decide +kernel
theorem dX12_blame_52 : decode cX12_blame 52 = .ok (.iload 6, 2) := by decide +kernel
theorem dX12_blame_54 : decode cX12_blame 54 = .ok (.ifCond .ge 6, 3) := by decide +kernel
theorem dX12_blame_57 : decode cX12_blame 57 = .ok (.iload 6, 2) := by decide +kernel
theorem dX12_blame_59 : decode cX12_blame 59 = .ok (.ireturn, 1) := by decide +kernel
theorem dX12_blame_60 : decode cX12_blame 60 = .ok (.aload_n 0, 1) := by decide +kernel
theorem dX12_blame_61 : decode cX12_blame 61 = .ok (.iload_n 1, 1) := by decide +kernel
theorem dX12_blame_62 : decode cX12_blame 62 = .ok (.bipush 40, 2) := by decide +kernel
theorem dX12_blame_64 : decode cX12_blame 64 = .ok (.iload_n 3, 1) := by decide +kernel
theorem dX12_blame_65 : decode cX12_blame 65 = .ok (.imul, 1) := by decide +kernel
theorem dX12_blame_66 : decode cX12_blame 66 = .ok (.iload 4, 2) := by decide +kernel
theorem dX12_blame_68 : decode cX12_blame 68 = .ok (.iadd, 1) := by decide +kernel
theorem dX12_blame_69 : decode cX12_blame 69 = .ok (.ldc 96, 2) := by decide +kernel
theorem dX12_blame_71 : decode cX12_blame 71 = .ok (.invokevirtual 208, 3) := by decide +kernel
theorem dX12_blame_74 : decode cX12_blame 74 = .ok (.istore 7, 2) := by decide +kernel
theorem dX12_blame_76 : decode cX12_blame 76 = .ok (.iload 7, 2) := by decide +kernel
theorem dX12_blame_78 : decode cX12_blame 78 = .ok (.ifCond .ne 6, 3) := by decide +kernel
theorem dX12_blame_81 : decode cX12_blame 81 = .ok (.ldc 96, 2) := by decide +kernel
theorem dX12_blame_83 : decode cX12_blame 83 = .ok (.ireturn, 1) := by decide +kernel
theorem dX12_blame_84 : decode cX12_blame 84 = .ok (.aload_n 0, 1) := by decide +kernel
theorem dX12_blame_85 : decode cX12_blame 85 = .ok (.iload_n 1, 1) := by decide +kernel
theorem dX12_blame_86 : decode cX12_blame 86 = .ok (.bipush 40, 2) := by decide +kernel
theorem dX12_blame_88 : decode cX12_blame 88 = .ok (.iload_n 3, 1) := by decide +kernel
theorem dX12_blame_89 : decode cX12_blame 89 = .ok (.imul, 1) := by decide +kernel
theorem dX12_blame_90 : decode cX12_blame 90 = .ok (.iload 4, 2) := by decide +kernel
theorem dX12_blame_92 : decode cX12_blame 92 = .ok (.iadd, 1) := by decide +kernel
theorem dX12_blame_93 : decode cX12_blame 93 = .ok (.iload_n 2, 1) := by decide +kernel
theorem dX12_blame_94 : decode cX12_blame 94 = .ok (.invokevirtual 208, 3) := by decide +kernel
theorem dX12_blame_97 : decode cX12_blame 97 = .ok (.istore 8, 2) := by decide +kernel
theorem dX12_blame_99 : decode cX12_blame 99 = .ok (.iload 5, 2) := by decide +kernel
theorem dX12_blame_101 : decode cX12_blame 101 = .ok (.ifCond .ne 8, 3) := by decide +kernel
theorem dX12_blame_104 : decode cX12_blame 104 = .ok (.iload 8, 2) := by decide +kernel
theorem dX12_blame_106 : decode cX12_blame 106 = .ok (.goto 5, 3) := by decide +kernel
theorem dX12_blame_109 : decode cX12_blame 109 = .ok (.iload 7, 2) := by decide +kernel
theorem dX12_blame_111 : decode cX12_blame 111 = .ok (.iload 8, 2) := by decide +kernel
theorem dX12_blame_113 : decode cX12_blame 113 = .ok (.iload 7, 2) := by decide +kernel
theorem dX12_blame_115 : decode cX12_blame 115 = .ok (.invokestatic 214, 3) := by decide +kernel
theorem dX12_blame_118 : decode cX12_blame 118 = .ok (.idiv, 1) := by decide +kernel
theorem dX12_blame_119 : decode cX12_blame 119 = .ok (.ireturn, 1) := by decide +kernel
theorem dX12_toldFor_0 : decode cX12_toldFor 0 = .ok (.bipush (-99), 2) := by decide +kernel
theorem dX12_toldFor_2 : decode cX12_toldFor 2 = .ok (.istore_n 3, 1) := by decide +kernel
theorem dX12_toldFor_3 : decode cX12_toldFor 3 = .ok (.iload_n 3, 1) := by decide +kernel
theorem dX12_toldFor_4 : decode cX12_toldFor 4 = .ok (.bipush 99, 2) := by decide +kernel
theorem dX12_toldFor_6 : decode cX12_toldFor 6 = .ok (.if_icmp .gt 21, 3) := by decide +kernel
theorem dX12_toldFor_9 : decode cX12_toldFor 9 = .ok (.aload_n 0, 1) := by decide +kernel
theorem dX12_toldFor_10 : decode cX12_toldFor 10 = .ok (.iload_n 1, 1) := by decide +kernel
theorem dX12_toldFor_11 : decode cX12_toldFor 11 = .ok (.iload_n 3, 1) := by decide +kernel
theorem dX12_toldFor_12 : decode cX12_toldFor 12 = .ok (.invokevirtual 171, 3) := by decide +kernel
theorem dX12_toldFor_15 : decode cX12_toldFor 15 = .ok (.iload_n 2, 1) := by decide +kernel
theorem dX12_toldFor_16 : decode cX12_toldFor 16 = .ok (.if_icmp .ne 5, 3) := by decide +kernel
theorem dX12_toldFor_19 : decode cX12_toldFor 19 = .ok (.iload_n 3, 1) := by decide +kernel
theorem dX12_toldFor_20 : decode cX12_toldFor 20 = .ok (.ireturn, 1) := by decide +kernel
theorem dX12_toldFor_21 : decode cX12_toldFor 21 = .ok (.iinc 3 1, 3) := by decide +kernel
theorem dX12_toldFor_24 : decode cX12_toldFor 24 = .ok (.goto (-21), 3) := by decide +kernel
theorem dX12_toldFor_27 : decode cX12_toldFor 27 = .ok (.ldc 96, 2) := by decide +kernel
theorem dX12_toldFor_29 : decode cX12_toldFor 29 = .ok (.ireturn, 1) := by decide +kernel
theorem dX12_whoFor_0 : decode cX12_whoFor 0 = .ok (.ldc 96, 2) := by decide +kernel
theorem dX12_whoFor_2 : decode cX12_whoFor 2 = .ok (.istore_n 2, 1) := by decide +kernel
theorem dX12_whoFor_3 : decode cX12_whoFor 3 = .ok (.iconst 0, 1) := by decide +kernel
theorem dX12_whoFor_4 : decode cX12_whoFor 4 = .ok (.istore_n 3, 1) := by decide +kernel
theorem dX12_whoFor_5 : decode cX12_whoFor 5 = .ok (.iload_n 3, 1) := by decide +kernel
theorem dX12_whoFor_6 : decode cX12_whoFor 6 = .ok (.aload_n 0, 1) := by decide +kernel
theorem dX12_whoFor_7 : decode cX12_whoFor 7 = .ok (.getfield 19, 3) := by decide +kernel
theorem dX12_whoFor_10 : decode cX12_whoFor 10 = .ok (.iconst 3, 1) := by decide +kernel
theorem dX12_whoFor_11 : decode cX12_whoFor 11 = .ok (.iaload, 1) := by decide +kernel
theorem dX12_whoFor_12 : decode cX12_whoFor 12 = .ok (.if_icmp .ge 57, 3) := by decide +kernel
theorem dX12_whoFor_15 : decode cX12_whoFor 15 = .ok (.aload_n 0, 1) := by decide +kernel
theorem dX12_whoFor_16 : decode cX12_whoFor 16 = .ok (.iload_n 3, 1) := by decide +kernel
theorem dX12_whoFor_17 : decode cX12_whoFor 17 = .ok (.iload_n 1, 1) := by decide +kernel
theorem dX12_whoFor_18 : decode cX12_whoFor 18 = .ok (.invokevirtual 217, 3) := by decide +kernel
theorem dX12_whoFor_21 : decode cX12_whoFor 21 = .ok (.ldc 96, 2) := by decide +kernel
theorem dX12_whoFor_23 : decode cX12_whoFor 23 = .ok (.if_icmp .eq 7, 3) := by decide +kernel
theorem dX12_whoFor_26 : decode cX12_whoFor 26 = .ok (.iconst 1, 1) := by decide +kernel
theorem dX12_whoFor_27 : decode cX12_whoFor 27 = .ok (.goto 4, 3) := by decide +kernel
theorem dX12_whoFor_30 : decode cX12_whoFor 30 = .ok (.iconst 0, 1) := by decide +kernel
theorem dX12_whoFor_31 : decode cX12_whoFor 31 = .ok (.istore 4, 2) := by decide +kernel
theorem dX12_whoFor_33 : decode cX12_whoFor 33 = .ok (.iload 4, 2) := by decide +kernel
theorem dX12_whoFor_35 : decode cX12_whoFor 35 = .ok (.ifCond .eq 26, 3) := by decide +kernel
theorem dX12_whoFor_38 : decode cX12_whoFor 38 = .ok (.iload_n 2, 1) := by decide +kernel
theorem dX12_whoFor_39 : decode cX12_whoFor 39 = .ok (.ldc 96, 2) := by decide +kernel
theorem dX12_whoFor_41 : decode cX12_whoFor 41 = .ok (.if_icmp .eq 16, 3) := by decide +kernel
theorem dX12_whoFor_44 : decode cX12_whoFor 44 = .ok (.aload_n 0, 1) := by decide +kernel
theorem dX12_whoFor_45 : decode cX12_whoFor 45 = .ok (.iload_n 3, 1) := by decide +kernel
theorem dX12_whoFor_46 : decode cX12_whoFor 46 = .ok (.invokevirtual 220, 3) := by decide +kernel
theorem dX12_whoFor_49 : decode cX12_whoFor 49 = .ok (.aload_n 0, 1) := by decide +kernel
theorem dX12_whoFor_50 : decode cX12_whoFor 50 = .ok (.iload_n 2, 1) := by decide +kernel
theorem dX12_whoFor_51 : decode cX12_whoFor 51 = .ok (.invokevirtual 220, 3) := by decide +kernel
theorem dX12_whoFor_54 : decode cX12_whoFor 54 = .ok (.if_icmp .ge 7, 3) := by decide +kernel
theorem dX12_whoFor_57 : decode cX12_whoFor 57 = .ok (.iload_n 3, 1) := by decide +kernel
theorem dX12_whoFor_58 : decode cX12_whoFor 58 = .ok (.goto 4, 3) := by decide +kernel
theorem dX12_whoFor_61 : decode cX12_whoFor 61 = .ok (.iload_n 2, 1) := by decide +kernel
theorem dX12_whoFor_62 : decode cX12_whoFor 62 = .ok (.istore_n 2, 1) := by decide +kernel
theorem dX12_whoFor_63 : decode cX12_whoFor 63 = .ok (.iinc 3 1, 3) := by decide +kernel
theorem dX12_whoFor_66 : decode cX12_whoFor 66 = .ok (.goto (-61), 3) := by decide +kernel
theorem dX12_whoFor_69 : decode cX12_whoFor 69 = .ok (.iload_n 2, 1) := by decide +kernel
theorem dX12_whoFor_70 : decode cX12_whoFor 70 = .ok (.ireturn, 1) := by decide +kernel
theorem dX12_right_0 : decode cX12_right 0 = .ok (.aload_n 0, 1) := by decide +kernel
theorem dX12_right_1 : decode cX12_right 1 = .ok (.iconst 0, 1) := by decide +kernel
theorem dX12_right_2 : decode cX12_right 2 = .ok (.putfield 53, 3) := by decide +kernel
theorem dX12_right_5 : decode cX12_right 5 = .ok (.aload_n 0, 1) := by decide +kernel
theorem dX12_right_6 : decode cX12_right 6 = .ok (.iload_n 1, 1) := by decide +kernel
theorem dX12_right_7 : decode cX12_right 7 = .ok (.invokevirtual 161, 3) := by decide +kernel
theorem dX12_right_10 : decode cX12_right 10 = .ok (.ifCond .eq 15, 3) := by decide +kernel
theorem dX12_right_13 : decode cX12_right 13 = .ok (.iload_n 2, 1) := by decide +kernel
theorem dX12_right_14 : decode cX12_right 14 = .ok (.i2l, 1) := by decide +kernel
theorem dX12_right_15 : decode cX12_right 15 = .ok (.lconst 0, 1) := by decide +kernel
theorem dX12_right_16 : decode cX12_right 16 = .ok (.ldc2_w 223, 3) := by decide +kernel
theorem dX12_right_19 : decode cX12_right 19 = .ok (.invokestatic 63, 3) := by decide +kernel
theorem dX12_right_22 : decode cX12_right 22 = .ok (.ifCond .ne 6, 3) := by decide +kernel
theorem dX12_right_25 : decode cX12_right 25 = .ok (.ldc 73, 2) := by decide +kernel
theorem dX12_right_27 : decode cX12_right 27 = .ok (.ireturn, 1) := by decide +kernel
theorem dX12_right_28 : decode cX12_right 28 = .ok (.iconst 0, 1) := by decide +kernel
theorem dX12_right_29 : decode cX12_right 29 = .ok (.istore_n 3, 1) := by decide +kernel
theorem dX12_right_30 : decode cX12_right 30 = .ok (.iconst 0, 1) := by decide +kernel
theorem dX12_right_31 : decode cX12_right 31 = .ok (.istore 4, 2) := by decide +kernel
theorem dX12_right_33 : decode cX12_right 33 = .ok (.iload 4, 2) := by decide +kernel
theorem dX12_right_35 : decode cX12_right 35 = .ok (.iconst 3, 1) := by decide +kernel
theorem dX12_right_36 : decode cX12_right 36 = .ok (.if_icmp .ge 59, 3) := by decide +kernel
theorem dX12_right_39 : decode cX12_right 39 = .ok (.aload_n 0, 1) := by decide +kernel
theorem dX12_right_40 : decode cX12_right 40 = .ok (.iload_n 1, 1) := by decide +kernel
theorem dX12_right_41 : decode cX12_right 41 = .ok (.iload 4, 2) := by decide +kernel
theorem dX12_right_43 : decode cX12_right 43 = .ok (.invokevirtual 192, 3) := by decide +kernel
theorem dX12_right_46 : decode cX12_right 46 = .ok (.istore 5, 2) := by decide +kernel
theorem dX12_right_48 : decode cX12_right 48 = .ok (.aload_n 0, 1) := by decide +kernel
theorem dX12_right_49 : decode cX12_right 49 = .ok (.iload 5, 2) := by decide +kernel
theorem dX12_right_51 : decode cX12_right 51 = .ok (.invokevirtual 225, 3) := by decide +kernel
theorem dX12_right_54 : decode cX12_right 54 = .ok (.istore 6, 2) := by decide +kernel
theorem dX12_right_56 : decode cX12_right 56 = .ok (.iload 5, 2) := by decide +kernel
theorem dX12_right_58 : decode cX12_right 58 = .ok (.ifCond .eq 13, 3) := by decide +kernel
theorem dX12_right_61 : decode cX12_right 61 = .ok (.iload 6, 2) := by decide +kernel
theorem dX12_right_63 : decode cX12_right 63 = .ok (.ldc 96, 2) := by decide +kernel
theorem dX12_right_65 : decode cX12_right 65 = .ok (.if_icmp .ne 6, 3) := by decide +kernel
theorem dX12_right_68 : decode cX12_right 68 = .ok (.ldc 96, 2) := by decide +kernel
theorem dX12_right_70 : decode cX12_right 70 = .ok (.ireturn, 1) := by decide +kernel
theorem dX12_right_71 : decode cX12_right 71 = .ok (.iload_n 3, 1) := by decide +kernel
theorem dX12_right_72 : decode cX12_right 72 = .ok (.iload 5, 2) := by decide +kernel
theorem dX12_right_74 : decode cX12_right 74 = .ok (.ifCond .ne 7, 3) := by decide +kernel
theorem dX12_right_77 : decode cX12_right 77 = .ok (.iconst 0, 1) := by decide +kernel
theorem dX12_right_78 : decode cX12_right 78 = .ok (.goto 9, 3) := by decide +kernel
theorem dX12_right_81 : decode cX12_right 81 = .ok (.aload_n 0, 1) := by decide +kernel
theorem dX12_right_82 : decode cX12_right 82 = .ok (.iload 6, 2) := by decide +kernel
theorem dX12_right_84 : decode cX12_right 84 = .ok (.invokevirtual 220, 3) := by decide +kernel
theorem dX12_right_87 : decode cX12_right 87 = .ok (.iadd, 1) := by decide +kernel
theorem dX12_right_88 : decode cX12_right 88 = .ok (.istore_n 3, 1) := by decide +kernel
theorem dX12_right_89 : decode cX12_right 89 = .ok (.iinc 4 1, 3) := by decide +kernel
theorem dX12_right_92 : decode cX12_right 92 = .ok (.goto (-59), 3) := by decide +kernel
theorem dX12_right_95 : decode cX12_right 95 = .ok (.iload_n 2, 1) := by decide +kernel
theorem dX12_right_96 : decode cX12_right 96 = .ok (.ifCond .ne 5, 3) := by decide +kernel
theorem dX12_right_99 : decode cX12_right 99 = .ok (.iload_n 3, 1) := by decide +kernel
theorem dX12_right_100 : decode cX12_right 100 = .ok (.ireturn, 1) := by decide +kernel
theorem dX12_right_101 : decode cX12_right 101 = .ok (.aload_n 0, 1) := by decide +kernel
theorem dX12_right_102 : decode cX12_right 102 = .ok (.iload_n 1, 1) := by decide +kernel
theorem dX12_right_103 : decode cX12_right 103 = .ok (.iload_n 2, 1) := by decide +kernel
theorem dX12_right_104 : decode cX12_right 104 = .ok (.iconst 1, 1) := by decide +kernel
theorem dX12_right_105 : decode cX12_right 105 = .ok (.isub, 1) := by decide +kernel
theorem dX12_right_106 : decode cX12_right 106 = .ok (.iconst 3, 1) := by decide +kernel
theorem dX12_right_107 : decode cX12_right 107 = .ok (.irem, 1) := by decide +kernel
theorem dX12_right_108 : decode cX12_right 108 = .ok (.invokevirtual 192, 3) := by decide +kernel
theorem dX12_right_111 : decode cX12_right 111 = .ok (.istore 4, 2) := by decide +kernel
theorem dX12_right_113 : decode cX12_right 113 = .ok (.iload 4, 2) := by decide +kernel
theorem dX12_right_115 : decode cX12_right 115 = .ok (.ifCond .ne 6, 3) := by decide +kernel
theorem dX12_right_118 : decode cX12_right 118 = .ok (.ldc 96, 2) := by decide +kernel
theorem dX12_right_120 : decode cX12_right 120 = .ok (.ireturn, 1) := by decide +kernel
theorem dX12_right_121 : decode cX12_right 121 = .ok (.iload_n 2, 1) := by decide +kernel
theorem dX12_right_122 : decode cX12_right 122 = .ok (.iconst 4, 1) := by decide +kernel
theorem dX12_right_123 : decode cX12_right 123 = .ok (.if_icmp .ge 12, 3) := by decide +kernel
theorem dX12_right_126 : decode cX12_right 126 = .ok (.aload_n 0, 1) := by decide +kernel
theorem dX12_right_127 : decode cX12_right 127 = .ok (.iload 4, 2) := by decide +kernel
theorem dX12_right_129 : decode cX12_right 129 = .ok (.invokevirtual 225, 3) := by decide +kernel
theorem dX12_right_132 : decode cX12_right 132 = .ok (.goto 15, 3) := by decide +kernel
theorem dX12_right_135 : decode cX12_right 135 = .ok (.aload_n 0, 1) := by decide +kernel
theorem dX12_right_136 : decode cX12_right 136 = .ok (.aload_n 0, 1) := by decide +kernel
theorem dX12_right_137 : decode cX12_right 137 = .ok (.iload 4, 2) := by decide +kernel
theorem dX12_right_139 : decode cX12_right 139 = .ok (.invokevirtual 225, 3) := by decide +kernel
theorem dX12_right_142 : decode cX12_right 142 = .ok (.iload 4, 2) := by decide +kernel
theorem dX12_right_144 : decode cX12_right 144 = .ok (.invokevirtual 217, 3) := by decide +kernel
theorem dX12_right_147 : decode cX12_right 147 = .ok (.ireturn, 1) := by decide +kernel
theorem dX12_most_0 : decode cX12_most 0 = .ok (.aload_n 0, 1) := by decide +kernel
theorem dX12_most_1 : decode cX12_most 1 = .ok (.iconst 0, 1) := by decide +kernel
theorem dX12_most_2 : decode cX12_most 2 = .ok (.putfield 53, 3) := by decide +kernel
theorem dX12_most_5 : decode cX12_most 5 = .ok (.aload_n 0, 1) := by decide +kernel
theorem dX12_most_6 : decode cX12_most 6 = .ok (.iload_n 1, 1) := by decide +kernel
theorem dX12_most_7 : decode cX12_most 7 = .ok (.invokevirtual 161, 3) := by decide +kernel
theorem dX12_most_10 : decode cX12_most 10 = .ok (.ifCond .eq 20, 3) := by decide +kernel
theorem dX12_most_13 : decode cX12_most 13 = .ok (.iload_n 2, 1) := by decide +kernel
theorem dX12_most_14 : decode cX12_most 14 = .ok (.invokestatic 164, 3) := by decide +kernel
theorem dX12_most_17 : decode cX12_most 17 = .ok (.ifCond .eq 13, 3) := by decide +kernel
theorem dX12_most_20 : decode cX12_most 20 = .ok (.iload_n 3, 1) := by decide +kernel
theorem dX12_most_21 : decode cX12_most 21 = .ok (.i2l, 1) := by decide +kernel
theorem dX12_most_22 : decode cX12_most 22 = .ok (.lconst 0, 1) := by decide +kernel
theorem dX12_most_23 : decode cX12_most 23 = .ok (.lconst 1, 1) := by decide +kernel
theorem dX12_most_24 : decode cX12_most 24 = .ok (.invokestatic 63, 3) := by decide +kernel
theorem dX12_most_27 : decode cX12_most 27 = .ok (.ifCond .ne 6, 3) := by decide +kernel
theorem dX12_most_30 : decode cX12_most 30 = .ok (.ldc 73, 2) := by decide +kernel
theorem dX12_most_32 : decode cX12_most 32 = .ok (.ireturn, 1) := by decide +kernel
theorem dX12_most_33 : decode cX12_most 33 = .ok (.ldc 96, 2) := by decide +kernel
theorem dX12_most_35 : decode cX12_most 35 = .ok (.istore 4, 2) := by decide +kernel
theorem dX12_most_37 : decode cX12_most 37 = .ok (.iconst 0, 1) := by decide +kernel
theorem dX12_most_38 : decode cX12_most 38 = .ok (.istore 5, 2) := by decide +kernel
theorem dX12_most_40 : decode cX12_most 40 = .ok (.iconst 0, 1) := by decide +kernel
theorem dX12_most_41 : decode cX12_most 41 = .ok (.istore 6, 2) := by decide +kernel
theorem dX12_most_43 : decode cX12_most 43 = .ok (.iload 6, 2) := by decide +kernel
theorem dX12_most_45 : decode cX12_most 45 = .ok (.aload_n 0, 1) := by decide +kernel
theorem dX12_most_46 : decode cX12_most 46 = .ok (.getfield 19, 3) := by decide +kernel
theorem dX12_most_49 : decode cX12_most 49 = .ok (.iconst 3, 1) := by decide +kernel
theorem dX12_most_50 : decode cX12_most 50 = .ok (.iaload, 1) := by decide +kernel
theorem dX12_most_51 : decode cX12_most 51 = .ok (.if_icmp .ge 157, 3) := by decide +kernel
theorem dX12_most_54 : decode cX12_most 54 = .ok (.iconst 0, 1) := by decide +kernel
theorem dX12_most_55 : decode cX12_most 55 = .ok (.istore 7, 2) := by decide +kernel
theorem dX12_most_57 : decode cX12_most 57 = .ok (.iconst 0, 1) := by decide +kernel
theorem dX12_most_58 : decode cX12_most 58 = .ok (.istore 8, 2) := by decide +kernel
theorem dX12_most_60 : decode cX12_most 60 = .ok (.iconst 0, 1) := by decide +kernel
theorem dX12_most_61 : decode cX12_most 61 = .ok (.istore 9, 2) := by decide +kernel
theorem dX12_most_63 : decode cX12_most 63 = .ok (.iload 9, 2) := by decide +kernel
theorem dX12_most_65 : decode cX12_most 65 = .ok (.aload_n 0, 1) := by decide +kernel
theorem dX12_most_66 : decode cX12_most 66 = .ok (.getfield 19, 3) := by decide +kernel
theorem dX12_most_69 : decode cX12_most 69 = .ok (.iconst 4, 1) := by decide +kernel
theorem dX12_most_70 : decode cX12_most 70 = .ok (.iaload, 1) := by decide +kernel
theorem dX12_most_71 : decode cX12_most 71 = .ok (.if_icmp .ge 98, 3) := by decide +kernel
theorem dX12_most_74 : decode cX12_most 74 = .ok (.aload_n 0, 1) := by decide +kernel
theorem dX12_most_75 : decode cX12_most 75 = .ok (.iload 9, 2) := by decide +kernel
theorem dX12_most_77 : decode cX12_most 77 = .ok (.iconst 0, 1) := by decide +kernel
theorem dX12_most_78 : decode cX12_most 78 = .ok (.invokevirtual 197, 3) := by decide +kernel
theorem dX12_most_81 : decode cX12_most 81 = .ok (.ifCond .ne 41, 3) := by decide +kernel
theorem dX12_most_84 : decode cX12_most 84 = .ok (.aload_n 0, 1) := by decide +kernel
theorem dX12_most_85 : decode cX12_most 85 = .ok (.iload 9, 2) := by decide +kernel
theorem dX12_most_87 : decode cX12_most 87 = .ok (.iconst 1, 1) := by decide +kernel
theorem dX12_most_88 : decode cX12_most 88 = .ok (.invokevirtual 197, 3) := by decide +kernel
theorem dX12_most_91 : decode cX12_most 91 = .ok (.iload 6, 2) := by decide +kernel
theorem dX12_most_93 : decode cX12_most 93 = .ok (.if_icmp .ne 29, 3) := by decide +kernel
theorem dX12_most_96 : decode cX12_most 96 = .ok (.aload_n 0, 1) := by decide +kernel
theorem dX12_most_97 : decode cX12_most 97 = .ok (.iload 9, 2) := by decide +kernel
theorem dX12_most_99 : decode cX12_most 99 = .ok (.iconst 2, 1) := by decide +kernel
theorem dX12_most_100 : decode cX12_most 100 = .ok (.invokevirtual 197, 3) := by decide +kernel
theorem dX12_most_103 : decode cX12_most 103 = .ok (.iload_n 1, 1) := by decide +kernel
theorem dX12_most_104 : decode cX12_most 104 = .ok (.if_icmp .ne 18, 3) := by decide +kernel
theorem dX12_most_107 : decode cX12_most 107 = .ok (.aload_n 0, 1) := by decide +kernel
theorem dX12_most_108 : decode cX12_most 108 = .ok (.iload 9, 2) := by decide +kernel
theorem dX12_most_110 : decode cX12_most 110 = .ok (.iconst 3, 1) := by decide +kernel
theorem dX12_most_111 : decode cX12_most 111 = .ok (.invokevirtual 197, 3) := by decide +kernel
theorem dX12_most_114 : decode cX12_most 114 = .ok (.iload_n 2, 1) := by decide +kernel
theorem dX12_most_115 : decode cX12_most 115 = .ok (.if_icmp .ne 7, 3) := by decide +kernel
theorem dX12_most_118 : decode cX12_most 118 = .ok (.iconst 1, 1) := by decide +kernel
theorem dX12_most_119 : decode cX12_most 119 = .ok (.goto 4, 3) := by decide +kernel
theorem dX12_most_122 : decode cX12_most 122 = .ok (.iconst 0, 1) := by decide +kernel
theorem dX12_most_123 : decode cX12_most 123 = .ok (.istore 10, 2) := by decide +kernel
theorem dX12_most_125 : decode cX12_most 125 = .ok (.iload 8, 2) := by decide +kernel
theorem dX12_most_127 : decode cX12_most 127 = .ok (.ifCond .ne 8, 3) := by decide +kernel
theorem dX12_most_130 : decode cX12_most 130 = .ok (.iload 10, 2) := by decide +kernel
theorem dX12_most_132 : decode cX12_most 132 = .ok (.ifCond .eq 7, 3) := by decide +kernel
theorem dX12_most_135 : decode cX12_most 135 = .ok (.iconst 1, 1) := by decide +kernel
theorem dX12_most_136 : decode cX12_most 136 = .ok (.goto 4, 3) := by decide +kernel
theorem dX12_most_139 : decode cX12_most 139 = .ok (.iconst 0, 1) := by decide +kernel
theorem dX12_most_140 : decode cX12_most 140 = .ok (.istore 8, 2) := by decide +kernel
theorem dX12_most_142 : decode cX12_most 142 = .ok (.iload 7, 2) := by decide +kernel
theorem dX12_most_144 : decode cX12_most 144 = .ok (.iload 10, 2) := by decide +kernel
theorem dX12_most_146 : decode cX12_most 146 = .ok (.ifCond .eq 13, 3) := by decide +kernel
theorem dX12_most_149 : decode cX12_most 149 = .ok (.aload_n 0, 1) := by decide +kernel
theorem dX12_most_150 : decode cX12_most 150 = .ok (.iload 9, 2) := by decide +kernel
theorem dX12_most_152 : decode cX12_most 152 = .ok (.iconst 5, 1) := by decide +kernel
theorem dX12_most_153 : decode cX12_most 153 = .ok (.invokevirtual 197, 3) := by decide +kernel
theorem dX12_most_156 : decode cX12_most 156 = .ok (.goto 4, 3) := by decide +kernel
theorem dX12_most_159 : decode cX12_most 159 = .ok (.iconst 0, 1) := by decide +kernel
theorem dX12_most_160 : decode cX12_most 160 = .ok (.iadd, 1) := by decide +kernel
theorem dX12_most_161 : decode cX12_most 161 = .ok (.istore 7, 2) := by decide +kernel
theorem dX12_most_163 : decode cX12_most 163 = .ok (.iinc 9 1, 3) := by decide +kernel
theorem dX12_most_166 : decode cX12_most 166 = .ok (.goto (-103), 3) := by decide +kernel
theorem dX12_most_169 : decode cX12_most 169 = .ok (.iload 8, 2) := by decide +kernel
theorem dX12_most_171 : decode cX12_most 171 = .ok (.ifCond .eq 31, 3) := by decide +kernel
theorem dX12_most_174 : decode cX12_most 174 = .ok (.iload 4, 2) := by decide +kernel
theorem dX12_most_176 : decode cX12_most 176 = .ok (.ldc 96, 2) := by decide +kernel
theorem dX12_most_178 : decode cX12_most 178 = .ok (.if_icmp .eq 16, 3) := by decide +kernel
theorem dX12_most_181 : decode cX12_most 181 = .ok (.iload 7, 2) := by decide +kernel
theorem dX12_most_183 : decode cX12_most 183 = .ok (.iload 7, 2) := by decide +kernel
theorem dX12_most_185 : decode cX12_most 185 = .ok (.imul, 1) := by decide +kernel
theorem dX12_most_186 : decode cX12_most 186 = .ok (.iload 5, 2) := by decide +kernel
theorem dX12_most_188 : decode cX12_most 188 = .ok (.iload 5, 2) := by decide +kernel
theorem dX12_most_190 : decode cX12_most 190 = .ok (.imul, 1) := by decide +kernel
theorem dX12_most_191 : decode cX12_most 191 = .ok (.if_icmp .le 11, 3) := by decide +kernel
theorem dX12_most_194 : decode cX12_most 194 = .ok (.iload 6, 2) := by decide +kernel
theorem dX12_most_196 : decode cX12_most 196 = .ok (.istore 4, 2) := by decide +kernel
theorem dX12_most_198 : decode cX12_most 198 = .ok (.iload 7, 2) := by decide +kernel
theorem dX12_most_200 : decode cX12_most 200 = .ok (.istore 5, 2) := by decide +kernel
theorem dX12_most_202 : decode cX12_most 202 = .ok (.iinc 6 1, 3) := by decide +kernel
theorem dX12_most_205 : decode cX12_most 205 = .ok (.goto (-162), 3) := by decide +kernel
theorem dX12_most_208 : decode cX12_most 208 = .ok (.iload 4, 2) := by decide +kernel
theorem dX12_most_210 : decode cX12_most 210 = .ok (.ldc 96, 2) := by decide +kernel
theorem dX12_most_212 : decode cX12_most 212 = .ok (.if_icmp .eq 7, 3) := by decide +kernel
theorem dX12_most_215 : decode cX12_most 215 = .ok (.iload_n 3, 1) := by decide +kernel
theorem dX12_most_216 : decode cX12_most 216 = .ok (.ifCond .ne 8, 3) := by decide +kernel
theorem dX12_most_219 : decode cX12_most 219 = .ok (.iload 4, 2) := by decide +kernel
theorem dX12_most_221 : decode cX12_most 221 = .ok (.goto 5, 3) := by decide +kernel
theorem dX12_most_224 : decode cX12_most 224 = .ok (.iload 5, 2) := by decide +kernel
theorem dX12_most_226 : decode cX12_most 226 = .ok (.ireturn, 1) := by decide +kernel
theorem dX12_swaps_0 : decode cX12_swaps 0 = .ok (.aload_n 0, 1) := by decide +kernel
theorem dX12_swaps_1 : decode cX12_swaps 1 = .ok (.iconst 0, 1) := by decide +kernel
theorem dX12_swaps_2 : decode cX12_swaps 2 = .ok (.putfield 53, 3) := by decide +kernel
theorem dX12_swaps_5 : decode cX12_swaps 5 = .ok (.aload_n 0, 1) := by decide +kernel
theorem dX12_swaps_6 : decode cX12_swaps 6 = .ok (.invokevirtual 185, 3) := by decide +kernel
theorem dX12_swaps_9 : decode cX12_swaps 9 = .ok (.ifCond .ne 6, 3) := by decide +kernel
theorem dX12_swaps_12 : decode cX12_swaps 12 = .ok (.ldc 188, 2) := by decide +kernel
theorem dX12_swaps_14 : decode cX12_swaps 14 = .ok (.ireturn, 1) := by decide +kernel
theorem dX12_swaps_15 : decode cX12_swaps 15 = .ok (.iload_n 1, 1) := by decide +kernel
theorem dX12_swaps_16 : decode cX12_swaps 16 = .ok (.invokestatic 67, 3) := by decide +kernel
theorem dX12_swaps_19 : decode cX12_swaps 19 = .ok (.ifCond .eq 13, 3) := by decide +kernel
theorem dX12_swaps_22 : decode cX12_swaps 22 = .ok (.iload_n 3, 1) := by decide +kernel
theorem dX12_swaps_23 : decode cX12_swaps 23 = .ok (.i2l, 1) := by decide +kernel
theorem dX12_swaps_24 : decode cX12_swaps 24 = .ok (.lconst 0, 1) := by decide +kernel
theorem dX12_swaps_25 : decode cX12_swaps 25 = .ok (.lconst 1, 1) := by decide +kernel
theorem dX12_swaps_26 : decode cX12_swaps 26 = .ok (.invokestatic 63, 3) := by decide +kernel
theorem dX12_swaps_29 : decode cX12_swaps 29 = .ok (.ifCond .ne 6, 3) := by decide +kernel
theorem dX12_swaps_32 : decode cX12_swaps 32 = .ok (.ldc 73, 2) := by decide +kernel
theorem dX12_swaps_34 : decode cX12_swaps 34 = .ok (.ireturn, 1) := by decide +kernel
theorem dX12_swaps_35 : decode cX12_swaps 35 = .ok (.aload_n 0, 1) := by decide +kernel
theorem dX12_swaps_36 : decode cX12_swaps 36 = .ok (.iload_n 1, 1) := by decide +kernel
theorem dX12_swaps_37 : decode cX12_swaps 37 = .ok (.iload_n 2, 1) := by decide +kernel
theorem dX12_swaps_38 : decode cX12_swaps 38 = .ok (.iconst 3, 1) := by decide +kernel
theorem dX12_swaps_39 : decode cX12_swaps 39 = .ok (.aload_n 0, 1) := by decide +kernel
theorem dX12_swaps_40 : decode cX12_swaps 40 = .ok (.getfield 19, 3) := by decide +kernel
theorem dX12_swaps_43 : decode cX12_swaps 43 = .ok (.iconst 2, 1) := by decide +kernel
theorem dX12_swaps_44 : decode cX12_swaps 44 = .ok (.iaload, 1) := by decide +kernel
theorem dX12_swaps_45 : decode cX12_swaps 45 = .ok (.imul, 1) := by decide +kernel
theorem dX12_swaps_46 : decode cX12_swaps 46 = .ok (.invokevirtual 204, 3) := by decide +kernel
theorem dX12_swaps_49 : decode cX12_swaps 49 = .ok (.istore 4, 2) := by decide +kernel
theorem dX12_swaps_51 : decode cX12_swaps 51 = .ok (.iload 4, 2) := by decide +kernel
theorem dX12_swaps_53 : decode cX12_swaps 53 = .ok (.ifCond .ge 6, 3) := by decide +kernel
theorem dX12_swaps_56 : decode cX12_swaps 56 = .ok (.iload 4, 2) := by decide +kernel
theorem dX12_swaps_58 : decode cX12_swaps 58 = .ok (.ireturn, 1) := by decide +kernel
theorem dX12_swaps_59 : decode cX12_swaps 59 = .ok (.iconst 0, 1) := by decide +kernel
theorem dX12_swaps_60 : decode cX12_swaps 60 = .ok (.istore 5, 2) := by decide +kernel
theorem dX12_swaps_62 : decode cX12_swaps 62 = .ok (.ldc 96, 2) := by decide +kernel
theorem dX12_swaps_64 : decode cX12_swaps 64 = .ok (.istore 6, 2) := by decide +kernel
theorem dX12_swaps_66 : decode cX12_swaps 66 = .ok (.iconst 0, 1) := by decide +kernel
theorem dX12_swaps_67 : decode cX12_swaps 67 = .ok (.istore 7, 2) := by decide +kernel
theorem dX12_swaps_69 : decode cX12_swaps 69 = .ok (.iload 7, 2) := by decide +kernel
theorem dX12_swaps_71 : decode cX12_swaps 71 = .ok (.aload_n 0, 1) := by decide +kernel
theorem dX12_swaps_72 : decode cX12_swaps 72 = .ok (.getfield 19, 3) := by decide +kernel
theorem dX12_swaps_75 : decode cX12_swaps 75 = .ok (.iconst 2, 1) := by decide +kernel
theorem dX12_swaps_76 : decode cX12_swaps 76 = .ok (.iaload, 1) := by decide +kernel
theorem dX12_swaps_77 : decode cX12_swaps 77 = .ok (.if_icmp .ge 182, 3) := by decide +kernel
theorem dX12_swaps_80 : decode cX12_swaps 80 = .ok (.iload 7, 2) := by decide +kernel
theorem dX12_swaps_82 : decode cX12_swaps 82 = .ok (.iconst 1, 1) := by decide +kernel
theorem dX12_swaps_83 : decode cX12_swaps 83 = .ok (.iadd, 1) := by decide +kernel
theorem dX12_swaps_84 : decode cX12_swaps 84 = .ok (.istore 8, 2) := by decide +kernel
theorem dX12_swaps_86 : decode cX12_swaps 86 = .ok (.iload 8, 2) := by decide +kernel
theorem dX12_swaps_88 : decode cX12_swaps 88 = .ok (.aload_n 0, 1) := by decide +kernel
theorem dX12_swaps_89 : decode cX12_swaps 89 = .ok (.getfield 19, 3) := by decide +kernel
theorem dX12_swaps_92 : decode cX12_swaps 92 = .ok (.iconst 2, 1) := by decide +kernel
theorem dX12_swaps_93 : decode cX12_swaps 93 = .ok (.iaload, 1) := by decide +kernel
theorem dX12_swaps_94 : decode cX12_swaps 94 = .ok (.if_icmp .ge 159, 3) := by decide +kernel
theorem dX12_swaps_97 : decode cX12_swaps 97 = .ok (.iconst 1, 1) := by decide +kernel
theorem dX12_swaps_98 : decode cX12_swaps 98 = .ok (.istore 9, 2) := by decide +kernel
theorem dX12_swaps_100 : decode cX12_swaps 100 = .ok (.iconst 0, 1) := by decide +kernel
theorem dX12_swaps_101 : decode cX12_swaps 101 = .ok (.istore 10, 2) := by decide +kernel
theorem dX12_swaps_103 : decode cX12_swaps 103 = .ok (.iload 10, 2) := by decide +kernel
theorem dX12_swaps_105 : decode cX12_swaps 105 = .ok (.iconst 3, 1) := by decide +kernel
theorem dX12_swaps_106 : decode cX12_swaps 106 = .ok (.aload_n 0, 1) := by decide +kernel
theorem dX12_swaps_107 : decode cX12_swaps 107 = .ok (.getfield 19, 3) := by decide +kernel
theorem dX12_swaps_110 : decode cX12_swaps 110 = .ok (.iconst 2, 1) := by decide +kernel
theorem dX12_swaps_111 : decode cX12_swaps 111 = .ok (.iaload, 1) := by decide +kernel
theorem dX12_swaps_112 : decode cX12_swaps 112 = .ok (.imul, 1) := by decide +kernel
theorem dX12_swaps_113 : decode cX12_swaps 113 = .ok (.if_icmp .ge 93, 3) := by decide +kernel
theorem dX12_swaps_116 : decode cX12_swaps 116 = .ok (.iload 10, 2) := by decide +kernel
theorem dX12_swaps_118 : decode cX12_swaps 118 = .ok (.iconst 3, 1) := by decide +kernel
theorem dX12_swaps_119 : decode cX12_swaps 119 = .ok (.idiv, 1) := by decide +kernel
theorem dX12_swaps_120 : decode cX12_swaps 120 = .ok (.iload 7, 2) := by decide +kernel
theorem dX12_swaps_122 : decode cX12_swaps 122 = .ok (.if_icmp .ne 15, 3) := by decide +kernel
theorem dX12_swaps_125 : decode cX12_swaps 125 = .ok (.iconst 3, 1) := by decide +kernel
theorem dX12_swaps_126 : decode cX12_swaps 126 = .ok (.iload 8, 2) := by decide +kernel
theorem dX12_swaps_128 : decode cX12_swaps 128 = .ok (.imul, 1) := by decide +kernel
theorem dX12_swaps_129 : decode cX12_swaps 129 = .ok (.iload 10, 2) := by decide +kernel
theorem dX12_swaps_131 : decode cX12_swaps 131 = .ok (.iconst 3, 1) := by decide +kernel
theorem dX12_swaps_132 : decode cX12_swaps 132 = .ok (.irem, 1) := by decide +kernel
theorem dX12_swaps_133 : decode cX12_swaps 133 = .ok (.iadd, 1) := by decide +kernel
theorem dX12_swaps_134 : decode cX12_swaps 134 = .ok (.goto 26, 3) := by decide +kernel
theorem dX12_swaps_137 : decode cX12_swaps 137 = .ok (.iload 10, 2) := by decide +kernel
theorem dX12_swaps_139 : decode cX12_swaps 139 = .ok (.iconst 3, 1) := by decide +kernel
theorem dX12_swaps_140 : decode cX12_swaps 140 = .ok (.idiv, 1) := by decide +kernel
theorem dX12_swaps_141 : decode cX12_swaps 141 = .ok (.iload 8, 2) := by decide +kernel
theorem dX12_swaps_143 : decode cX12_swaps 143 = .ok (.if_icmp .ne 15, 3) := by decide +kernel
theorem dX12_swaps_146 : decode cX12_swaps 146 = .ok (.iconst 3, 1) := by decide +kernel
theorem dX12_swaps_147 : decode cX12_swaps 147 = .ok (.iload 7, 2) := by decide +kernel
theorem dX12_swaps_149 : decode cX12_swaps 149 = .ok (.imul, 1) := by decide +kernel
theorem dX12_swaps_150 : decode cX12_swaps 150 = .ok (.iload 10, 2) := by decide +kernel
theorem dX12_swaps_152 : decode cX12_swaps 152 = .ok (.iconst 3, 1) := by decide +kernel
theorem dX12_swaps_153 : decode cX12_swaps 153 = .ok (.irem, 1) := by decide +kernel
theorem dX12_swaps_154 : decode cX12_swaps 154 = .ok (.iadd, 1) := by decide +kernel
theorem dX12_swaps_155 : decode cX12_swaps 155 = .ok (.goto 5, 3) := by decide +kernel
theorem dX12_swaps_158 : decode cX12_swaps 158 = .ok (.iload 10, 2) := by decide +kernel
theorem dX12_swaps_160 : decode cX12_swaps 160 = .ok (.istore 11, 2) := by decide +kernel
theorem dX12_swaps_162 : decode cX12_swaps 162 = .ok (.iload 9, 2) := by decide +kernel
theorem dX12_swaps_164 : decode cX12_swaps 164 = .ok (.ifCond .eq 33, 3) := by decide +kernel
theorem dX12_swaps_167 : decode cX12_swaps 167 = .ok (.aload_n 0, 1) := by decide +kernel
theorem dX12_swaps_168 : decode cX12_swaps 168 = .ok (.getfield 19, 3) := by decide +kernel
theorem dX12_swaps_171 : decode cX12_swaps 171 = .ok (.iconst 5, 1) := by decide +kernel
theorem dX12_swaps_172 : decode cX12_swaps 172 = .ok (.iload 11, 2) := by decide +kernel
theorem dX12_swaps_174 : decode cX12_swaps 174 = .ok (.iadd, 1) := by decide +kernel
theorem dX12_swaps_175 : decode cX12_swaps 175 = .ok (.iaload, 1) := by decide +kernel
theorem dX12_swaps_176 : decode cX12_swaps 176 = .ok (.aload_n 0, 1) := by decide +kernel
theorem dX12_swaps_177 : decode cX12_swaps 177 = .ok (.getfield 16, 3) := by decide +kernel
theorem dX12_swaps_180 : decode cX12_swaps 180 = .ok (.bipush 40, 2) := by decide +kernel
theorem dX12_swaps_182 : decode cX12_swaps 182 = .ok (.iload_n 1, 1) := by decide +kernel
theorem dX12_swaps_183 : decode cX12_swaps 183 = .ok (.imul, 1) := by decide +kernel
theorem dX12_swaps_184 : decode cX12_swaps 184 = .ok (.iload_n 2, 1) := by decide +kernel
theorem dX12_swaps_185 : decode cX12_swaps 185 = .ok (.iadd, 1) := by decide +kernel
theorem dX12_swaps_186 : decode cX12_swaps 186 = .ok (.iload 10, 2) := by decide +kernel
theorem dX12_swaps_188 : decode cX12_swaps 188 = .ok (.iadd, 1) := by decide +kernel
theorem dX12_swaps_189 : decode cX12_swaps 189 = .ok (.iaload, 1) := by decide +kernel
theorem dX12_swaps_190 : decode cX12_swaps 190 = .ok (.if_icmp .ne 7, 3) := by decide +kernel
theorem dX12_swaps_193 : decode cX12_swaps 193 = .ok (.iconst 1, 1) := by decide +kernel
theorem dX12_swaps_194 : decode cX12_swaps 194 = .ok (.goto 4, 3) := by decide +kernel
theorem dX12_swaps_197 : decode cX12_swaps 197 = .ok (.iconst 0, 1) := by decide +kernel
theorem dX12_swaps_198 : decode cX12_swaps 198 = .ok (.istore 9, 2) := by decide +kernel
theorem dX12_swaps_200 : decode cX12_swaps 200 = .ok (.iinc 10 1, 3) := by decide +kernel
theorem dX12_swaps_203 : decode cX12_swaps 203 = .ok (.goto (-100), 3) := by decide +kernel
theorem dX12_swaps_206 : decode cX12_swaps 206 = .ok (.iload 9, 2) := by decide +kernel
theorem dX12_swaps_208 : decode cX12_swaps 208 = .ok (.ifCond .eq 20, 3) := by decide +kernel
theorem dX12_swaps_211 : decode cX12_swaps 211 = .ok (.iload 6, 2) := by decide +kernel
theorem dX12_swaps_213 : decode cX12_swaps 213 = .ok (.ldc 96, 2) := by decide +kernel
theorem dX12_swaps_215 : decode cX12_swaps 215 = .ok (.if_icmp .ne 13, 3) := by decide +kernel
theorem dX12_swaps_218 : decode cX12_swaps 218 = .ok (.iconst 4, 1) := by decide +kernel
theorem dX12_swaps_219 : decode cX12_swaps 219 = .ok (.iload 7, 2) := by decide +kernel
theorem dX12_swaps_221 : decode cX12_swaps 221 = .ok (.imul, 1) := by decide +kernel
theorem dX12_swaps_222 : decode cX12_swaps 222 = .ok (.iload 8, 2) := by decide +kernel
theorem dX12_swaps_224 : decode cX12_swaps 224 = .ok (.iadd, 1) := by decide +kernel
theorem dX12_swaps_225 : decode cX12_swaps 225 = .ok (.goto 5, 3) := by decide +kernel
theorem dX12_swaps_228 : decode cX12_swaps 228 = .ok (.iload 6, 2) := by decide +kernel
theorem dX12_swaps_230 : decode cX12_swaps 230 = .ok (.istore 6, 2) := by decide +kernel
theorem dX12_swaps_232 : decode cX12_swaps 232 = .ok (.iload 5, 2) := by decide +kernel
theorem dX12_swaps_234 : decode cX12_swaps 234 = .ok (.iload 9, 2) := by decide +kernel
theorem dX12_swaps_236 : decode cX12_swaps 236 = .ok (.ifCond .eq 7, 3) := by decide +kernel
theorem dX12_swaps_239 : decode cX12_swaps 239 = .ok (.iconst 1, 1) := by decide +kernel
theorem dX12_swaps_240 : decode cX12_swaps 240 = .ok (.goto 4, 3) := by decide +kernel
theorem dX12_swaps_243 : decode cX12_swaps 243 = .ok (.iconst 0, 1) := by decide +kernel
theorem dX12_swaps_244 : decode cX12_swaps 244 = .ok (.iadd, 1) := by decide +kernel
theorem dX12_swaps_245 : decode cX12_swaps 245 = .ok (.istore 5, 2) := by decide +kernel
theorem dX12_swaps_247 : decode cX12_swaps 247 = .ok (.iinc 8 1, 3) := by decide +kernel
theorem dX12_swaps_250 : decode cX12_swaps 250 = .ok (.goto (-164), 3) := by decide +kernel
theorem dX12_swaps_253 : decode cX12_swaps 253 = .ok (.iinc 7 1, 3) := by decide +kernel
theorem dX12_swaps_256 : decode cX12_swaps 256 = .ok (.goto (-187), 3) := by decide +kernel
theorem dX12_swaps_259 : decode cX12_swaps 259 = .ok (.iload_n 3, 1) := by decide +kernel
theorem dX12_swaps_260 : decode cX12_swaps 260 = .ok (.ifCond .ne 8, 3) := by decide +kernel
theorem dX12_swaps_263 : decode cX12_swaps 263 = .ok (.iload 5, 2) := by decide +kernel
theorem dX12_swaps_265 : decode cX12_swaps 265 = .ok (.goto 5, 3) := by decide +kernel
theorem dX12_swaps_268 : decode cX12_swaps 268 = .ok (.iload 6, 2) := by decide +kernel
theorem dX12_swaps_270 : decode cX12_swaps 270 = .ok (.ireturn, 1) := by decide +kernel
theorem dX12_lent_0 : decode cX12_lent 0 = .ok (.aload_n 0, 1) := by decide +kernel
theorem dX12_lent_1 : decode cX12_lent 1 = .ok (.iconst 0, 1) := by decide +kernel
theorem dX12_lent_2 : decode cX12_lent 2 = .ok (.putfield 53, 3) := by decide +kernel
theorem dX12_lent_5 : decode cX12_lent 5 = .ok (.aload_n 0, 1) := by decide +kernel
theorem dX12_lent_6 : decode cX12_lent 6 = .ok (.invokevirtual 185, 3) := by decide +kernel
theorem dX12_lent_9 : decode cX12_lent 9 = .ok (.ifCond .ne 6, 3) := by decide +kernel
theorem dX12_lent_12 : decode cX12_lent 12 = .ok (.ldc 188, 2) := by decide +kernel
theorem dX12_lent_14 : decode cX12_lent 14 = .ok (.ireturn, 1) := by decide +kernel
theorem dX12_lent_15 : decode cX12_lent 15 = .ok (.iload_n 1, 1) := by decide +kernel
theorem dX12_lent_16 : decode cX12_lent 16 = .ok (.i2l, 1) := by decide +kernel
theorem dX12_lent_17 : decode cX12_lent 17 = .ok (.lconst 0, 1) := by decide +kernel
theorem dX12_lent_18 : decode cX12_lent 18 = .ok (.lconst 1, 1) := by decide +kernel
theorem dX12_lent_19 : decode cX12_lent 19 = .ok (.invokestatic 63, 3) := by decide +kernel
theorem dX12_lent_22 : decode cX12_lent 22 = .ok (.ifCond .eq 13, 3) := by decide +kernel
theorem dX12_lent_25 : decode cX12_lent 25 = .ok (.iload_n 2, 1) := by decide +kernel
theorem dX12_lent_26 : decode cX12_lent 26 = .ok (.i2l, 1) := by decide +kernel
theorem dX12_lent_27 : decode cX12_lent 27 = .ok (.lconst 0, 1) := by decide +kernel
theorem dX12_lent_28 : decode cX12_lent 28 = .ok (.lconst 1, 1) := by decide +kernel
theorem dX12_lent_29 : decode cX12_lent 29 = .ok (.invokestatic 63, 3) := by decide +kernel
theorem dX12_lent_32 : decode cX12_lent 32 = .ok (.ifCond .ne 6, 3) := by decide +kernel
theorem dX12_lent_35 : decode cX12_lent 35 = .ok (.ldc 73, 2) := by decide +kernel
theorem dX12_lent_37 : decode cX12_lent 37 = .ok (.ireturn, 1) := by decide +kernel
theorem dX12_lent_38 : decode cX12_lent 38 = .ok (.aload_n 0, 1) := by decide +kernel
theorem dX12_lent_39 : decode cX12_lent 39 = .ok (.getfield 34, 3) := by decide +kernel
theorem dX12_lent_42 : decode cX12_lent 42 = .ok (.iload_n 1, 1) := by decide +kernel
theorem dX12_lent_43 : decode cX12_lent 43 = .ok (.baload, 1) := by decide +kernel
theorem dX12_lent_44 : decode cX12_lent 44 = .ok (.ifCond .eq 24, 3) := by decide +kernel
theorem dX12_lent_47 : decode cX12_lent 47 = .ok (.aload_n 0, 1) := by decide +kernel
theorem dX12_lent_48 : decode cX12_lent 48 = .ok (.getfield 38, 3) := by decide +kernel
theorem dX12_lent_51 : decode cX12_lent 51 = .ok (.sipush 147, 3) := by decide +kernel
theorem dX12_lent_54 : decode cX12_lent 54 = .ok (.iload_n 1, 1) := by decide +kernel
theorem dX12_lent_55 : decode cX12_lent 55 = .ok (.imul, 1) := by decide +kernel
theorem dX12_lent_56 : decode cX12_lent 56 = .ok (.iconst 2, 1) := by decide +kernel
theorem dX12_lent_57 : decode cX12_lent 57 = .ok (.iadd, 1) := by decide +kernel
theorem dX12_lent_58 : decode cX12_lent 58 = .ok (.iaload, 1) := by decide +kernel
theorem dX12_lent_59 : decode cX12_lent 59 = .ok (.aload_n 0, 1) := by decide +kernel
theorem dX12_lent_60 : decode cX12_lent 60 = .ok (.getfield 19, 3) := by decide +kernel
theorem dX12_lent_63 : decode cX12_lent 63 = .ok (.iconst 2, 1) := by decide +kernel
theorem dX12_lent_64 : decode cX12_lent 64 = .ok (.iaload, 1) := by decide +kernel
theorem dX12_lent_65 : decode cX12_lent 65 = .ok (.if_icmp .eq 6, 3) := by decide +kernel
theorem dX12_lent_68 : decode cX12_lent 68 = .ok (.ldc 188, 2) := by decide +kernel
theorem dX12_lent_70 : decode cX12_lent 70 = .ok (.ireturn, 1) := by decide +kernel
theorem dX12_lent_71 : decode cX12_lent 71 = .ok (.iconst 0, 1) := by decide +kernel
theorem dX12_lent_72 : decode cX12_lent 72 = .ok (.istore_n 3, 1) := by decide +kernel
theorem dX12_lent_73 : decode cX12_lent 73 = .ok (.iconst 0, 1) := by decide +kernel
theorem dX12_lent_74 : decode cX12_lent 74 = .ok (.istore 4, 2) := by decide +kernel
theorem dX12_lent_76 : decode cX12_lent 76 = .ok (.iconst 0, 1) := by decide +kernel
theorem dX12_lent_77 : decode cX12_lent 77 = .ok (.istore 5, 2) := by decide +kernel
theorem dX12_lent_79 : decode cX12_lent 79 = .ok (.iload 5, 2) := by decide +kernel
theorem dX12_lent_81 : decode cX12_lent 81 = .ok (.iconst 3, 1) := by decide +kernel
theorem dX12_lent_82 : decode cX12_lent 82 = .ok (.aload_n 0, 1) := by decide +kernel
theorem dX12_lent_83 : decode cX12_lent 83 = .ok (.getfield 19, 3) := by decide +kernel
theorem dX12_lent_86 : decode cX12_lent 86 = .ok (.iconst 2, 1) := by decide +kernel
theorem dX12_lent_87 : decode cX12_lent 87 = .ok (.iaload, 1) := by decide +kernel
theorem dX12_lent_88 : decode cX12_lent 88 = .ok (.imul, 1) := by decide +kernel
theorem dX12_lent_89 : decode cX12_lent 89 = .ok (.if_icmp .ge 70, 3) := by decide +kernel
theorem dX12_lent_92 : decode cX12_lent 92 = .ok (.aload_n 0, 1) := by decide +kernel
theorem dX12_lent_93 : decode cX12_lent 93 = .ok (.getfield 19, 3) := by decide +kernel
theorem dX12_lent_96 : decode cX12_lent 96 = .ok (.iconst 5, 1) := by decide +kernel
theorem dX12_lent_97 : decode cX12_lent 97 = .ok (.iload 5, 2) := by decide +kernel
theorem dX12_lent_99 : decode cX12_lent 99 = .ok (.iadd, 1) := by decide +kernel
theorem dX12_lent_100 : decode cX12_lent 100 = .ok (.iaload, 1) := by decide +kernel
theorem dX12_lent_101 : decode cX12_lent 101 = .ok (.aload_n 0, 1) := by decide +kernel
theorem dX12_lent_102 : decode cX12_lent 102 = .ok (.getfield 38, 3) := by decide +kernel
theorem dX12_lent_105 : decode cX12_lent 105 = .ok (.sipush 147, 3) := by decide +kernel
theorem dX12_lent_108 : decode cX12_lent 108 = .ok (.iload_n 1, 1) := by decide +kernel
theorem dX12_lent_109 : decode cX12_lent 109 = .ok (.imul, 1) := by decide +kernel
theorem dX12_lent_110 : decode cX12_lent 110 = .ok (.iconst 5, 1) := by decide +kernel
theorem dX12_lent_111 : decode cX12_lent 111 = .ok (.iadd, 1) := by decide +kernel
theorem dX12_lent_112 : decode cX12_lent 112 = .ok (.iload 5, 2) := by decide +kernel
theorem dX12_lent_114 : decode cX12_lent 114 = .ok (.iadd, 1) := by decide +kernel
theorem dX12_lent_115 : decode cX12_lent 115 = .ok (.iaload, 1) := by decide +kernel
theorem dX12_lent_116 : decode cX12_lent 116 = .ok (.isub, 1) := by decide +kernel
theorem dX12_lent_117 : decode cX12_lent 117 = .ok (.istore 6, 2) := by decide +kernel
theorem dX12_lent_119 : decode cX12_lent 119 = .ok (.iload_n 3, 1) := by decide +kernel
theorem dX12_lent_120 : decode cX12_lent 120 = .ok (.iload 6, 2) := by decide +kernel
theorem dX12_lent_122 : decode cX12_lent 122 = .ok (.ifCond .eq 10, 3) := by decide +kernel
theorem dX12_lent_125 : decode cX12_lent 125 = .ok (.iconst 1, 1) := by decide +kernel
theorem dX12_lent_126 : decode cX12_lent 126 = .ok (.iload 5, 2) := by decide +kernel
theorem dX12_lent_128 : decode cX12_lent 128 = .ok (.ishl, 1) := by decide +kernel
theorem dX12_lent_129 : decode cX12_lent 129 = .ok (.goto 4, 3) := by decide +kernel
theorem dX12_lent_132 : decode cX12_lent 132 = .ok (.iconst 0, 1) := by decide +kernel
theorem dX12_lent_133 : decode cX12_lent 133 = .ok (.ior, 1) := by decide +kernel
theorem dX12_lent_134 : decode cX12_lent 134 = .ok (.istore_n 3, 1) := by decide +kernel
theorem dX12_lent_135 : decode cX12_lent 135 = .ok (.iload 4, 2) := by decide +kernel
theorem dX12_lent_137 : decode cX12_lent 137 = .ok (.iload 6, 2) := by decide +kernel
theorem dX12_lent_139 : decode cX12_lent 139 = .ok (.ifCond .ge 9, 3) := by decide +kernel
theorem dX12_lent_142 : decode cX12_lent 142 = .ok (.iload 6, 2) := by decide +kernel
theorem dX12_lent_144 : decode cX12_lent 144 = .ok (.ineg, 1) := by decide +kernel
theorem dX12_lent_145 : decode cX12_lent 145 = .ok (.goto 5, 3) := by decide +kernel
theorem dX12_lent_148 : decode cX12_lent 148 = .ok (.iload 6, 2) := by decide +kernel
theorem dX12_lent_150 : decode cX12_lent 150 = .ok (.iadd, 1) := by decide +kernel
theorem dX12_lent_151 : decode cX12_lent 151 = .ok (.istore 4, 2) := by decide +kernel
theorem dX12_lent_153 : decode cX12_lent 153 = .ok (.iinc 5 1, 3) := by decide +kernel
theorem dX12_lent_156 : decode cX12_lent 156 = .ok (.goto (-77), 3) := by decide +kernel
theorem dX12_lent_159 : decode cX12_lent 159 = .ok (.iload_n 2, 1) := by decide +kernel
theorem dX12_lent_160 : decode cX12_lent 160 = .ok (.ifCond .ne 7, 3) := by decide +kernel
theorem dX12_lent_163 : decode cX12_lent 163 = .ok (.iload_n 3, 1) := by decide +kernel
theorem dX12_lent_164 : decode cX12_lent 164 = .ok (.goto 5, 3) := by decide +kernel
theorem dX12_lent_167 : decode cX12_lent 167 = .ok (.iload 4, 2) := by decide +kernel
theorem dX12_lent_169 : decode cX12_lent 169 = .ok (.ireturn, 1) := by decide +kernel
theorem dX12_parted_0 : decode cX12_parted 0 = .ok (.aload_n 0, 1) := by decide +kernel
theorem dX12_parted_1 : decode cX12_parted 1 = .ok (.iconst 0, 1) := by decide +kernel
theorem dX12_parted_2 : decode cX12_parted 2 = .ok (.putfield 53, 3) := by decide +kernel
theorem dX12_parted_5 : decode cX12_parted 5 = .ok (.aload_n 0, 1) := by decide +kernel
theorem dX12_parted_6 : decode cX12_parted 6 = .ok (.iload_n 1, 1) := by decide +kernel
theorem dX12_parted_7 : decode cX12_parted 7 = .ok (.invokevirtual 158, 3) := by decide +kernel
theorem dX12_parted_10 : decode cX12_parted 10 = .ok (.ifCond .eq 41, 3) := by decide +kernel
theorem dX12_parted_13 : decode cX12_parted 13 = .ok (.aload_n 0, 1) := by decide +kernel
theorem dX12_parted_14 : decode cX12_parted 14 = .ok (.iload_n 2, 1) := by decide +kernel
theorem dX12_parted_15 : decode cX12_parted 15 = .ok (.invokevirtual 158, 3) := by decide +kernel
theorem dX12_parted_18 : decode cX12_parted 18 = .ok (.ifCond .eq 33, 3) := by decide +kernel
theorem dX12_parted_21 : decode cX12_parted 21 = .ok (.iload_n 1, 1) := by decide +kernel
theorem dX12_parted_22 : decode cX12_parted 22 = .ok (.iload_n 2, 1) := by decide +kernel
theorem dX12_parted_23 : decode cX12_parted 23 = .ok (.if_icmp .eq 28, 3) := by decide +kernel
theorem dX12_parted_26 : decode cX12_parted 26 = .ok (.iload_n 3, 1) := by decide +kernel
theorem dX12_parted_27 : decode cX12_parted 27 = .ok (.i2l, 1) := by decide +kernel
theorem dX12_parted_28 : decode cX12_parted 28 = .ok (.ldc2_w 228, 3) := by decide +kernel
theorem dX12_parted_31 : decode cX12_parted 31 = .ok (.ldc2_w 230, 3) := by decide +kernel
theorem dX12_parted_34 : decode cX12_parted 34 = .ok (.invokestatic 63, 3) := by decide +kernel
theorem dX12_parted_37 : decode cX12_parted 37 = .ok (.ifCond .eq 14, 3) := by decide +kernel
theorem dX12_parted_40 : decode cX12_parted 40 = .ok (.iload 4, 2) := by decide +kernel
theorem dX12_parted_42 : decode cX12_parted 42 = .ok (.i2l, 1) := by decide +kernel
theorem dX12_parted_43 : decode cX12_parted 43 = .ok (.lconst 0, 1) := by decide +kernel
theorem dX12_parted_44 : decode cX12_parted 44 = .ok (.lconst 1, 1) := by decide +kernel
theorem dX12_parted_45 : decode cX12_parted 45 = .ok (.invokestatic 63, 3) := by decide +kernel
theorem dX12_parted_48 : decode cX12_parted 48 = .ok (.ifCond .ne 6, 3) := by decide +kernel
theorem dX12_parted_51 : decode cX12_parted 51 = .ok (.ldc 73, 2) := by decide +kernel
theorem dX12_parted_53 : decode cX12_parted 53 = .ok (.ireturn, 1) := by decide +kernel
theorem dX12_parted_54 : decode cX12_parted 54 = .ok (.iconst 0, 1) := by decide +kernel
theorem dX12_parted_55 : decode cX12_parted 55 = .ok (.istore 5, 2) := by decide +kernel
theorem dX12_parted_57 : decode cX12_parted 57 = .ok (.ldc 96, 2) := by decide +kernel
theorem dX12_parted_59 : decode cX12_parted 59 = .ok (.istore 6, 2) := by decide +kernel
theorem dX12_parted_61 : decode cX12_parted 61 = .ok (.bipush (-20), 2) := by decide +kernel
theorem dX12_parted_63 : decode cX12_parted 63 = .ok (.istore 7, 2) := by decide +kernel
theorem dX12_parted_65 : decode cX12_parted 65 = .ok (.iload 7, 2) := by decide +kernel
theorem dX12_parted_67 : decode cX12_parted 67 = .ok (.bipush 20, 2) := by decide +kernel
theorem dX12_parted_69 : decode cX12_parted 69 = .ok (.if_icmp .gt 88, 3) := by decide +kernel
theorem dX12_parted_72 : decode cX12_parted 72 = .ok (.bipush (-20), 2) := by decide +kernel
theorem dX12_parted_74 : decode cX12_parted 74 = .ok (.istore 8, 2) := by decide +kernel
theorem dX12_parted_76 : decode cX12_parted 76 = .ok (.iload 8, 2) := by decide +kernel
theorem dX12_parted_78 : decode cX12_parted 78 = .ok (.bipush 20, 2) := by decide +kernel
theorem dX12_parted_80 : decode cX12_parted 80 = .ok (.if_icmp .gt 71, 3) := by decide +kernel
theorem dX12_parted_83 : decode cX12_parted 83 = .ok (.aload_n 0, 1) := by decide +kernel
theorem dX12_parted_84 : decode cX12_parted 84 = .ok (.iload_n 1, 1) := by decide +kernel
theorem dX12_parted_85 : decode cX12_parted 85 = .ok (.iload 7, 2) := by decide +kernel
theorem dX12_parted_87 : decode cX12_parted 87 = .ok (.invokevirtual 171, 3) := by decide +kernel
theorem dX12_parted_90 : decode cX12_parted 90 = .ok (.aload_n 0, 1) := by decide +kernel
theorem dX12_parted_91 : decode cX12_parted 91 = .ok (.iload_n 2, 1) := by decide +kernel
theorem dX12_parted_92 : decode cX12_parted 92 = .ok (.iload 8, 2) := by decide +kernel
theorem dX12_parted_94 : decode cX12_parted 94 = .ok (.invokevirtual 171, 3) := by decide +kernel
theorem dX12_parted_97 : decode cX12_parted 97 = .ok (.iadd, 1) := by decide +kernel
theorem dX12_parted_98 : decode cX12_parted 98 = .ok (.iload_n 3, 1) := by decide +kernel
theorem dX12_parted_99 : decode cX12_parted 99 = .ok (.if_icmp .ne 7, 3) := by decide +kernel
theorem dX12_parted_102 : decode cX12_parted 102 = .ok (.iconst 1, 1) := by decide +kernel
theorem dX12_parted_103 : decode cX12_parted 103 = .ok (.goto 4, 3) := by decide +kernel
theorem dX12_parted_106 : decode cX12_parted 106 = .ok (.iconst 0, 1) := by decide +kernel
theorem dX12_parted_107 : decode cX12_parted 107 = .ok (.istore 9, 2) := by decide +kernel
theorem dX12_parted_109 : decode cX12_parted 109 = .ok (.iload 5, 2) := by decide +kernel
theorem dX12_parted_111 : decode cX12_parted 111 = .ok (.iload 9, 2) := by decide +kernel
theorem dX12_parted_113 : decode cX12_parted 113 = .ok (.ifCond .eq 7, 3) := by decide +kernel
theorem dX12_parted_116 : decode cX12_parted 116 = .ok (.iconst 1, 1) := by decide +kernel
theorem dX12_parted_117 : decode cX12_parted 117 = .ok (.goto 4, 3) := by decide +kernel
theorem dX12_parted_120 : decode cX12_parted 120 = .ok (.iconst 0, 1) := by decide +kernel
theorem dX12_parted_121 : decode cX12_parted 121 = .ok (.iadd, 1) := by decide +kernel
theorem dX12_parted_122 : decode cX12_parted 122 = .ok (.istore 5, 2) := by decide +kernel
theorem dX12_parted_124 : decode cX12_parted 124 = .ok (.iload 9, 2) := by decide +kernel
theorem dX12_parted_126 : decode cX12_parted 126 = .ok (.ifCond .eq 15, 3) := by decide +kernel
theorem dX12_parted_129 : decode cX12_parted 129 = .ok (.iload 6, 2) := by decide +kernel
theorem dX12_parted_131 : decode cX12_parted 131 = .ok (.ldc 96, 2) := by decide +kernel
theorem dX12_parted_133 : decode cX12_parted 133 = .ok (.if_icmp .ne 8, 3) := by decide +kernel
theorem dX12_parted_136 : decode cX12_parted 136 = .ok (.iload 7, 2) := by decide +kernel
theorem dX12_parted_138 : decode cX12_parted 138 = .ok (.goto 5, 3) := by decide +kernel
theorem dX12_parted_141 : decode cX12_parted 141 = .ok (.iload 6, 2) := by decide +kernel
theorem dX12_parted_143 : decode cX12_parted 143 = .ok (.istore 6, 2) := by decide +kernel
theorem dX12_parted_145 : decode cX12_parted 145 = .ok (.iinc 8 1, 3) := by decide +kernel
theorem dX12_parted_148 : decode cX12_parted 148 = .ok (.goto (-72), 3) := by decide +kernel
theorem dX12_parted_151 : decode cX12_parted 151 = .ok (.iinc 7 1, 3) := by decide +kernel
theorem dX12_parted_154 : decode cX12_parted 154 = .ok (.goto (-89), 3) := by decide +kernel
theorem dX12_parted_157 : decode cX12_parted 157 = .ok (.iload 4, 2) := by decide +kernel
theorem dX12_parted_159 : decode cX12_parted 159 = .ok (.ifCond .ne 8, 3) := by decide +kernel
theorem dX12_parted_162 : decode cX12_parted 162 = .ok (.iload 5, 2) := by decide +kernel
theorem dX12_parted_164 : decode cX12_parted 164 = .ok (.goto 5, 3) := by decide +kernel
theorem dX12_parted_167 : decode cX12_parted 167 = .ok (.iload 6, 2) := by decide +kernel
theorem dX12_parted_169 : decode cX12_parted 169 = .ok (.ireturn, 1) := by decide +kernel
theorem dX12_addedUp_0 : decode cX12_addedUp 0 = .ok (.aload_n 0, 1) := by decide +kernel
theorem dX12_addedUp_1 : decode cX12_addedUp 1 = .ok (.iconst 0, 1) := by decide +kernel
theorem dX12_addedUp_2 : decode cX12_addedUp 2 = .ok (.putfield 53, 3) := by decide +kernel
theorem dX12_addedUp_5 : decode cX12_addedUp 5 = .ok (.aload_n 0, 1) := by decide +kernel
theorem dX12_addedUp_6 : decode cX12_addedUp 6 = .ok (.iload_n 1, 1) := by decide +kernel
theorem dX12_addedUp_7 : decode cX12_addedUp 7 = .ok (.invokevirtual 161, 3) := by decide +kernel
theorem dX12_addedUp_10 : decode cX12_addedUp 10 = .ok (.ifCond .eq 25, 3) := by decide +kernel
theorem dX12_addedUp_13 : decode cX12_addedUp 13 = .ok (.iload_n 2, 1) := by decide +kernel
theorem dX12_addedUp_14 : decode cX12_addedUp 14 = .ok (.i2l, 1) := by decide +kernel
theorem dX12_addedUp_15 : decode cX12_addedUp 15 = .ok (.lconst 0, 1) := by decide +kernel
theorem dX12_addedUp_16 : decode cX12_addedUp 16 = .ok (.ldc2_w 232, 3) := by decide +kernel
theorem dX12_addedUp_19 : decode cX12_addedUp 19 = .ok (.invokestatic 63, 3) := by decide +kernel
theorem dX12_addedUp_22 : decode cX12_addedUp 22 = .ok (.ifCond .eq 13, 3) := by decide +kernel
theorem dX12_addedUp_25 : decode cX12_addedUp 25 = .ok (.iload_n 3, 1) := by decide +kernel
theorem dX12_addedUp_26 : decode cX12_addedUp 26 = .ok (.i2l, 1) := by decide +kernel
theorem dX12_addedUp_27 : decode cX12_addedUp 27 = .ok (.lconst 0, 1) := by decide +kernel
theorem dX12_addedUp_28 : decode cX12_addedUp 28 = .ok (.lconst 1, 1) := by decide +kernel
theorem dX12_addedUp_29 : decode cX12_addedUp 29 = .ok (.invokestatic 63, 3) := by decide +kernel
theorem dX12_addedUp_32 : decode cX12_addedUp 32 = .ok (.ifCond .ne 6, 3) := by decide +kernel
theorem dX12_addedUp_35 : decode cX12_addedUp 35 = .ok (.ldc 73, 2) := by decide +kernel
theorem dX12_addedUp_37 : decode cX12_addedUp 37 = .ok (.ireturn, 1) := by decide +kernel
theorem dX12_addedUp_38 : decode cX12_addedUp 38 = .ok (.ldc 96, 2) := by decide +kernel
theorem dX12_addedUp_40 : decode cX12_addedUp 40 = .ok (.istore 4, 2) := by decide +kernel
theorem dX12_addedUp_42 : decode cX12_addedUp 42 = .ok (.iconst 0, 1) := by decide +kernel
theorem dX12_addedUp_43 : decode cX12_addedUp 43 = .ok (.istore 5, 2) := by decide +kernel
theorem dX12_addedUp_45 : decode cX12_addedUp 45 = .ok (.iload 5, 2) := by decide +kernel
theorem dX12_addedUp_47 : decode cX12_addedUp 47 = .ok (.bipush 8, 2) := by decide +kernel
theorem dX12_addedUp_49 : decode cX12_addedUp 49 = .ok (.if_icmp .ge 108, 3) := by decide +kernel
theorem dX12_addedUp_52 : decode cX12_addedUp 52 = .ok (.iload_n 2, 1) := by decide +kernel
theorem dX12_addedUp_53 : decode cX12_addedUp 53 = .ok (.istore 6, 2) := by decide +kernel
theorem dX12_addedUp_55 : decode cX12_addedUp 55 = .ok (.iconst 0, 1) := by decide +kernel
theorem dX12_addedUp_56 : decode cX12_addedUp 56 = .ok (.istore 7, 2) := by decide +kernel
theorem dX12_addedUp_58 : decode cX12_addedUp 58 = .ok (.iload 7, 2) := by decide +kernel
theorem dX12_addedUp_60 : decode cX12_addedUp 60 = .ok (.iconst 3, 1) := by decide +kernel
theorem dX12_addedUp_61 : decode cX12_addedUp 61 = .ok (.if_icmp .ge 42, 3) := by decide +kernel
theorem dX12_addedUp_64 : decode cX12_addedUp 64 = .ok (.iload 6, 2) := by decide +kernel
theorem dX12_addedUp_66 : decode cX12_addedUp 66 = .ok (.iload 5, 2) := by decide +kernel
theorem dX12_addedUp_68 : decode cX12_addedUp 68 = .ok (.iload 7, 2) := by decide +kernel
theorem dX12_addedUp_70 : decode cX12_addedUp 70 = .ok (.ishr, 1) := by decide +kernel
theorem dX12_addedUp_71 : decode cX12_addedUp 71 = .ok (.iconst 1, 1) := by decide +kernel
theorem dX12_addedUp_72 : decode cX12_addedUp 72 = .ok (.iand, 1) := by decide +kernel
theorem dX12_addedUp_73 : decode cX12_addedUp 73 = .ok (.iconst 1, 1) := by decide +kernel
theorem dX12_addedUp_74 : decode cX12_addedUp 74 = .ok (.if_icmp .ne 7, 3) := by decide +kernel
theorem dX12_addedUp_77 : decode cX12_addedUp 77 = .ok (.iconst 0, 1) := by decide +kernel
theorem dX12_addedUp_78 : decode cX12_addedUp 78 = .ok (.goto 16, 3) := by decide +kernel
theorem dX12_addedUp_81 : decode cX12_addedUp 81 = .ok (.aload_n 0, 1) := by decide +kernel
theorem dX12_addedUp_82 : decode cX12_addedUp 82 = .ok (.getfield 19, 3) := by decide +kernel
theorem dX12_addedUp_85 : decode cX12_addedUp 85 = .ok (.iconst 5, 1) := by decide +kernel
theorem dX12_addedUp_86 : decode cX12_addedUp 86 = .ok (.iconst 3, 1) := by decide +kernel
theorem dX12_addedUp_87 : decode cX12_addedUp 87 = .ok (.iload_n 1, 1) := by decide +kernel
theorem dX12_addedUp_88 : decode cX12_addedUp 88 = .ok (.imul, 1) := by decide +kernel
theorem dX12_addedUp_89 : decode cX12_addedUp 89 = .ok (.iadd, 1) := by decide +kernel
theorem dX12_addedUp_90 : decode cX12_addedUp 90 = .ok (.iload 7, 2) := by decide +kernel
theorem dX12_addedUp_92 : decode cX12_addedUp 92 = .ok (.iadd, 1) := by decide +kernel
theorem dX12_addedUp_93 : decode cX12_addedUp 93 = .ok (.iaload, 1) := by decide +kernel
theorem dX12_addedUp_94 : decode cX12_addedUp 94 = .ok (.isub, 1) := by decide +kernel
theorem dX12_addedUp_95 : decode cX12_addedUp 95 = .ok (.istore 6, 2) := by decide +kernel
theorem dX12_addedUp_97 : decode cX12_addedUp 97 = .ok (.iinc 7 1, 3) := by decide +kernel
theorem dX12_addedUp_100 : decode cX12_addedUp 100 = .ok (.goto (-42), 3) := by decide +kernel
theorem dX12_addedUp_103 : decode cX12_addedUp 103 = .ok (.iload 6, 2) := by decide +kernel
theorem dX12_addedUp_105 : decode cX12_addedUp 105 = .ok (.i2l, 1) := by decide +kernel
theorem dX12_addedUp_106 : decode cX12_addedUp 106 = .ok (.lconst 0, 1) := by decide +kernel
theorem dX12_addedUp_107 : decode cX12_addedUp 107 = .ok (.bipush 99, 2) := by decide +kernel
theorem dX12_addedUp_109 : decode cX12_addedUp 109 = .ok (.iload 5, 2) := by decide +kernel
theorem dX12_addedUp_111 : decode cX12_addedUp 111 = .ok (.invokestatic 211, 3) := by decide +kernel
theorem dX12_addedUp_114 : decode cX12_addedUp 114 = .ok (.imul, 1) := by decide +kernel
theorem dX12_addedUp_115 : decode cX12_addedUp 115 = .ok (.i2l, 1) := by decide +kernel
theorem dX12_addedUp_116 : decode cX12_addedUp 116 = .ok (.invokestatic 63, 3) := by decide +kernel
theorem dX12_addedUp_119 : decode cX12_addedUp 119 = .ok (.ifCond .eq 28, 3) := by decide +kernel
theorem dX12_addedUp_122 : decode cX12_addedUp 122 = .ok (.iload 4, 2) := by decide +kernel
theorem dX12_addedUp_124 : decode cX12_addedUp 124 = .ok (.ldc 96, 2) := by decide +kernel
theorem dX12_addedUp_126 : decode cX12_addedUp 126 = .ok (.if_icmp .eq 16, 3) := by decide +kernel
theorem dX12_addedUp_129 : decode cX12_addedUp 129 = .ok (.iload 5, 2) := by decide +kernel
theorem dX12_addedUp_131 : decode cX12_addedUp 131 = .ok (.invokestatic 211, 3) := by decide +kernel
theorem dX12_addedUp_134 : decode cX12_addedUp 134 = .ok (.iload 4, 2) := by decide +kernel
theorem dX12_addedUp_136 : decode cX12_addedUp 136 = .ok (.invokestatic 211, 3) := by decide +kernel
theorem dX12_addedUp_139 : decode cX12_addedUp 139 = .ok (.if_icmp .ge 8, 3) := by decide +kernel
theorem dX12_addedUp_142 : decode cX12_addedUp 142 = .ok (.iload 5, 2) := by decide +kernel
theorem dX12_addedUp_144 : decode cX12_addedUp 144 = .ok (.goto 5, 3) := by decide +kernel
theorem dX12_addedUp_147 : decode cX12_addedUp 147 = .ok (.iload 4, 2) := by decide +kernel
theorem dX12_addedUp_149 : decode cX12_addedUp 149 = .ok (.istore 4, 2) := by decide +kernel
theorem dX12_addedUp_151 : decode cX12_addedUp 151 = .ok (.iinc 5 1, 3) := by decide +kernel
theorem dX12_addedUp_154 : decode cX12_addedUp 154 = .ok (.goto (-109), 3) := by decide +kernel
theorem dX12_addedUp_157 : decode cX12_addedUp 157 = .ok (.iload 4, 2) := by decide +kernel
theorem dX12_addedUp_159 : decode cX12_addedUp 159 = .ok (.ldc 96, 2) := by decide +kernel
theorem dX12_addedUp_161 : decode cX12_addedUp 161 = .ok (.if_icmp .eq 8, 3) := by decide +kernel
theorem dX12_addedUp_164 : decode cX12_addedUp 164 = .ok (.iload_n 3, 1) := by decide +kernel
theorem dX12_addedUp_165 : decode cX12_addedUp 165 = .ok (.iconst 1, 1) := by decide +kernel
theorem dX12_addedUp_166 : decode cX12_addedUp 166 = .ok (.if_icmp .ne 8, 3) := by decide +kernel
theorem dX12_addedUp_169 : decode cX12_addedUp 169 = .ok (.iload 4, 2) := by decide +kernel
theorem dX12_addedUp_171 : decode cX12_addedUp 171 = .ok (.goto 8, 3) := by decide +kernel
theorem dX12_addedUp_174 : decode cX12_addedUp 174 = .ok (.iload 4, 2) := by decide +kernel
theorem dX12_addedUp_176 : decode cX12_addedUp 176 = .ok (.invokestatic 211, 3) := by decide +kernel
theorem dX12_addedUp_179 : decode cX12_addedUp 179 = .ok (.ireturn, 1) := by decide +kernel
theorem dX12_isCut_0 : decode cX12_isCut 0 = .ok (.iconst 1, 1) := by decide +kernel
theorem dX12_isCut_1 : decode cX12_isCut 1 = .ok (.istore 4, 2) := by decide +kernel
theorem dX12_isCut_3 : decode cX12_isCut 3 = .ok (.iconst 0, 1) := by decide +kernel
theorem dX12_isCut_4 : decode cX12_isCut 4 = .ok (.istore 5, 2) := by decide +kernel
theorem dX12_isCut_6 : decode cX12_isCut 6 = .ok (.iload 5, 2) := by decide +kernel
theorem dX12_isCut_8 : decode cX12_isCut 8 = .ok (.aload_n 0, 1) := by decide +kernel
theorem dX12_isCut_9 : decode cX12_isCut 9 = .ok (.getfield 19, 3) := by decide +kernel
theorem dX12_isCut_12 : decode cX12_isCut 12 = .ok (.iconst 2, 1) := by decide +kernel
theorem dX12_isCut_13 : decode cX12_isCut 13 = .ok (.iaload, 1) := by decide +kernel
theorem dX12_isCut_14 : decode cX12_isCut 14 = .ok (.if_icmp .ge 15, 3) := by decide +kernel
theorem dX12_isCut_17 : decode cX12_isCut 17 = .ok (.iload 4, 2) := by decide +kernel
theorem dX12_isCut_19 : decode cX12_isCut 19 = .ok (.iload_n 3, 1) := by decide +kernel
theorem dX12_isCut_20 : decode cX12_isCut 20 = .ok (.imul, 1) := by decide +kernel
theorem dX12_isCut_21 : decode cX12_isCut 21 = .ok (.istore 4, 2) := by decide +kernel
theorem dX12_isCut_23 : decode cX12_isCut 23 = .ok (.iinc 5 1, 3) := by decide +kernel
theorem dX12_isCut_26 : decode cX12_isCut 26 = .ok (.goto (-20), 3) := by decide +kernel
theorem dX12_isCut_29 : decode cX12_isCut 29 = .ok (.iconst 0, 1) := by decide +kernel
theorem dX12_isCut_30 : decode cX12_isCut 30 = .ok (.istore 5, 2) := by decide +kernel
theorem dX12_isCut_32 : decode cX12_isCut 32 = .ok (.iload 5, 2) := by decide +kernel
theorem dX12_isCut_34 : decode cX12_isCut 34 = .ok (.iload 4, 2) := by decide +kernel
theorem dX12_isCut_36 : decode cX12_isCut 36 = .ok (.if_icmp .ge 135, 3) := by decide +kernel
theorem dX12_isCut_39 : decode cX12_isCut 39 = .ok (.iload 5, 2) := by decide +kernel
theorem dX12_isCut_41 : decode cX12_isCut 41 = .ok (.istore 6, 2) := by decide +kernel
theorem dX12_isCut_43 : decode cX12_isCut 43 = .ok (.iconst 0, 1) := by decide +kernel
theorem dX12_isCut_44 : decode cX12_isCut 44 = .ok (.istore 7, 2) := by decide +kernel
theorem dX12_isCut_46 : decode cX12_isCut 46 = .ok (.iload 7, 2) := by decide +kernel
theorem dX12_isCut_48 : decode cX12_isCut 48 = .ok (.iconst 4, 1) := by decide +kernel
theorem dX12_isCut_49 : decode cX12_isCut 49 = .ok (.if_icmp .ge 17, 3) := by decide +kernel
theorem dX12_isCut_52 : decode cX12_isCut 52 = .ok (.aload_n 0, 1) := by decide +kernel
theorem dX12_isCut_53 : decode cX12_isCut 53 = .ok (.getfield 41, 3) := by decide +kernel
theorem dX12_isCut_56 : decode cX12_isCut 56 = .ok (.iload 7, 2) := by decide +kernel
theorem dX12_isCut_58 : decode cX12_isCut 58 = .ok (.iconst 0, 1) := by decide +kernel
theorem dX12_isCut_59 : decode cX12_isCut 59 = .ok (.iastore, 1) := by decide +kernel
theorem dX12_isCut_60 : decode cX12_isCut 60 = .ok (.iinc 7 1, 3) := by decide +kernel
theorem dX12_isCut_63 : decode cX12_isCut 63 = .ok (.goto (-17), 3) := by decide +kernel
theorem dX12_isCut_66 : decode cX12_isCut 66 = .ok (.iconst 1, 1) := by decide +kernel
theorem dX12_isCut_67 : decode cX12_isCut 67 = .ok (.istore 7, 2) := by decide +kernel
theorem dX12_isCut_69 : decode cX12_isCut 69 = .ok (.iconst 0, 1) := by decide +kernel
theorem dX12_isCut_70 : decode cX12_isCut 70 = .ok (.istore 8, 2) := by decide +kernel
theorem dX12_isCut_72 : decode cX12_isCut 72 = .ok (.iload 8, 2) := by decide +kernel
theorem dX12_isCut_74 : decode cX12_isCut 74 = .ok (.aload_n 0, 1) := by decide +kernel
theorem dX12_isCut_75 : decode cX12_isCut 75 = .ok (.getfield 19, 3) := by decide +kernel
theorem dX12_isCut_78 : decode cX12_isCut 78 = .ok (.iconst 2, 1) := by decide +kernel
theorem dX12_isCut_79 : decode cX12_isCut 79 = .ok (.iaload, 1) := by decide +kernel
theorem dX12_isCut_80 : decode cX12_isCut 80 = .ok (.if_icmp .ge 78, 3) := by decide +kernel
theorem dX12_isCut_83 : decode cX12_isCut 83 = .ok (.aload_n 0, 1) := by decide +kernel
theorem dX12_isCut_84 : decode cX12_isCut 84 = .ok (.getfield 19, 3) := by decide +kernel
theorem dX12_isCut_87 : decode cX12_isCut 87 = .ok (.iconst 5, 1) := by decide +kernel
theorem dX12_isCut_88 : decode cX12_isCut 88 = .ok (.iconst 3, 1) := by decide +kernel
theorem dX12_isCut_89 : decode cX12_isCut 89 = .ok (.iload 8, 2) := by decide +kernel
theorem dX12_isCut_91 : decode cX12_isCut 91 = .ok (.imul, 1) := by decide +kernel
theorem dX12_isCut_92 : decode cX12_isCut 92 = .ok (.iadd, 1) := by decide +kernel
theorem dX12_isCut_93 : decode cX12_isCut 93 = .ok (.iload_n 1, 1) := by decide +kernel
theorem dX12_isCut_94 : decode cX12_isCut 94 = .ok (.iadd, 1) := by decide +kernel
theorem dX12_isCut_95 : decode cX12_isCut 95 = .ok (.iaload, 1) := by decide +kernel
theorem dX12_isCut_96 : decode cX12_isCut 96 = .ok (.istore 9, 2) := by decide +kernel
theorem dX12_isCut_98 : decode cX12_isCut 98 = .ok (.aload_n 0, 1) := by decide +kernel
theorem dX12_isCut_99 : decode cX12_isCut 99 = .ok (.getfield 41, 3) := by decide +kernel
theorem dX12_isCut_102 : decode cX12_isCut 102 = .ok (.iload 6, 2) := by decide +kernel
theorem dX12_isCut_104 : decode cX12_isCut 104 = .ok (.iload_n 3, 1) := by decide +kernel
theorem dX12_isCut_105 : decode cX12_isCut 105 = .ok (.irem, 1) := by decide +kernel
theorem dX12_isCut_106 : decode cX12_isCut 106 = .ok (.dup2, 1) := by decide +kernel
theorem dX12_isCut_107 : decode cX12_isCut 107 = .ok (.iaload, 1) := by decide +kernel
theorem dX12_isCut_108 : decode cX12_isCut 108 = .ok (.iload 9, 2) := by decide +kernel
theorem dX12_isCut_110 : decode cX12_isCut 110 = .ok (.ifCond .le 8, 3) := by decide +kernel
theorem dX12_isCut_113 : decode cX12_isCut 113 = .ok (.iload 9, 2) := by decide +kernel
theorem dX12_isCut_115 : decode cX12_isCut 115 = .ok (.goto 4, 3) := by decide +kernel
theorem dX12_isCut_118 : decode cX12_isCut 118 = .ok (.iconst 0, 1) := by decide +kernel
theorem dX12_isCut_119 : decode cX12_isCut 119 = .ok (.iadd, 1) := by decide +kernel
theorem dX12_isCut_120 : decode cX12_isCut 120 = .ok (.iastore, 1) := by decide +kernel
theorem dX12_isCut_121 : decode cX12_isCut 121 = .ok (.iload 7, 2) := by decide +kernel
theorem dX12_isCut_123 : decode cX12_isCut 123 = .ok (.ifCond .eq 20, 3) := by decide +kernel
theorem dX12_isCut_126 : decode cX12_isCut 126 = .ok (.aload_n 0, 1) := by decide +kernel
theorem dX12_isCut_127 : decode cX12_isCut 127 = .ok (.getfield 41, 3) := by decide +kernel
theorem dX12_isCut_130 : decode cX12_isCut 130 = .ok (.iload 6, 2) := by decide +kernel
theorem dX12_isCut_132 : decode cX12_isCut 132 = .ok (.iload_n 3, 1) := by decide +kernel
theorem dX12_isCut_133 : decode cX12_isCut 133 = .ok (.irem, 1) := by decide +kernel
theorem dX12_isCut_134 : decode cX12_isCut 134 = .ok (.iaload, 1) := by decide +kernel
theorem dX12_isCut_135 : decode cX12_isCut 135 = .ok (.iload_n 2, 1) := by decide +kernel
theorem dX12_isCut_136 : decode cX12_isCut 136 = .ok (.if_icmp .gt 7, 3) := by decide +kernel
theorem dX12_isCut_139 : decode cX12_isCut 139 = .ok (.iconst 1, 1) := by decide +kernel
theorem dX12_isCut_140 : decode cX12_isCut 140 = .ok (.goto 4, 3) := by decide +kernel
theorem dX12_isCut_143 : decode cX12_isCut 143 = .ok (.iconst 0, 1) := by decide +kernel
theorem dX12_isCut_144 : decode cX12_isCut 144 = .ok (.istore 7, 2) := by decide +kernel
theorem dX12_isCut_146 : decode cX12_isCut 146 = .ok (.iload 6, 2) := by decide +kernel
theorem dX12_isCut_148 : decode cX12_isCut 148 = .ok (.iload_n 3, 1) := by decide +kernel
theorem dX12_isCut_149 : decode cX12_isCut 149 = .ok (.idiv, 1) := by decide +kernel
theorem dX12_isCut_150 : decode cX12_isCut 150 = .ok (.istore 6, 2) := by decide +kernel
theorem dX12_isCut_152 : decode cX12_isCut 152 = .ok (.iinc 8 1, 3) := by decide +kernel
theorem dX12_isCut_155 : decode cX12_isCut 155 = .ok (.goto (-83), 3) := by decide +kernel
theorem dX12_isCut_158 : decode cX12_isCut 158 = .ok (.iload 7, 2) := by decide +kernel
theorem dX12_isCut_160 : decode cX12_isCut 160 = .ok (.ifCond .eq 5, 3) := by decide +kernel
theorem dX12_isCut_163 : decode cX12_isCut 163 = .ok (.iconst 1, 1) := by decide +kernel
theorem dX12_isCut_164 : decode cX12_isCut 164 = .ok (.ireturn, 1) := by decide +kernel
theorem dX12_isCut_165 : decode cX12_isCut 165 = .ok (.iinc 5 1, 3) := by decide +kernel
theorem dX12_isCut_168 : decode cX12_isCut 168 = .ok (.goto (-136), 3) := by decide +kernel
theorem dX12_isCut_171 : decode cX12_isCut 171 = .ok (.iconst 0, 1) := by decide +kernel
theorem dX12_isCut_172 : decode cX12_isCut 172 = .ok (.ireturn, 1) := by decide +kernel
theorem dX12_felt_0 : decode cX12_felt 0 = .ok (.aload_n 0, 1) := by decide +kernel
theorem dX12_felt_1 : decode cX12_felt 1 = .ok (.iconst 0, 1) := by decide +kernel
theorem dX12_felt_2 : decode cX12_felt 2 = .ok (.putfield 53, 3) := by decide +kernel
theorem dX12_felt_5 : decode cX12_felt 5 = .ok (.aload_n 0, 1) := by decide +kernel
theorem dX12_felt_6 : decode cX12_felt 6 = .ok (.invokevirtual 185, 3) := by decide +kernel
theorem dX12_felt_9 : decode cX12_felt 9 = .ok (.ifCond .ne 6, 3) := by decide +kernel
theorem dX12_felt_12 : decode cX12_felt 12 = .ok (.ldc 188, 2) := by decide +kernel
theorem dX12_felt_14 : decode cX12_felt 14 = .ok (.ireturn, 1) := by decide +kernel
theorem dX12_felt_15 : decode cX12_felt 15 = .ok (.iload_n 1, 1) := by decide +kernel
theorem dX12_felt_16 : decode cX12_felt 16 = .ok (.invokestatic 164, 3) := by decide +kernel
theorem dX12_felt_19 : decode cX12_felt 19 = .ok (.ifCond .eq 25, 3) := by decide +kernel
theorem dX12_felt_22 : decode cX12_felt 22 = .ok (.iload_n 2, 1) := by decide +kernel
theorem dX12_felt_23 : decode cX12_felt 23 = .ok (.i2l, 1) := by decide +kernel
theorem dX12_felt_24 : decode cX12_felt 24 = .ok (.lconst 1, 1) := by decide +kernel
theorem dX12_felt_25 : decode cX12_felt 25 = .ok (.ldc2_w 230, 3) := by decide +kernel
theorem dX12_felt_28 : decode cX12_felt 28 = .ok (.invokestatic 63, 3) := by decide +kernel
theorem dX12_felt_31 : decode cX12_felt 31 = .ok (.ifCond .eq 13, 3) := by decide +kernel
theorem dX12_felt_34 : decode cX12_felt 34 = .ok (.iload_n 3, 1) := by decide +kernel
theorem dX12_felt_35 : decode cX12_felt 35 = .ok (.i2l, 1) := by decide +kernel
theorem dX12_felt_36 : decode cX12_felt 36 = .ok (.lconst 0, 1) := by decide +kernel
theorem dX12_felt_37 : decode cX12_felt 37 = .ok (.lconst 1, 1) := by decide +kernel
theorem dX12_felt_38 : decode cX12_felt 38 = .ok (.invokestatic 63, 3) := by decide +kernel
theorem dX12_felt_41 : decode cX12_felt 41 = .ok (.ifCond .ne 6, 3) := by decide +kernel
theorem dX12_felt_44 : decode cX12_felt 44 = .ok (.ldc 73, 2) := by decide +kernel
theorem dX12_felt_46 : decode cX12_felt 46 = .ok (.ireturn, 1) := by decide +kernel
theorem dX12_felt_47 : decode cX12_felt 47 = .ok (.iconst 0, 1) := by decide +kernel
theorem dX12_felt_48 : decode cX12_felt 48 = .ok (.istore 4, 2) := by decide +kernel
theorem dX12_felt_50 : decode cX12_felt 50 = .ok (.iconst 0, 1) := by decide +kernel
theorem dX12_felt_51 : decode cX12_felt 51 = .ok (.istore 5, 2) := by decide +kernel
theorem dX12_felt_53 : decode cX12_felt 53 = .ok (.iload 5, 2) := by decide +kernel
theorem dX12_felt_55 : decode cX12_felt 55 = .ok (.aload_n 0, 1) := by decide +kernel
theorem dX12_felt_56 : decode cX12_felt 56 = .ok (.getfield 19, 3) := by decide +kernel
theorem dX12_felt_59 : decode cX12_felt 59 = .ok (.iconst 2, 1) := by decide +kernel
theorem dX12_felt_60 : decode cX12_felt 60 = .ok (.iaload, 1) := by decide +kernel
theorem dX12_felt_61 : decode cX12_felt 61 = .ok (.if_icmp .ge 49, 3) := by decide +kernel
theorem dX12_felt_64 : decode cX12_felt 64 = .ok (.aload_n 0, 1) := by decide +kernel
theorem dX12_felt_65 : decode cX12_felt 65 = .ok (.getfield 19, 3) := by decide +kernel
theorem dX12_felt_68 : decode cX12_felt 68 = .ok (.iconst 5, 1) := by decide +kernel
theorem dX12_felt_69 : decode cX12_felt 69 = .ok (.iconst 3, 1) := by decide +kernel
theorem dX12_felt_70 : decode cX12_felt 70 = .ok (.iload 5, 2) := by decide +kernel
theorem dX12_felt_72 : decode cX12_felt 72 = .ok (.imul, 1) := by decide +kernel
theorem dX12_felt_73 : decode cX12_felt 73 = .ok (.iadd, 1) := by decide +kernel
theorem dX12_felt_74 : decode cX12_felt 74 = .ok (.iload_n 1, 1) := by decide +kernel
theorem dX12_felt_75 : decode cX12_felt 75 = .ok (.iadd, 1) := by decide +kernel
theorem dX12_felt_76 : decode cX12_felt 76 = .ok (.iaload, 1) := by decide +kernel
theorem dX12_felt_77 : decode cX12_felt 77 = .ok (.istore 6, 2) := by decide +kernel
theorem dX12_felt_79 : decode cX12_felt 79 = .ok (.iload 6, 2) := by decide +kernel
theorem dX12_felt_81 : decode cX12_felt 81 = .ok (.iload_n 2, 1) := by decide +kernel
theorem dX12_felt_82 : decode cX12_felt 82 = .ok (.if_icmp .le 6, 3) := by decide +kernel
theorem dX12_felt_85 : decode cX12_felt 85 = .ok (.ldc 96, 2) := by decide +kernel
theorem dX12_felt_87 : decode cX12_felt 87 = .ok (.ireturn, 1) := by decide +kernel
theorem dX12_felt_88 : decode cX12_felt 88 = .ok (.iload 4, 2) := by decide +kernel
theorem dX12_felt_90 : decode cX12_felt 90 = .ok (.iload 6, 2) := by decide +kernel
theorem dX12_felt_92 : decode cX12_felt 92 = .ok (.ifCond .le 8, 3) := by decide +kernel
theorem dX12_felt_95 : decode cX12_felt 95 = .ok (.iload 6, 2) := by decide +kernel
theorem dX12_felt_97 : decode cX12_felt 97 = .ok (.goto 4, 3) := by decide +kernel
theorem dX12_felt_100 : decode cX12_felt 100 = .ok (.iconst 0, 1) := by decide +kernel
theorem dX12_felt_101 : decode cX12_felt 101 = .ok (.iadd, 1) := by decide +kernel
theorem dX12_felt_102 : decode cX12_felt 102 = .ok (.istore 4, 2) := by decide +kernel
theorem dX12_felt_104 : decode cX12_felt 104 = .ok (.iinc 5 1, 3) := by decide +kernel
theorem dX12_felt_107 : decode cX12_felt 107 = .ok (.goto (-54), 3) := by decide +kernel
theorem dX12_felt_110 : decode cX12_felt 110 = .ok (.iload 4, 2) := by decide +kernel
theorem dX12_felt_112 : decode cX12_felt 112 = .ok (.ifCond .le 7, 3) := by decide +kernel
theorem dX12_felt_115 : decode cX12_felt 115 = .ok (.iconst 1, 1) := by decide +kernel
theorem dX12_felt_116 : decode cX12_felt 116 = .ok (.goto 4, 3) := by decide +kernel
theorem dX12_felt_119 : decode cX12_felt 119 = .ok (.iconst 0, 1) := by decide +kernel
theorem dX12_felt_120 : decode cX12_felt 120 = .ok (.istore 5, 2) := by decide +kernel
theorem dX12_felt_122 : decode cX12_felt 122 = .ok (.iload 5, 2) := by decide +kernel
theorem dX12_felt_124 : decode cX12_felt 124 = .ok (.ifCond .le 20, 3) := by decide +kernel
theorem dX12_felt_127 : decode cX12_felt 127 = .ok (.aload_n 0, 1) := by decide +kernel
theorem dX12_felt_128 : decode cX12_felt 128 = .ok (.iload_n 1, 1) := by decide +kernel
theorem dX12_felt_129 : decode cX12_felt 129 = .ok (.iload_n 2, 1) := by decide +kernel
theorem dX12_felt_130 : decode cX12_felt 130 = .ok (.iload 5, 2) := by decide +kernel
theorem dX12_felt_132 : decode cX12_felt 132 = .ok (.invokevirtual 234, 3) := by decide +kernel
theorem dX12_felt_135 : decode cX12_felt 135 = .ok (.ifCond .ne 9, 3) := by decide +kernel
theorem dX12_felt_138 : decode cX12_felt 138 = .ok (.iinc 5 1, 3) := by decide +kernel
theorem dX12_felt_141 : decode cX12_felt 141 = .ok (.goto (-19), 3) := by decide +kernel
theorem dX12_felt_144 : decode cX12_felt 144 = .ok (.iload_n 3, 1) := by decide +kernel
theorem dX12_felt_145 : decode cX12_felt 145 = .ok (.ifCond .ne 8, 3) := by decide +kernel
theorem dX12_felt_148 : decode cX12_felt 148 = .ok (.iload 5, 2) := by decide +kernel
theorem dX12_felt_150 : decode cX12_felt 150 = .ok (.goto 10, 3) := by decide +kernel
theorem dX12_felt_153 : decode cX12_felt 153 = .ok (.iload 5, 2) := by decide +kernel
theorem dX12_felt_155 : decode cX12_felt 155 = .ok (.iload_n 2, 1) := by decide +kernel
theorem dX12_felt_156 : decode cX12_felt 156 = .ok (.imul, 1) := by decide +kernel
theorem dX12_felt_157 : decode cX12_felt 157 = .ok (.iload 4, 2) := by decide +kernel
theorem dX12_felt_159 : decode cX12_felt 159 = .ok (.isub, 1) := by decide +kernel
theorem dX12_felt_160 : decode cX12_felt 160 = .ok (.ireturn, 1) := by decide +kernel
theorem dX12_unlike_0 : decode cX12_unlike 0 = .ok (.iconst 0, 1) := by decide +kernel
theorem dX12_unlike_1 : decode cX12_unlike 1 = .ok (.istore_n 3, 1) := by decide +kernel
theorem dX12_unlike_2 : decode cX12_unlike 2 = .ok (.iconst 0, 1) := by decide +kernel
theorem dX12_unlike_3 : decode cX12_unlike 3 = .ok (.istore 4, 2) := by decide +kernel
theorem dX12_unlike_5 : decode cX12_unlike 5 = .ok (.iload 4, 2) := by decide +kernel
theorem dX12_unlike_7 : decode cX12_unlike 7 = .ok (.iconst 3, 1) := by decide +kernel
theorem dX12_unlike_8 : decode cX12_unlike 8 = .ok (.if_icmp .ge 54, 3) := by decide +kernel
theorem dX12_unlike_11 : decode cX12_unlike 11 = .ok (.aload_n 0, 1) := by decide +kernel
theorem dX12_unlike_12 : decode cX12_unlike 12 = .ok (.getfield 19, 3) := by decide +kernel
theorem dX12_unlike_15 : decode cX12_unlike 15 = .ok (.iconst 5, 1) := by decide +kernel
theorem dX12_unlike_16 : decode cX12_unlike 16 = .ok (.iconst 3, 1) := by decide +kernel
theorem dX12_unlike_17 : decode cX12_unlike 17 = .ok (.iload_n 1, 1) := by decide +kernel
theorem dX12_unlike_18 : decode cX12_unlike 18 = .ok (.imul, 1) := by decide +kernel
theorem dX12_unlike_19 : decode cX12_unlike 19 = .ok (.iadd, 1) := by decide +kernel
theorem dX12_unlike_20 : decode cX12_unlike 20 = .ok (.iload 4, 2) := by decide +kernel
theorem dX12_unlike_22 : decode cX12_unlike 22 = .ok (.iadd, 1) := by decide +kernel
theorem dX12_unlike_23 : decode cX12_unlike 23 = .ok (.iaload, 1) := by decide +kernel
theorem dX12_unlike_24 : decode cX12_unlike 24 = .ok (.aload_n 0, 1) := by decide +kernel
theorem dX12_unlike_25 : decode cX12_unlike 25 = .ok (.getfield 19, 3) := by decide +kernel
theorem dX12_unlike_28 : decode cX12_unlike 28 = .ok (.iconst 5, 1) := by decide +kernel
theorem dX12_unlike_29 : decode cX12_unlike 29 = .ok (.iconst 3, 1) := by decide +kernel
theorem dX12_unlike_30 : decode cX12_unlike 30 = .ok (.iload_n 2, 1) := by decide +kernel
theorem dX12_unlike_31 : decode cX12_unlike 31 = .ok (.imul, 1) := by decide +kernel
theorem dX12_unlike_32 : decode cX12_unlike 32 = .ok (.iadd, 1) := by decide +kernel
theorem dX12_unlike_33 : decode cX12_unlike 33 = .ok (.iload 4, 2) := by decide +kernel
theorem dX12_unlike_35 : decode cX12_unlike 35 = .ok (.iadd, 1) := by decide +kernel
theorem dX12_unlike_36 : decode cX12_unlike 36 = .ok (.iaload, 1) := by decide +kernel
theorem dX12_unlike_37 : decode cX12_unlike 37 = .ok (.isub, 1) := by decide +kernel
theorem dX12_unlike_38 : decode cX12_unlike 38 = .ok (.istore 5, 2) := by decide +kernel
theorem dX12_unlike_40 : decode cX12_unlike 40 = .ok (.iload_n 3, 1) := by decide +kernel
theorem dX12_unlike_41 : decode cX12_unlike 41 = .ok (.iload 5, 2) := by decide +kernel
theorem dX12_unlike_43 : decode cX12_unlike 43 = .ok (.ifCond .ge 9, 3) := by decide +kernel
theorem dX12_unlike_46 : decode cX12_unlike 46 = .ok (.iload 5, 2) := by decide +kernel
theorem dX12_unlike_48 : decode cX12_unlike 48 = .ok (.ineg, 1) := by decide +kernel
theorem dX12_unlike_49 : decode cX12_unlike 49 = .ok (.goto 5, 3) := by decide +kernel
theorem dX12_unlike_52 : decode cX12_unlike 52 = .ok (.iload 5, 2) := by decide +kernel
theorem dX12_unlike_54 : decode cX12_unlike 54 = .ok (.iadd, 1) := by decide +kernel
theorem dX12_unlike_55 : decode cX12_unlike 55 = .ok (.istore_n 3, 1) := by decide +kernel
theorem dX12_unlike_56 : decode cX12_unlike 56 = .ok (.iinc 4 1, 3) := by decide +kernel
theorem dX12_unlike_59 : decode cX12_unlike 59 = .ok (.goto (-54), 3) := by decide +kernel
theorem dX12_unlike_62 : decode cX12_unlike 62 = .ok (.iload_n 3, 1) := by decide +kernel
theorem dX12_unlike_63 : decode cX12_unlike 63 = .ok (.ireturn, 1) := by decide +kernel
theorem dX12_layTwins_0 : decode cX12_layTwins 0 = .ok (.aload_n 0, 1) := by decide +kernel
theorem dX12_layTwins_1 : decode cX12_layTwins 1 = .ok (.getfield 19, 3) := by decide +kernel
theorem dX12_layTwins_4 : decode cX12_layTwins 4 = .ok (.iconst 2, 1) := by decide +kernel
theorem dX12_layTwins_5 : decode cX12_layTwins 5 = .ok (.iaload, 1) := by decide +kernel
theorem dX12_layTwins_6 : decode cX12_layTwins 6 = .ok (.istore_n 1, 1) := by decide +kernel
theorem dX12_layTwins_7 : decode cX12_layTwins 7 = .ok (.iconst 1, 1) := by decide +kernel
theorem dX12_layTwins_8 : decode cX12_layTwins 8 = .ok (.istore_n 2, 1) := by decide +kernel
theorem dX12_layTwins_9 : decode cX12_layTwins 9 = .ok (.iconst 0, 1) := by decide +kernel
theorem dX12_layTwins_10 : decode cX12_layTwins 10 = .ok (.istore_n 3, 1) := by decide +kernel
theorem dX12_layTwins_11 : decode cX12_layTwins 11 = .ok (.iload_n 3, 1) := by decide +kernel
theorem dX12_layTwins_12 : decode cX12_layTwins 12 = .ok (.iload_n 1, 1) := by decide +kernel
theorem dX12_layTwins_13 : decode cX12_layTwins 13 = .ok (.if_icmp .ge 13, 3) := by decide +kernel
theorem dX12_layTwins_16 : decode cX12_layTwins 16 = .ok (.iload_n 2, 1) := by decide +kernel
theorem dX12_layTwins_17 : decode cX12_layTwins 17 = .ok (.iconst 5, 1) := by decide +kernel
theorem dX12_layTwins_18 : decode cX12_layTwins 18 = .ok (.imul, 1) := by decide +kernel
theorem dX12_layTwins_19 : decode cX12_layTwins 19 = .ok (.istore_n 2, 1) := by decide +kernel
theorem dX12_layTwins_20 : decode cX12_layTwins 20 = .ok (.iinc 3 1, 3) := by decide +kernel
theorem dX12_layTwins_23 : decode cX12_layTwins 23 = .ok (.goto (-12), 3) := by decide +kernel
theorem dX12_layTwins_26 : decode cX12_layTwins 26 = .ok (.ldc 96, 2) := by decide +kernel
theorem dX12_layTwins_28 : decode cX12_layTwins 28 = .ok (.istore_n 3, 1) := by decide +kernel
theorem dX12_layTwins_29 : decode cX12_layTwins 29 = .ok (.iconst 0, 1) := by decide +kernel
theorem dX12_layTwins_30 : decode cX12_layTwins 30 = .ok (.istore 4, 2) := by decide +kernel
theorem dX12_layTwins_32 : decode cX12_layTwins 32 = .ok (.iload 4, 2) := by decide +kernel
theorem dX12_layTwins_34 : decode cX12_layTwins 34 = .ok (.iload_n 2, 1) := by decide +kernel
theorem dX12_layTwins_35 : decode cX12_layTwins 35 = .ok (.if_icmp .ge 261, 3) := by decide +kernel
theorem dX12_layTwins_38 : decode cX12_layTwins 38 = .ok (.iload 4, 2) := by decide +kernel
theorem dX12_layTwins_40 : decode cX12_layTwins 40 = .ok (.istore 5, 2) := by decide +kernel
theorem dX12_layTwins_42 : decode cX12_layTwins 42 = .ok (.iload_n 1, 1) := by decide +kernel
theorem dX12_layTwins_43 : decode cX12_layTwins 43 = .ok (.iconst 1, 1) := by decide +kernel
theorem dX12_layTwins_44 : decode cX12_layTwins 44 = .ok (.isub, 1) := by decide +kernel
theorem dX12_layTwins_45 : decode cX12_layTwins 45 = .ok (.istore 6, 2) := by decide +kernel
theorem dX12_layTwins_47 : decode cX12_layTwins 47 = .ok (.iload 6, 2) := by decide +kernel
theorem dX12_layTwins_49 : decode cX12_layTwins 49 = .ok (.ifCond .lt 26, 3) := by decide +kernel
theorem dX12_layTwins_52 : decode cX12_layTwins 52 = .ok (.aload_n 0, 1) := by decide +kernel
theorem dX12_layTwins_53 : decode cX12_layTwins 53 = .ok (.getfield 44, 3) := by decide +kernel
theorem dX12_layTwins_56 : decode cX12_layTwins 56 = .ok (.iload 6, 2) := by decide +kernel
theorem dX12_layTwins_58 : decode cX12_layTwins 58 = .ok (.iload 5, 2) := by decide +kernel
theorem dX12_layTwins_60 : decode cX12_layTwins 60 = .ok (.iconst 5, 1) := by decide +kernel
theorem dX12_layTwins_61 : decode cX12_layTwins 61 = .ok (.irem, 1) := by decide +kernel
theorem dX12_layTwins_62 : decode cX12_layTwins 62 = .ok (.iastore, 1) := by decide +kernel
theorem dX12_layTwins_63 : decode cX12_layTwins 63 = .ok (.iload 5, 2) := by decide +kernel
theorem dX12_layTwins_65 : decode cX12_layTwins 65 = .ok (.iconst 5, 1) := by decide +kernel
theorem dX12_layTwins_66 : decode cX12_layTwins 66 = .ok (.idiv, 1) := by decide +kernel
theorem dX12_layTwins_67 : decode cX12_layTwins 67 = .ok (.istore 5, 2) := by decide +kernel
theorem dX12_layTwins_69 : decode cX12_layTwins 69 = .ok (.iinc 6 (-1), 3) := by decide +kernel
theorem dX12_layTwins_72 : decode cX12_layTwins 72 = .ok (.goto (-25), 3) := by decide +kernel
theorem dX12_layTwins_75 : decode cX12_layTwins 75 = .ok (.iconst 0, 1) := by decide +kernel
theorem dX12_layTwins_76 : decode cX12_layTwins 76 = .ok (.istore 6, 2) := by decide +kernel
theorem dX12_layTwins_78 : decode cX12_layTwins 78 = .ok (.iconst 0, 1) := by decide +kernel
theorem dX12_layTwins_79 : decode cX12_layTwins 79 = .ok (.istore 7, 2) := by decide +kernel
theorem dX12_layTwins_81 : decode cX12_layTwins 81 = .ok (.iconst 1, 1) := by decide +kernel
theorem dX12_layTwins_82 : decode cX12_layTwins 82 = .ok (.istore 8, 2) := by decide +kernel
theorem dX12_layTwins_84 : decode cX12_layTwins 84 = .ok (.iconst 0, 1) := by decide +kernel
theorem dX12_layTwins_85 : decode cX12_layTwins 85 = .ok (.istore 9, 2) := by decide +kernel
theorem dX12_layTwins_87 : decode cX12_layTwins 87 = .ok (.iload 9, 2) := by decide +kernel
theorem dX12_layTwins_89 : decode cX12_layTwins 89 = .ok (.iload_n 1, 1) := by decide +kernel
theorem dX12_layTwins_90 : decode cX12_layTwins 90 = .ok (.if_icmp .ge 143, 3) := by decide +kernel
theorem dX12_layTwins_93 : decode cX12_layTwins 93 = .ok (.aload_n 0, 1) := by decide +kernel
theorem dX12_layTwins_94 : decode cX12_layTwins 94 = .ok (.getfield 44, 3) := by decide +kernel
theorem dX12_layTwins_97 : decode cX12_layTwins 97 = .ok (.iload 9, 2) := by decide +kernel
theorem dX12_layTwins_99 : decode cX12_layTwins 99 = .ok (.iaload, 1) := by decide +kernel
theorem dX12_layTwins_100 : decode cX12_layTwins 100 = .ok (.iconst 4, 1) := by decide +kernel
theorem dX12_layTwins_101 : decode cX12_layTwins 101 = .ok (.if_icmp .ne 7, 3) := by decide +kernel
theorem dX12_layTwins_104 : decode cX12_layTwins 104 = .ok (.iconst 1, 1) := by decide +kernel
theorem dX12_layTwins_105 : decode cX12_layTwins 105 = .ok (.goto 4, 3) := by decide +kernel
theorem dX12_layTwins_108 : decode cX12_layTwins 108 = .ok (.iconst 0, 1) := by decide +kernel
theorem dX12_layTwins_109 : decode cX12_layTwins 109 = .ok (.istore 10, 2) := by decide +kernel
theorem dX12_layTwins_111 : decode cX12_layTwins 111 = .ok (.iload 7, 2) := by decide +kernel
theorem dX12_layTwins_113 : decode cX12_layTwins 113 = .ok (.iload 10, 2) := by decide +kernel
theorem dX12_layTwins_115 : decode cX12_layTwins 115 = .ok (.ifCond .eq 7, 3) := by decide +kernel
theorem dX12_layTwins_118 : decode cX12_layTwins 118 = .ok (.iconst 1, 1) := by decide +kernel
theorem dX12_layTwins_119 : decode cX12_layTwins 119 = .ok (.goto 4, 3) := by decide +kernel
theorem dX12_layTwins_122 : decode cX12_layTwins 122 = .ok (.iconst 0, 1) := by decide +kernel
theorem dX12_layTwins_123 : decode cX12_layTwins 123 = .ok (.iadd, 1) := by decide +kernel
theorem dX12_layTwins_124 : decode cX12_layTwins 124 = .ok (.istore 7, 2) := by decide +kernel
theorem dX12_layTwins_126 : decode cX12_layTwins 126 = .ok (.iload 8, 2) := by decide +kernel
theorem dX12_layTwins_128 : decode cX12_layTwins 128 = .ok (.ifCond .eq 52, 3) := by decide +kernel
theorem dX12_layTwins_131 : decode cX12_layTwins 131 = .ok (.iload 10, 2) := by decide +kernel
theorem dX12_layTwins_133 : decode cX12_layTwins 133 = .ok (.ifCond .ne 43, 3) := by decide +kernel
theorem dX12_layTwins_136 : decode cX12_layTwins 136 = .ok (.aload_n 0, 1) := by decide +kernel
theorem dX12_layTwins_137 : decode cX12_layTwins 137 = .ok (.getfield 44, 3) := by decide +kernel
theorem dX12_layTwins_140 : decode cX12_layTwins 140 = .ok (.iload 9, 2) := by decide +kernel
theorem dX12_layTwins_142 : decode cX12_layTwins 142 = .ok (.iaload, 1) := by decide +kernel
theorem dX12_layTwins_143 : decode cX12_layTwins 143 = .ok (.iload_n 1, 1) := by decide +kernel
theorem dX12_layTwins_144 : decode cX12_layTwins 144 = .ok (.if_icmp .ge 36, 3) := by decide +kernel
theorem dX12_layTwins_147 : decode cX12_layTwins 147 = .ok (.aload_n 0, 1) := by decide +kernel
theorem dX12_layTwins_148 : decode cX12_layTwins 148 = .ok (.getfield 44, 3) := by decide +kernel
theorem dX12_layTwins_151 : decode cX12_layTwins 151 = .ok (.iload 9, 2) := by decide +kernel
theorem dX12_layTwins_153 : decode cX12_layTwins 153 = .ok (.iaload, 1) := by decide +kernel
theorem dX12_layTwins_154 : decode cX12_layTwins 154 = .ok (.iload 9, 2) := by decide +kernel
theorem dX12_layTwins_156 : decode cX12_layTwins 156 = .ok (.if_icmp .eq 24, 3) := by decide +kernel
theorem dX12_layTwins_159 : decode cX12_layTwins 159 = .ok (.aload_n 0, 1) := by decide +kernel
theorem dX12_layTwins_160 : decode cX12_layTwins 160 = .ok (.getfield 44, 3) := by decide +kernel
theorem dX12_layTwins_163 : decode cX12_layTwins 163 = .ok (.aload_n 0, 1) := by decide +kernel
theorem dX12_layTwins_164 : decode cX12_layTwins 164 = .ok (.getfield 44, 3) := by decide +kernel
theorem dX12_layTwins_167 : decode cX12_layTwins 167 = .ok (.iload 9, 2) := by decide +kernel
theorem dX12_layTwins_169 : decode cX12_layTwins 169 = .ok (.iaload, 1) := by decide +kernel
theorem dX12_layTwins_170 : decode cX12_layTwins 170 = .ok (.iaload, 1) := by decide +kernel
theorem dX12_layTwins_171 : decode cX12_layTwins 171 = .ok (.iload 9, 2) := by decide +kernel
theorem dX12_layTwins_173 : decode cX12_layTwins 173 = .ok (.if_icmp .ne 7, 3) := by decide +kernel
theorem dX12_layTwins_176 : decode cX12_layTwins 176 = .ok (.iconst 1, 1) := by decide +kernel
theorem dX12_layTwins_177 : decode cX12_layTwins 177 = .ok (.goto 4, 3) := by decide +kernel
theorem dX12_layTwins_180 : decode cX12_layTwins 180 = .ok (.iconst 0, 1) := by decide +kernel
theorem dX12_layTwins_181 : decode cX12_layTwins 181 = .ok (.istore 8, 2) := by decide +kernel
theorem dX12_layTwins_183 : decode cX12_layTwins 183 = .ok (.iload 6, 2) := by decide +kernel
theorem dX12_layTwins_185 : decode cX12_layTwins 185 = .ok (.iload 8, 2) := by decide +kernel
theorem dX12_layTwins_187 : decode cX12_layTwins 187 = .ok (.ifCond .eq 36, 3) := by decide +kernel
theorem dX12_layTwins_190 : decode cX12_layTwins 190 = .ok (.iload 10, 2) := by decide +kernel
theorem dX12_layTwins_192 : decode cX12_layTwins 192 = .ok (.ifCond .ne 31, 3) := by decide +kernel
theorem dX12_layTwins_195 : decode cX12_layTwins 195 = .ok (.aload_n 0, 1) := by decide +kernel
theorem dX12_layTwins_196 : decode cX12_layTwins 196 = .ok (.getfield 44, 3) := by decide +kernel
theorem dX12_layTwins_199 : decode cX12_layTwins 199 = .ok (.iload 9, 2) := by decide +kernel
theorem dX12_layTwins_201 : decode cX12_layTwins 201 = .ok (.iaload, 1) := by decide +kernel
theorem dX12_layTwins_202 : decode cX12_layTwins 202 = .ok (.iload 9, 2) := by decide +kernel
theorem dX12_layTwins_204 : decode cX12_layTwins 204 = .ok (.if_icmp .le 19, 3) := by decide +kernel
theorem dX12_layTwins_207 : decode cX12_layTwins 207 = .ok (.aload_n 0, 1) := by decide +kernel
theorem dX12_layTwins_208 : decode cX12_layTwins 208 = .ok (.iload 9, 2) := by decide +kernel
theorem dX12_layTwins_210 : decode cX12_layTwins 210 = .ok (.aload_n 0, 1) := by decide +kernel
theorem dX12_layTwins_211 : decode cX12_layTwins 211 = .ok (.getfield 44, 3) := by decide +kernel
theorem dX12_layTwins_214 : decode cX12_layTwins 214 = .ok (.iload 9, 2) := by decide +kernel
theorem dX12_layTwins_216 : decode cX12_layTwins 216 = .ok (.iaload, 1) := by decide +kernel
theorem dX12_layTwins_217 : decode cX12_layTwins 217 = .ok (.invokevirtual 237, 3) := by decide +kernel
theorem dX12_layTwins_220 : decode cX12_layTwins 220 = .ok (.goto 4, 3) := by decide +kernel
theorem dX12_layTwins_223 : decode cX12_layTwins 223 = .ok (.iconst 0, 1) := by decide +kernel
theorem dX12_layTwins_224 : decode cX12_layTwins 224 = .ok (.iadd, 1) := by decide +kernel
theorem dX12_layTwins_225 : decode cX12_layTwins 225 = .ok (.istore 6, 2) := by decide +kernel
theorem dX12_layTwins_227 : decode cX12_layTwins 227 = .ok (.iinc 9 1, 3) := by decide +kernel
theorem dX12_layTwins_230 : decode cX12_layTwins 230 = .ok (.goto (-143), 3) := by decide +kernel
theorem dX12_layTwins_233 : decode cX12_layTwins 233 = .ok (.iload 8, 2) := by decide +kernel
theorem dX12_layTwins_235 : decode cX12_layTwins 235 = .ok (.ifCond .eq 55, 3) := by decide +kernel
theorem dX12_layTwins_238 : decode cX12_layTwins 238 = .ok (.iload 7, 2) := by decide +kernel
theorem dX12_layTwins_240 : decode cX12_layTwins 240 = .ok (.iload_n 1, 1) := by decide +kernel
theorem dX12_layTwins_241 : decode cX12_layTwins 241 = .ok (.iconst 2, 1) := by decide +kernel
theorem dX12_layTwins_242 : decode cX12_layTwins 242 = .ok (.irem, 1) := by decide +kernel
theorem dX12_layTwins_243 : decode cX12_layTwins 243 = .ok (.if_icmp .ne 47, 3) := by decide +kernel
theorem dX12_layTwins_246 : decode cX12_layTwins 246 = .ok (.iload_n 3, 1) := by decide +kernel
theorem dX12_layTwins_247 : decode cX12_layTwins 247 = .ok (.ldc 96, 2) := by decide +kernel
theorem dX12_layTwins_249 : decode cX12_layTwins 249 = .ok (.if_icmp .eq 9, 3) := by decide +kernel
theorem dX12_layTwins_252 : decode cX12_layTwins 252 = .ok (.iload 6, 2) := by decide +kernel
theorem dX12_layTwins_254 : decode cX12_layTwins 254 = .ok (.iload_n 3, 1) := by decide +kernel
theorem dX12_layTwins_255 : decode cX12_layTwins 255 = .ok (.if_icmp .ge 35, 3) := by decide +kernel
theorem dX12_layTwins_258 : decode cX12_layTwins 258 = .ok (.iload 6, 2) := by decide +kernel
theorem dX12_layTwins_260 : decode cX12_layTwins 260 = .ok (.istore_n 3, 1) := by decide +kernel
theorem dX12_layTwins_261 : decode cX12_layTwins 261 = .ok (.iconst 0, 1) := by decide +kernel
theorem dX12_layTwins_262 : decode cX12_layTwins 262 = .ok (.istore 9, 2) := by decide +kernel
theorem dX12_layTwins_264 : decode cX12_layTwins 264 = .ok (.iload 9, 2) := by decide +kernel
theorem dX12_layTwins_266 : decode cX12_layTwins 266 = .ok (.iload_n 1, 1) := by decide +kernel
theorem dX12_layTwins_267 : decode cX12_layTwins 267 = .ok (.if_icmp .ge 23, 3) := by decide +kernel
theorem dX12_layTwins_270 : decode cX12_layTwins 270 = .ok (.aload_n 0, 1) := by decide +kernel
theorem dX12_layTwins_271 : decode cX12_layTwins 271 = .ok (.getfield 47, 3) := by decide +kernel
theorem dX12_layTwins_274 : decode cX12_layTwins 274 = .ok (.iload 9, 2) := by decide +kernel
theorem dX12_layTwins_276 : decode cX12_layTwins 276 = .ok (.aload_n 0, 1) := by decide +kernel
theorem dX12_layTwins_277 : decode cX12_layTwins 277 = .ok (.getfield 44, 3) := by decide +kernel
theorem dX12_layTwins_280 : decode cX12_layTwins 280 = .ok (.iload 9, 2) := by decide +kernel
theorem dX12_layTwins_282 : decode cX12_layTwins 282 = .ok (.iaload, 1) := by decide +kernel
theorem dX12_layTwins_283 : decode cX12_layTwins 283 = .ok (.iastore, 1) := by decide +kernel
theorem dX12_layTwins_284 : decode cX12_layTwins 284 = .ok (.iinc 9 1, 3) := by decide +kernel
theorem dX12_layTwins_287 : decode cX12_layTwins 287 = .ok (.goto (-23), 3) := by decide +kernel
theorem dX12_layTwins_290 : decode cX12_layTwins 290 = .ok (.iinc 4 1, 3) := by decide +kernel
theorem dX12_layTwins_293 : decode cX12_layTwins 293 = .ok (.goto (-261), 3) := by decide +kernel
theorem dX12_layTwins_296 : decode cX12_layTwins 296 = .ok (.iload_n 3, 1) := by decide +kernel
theorem dX12_layTwins_297 : decode cX12_layTwins 297 = .ok (.ireturn, 1) := by decide +kernel
theorem dX12_twins_0 : decode cX12_twins 0 = .ok (.aload_n 0, 1) := by decide +kernel
theorem dX12_twins_1 : decode cX12_twins 1 = .ok (.iconst 0, 1) := by decide +kernel
theorem dX12_twins_2 : decode cX12_twins 2 = .ok (.putfield 53, 3) := by decide +kernel
theorem dX12_twins_5 : decode cX12_twins 5 = .ok (.aload_n 0, 1) := by decide +kernel
theorem dX12_twins_6 : decode cX12_twins 6 = .ok (.invokevirtual 185, 3) := by decide +kernel
theorem dX12_twins_9 : decode cX12_twins 9 = .ok (.ifCond .ne 6, 3) := by decide +kernel
theorem dX12_twins_12 : decode cX12_twins 12 = .ok (.ldc 188, 2) := by decide +kernel
theorem dX12_twins_14 : decode cX12_twins 14 = .ok (.ireturn, 1) := by decide +kernel
theorem dX12_twins_15 : decode cX12_twins 15 = .ok (.iload_n 1, 1) := by decide +kernel
theorem dX12_twins_16 : decode cX12_twins 16 = .ok (.i2l, 1) := by decide +kernel
theorem dX12_twins_17 : decode cX12_twins 17 = .ok (.ldc2_w 240, 3) := by decide +kernel
theorem dX12_twins_20 : decode cX12_twins 20 = .ok (.aload_n 0, 1) := by decide +kernel
theorem dX12_twins_21 : decode cX12_twins 21 = .ok (.getfield 19, 3) := by decide +kernel
theorem dX12_twins_24 : decode cX12_twins 24 = .ok (.iconst 2, 1) := by decide +kernel
theorem dX12_twins_25 : decode cX12_twins 25 = .ok (.iaload, 1) := by decide +kernel
theorem dX12_twins_26 : decode cX12_twins 26 = .ok (.iconst 1, 1) := by decide +kernel
theorem dX12_twins_27 : decode cX12_twins 27 = .ok (.isub, 1) := by decide +kernel
theorem dX12_twins_28 : decode cX12_twins 28 = .ok (.i2l, 1) := by decide +kernel
theorem dX12_twins_29 : decode cX12_twins 29 = .ok (.invokestatic 63, 3) := by decide +kernel
theorem dX12_twins_32 : decode cX12_twins 32 = .ok (.ifCond .ne 6, 3) := by decide +kernel
theorem dX12_twins_35 : decode cX12_twins 35 = .ok (.ldc 73, 2) := by decide +kernel
theorem dX12_twins_37 : decode cX12_twins 37 = .ok (.ireturn, 1) := by decide +kernel
theorem dX12_twins_38 : decode cX12_twins 38 = .ok (.aload_n 0, 1) := by decide +kernel
theorem dX12_twins_39 : decode cX12_twins 39 = .ok (.invokevirtual 242, 3) := by decide +kernel
theorem dX12_twins_42 : decode cX12_twins 42 = .ok (.istore_n 2, 1) := by decide +kernel
theorem dX12_twins_43 : decode cX12_twins 43 = .ok (.iload_n 1, 1) := by decide +kernel
theorem dX12_twins_44 : decode cX12_twins 44 = .ok (.ifCond .ge 7, 3) := by decide +kernel
theorem dX12_twins_47 : decode cX12_twins 47 = .ok (.iload_n 2, 1) := by decide +kernel
theorem dX12_twins_48 : decode cX12_twins 48 = .ok (.goto 24, 3) := by decide +kernel
theorem dX12_twins_51 : decode cX12_twins 51 = .ok (.aload_n 0, 1) := by decide +kernel
theorem dX12_twins_52 : decode cX12_twins 52 = .ok (.getfield 47, 3) := by decide +kernel
theorem dX12_twins_55 : decode cX12_twins 55 = .ok (.iload_n 1, 1) := by decide +kernel
theorem dX12_twins_56 : decode cX12_twins 56 = .ok (.iaload, 1) := by decide +kernel
theorem dX12_twins_57 : decode cX12_twins 57 = .ok (.iconst 4, 1) := by decide +kernel
theorem dX12_twins_58 : decode cX12_twins 58 = .ok (.if_icmp .ne 8, 3) := by decide +kernel
theorem dX12_twins_61 : decode cX12_twins 61 = .ok (.ldc 96, 2) := by decide +kernel
theorem dX12_twins_63 : decode cX12_twins 63 = .ok (.goto 9, 3) := by decide +kernel
theorem dX12_twins_66 : decode cX12_twins 66 = .ok (.aload_n 0, 1) := by decide +kernel
theorem dX12_twins_67 : decode cX12_twins 67 = .ok (.getfield 47, 3) := by decide +kernel
theorem dX12_twins_70 : decode cX12_twins 70 = .ok (.iload_n 1, 1) := by decide +kernel
theorem dX12_twins_71 : decode cX12_twins 71 = .ok (.iaload, 1) := by decide +kernel
theorem dX12_twins_72 : decode cX12_twins 72 = .ok (.ireturn, 1) := by decide +kernel
theorem dX12_image_0 : decode cX12_image 0 = .ok (.aload_n 0, 1) := by decide +kernel
theorem dX12_image_1 : decode cX12_image 1 = .ok (.iconst 0, 1) := by decide +kernel
theorem dX12_image_2 : decode cX12_image 2 = .ok (.putfield 53, 3) := by decide +kernel
theorem dX12_image_5 : decode cX12_image 5 = .ok (.iload_n 1, 1) := by decide +kernel
theorem dX12_image_6 : decode cX12_image 6 = .ok (.i2l, 1) := by decide +kernel
theorem dX12_image_7 : decode cX12_image 7 = .ok (.lconst 0, 1) := by decide +kernel
theorem dX12_image_8 : decode cX12_image 8 = .ok (.lconst 1, 1) := by decide +kernel
theorem dX12_image_9 : decode cX12_image 9 = .ok (.invokestatic 63, 3) := by decide +kernel
theorem dX12_image_12 : decode cX12_image 12 = .ok (.ifCond .ne 6, 3) := by decide +kernel
theorem dX12_image_15 : decode cX12_image 15 = .ok (.ldc 73, 2) := by decide +kernel
theorem dX12_image_17 : decode cX12_image 17 = .ok (.ireturn, 1) := by decide +kernel
theorem dX12_image_18 : decode cX12_image 18 = .ok (.aload_n 0, 1) := by decide +kernel
theorem dX12_image_19 : decode cX12_image 19 = .ok (.invokevirtual 185, 3) := by decide +kernel
theorem dX12_image_22 : decode cX12_image 22 = .ok (.ifCond .ne 6, 3) := by decide +kernel
theorem dX12_image_25 : decode cX12_image 25 = .ok (.ldc 188, 2) := by decide +kernel
theorem dX12_image_27 : decode cX12_image 27 = .ok (.ireturn, 1) := by decide +kernel
theorem dX12_image_28 : decode cX12_image 28 = .ok (.iconst 0, 1) := by decide +kernel
theorem dX12_image_29 : decode cX12_image 29 = .ok (.istore_n 2, 1) := by decide +kernel
theorem dX12_image_30 : decode cX12_image 30 = .ok (.iload_n 2, 1) := by decide +kernel
theorem dX12_image_31 : decode cX12_image 31 = .ok (.sipush 147, 3) := by decide +kernel
theorem dX12_image_34 : decode cX12_image 34 = .ok (.if_icmp .ge 27, 3) := by decide +kernel
theorem dX12_image_37 : decode cX12_image 37 = .ok (.aload_n 0, 1) := by decide +kernel
theorem dX12_image_38 : decode cX12_image 38 = .ok (.getfield 38, 3) := by decide +kernel
theorem dX12_image_41 : decode cX12_image 41 = .ok (.sipush 147, 3) := by decide +kernel
theorem dX12_image_44 : decode cX12_image 44 = .ok (.iload_n 1, 1) := by decide +kernel
theorem dX12_image_45 : decode cX12_image 45 = .ok (.imul, 1) := by decide +kernel
theorem dX12_image_46 : decode cX12_image 46 = .ok (.iload_n 2, 1) := by decide +kernel
theorem dX12_image_47 : decode cX12_image 47 = .ok (.iadd, 1) := by decide +kernel
theorem dX12_image_48 : decode cX12_image 48 = .ok (.aload_n 0, 1) := by decide +kernel
theorem dX12_image_49 : decode cX12_image 49 = .ok (.getfield 19, 3) := by decide +kernel
theorem dX12_image_52 : decode cX12_image 52 = .ok (.iload_n 2, 1) := by decide +kernel
theorem dX12_image_53 : decode cX12_image 53 = .ok (.iaload, 1) := by decide +kernel
theorem dX12_image_54 : decode cX12_image 54 = .ok (.iastore, 1) := by decide +kernel
theorem dX12_image_55 : decode cX12_image 55 = .ok (.iinc 2 1, 3) := by decide +kernel
theorem dX12_image_58 : decode cX12_image 58 = .ok (.goto (-28), 3) := by decide +kernel
theorem dX12_image_61 : decode cX12_image 61 = .ok (.aload_n 0, 1) := by decide +kernel
theorem dX12_image_62 : decode cX12_image 62 = .ok (.getfield 34, 3) := by decide +kernel
theorem dX12_image_65 : decode cX12_image 65 = .ok (.iload_n 1, 1) := by decide +kernel
theorem dX12_image_66 : decode cX12_image 66 = .ok (.iconst 1, 1) := by decide +kernel
theorem dX12_image_67 : decode cX12_image 67 = .ok (.bastore, 1) := by decide +kernel
theorem dX12_image_68 : decode cX12_image 68 = .ok (.iconst 1, 1) := by decide +kernel
theorem dX12_image_69 : decode cX12_image 69 = .ok (.ireturn, 1) := by decide +kernel
theorem dX12_restore_0 : decode cX12_restore 0 = .ok (.aload_n 0, 1) := by decide +kernel
theorem dX12_restore_1 : decode cX12_restore 1 = .ok (.iconst 0, 1) := by decide +kernel
theorem dX12_restore_2 : decode cX12_restore 2 = .ok (.putfield 53, 3) := by decide +kernel
theorem dX12_restore_5 : decode cX12_restore 5 = .ok (.iload_n 1, 1) := by decide +kernel
theorem dX12_restore_6 : decode cX12_restore 6 = .ok (.i2l, 1) := by decide +kernel
theorem dX12_restore_7 : decode cX12_restore 7 = .ok (.lconst 0, 1) := by decide +kernel
theorem dX12_restore_8 : decode cX12_restore 8 = .ok (.lconst 1, 1) := by decide +kernel
theorem dX12_restore_9 : decode cX12_restore 9 = .ok (.invokestatic 63, 3) := by decide +kernel
theorem dX12_restore_12 : decode cX12_restore 12 = .ok (.ifCond .ne 6, 3) := by decide +kernel
theorem dX12_restore_15 : decode cX12_restore 15 = .ok (.ldc 73, 2) := by decide +kernel
theorem dX12_restore_17 : decode cX12_restore 17 = .ok (.ireturn, 1) := by decide +kernel
theorem dX12_restore_18 : decode cX12_restore 18 = .ok (.aload_n 0, 1) := by decide +kernel
theorem dX12_restore_19 : decode cX12_restore 19 = .ok (.getfield 34, 3) := by decide +kernel
theorem dX12_restore_22 : decode cX12_restore 22 = .ok (.iload_n 1, 1) := by decide +kernel
theorem dX12_restore_23 : decode cX12_restore 23 = .ok (.baload, 1) := by decide +kernel
theorem dX12_restore_24 : decode cX12_restore 24 = .ok (.ifCond .ne 6, 3) := by decide +kernel
theorem dX12_restore_27 : decode cX12_restore 27 = .ok (.ldc 188, 2) := by decide +kernel
theorem dX12_restore_29 : decode cX12_restore 29 = .ok (.ireturn, 1) := by decide +kernel
theorem dX12_restore_30 : decode cX12_restore 30 = .ok (.iconst 0, 1) := by decide +kernel
theorem dX12_restore_31 : decode cX12_restore 31 = .ok (.istore_n 2, 1) := by decide +kernel
theorem dX12_restore_32 : decode cX12_restore 32 = .ok (.iload_n 2, 1) := by decide +kernel
theorem dX12_restore_33 : decode cX12_restore 33 = .ok (.sipush 147, 3) := by decide +kernel
theorem dX12_restore_36 : decode cX12_restore 36 = .ok (.if_icmp .ge 27, 3) := by decide +kernel
theorem dX12_restore_39 : decode cX12_restore 39 = .ok (.aload_n 0, 1) := by decide +kernel
theorem dX12_restore_40 : decode cX12_restore 40 = .ok (.getfield 19, 3) := by decide +kernel
theorem dX12_restore_43 : decode cX12_restore 43 = .ok (.iload_n 2, 1) := by decide +kernel
theorem dX12_restore_44 : decode cX12_restore 44 = .ok (.aload_n 0, 1) := by decide +kernel
theorem dX12_restore_45 : decode cX12_restore 45 = .ok (.getfield 38, 3) := by decide +kernel
theorem dX12_restore_48 : decode cX12_restore 48 = .ok (.sipush 147, 3) := by decide +kernel
theorem dX12_restore_51 : decode cX12_restore 51 = .ok (.iload_n 1, 1) := by decide +kernel
theorem dX12_restore_52 : decode cX12_restore 52 = .ok (.imul, 1) := by decide +kernel
theorem dX12_restore_53 : decode cX12_restore 53 = .ok (.iload_n 2, 1) := by decide +kernel
theorem dX12_restore_54 : decode cX12_restore 54 = .ok (.iadd, 1) := by decide +kernel
theorem dX12_restore_55 : decode cX12_restore 55 = .ok (.iaload, 1) := by decide +kernel
theorem dX12_restore_56 : decode cX12_restore 56 = .ok (.iastore, 1) := by decide +kernel
theorem dX12_restore_57 : decode cX12_restore 57 = .ok (.iinc 2 1, 3) := by decide +kernel
theorem dX12_restore_60 : decode cX12_restore 60 = .ok (.goto (-28), 3) := by decide +kernel
theorem dX12_restore_63 : decode cX12_restore 63 = .ok (.aload_n 0, 1) := by decide +kernel
theorem dX12_restore_64 : decode cX12_restore 64 = .ok (.iconst 0, 1) := by decide +kernel
theorem dX12_restore_65 : decode cX12_restore 65 = .ok (.putfield 152, 3) := by decide +kernel
theorem dX12_restore_68 : decode cX12_restore 68 = .ok (.iconst 1, 1) := by decide +kernel
theorem dX12_restore_69 : decode cX12_restore 69 = .ok (.ireturn, 1) := by decide +kernel
theorem dX12_isOf_0 : decode cX12_isOf 0 = .ok (.iload_n 1, 1) := by decide +kernel
theorem dX12_isOf_1 : decode cX12_isOf 1 = .ok (.ifCond .eq 28, 3) := by decide +kernel
theorem dX12_isOf_4 : decode cX12_isOf 4 = .ok (.iload_n 0, 1) := by decide +kernel
theorem dX12_isOf_5 : decode cX12_isOf 5 = .ok (.iload_n 1, 1) := by decide +kernel
theorem dX12_isOf_6 : decode cX12_isOf 6 = .ok (.if_icmp .eq 23, 3) := by decide +kernel
theorem dX12_isOf_9 : decode cX12_isOf 9 = .ok (.iload_n 1, 1) := by decide +kernel
theorem dX12_isOf_10 : decode cX12_isOf 10 = .ok (.iconst 1, 1) := by decide +kernel
theorem dX12_isOf_11 : decode cX12_isOf 11 = .ok (.if_icmp .ne 8, 3) := by decide +kernel
theorem dX12_isOf_14 : decode cX12_isOf 14 = .ok (.iload_n 0, 1) := by decide +kernel
theorem dX12_isOf_15 : decode cX12_isOf 15 = .ok (.iconst 4, 1) := by decide +kernel
theorem dX12_isOf_16 : decode cX12_isOf 16 = .ok (.if_icmp .lt 13, 3) := by decide +kernel
theorem dX12_isOf_19 : decode cX12_isOf 19 = .ok (.iload_n 1, 1) := by decide +kernel
theorem dX12_isOf_20 : decode cX12_isOf 20 = .ok (.iconst 4, 1) := by decide +kernel
theorem dX12_isOf_21 : decode cX12_isOf 21 = .ok (.if_icmp .ne 12, 3) := by decide +kernel
theorem dX12_isOf_24 : decode cX12_isOf 24 = .ok (.iload_n 0, 1) := by decide +kernel
theorem dX12_isOf_25 : decode cX12_isOf 25 = .ok (.iconst 5, 1) := by decide +kernel
theorem dX12_isOf_26 : decode cX12_isOf 26 = .ok (.if_icmp .ne 7, 3) := by decide +kernel
theorem dX12_isOf_29 : decode cX12_isOf 29 = .ok (.iconst 1, 1) := by decide +kernel
theorem dX12_isOf_30 : decode cX12_isOf 30 = .ok (.goto 4, 3) := by decide +kernel
theorem dX12_isOf_33 : decode cX12_isOf 33 = .ok (.iconst 0, 1) := by decide +kernel
theorem dX12_isOf_34 : decode cX12_isOf 34 = .ok (.ireturn, 1) := by decide +kernel
theorem dX12_kind_0 : decode cX12_kind 0 = .ok (.aload_n 0, 1) := by decide +kernel
theorem dX12_kind_1 : decode cX12_kind 1 = .ok (.iconst 0, 1) := by decide +kernel
theorem dX12_kind_2 : decode cX12_kind 2 = .ok (.putfield 53, 3) := by decide +kernel
theorem dX12_kind_5 : decode cX12_kind 5 = .ok (.aload_n 0, 1) := by decide +kernel
theorem dX12_kind_6 : decode cX12_kind 6 = .ok (.iload_n 1, 1) := by decide +kernel
theorem dX12_kind_7 : decode cX12_kind 7 = .ok (.invokevirtual 158, 3) := by decide +kernel
theorem dX12_kind_10 : decode cX12_kind 10 = .ok (.ifCond .eq 11, 3) := by decide +kernel
theorem dX12_kind_13 : decode cX12_kind 13 = .ok (.aload_n 0, 1) := by decide +kernel
theorem dX12_kind_14 : decode cX12_kind 14 = .ok (.iload_n 1, 1) := by decide +kernel
theorem dX12_kind_15 : decode cX12_kind 15 = .ok (.invokevirtual 155, 3) := by decide +kernel
theorem dX12_kind_18 : decode cX12_kind 18 = .ok (.goto 5, 3) := by decide +kernel
theorem dX12_kind_21 : decode cX12_kind 21 = .ok (.ldc 73, 2) := by decide +kernel
theorem dX12_kind_23 : decode cX12_kind 23 = .ok (.ireturn, 1) := by decide +kernel
theorem dX12_as_0 : decode cX12_as 0 = .ok (.aload_n 0, 1) := by decide +kernel
theorem dX12_as_1 : decode cX12_as 1 = .ok (.iconst 0, 1) := by decide +kernel
theorem dX12_as_2 : decode cX12_as 2 = .ok (.putfield 53, 3) := by decide +kernel
theorem dX12_as_5 : decode cX12_as 5 = .ok (.aload_n 0, 1) := by decide +kernel
theorem dX12_as_6 : decode cX12_as 6 = .ok (.iload_n 1, 1) := by decide +kernel
theorem dX12_as_7 : decode cX12_as 7 = .ok (.invokevirtual 158, 3) := by decide +kernel
theorem dX12_as_10 : decode cX12_as 10 = .ok (.ifCond .eq 15, 3) := by decide +kernel
theorem dX12_as_13 : decode cX12_as 13 = .ok (.iload_n 2, 1) := by decide +kernel
theorem dX12_as_14 : decode cX12_as 14 = .ok (.i2l, 1) := by decide +kernel
theorem dX12_as_15 : decode cX12_as 15 = .ok (.lconst 0, 1) := by decide +kernel
theorem dX12_as_16 : decode cX12_as 16 = .ok (.ldc2_w 195, 3) := by decide +kernel
theorem dX12_as_19 : decode cX12_as 19 = .ok (.invokestatic 63, 3) := by decide +kernel
theorem dX12_as_22 : decode cX12_as 22 = .ok (.ifCond .ne 6, 3) := by decide +kernel
theorem dX12_as_25 : decode cX12_as 25 = .ok (.ldc 73, 2) := by decide +kernel
theorem dX12_as_27 : decode cX12_as 27 = .ok (.ireturn, 1) := by decide +kernel
theorem dX12_as_28 : decode cX12_as 28 = .ok (.aload_n 0, 1) := by decide +kernel
theorem dX12_as_29 : decode cX12_as 29 = .ok (.iconst 0, 1) := by decide +kernel
theorem dX12_as_30 : decode cX12_as 30 = .ok (.putfield 57, 3) := by decide +kernel
theorem dX12_as_33 : decode cX12_as 33 = .ok (.aload_n 0, 1) := by decide +kernel
theorem dX12_as_34 : decode cX12_as 34 = .ok (.iload_n 1, 1) := by decide +kernel
theorem dX12_as_35 : decode cX12_as 35 = .ok (.invokevirtual 155, 3) := by decide +kernel
theorem dX12_as_38 : decode cX12_as 38 = .ok (.iload_n 2, 1) := by decide +kernel
theorem dX12_as_39 : decode cX12_as 39 = .ok (.invokestatic 246, 3) := by decide +kernel
theorem dX12_as_42 : decode cX12_as 42 = .ok (.ifCond .eq 7, 3) := by decide +kernel
theorem dX12_as_45 : decode cX12_as 45 = .ok (.iload_n 1, 1) := by decide +kernel
theorem dX12_as_46 : decode cX12_as 46 = .ok (.goto 8, 3) := by decide +kernel
theorem dX12_as_49 : decode cX12_as 49 = .ok (.aload_n 0, 1) := by decide +kernel
theorem dX12_as_50 : decode cX12_as 50 = .ok (.iconst 3, 1) := by decide +kernel
theorem dX12_as_51 : decode cX12_as 51 = .ok (.invokevirtual 74, 3) := by decide +kernel
theorem dX12_as_54 : decode cX12_as 54 = .ok (.ireturn, 1) := by decide +kernel
theorem dX12_began_0 : decode cX12_began 0 = .ok (.aload_n 0, 1) := by decide +kernel
theorem dX12_began_1 : decode cX12_began 1 = .ok (.getfield 250, 3) := by decide +kernel
theorem dX12_began_4 : decode cX12_began 4 = .ok (.bipush 16, 2) := by decide +kernel
theorem dX12_began_6 : decode cX12_began 6 = .ok (.if_icmp .ge 23, 3) := by decide +kernel
theorem dX12_began_9 : decode cX12_began 9 = .ok (.aload_n 0, 1) := by decide +kernel
theorem dX12_began_10 : decode cX12_began 10 = .ok (.getfield 50, 3) := by decide +kernel
theorem dX12_began_13 : decode cX12_began 13 = .ok (.aload_n 0, 1) := by decide +kernel
theorem dX12_began_14 : decode cX12_began 14 = .ok (.getfield 250, 3) := by decide +kernel
theorem dX12_began_17 : decode cX12_began 17 = .ok (.iload_n 1, 1) := by decide +kernel
theorem dX12_began_18 : decode cX12_began 18 = .ok (.iastore, 1) := by decide +kernel
theorem dX12_began_19 : decode cX12_began 19 = .ok (.aload_n 0, 1) := by decide +kernel
theorem dX12_began_20 : decode cX12_began 20 = .ok (.dup, 1) := by decide +kernel
theorem dX12_began_21 : decode cX12_began 21 = .ok (.getfield 250, 3) := by decide +kernel
theorem dX12_began_24 : decode cX12_began 24 = .ok (.iconst 1, 1) := by decide +kernel
theorem dX12_began_25 : decode cX12_began 25 = .ok (.iadd, 1) := by decide +kernel
theorem dX12_began_26 : decode cX12_began 26 = .ok (.putfield 250, 3) := by decide +kernel
theorem dX12_began_29 : decode cX12_began 29 = .ok (.return_, 1) := by decide +kernel
theorem dX12_plainSize_0 : decode cX12_plainSize 0 = .ok (.aload_n 0, 1) := by decide +kernel
theorem dX12_plainSize_1 : decode cX12_plainSize 1 = .ok (.bipush 10, 2) := by decide +kernel
theorem dX12_plainSize_3 : decode cX12_plainSize 3 = .ok (.invokevirtual 253, 3) := by decide +kernel
theorem dX12_plainSize_6 : decode cX12_plainSize 6 = .ok (.aload_n 0, 1) := by decide +kernel
theorem dX12_plainSize_7 : decode cX12_plainSize 7 = .ok (.iload_n 1, 1) := by decide +kernel
theorem dX12_plainSize_8 : decode cX12_plainSize 8 = .ok (.invokevirtual 220, 3) := by decide +kernel
theorem dX12_plainSize_11 : decode cX12_plainSize 11 = .ok (.ireturn, 1) := by decide +kernel
theorem dX12_gossipSize_0 : decode cX12_gossipSize 0 = .ok (.aload_n 0, 1) := by decide +kernel
theorem dX12_gossipSize_1 : decode cX12_gossipSize 1 = .ok (.iload_n 1, 1) := by decide +kernel
theorem dX12_gossipSize_2 : decode cX12_gossipSize 2 = .ok (.invokevirtual 155, 3) := by decide +kernel
theorem dX12_gossipSize_5 : decode cX12_gossipSize 5 = .ok (.iconst 5, 1) := by decide +kernel
theorem dX12_gossipSize_6 : decode cX12_gossipSize 6 = .ok (.if_icmp .ne 9, 3) := by decide +kernel
theorem dX12_gossipSize_9 : decode cX12_gossipSize 9 = .ok (.aload_n 0, 1) := by decide +kernel
theorem dX12_gossipSize_10 : decode cX12_gossipSize 10 = .ok (.bipush 14, 2) := by decide +kernel
theorem dX12_gossipSize_12 : decode cX12_gossipSize 12 = .ok (.invokevirtual 253, 3) := by decide +kernel
theorem dX12_gossipSize_15 : decode cX12_gossipSize 15 = .ok (.aload_n 0, 1) := by decide +kernel
theorem dX12_gossipSize_16 : decode cX12_gossipSize 16 = .ok (.bipush 13, 2) := by decide +kernel
theorem dX12_gossipSize_18 : decode cX12_gossipSize 18 = .ok (.invokevirtual 253, 3) := by decide +kernel
theorem dX12_gossipSize_21 : decode cX12_gossipSize 21 = .ok (.aload_n 0, 1) := by decide +kernel
theorem dX12_gossipSize_22 : decode cX12_gossipSize 22 = .ok (.iload_n 1, 1) := by decide +kernel
theorem dX12_gossipSize_23 : decode cX12_gossipSize 23 = .ok (.invokevirtual 256, 3) := by decide +kernel
theorem dX12_gossipSize_26 : decode cX12_gossipSize 26 = .ok (.bipush 100, 2) := by decide +kernel
theorem dX12_gossipSize_28 : decode cX12_gossipSize 28 = .ok (.isub, 1) := by decide +kernel
theorem dX12_gossipSize_29 : decode cX12_gossipSize 29 = .ok (.istore_n 2, 1) := by decide +kernel
theorem dX12_gossipSize_30 : decode cX12_gossipSize 30 = .ok (.aload_n 0, 1) := by decide +kernel
theorem dX12_gossipSize_31 : decode cX12_gossipSize 31 = .ok (.iload_n 1, 1) := by decide +kernel
theorem dX12_gossipSize_32 : decode cX12_gossipSize 32 = .ok (.invokevirtual 155, 3) := by decide +kernel
theorem dX12_gossipSize_35 : decode cX12_gossipSize 35 = .ok (.iconst 5, 1) := by decide +kernel
theorem dX12_gossipSize_36 : decode cX12_gossipSize 36 = .ok (.if_icmp .ne 9, 3) := by decide +kernel
theorem dX12_gossipSize_39 : decode cX12_gossipSize 39 = .ok (.iconst 2, 1) := by decide +kernel
theorem dX12_gossipSize_40 : decode cX12_gossipSize 40 = .ok (.iload_n 2, 1) := by decide +kernel
theorem dX12_gossipSize_41 : decode cX12_gossipSize 41 = .ok (.imul, 1) := by decide +kernel
theorem dX12_gossipSize_42 : decode cX12_gossipSize 42 = .ok (.goto 4, 3) := by decide +kernel
theorem dX12_gossipSize_45 : decode cX12_gossipSize 45 = .ok (.iload_n 2, 1) := by decide +kernel
theorem dX12_gossipSize_46 : decode cX12_gossipSize 46 = .ok (.ireturn, 1) := by decide +kernel
theorem dX12_markOf_0 : decode cX12_markOf 0 = .ok (.aload_n 0, 1) := by decide +kernel
theorem dX12_markOf_1 : decode cX12_markOf 1 = .ok (.iload_n 1, 1) := by decide +kernel
theorem dX12_markOf_2 : decode cX12_markOf 2 = .ok (.invokevirtual 155, 3) := by decide +kernel
theorem dX12_markOf_5 : decode cX12_markOf 5 = .ok (.istore_n 2, 1) := by decide +kernel
theorem dX12_markOf_6 : decode cX12_markOf 6 = .ok (.iload_n 2, 1) := by decide +kernel
theorem dX12_markOf_7 : decode cX12_markOf 7 = .ok (.iconst 4, 1) := by decide +kernel
theorem dX12_markOf_8 : decode cX12_markOf 8 = .ok (.if_icmp .lt 23, 3) := by decide +kernel
theorem dX12_markOf_11 : decode cX12_markOf 11 = .ok (.aload_n 0, 1) := by decide +kernel
theorem dX12_markOf_12 : decode cX12_markOf 12 = .ok (.bipush 23, 2) := by decide +kernel
theorem dX12_markOf_14 : decode cX12_markOf 14 = .ok (.invokevirtual 253, 3) := by decide +kernel
theorem dX12_markOf_17 : decode cX12_markOf 17 = .ok (.aload_n 0, 1) := by decide +kernel
theorem dX12_markOf_18 : decode cX12_markOf 18 = .ok (.bipush 20, 2) := by decide +kernel
theorem dX12_markOf_20 : decode cX12_markOf 20 = .ok (.invokevirtual 253, 3) := by decide +kernel
theorem dX12_markOf_23 : decode cX12_markOf 23 = .ok (.iload_n 1, 1) := by decide +kernel
theorem dX12_markOf_24 : decode cX12_markOf 24 = .ok (.aload_n 0, 1) := by decide +kernel
theorem dX12_markOf_25 : decode cX12_markOf 25 = .ok (.iload_n 1, 1) := by decide +kernel
theorem dX12_markOf_26 : decode cX12_markOf 26 = .ok (.invokevirtual 259, 3) := by decide +kernel
theorem dX12_markOf_29 : decode cX12_markOf 29 = .ok (.isub, 1) := by decide +kernel
theorem dX12_markOf_30 : decode cX12_markOf 30 = .ok (.ireturn, 1) := by decide +kernel
theorem dX12_markOf_31 : decode cX12_markOf 31 = .ok (.iload_n 2, 1) := by decide +kernel
theorem dX12_markOf_32 : decode cX12_markOf 32 = .ok (.iconst 1, 1) := by decide +kernel
theorem dX12_markOf_33 : decode cX12_markOf 33 = .ok (.if_icmp .eq 19, 3) := by decide +kernel
theorem dX12_markOf_36 : decode cX12_markOf 36 = .ok (.aload_n 0, 1) := by decide +kernel
theorem dX12_markOf_37 : decode cX12_markOf 37 = .ok (.iload_n 2, 1) := by decide +kernel
theorem dX12_markOf_38 : decode cX12_markOf 38 = .ok (.iconst 3, 1) := by decide +kernel
theorem dX12_markOf_39 : decode cX12_markOf 39 = .ok (.if_icmp .ne 8, 3) := by decide +kernel
theorem dX12_markOf_42 : decode cX12_markOf 42 = .ok (.bipush 22, 2) := by decide +kernel
theorem dX12_markOf_44 : decode cX12_markOf 44 = .ok (.goto 5, 3) := by decide +kernel
theorem dX12_markOf_47 : decode cX12_markOf 47 = .ok (.bipush 24, 2) := by decide +kernel
theorem dX12_markOf_49 : decode cX12_markOf 49 = .ok (.invokevirtual 253, 3) := by decide +kernel
theorem dX12_markOf_52 : decode cX12_markOf 52 = .ok (.aload_n 0, 1) := by decide +kernel
theorem dX12_markOf_53 : decode cX12_markOf 53 = .ok (.bipush 21, 2) := by decide +kernel
theorem dX12_markOf_55 : decode cX12_markOf 55 = .ok (.invokevirtual 253, 3) := by decide +kernel
theorem dX12_markOf_58 : decode cX12_markOf 58 = .ok (.aload_n 0, 1) := by decide +kernel
theorem dX12_markOf_59 : decode cX12_markOf 59 = .ok (.bipush 20, 2) := by decide +kernel
theorem dX12_markOf_61 : decode cX12_markOf 61 = .ok (.invokevirtual 253, 3) := by decide +kernel
theorem dX12_markOf_64 : decode cX12_markOf 64 = .ok (.iload_n 1, 1) := by decide +kernel
theorem dX12_markOf_65 : decode cX12_markOf 65 = .ok (.istore_n 3, 1) := by decide +kernel
theorem dX12_markOf_66 : decode cX12_markOf 66 = .ok (.iconst 0, 1) := by decide +kernel
theorem dX12_markOf_67 : decode cX12_markOf 67 = .ok (.istore 4, 2) := by decide +kernel
theorem dX12_markOf_69 : decode cX12_markOf 69 = .ok (.iload 4, 2) := by decide +kernel
theorem dX12_markOf_71 : decode cX12_markOf 71 = .ok (.aload_n 0, 1) := by decide +kernel
theorem dX12_markOf_72 : decode cX12_markOf 72 = .ok (.getfield 19, 3) := by decide +kernel
theorem dX12_markOf_75 : decode cX12_markOf 75 = .ok (.iconst 4, 1) := by decide +kernel
theorem dX12_markOf_76 : decode cX12_markOf 76 = .ok (.iaload, 1) := by decide +kernel
theorem dX12_markOf_77 : decode cX12_markOf 77 = .ok (.if_icmp .ge 38, 3) := by decide +kernel
theorem dX12_markOf_80 : decode cX12_markOf 80 = .ok (.iload_n 3, 1) := by decide +kernel
theorem dX12_markOf_81 : decode cX12_markOf 81 = .ok (.aload_n 0, 1) := by decide +kernel
theorem dX12_markOf_82 : decode cX12_markOf 82 = .ok (.iload 4, 2) := by decide +kernel
theorem dX12_markOf_84 : decode cX12_markOf 84 = .ok (.iconst 0, 1) := by decide +kernel
theorem dX12_markOf_85 : decode cX12_markOf 85 = .ok (.invokevirtual 197, 3) := by decide +kernel
theorem dX12_markOf_88 : decode cX12_markOf 88 = .ok (.ifCond .ne 18, 3) := by decide +kernel
theorem dX12_markOf_91 : decode cX12_markOf 91 = .ok (.aload_n 0, 1) := by decide +kernel
theorem dX12_markOf_92 : decode cX12_markOf 92 = .ok (.iload 4, 2) := by decide +kernel
theorem dX12_markOf_94 : decode cX12_markOf 94 = .ok (.iconst 1, 1) := by decide +kernel
theorem dX12_markOf_95 : decode cX12_markOf 95 = .ok (.invokevirtual 197, 3) := by decide +kernel
theorem dX12_markOf_98 : decode cX12_markOf 98 = .ok (.iload_n 1, 1) := by decide +kernel
theorem dX12_markOf_99 : decode cX12_markOf 99 = .ok (.if_icmp .ne 7, 3) := by decide +kernel
theorem dX12_markOf_102 : decode cX12_markOf 102 = .ok (.iconst 1, 1) := by decide +kernel
theorem dX12_markOf_103 : decode cX12_markOf 103 = .ok (.goto 4, 3) := by decide +kernel
theorem dX12_markOf_106 : decode cX12_markOf 106 = .ok (.iconst 0, 1) := by decide +kernel
theorem dX12_markOf_107 : decode cX12_markOf 107 = .ok (.iadd, 1) := by decide +kernel
theorem dX12_markOf_108 : decode cX12_markOf 108 = .ok (.istore_n 3, 1) := by decide +kernel
theorem dX12_markOf_109 : decode cX12_markOf 109 = .ok (.iinc 4 1, 3) := by decide +kernel
theorem dX12_markOf_112 : decode cX12_markOf 112 = .ok (.goto (-43), 3) := by decide +kernel
theorem dX12_markOf_115 : decode cX12_markOf 115 = .ok (.iload_n 2, 1) := by decide +kernel
theorem dX12_markOf_116 : decode cX12_markOf 116 = .ok (.iconst 1, 1) := by decide +kernel
theorem dX12_markOf_117 : decode cX12_markOf 117 = .ok (.if_icmp .ne 7, 3) := by decide +kernel
theorem dX12_markOf_120 : decode cX12_markOf 120 = .ok (.iload_n 3, 1) := by decide +kernel
theorem dX12_markOf_121 : decode cX12_markOf 121 = .ok (.goto 19, 3) := by decide +kernel
theorem dX12_markOf_124 : decode cX12_markOf 124 = .ok (.iload_n 2, 1) := by decide +kernel
theorem dX12_markOf_125 : decode cX12_markOf 125 = .ok (.iconst 3, 1) := by decide +kernel
theorem dX12_markOf_126 : decode cX12_markOf 126 = .ok (.if_icmp .ne 11, 3) := by decide +kernel
theorem dX12_markOf_129 : decode cX12_markOf 129 = .ok (.iload_n 3, 1) := by decide +kernel
theorem dX12_markOf_130 : decode cX12_markOf 130 = .ok (.sipush 1000, 3) := by decide +kernel
theorem dX12_markOf_133 : decode cX12_markOf 133 = .ok (.isub, 1) := by decide +kernel
theorem dX12_markOf_134 : decode cX12_markOf 134 = .ok (.goto 6, 3) := by decide +kernel
theorem dX12_markOf_137 : decode cX12_markOf 137 = .ok (.iconst 2, 1) := by decide +kernel
theorem dX12_markOf_138 : decode cX12_markOf 138 = .ok (.iload_n 3, 1) := by decide +kernel
theorem dX12_markOf_139 : decode cX12_markOf 139 = .ok (.imul, 1) := by decide +kernel
theorem dX12_markOf_140 : decode cX12_markOf 140 = .ok (.ireturn, 1) := by decide +kernel
theorem dX12_sizeOf_0 : decode cX12_sizeOf 0 = .ok (.aload_n 0, 1) := by decide +kernel
theorem dX12_sizeOf_1 : decode cX12_sizeOf 1 = .ok (.iload_n 1, 1) := by decide +kernel
theorem dX12_sizeOf_2 : decode cX12_sizeOf 2 = .ok (.invokevirtual 155, 3) := by decide +kernel
theorem dX12_sizeOf_5 : decode cX12_sizeOf 5 = .ok (.istore_n 2, 1) := by decide +kernel
theorem dX12_sizeOf_6 : decode cX12_sizeOf 6 = .ok (.iload_n 2, 1) := by decide +kernel
theorem dX12_sizeOf_7 : decode cX12_sizeOf 7 = .ok (.iconst 4, 1) := by decide +kernel
theorem dX12_sizeOf_8 : decode cX12_sizeOf 8 = .ok (.if_icmp .lt 9, 3) := by decide +kernel
theorem dX12_sizeOf_11 : decode cX12_sizeOf 11 = .ok (.aload_n 0, 1) := by decide +kernel
theorem dX12_sizeOf_12 : decode cX12_sizeOf 12 = .ok (.iload_n 1, 1) := by decide +kernel
theorem dX12_sizeOf_13 : decode cX12_sizeOf 13 = .ok (.invokevirtual 259, 3) := by decide +kernel
theorem dX12_sizeOf_16 : decode cX12_sizeOf 16 = .ok (.ireturn, 1) := by decide +kernel
theorem dX12_sizeOf_17 : decode cX12_sizeOf 17 = .ok (.iload_n 2, 1) := by decide +kernel
theorem dX12_sizeOf_18 : decode cX12_sizeOf 18 = .ok (.iconst 2, 1) := by decide +kernel
theorem dX12_sizeOf_19 : decode cX12_sizeOf 19 = .ok (.if_icmp .ne 9, 3) := by decide +kernel
theorem dX12_sizeOf_22 : decode cX12_sizeOf 22 = .ok (.aload_n 0, 1) := by decide +kernel
theorem dX12_sizeOf_23 : decode cX12_sizeOf 23 = .ok (.bipush 12, 2) := by decide +kernel
theorem dX12_sizeOf_25 : decode cX12_sizeOf 25 = .ok (.invokevirtual 253, 3) := by decide +kernel
theorem dX12_sizeOf_28 : decode cX12_sizeOf 28 = .ok (.aload_n 0, 1) := by decide +kernel
theorem dX12_sizeOf_29 : decode cX12_sizeOf 29 = .ok (.bipush 11, 2) := by decide +kernel
theorem dX12_sizeOf_31 : decode cX12_sizeOf 31 = .ok (.invokevirtual 253, 3) := by decide +kernel
theorem dX12_sizeOf_34 : decode cX12_sizeOf 34 = .ok (.aload_n 0, 1) := by decide +kernel
theorem dX12_sizeOf_35 : decode cX12_sizeOf 35 = .ok (.iload_n 1, 1) := by decide +kernel
theorem dX12_sizeOf_36 : decode cX12_sizeOf 36 = .ok (.invokevirtual 256, 3) := by decide +kernel
theorem dX12_sizeOf_39 : decode cX12_sizeOf 39 = .ok (.istore_n 3, 1) := by decide +kernel
theorem dX12_sizeOf_40 : decode cX12_sizeOf 40 = .ok (.iload_n 3, 1) := by decide +kernel
theorem dX12_sizeOf_41 : decode cX12_sizeOf 41 = .ok (.aload_n 0, 1) := by decide +kernel
theorem dX12_sizeOf_42 : decode cX12_sizeOf 42 = .ok (.iload_n 1, 1) := by decide +kernel
theorem dX12_sizeOf_43 : decode cX12_sizeOf 43 = .ok (.invokevirtual 262, 3) := by decide +kernel
theorem dX12_sizeOf_46 : decode cX12_sizeOf 46 = .ok (.iadd, 1) := by decide +kernel
theorem dX12_sizeOf_47 : decode cX12_sizeOf 47 = .ok (.istore_n 3, 1) := by decide +kernel
theorem dX12_sizeOf_48 : decode cX12_sizeOf 48 = .ok (.iload_n 2, 1) := by decide +kernel
theorem dX12_sizeOf_49 : decode cX12_sizeOf 49 = .ok (.iconst 2, 1) := by decide +kernel
theorem dX12_sizeOf_50 : decode cX12_sizeOf 50 = .ok (.if_icmp .ne 8, 3) := by decide +kernel
theorem dX12_sizeOf_53 : decode cX12_sizeOf 53 = .ok (.iload_n 3, 1) := by decide +kernel
theorem dX12_sizeOf_54 : decode cX12_sizeOf 54 = .ok (.ineg, 1) := by decide +kernel
theorem dX12_sizeOf_55 : decode cX12_sizeOf 55 = .ok (.goto 4, 3) := by decide +kernel
theorem dX12_sizeOf_58 : decode cX12_sizeOf 58 = .ok (.iload_n 3, 1) := by decide +kernel
theorem dX12_sizeOf_59 : decode cX12_sizeOf 59 = .ok (.ireturn, 1) := by decide +kernel
theorem dX12_ask_0 : decode cX12_ask 0 = .ok (.aload_n 0, 1) := by decide +kernel
theorem dX12_ask_1 : decode cX12_ask 1 = .ok (.iconst 0, 1) := by decide +kernel
theorem dX12_ask_2 : decode cX12_ask 2 = .ok (.putfield 53, 3) := by decide +kernel
theorem dX12_ask_5 : decode cX12_ask 5 = .ok (.aload_n 0, 1) := by decide +kernel
theorem dX12_ask_6 : decode cX12_ask 6 = .ok (.iload_n 1, 1) := by decide +kernel
theorem dX12_ask_7 : decode cX12_ask 7 = .ok (.invokevirtual 158, 3) := by decide +kernel
theorem dX12_ask_10 : decode cX12_ask 10 = .ok (.ifCond .eq 13, 3) := by decide +kernel
theorem dX12_ask_13 : decode cX12_ask 13 = .ok (.iload_n 2, 1) := by decide +kernel
theorem dX12_ask_14 : decode cX12_ask 14 = .ok (.i2l, 1) := by decide +kernel
theorem dX12_ask_15 : decode cX12_ask 15 = .ok (.lconst 0, 1) := by decide +kernel
theorem dX12_ask_16 : decode cX12_ask 16 = .ok (.lconst 1, 1) := by decide +kernel
theorem dX12_ask_17 : decode cX12_ask 17 = .ok (.invokestatic 63, 3) := by decide +kernel
theorem dX12_ask_20 : decode cX12_ask 20 = .ok (.ifCond .ne 6, 3) := by decide +kernel
theorem dX12_ask_23 : decode cX12_ask 23 = .ok (.ldc 73, 2) := by decide +kernel
theorem dX12_ask_25 : decode cX12_ask 25 = .ok (.ireturn, 1) := by decide +kernel
theorem dX12_ask_26 : decode cX12_ask 26 = .ok (.aload_n 0, 1) := by decide +kernel
theorem dX12_ask_27 : decode cX12_ask 27 = .ok (.iconst 0, 1) := by decide +kernel
theorem dX12_ask_28 : decode cX12_ask 28 = .ok (.putfield 250, 3) := by decide +kernel
theorem dX12_ask_31 : decode cX12_ask 31 = .ok (.iload_n 2, 1) := by decide +kernel
theorem dX12_ask_32 : decode cX12_ask 32 = .ok (.ifCond .ne 11, 3) := by decide +kernel
theorem dX12_ask_35 : decode cX12_ask 35 = .ok (.aload_n 0, 1) := by decide +kernel
theorem dX12_ask_36 : decode cX12_ask 36 = .ok (.iload_n 1, 1) := by decide +kernel
theorem dX12_ask_37 : decode cX12_ask 37 = .ok (.invokevirtual 265, 3) := by decide +kernel
theorem dX12_ask_40 : decode cX12_ask 40 = .ok (.goto 8, 3) := by decide +kernel
theorem dX12_ask_43 : decode cX12_ask 43 = .ok (.aload_n 0, 1) := by decide +kernel
theorem dX12_ask_44 : decode cX12_ask 44 = .ok (.iload_n 1, 1) := by decide +kernel
theorem dX12_ask_45 : decode cX12_ask 45 = .ok (.invokevirtual 262, 3) := by decide +kernel
theorem dX12_ask_48 : decode cX12_ask 48 = .ok (.ireturn, 1) := by decide +kernel
theorem dX12_trace_0 : decode cX12_trace 0 = .ok (.aload_n 0, 1) := by decide +kernel
theorem dX12_trace_1 : decode cX12_trace 1 = .ok (.iconst 0, 1) := by decide +kernel
theorem dX12_trace_2 : decode cX12_trace 2 = .ok (.putfield 53, 3) := by decide +kernel
theorem dX12_trace_5 : decode cX12_trace 5 = .ok (.iload_n 1, 1) := by decide +kernel
theorem dX12_trace_6 : decode cX12_trace 6 = .ok (.i2l, 1) := by decide +kernel
theorem dX12_trace_7 : decode cX12_trace 7 = .ok (.lconst 0, 1) := by decide +kernel
theorem dX12_trace_8 : decode cX12_trace 8 = .ok (.aload_n 0, 1) := by decide +kernel
theorem dX12_trace_9 : decode cX12_trace 9 = .ok (.getfield 250, 3) := by decide +kernel
theorem dX12_trace_12 : decode cX12_trace 12 = .ok (.iconst 1, 1) := by decide +kernel
theorem dX12_trace_13 : decode cX12_trace 13 = .ok (.isub, 1) := by decide +kernel
theorem dX12_trace_14 : decode cX12_trace 14 = .ok (.i2l, 1) := by decide +kernel
theorem dX12_trace_15 : decode cX12_trace 15 = .ok (.invokestatic 63, 3) := by decide +kernel
theorem dX12_trace_18 : decode cX12_trace 18 = .ok (.ifCond .eq 12, 3) := by decide +kernel
theorem dX12_trace_21 : decode cX12_trace 21 = .ok (.aload_n 0, 1) := by decide +kernel
theorem dX12_trace_22 : decode cX12_trace 22 = .ok (.getfield 50, 3) := by decide +kernel
theorem dX12_trace_25 : decode cX12_trace 25 = .ok (.iload_n 1, 1) := by decide +kernel
theorem dX12_trace_26 : decode cX12_trace 26 = .ok (.iaload, 1) := by decide +kernel
theorem dX12_trace_27 : decode cX12_trace 27 = .ok (.goto 5, 3) := by decide +kernel
theorem dX12_trace_30 : decode cX12_trace 30 = .ok (.ldc 96, 2) := by decide +kernel
theorem dX12_trace_32 : decode cX12_trace 32 = .ok (.ireturn, 1) := by decide +kernel
theorem dX12_count_0 : decode cX12_count 0 = .ok (.aload_n 0, 1) := by decide +kernel
theorem dX12_count_1 : decode cX12_count 1 = .ok (.iconst 0, 1) := by decide +kernel
theorem dX12_count_2 : decode cX12_count 2 = .ok (.putfield 53, 3) := by decide +kernel
theorem dX12_count_5 : decode cX12_count 5 = .ok (.iconst 0, 1) := by decide +kernel
theorem dX12_count_6 : decode cX12_count 6 = .ok (.istore_n 2, 1) := by decide +kernel
theorem dX12_count_7 : decode cX12_count 7 = .ok (.iload_n 1, 1) := by decide +kernel
theorem dX12_count_8 : decode cX12_count 8 = .ok (.tableswitch 146 0 6 #[44, 77, 84, 91, 98, 136, 141], 44) := by decide +kernel
theorem dX12_count_52 : decode cX12_count 52 = .ok (.iconst 0, 1) := by decide +kernel
theorem dX12_count_53 : decode cX12_count 53 = .ok (.istore_n 3, 1) := by decide +kernel
theorem dX12_count_54 : decode cX12_count 54 = .ok (.iload_n 3, 1) := by decide +kernel
theorem dX12_count_55 : decode cX12_count 55 = .ok (.bipush 8, 2) := by decide +kernel
theorem dX12_count_57 : decode cX12_count 57 = .ok (.if_icmp .ge 26, 3) := by decide +kernel
theorem dX12_count_60 : decode cX12_count 60 = .ok (.iload_n 2, 1) := by decide +kernel
theorem dX12_count_61 : decode cX12_count 61 = .ok (.aload_n 0, 1) := by decide +kernel
theorem dX12_count_62 : decode cX12_count 62 = .ok (.getfield 7, 3) := by decide +kernel
theorem dX12_count_65 : decode cX12_count 65 = .ok (.iload_n 3, 1) := by decide +kernel
theorem dX12_count_66 : decode cX12_count 66 = .ok (.iaload, 1) := by decide +kernel
theorem dX12_count_67 : decode cX12_count 67 = .ok (.ifCond .lt 7, 3) := by decide +kernel
theorem dX12_count_70 : decode cX12_count 70 = .ok (.iconst 1, 1) := by decide +kernel
theorem dX12_count_71 : decode cX12_count 71 = .ok (.goto 4, 3) := by decide +kernel
theorem dX12_count_74 : decode cX12_count 74 = .ok (.iconst 0, 1) := by decide +kernel
theorem dX12_count_75 : decode cX12_count 75 = .ok (.iadd, 1) := by decide +kernel
theorem dX12_count_76 : decode cX12_count 76 = .ok (.istore_n 2, 1) := by decide +kernel
theorem dX12_count_77 : decode cX12_count 77 = .ok (.iinc 3 1, 3) := by decide +kernel
theorem dX12_count_80 : decode cX12_count 80 = .ok (.goto (-26), 3) := by decide +kernel
theorem dX12_count_83 : decode cX12_count 83 = .ok (.iload_n 2, 1) := by decide +kernel
theorem dX12_count_84 : decode cX12_count 84 = .ok (.ireturn, 1) := by decide +kernel
theorem dX12_count_85 : decode cX12_count 85 = .ok (.aload_n 0, 1) := by decide +kernel
theorem dX12_count_86 : decode cX12_count 86 = .ok (.getfield 19, 3) := by decide +kernel
theorem dX12_count_89 : decode cX12_count 89 = .ok (.iconst 2, 1) := by decide +kernel
theorem dX12_count_90 : decode cX12_count 90 = .ok (.iaload, 1) := by decide +kernel
theorem dX12_count_91 : decode cX12_count 91 = .ok (.ireturn, 1) := by decide +kernel
theorem dX12_count_92 : decode cX12_count 92 = .ok (.aload_n 0, 1) := by decide +kernel
theorem dX12_count_93 : decode cX12_count 93 = .ok (.getfield 19, 3) := by decide +kernel
theorem dX12_count_96 : decode cX12_count 96 = .ok (.iconst 3, 1) := by decide +kernel
theorem dX12_count_97 : decode cX12_count 97 = .ok (.iaload, 1) := by decide +kernel
theorem dX12_count_98 : decode cX12_count 98 = .ok (.ireturn, 1) := by decide +kernel
theorem dX12_count_99 : decode cX12_count 99 = .ok (.aload_n 0, 1) := by decide +kernel
theorem dX12_count_100 : decode cX12_count 100 = .ok (.getfield 19, 3) := by decide +kernel
theorem dX12_count_103 : decode cX12_count 103 = .ok (.iconst 4, 1) := by decide +kernel
theorem dX12_count_104 : decode cX12_count 104 = .ok (.iaload, 1) := by decide +kernel
theorem dX12_count_105 : decode cX12_count 105 = .ok (.ireturn, 1) := by decide +kernel
theorem dX12_count_106 : decode cX12_count 106 = .ok (.iconst 0, 1) := by decide +kernel
theorem dX12_count_107 : decode cX12_count 107 = .ok (.istore_n 3, 1) := by decide +kernel
theorem dX12_count_108 : decode cX12_count 108 = .ok (.iload_n 3, 1) := by decide +kernel
theorem dX12_count_109 : decode cX12_count 109 = .ok (.aload_n 0, 1) := by decide +kernel
theorem dX12_count_110 : decode cX12_count 110 = .ok (.getfield 19, 3) := by decide +kernel
theorem dX12_count_113 : decode cX12_count 113 = .ok (.iconst 4, 1) := by decide +kernel
theorem dX12_count_114 : decode cX12_count 114 = .ok (.iaload, 1) := by decide +kernel
theorem dX12_count_115 : decode cX12_count 115 = .ok (.if_icmp .ge 27, 3) := by decide +kernel
theorem dX12_count_118 : decode cX12_count 118 = .ok (.iload_n 2, 1) := by decide +kernel
theorem dX12_count_119 : decode cX12_count 119 = .ok (.aload_n 0, 1) := by decide +kernel
theorem dX12_count_120 : decode cX12_count 120 = .ok (.iload_n 3, 1) := by decide +kernel
theorem dX12_count_121 : decode cX12_count 121 = .ok (.iconst 0, 1) := by decide +kernel
theorem dX12_count_122 : decode cX12_count 122 = .ok (.invokevirtual 197, 3) := by decide +kernel
theorem dX12_count_125 : decode cX12_count 125 = .ok (.iconst 1, 1) := by decide +kernel
theorem dX12_count_126 : decode cX12_count 126 = .ok (.if_icmp .ne 7, 3) := by decide +kernel
theorem dX12_count_129 : decode cX12_count 129 = .ok (.iconst 1, 1) := by decide +kernel
theorem dX12_count_130 : decode cX12_count 130 = .ok (.goto 4, 3) := by decide +kernel
theorem dX12_count_133 : decode cX12_count 133 = .ok (.iconst 0, 1) := by decide +kernel
theorem dX12_count_134 : decode cX12_count 134 = .ok (.iadd, 1) := by decide +kernel
theorem dX12_count_135 : decode cX12_count 135 = .ok (.istore_n 2, 1) := by decide +kernel
theorem dX12_count_136 : decode cX12_count 136 = .ok (.iinc 3 1, 3) := by decide +kernel
theorem dX12_count_139 : decode cX12_count 139 = .ok (.goto (-31), 3) := by decide +kernel
theorem dX12_count_142 : decode cX12_count 142 = .ok (.iload_n 2, 1) := by decide +kernel
theorem dX12_count_143 : decode cX12_count 143 = .ok (.ireturn, 1) := by decide +kernel
theorem dX12_count_144 : decode cX12_count 144 = .ok (.aload_n 0, 1) := by decide +kernel
theorem dX12_count_145 : decode cX12_count 145 = .ok (.getfield 152, 3) := by decide +kernel
theorem dX12_count_148 : decode cX12_count 148 = .ok (.ireturn, 1) := by decide +kernel
theorem dX12_count_149 : decode cX12_count 149 = .ok (.aload_n 0, 1) := by decide +kernel
theorem dX12_count_150 : decode cX12_count 150 = .ok (.getfield 80, 3) := by decide +kernel
theorem dX12_count_153 : decode cX12_count 153 = .ok (.ireturn, 1) := by decide +kernel
theorem dX12_count_154 : decode cX12_count 154 = .ok (.ldc 73, 2) := by decide +kernel
theorem dX12_count_156 : decode cX12_count 156 = .ok (.ireturn, 1) := by decide +kernel
theorem dX12_status_0 : decode cX12_status 0 = .ok (.aload_n 0, 1) := by decide +kernel
theorem dX12_status_1 : decode cX12_status 1 = .ok (.iconst 0, 1) := by decide +kernel
theorem dX12_status_2 : decode cX12_status 2 = .ok (.putfield 53, 3) := by decide +kernel
theorem dX12_status_5 : decode cX12_status 5 = .ok (.aload_n 0, 1) := by decide +kernel
theorem dX12_status_6 : decode cX12_status 6 = .ok (.getfield 57, 3) := by decide +kernel
theorem dX12_status_9 : decode cX12_status 9 = .ok (.ireturn, 1) := by decide +kernel
end
section
theorem dL_law_0 : decode cL_law 0 = .ok (.new 7, 3) := by decide +kernel
theorem dL_law_3 : decode cL_law 3 = .ok (.dup, 1) := by decide +kernel
theorem dL_law_4 : decode cL_law 4 = .ok (.invokespecial 9, 3) := by decide +kernel
theorem dL_law_7 : decode cL_law 7 = .ok (.astore_n 1, 1) := by decide +kernel
theorem dL_law_8 : decode cL_law 8 = .ok (.new 10, 3) := by decide +kernel
theorem dL_law_11 : decode cL_law 11 = .ok (.dup, 1) := by decide +kernel
theorem dL_law_12 : decode cL_law 12 = .ok (.invokespecial 12, 3) := by decide +kernel
theorem dL_law_15 : decode cL_law 15 = .ok (.astore_n 2, 1) := by decide +kernel
theorem dL_law_16 : decode cL_law 16 = .ok (.iconst 0, 1) := by decide +kernel
theorem dL_law_17 : decode cL_law 17 = .ok (.istore_n 3, 1) := by decide +kernel
theorem dL_law_18 : decode cL_law 18 = .ok (.iload_n 3, 1) := by decide +kernel
theorem dL_law_19 : decode cL_law 19 = .ok (.aload_n 0, 1) := by decide +kernel
theorem dL_law_20 : decode cL_law 20 = .ok (.arraylength, 1) := by decide +kernel
theorem dL_law_21 : decode cL_law 21 = .ok (.bipush 6, 2) := by decide +kernel
theorem dL_law_23 : decode cL_law 23 = .ok (.isub, 1) := by decide +kernel
theorem dL_law_24 : decode cL_law 24 = .ok (.if_icmp .gt 1288, 3) := by decide +kernel
theorem dL_law_27 : decode cL_law 27 = .ok (.aload_n 0, 1) := by decide +kernel
theorem dL_law_28 : decode cL_law 28 = .ok (.iload_n 3, 1) := by decide +kernel
theorem dL_law_29 : decode cL_law 29 = .ok (.iaload, 1) := by decide +kernel
theorem dL_law_30 : decode cL_law 30 = .ok (.bipush 63, 2) := by decide +kernel
theorem dL_law_32 : decode cL_law 32 = .ok (.iand, 1) := by decide +kernel
theorem dL_law_33 : decode cL_law 33 = .ok (.tableswitch 1273 0 33 #[151, 194, 237, 300, 323, 346, 359, 372, 385, 438, 451, 484, 497, 540, 573, 606, 649, 702, 765, 798, 841, 884, 917, 970, 1013, 1056, 1079, 1102, 1125, 1148, 1181, 1214, 1237, 1260], 151) := by decide +kernel
theorem dL_law_184 : decode cL_law 184 = .ok (.aload_n 1, 1) := by decide +kernel
theorem dL_law_185 : decode cL_law 185 = .ok (.aload_n 0, 1) := by decide +kernel
theorem dL_law_186 : decode cL_law 186 = .ok (.iload_n 3, 1) := by decide +kernel
theorem dL_law_187 : decode cL_law 187 = .ok (.iconst 1, 1) := by decide +kernel
theorem dL_law_188 : decode cL_law 188 = .ok (.iadd, 1) := by decide +kernel
theorem dL_law_189 : decode cL_law 189 = .ok (.iaload, 1) := by decide +kernel
theorem dL_law_190 : decode cL_law 190 = .ok (.aload_n 0, 1) := by decide +kernel
theorem dL_law_191 : decode cL_law 191 = .ok (.iload_n 3, 1) := by decide +kernel
theorem dL_law_192 : decode cL_law 192 = .ok (.iconst 2, 1) := by decide +kernel
theorem dL_law_193 : decode cL_law 193 = .ok (.iadd, 1) := by decide +kernel
theorem dL_law_194 : decode cL_law 194 = .ok (.iaload, 1) := by decide +kernel
theorem dL_law_195 : decode cL_law 195 = .ok (.aload_n 0, 1) := by decide +kernel
theorem dL_law_196 : decode cL_law 196 = .ok (.iload_n 3, 1) := by decide +kernel
theorem dL_law_197 : decode cL_law 197 = .ok (.iconst 3, 1) := by decide +kernel
theorem dL_law_198 : decode cL_law 198 = .ok (.iadd, 1) := by decide +kernel
theorem dL_law_199 : decode cL_law 199 = .ok (.iaload, 1) := by decide +kernel
theorem dL_law_200 : decode cL_law 200 = .ok (.invokevirtual 13, 3) := by decide +kernel
theorem dL_law_203 : decode cL_law 203 = .ok (.aload_n 2, 1) := by decide +kernel
theorem dL_law_204 : decode cL_law 204 = .ok (.aload_n 0, 1) := by decide +kernel
theorem dL_law_205 : decode cL_law 205 = .ok (.iload_n 3, 1) := by decide +kernel
theorem dL_law_206 : decode cL_law 206 = .ok (.iconst 1, 1) := by decide +kernel
theorem dL_law_207 : decode cL_law 207 = .ok (.iadd, 1) := by decide +kernel
theorem dL_law_208 : decode cL_law 208 = .ok (.iaload, 1) := by decide +kernel
theorem dL_law_209 : decode cL_law 209 = .ok (.aload_n 0, 1) := by decide +kernel
theorem dL_law_210 : decode cL_law 210 = .ok (.iload_n 3, 1) := by decide +kernel
theorem dL_law_211 : decode cL_law 211 = .ok (.iconst 2, 1) := by decide +kernel
theorem dL_law_212 : decode cL_law 212 = .ok (.iadd, 1) := by decide +kernel
theorem dL_law_213 : decode cL_law 213 = .ok (.iaload, 1) := by decide +kernel
theorem dL_law_214 : decode cL_law 214 = .ok (.aload_n 0, 1) := by decide +kernel
theorem dL_law_215 : decode cL_law 215 = .ok (.iload_n 3, 1) := by decide +kernel
theorem dL_law_216 : decode cL_law 216 = .ok (.iconst 3, 1) := by decide +kernel
theorem dL_law_217 : decode cL_law 217 = .ok (.iadd, 1) := by decide +kernel
theorem dL_law_218 : decode cL_law 218 = .ok (.iaload, 1) := by decide +kernel
theorem dL_law_219 : decode cL_law 219 = .ok (.invokevirtual 17, 3) := by decide +kernel
theorem dL_law_222 : decode cL_law 222 = .ok (.if_icmp .eq 1084, 3) := by decide +kernel
theorem dL_law_225 : decode cL_law 225 = .ok (.iconst 0, 1) := by decide +kernel
theorem dL_law_226 : decode cL_law 226 = .ok (.ireturn, 1) := by decide +kernel
theorem dL_law_227 : decode cL_law 227 = .ok (.aload_n 1, 1) := by decide +kernel
theorem dL_law_228 : decode cL_law 228 = .ok (.aload_n 0, 1) := by decide +kernel
theorem dL_law_229 : decode cL_law 229 = .ok (.iload_n 3, 1) := by decide +kernel
theorem dL_law_230 : decode cL_law 230 = .ok (.iconst 1, 1) := by decide +kernel
theorem dL_law_231 : decode cL_law 231 = .ok (.iadd, 1) := by decide +kernel
theorem dL_law_232 : decode cL_law 232 = .ok (.iaload, 1) := by decide +kernel
theorem dL_law_233 : decode cL_law 233 = .ok (.aload_n 0, 1) := by decide +kernel
theorem dL_law_234 : decode cL_law 234 = .ok (.iload_n 3, 1) := by decide +kernel
theorem dL_law_235 : decode cL_law 235 = .ok (.iconst 2, 1) := by decide +kernel
theorem dL_law_236 : decode cL_law 236 = .ok (.iadd, 1) := by decide +kernel
theorem dL_law_237 : decode cL_law 237 = .ok (.iaload, 1) := by decide +kernel
theorem dL_law_238 : decode cL_law 238 = .ok (.aload_n 0, 1) := by decide +kernel
theorem dL_law_239 : decode cL_law 239 = .ok (.iload_n 3, 1) := by decide +kernel
theorem dL_law_240 : decode cL_law 240 = .ok (.iconst 3, 1) := by decide +kernel
theorem dL_law_241 : decode cL_law 241 = .ok (.iadd, 1) := by decide +kernel
theorem dL_law_242 : decode cL_law 242 = .ok (.iaload, 1) := by decide +kernel
theorem dL_law_243 : decode cL_law 243 = .ok (.invokevirtual 18, 3) := by decide +kernel
theorem dL_law_246 : decode cL_law 246 = .ok (.aload_n 2, 1) := by decide +kernel
theorem dL_law_247 : decode cL_law 247 = .ok (.aload_n 0, 1) := by decide +kernel
theorem dL_law_248 : decode cL_law 248 = .ok (.iload_n 3, 1) := by decide +kernel
theorem dL_law_249 : decode cL_law 249 = .ok (.iconst 1, 1) := by decide +kernel
theorem dL_law_250 : decode cL_law 250 = .ok (.iadd, 1) := by decide +kernel
theorem dL_law_251 : decode cL_law 251 = .ok (.iaload, 1) := by decide +kernel
theorem dL_law_252 : decode cL_law 252 = .ok (.aload_n 0, 1) := by decide +kernel
theorem dL_law_253 : decode cL_law 253 = .ok (.iload_n 3, 1) := by decide +kernel
theorem dL_law_254 : decode cL_law 254 = .ok (.iconst 2, 1) := by decide +kernel
theorem dL_law_255 : decode cL_law 255 = .ok (.iadd, 1) := by decide +kernel
theorem dL_law_256 : decode cL_law 256 = .ok (.iaload, 1) := by decide +kernel
theorem dL_law_257 : decode cL_law 257 = .ok (.aload_n 0, 1) := by decide +kernel
theorem dL_law_258 : decode cL_law 258 = .ok (.iload_n 3, 1) := by decide +kernel
theorem dL_law_259 : decode cL_law 259 = .ok (.iconst 3, 1) := by decide +kernel
theorem dL_law_260 : decode cL_law 260 = .ok (.iadd, 1) := by decide +kernel
theorem dL_law_261 : decode cL_law 261 = .ok (.iaload, 1) := by decide +kernel
theorem dL_law_262 : decode cL_law 262 = .ok (.invokevirtual 21, 3) := by decide +kernel
theorem dL_law_265 : decode cL_law 265 = .ok (.if_icmp .eq 1041, 3) := by decide +kernel
theorem dL_law_268 : decode cL_law 268 = .ok (.iconst 0, 1) := by decide +kernel
theorem dL_law_269 : decode cL_law 269 = .ok (.ireturn, 1) := by decide +kernel
theorem dL_law_270 : decode cL_law 270 = .ok (.aload_n 1, 1) := by decide +kernel
theorem dL_law_271 : decode cL_law 271 = .ok (.aload_n 0, 1) := by decide +kernel
theorem dL_law_272 : decode cL_law 272 = .ok (.iload_n 3, 1) := by decide +kernel
theorem dL_law_273 : decode cL_law 273 = .ok (.iconst 1, 1) := by decide +kernel
theorem dL_law_274 : decode cL_law 274 = .ok (.iadd, 1) := by decide +kernel
theorem dL_law_275 : decode cL_law 275 = .ok (.iaload, 1) := by decide +kernel
theorem dL_law_276 : decode cL_law 276 = .ok (.aload_n 0, 1) := by decide +kernel
theorem dL_law_277 : decode cL_law 277 = .ok (.iload_n 3, 1) := by decide +kernel
theorem dL_law_278 : decode cL_law 278 = .ok (.iconst 2, 1) := by decide +kernel
theorem dL_law_279 : decode cL_law 279 = .ok (.iadd, 1) := by decide +kernel
theorem dL_law_280 : decode cL_law 280 = .ok (.iaload, 1) := by decide +kernel
theorem dL_law_281 : decode cL_law 281 = .ok (.aload_n 0, 1) := by decide +kernel
theorem dL_law_282 : decode cL_law 282 = .ok (.iload_n 3, 1) := by decide +kernel
theorem dL_law_283 : decode cL_law 283 = .ok (.iconst 3, 1) := by decide +kernel
theorem dL_law_284 : decode cL_law 284 = .ok (.iadd, 1) := by decide +kernel
theorem dL_law_285 : decode cL_law 285 = .ok (.iaload, 1) := by decide +kernel
theorem dL_law_286 : decode cL_law 286 = .ok (.aload_n 0, 1) := by decide +kernel
theorem dL_law_287 : decode cL_law 287 = .ok (.iload_n 3, 1) := by decide +kernel
theorem dL_law_288 : decode cL_law 288 = .ok (.iconst 4, 1) := by decide +kernel
theorem dL_law_289 : decode cL_law 289 = .ok (.iadd, 1) := by decide +kernel
theorem dL_law_290 : decode cL_law 290 = .ok (.iaload, 1) := by decide +kernel
theorem dL_law_291 : decode cL_law 291 = .ok (.aload_n 0, 1) := by decide +kernel
theorem dL_law_292 : decode cL_law 292 = .ok (.iload_n 3, 1) := by decide +kernel
theorem dL_law_293 : decode cL_law 293 = .ok (.iconst 5, 1) := by decide +kernel
theorem dL_law_294 : decode cL_law 294 = .ok (.iadd, 1) := by decide +kernel
theorem dL_law_295 : decode cL_law 295 = .ok (.iaload, 1) := by decide +kernel
theorem dL_law_296 : decode cL_law 296 = .ok (.invokevirtual 22, 3) := by decide +kernel
theorem dL_law_299 : decode cL_law 299 = .ok (.aload_n 2, 1) := by decide +kernel
theorem dL_law_300 : decode cL_law 300 = .ok (.aload_n 0, 1) := by decide +kernel
theorem dL_law_301 : decode cL_law 301 = .ok (.iload_n 3, 1) := by decide +kernel
theorem dL_law_302 : decode cL_law 302 = .ok (.iconst 1, 1) := by decide +kernel
theorem dL_law_303 : decode cL_law 303 = .ok (.iadd, 1) := by decide +kernel
theorem dL_law_304 : decode cL_law 304 = .ok (.iaload, 1) := by decide +kernel
theorem dL_law_305 : decode cL_law 305 = .ok (.aload_n 0, 1) := by decide +kernel
theorem dL_law_306 : decode cL_law 306 = .ok (.iload_n 3, 1) := by decide +kernel
theorem dL_law_307 : decode cL_law 307 = .ok (.iconst 2, 1) := by decide +kernel
theorem dL_law_308 : decode cL_law 308 = .ok (.iadd, 1) := by decide +kernel
theorem dL_law_309 : decode cL_law 309 = .ok (.iaload, 1) := by decide +kernel
theorem dL_law_310 : decode cL_law 310 = .ok (.aload_n 0, 1) := by decide +kernel
theorem dL_law_311 : decode cL_law 311 = .ok (.iload_n 3, 1) := by decide +kernel
theorem dL_law_312 : decode cL_law 312 = .ok (.iconst 3, 1) := by decide +kernel
theorem dL_law_313 : decode cL_law 313 = .ok (.iadd, 1) := by decide +kernel
theorem dL_law_314 : decode cL_law 314 = .ok (.iaload, 1) := by decide +kernel
theorem dL_law_315 : decode cL_law 315 = .ok (.aload_n 0, 1) := by decide +kernel
theorem dL_law_316 : decode cL_law 316 = .ok (.iload_n 3, 1) := by decide +kernel
theorem dL_law_317 : decode cL_law 317 = .ok (.iconst 4, 1) := by decide +kernel
theorem dL_law_318 : decode cL_law 318 = .ok (.iadd, 1) := by decide +kernel
theorem dL_law_319 : decode cL_law 319 = .ok (.iaload, 1) := by decide +kernel
theorem dL_law_320 : decode cL_law 320 = .ok (.aload_n 0, 1) := by decide +kernel
theorem dL_law_321 : decode cL_law 321 = .ok (.iload_n 3, 1) := by decide +kernel
theorem dL_law_322 : decode cL_law 322 = .ok (.iconst 5, 1) := by decide +kernel
theorem dL_law_323 : decode cL_law 323 = .ok (.iadd, 1) := by decide +kernel
theorem dL_law_324 : decode cL_law 324 = .ok (.iaload, 1) := by decide +kernel
theorem dL_law_325 : decode cL_law 325 = .ok (.invokevirtual 26, 3) := by decide +kernel
theorem dL_law_328 : decode cL_law 328 = .ok (.if_icmp .eq 978, 3) := by decide +kernel
theorem dL_law_331 : decode cL_law 331 = .ok (.iconst 0, 1) := by decide +kernel
theorem dL_law_332 : decode cL_law 332 = .ok (.ireturn, 1) := by decide +kernel
theorem dL_law_333 : decode cL_law 333 = .ok (.aload_n 1, 1) := by decide +kernel
theorem dL_law_334 : decode cL_law 334 = .ok (.aload_n 0, 1) := by decide +kernel
theorem dL_law_335 : decode cL_law 335 = .ok (.iload_n 3, 1) := by decide +kernel
theorem dL_law_336 : decode cL_law 336 = .ok (.iconst 1, 1) := by decide +kernel
theorem dL_law_337 : decode cL_law 337 = .ok (.iadd, 1) := by decide +kernel
theorem dL_law_338 : decode cL_law 338 = .ok (.iaload, 1) := by decide +kernel
theorem dL_law_339 : decode cL_law 339 = .ok (.invokevirtual 27, 3) := by decide +kernel
theorem dL_law_342 : decode cL_law 342 = .ok (.aload_n 2, 1) := by decide +kernel
theorem dL_law_343 : decode cL_law 343 = .ok (.aload_n 0, 1) := by decide +kernel
theorem dL_law_344 : decode cL_law 344 = .ok (.iload_n 3, 1) := by decide +kernel
theorem dL_law_345 : decode cL_law 345 = .ok (.iconst 1, 1) := by decide +kernel
theorem dL_law_346 : decode cL_law 346 = .ok (.iadd, 1) := by decide +kernel
theorem dL_law_347 : decode cL_law 347 = .ok (.iaload, 1) := by decide +kernel
theorem dL_law_348 : decode cL_law 348 = .ok (.invokevirtual 31, 3) := by decide +kernel
theorem dL_law_351 : decode cL_law 351 = .ok (.if_icmp .eq 955, 3) := by decide +kernel
theorem dL_law_354 : decode cL_law 354 = .ok (.iconst 0, 1) := by decide +kernel
theorem dL_law_355 : decode cL_law 355 = .ok (.ireturn, 1) := by decide +kernel
theorem dL_law_356 : decode cL_law 356 = .ok (.aload_n 1, 1) := by decide +kernel
theorem dL_law_357 : decode cL_law 357 = .ok (.aload_n 0, 1) := by decide +kernel
theorem dL_law_358 : decode cL_law 358 = .ok (.iload_n 3, 1) := by decide +kernel
theorem dL_law_359 : decode cL_law 359 = .ok (.iconst 1, 1) := by decide +kernel
theorem dL_law_360 : decode cL_law 360 = .ok (.iadd, 1) := by decide +kernel
theorem dL_law_361 : decode cL_law 361 = .ok (.iaload, 1) := by decide +kernel
theorem dL_law_362 : decode cL_law 362 = .ok (.invokevirtual 32, 3) := by decide +kernel
theorem dL_law_365 : decode cL_law 365 = .ok (.aload_n 2, 1) := by decide +kernel
theorem dL_law_366 : decode cL_law 366 = .ok (.aload_n 0, 1) := by decide +kernel
theorem dL_law_367 : decode cL_law 367 = .ok (.iload_n 3, 1) := by decide +kernel
theorem dL_law_368 : decode cL_law 368 = .ok (.iconst 1, 1) := by decide +kernel
theorem dL_law_369 : decode cL_law 369 = .ok (.iadd, 1) := by decide +kernel
theorem dL_law_370 : decode cL_law 370 = .ok (.iaload, 1) := by decide +kernel
theorem dL_law_371 : decode cL_law 371 = .ok (.invokevirtual 35, 3) := by decide +kernel
theorem dL_law_374 : decode cL_law 374 = .ok (.if_icmp .eq 932, 3) := by decide +kernel
theorem dL_law_377 : decode cL_law 377 = .ok (.iconst 0, 1) := by decide +kernel
theorem dL_law_378 : decode cL_law 378 = .ok (.ireturn, 1) := by decide +kernel
theorem dL_law_379 : decode cL_law 379 = .ok (.aload_n 1, 1) := by decide +kernel
theorem dL_law_380 : decode cL_law 380 = .ok (.invokevirtual 36, 3) := by decide +kernel
theorem dL_law_383 : decode cL_law 383 = .ok (.aload_n 2, 1) := by decide +kernel
theorem dL_law_384 : decode cL_law 384 = .ok (.invokevirtual 40, 3) := by decide +kernel
theorem dL_law_387 : decode cL_law 387 = .ok (.if_icmp .eq 919, 3) := by decide +kernel
theorem dL_law_390 : decode cL_law 390 = .ok (.iconst 0, 1) := by decide +kernel
theorem dL_law_391 : decode cL_law 391 = .ok (.ireturn, 1) := by decide +kernel
theorem dL_law_392 : decode cL_law 392 = .ok (.aload_n 1, 1) := by decide +kernel
theorem dL_law_393 : decode cL_law 393 = .ok (.invokevirtual 41, 3) := by decide +kernel
theorem dL_law_396 : decode cL_law 396 = .ok (.aload_n 2, 1) := by decide +kernel
theorem dL_law_397 : decode cL_law 397 = .ok (.invokevirtual 44, 3) := by decide +kernel
theorem dL_law_400 : decode cL_law 400 = .ok (.if_icmp .eq 906, 3) := by decide +kernel
theorem dL_law_403 : decode cL_law 403 = .ok (.iconst 0, 1) := by decide +kernel
theorem dL_law_404 : decode cL_law 404 = .ok (.ireturn, 1) := by decide +kernel
theorem dL_law_405 : decode cL_law 405 = .ok (.aload_n 1, 1) := by decide +kernel
theorem dL_law_406 : decode cL_law 406 = .ok (.invokevirtual 45, 3) := by decide +kernel
theorem dL_law_409 : decode cL_law 409 = .ok (.aload_n 2, 1) := by decide +kernel
theorem dL_law_410 : decode cL_law 410 = .ok (.invokevirtual 48, 3) := by decide +kernel
theorem dL_law_413 : decode cL_law 413 = .ok (.if_icmp .eq 893, 3) := by decide +kernel
theorem dL_law_416 : decode cL_law 416 = .ok (.iconst 0, 1) := by decide +kernel
theorem dL_law_417 : decode cL_law 417 = .ok (.ireturn, 1) := by decide +kernel
theorem dL_law_418 : decode cL_law 418 = .ok (.aload_n 1, 1) := by decide +kernel
theorem dL_law_419 : decode cL_law 419 = .ok (.aload_n 0, 1) := by decide +kernel
theorem dL_law_420 : decode cL_law 420 = .ok (.iload_n 3, 1) := by decide +kernel
theorem dL_law_421 : decode cL_law 421 = .ok (.iconst 1, 1) := by decide +kernel
theorem dL_law_422 : decode cL_law 422 = .ok (.iadd, 1) := by decide +kernel
theorem dL_law_423 : decode cL_law 423 = .ok (.iaload, 1) := by decide +kernel
theorem dL_law_424 : decode cL_law 424 = .ok (.aload_n 0, 1) := by decide +kernel
theorem dL_law_425 : decode cL_law 425 = .ok (.iload_n 3, 1) := by decide +kernel
theorem dL_law_426 : decode cL_law 426 = .ok (.iconst 2, 1) := by decide +kernel
theorem dL_law_427 : decode cL_law 427 = .ok (.iadd, 1) := by decide +kernel
theorem dL_law_428 : decode cL_law 428 = .ok (.iaload, 1) := by decide +kernel
theorem dL_law_429 : decode cL_law 429 = .ok (.aload_n 0, 1) := by decide +kernel
theorem dL_law_430 : decode cL_law 430 = .ok (.iload_n 3, 1) := by decide +kernel
theorem dL_law_431 : decode cL_law 431 = .ok (.iconst 3, 1) := by decide +kernel
theorem dL_law_432 : decode cL_law 432 = .ok (.iadd, 1) := by decide +kernel
theorem dL_law_433 : decode cL_law 433 = .ok (.iaload, 1) := by decide +kernel
theorem dL_law_434 : decode cL_law 434 = .ok (.aload_n 0, 1) := by decide +kernel
theorem dL_law_435 : decode cL_law 435 = .ok (.iload_n 3, 1) := by decide +kernel
theorem dL_law_436 : decode cL_law 436 = .ok (.iconst 4, 1) := by decide +kernel
theorem dL_law_437 : decode cL_law 437 = .ok (.iadd, 1) := by decide +kernel
theorem dL_law_438 : decode cL_law 438 = .ok (.iaload, 1) := by decide +kernel
theorem dL_law_439 : decode cL_law 439 = .ok (.invokevirtual 49, 3) := by decide +kernel
theorem dL_law_442 : decode cL_law 442 = .ok (.aload_n 2, 1) := by decide +kernel
theorem dL_law_443 : decode cL_law 443 = .ok (.aload_n 0, 1) := by decide +kernel
theorem dL_law_444 : decode cL_law 444 = .ok (.iload_n 3, 1) := by decide +kernel
theorem dL_law_445 : decode cL_law 445 = .ok (.iconst 1, 1) := by decide +kernel
theorem dL_law_446 : decode cL_law 446 = .ok (.iadd, 1) := by decide +kernel
theorem dL_law_447 : decode cL_law 447 = .ok (.iaload, 1) := by decide +kernel
theorem dL_law_448 : decode cL_law 448 = .ok (.aload_n 0, 1) := by decide +kernel
theorem dL_law_449 : decode cL_law 449 = .ok (.iload_n 3, 1) := by decide +kernel
theorem dL_law_450 : decode cL_law 450 = .ok (.iconst 2, 1) := by decide +kernel
theorem dL_law_451 : decode cL_law 451 = .ok (.iadd, 1) := by decide +kernel
theorem dL_law_452 : decode cL_law 452 = .ok (.iaload, 1) := by decide +kernel
theorem dL_law_453 : decode cL_law 453 = .ok (.aload_n 0, 1) := by decide +kernel
theorem dL_law_454 : decode cL_law 454 = .ok (.iload_n 3, 1) := by decide +kernel
theorem dL_law_455 : decode cL_law 455 = .ok (.iconst 3, 1) := by decide +kernel
theorem dL_law_456 : decode cL_law 456 = .ok (.iadd, 1) := by decide +kernel
theorem dL_law_457 : decode cL_law 457 = .ok (.iaload, 1) := by decide +kernel
theorem dL_law_458 : decode cL_law 458 = .ok (.aload_n 0, 1) := by decide +kernel
theorem dL_law_459 : decode cL_law 459 = .ok (.iload_n 3, 1) := by decide +kernel
theorem dL_law_460 : decode cL_law 460 = .ok (.iconst 4, 1) := by decide +kernel
theorem dL_law_461 : decode cL_law 461 = .ok (.iadd, 1) := by decide +kernel
theorem dL_law_462 : decode cL_law 462 = .ok (.iaload, 1) := by decide +kernel
theorem dL_law_463 : decode cL_law 463 = .ok (.invokevirtual 53, 3) := by decide +kernel
theorem dL_law_466 : decode cL_law 466 = .ok (.if_icmp .eq 840, 3) := by decide +kernel
theorem dL_law_469 : decode cL_law 469 = .ok (.iconst 0, 1) := by decide +kernel
theorem dL_law_470 : decode cL_law 470 = .ok (.ireturn, 1) := by decide +kernel
theorem dL_law_471 : decode cL_law 471 = .ok (.aload_n 1, 1) := by decide +kernel
theorem dL_law_472 : decode cL_law 472 = .ok (.invokevirtual 54, 3) := by decide +kernel
theorem dL_law_475 : decode cL_law 475 = .ok (.aload_n 2, 1) := by decide +kernel
theorem dL_law_476 : decode cL_law 476 = .ok (.invokevirtual 57, 3) := by decide +kernel
theorem dL_law_479 : decode cL_law 479 = .ok (.if_icmp .eq 827, 3) := by decide +kernel
theorem dL_law_482 : decode cL_law 482 = .ok (.iconst 0, 1) := by decide +kernel
theorem dL_law_483 : decode cL_law 483 = .ok (.ireturn, 1) := by decide +kernel
theorem dL_law_484 : decode cL_law 484 = .ok (.aload_n 1, 1) := by decide +kernel
theorem dL_law_485 : decode cL_law 485 = .ok (.aload_n 0, 1) := by decide +kernel
theorem dL_law_486 : decode cL_law 486 = .ok (.iload_n 3, 1) := by decide +kernel
theorem dL_law_487 : decode cL_law 487 = .ok (.iconst 1, 1) := by decide +kernel
theorem dL_law_488 : decode cL_law 488 = .ok (.iadd, 1) := by decide +kernel
theorem dL_law_489 : decode cL_law 489 = .ok (.iaload, 1) := by decide +kernel
theorem dL_law_490 : decode cL_law 490 = .ok (.aload_n 0, 1) := by decide +kernel
theorem dL_law_491 : decode cL_law 491 = .ok (.iload_n 3, 1) := by decide +kernel
theorem dL_law_492 : decode cL_law 492 = .ok (.iconst 2, 1) := by decide +kernel
theorem dL_law_493 : decode cL_law 493 = .ok (.iadd, 1) := by decide +kernel
theorem dL_law_494 : decode cL_law 494 = .ok (.iaload, 1) := by decide +kernel
theorem dL_law_495 : decode cL_law 495 = .ok (.invokevirtual 58, 3) := by decide +kernel
theorem dL_law_498 : decode cL_law 498 = .ok (.aload_n 2, 1) := by decide +kernel
theorem dL_law_499 : decode cL_law 499 = .ok (.aload_n 0, 1) := by decide +kernel
theorem dL_law_500 : decode cL_law 500 = .ok (.iload_n 3, 1) := by decide +kernel
theorem dL_law_501 : decode cL_law 501 = .ok (.iconst 1, 1) := by decide +kernel
theorem dL_law_502 : decode cL_law 502 = .ok (.iadd, 1) := by decide +kernel
theorem dL_law_503 : decode cL_law 503 = .ok (.iaload, 1) := by decide +kernel
theorem dL_law_504 : decode cL_law 504 = .ok (.aload_n 0, 1) := by decide +kernel
theorem dL_law_505 : decode cL_law 505 = .ok (.iload_n 3, 1) := by decide +kernel
theorem dL_law_506 : decode cL_law 506 = .ok (.iconst 2, 1) := by decide +kernel
theorem dL_law_507 : decode cL_law 507 = .ok (.iadd, 1) := by decide +kernel
theorem dL_law_508 : decode cL_law 508 = .ok (.iaload, 1) := by decide +kernel
theorem dL_law_509 : decode cL_law 509 = .ok (.invokevirtual 62, 3) := by decide +kernel
theorem dL_law_512 : decode cL_law 512 = .ok (.if_icmp .eq 794, 3) := by decide +kernel
theorem dL_law_515 : decode cL_law 515 = .ok (.iconst 0, 1) := by decide +kernel
theorem dL_law_516 : decode cL_law 516 = .ok (.ireturn, 1) := by decide +kernel
theorem dL_law_517 : decode cL_law 517 = .ok (.aload_n 1, 1) := by decide +kernel
theorem dL_law_518 : decode cL_law 518 = .ok (.invokevirtual 63, 3) := by decide +kernel
theorem dL_law_521 : decode cL_law 521 = .ok (.aload_n 2, 1) := by decide +kernel
theorem dL_law_522 : decode cL_law 522 = .ok (.invokevirtual 66, 3) := by decide +kernel
theorem dL_law_525 : decode cL_law 525 = .ok (.if_icmp .eq 781, 3) := by decide +kernel
theorem dL_law_528 : decode cL_law 528 = .ok (.iconst 0, 1) := by decide +kernel
theorem dL_law_529 : decode cL_law 529 = .ok (.ireturn, 1) := by decide +kernel
theorem dL_law_530 : decode cL_law 530 = .ok (.aload_n 1, 1) := by decide +kernel
theorem dL_law_531 : decode cL_law 531 = .ok (.aload_n 0, 1) := by decide +kernel
theorem dL_law_532 : decode cL_law 532 = .ok (.iload_n 3, 1) := by decide +kernel
theorem dL_law_533 : decode cL_law 533 = .ok (.iconst 1, 1) := by decide +kernel
theorem dL_law_534 : decode cL_law 534 = .ok (.iadd, 1) := by decide +kernel
theorem dL_law_535 : decode cL_law 535 = .ok (.iaload, 1) := by decide +kernel
theorem dL_law_536 : decode cL_law 536 = .ok (.aload_n 0, 1) := by decide +kernel
theorem dL_law_537 : decode cL_law 537 = .ok (.iload_n 3, 1) := by decide +kernel
theorem dL_law_538 : decode cL_law 538 = .ok (.iconst 2, 1) := by decide +kernel
theorem dL_law_539 : decode cL_law 539 = .ok (.iadd, 1) := by decide +kernel
theorem dL_law_540 : decode cL_law 540 = .ok (.iaload, 1) := by decide +kernel
theorem dL_law_541 : decode cL_law 541 = .ok (.aload_n 0, 1) := by decide +kernel
theorem dL_law_542 : decode cL_law 542 = .ok (.iload_n 3, 1) := by decide +kernel
theorem dL_law_543 : decode cL_law 543 = .ok (.iconst 3, 1) := by decide +kernel
theorem dL_law_544 : decode cL_law 544 = .ok (.iadd, 1) := by decide +kernel
theorem dL_law_545 : decode cL_law 545 = .ok (.iaload, 1) := by decide +kernel
theorem dL_law_546 : decode cL_law 546 = .ok (.invokevirtual 67, 3) := by decide +kernel
theorem dL_law_549 : decode cL_law 549 = .ok (.aload_n 2, 1) := by decide +kernel
theorem dL_law_550 : decode cL_law 550 = .ok (.aload_n 0, 1) := by decide +kernel
theorem dL_law_551 : decode cL_law 551 = .ok (.iload_n 3, 1) := by decide +kernel
theorem dL_law_552 : decode cL_law 552 = .ok (.iconst 1, 1) := by decide +kernel
theorem dL_law_553 : decode cL_law 553 = .ok (.iadd, 1) := by decide +kernel
theorem dL_law_554 : decode cL_law 554 = .ok (.iaload, 1) := by decide +kernel
theorem dL_law_555 : decode cL_law 555 = .ok (.aload_n 0, 1) := by decide +kernel
theorem dL_law_556 : decode cL_law 556 = .ok (.iload_n 3, 1) := by decide +kernel
theorem dL_law_557 : decode cL_law 557 = .ok (.iconst 2, 1) := by decide +kernel
theorem dL_law_558 : decode cL_law 558 = .ok (.iadd, 1) := by decide +kernel
theorem dL_law_559 : decode cL_law 559 = .ok (.iaload, 1) := by decide +kernel
theorem dL_law_560 : decode cL_law 560 = .ok (.aload_n 0, 1) := by decide +kernel
theorem dL_law_561 : decode cL_law 561 = .ok (.iload_n 3, 1) := by decide +kernel
theorem dL_law_562 : decode cL_law 562 = .ok (.iconst 3, 1) := by decide +kernel
theorem dL_law_563 : decode cL_law 563 = .ok (.iadd, 1) := by decide +kernel
theorem dL_law_564 : decode cL_law 564 = .ok (.iaload, 1) := by decide +kernel
theorem dL_law_565 : decode cL_law 565 = .ok (.invokevirtual 70, 3) := by decide +kernel
theorem dL_law_568 : decode cL_law 568 = .ok (.if_icmp .eq 738, 3) := by decide +kernel
theorem dL_law_571 : decode cL_law 571 = .ok (.iconst 0, 1) := by decide +kernel
theorem dL_law_572 : decode cL_law 572 = .ok (.ireturn, 1) := by decide +kernel
theorem dL_law_573 : decode cL_law 573 = .ok (.aload_n 1, 1) := by decide +kernel
theorem dL_law_574 : decode cL_law 574 = .ok (.aload_n 0, 1) := by decide +kernel
theorem dL_law_575 : decode cL_law 575 = .ok (.iload_n 3, 1) := by decide +kernel
theorem dL_law_576 : decode cL_law 576 = .ok (.iconst 1, 1) := by decide +kernel
theorem dL_law_577 : decode cL_law 577 = .ok (.iadd, 1) := by decide +kernel
theorem dL_law_578 : decode cL_law 578 = .ok (.iaload, 1) := by decide +kernel
theorem dL_law_579 : decode cL_law 579 = .ok (.aload_n 0, 1) := by decide +kernel
theorem dL_law_580 : decode cL_law 580 = .ok (.iload_n 3, 1) := by decide +kernel
theorem dL_law_581 : decode cL_law 581 = .ok (.iconst 2, 1) := by decide +kernel
theorem dL_law_582 : decode cL_law 582 = .ok (.iadd, 1) := by decide +kernel
theorem dL_law_583 : decode cL_law 583 = .ok (.iaload, 1) := by decide +kernel
theorem dL_law_584 : decode cL_law 584 = .ok (.invokevirtual 71, 3) := by decide +kernel
theorem dL_law_587 : decode cL_law 587 = .ok (.aload_n 2, 1) := by decide +kernel
theorem dL_law_588 : decode cL_law 588 = .ok (.aload_n 0, 1) := by decide +kernel
theorem dL_law_589 : decode cL_law 589 = .ok (.iload_n 3, 1) := by decide +kernel
theorem dL_law_590 : decode cL_law 590 = .ok (.iconst 1, 1) := by decide +kernel
theorem dL_law_591 : decode cL_law 591 = .ok (.iadd, 1) := by decide +kernel
theorem dL_law_592 : decode cL_law 592 = .ok (.iaload, 1) := by decide +kernel
theorem dL_law_593 : decode cL_law 593 = .ok (.aload_n 0, 1) := by decide +kernel
theorem dL_law_594 : decode cL_law 594 = .ok (.iload_n 3, 1) := by decide +kernel
theorem dL_law_595 : decode cL_law 595 = .ok (.iconst 2, 1) := by decide +kernel
theorem dL_law_596 : decode cL_law 596 = .ok (.iadd, 1) := by decide +kernel
theorem dL_law_597 : decode cL_law 597 = .ok (.iaload, 1) := by decide +kernel
theorem dL_law_598 : decode cL_law 598 = .ok (.invokevirtual 74, 3) := by decide +kernel
theorem dL_law_601 : decode cL_law 601 = .ok (.if_icmp .eq 705, 3) := by decide +kernel
theorem dL_law_604 : decode cL_law 604 = .ok (.iconst 0, 1) := by decide +kernel
theorem dL_law_605 : decode cL_law 605 = .ok (.ireturn, 1) := by decide +kernel
theorem dL_law_606 : decode cL_law 606 = .ok (.aload_n 1, 1) := by decide +kernel
theorem dL_law_607 : decode cL_law 607 = .ok (.aload_n 0, 1) := by decide +kernel
theorem dL_law_608 : decode cL_law 608 = .ok (.iload_n 3, 1) := by decide +kernel
theorem dL_law_609 : decode cL_law 609 = .ok (.iconst 1, 1) := by decide +kernel
theorem dL_law_610 : decode cL_law 610 = .ok (.iadd, 1) := by decide +kernel
theorem dL_law_611 : decode cL_law 611 = .ok (.iaload, 1) := by decide +kernel
theorem dL_law_612 : decode cL_law 612 = .ok (.aload_n 0, 1) := by decide +kernel
theorem dL_law_613 : decode cL_law 613 = .ok (.iload_n 3, 1) := by decide +kernel
theorem dL_law_614 : decode cL_law 614 = .ok (.iconst 2, 1) := by decide +kernel
theorem dL_law_615 : decode cL_law 615 = .ok (.iadd, 1) := by decide +kernel
theorem dL_law_616 : decode cL_law 616 = .ok (.iaload, 1) := by decide +kernel
theorem dL_law_617 : decode cL_law 617 = .ok (.invokevirtual 75, 3) := by decide +kernel
theorem dL_law_620 : decode cL_law 620 = .ok (.aload_n 2, 1) := by decide +kernel
theorem dL_law_621 : decode cL_law 621 = .ok (.aload_n 0, 1) := by decide +kernel
theorem dL_law_622 : decode cL_law 622 = .ok (.iload_n 3, 1) := by decide +kernel
theorem dL_law_623 : decode cL_law 623 = .ok (.iconst 1, 1) := by decide +kernel
theorem dL_law_624 : decode cL_law 624 = .ok (.iadd, 1) := by decide +kernel
theorem dL_law_625 : decode cL_law 625 = .ok (.iaload, 1) := by decide +kernel
theorem dL_law_626 : decode cL_law 626 = .ok (.aload_n 0, 1) := by decide +kernel
theorem dL_law_627 : decode cL_law 627 = .ok (.iload_n 3, 1) := by decide +kernel
theorem dL_law_628 : decode cL_law 628 = .ok (.iconst 2, 1) := by decide +kernel
theorem dL_law_629 : decode cL_law 629 = .ok (.iadd, 1) := by decide +kernel
theorem dL_law_630 : decode cL_law 630 = .ok (.iaload, 1) := by decide +kernel
theorem dL_law_631 : decode cL_law 631 = .ok (.invokevirtual 78, 3) := by decide +kernel
theorem dL_law_634 : decode cL_law 634 = .ok (.if_icmp .eq 672, 3) := by decide +kernel
theorem dL_law_637 : decode cL_law 637 = .ok (.iconst 0, 1) := by decide +kernel
theorem dL_law_638 : decode cL_law 638 = .ok (.ireturn, 1) := by decide +kernel
theorem dL_law_639 : decode cL_law 639 = .ok (.aload_n 1, 1) := by decide +kernel
theorem dL_law_640 : decode cL_law 640 = .ok (.aload_n 0, 1) := by decide +kernel
theorem dL_law_641 : decode cL_law 641 = .ok (.iload_n 3, 1) := by decide +kernel
theorem dL_law_642 : decode cL_law 642 = .ok (.iconst 1, 1) := by decide +kernel
theorem dL_law_643 : decode cL_law 643 = .ok (.iadd, 1) := by decide +kernel
theorem dL_law_644 : decode cL_law 644 = .ok (.iaload, 1) := by decide +kernel
theorem dL_law_645 : decode cL_law 645 = .ok (.aload_n 0, 1) := by decide +kernel
theorem dL_law_646 : decode cL_law 646 = .ok (.iload_n 3, 1) := by decide +kernel
theorem dL_law_647 : decode cL_law 647 = .ok (.iconst 2, 1) := by decide +kernel
theorem dL_law_648 : decode cL_law 648 = .ok (.iadd, 1) := by decide +kernel
theorem dL_law_649 : decode cL_law 649 = .ok (.iaload, 1) := by decide +kernel
theorem dL_law_650 : decode cL_law 650 = .ok (.aload_n 0, 1) := by decide +kernel
theorem dL_law_651 : decode cL_law 651 = .ok (.iload_n 3, 1) := by decide +kernel
theorem dL_law_652 : decode cL_law 652 = .ok (.iconst 3, 1) := by decide +kernel
theorem dL_law_653 : decode cL_law 653 = .ok (.iadd, 1) := by decide +kernel
theorem dL_law_654 : decode cL_law 654 = .ok (.iaload, 1) := by decide +kernel
theorem dL_law_655 : decode cL_law 655 = .ok (.invokevirtual 79, 3) := by decide +kernel
theorem dL_law_658 : decode cL_law 658 = .ok (.aload_n 2, 1) := by decide +kernel
theorem dL_law_659 : decode cL_law 659 = .ok (.aload_n 0, 1) := by decide +kernel
theorem dL_law_660 : decode cL_law 660 = .ok (.iload_n 3, 1) := by decide +kernel
theorem dL_law_661 : decode cL_law 661 = .ok (.iconst 1, 1) := by decide +kernel
theorem dL_law_662 : decode cL_law 662 = .ok (.iadd, 1) := by decide +kernel
theorem dL_law_663 : decode cL_law 663 = .ok (.iaload, 1) := by decide +kernel
theorem dL_law_664 : decode cL_law 664 = .ok (.aload_n 0, 1) := by decide +kernel
theorem dL_law_665 : decode cL_law 665 = .ok (.iload_n 3, 1) := by decide +kernel
theorem dL_law_666 : decode cL_law 666 = .ok (.iconst 2, 1) := by decide +kernel
theorem dL_law_667 : decode cL_law 667 = .ok (.iadd, 1) := by decide +kernel
theorem dL_law_668 : decode cL_law 668 = .ok (.iaload, 1) := by decide +kernel
theorem dL_law_669 : decode cL_law 669 = .ok (.aload_n 0, 1) := by decide +kernel
theorem dL_law_670 : decode cL_law 670 = .ok (.iload_n 3, 1) := by decide +kernel
theorem dL_law_671 : decode cL_law 671 = .ok (.iconst 3, 1) := by decide +kernel
theorem dL_law_672 : decode cL_law 672 = .ok (.iadd, 1) := by decide +kernel
theorem dL_law_673 : decode cL_law 673 = .ok (.iaload, 1) := by decide +kernel
theorem dL_law_674 : decode cL_law 674 = .ok (.invokevirtual 82, 3) := by decide +kernel
theorem dL_law_677 : decode cL_law 677 = .ok (.if_icmp .eq 629, 3) := by decide +kernel
theorem dL_law_680 : decode cL_law 680 = .ok (.iconst 0, 1) := by decide +kernel
theorem dL_law_681 : decode cL_law 681 = .ok (.ireturn, 1) := by decide +kernel
theorem dL_law_682 : decode cL_law 682 = .ok (.aload_n 1, 1) := by decide +kernel
theorem dL_law_683 : decode cL_law 683 = .ok (.aload_n 0, 1) := by decide +kernel
theorem dL_law_684 : decode cL_law 684 = .ok (.iload_n 3, 1) := by decide +kernel
theorem dL_law_685 : decode cL_law 685 = .ok (.iconst 1, 1) := by decide +kernel
theorem dL_law_686 : decode cL_law 686 = .ok (.iadd, 1) := by decide +kernel
theorem dL_law_687 : decode cL_law 687 = .ok (.iaload, 1) := by decide +kernel
theorem dL_law_688 : decode cL_law 688 = .ok (.aload_n 0, 1) := by decide +kernel
theorem dL_law_689 : decode cL_law 689 = .ok (.iload_n 3, 1) := by decide +kernel
theorem dL_law_690 : decode cL_law 690 = .ok (.iconst 2, 1) := by decide +kernel
theorem dL_law_691 : decode cL_law 691 = .ok (.iadd, 1) := by decide +kernel
theorem dL_law_692 : decode cL_law 692 = .ok (.iaload, 1) := by decide +kernel
theorem dL_law_693 : decode cL_law 693 = .ok (.aload_n 0, 1) := by decide +kernel
theorem dL_law_694 : decode cL_law 694 = .ok (.iload_n 3, 1) := by decide +kernel
theorem dL_law_695 : decode cL_law 695 = .ok (.iconst 3, 1) := by decide +kernel
theorem dL_law_696 : decode cL_law 696 = .ok (.iadd, 1) := by decide +kernel
theorem dL_law_697 : decode cL_law 697 = .ok (.iaload, 1) := by decide +kernel
theorem dL_law_698 : decode cL_law 698 = .ok (.aload_n 0, 1) := by decide +kernel
theorem dL_law_699 : decode cL_law 699 = .ok (.iload_n 3, 1) := by decide +kernel
theorem dL_law_700 : decode cL_law 700 = .ok (.iconst 4, 1) := by decide +kernel
theorem dL_law_701 : decode cL_law 701 = .ok (.iadd, 1) := by decide +kernel
theorem dL_law_702 : decode cL_law 702 = .ok (.iaload, 1) := by decide +kernel
theorem dL_law_703 : decode cL_law 703 = .ok (.invokevirtual 83, 3) := by decide +kernel
theorem dL_law_706 : decode cL_law 706 = .ok (.aload_n 2, 1) := by decide +kernel
theorem dL_law_707 : decode cL_law 707 = .ok (.aload_n 0, 1) := by decide +kernel
theorem dL_law_708 : decode cL_law 708 = .ok (.iload_n 3, 1) := by decide +kernel
theorem dL_law_709 : decode cL_law 709 = .ok (.iconst 1, 1) := by decide +kernel
theorem dL_law_710 : decode cL_law 710 = .ok (.iadd, 1) := by decide +kernel
theorem dL_law_711 : decode cL_law 711 = .ok (.iaload, 1) := by decide +kernel
theorem dL_law_712 : decode cL_law 712 = .ok (.aload_n 0, 1) := by decide +kernel
theorem dL_law_713 : decode cL_law 713 = .ok (.iload_n 3, 1) := by decide +kernel
theorem dL_law_714 : decode cL_law 714 = .ok (.iconst 2, 1) := by decide +kernel
theorem dL_law_715 : decode cL_law 715 = .ok (.iadd, 1) := by decide +kernel
theorem dL_law_716 : decode cL_law 716 = .ok (.iaload, 1) := by decide +kernel
theorem dL_law_717 : decode cL_law 717 = .ok (.aload_n 0, 1) := by decide +kernel
theorem dL_law_718 : decode cL_law 718 = .ok (.iload_n 3, 1) := by decide +kernel
theorem dL_law_719 : decode cL_law 719 = .ok (.iconst 3, 1) := by decide +kernel
theorem dL_law_720 : decode cL_law 720 = .ok (.iadd, 1) := by decide +kernel
theorem dL_law_721 : decode cL_law 721 = .ok (.iaload, 1) := by decide +kernel
theorem dL_law_722 : decode cL_law 722 = .ok (.aload_n 0, 1) := by decide +kernel
theorem dL_law_723 : decode cL_law 723 = .ok (.iload_n 3, 1) := by decide +kernel
theorem dL_law_724 : decode cL_law 724 = .ok (.iconst 4, 1) := by decide +kernel
theorem dL_law_725 : decode cL_law 725 = .ok (.iadd, 1) := by decide +kernel
theorem dL_law_726 : decode cL_law 726 = .ok (.iaload, 1) := by decide +kernel
theorem dL_law_727 : decode cL_law 727 = .ok (.invokevirtual 86, 3) := by decide +kernel
theorem dL_law_730 : decode cL_law 730 = .ok (.if_icmp .eq 576, 3) := by decide +kernel
theorem dL_law_733 : decode cL_law 733 = .ok (.iconst 0, 1) := by decide +kernel
theorem dL_law_734 : decode cL_law 734 = .ok (.ireturn, 1) := by decide +kernel
theorem dL_law_735 : decode cL_law 735 = .ok (.aload_n 1, 1) := by decide +kernel
theorem dL_law_736 : decode cL_law 736 = .ok (.aload_n 0, 1) := by decide +kernel
theorem dL_law_737 : decode cL_law 737 = .ok (.iload_n 3, 1) := by decide +kernel
theorem dL_law_738 : decode cL_law 738 = .ok (.iconst 1, 1) := by decide +kernel
theorem dL_law_739 : decode cL_law 739 = .ok (.iadd, 1) := by decide +kernel
theorem dL_law_740 : decode cL_law 740 = .ok (.iaload, 1) := by decide +kernel
theorem dL_law_741 : decode cL_law 741 = .ok (.aload_n 0, 1) := by decide +kernel
theorem dL_law_742 : decode cL_law 742 = .ok (.iload_n 3, 1) := by decide +kernel
theorem dL_law_743 : decode cL_law 743 = .ok (.iconst 2, 1) := by decide +kernel
theorem dL_law_744 : decode cL_law 744 = .ok (.iadd, 1) := by decide +kernel
theorem dL_law_745 : decode cL_law 745 = .ok (.iaload, 1) := by decide +kernel
theorem dL_law_746 : decode cL_law 746 = .ok (.aload_n 0, 1) := by decide +kernel
theorem dL_law_747 : decode cL_law 747 = .ok (.iload_n 3, 1) := by decide +kernel
theorem dL_law_748 : decode cL_law 748 = .ok (.iconst 3, 1) := by decide +kernel
theorem dL_law_749 : decode cL_law 749 = .ok (.iadd, 1) := by decide +kernel
theorem dL_law_750 : decode cL_law 750 = .ok (.iaload, 1) := by decide +kernel
theorem dL_law_751 : decode cL_law 751 = .ok (.aload_n 0, 1) := by decide +kernel
theorem dL_law_752 : decode cL_law 752 = .ok (.iload_n 3, 1) := by decide +kernel
theorem dL_law_753 : decode cL_law 753 = .ok (.iconst 4, 1) := by decide +kernel
theorem dL_law_754 : decode cL_law 754 = .ok (.iadd, 1) := by decide +kernel
theorem dL_law_755 : decode cL_law 755 = .ok (.iaload, 1) := by decide +kernel
theorem dL_law_756 : decode cL_law 756 = .ok (.aload_n 0, 1) := by decide +kernel
theorem dL_law_757 : decode cL_law 757 = .ok (.iload_n 3, 1) := by decide +kernel
theorem dL_law_758 : decode cL_law 758 = .ok (.iconst 5, 1) := by decide +kernel
theorem dL_law_759 : decode cL_law 759 = .ok (.iadd, 1) := by decide +kernel
theorem dL_law_760 : decode cL_law 760 = .ok (.iaload, 1) := by decide +kernel
theorem dL_law_761 : decode cL_law 761 = .ok (.invokevirtual 87, 3) := by decide +kernel
theorem dL_law_764 : decode cL_law 764 = .ok (.aload_n 2, 1) := by decide +kernel
theorem dL_law_765 : decode cL_law 765 = .ok (.aload_n 0, 1) := by decide +kernel
theorem dL_law_766 : decode cL_law 766 = .ok (.iload_n 3, 1) := by decide +kernel
theorem dL_law_767 : decode cL_law 767 = .ok (.iconst 1, 1) := by decide +kernel
theorem dL_law_768 : decode cL_law 768 = .ok (.iadd, 1) := by decide +kernel
theorem dL_law_769 : decode cL_law 769 = .ok (.iaload, 1) := by decide +kernel
theorem dL_law_770 : decode cL_law 770 = .ok (.aload_n 0, 1) := by decide +kernel
theorem dL_law_771 : decode cL_law 771 = .ok (.iload_n 3, 1) := by decide +kernel
theorem dL_law_772 : decode cL_law 772 = .ok (.iconst 2, 1) := by decide +kernel
theorem dL_law_773 : decode cL_law 773 = .ok (.iadd, 1) := by decide +kernel
theorem dL_law_774 : decode cL_law 774 = .ok (.iaload, 1) := by decide +kernel
theorem dL_law_775 : decode cL_law 775 = .ok (.aload_n 0, 1) := by decide +kernel
theorem dL_law_776 : decode cL_law 776 = .ok (.iload_n 3, 1) := by decide +kernel
theorem dL_law_777 : decode cL_law 777 = .ok (.iconst 3, 1) := by decide +kernel
theorem dL_law_778 : decode cL_law 778 = .ok (.iadd, 1) := by decide +kernel
theorem dL_law_779 : decode cL_law 779 = .ok (.iaload, 1) := by decide +kernel
theorem dL_law_780 : decode cL_law 780 = .ok (.aload_n 0, 1) := by decide +kernel
theorem dL_law_781 : decode cL_law 781 = .ok (.iload_n 3, 1) := by decide +kernel
theorem dL_law_782 : decode cL_law 782 = .ok (.iconst 4, 1) := by decide +kernel
theorem dL_law_783 : decode cL_law 783 = .ok (.iadd, 1) := by decide +kernel
theorem dL_law_784 : decode cL_law 784 = .ok (.iaload, 1) := by decide +kernel
theorem dL_law_785 : decode cL_law 785 = .ok (.aload_n 0, 1) := by decide +kernel
theorem dL_law_786 : decode cL_law 786 = .ok (.iload_n 3, 1) := by decide +kernel
theorem dL_law_787 : decode cL_law 787 = .ok (.iconst 5, 1) := by decide +kernel
theorem dL_law_788 : decode cL_law 788 = .ok (.iadd, 1) := by decide +kernel
theorem dL_law_789 : decode cL_law 789 = .ok (.iaload, 1) := by decide +kernel
theorem dL_law_790 : decode cL_law 790 = .ok (.invokevirtual 90, 3) := by decide +kernel
theorem dL_law_793 : decode cL_law 793 = .ok (.if_icmp .eq 513, 3) := by decide +kernel
theorem dL_law_796 : decode cL_law 796 = .ok (.iconst 0, 1) := by decide +kernel
theorem dL_law_797 : decode cL_law 797 = .ok (.ireturn, 1) := by decide +kernel
theorem dL_law_798 : decode cL_law 798 = .ok (.aload_n 1, 1) := by decide +kernel
theorem dL_law_799 : decode cL_law 799 = .ok (.aload_n 0, 1) := by decide +kernel
theorem dL_law_800 : decode cL_law 800 = .ok (.iload_n 3, 1) := by decide +kernel
theorem dL_law_801 : decode cL_law 801 = .ok (.iconst 1, 1) := by decide +kernel
theorem dL_law_802 : decode cL_law 802 = .ok (.iadd, 1) := by decide +kernel
theorem dL_law_803 : decode cL_law 803 = .ok (.iaload, 1) := by decide +kernel
theorem dL_law_804 : decode cL_law 804 = .ok (.aload_n 0, 1) := by decide +kernel
theorem dL_law_805 : decode cL_law 805 = .ok (.iload_n 3, 1) := by decide +kernel
theorem dL_law_806 : decode cL_law 806 = .ok (.iconst 2, 1) := by decide +kernel
theorem dL_law_807 : decode cL_law 807 = .ok (.iadd, 1) := by decide +kernel
theorem dL_law_808 : decode cL_law 808 = .ok (.iaload, 1) := by decide +kernel
theorem dL_law_809 : decode cL_law 809 = .ok (.invokevirtual 91, 3) := by decide +kernel
theorem dL_law_812 : decode cL_law 812 = .ok (.aload_n 2, 1) := by decide +kernel
theorem dL_law_813 : decode cL_law 813 = .ok (.aload_n 0, 1) := by decide +kernel
theorem dL_law_814 : decode cL_law 814 = .ok (.iload_n 3, 1) := by decide +kernel
theorem dL_law_815 : decode cL_law 815 = .ok (.iconst 1, 1) := by decide +kernel
theorem dL_law_816 : decode cL_law 816 = .ok (.iadd, 1) := by decide +kernel
theorem dL_law_817 : decode cL_law 817 = .ok (.iaload, 1) := by decide +kernel
theorem dL_law_818 : decode cL_law 818 = .ok (.aload_n 0, 1) := by decide +kernel
theorem dL_law_819 : decode cL_law 819 = .ok (.iload_n 3, 1) := by decide +kernel
theorem dL_law_820 : decode cL_law 820 = .ok (.iconst 2, 1) := by decide +kernel
theorem dL_law_821 : decode cL_law 821 = .ok (.iadd, 1) := by decide +kernel
theorem dL_law_822 : decode cL_law 822 = .ok (.iaload, 1) := by decide +kernel
theorem dL_law_823 : decode cL_law 823 = .ok (.invokevirtual 94, 3) := by decide +kernel
theorem dL_law_826 : decode cL_law 826 = .ok (.if_icmp .eq 480, 3) := by decide +kernel
theorem dL_law_829 : decode cL_law 829 = .ok (.iconst 0, 1) := by decide +kernel
theorem dL_law_830 : decode cL_law 830 = .ok (.ireturn, 1) := by decide +kernel
theorem dL_law_831 : decode cL_law 831 = .ok (.aload_n 1, 1) := by decide +kernel
theorem dL_law_832 : decode cL_law 832 = .ok (.aload_n 0, 1) := by decide +kernel
theorem dL_law_833 : decode cL_law 833 = .ok (.iload_n 3, 1) := by decide +kernel
theorem dL_law_834 : decode cL_law 834 = .ok (.iconst 1, 1) := by decide +kernel
theorem dL_law_835 : decode cL_law 835 = .ok (.iadd, 1) := by decide +kernel
theorem dL_law_836 : decode cL_law 836 = .ok (.iaload, 1) := by decide +kernel
theorem dL_law_837 : decode cL_law 837 = .ok (.aload_n 0, 1) := by decide +kernel
theorem dL_law_838 : decode cL_law 838 = .ok (.iload_n 3, 1) := by decide +kernel
theorem dL_law_839 : decode cL_law 839 = .ok (.iconst 2, 1) := by decide +kernel
theorem dL_law_840 : decode cL_law 840 = .ok (.iadd, 1) := by decide +kernel
theorem dL_law_841 : decode cL_law 841 = .ok (.iaload, 1) := by decide +kernel
theorem dL_law_842 : decode cL_law 842 = .ok (.aload_n 0, 1) := by decide +kernel
theorem dL_law_843 : decode cL_law 843 = .ok (.iload_n 3, 1) := by decide +kernel
theorem dL_law_844 : decode cL_law 844 = .ok (.iconst 3, 1) := by decide +kernel
theorem dL_law_845 : decode cL_law 845 = .ok (.iadd, 1) := by decide +kernel
theorem dL_law_846 : decode cL_law 846 = .ok (.iaload, 1) := by decide +kernel
theorem dL_law_847 : decode cL_law 847 = .ok (.invokevirtual 95, 3) := by decide +kernel
theorem dL_law_850 : decode cL_law 850 = .ok (.aload_n 2, 1) := by decide +kernel
theorem dL_law_851 : decode cL_law 851 = .ok (.aload_n 0, 1) := by decide +kernel
theorem dL_law_852 : decode cL_law 852 = .ok (.iload_n 3, 1) := by decide +kernel
theorem dL_law_853 : decode cL_law 853 = .ok (.iconst 1, 1) := by decide +kernel
theorem dL_law_854 : decode cL_law 854 = .ok (.iadd, 1) := by decide +kernel
theorem dL_law_855 : decode cL_law 855 = .ok (.iaload, 1) := by decide +kernel
theorem dL_law_856 : decode cL_law 856 = .ok (.aload_n 0, 1) := by decide +kernel
theorem dL_law_857 : decode cL_law 857 = .ok (.iload_n 3, 1) := by decide +kernel
theorem dL_law_858 : decode cL_law 858 = .ok (.iconst 2, 1) := by decide +kernel
theorem dL_law_859 : decode cL_law 859 = .ok (.iadd, 1) := by decide +kernel
theorem dL_law_860 : decode cL_law 860 = .ok (.iaload, 1) := by decide +kernel
theorem dL_law_861 : decode cL_law 861 = .ok (.aload_n 0, 1) := by decide +kernel
theorem dL_law_862 : decode cL_law 862 = .ok (.iload_n 3, 1) := by decide +kernel
theorem dL_law_863 : decode cL_law 863 = .ok (.iconst 3, 1) := by decide +kernel
theorem dL_law_864 : decode cL_law 864 = .ok (.iadd, 1) := by decide +kernel
theorem dL_law_865 : decode cL_law 865 = .ok (.iaload, 1) := by decide +kernel
theorem dL_law_866 : decode cL_law 866 = .ok (.invokevirtual 98, 3) := by decide +kernel
theorem dL_law_869 : decode cL_law 869 = .ok (.if_icmp .eq 437, 3) := by decide +kernel
theorem dL_law_872 : decode cL_law 872 = .ok (.iconst 0, 1) := by decide +kernel
theorem dL_law_873 : decode cL_law 873 = .ok (.ireturn, 1) := by decide +kernel
theorem dL_law_874 : decode cL_law 874 = .ok (.aload_n 1, 1) := by decide +kernel
theorem dL_law_875 : decode cL_law 875 = .ok (.aload_n 0, 1) := by decide +kernel
theorem dL_law_876 : decode cL_law 876 = .ok (.iload_n 3, 1) := by decide +kernel
theorem dL_law_877 : decode cL_law 877 = .ok (.iconst 1, 1) := by decide +kernel
theorem dL_law_878 : decode cL_law 878 = .ok (.iadd, 1) := by decide +kernel
theorem dL_law_879 : decode cL_law 879 = .ok (.iaload, 1) := by decide +kernel
theorem dL_law_880 : decode cL_law 880 = .ok (.aload_n 0, 1) := by decide +kernel
theorem dL_law_881 : decode cL_law 881 = .ok (.iload_n 3, 1) := by decide +kernel
theorem dL_law_882 : decode cL_law 882 = .ok (.iconst 2, 1) := by decide +kernel
theorem dL_law_883 : decode cL_law 883 = .ok (.iadd, 1) := by decide +kernel
theorem dL_law_884 : decode cL_law 884 = .ok (.iaload, 1) := by decide +kernel
theorem dL_law_885 : decode cL_law 885 = .ok (.aload_n 0, 1) := by decide +kernel
theorem dL_law_886 : decode cL_law 886 = .ok (.iload_n 3, 1) := by decide +kernel
theorem dL_law_887 : decode cL_law 887 = .ok (.iconst 3, 1) := by decide +kernel
theorem dL_law_888 : decode cL_law 888 = .ok (.iadd, 1) := by decide +kernel
theorem dL_law_889 : decode cL_law 889 = .ok (.iaload, 1) := by decide +kernel
theorem dL_law_890 : decode cL_law 890 = .ok (.invokevirtual 99, 3) := by decide +kernel
theorem dL_law_893 : decode cL_law 893 = .ok (.aload_n 2, 1) := by decide +kernel
theorem dL_law_894 : decode cL_law 894 = .ok (.aload_n 0, 1) := by decide +kernel
theorem dL_law_895 : decode cL_law 895 = .ok (.iload_n 3, 1) := by decide +kernel
theorem dL_law_896 : decode cL_law 896 = .ok (.iconst 1, 1) := by decide +kernel
theorem dL_law_897 : decode cL_law 897 = .ok (.iadd, 1) := by decide +kernel
theorem dL_law_898 : decode cL_law 898 = .ok (.iaload, 1) := by decide +kernel
theorem dL_law_899 : decode cL_law 899 = .ok (.aload_n 0, 1) := by decide +kernel
theorem dL_law_900 : decode cL_law 900 = .ok (.iload_n 3, 1) := by decide +kernel
theorem dL_law_901 : decode cL_law 901 = .ok (.iconst 2, 1) := by decide +kernel
theorem dL_law_902 : decode cL_law 902 = .ok (.iadd, 1) := by decide +kernel
theorem dL_law_903 : decode cL_law 903 = .ok (.iaload, 1) := by decide +kernel
theorem dL_law_904 : decode cL_law 904 = .ok (.aload_n 0, 1) := by decide +kernel
theorem dL_law_905 : decode cL_law 905 = .ok (.iload_n 3, 1) := by decide +kernel
theorem dL_law_906 : decode cL_law 906 = .ok (.iconst 3, 1) := by decide +kernel
theorem dL_law_907 : decode cL_law 907 = .ok (.iadd, 1) := by decide +kernel
theorem dL_law_908 : decode cL_law 908 = .ok (.iaload, 1) := by decide +kernel
theorem dL_law_909 : decode cL_law 909 = .ok (.invokevirtual 102, 3) := by decide +kernel
theorem dL_law_912 : decode cL_law 912 = .ok (.if_icmp .eq 394, 3) := by decide +kernel
theorem dL_law_915 : decode cL_law 915 = .ok (.iconst 0, 1) := by decide +kernel
theorem dL_law_916 : decode cL_law 916 = .ok (.ireturn, 1) := by decide +kernel
theorem dL_law_917 : decode cL_law 917 = .ok (.aload_n 1, 1) := by decide +kernel
theorem dL_law_918 : decode cL_law 918 = .ok (.aload_n 0, 1) := by decide +kernel
theorem dL_law_919 : decode cL_law 919 = .ok (.iload_n 3, 1) := by decide +kernel
theorem dL_law_920 : decode cL_law 920 = .ok (.iconst 1, 1) := by decide +kernel
theorem dL_law_921 : decode cL_law 921 = .ok (.iadd, 1) := by decide +kernel
theorem dL_law_922 : decode cL_law 922 = .ok (.iaload, 1) := by decide +kernel
theorem dL_law_923 : decode cL_law 923 = .ok (.aload_n 0, 1) := by decide +kernel
theorem dL_law_924 : decode cL_law 924 = .ok (.iload_n 3, 1) := by decide +kernel
theorem dL_law_925 : decode cL_law 925 = .ok (.iconst 2, 1) := by decide +kernel
theorem dL_law_926 : decode cL_law 926 = .ok (.iadd, 1) := by decide +kernel
theorem dL_law_927 : decode cL_law 927 = .ok (.iaload, 1) := by decide +kernel
theorem dL_law_928 : decode cL_law 928 = .ok (.invokevirtual 103, 3) := by decide +kernel
theorem dL_law_931 : decode cL_law 931 = .ok (.aload_n 2, 1) := by decide +kernel
theorem dL_law_932 : decode cL_law 932 = .ok (.aload_n 0, 1) := by decide +kernel
theorem dL_law_933 : decode cL_law 933 = .ok (.iload_n 3, 1) := by decide +kernel
theorem dL_law_934 : decode cL_law 934 = .ok (.iconst 1, 1) := by decide +kernel
theorem dL_law_935 : decode cL_law 935 = .ok (.iadd, 1) := by decide +kernel
theorem dL_law_936 : decode cL_law 936 = .ok (.iaload, 1) := by decide +kernel
theorem dL_law_937 : decode cL_law 937 = .ok (.aload_n 0, 1) := by decide +kernel
theorem dL_law_938 : decode cL_law 938 = .ok (.iload_n 3, 1) := by decide +kernel
theorem dL_law_939 : decode cL_law 939 = .ok (.iconst 2, 1) := by decide +kernel
theorem dL_law_940 : decode cL_law 940 = .ok (.iadd, 1) := by decide +kernel
theorem dL_law_941 : decode cL_law 941 = .ok (.iaload, 1) := by decide +kernel
theorem dL_law_942 : decode cL_law 942 = .ok (.invokevirtual 106, 3) := by decide +kernel
theorem dL_law_945 : decode cL_law 945 = .ok (.if_icmp .eq 361, 3) := by decide +kernel
theorem dL_law_948 : decode cL_law 948 = .ok (.iconst 0, 1) := by decide +kernel
theorem dL_law_949 : decode cL_law 949 = .ok (.ireturn, 1) := by decide +kernel
theorem dL_law_950 : decode cL_law 950 = .ok (.aload_n 1, 1) := by decide +kernel
theorem dL_law_951 : decode cL_law 951 = .ok (.aload_n 0, 1) := by decide +kernel
theorem dL_law_952 : decode cL_law 952 = .ok (.iload_n 3, 1) := by decide +kernel
theorem dL_law_953 : decode cL_law 953 = .ok (.iconst 1, 1) := by decide +kernel
theorem dL_law_954 : decode cL_law 954 = .ok (.iadd, 1) := by decide +kernel
theorem dL_law_955 : decode cL_law 955 = .ok (.iaload, 1) := by decide +kernel
theorem dL_law_956 : decode cL_law 956 = .ok (.aload_n 0, 1) := by decide +kernel
theorem dL_law_957 : decode cL_law 957 = .ok (.iload_n 3, 1) := by decide +kernel
theorem dL_law_958 : decode cL_law 958 = .ok (.iconst 2, 1) := by decide +kernel
theorem dL_law_959 : decode cL_law 959 = .ok (.iadd, 1) := by decide +kernel
theorem dL_law_960 : decode cL_law 960 = .ok (.iaload, 1) := by decide +kernel
theorem dL_law_961 : decode cL_law 961 = .ok (.aload_n 0, 1) := by decide +kernel
theorem dL_law_962 : decode cL_law 962 = .ok (.iload_n 3, 1) := by decide +kernel
theorem dL_law_963 : decode cL_law 963 = .ok (.iconst 3, 1) := by decide +kernel
theorem dL_law_964 : decode cL_law 964 = .ok (.iadd, 1) := by decide +kernel
theorem dL_law_965 : decode cL_law 965 = .ok (.iaload, 1) := by decide +kernel
theorem dL_law_966 : decode cL_law 966 = .ok (.aload_n 0, 1) := by decide +kernel
theorem dL_law_967 : decode cL_law 967 = .ok (.iload_n 3, 1) := by decide +kernel
theorem dL_law_968 : decode cL_law 968 = .ok (.iconst 4, 1) := by decide +kernel
theorem dL_law_969 : decode cL_law 969 = .ok (.iadd, 1) := by decide +kernel
theorem dL_law_970 : decode cL_law 970 = .ok (.iaload, 1) := by decide +kernel
theorem dL_law_971 : decode cL_law 971 = .ok (.invokevirtual 107, 3) := by decide +kernel
theorem dL_law_974 : decode cL_law 974 = .ok (.aload_n 2, 1) := by decide +kernel
theorem dL_law_975 : decode cL_law 975 = .ok (.aload_n 0, 1) := by decide +kernel
theorem dL_law_976 : decode cL_law 976 = .ok (.iload_n 3, 1) := by decide +kernel
theorem dL_law_977 : decode cL_law 977 = .ok (.iconst 1, 1) := by decide +kernel
theorem dL_law_978 : decode cL_law 978 = .ok (.iadd, 1) := by decide +kernel
theorem dL_law_979 : decode cL_law 979 = .ok (.iaload, 1) := by decide +kernel
theorem dL_law_980 : decode cL_law 980 = .ok (.aload_n 0, 1) := by decide +kernel
theorem dL_law_981 : decode cL_law 981 = .ok (.iload_n 3, 1) := by decide +kernel
theorem dL_law_982 : decode cL_law 982 = .ok (.iconst 2, 1) := by decide +kernel
theorem dL_law_983 : decode cL_law 983 = .ok (.iadd, 1) := by decide +kernel
theorem dL_law_984 : decode cL_law 984 = .ok (.iaload, 1) := by decide +kernel
theorem dL_law_985 : decode cL_law 985 = .ok (.aload_n 0, 1) := by decide +kernel
theorem dL_law_986 : decode cL_law 986 = .ok (.iload_n 3, 1) := by decide +kernel
theorem dL_law_987 : decode cL_law 987 = .ok (.iconst 3, 1) := by decide +kernel
theorem dL_law_988 : decode cL_law 988 = .ok (.iadd, 1) := by decide +kernel
theorem dL_law_989 : decode cL_law 989 = .ok (.iaload, 1) := by decide +kernel
theorem dL_law_990 : decode cL_law 990 = .ok (.aload_n 0, 1) := by decide +kernel
theorem dL_law_991 : decode cL_law 991 = .ok (.iload_n 3, 1) := by decide +kernel
theorem dL_law_992 : decode cL_law 992 = .ok (.iconst 4, 1) := by decide +kernel
theorem dL_law_993 : decode cL_law 993 = .ok (.iadd, 1) := by decide +kernel
theorem dL_law_994 : decode cL_law 994 = .ok (.iaload, 1) := by decide +kernel
theorem dL_law_995 : decode cL_law 995 = .ok (.invokevirtual 110, 3) := by decide +kernel
theorem dL_law_998 : decode cL_law 998 = .ok (.if_icmp .eq 308, 3) := by decide +kernel
theorem dL_law_1001 : decode cL_law 1001 = .ok (.iconst 0, 1) := by decide +kernel
theorem dL_law_1002 : decode cL_law 1002 = .ok (.ireturn, 1) := by decide +kernel
theorem dL_law_1003 : decode cL_law 1003 = .ok (.aload_n 1, 1) := by decide +kernel
theorem dL_law_1004 : decode cL_law 1004 = .ok (.aload_n 0, 1) := by decide +kernel
theorem dL_law_1005 : decode cL_law 1005 = .ok (.iload_n 3, 1) := by decide +kernel
theorem dL_law_1006 : decode cL_law 1006 = .ok (.iconst 1, 1) := by decide +kernel
theorem dL_law_1007 : decode cL_law 1007 = .ok (.iadd, 1) := by decide +kernel
theorem dL_law_1008 : decode cL_law 1008 = .ok (.iaload, 1) := by decide +kernel
theorem dL_law_1009 : decode cL_law 1009 = .ok (.aload_n 0, 1) := by decide +kernel
theorem dL_law_1010 : decode cL_law 1010 = .ok (.iload_n 3, 1) := by decide +kernel
theorem dL_law_1011 : decode cL_law 1011 = .ok (.iconst 2, 1) := by decide +kernel
theorem dL_law_1012 : decode cL_law 1012 = .ok (.iadd, 1) := by decide +kernel
theorem dL_law_1013 : decode cL_law 1013 = .ok (.iaload, 1) := by decide +kernel
theorem dL_law_1014 : decode cL_law 1014 = .ok (.aload_n 0, 1) := by decide +kernel
theorem dL_law_1015 : decode cL_law 1015 = .ok (.iload_n 3, 1) := by decide +kernel
theorem dL_law_1016 : decode cL_law 1016 = .ok (.iconst 3, 1) := by decide +kernel
theorem dL_law_1017 : decode cL_law 1017 = .ok (.iadd, 1) := by decide +kernel
theorem dL_law_1018 : decode cL_law 1018 = .ok (.iaload, 1) := by decide +kernel
theorem dL_law_1019 : decode cL_law 1019 = .ok (.invokevirtual 111, 3) := by decide +kernel
theorem dL_law_1022 : decode cL_law 1022 = .ok (.aload_n 2, 1) := by decide +kernel
theorem dL_law_1023 : decode cL_law 1023 = .ok (.aload_n 0, 1) := by decide +kernel
theorem dL_law_1024 : decode cL_law 1024 = .ok (.iload_n 3, 1) := by decide +kernel
theorem dL_law_1025 : decode cL_law 1025 = .ok (.iconst 1, 1) := by decide +kernel
theorem dL_law_1026 : decode cL_law 1026 = .ok (.iadd, 1) := by decide +kernel
theorem dL_law_1027 : decode cL_law 1027 = .ok (.iaload, 1) := by decide +kernel
theorem dL_law_1028 : decode cL_law 1028 = .ok (.aload_n 0, 1) := by decide +kernel
theorem dL_law_1029 : decode cL_law 1029 = .ok (.iload_n 3, 1) := by decide +kernel
theorem dL_law_1030 : decode cL_law 1030 = .ok (.iconst 2, 1) := by decide +kernel
theorem dL_law_1031 : decode cL_law 1031 = .ok (.iadd, 1) := by decide +kernel
theorem dL_law_1032 : decode cL_law 1032 = .ok (.iaload, 1) := by decide +kernel
theorem dL_law_1033 : decode cL_law 1033 = .ok (.aload_n 0, 1) := by decide +kernel
theorem dL_law_1034 : decode cL_law 1034 = .ok (.iload_n 3, 1) := by decide +kernel
theorem dL_law_1035 : decode cL_law 1035 = .ok (.iconst 3, 1) := by decide +kernel
theorem dL_law_1036 : decode cL_law 1036 = .ok (.iadd, 1) := by decide +kernel
theorem dL_law_1037 : decode cL_law 1037 = .ok (.iaload, 1) := by decide +kernel
theorem dL_law_1038 : decode cL_law 1038 = .ok (.invokevirtual 114, 3) := by decide +kernel
theorem dL_law_1041 : decode cL_law 1041 = .ok (.if_icmp .eq 265, 3) := by decide +kernel
theorem dL_law_1044 : decode cL_law 1044 = .ok (.iconst 0, 1) := by decide +kernel
theorem dL_law_1045 : decode cL_law 1045 = .ok (.ireturn, 1) := by decide +kernel
theorem dL_law_1046 : decode cL_law 1046 = .ok (.aload_n 1, 1) := by decide +kernel
theorem dL_law_1047 : decode cL_law 1047 = .ok (.aload_n 0, 1) := by decide +kernel
theorem dL_law_1048 : decode cL_law 1048 = .ok (.iload_n 3, 1) := by decide +kernel
theorem dL_law_1049 : decode cL_law 1049 = .ok (.iconst 1, 1) := by decide +kernel
theorem dL_law_1050 : decode cL_law 1050 = .ok (.iadd, 1) := by decide +kernel
theorem dL_law_1051 : decode cL_law 1051 = .ok (.iaload, 1) := by decide +kernel
theorem dL_law_1052 : decode cL_law 1052 = .ok (.aload_n 0, 1) := by decide +kernel
theorem dL_law_1053 : decode cL_law 1053 = .ok (.iload_n 3, 1) := by decide +kernel
theorem dL_law_1054 : decode cL_law 1054 = .ok (.iconst 2, 1) := by decide +kernel
theorem dL_law_1055 : decode cL_law 1055 = .ok (.iadd, 1) := by decide +kernel
theorem dL_law_1056 : decode cL_law 1056 = .ok (.iaload, 1) := by decide +kernel
theorem dL_law_1057 : decode cL_law 1057 = .ok (.aload_n 0, 1) := by decide +kernel
theorem dL_law_1058 : decode cL_law 1058 = .ok (.iload_n 3, 1) := by decide +kernel
theorem dL_law_1059 : decode cL_law 1059 = .ok (.iconst 3, 1) := by decide +kernel
theorem dL_law_1060 : decode cL_law 1060 = .ok (.iadd, 1) := by decide +kernel
theorem dL_law_1061 : decode cL_law 1061 = .ok (.iaload, 1) := by decide +kernel
theorem dL_law_1062 : decode cL_law 1062 = .ok (.invokevirtual 115, 3) := by decide +kernel
theorem dL_law_1065 : decode cL_law 1065 = .ok (.aload_n 2, 1) := by decide +kernel
theorem dL_law_1066 : decode cL_law 1066 = .ok (.aload_n 0, 1) := by decide +kernel
theorem dL_law_1067 : decode cL_law 1067 = .ok (.iload_n 3, 1) := by decide +kernel
theorem dL_law_1068 : decode cL_law 1068 = .ok (.iconst 1, 1) := by decide +kernel
theorem dL_law_1069 : decode cL_law 1069 = .ok (.iadd, 1) := by decide +kernel
theorem dL_law_1070 : decode cL_law 1070 = .ok (.iaload, 1) := by decide +kernel
theorem dL_law_1071 : decode cL_law 1071 = .ok (.aload_n 0, 1) := by decide +kernel
theorem dL_law_1072 : decode cL_law 1072 = .ok (.iload_n 3, 1) := by decide +kernel
theorem dL_law_1073 : decode cL_law 1073 = .ok (.iconst 2, 1) := by decide +kernel
theorem dL_law_1074 : decode cL_law 1074 = .ok (.iadd, 1) := by decide +kernel
theorem dL_law_1075 : decode cL_law 1075 = .ok (.iaload, 1) := by decide +kernel
theorem dL_law_1076 : decode cL_law 1076 = .ok (.aload_n 0, 1) := by decide +kernel
theorem dL_law_1077 : decode cL_law 1077 = .ok (.iload_n 3, 1) := by decide +kernel
theorem dL_law_1078 : decode cL_law 1078 = .ok (.iconst 3, 1) := by decide +kernel
theorem dL_law_1079 : decode cL_law 1079 = .ok (.iadd, 1) := by decide +kernel
theorem dL_law_1080 : decode cL_law 1080 = .ok (.iaload, 1) := by decide +kernel
theorem dL_law_1081 : decode cL_law 1081 = .ok (.invokevirtual 118, 3) := by decide +kernel
theorem dL_law_1084 : decode cL_law 1084 = .ok (.if_icmp .eq 222, 3) := by decide +kernel
theorem dL_law_1087 : decode cL_law 1087 = .ok (.iconst 0, 1) := by decide +kernel
theorem dL_law_1088 : decode cL_law 1088 = .ok (.ireturn, 1) := by decide +kernel
theorem dL_law_1089 : decode cL_law 1089 = .ok (.aload_n 1, 1) := by decide +kernel
theorem dL_law_1090 : decode cL_law 1090 = .ok (.aload_n 0, 1) := by decide +kernel
theorem dL_law_1091 : decode cL_law 1091 = .ok (.iload_n 3, 1) := by decide +kernel
theorem dL_law_1092 : decode cL_law 1092 = .ok (.iconst 1, 1) := by decide +kernel
theorem dL_law_1093 : decode cL_law 1093 = .ok (.iadd, 1) := by decide +kernel
theorem dL_law_1094 : decode cL_law 1094 = .ok (.iaload, 1) := by decide +kernel
theorem dL_law_1095 : decode cL_law 1095 = .ok (.invokevirtual 119, 3) := by decide +kernel
theorem dL_law_1098 : decode cL_law 1098 = .ok (.aload_n 2, 1) := by decide +kernel
theorem dL_law_1099 : decode cL_law 1099 = .ok (.aload_n 0, 1) := by decide +kernel
theorem dL_law_1100 : decode cL_law 1100 = .ok (.iload_n 3, 1) := by decide +kernel
theorem dL_law_1101 : decode cL_law 1101 = .ok (.iconst 1, 1) := by decide +kernel
theorem dL_law_1102 : decode cL_law 1102 = .ok (.iadd, 1) := by decide +kernel
theorem dL_law_1103 : decode cL_law 1103 = .ok (.iaload, 1) := by decide +kernel
theorem dL_law_1104 : decode cL_law 1104 = .ok (.invokevirtual 122, 3) := by decide +kernel
theorem dL_law_1107 : decode cL_law 1107 = .ok (.if_icmp .eq 199, 3) := by decide +kernel
theorem dL_law_1110 : decode cL_law 1110 = .ok (.iconst 0, 1) := by decide +kernel
theorem dL_law_1111 : decode cL_law 1111 = .ok (.ireturn, 1) := by decide +kernel
theorem dL_law_1112 : decode cL_law 1112 = .ok (.aload_n 1, 1) := by decide +kernel
theorem dL_law_1113 : decode cL_law 1113 = .ok (.aload_n 0, 1) := by decide +kernel
theorem dL_law_1114 : decode cL_law 1114 = .ok (.iload_n 3, 1) := by decide +kernel
theorem dL_law_1115 : decode cL_law 1115 = .ok (.iconst 1, 1) := by decide +kernel
theorem dL_law_1116 : decode cL_law 1116 = .ok (.iadd, 1) := by decide +kernel
theorem dL_law_1117 : decode cL_law 1117 = .ok (.iaload, 1) := by decide +kernel
theorem dL_law_1118 : decode cL_law 1118 = .ok (.invokevirtual 123, 3) := by decide +kernel
theorem dL_law_1121 : decode cL_law 1121 = .ok (.aload_n 2, 1) := by decide +kernel
theorem dL_law_1122 : decode cL_law 1122 = .ok (.aload_n 0, 1) := by decide +kernel
theorem dL_law_1123 : decode cL_law 1123 = .ok (.iload_n 3, 1) := by decide +kernel
theorem dL_law_1124 : decode cL_law 1124 = .ok (.iconst 1, 1) := by decide +kernel
theorem dL_law_1125 : decode cL_law 1125 = .ok (.iadd, 1) := by decide +kernel
theorem dL_law_1126 : decode cL_law 1126 = .ok (.iaload, 1) := by decide +kernel
theorem dL_law_1127 : decode cL_law 1127 = .ok (.invokevirtual 126, 3) := by decide +kernel
theorem dL_law_1130 : decode cL_law 1130 = .ok (.if_icmp .eq 176, 3) := by decide +kernel
theorem dL_law_1133 : decode cL_law 1133 = .ok (.iconst 0, 1) := by decide +kernel
theorem dL_law_1134 : decode cL_law 1134 = .ok (.ireturn, 1) := by decide +kernel
theorem dL_law_1135 : decode cL_law 1135 = .ok (.aload_n 1, 1) := by decide +kernel
theorem dL_law_1136 : decode cL_law 1136 = .ok (.aload_n 0, 1) := by decide +kernel
theorem dL_law_1137 : decode cL_law 1137 = .ok (.iload_n 3, 1) := by decide +kernel
theorem dL_law_1138 : decode cL_law 1138 = .ok (.iconst 1, 1) := by decide +kernel
theorem dL_law_1139 : decode cL_law 1139 = .ok (.iadd, 1) := by decide +kernel
theorem dL_law_1140 : decode cL_law 1140 = .ok (.iaload, 1) := by decide +kernel
theorem dL_law_1141 : decode cL_law 1141 = .ok (.invokevirtual 127, 3) := by decide +kernel
theorem dL_law_1144 : decode cL_law 1144 = .ok (.aload_n 2, 1) := by decide +kernel
theorem dL_law_1145 : decode cL_law 1145 = .ok (.aload_n 0, 1) := by decide +kernel
theorem dL_law_1146 : decode cL_law 1146 = .ok (.iload_n 3, 1) := by decide +kernel
theorem dL_law_1147 : decode cL_law 1147 = .ok (.iconst 1, 1) := by decide +kernel
theorem dL_law_1148 : decode cL_law 1148 = .ok (.iadd, 1) := by decide +kernel
theorem dL_law_1149 : decode cL_law 1149 = .ok (.iaload, 1) := by decide +kernel
theorem dL_law_1150 : decode cL_law 1150 = .ok (.invokevirtual 130, 3) := by decide +kernel
theorem dL_law_1153 : decode cL_law 1153 = .ok (.if_icmp .eq 153, 3) := by decide +kernel
theorem dL_law_1156 : decode cL_law 1156 = .ok (.iconst 0, 1) := by decide +kernel
theorem dL_law_1157 : decode cL_law 1157 = .ok (.ireturn, 1) := by decide +kernel
theorem dL_law_1158 : decode cL_law 1158 = .ok (.aload_n 1, 1) := by decide +kernel
theorem dL_law_1159 : decode cL_law 1159 = .ok (.aload_n 0, 1) := by decide +kernel
theorem dL_law_1160 : decode cL_law 1160 = .ok (.iload_n 3, 1) := by decide +kernel
theorem dL_law_1161 : decode cL_law 1161 = .ok (.iconst 1, 1) := by decide +kernel
theorem dL_law_1162 : decode cL_law 1162 = .ok (.iadd, 1) := by decide +kernel
theorem dL_law_1163 : decode cL_law 1163 = .ok (.iaload, 1) := by decide +kernel
theorem dL_law_1164 : decode cL_law 1164 = .ok (.invokevirtual 131, 3) := by decide +kernel
theorem dL_law_1167 : decode cL_law 1167 = .ok (.aload_n 2, 1) := by decide +kernel
theorem dL_law_1168 : decode cL_law 1168 = .ok (.aload_n 0, 1) := by decide +kernel
theorem dL_law_1169 : decode cL_law 1169 = .ok (.iload_n 3, 1) := by decide +kernel
theorem dL_law_1170 : decode cL_law 1170 = .ok (.iconst 1, 1) := by decide +kernel
theorem dL_law_1171 : decode cL_law 1171 = .ok (.iadd, 1) := by decide +kernel
theorem dL_law_1172 : decode cL_law 1172 = .ok (.iaload, 1) := by decide +kernel
theorem dL_law_1173 : decode cL_law 1173 = .ok (.invokevirtual 134, 3) := by decide +kernel
theorem dL_law_1176 : decode cL_law 1176 = .ok (.if_icmp .eq 130, 3) := by decide +kernel
theorem dL_law_1179 : decode cL_law 1179 = .ok (.iconst 0, 1) := by decide +kernel
theorem dL_law_1180 : decode cL_law 1180 = .ok (.ireturn, 1) := by decide +kernel
theorem dL_law_1181 : decode cL_law 1181 = .ok (.aload_n 1, 1) := by decide +kernel
theorem dL_law_1182 : decode cL_law 1182 = .ok (.aload_n 0, 1) := by decide +kernel
theorem dL_law_1183 : decode cL_law 1183 = .ok (.iload_n 3, 1) := by decide +kernel
theorem dL_law_1184 : decode cL_law 1184 = .ok (.iconst 1, 1) := by decide +kernel
theorem dL_law_1185 : decode cL_law 1185 = .ok (.iadd, 1) := by decide +kernel
theorem dL_law_1186 : decode cL_law 1186 = .ok (.iaload, 1) := by decide +kernel
theorem dL_law_1187 : decode cL_law 1187 = .ok (.aload_n 0, 1) := by decide +kernel
theorem dL_law_1188 : decode cL_law 1188 = .ok (.iload_n 3, 1) := by decide +kernel
theorem dL_law_1189 : decode cL_law 1189 = .ok (.iconst 2, 1) := by decide +kernel
theorem dL_law_1190 : decode cL_law 1190 = .ok (.iadd, 1) := by decide +kernel
theorem dL_law_1191 : decode cL_law 1191 = .ok (.iaload, 1) := by decide +kernel
theorem dL_law_1192 : decode cL_law 1192 = .ok (.invokevirtual 135, 3) := by decide +kernel
theorem dL_law_1195 : decode cL_law 1195 = .ok (.aload_n 2, 1) := by decide +kernel
theorem dL_law_1196 : decode cL_law 1196 = .ok (.aload_n 0, 1) := by decide +kernel
theorem dL_law_1197 : decode cL_law 1197 = .ok (.iload_n 3, 1) := by decide +kernel
theorem dL_law_1198 : decode cL_law 1198 = .ok (.iconst 1, 1) := by decide +kernel
theorem dL_law_1199 : decode cL_law 1199 = .ok (.iadd, 1) := by decide +kernel
theorem dL_law_1200 : decode cL_law 1200 = .ok (.iaload, 1) := by decide +kernel
theorem dL_law_1201 : decode cL_law 1201 = .ok (.aload_n 0, 1) := by decide +kernel
theorem dL_law_1202 : decode cL_law 1202 = .ok (.iload_n 3, 1) := by decide +kernel
theorem dL_law_1203 : decode cL_law 1203 = .ok (.iconst 2, 1) := by decide +kernel
theorem dL_law_1204 : decode cL_law 1204 = .ok (.iadd, 1) := by decide +kernel
theorem dL_law_1205 : decode cL_law 1205 = .ok (.iaload, 1) := by decide +kernel
theorem dL_law_1206 : decode cL_law 1206 = .ok (.invokevirtual 138, 3) := by decide +kernel
theorem dL_law_1209 : decode cL_law 1209 = .ok (.if_icmp .eq 97, 3) := by decide +kernel
theorem dL_law_1212 : decode cL_law 1212 = .ok (.iconst 0, 1) := by decide +kernel
theorem dL_law_1213 : decode cL_law 1213 = .ok (.ireturn, 1) := by decide +kernel
theorem dL_law_1214 : decode cL_law 1214 = .ok (.aload_n 1, 1) := by decide +kernel
theorem dL_law_1215 : decode cL_law 1215 = .ok (.aload_n 0, 1) := by decide +kernel
theorem dL_law_1216 : decode cL_law 1216 = .ok (.iload_n 3, 1) := by decide +kernel
theorem dL_law_1217 : decode cL_law 1217 = .ok (.iconst 1, 1) := by decide +kernel
theorem dL_law_1218 : decode cL_law 1218 = .ok (.iadd, 1) := by decide +kernel
theorem dL_law_1219 : decode cL_law 1219 = .ok (.iaload, 1) := by decide +kernel
theorem dL_law_1220 : decode cL_law 1220 = .ok (.aload_n 0, 1) := by decide +kernel
theorem dL_law_1221 : decode cL_law 1221 = .ok (.iload_n 3, 1) := by decide +kernel
theorem dL_law_1222 : decode cL_law 1222 = .ok (.iconst 2, 1) := by decide +kernel
theorem dL_law_1223 : decode cL_law 1223 = .ok (.iadd, 1) := by decide +kernel
theorem dL_law_1224 : decode cL_law 1224 = .ok (.iaload, 1) := by decide +kernel
theorem dL_law_1225 : decode cL_law 1225 = .ok (.invokevirtual 139, 3) := by decide +kernel
theorem dL_law_1228 : decode cL_law 1228 = .ok (.aload_n 2, 1) := by decide +kernel
theorem dL_law_1229 : decode cL_law 1229 = .ok (.aload_n 0, 1) := by decide +kernel
theorem dL_law_1230 : decode cL_law 1230 = .ok (.iload_n 3, 1) := by decide +kernel
theorem dL_law_1231 : decode cL_law 1231 = .ok (.iconst 1, 1) := by decide +kernel
theorem dL_law_1232 : decode cL_law 1232 = .ok (.iadd, 1) := by decide +kernel
theorem dL_law_1233 : decode cL_law 1233 = .ok (.iaload, 1) := by decide +kernel
theorem dL_law_1234 : decode cL_law 1234 = .ok (.aload_n 0, 1) := by decide +kernel
theorem dL_law_1235 : decode cL_law 1235 = .ok (.iload_n 3, 1) := by decide +kernel
theorem dL_law_1236 : decode cL_law 1236 = .ok (.iconst 2, 1) := by decide +kernel
theorem dL_law_1237 : decode cL_law 1237 = .ok (.iadd, 1) := by decide +kernel
theorem dL_law_1238 : decode cL_law 1238 = .ok (.iaload, 1) := by decide +kernel
theorem dL_law_1239 : decode cL_law 1239 = .ok (.invokevirtual 142, 3) := by decide +kernel
theorem dL_law_1242 : decode cL_law 1242 = .ok (.if_icmp .eq 64, 3) := by decide +kernel
theorem dL_law_1245 : decode cL_law 1245 = .ok (.iconst 0, 1) := by decide +kernel
theorem dL_law_1246 : decode cL_law 1246 = .ok (.ireturn, 1) := by decide +kernel
theorem dL_law_1247 : decode cL_law 1247 = .ok (.aload_n 1, 1) := by decide +kernel
theorem dL_law_1248 : decode cL_law 1248 = .ok (.aload_n 0, 1) := by decide +kernel
theorem dL_law_1249 : decode cL_law 1249 = .ok (.iload_n 3, 1) := by decide +kernel
theorem dL_law_1250 : decode cL_law 1250 = .ok (.iconst 1, 1) := by decide +kernel
theorem dL_law_1251 : decode cL_law 1251 = .ok (.iadd, 1) := by decide +kernel
theorem dL_law_1252 : decode cL_law 1252 = .ok (.iaload, 1) := by decide +kernel
theorem dL_law_1253 : decode cL_law 1253 = .ok (.invokevirtual 143, 3) := by decide +kernel
theorem dL_law_1256 : decode cL_law 1256 = .ok (.aload_n 2, 1) := by decide +kernel
theorem dL_law_1257 : decode cL_law 1257 = .ok (.aload_n 0, 1) := by decide +kernel
theorem dL_law_1258 : decode cL_law 1258 = .ok (.iload_n 3, 1) := by decide +kernel
theorem dL_law_1259 : decode cL_law 1259 = .ok (.iconst 1, 1) := by decide +kernel
theorem dL_law_1260 : decode cL_law 1260 = .ok (.iadd, 1) := by decide +kernel
theorem dL_law_1261 : decode cL_law 1261 = .ok (.iaload, 1) := by decide +kernel
theorem dL_law_1262 : decode cL_law 1262 = .ok (.invokevirtual 146, 3) := by decide +kernel
theorem dL_law_1265 : decode cL_law 1265 = .ok (.if_icmp .eq 41, 3) := by decide +kernel
theorem dL_law_1268 : decode cL_law 1268 = .ok (.iconst 0, 1) := by decide +kernel
theorem dL_law_1269 : decode cL_law 1269 = .ok (.ireturn, 1) := by decide +kernel
theorem dL_law_1270 : decode cL_law 1270 = .ok (.aload_n 1, 1) := by decide +kernel
theorem dL_law_1271 : decode cL_law 1271 = .ok (.aload_n 0, 1) := by decide +kernel
theorem dL_law_1272 : decode cL_law 1272 = .ok (.iload_n 3, 1) := by decide +kernel
theorem dL_law_1273 : decode cL_law 1273 = .ok (.iconst 1, 1) := by decide +kernel
theorem dL_law_1274 : decode cL_law 1274 = .ok (.iadd, 1) := by decide +kernel
theorem dL_law_1275 : decode cL_law 1275 = .ok (.iaload, 1) := by decide +kernel
theorem dL_law_1276 : decode cL_law 1276 = .ok (.invokevirtual 147, 3) := by decide +kernel
theorem dL_law_1279 : decode cL_law 1279 = .ok (.aload_n 2, 1) := by decide +kernel
theorem dL_law_1280 : decode cL_law 1280 = .ok (.aload_n 0, 1) := by decide +kernel
theorem dL_law_1281 : decode cL_law 1281 = .ok (.iload_n 3, 1) := by decide +kernel
theorem dL_law_1282 : decode cL_law 1282 = .ok (.iconst 1, 1) := by decide +kernel
theorem dL_law_1283 : decode cL_law 1283 = .ok (.iadd, 1) := by decide +kernel
theorem dL_law_1284 : decode cL_law 1284 = .ok (.iaload, 1) := by decide +kernel
theorem dL_law_1285 : decode cL_law 1285 = .ok (.invokevirtual 150, 3) := by decide +kernel
theorem dL_law_1288 : decode cL_law 1288 = .ok (.if_icmp .eq 18, 3) := by decide +kernel
theorem dL_law_1291 : decode cL_law 1291 = .ok (.iconst 0, 1) := by decide +kernel
theorem dL_law_1292 : decode cL_law 1292 = .ok (.ireturn, 1) := by decide +kernel
theorem dL_law_1293 : decode cL_law 1293 = .ok (.aload_n 1, 1) := by decide +kernel
theorem dL_law_1294 : decode cL_law 1294 = .ok (.invokevirtual 151, 3) := by decide +kernel
theorem dL_law_1297 : decode cL_law 1297 = .ok (.aload_n 2, 1) := by decide +kernel
theorem dL_law_1298 : decode cL_law 1298 = .ok (.invokevirtual 154, 3) := by decide +kernel
theorem dL_law_1301 : decode cL_law 1301 = .ok (.if_icmp .eq 5, 3) := by decide +kernel
theorem dL_law_1304 : decode cL_law 1304 = .ok (.iconst 0, 1) := by decide +kernel
theorem dL_law_1305 : decode cL_law 1305 = .ok (.ireturn, 1) := by decide +kernel
theorem dL_law_1306 : decode cL_law 1306 = .ok (.iinc 3 6, 3) := by decide +kernel
theorem dL_law_1309 : decode cL_law 1309 = .ok (.goto (-1291), 3) := by decide +kernel
theorem dL_law_1312 : decode cL_law 1312 = .ok (.iconst 1, 1) := by decide +kernel
theorem dL_law_1313 : decode cL_law 1313 = .ok (.ireturn, 1) := by decide +kernel
end
section
/-- the pure heap: how many cells; the kind of each; lengths; whole numbers; references (addresses count from 0) -/
abbrev hp : Type := Nat × (Nat → Nat) × (Nat → Nat) × (Nat → Nat → Int32) × (Nat → Nat → Option Nat)
def hC (S : hp) : Nat := S.1
def hK (S : hp) : Nat → Nat := S.2.1
def hN (S : hp) : Nat → Nat := S.2.2.1
def hI (S : hp) : Nat → Nat → Int32 := S.2.2.2.1
def hR (S : hp) : Nat → Nat → Option Nat := S.2.2.2.2
def setI (S : hp) (a k : Nat) (v : Int32) : hp := (S.1, S.2.1, S.2.2.1, (fun b j => if b = a ∧ j = k then v else S.2.2.2.1 b j), S.2.2.2.2)
def setR (S : hp) (a k : Nat) (v : Option Nat) : hp := (S.1, S.2.1, S.2.2.1, S.2.2.2.1, (fun b j => if b = a ∧ j = k then v else S.2.2.2.2 b j))
def cpyI (S : hp) (a d sp dp n : Nat) : hp := (S.1, S.2.1, S.2.2.1, (fun b j => if b = d ∧ dp ≤ j ∧ j < dp + n then S.2.2.2.1 a (sp + (j - dp)) else S.2.2.2.1 b j), S.2.2.2.2)
def newC (S : hp) (kd n : Nat) : hp := (S.1 + 1, (fun b => if b = S.1 then kd else S.2.1 b), (fun b => if b = S.1 then n else S.2.2.1 b), (fun b j => if b = S.1 then 0 else S.2.2.2.1 b j), (fun b j => if b = S.1 then none else S.2.2.2.2 b j))
/-- n int rows of length k behind one row of references to them -/
def newG (S : hp) (n k : Nat) : hp := (S.1 + (1 + n), (fun b => if b = S.1 then 16 else if S.1 < b ∧ b ≤ S.1 + n then 12 else S.2.1 b), (fun b => if b = S.1 then n else if S.1 < b ∧ b ≤ S.1 + n then k else S.2.2.1 b), (fun b j => if S.1 ≤ b ∧ b ≤ S.1 + n then 0 else S.2.2.2.1 b j), (fun b j => if b = S.1 then (if j < n then some (S.1 + 1 + j) else none) else if S.1 < b ∧ b ≤ S.1 + n then none else S.2.2.2.2 b j))
theorem hC_setI (S : hp) (a k : Nat) (v : Int32) : hC (setI S a k v) = hC S := rfl
theorem hK_setI (S : hp) (a k : Nat) (v : Int32) : hK (setI S a k v) = hK S := rfl
theorem hN_setI (S : hp) (a k : Nat) (v : Int32) : hN (setI S a k v) = hN S := rfl
theorem hR_setI (S : hp) (a k : Nat) (v : Int32) : hR (setI S a k v) = hR S := rfl
theorem hI_setI (S : hp) (a k : Nat) (v : Int32) (b j : Nat) : hI (setI S a k v) b j = if b = a ∧ j = k then v else hI S b j := rfl
theorem hC_setR (S : hp) (a k : Nat) (v : Option Nat) : hC (setR S a k v) = hC S := rfl
theorem hK_setR (S : hp) (a k : Nat) (v : Option Nat) : hK (setR S a k v) = hK S := rfl
theorem hN_setR (S : hp) (a k : Nat) (v : Option Nat) : hN (setR S a k v) = hN S := rfl
theorem hI_setR (S : hp) (a k : Nat) (v : Option Nat) : hI (setR S a k v) = hI S := rfl
theorem hR_setR (S : hp) (a k : Nat) (v : Option Nat) (b j : Nat) : hR (setR S a k v) b j = if b = a ∧ j = k then v else hR S b j := rfl
theorem hC_cpyI (S : hp) (a d sp dp n : Nat) : hC (cpyI S a d sp dp n) = hC S := rfl
theorem hK_cpyI (S : hp) (a d sp dp n : Nat) : hK (cpyI S a d sp dp n) = hK S := rfl
theorem hN_cpyI (S : hp) (a d sp dp n : Nat) : hN (cpyI S a d sp dp n) = hN S := rfl
theorem hR_cpyI (S : hp) (a d sp dp n : Nat) : hR (cpyI S a d sp dp n) = hR S := rfl
theorem hI_cpyI (S : hp) (a d sp dp n b j : Nat) : hI (cpyI S a d sp dp n) b j = if b = d ∧ dp ≤ j ∧ j < dp + n then hI S a (sp + (j - dp)) else hI S b j := rfl
theorem hC_newC (S : hp) (kd n : Nat) : hC (newC S kd n) = hC S + 1 := rfl
theorem hK_newC (S : hp) (kd n b : Nat) : hK (newC S kd n) b = if b = hC S then kd else hK S b := rfl
theorem hN_newC (S : hp) (kd n b : Nat) : hN (newC S kd n) b = if b = hC S then n else hN S b := rfl
theorem hI_newC (S : hp) (kd n b j : Nat) : hI (newC S kd n) b j = if b = hC S then 0 else hI S b j := rfl
theorem hR_newC (S : hp) (kd n b j : Nat) : hR (newC S kd n) b j = if b = hC S then none else hR S b j := rfl
/-- which fields, elements of a kind are references -/
def rfb (kd k : Nat) : Bool := match kd with
  | 0 => decide (k = 0)
  | 2 => decide (k < 2)
  | 5 => decide (k < 4)
  | 7 => decide (k < 5)
  | 8 => decide (k = 0)
  | 10 => decide (k < 8)
  | 11 => decide ((2 ≤ k ∧ k ≤ 7) ∨ k = 9 ∨ (18 ≤ k ∧ k ≤ 24))
  | 14 => true
  | 15 => true
  | 16 => true
  | _ => false
def cv (b : Nat) (v : Value) : Value := match v with
  | .ref a => .ref (b + a)
  | w => w
theorem cv_cat (b : Nat) (v : Value) : (cv b v).category = v.category := by cases v <;> rfl
abbrev cvp (b : Nat) (q : Nat × Value) : Nat × Value := (q.1, cv b q.2)
def sv (b : Nat) (S : hp) (i k : Nat) : Value := if rfb (hK S i) k = true then cv b (va_rf (hR S i k)) else .int (hI S i k)
theorem sv_I {b : Nat} {S : hp} {i k kd : Nat} (hk : hK S i = kd) (h : rfb kd k = false) : sv b S i k = .int (hI S i k) := by
  subst hk; simp [sv, h]
theorem sv_R {b : Nat} {S : hp} {i k kd : Nat} (hk : hK S i = kd) (h : rfb kd k = true) : sv b S i k = cv b (va_rf (hR S i k)) := by
  subst hk; simp [sv, h]
/-- the cell of address i stands in the heap -/
def cellAt (b : Nat) (D : va_G) (cy : Nat → ClassId) (S : hp) (i : Nat) (H : Heap) : Prop :=
  (hK S i < 12 ∧ ∃ r : vw_C, vwCl[hK S i]? = some r ∧ t_OB (b + i) (D.1 (hK S i)) r.2.2 (D.2 (hK S i)) H (sv b S i)) ∨ (12 ≤ hK S i ∧ H[b + i]? = some (arrV (cy (hK S i)) (hN S i) (sv b S i)))
def HW (b : Nat) (D : va_G) (cy : Nat → ClassId) (S : hp) (H : Heap) : Prop :=
  H.size = b + hC S ∧ (∀ i, hK S i < 17 → i < hC S) ∧ ∀ i, hK S i < 17 → cellAt b D cy S i H
def HF (b : Nat) (s : State) (H : Heap) (locs : List Loc) : Prop := (∀ q : Nat, q < b → H[q]? = s.heap[q]?) ∧ ∀ q ∈ locs, b ≤ q.base
abbrev tyl (cy : Nat → ClassId) : List (ClassId × FieldType) := [(cy 12, .int), (cy 13, .boolean), (cy 14, .object "DummyInches$Mouth"), (cy 15, .object "DummyInches$Street"), (cy 16, .array .int)]
def ncl : List (String × String) := [(RX1, RX5), (RX1, RX3), (RX1, RX7), (RX3, RX10), (RX3, RX1), (RX3, RX5), (RX3, RX7), (RX5, RX1), (RX5, RX3), (RX5, RX7), (RX7, RX10), (RX7, RX1), (RX7, RX5), (RX10, RX1), (RX10, RX5), (RX10, RX3), (RX10, RX7)]
def ycl : List (String × String) := [(RX1, RX10), (RX5, RX10), (RX7, RX3), (RX1, RX4), (RX5, RX4), (RX3, RX4), (RX7, RX4), (RX10, RX4)]
def nsl : List (Nat × MethodName) := [(9, yX6_init), (18, yX9_init), (25, yX8_init), (35, yX2_init), (42, yX0_init)]
def dcl : List MethodName := [⟨RX4, "padding", "(I)I"⟩, ⟨RX4, "sort", "()I"⟩]
def aol : List FieldType := [.object RX4, .object RX8, .array .int]
/-- what the tables say that a call hands on -/
def KN (D : va_G) (cy : Nat → ClassId) (s : State) : Prop := va_K D vwCl (tyl cy) s ∧ (∀ q ∈ ncl, va_Nc q.1 q.2 s) ∧ (∀ q ∈ ycl, va_Nw (.castable q.1 q.2) s) ∧ (∀ q ∈ nsl, va_Nw (.methodLinkNest RX11 q.1 q.2 RX11) s) ∧ (∀ q ∈ dcl, va_Nw (.declares q) s) ∧ ∀ q ∈ aol, va_Nw (.arrayOver q) s
theorem KN.warm {D : va_G} {cy : Nat → ClassId} {s U : State} (hW : s.WarmedH U.vm) (h : KN D cy s) : KN D cy U := ⟨h.1.moved hW.alike, fun q hq => (h.2.1 q hq).moved hW.alike, fun q hq => (h.2.2.1 q hq).warmC hW, fun q hq => (h.2.2.2.1 q hq).warmM hW, fun q hq => (h.2.2.2.2.1 q hq).warmD hW, fun q hq => by
  have h9 : (Cond.arrayOver q).before #[] (s.setVm U.vm) = true := by rw [Cond.arrayOver_setVmC hW.alike]; exact h.2.2.2.2.2 q hq
  exact h9⟩
/-- the words that every method gets -/
def gtb : List Cond := lw_tbl.filter goodWord
theorem mg {w : Cond} (i : Nat) (h : lw_tbl[i]? = some w) (hg : goodWord w = true) : w ∈ gtb := List.mem_filter.mpr ⟨List.mem_of_getElem? h, hg⟩
theorem gd_gtb {w : Cond} (h : w ∈ gtb) : w ∈ gtb ∧ ((w.onTables && w.keeps) = true ∨ ∃ ty, w = .arrayClass ty) := ⟨h, good_of_word (List.mem_filter.mp h).2⟩
theorem gd_all {ws : List Cond} (h : ∀ w ∈ ws, w ∈ gtb) : GoodIn gtb ws := fun w hw => gd_gtb (h w hw)
/-- what stands still while a method walks -/
def CX (p : Program) (s : State) (m : MethodId) (args : Array Value) (c : Code) (cc : ByteArray) (nL : Nat) (own : String) (D : va_G) (cy : Nat → ClassId) : Prop :=
  p.tables.exec = Jvm.exec ∧ c.code = cc ∧ c.maxLocals = nL ∧ s.vm.findClass own = some m.cls ∧ (∀ w ∈ gtb, w.before args s = true) ∧ KN D cy s
/-- the machine, at pc, with these locals, this stack, and a heap that holds S, comes to Qf -/
def V (p : Program) (l : Launch) (e : Env) (R : Room) (s : State) (m : MethodId) (args : Array Value) (below : List Frame) (meth : Method) (c : Code) (b : Nat) (D : va_G) (cy : Nat → ClassId) (nL : Nat) (Qf : State → Prop) (S : hp) (cells slots pc : Nat) (lv : List (Nat × Value)) (st : List Value) : Prop :=
  ∀ (H : Heap) (locs : List Loc) (ls : Array Slot), HW b D cy S H → HF b s H locs → lv_has ls nL (lv.map (cvp b)) → W p l e R s m args below meth c H locs cells slots Qf (F0 m pc ls (st.map (cv b)))
theorem lvk {ls : Array Slot} {nL b : Nat} {lv : List (Nat × Value)} (h : lv_has ls nL (lv.map (cvp b))) (k : Nat) {i : Nat} {v : Value} (hk : lv[k]? = some (i, v)) : ls[i]? = some (.val (cv b v)) :=
  lv_at h k (i := i) (v := cv b v) (by rw [List.getElem?_map, hk]; rfl)
theorem lv_fm (b i : Nat) (lv : List (Nat × Value)) : (lv.map (cvp b)).filter (fun q => !(q.1 == i) && !(q.1 + 1 == i && q.2.category == 2)) = (lv.filter (fun q => !(q.1 == i) && !(q.1 + 1 == i && q.2.category == 2))).map (cvp b) := by
  rw [List.filter_map]
  congr 1
  apply List.filter_congr
  intro q _
  simp [cvp, cv_cat]
section VV
variable {p : Program} {l : Launch} {e : Env} {R : Room} {s : State} {m : MethodId} {args : Array Value} {below : List Frame} {meth : Method} {c : Code} {b : Nat} {D : va_G} {cy : Nat → ClassId} {nL : Nat} {Qf : State → Prop} {S : hp} {cells slots pc : Nat} {lv : List (Nat × Value)} {st : List Value} {cc : ByteArray} {own : String}

theorem v_iadd (X : CX p s m args c cc nL own D cy) {x y : Int32} (hd : decode cc pc = .ok (.iadd, 1))  (k : V p l e R s m args below meth c b D cy nL Qf S cells slots (pc + 1) lv (.int (x + y) :: st)) : V p l e R s m args below meth c b D cy nL Qf S cells slots pc lv (.int y :: .int x :: st) := fun H locs ls hH hF hl => lv_iadd X.1 X.2.1 hd  (k H locs ls hH hF hl)
theorem v_isub (X : CX p s m args c cc nL own D cy) {x y : Int32} (hd : decode cc pc = .ok (.isub, 1))  (k : V p l e R s m args below meth c b D cy nL Qf S cells slots (pc + 1) lv (.int (x - y) :: st)) : V p l e R s m args below meth c b D cy nL Qf S cells slots pc lv (.int y :: .int x :: st) := fun H locs ls hH hF hl => lv_isub X.1 X.2.1 hd  (k H locs ls hH hF hl)
theorem v_imul (X : CX p s m args c cc nL own D cy) {x y : Int32} (hd : decode cc pc = .ok (.imul, 1))  (k : V p l e R s m args below meth c b D cy nL Qf S cells slots (pc + 1) lv (.int (x * y) :: st)) : V p l e R s m args below meth c b D cy nL Qf S cells slots pc lv (.int y :: .int x :: st) := fun H locs ls hH hF hl => lv_imul X.1 X.2.1 hd  (k H locs ls hH hF hl)
theorem v_iand (X : CX p s m args c cc nL own D cy) {x y : Int32} (hd : decode cc pc = .ok (.iand, 1))  (k : V p l e R s m args below meth c b D cy nL Qf S cells slots (pc + 1) lv (.int (x &&& y) :: st)) : V p l e R s m args below meth c b D cy nL Qf S cells slots pc lv (.int y :: .int x :: st) := fun H locs ls hH hF hl => lv_iand X.1 X.2.1 hd  (k H locs ls hH hF hl)
theorem v_ior (X : CX p s m args c cc nL own D cy) {x y : Int32} (hd : decode cc pc = .ok (.ior, 1))  (k : V p l e R s m args below meth c b D cy nL Qf S cells slots (pc + 1) lv (.int (x ||| y) :: st)) : V p l e R s m args below meth c b D cy nL Qf S cells slots pc lv (.int y :: .int x :: st) := fun H locs ls hH hF hl => lv_ior X.1 X.2.1 hd  (k H locs ls hH hF hl)
theorem v_ixor (X : CX p s m args c cc nL own D cy) {x y : Int32} (hd : decode cc pc = .ok (.ixor, 1))  (k : V p l e R s m args below meth c b D cy nL Qf S cells slots (pc + 1) lv (.int (x ^^^ y) :: st)) : V p l e R s m args below meth c b D cy nL Qf S cells slots pc lv (.int y :: .int x :: st) := fun H locs ls hH hF hl => lv_ixor X.1 X.2.1 hd  (k H locs ls hH hF hl)
theorem v_ladd (X : CX p s m args c cc nL own D cy) {x y : Int64} (hd : decode cc pc = .ok (.ladd, 1))  (k : V p l e R s m args below meth c b D cy nL Qf S cells slots (pc + 1) lv (.long (x + y) :: st)) : V p l e R s m args below meth c b D cy nL Qf S cells slots pc lv (.long y :: .long x :: st) := fun H locs ls hH hF hl => lv_ladd X.1 X.2.1 hd  (k H locs ls hH hF hl)
theorem v_idiv (X : CX p s m args c cc nL own D cy) {x y : Int32} (hd : decode cc pc = .ok (.idiv, 1)) (hne : ¬ y = 0) (k : V p l e R s m args below meth c b D cy nL Qf S cells slots (pc + 1) lv (.int (x / y) :: st)) : V p l e R s m args below meth c b D cy nL Qf S cells slots pc lv (.int y :: .int x :: st) := fun H locs ls hH hF hl => lv_idiv X.1 X.2.1 hd hne (k H locs ls hH hF hl)
theorem v_irem (X : CX p s m args c cc nL own D cy) {x y : Int32} (hd : decode cc pc = .ok (.irem, 1)) (hne : ¬ y = 0) (k : V p l e R s m args below meth c b D cy nL Qf S cells slots (pc + 1) lv (.int (x - x / y * y) :: st)) : V p l e R s m args below meth c b D cy nL Qf S cells slots pc lv (.int y :: .int x :: st) := fun H locs ls hH hF hl => lv_irem X.1 X.2.1 hd hne (k H locs ls hH hF hl)
theorem v_ineg (X : CX p s m args c cc nL own D cy) {x : Int32} (hd : decode cc pc = .ok (.ineg, 1))  (k : V p l e R s m args below meth c b D cy nL Qf S cells slots (pc + 1) lv (.int (-x) :: st)) : V p l e R s m args below meth c b D cy nL Qf S cells slots pc lv (.int x :: st) := fun H locs ls hH hF hl => lv_ineg X.1 X.2.1 hd  (k H locs ls hH hF hl)
theorem v_ishl (X : CX p s m args c cc nL own D cy) {x y : Int32} (hd : decode cc pc = .ok (.ishl, 1))  (k : V p l e R s m args below meth c b D cy nL Qf S cells slots (pc + 1) lv (.int (x <<< (y &&& 31)) :: st)) : V p l e R s m args below meth c b D cy nL Qf S cells slots pc lv (.int y :: .int x :: st) := fun H locs ls hH hF hl => lv_ishl X.1 X.2.1 hd  (k H locs ls hH hF hl)
theorem v_ishr (X : CX p s m args c cc nL own D cy) {x y : Int32} (hd : decode cc pc = .ok (.ishr, 1))  (k : V p l e R s m args below meth c b D cy nL Qf S cells slots (pc + 1) lv (.int (x >>> (y &&& 31)) :: st)) : V p l e R s m args below meth c b D cy nL Qf S cells slots pc lv (.int y :: .int x :: st) := fun H locs ls hH hF hl => lv_ishr X.1 X.2.1 hd  (k H locs ls hH hF hl)
theorem v_iushr (X : CX p s m args c cc nL own D cy) {x y : Int32} (hd : decode cc pc = .ok (.iushr, 1))  (k : V p l e R s m args below meth c b D cy nL Qf S cells slots (pc + 1) lv (.int ((x.toUInt32 >>> (y.toUInt32 &&& Int32.toUInt32 31)).toInt32) :: st)) : V p l e R s m args below meth c b D cy nL Qf S cells slots pc lv (.int y :: .int x :: st) := fun H locs ls hH hF hl => lv_iushr X.1 X.2.1 hd rfl (k H locs ls hH hF hl)
theorem v_i2l (X : CX p s m args c cc nL own D cy) {x : Int32} (hd : decode cc pc = .ok (.i2l, 1))  (k : V p l e R s m args below meth c b D cy nL Qf S cells slots (pc + 1) lv (.long x.toInt64 :: st)) : V p l e R s m args below meth c b D cy nL Qf S cells slots pc lv (.int x :: st) := fun H locs ls hH hF hl => lv_i2l X.1 X.2.1 hd rfl (k H locs ls hH hF hl)
theorem v_i2b (X : CX p s m args c cc nL own D cy) {x : Int32} (hd : decode cc pc = .ok (.i2b, 1))  (k : V p l e R s m args below meth c b D cy nL Qf S cells slots (pc + 1) lv (.int x.toInt8.toInt32 :: st)) : V p l e R s m args below meth c b D cy nL Qf S cells slots pc lv (.int x :: st) := fun H locs ls hH hF hl => lv_i2b X.1 X.2.1 hd rfl (k H locs ls hH hF hl)
theorem v_i2s (X : CX p s m args c cc nL own D cy) {x : Int32} (hd : decode cc pc = .ok (.i2s, 1))  (k : V p l e R s m args below meth c b D cy nL Qf S cells slots (pc + 1) lv (.int x.toInt16.toInt32 :: st)) : V p l e R s m args below meth c b D cy nL Qf S cells slots pc lv (.int x :: st) := fun H locs ls hH hF hl => lv_i2s X.1 X.2.1 hd rfl (k H locs ls hH hF hl)
theorem v_lcmp (X : CX p s m args c cc nL own D cy) {x y : Int64} (hd : decode cc pc = .ok (.lcmp, 1))  (k : V p l e R s m args below meth c b D cy nL Qf S cells slots (pc + 1) lv (.int (lg_cmp x y) :: st)) : V p l e R s m args below meth c b D cy nL Qf S cells slots pc lv (.long y :: .long x :: st) := fun H locs ls hH hF hl => W.lcmp X.1 X.2.1 hd  (k H locs ls hH hF hl)
theorem v_iconst (X : CX p s m args c cc nL own D cy) {n : Int} {v : Int32} (hd : decode cc pc = .ok (.iconst n, 1)) (hv : Int32.ofInt n = v) (k : V p l e R s m args below meth c b D cy nL Qf S cells slots (pc + 1) lv (.int v :: st)) : V p l e R s m args below meth c b D cy nL Qf S cells slots pc lv (st) := fun H locs ls hH hF hl => lv_iconst X.1 X.2.1 hd hv (k H locs ls hH hF hl)
theorem v_bipush (X : CX p s m args c cc nL own D cy) {n : Int} {v : Int32} (hd : decode cc pc = .ok (.bipush n, 2)) (hv : (Int8.ofInt n).toInt32 = v) (k : V p l e R s m args below meth c b D cy nL Qf S cells slots (pc + 2) lv (.int v :: st)) : V p l e R s m args below meth c b D cy nL Qf S cells slots pc lv (st) := fun H locs ls hH hF hl => lv_bipush X.1 X.2.1 hd hv (k H locs ls hH hF hl)
theorem v_sipush (X : CX p s m args c cc nL own D cy) {n : Int} {v : Int32} (hd : decode cc pc = .ok (.sipush n, 3)) (hv : (Int16.ofInt n).toInt32 = v) (k : V p l e R s m args below meth c b D cy nL Qf S cells slots (pc + 3) lv (.int v :: st)) : V p l e R s m args below meth c b D cy nL Qf S cells slots pc lv (st) := fun H locs ls hH hF hl => lv_sipush X.1 X.2.1 hd hv (k H locs ls hH hF hl)
theorem v_lconst (X : CX p s m args c cc nL own D cy) {n : Fin 2} {v : Int64} (hd : decode cc pc = .ok (.lconst n, 1)) (hv : Int64.ofNat (n : Nat) = v) (k : V p l e R s m args below meth c b D cy nL Qf S cells slots (pc + 1) lv (.long v :: st)) : V p l e R s m args below meth c b D cy nL Qf S cells slots pc lv (st) := fun H locs ls hH hF hl => lv_lconst X.1 X.2.1 hd hv (k H locs ls hH hF hl)
theorem v_null (X : CX p s m args c cc nL own D cy)  (hd : decode cc pc = .ok (.aconst_null, 1))  (k : V p l e R s m args below meth c b D cy nL Qf S cells slots (pc + 1) lv (.null :: st)) : V p l e R s m args below meth c b D cy nL Qf S cells slots pc lv (st) := fun H locs ls hH hF hl => lv_null X.1 X.2.1 hd  (k H locs ls hH hF hl)
theorem v_ldc (X : CX p s m args c cc nL own D cy) {index : Nat} {v : Int32} (hc : Cond.constant own index v ∈ gtb) (hd : decode cc pc = .ok (.ldc index, 2)) (k : V p l e R s m args below meth c b D cy nL Qf S cells slots (pc + 2) lv (.int v :: st)) : V p l e R s m args below meth c b D cy nL Qf S cells slots pc lv st := fun H locs ls hH hF hl => lv_ldc X.1 X.2.1 X.2.2.2.1 (X.2.2.2.2.1 _ hc) hd (k H locs ls hH hF hl)
theorem v_ldcw (X : CX p s m args c cc nL own D cy) {index : Nat} {v : Int32} (hc : Cond.constant own index v ∈ gtb) (hd : decode cc pc = .ok (.ldc_w index, 3)) (k : V p l e R s m args below meth c b D cy nL Qf S cells slots (pc + 3) lv (.int v :: st)) : V p l e R s m args below meth c b D cy nL Qf S cells slots pc lv st := fun H locs ls hH hF hl => lv_ldcw X.1 X.2.1 X.2.2.2.1 (X.2.2.2.2.1 _ hc) hd (k H locs ls hH hF hl)
theorem v_ldc2 (X : CX p s m args c cc nL own D cy) {index : Nat} {v : Int64} (hc : Cond.constantLong own index v ∈ gtb) (hd : decode cc pc = .ok (.ldc2_w index, 3)) (k : V p l e R s m args below meth c b D cy nL Qf S cells slots (pc + 3) lv (.long v :: st)) : V p l e R s m args below meth c b D cy nL Qf S cells slots pc lv st := fun H locs ls hH hF hl => lv_ldc2 X.1 X.2.1 X.2.2.2.1 (X.2.2.2.2.1 _ hc) hd (k H locs ls hH hF hl)
theorem v_dup (X : CX p s m args c cc nL own D cy) {va : Value} (hd : decode cc pc = .ok (.dup, 1)) (hc : va.category = 1) (k : V p l e R s m args below meth c b D cy nL Qf S cells slots (pc + 1) lv (va :: va :: st)) : V p l e R s m args below meth c b D cy nL Qf S cells slots pc lv (va :: st) := fun H locs ls hH hF hl => lv_dup X.1 X.2.1 hd (by rw [cv_cat]; exact hc) (k H locs ls hH hF hl)
theorem v_pop (X : CX p s m args c cc nL own D cy) {va : Value} (hd : decode cc pc = .ok (.pop, 1)) (hc : va.category = 1) (k : V p l e R s m args below meth c b D cy nL Qf S cells slots (pc + 1) lv st) : V p l e R s m args below meth c b D cy nL Qf S cells slots pc lv (va :: st) := fun H locs ls hH hF hl => lv_pop X.1 X.2.1 hd (va := cv b va) (by rw [cv_cat]; exact hc) (k H locs ls hH hF hl)
theorem v_dup2 (X : CX p s m args c cc nL own D cy) {va vb : Value} (hd : decode cc pc = .ok (.dup2, 1)) (hc : va.category = 1) (hc2 : vb.category = 1) (k : V p l e R s m args below meth c b D cy nL Qf S cells slots (pc + 1) lv (va :: vb :: va :: vb :: st)) : V p l e R s m args below meth c b D cy nL Qf S cells slots pc lv (va :: vb :: st) := fun H locs ls hH hF hl => lv_dup2_11 X.1 X.2.1 hd (by rw [cv_cat]; exact hc) (by rw [cv_cat]; exact hc2) (k H locs ls hH hF hl)
theorem v_iload_n (X : CX p s m args c cc nL own D cy) {k : Fin 4} {i : Nat} {x : Int32} (j : Nat) (hd : decode cc pc = .ok (.iload_n k, 1)) (hi : (k : Nat) = i) (hj : lv[j]? = some (i, .int x)) (kk : V p l e R s m args below meth c b D cy nL Qf S cells slots (pc + 1) lv (.int x :: st)) : V p l e R s m args below meth c b D cy nL Qf S cells slots pc lv st := fun H locs ls hH hF hl => lv_iload_n X.1 X.2.1 hd hi (lvk hl j hj) (kk H locs ls hH hF hl)
theorem v_iload (X : CX p s m args c cc nL own D cy) {i : Nat} {x : Int32} (j : Nat) (hd : decode cc pc = .ok (.iload i, 2)) (hj : lv[j]? = some (i, .int x)) (kk : V p l e R s m args below meth c b D cy nL Qf S cells slots (pc + 2) lv (.int x :: st)) : V p l e R s m args below meth c b D cy nL Qf S cells slots pc lv st := fun H locs ls hH hF hl => lv_iload X.1 X.2.1 hd (lvk hl j hj) (kk H locs ls hH hF hl)
theorem v_lload_n (X : CX p s m args c cc nL own D cy) {k : Fin 4} {i : Nat} {x : Int64} (j : Nat) (hd : decode cc pc = .ok (.lload_n k, 1)) (hi : (k : Nat) = i) (hj : lv[j]? = some (i, .long x)) (kk : V p l e R s m args below meth c b D cy nL Qf S cells slots (pc + 1) lv (.long x :: st)) : V p l e R s m args below meth c b D cy nL Qf S cells slots pc lv st := fun H locs ls hH hF hl => lv_lload_n X.1 X.2.1 hd hi (lvk hl j hj) (kk H locs ls hH hF hl)
theorem v_lload (X : CX p s m args c cc nL own D cy) {i : Nat} {x : Int64} (j : Nat) (hd : decode cc pc = .ok (.lload i, 2)) (hj : lv[j]? = some (i, .long x)) (kk : V p l e R s m args below meth c b D cy nL Qf S cells slots (pc + 2) lv (.long x :: st)) : V p l e R s m args below meth c b D cy nL Qf S cells slots pc lv st := fun H locs ls hH hF hl => lv_lload X.1 X.2.1 hd (lvk hl j hj) (kk H locs ls hH hF hl)
theorem v_aload_n (X : CX p s m args c cc nL own D cy) {k : Fin 4} {i : Nat} {x : Nat} (j : Nat) (hd : decode cc pc = .ok (.aload_n k, 1)) (hi : (k : Nat) = i) (hj : lv[j]? = some (i, .ref x)) (kk : V p l e R s m args below meth c b D cy nL Qf S cells slots (pc + 1) lv (.ref x :: st)) : V p l e R s m args below meth c b D cy nL Qf S cells slots pc lv st := fun H locs ls hH hF hl => lv_aload_n X.1 X.2.1 hd hi (lvk hl j hj) (kk H locs ls hH hF hl)
theorem v_aload (X : CX p s m args c cc nL own D cy) {i : Nat} {x : Nat} (j : Nat) (hd : decode cc pc = .ok (.aload i, 2)) (hj : lv[j]? = some (i, .ref x)) (kk : V p l e R s m args below meth c b D cy nL Qf S cells slots (pc + 2) lv (.ref x :: st)) : V p l e R s m args below meth c b D cy nL Qf S cells slots pc lv st := fun H locs ls hH hF hl => lv_aload X.1 X.2.1 hd (lvk hl j hj) (kk H locs ls hH hF hl)
theorem v_aload_nN (X : CX p s m args c cc nL own D cy) {k : Fin 4} {i : Nat}  (j : Nat) (hd : decode cc pc = .ok (.aload_n k, 1)) (hi : (k : Nat) = i) (hj : lv[j]? = some (i, .null)) (kk : V p l e R s m args below meth c b D cy nL Qf S cells slots (pc + 1) lv (.null :: st)) : V p l e R s m args below meth c b D cy nL Qf S cells slots pc lv st := fun H locs ls hH hF hl => lv_aload_nN X.1 X.2.1 hd hi (lvk hl j hj) (kk H locs ls hH hF hl)
theorem v_aloadN (X : CX p s m args c cc nL own D cy) {i : Nat}  (j : Nat) (hd : decode cc pc = .ok (.aload i, 2)) (hj : lv[j]? = some (i, .null)) (kk : V p l e R s m args below meth c b D cy nL Qf S cells slots (pc + 2) lv (.null :: st)) : V p l e R s m args below meth c b D cy nL Qf S cells slots pc lv st := fun H locs ls hH hF hl => lv_aloadN X.1 X.2.1 hd (lvk hl j hj) (kk H locs ls hH hF hl)
theorem v_istore_n (X : CX p s m args c cc nL own D cy) {k : Fin 4} {i : Nat} {x : Int32} {lv' : List (Nat × Value)} (hd : decode cc pc = .ok (.istore_n k, 1)) (hi : (k : Nat) = i) (hn : i < nL) (hl' : (i, Value.int x) :: lv.filter (fun q => !(q.1 == i) && !(q.1 + 1 == i && q.2.category == 2)) = lv') (kk : V p l e R s m args below meth c b D cy nL Qf S cells slots (pc + 1) lv' st) : V p l e R s m args below meth c b D cy nL Qf S cells slots pc lv (.int x :: st) := fun H locs ls hH hF hl => lv_istore_n X.1 X.2.1 hd hi hl hn (lv' := lv'.map (cvp b)) (by rw [← hl', lv_fm]; rfl) (fun ls' h => kk H locs ls' hH hF h)
theorem v_istore (X : CX p s m args c cc nL own D cy) {i : Nat} {x : Int32} {lv' : List (Nat × Value)} (hd : decode cc pc = .ok (.istore i, 2)) (hn : i < nL) (hl' : (i, Value.int x) :: lv.filter (fun q => !(q.1 == i) && !(q.1 + 1 == i && q.2.category == 2)) = lv') (kk : V p l e R s m args below meth c b D cy nL Qf S cells slots (pc + 2) lv' st) : V p l e R s m args below meth c b D cy nL Qf S cells slots pc lv (.int x :: st) := fun H locs ls hH hF hl => lv_istore X.1 X.2.1 hd  hl hn (lv' := lv'.map (cvp b)) (by rw [← hl', lv_fm]; rfl) (fun ls' h => kk H locs ls' hH hF h)
theorem v_astore_n (X : CX p s m args c cc nL own D cy) {k : Fin 4} {i : Nat} {x : Nat} {lv' : List (Nat × Value)} (hd : decode cc pc = .ok (.astore_n k, 1)) (hi : (k : Nat) = i) (hn : i < nL) (hl' : (i, Value.ref x) :: lv.filter (fun q => !(q.1 == i) && !(q.1 + 1 == i && q.2.category == 2)) = lv') (kk : V p l e R s m args below meth c b D cy nL Qf S cells slots (pc + 1) lv' st) : V p l e R s m args below meth c b D cy nL Qf S cells slots pc lv (.ref x :: st) := fun H locs ls hH hF hl => lv_astore_n X.1 X.2.1 hd hi hl hn (lv' := lv'.map (cvp b)) (by rw [← hl', lv_fm]; rfl) (fun ls' h => kk H locs ls' hH hF h)
theorem v_astore (X : CX p s m args c cc nL own D cy) {i : Nat} {x : Nat} {lv' : List (Nat × Value)} (hd : decode cc pc = .ok (.astore i, 2)) (hn : i < nL) (hl' : (i, Value.ref x) :: lv.filter (fun q => !(q.1 == i) && !(q.1 + 1 == i && q.2.category == 2)) = lv') (kk : V p l e R s m args below meth c b D cy nL Qf S cells slots (pc + 2) lv' st) : V p l e R s m args below meth c b D cy nL Qf S cells slots pc lv (.ref x :: st) := fun H locs ls hH hF hl => lv_astore X.1 X.2.1 hd  hl hn (lv' := lv'.map (cvp b)) (by rw [← hl', lv_fm]; rfl) (fun ls' h => kk H locs ls' hH hF h)
theorem v_astore_nN (X : CX p s m args c cc nL own D cy) {k : Fin 4} {i : Nat}  {lv' : List (Nat × Value)} (hd : decode cc pc = .ok (.astore_n k, 1)) (hi : (k : Nat) = i) (hn : i < nL) (hl' : (i, Value.null) :: lv.filter (fun q => !(q.1 == i) && !(q.1 + 1 == i && q.2.category == 2)) = lv') (kk : V p l e R s m args below meth c b D cy nL Qf S cells slots (pc + 1) lv' st) : V p l e R s m args below meth c b D cy nL Qf S cells slots pc lv (.null :: st) := fun H locs ls hH hF hl => lv_astore_nN X.1 X.2.1 hd hi hl hn (lv' := lv'.map (cvp b)) (by rw [← hl', lv_fm]; rfl) (fun ls' h => kk H locs ls' hH hF h)
theorem v_astoreN (X : CX p s m args c cc nL own D cy) {i : Nat}  {lv' : List (Nat × Value)} (hd : decode cc pc = .ok (.astore i, 2)) (hn : i < nL) (hl' : (i, Value.null) :: lv.filter (fun q => !(q.1 == i) && !(q.1 + 1 == i && q.2.category == 2)) = lv') (kk : V p l e R s m args below meth c b D cy nL Qf S cells slots (pc + 2) lv' st) : V p l e R s m args below meth c b D cy nL Qf S cells slots pc lv (.null :: st) := fun H locs ls hH hF hl => lv_astoreN X.1 X.2.1 hd  hl hn (lv' := lv'.map (cvp b)) (by rw [← hl', lv_fm]; rfl) (fun ls' h => kk H locs ls' hH hF h)
theorem v_nm {x : Int32} (k : ∀ y : Int32, y = x → V p l e R s m args below meth c b D cy nL Qf S cells slots pc lv (.int y :: st)) : V p l e R s m args below meth c b D cy nL Qf S cells slots pc lv (.int x :: st) := k x rfl
theorem v_iinc (X : CX p s m args c cc nL own D cy) {i j : Nat} {n : Int} {x v : Int32} {lv' : List (Nat × Value)} (hd : decode cc pc = .ok (.iinc i n, 3)) (hj : lv[j]? = some (i, .int x)) (hv : x + Int32.ofInt n = v) (hn : i < nL) (hl' : (i, Value.int v) :: lv.filter (fun q => !(q.1 == i) && !(q.1 + 1 == i && q.2.category == 2)) = lv') (kk : V p l e R s m args below meth c b D cy nL Qf S cells slots (pc + 3) lv' st) : V p l e R s m args below meth c b D cy nL Qf S cells slots pc lv st := fun H locs ls hH hF hl => lv_iinc X.1 X.2.1 hd hl (k := j) (by rw [List.getElem?_map, hj]; rfl) hv hn (lv' := lv'.map (cvp b)) (by rw [← hl', lv_fm]; rfl) (fun ls' h => kk H locs ls' hH hF h)
theorem v_if_eq (X : CX p s m args c cc nL own D cy) {x : Int32} {off : Int} {tgt : Nat} (hd : decode cc pc = .ok (.ifCond .eq off, 3)) (ht : (pc : Int) + off = (tgt : Int)) (kt : x = 0 → V p l e R s m args below meth c b D cy nL Qf S cells slots tgt lv st) (kf : ¬ x = 0 → V p l e R s m args below meth c b D cy nL Qf S cells slots (pc + 3) lv st) : V p l e R s m args below meth c b D cy nL Qf S cells slots pc lv (.int x :: st) := fun H locs ls hH hF hl => lv_if_eq X.1 X.2.1 hd ht (fun h => kt h H locs ls hH hF hl) (fun h => kf h H locs ls hH hF hl)
theorem v_if_ne (X : CX p s m args c cc nL own D cy) {x : Int32} {off : Int} {tgt : Nat} (hd : decode cc pc = .ok (.ifCond .ne off, 3)) (ht : (pc : Int) + off = (tgt : Int)) (kt : ¬ x = 0 → V p l e R s m args below meth c b D cy nL Qf S cells slots tgt lv st) (kf : x = 0 → V p l e R s m args below meth c b D cy nL Qf S cells slots (pc + 3) lv st) : V p l e R s m args below meth c b D cy nL Qf S cells slots pc lv (.int x :: st) := fun H locs ls hH hF hl => lv_if_ne X.1 X.2.1 hd ht (fun h => kt h H locs ls hH hF hl) (fun h => kf h H locs ls hH hF hl)
theorem v_if_lt (X : CX p s m args c cc nL own D cy) {x : Int32} {off : Int} {tgt : Nat} (hd : decode cc pc = .ok (.ifCond .lt off, 3)) (ht : (pc : Int) + off = (tgt : Int)) (kt : x < 0 → V p l e R s m args below meth c b D cy nL Qf S cells slots tgt lv st) (kf : ¬ x < 0 → V p l e R s m args below meth c b D cy nL Qf S cells slots (pc + 3) lv st) : V p l e R s m args below meth c b D cy nL Qf S cells slots pc lv (.int x :: st) := fun H locs ls hH hF hl => lv_if_lt X.1 X.2.1 hd ht (fun h => kt h H locs ls hH hF hl) (fun h => kf h H locs ls hH hF hl)
theorem v_if_ge (X : CX p s m args c cc nL own D cy) {x : Int32} {off : Int} {tgt : Nat} (hd : decode cc pc = .ok (.ifCond .ge off, 3)) (ht : (pc : Int) + off = (tgt : Int)) (kt : 0 ≤ x → V p l e R s m args below meth c b D cy nL Qf S cells slots tgt lv st) (kf : ¬ 0 ≤ x → V p l e R s m args below meth c b D cy nL Qf S cells slots (pc + 3) lv st) : V p l e R s m args below meth c b D cy nL Qf S cells slots pc lv (.int x :: st) := fun H locs ls hH hF hl => lv_if_ge X.1 X.2.1 hd ht (fun h => kt h H locs ls hH hF hl) (fun h => kf h H locs ls hH hF hl)
theorem v_if_gt (X : CX p s m args c cc nL own D cy) {x : Int32} {off : Int} {tgt : Nat} (hd : decode cc pc = .ok (.ifCond .gt off, 3)) (ht : (pc : Int) + off = (tgt : Int)) (kt : 0 < x → V p l e R s m args below meth c b D cy nL Qf S cells slots tgt lv st) (kf : ¬ 0 < x → V p l e R s m args below meth c b D cy nL Qf S cells slots (pc + 3) lv st) : V p l e R s m args below meth c b D cy nL Qf S cells slots pc lv (.int x :: st) := fun H locs ls hH hF hl => lv_if_gt X.1 X.2.1 hd ht (fun h => kt h H locs ls hH hF hl) (fun h => kf h H locs ls hH hF hl)
theorem v_if_le (X : CX p s m args c cc nL own D cy) {x : Int32} {off : Int} {tgt : Nat} (hd : decode cc pc = .ok (.ifCond .le off, 3)) (ht : (pc : Int) + off = (tgt : Int)) (kt : x ≤ 0 → V p l e R s m args below meth c b D cy nL Qf S cells slots tgt lv st) (kf : ¬ x ≤ 0 → V p l e R s m args below meth c b D cy nL Qf S cells slots (pc + 3) lv st) : V p l e R s m args below meth c b D cy nL Qf S cells slots pc lv (.int x :: st) := fun H locs ls hH hF hl => lv_if_le X.1 X.2.1 hd ht (fun h => kt h H locs ls hH hF hl) (fun h => kf h H locs ls hH hF hl)
theorem v_icmp_eq (X : CX p s m args c cc nL own D cy) {x y : Int32} {off : Int} {tgt : Nat} (hd : decode cc pc = .ok (.if_icmp .eq off, 3)) (ht : (pc : Int) + off = (tgt : Int)) (kt : x = y → V p l e R s m args below meth c b D cy nL Qf S cells slots tgt lv st) (kf : ¬ x = y → V p l e R s m args below meth c b D cy nL Qf S cells slots (pc + 3) lv st) : V p l e R s m args below meth c b D cy nL Qf S cells slots pc lv (.int y :: .int x :: st) := fun H locs ls hH hF hl => lv_icmp_eq X.1 X.2.1 hd ht (fun h => kt h H locs ls hH hF hl) (fun h => kf h H locs ls hH hF hl)
theorem v_icmp_ne (X : CX p s m args c cc nL own D cy) {x y : Int32} {off : Int} {tgt : Nat} (hd : decode cc pc = .ok (.if_icmp .ne off, 3)) (ht : (pc : Int) + off = (tgt : Int)) (kt : ¬ x = y → V p l e R s m args below meth c b D cy nL Qf S cells slots tgt lv st) (kf : x = y → V p l e R s m args below meth c b D cy nL Qf S cells slots (pc + 3) lv st) : V p l e R s m args below meth c b D cy nL Qf S cells slots pc lv (.int y :: .int x :: st) := fun H locs ls hH hF hl => lv_icmp_ne X.1 X.2.1 hd ht (fun h => kt h H locs ls hH hF hl) (fun h => kf h H locs ls hH hF hl)
theorem v_icmp_lt (X : CX p s m args c cc nL own D cy) {x y : Int32} {off : Int} {tgt : Nat} (hd : decode cc pc = .ok (.if_icmp .lt off, 3)) (ht : (pc : Int) + off = (tgt : Int)) (kt : x < y → V p l e R s m args below meth c b D cy nL Qf S cells slots tgt lv st) (kf : ¬ x < y → V p l e R s m args below meth c b D cy nL Qf S cells slots (pc + 3) lv st) : V p l e R s m args below meth c b D cy nL Qf S cells slots pc lv (.int y :: .int x :: st) := fun H locs ls hH hF hl => lv_icmp_lt X.1 X.2.1 hd ht (fun h => kt h H locs ls hH hF hl) (fun h => kf h H locs ls hH hF hl)
theorem v_icmp_ge (X : CX p s m args c cc nL own D cy) {x y : Int32} {off : Int} {tgt : Nat} (hd : decode cc pc = .ok (.if_icmp .ge off, 3)) (ht : (pc : Int) + off = (tgt : Int)) (kt : y ≤ x → V p l e R s m args below meth c b D cy nL Qf S cells slots tgt lv st) (kf : ¬ y ≤ x → V p l e R s m args below meth c b D cy nL Qf S cells slots (pc + 3) lv st) : V p l e R s m args below meth c b D cy nL Qf S cells slots pc lv (.int y :: .int x :: st) := fun H locs ls hH hF hl => lv_icmp_ge X.1 X.2.1 hd ht (fun h => kt h H locs ls hH hF hl) (fun h => kf h H locs ls hH hF hl)
theorem v_icmp_gt (X : CX p s m args c cc nL own D cy) {x y : Int32} {off : Int} {tgt : Nat} (hd : decode cc pc = .ok (.if_icmp .gt off, 3)) (ht : (pc : Int) + off = (tgt : Int)) (kt : y < x → V p l e R s m args below meth c b D cy nL Qf S cells slots tgt lv st) (kf : ¬ y < x → V p l e R s m args below meth c b D cy nL Qf S cells slots (pc + 3) lv st) : V p l e R s m args below meth c b D cy nL Qf S cells slots pc lv (.int y :: .int x :: st) := fun H locs ls hH hF hl => lv_icmp_gt X.1 X.2.1 hd ht (fun h => kt h H locs ls hH hF hl) (fun h => kf h H locs ls hH hF hl)
theorem v_icmp_le (X : CX p s m args c cc nL own D cy) {x y : Int32} {off : Int} {tgt : Nat} (hd : decode cc pc = .ok (.if_icmp .le off, 3)) (ht : (pc : Int) + off = (tgt : Int)) (kt : x ≤ y → V p l e R s m args below meth c b D cy nL Qf S cells slots tgt lv st) (kf : ¬ x ≤ y → V p l e R s m args below meth c b D cy nL Qf S cells slots (pc + 3) lv st) : V p l e R s m args below meth c b D cy nL Qf S cells slots pc lv (.int y :: .int x :: st) := fun H locs ls hH hF hl => lv_icmp_le X.1 X.2.1 hd ht (fun h => kt h H locs ls hH hF hl) (fun h => kf h H locs ls hH hF hl)
theorem v_goto (X : CX p s m args c cc nL own D cy) {off : Int} {tgt : Nat} (hd : decode cc pc = .ok (.goto off, 3)) (ht : (pc : Int) + off = (tgt : Int)) (k : V p l e R s m args below meth c b D cy nL Qf S cells slots tgt lv st) : V p l e R s m args below meth c b D cy nL Qf S cells slots pc lv st := fun H locs ls hH hF hl => lv_goto X.1 X.2.1 hd ht (k H locs ls hH hF hl)
theorem v_widen {c2 s2 : Nat} (h1 : cells ≤ c2) (h2 : slots ≤ s2) (k : V p l e R s m args below meth c b D cy nL Qf S c2 s2 pc lv st) : V p l e R s m args below meth c b D cy nL Qf S cells slots pc lv st := fun H locs ls hH hF hl => W.widen h1 h2 (k H locs ls hH hF hl)
theorem v_lv {lv' : List (Nat × Value)} (ks : List Nat) (h : ks.filterMap (fun k => lv[k]?) = lv') (k : V p l e R s m args below meth c b D cy nL Qf S cells slots pc lv' st) : V p l e R s m args below meth c b D cy nL Qf S cells slots pc lv st := fun H locs ls hH hF hl => k H locs ls hH hF ⟨hl.1, hl.2.1, fun q hq => by
    obtain ⟨w, hw, rfl⟩ := List.mem_map.mp hq
    rw [← h] at hw
    obtain ⟨k0, _, hk0⟩ := List.mem_filterMap.mp hw
    exact hl.2.2 _ (List.mem_map.mpr ⟨w, List.mem_of_getElem? hk0, rfl⟩)⟩
theorem v_ifnull (X : CX p s m args c cc nL own D cy) {x : Nat} {off : Int} (hd : decode cc pc = .ok (.ifnull off, 3)) (k : V p l e R s m args below meth c b D cy nL Qf S cells slots (pc + 3) lv st) : V p l e R s m args below meth c b D cy nL Qf S cells slots pc lv (.ref x :: st) := fun H locs ls hH hF hl => lv_ifnull X.1 X.2.1 hd (k H locs ls hH hF hl)
theorem v_ifnonnull (X : CX p s m args c cc nL own D cy) {x : Nat} {off : Int} {tgt : Nat} (hd : decode cc pc = .ok (.ifnonnull off, 3)) (ht : (pc : Int) + off = (tgt : Int)) (k : V p l e R s m args below meth c b D cy nL Qf S cells slots tgt lv st) : V p l e R s m args below meth c b D cy nL Qf S cells slots pc lv (.ref x :: st) := fun H locs ls hH hF hl => lv_ifnonnull X.1 X.2.1 hd ht (k H locs ls hH hF hl)
end VV
end
section
theorem HW.upd {b : Nat} {D : va_G} {cy : Nat → ClassId} {S S' : hp} {H H' : Heap} (hH : HW b D cy S H) (i : Nat) (h1 : hC S' = hC S) (h2 : hK S' = hK S) (h3 : hN S' = hN S) (ho : ∀ j, j ≠ i → ∀ k, sv b S' j k = sv b S j k) (z : H'.size = H.size) (oq : ∀ q : Nat, q ≠ b + i → H'[q]? = H[q]?) (hi : cellAt b D cy S' i H') : HW b D cy S' H' := by
  refine ⟨by rw [z, h1]; exact hH.1, fun j hj => by rw [h1]; rw [h2] at hj; exact hH.2.1 j hj, fun j hj => ?_⟩
  by_cases hji : j = i
  · subst hji; exact hi
  · rw [h2] at hj
    have hq := oq (b + j) (by omega)
    have hf : sv b S' j = sv b S j := funext (ho j hji)
    rcases hH.2.2 j hj with ⟨g1, r, g2, g3⟩ | ⟨g1, g2⟩
    · exact Or.inl ⟨by rw [h2]; exact g1, r, by rw [h2]; exact g2, by rw [h2, hf]; exact g3.kept hq⟩
    · exact Or.inr ⟨by rw [h2]; exact g1, by rw [h2, h3, hf, hq]; exact g2⟩
theorem sv_setI {b : Nat} {S : hp} {i k : Nat} {v : Int32} (j n : Nat) (h : rfb (hK S i) k = false) : sv b (setI S i k v) j n = if j = i ∧ n = k then .int v else sv b S j n := by
  by_cases hj : j = i ∧ n = k
  · obtain ⟨rfl, rfl⟩ := hj
    simp [sv, hK_setI, hI_setI, h]
  · simp [sv, hK_setI, hI_setI, hR_setI, hj]
theorem sv_setR {b : Nat} {S : hp} {i k : Nat} {v : Option Nat} (j n : Nat) (h : rfb (hK S i) k = true) : sv b (setR S i k v) j n = if j = i ∧ n = k then cv b (va_rf v) else sv b S j n := by
  by_cases hj : j = i ∧ n = k
  · obtain ⟨rfl, rfl⟩ := hj
    simp [sv, hK_setR, hR_setR, h]
  · simp [sv, hK_setR, hI_setR, hR_setR, hj]
theorem HF.put {b : Nat} {s : State} {H H' : Heap} {locs : List Loc} {i k : Nat} (h : HF b s H locs) (oq : ∀ q : Nat, q ≠ b + i → H'[q]? = H[q]?) : HF b s H' (locs ++ [⟨b + i, k⟩]) := ⟨fun q hq => by rw [oq q (by omega)]; exact h.1 q hq, fun q hq => by
  rcases List.mem_append.mp hq with g | g
  · exact h.2 q g
  · rw [List.mem_singleton.mp g]; exact Nat.le_add_right _ _⟩
section VH
variable {p : Program} {l : Launch} {e : Env} {R : Room} {s : State} {m : MethodId} {args : Array Value} {below : List Frame} {meth : Method} {c : Code} {b : Nat} {D : va_G} {cy : Nat → ClassId} {nL : Nat} {Qf : State → Prop} {S : hp} {cells slots pc : Nat} {lv : List (Nat × Value)} {st : List Value} {cc : ByteArray} {own : String}
theorem HW.ob {H : Heap} (hH : HW b D cy S H) {i ci N : Nat} {C : String} {T : u_T} (hk : hK S i = ci) (hlt : ci < 12) (hc : vwCl[ci]? = some (C, T, N)) : t_OB (b + i) (D.1 ci) N (D.2 ci) H (sv b S i) := by
  rcases hH.2.2 i (by rw [hk]; omega) with ⟨g1, r, g2, g3⟩ | ⟨g1, g2⟩
  · rw [hk] at g2 g3
    rw [hc] at g2
    cases g2
    exact g3
  · omega
theorem HW.ar {H : Heap} (hH : HW b D cy S H) {i ci : Nat} (hk : hK S i = ci) (hlt : 12 ≤ ci) (h17 : ci < 17) : H[b + i]? = some (arrV (cy ci) (hN S i) (sv b S i)) := by
  rcases hH.2.2 i (by rw [hk]; omega) with ⟨g1, r, g2, g3⟩ | ⟨g1, g2⟩
  · omega
  · rw [hk] at g2; exact g2
theorem HW.va1 {H : Heap} (hH : HW b D cy S H) {i ci N : Nat} {C : String} {T : u_T} (hk : hK S i = ci) (hlt : ci < 12) (hc : vwCl[ci]? = some (C, T, N)) : va_P D vwCl [(b + i, .inr (ci, (List.range N).map (sv b S i)))] H := by
  intro k q hq
  match k, hq with
  | 0, hq =>
    cases hq
    exact ⟨_, hc, (hH.ob hk hlt hc).to (fun j hj => by simp [vp_V, List.getD_eq_getElem?_getD, hj])⟩
  | k + 1, hq => simp at hq
theorem v_get (X : CX p s m args c cc nL own D cy) {i k ci idx N : Nat} {C : String} {T : u_T} (hk : hK S i = ci) (hlt : ci < 12) (hc : vwCl[ci]? = some (C, T, N)) (hkN : k < N) (hin : ∀ w ∈ u_ws C T N, w ∈ gtb) (hlink : Cond.fieldLink own idx (T k).1 (T k).2.1 (T k).2.2.1 ∈ gtb) (hd : decode cc pc = .ok (.getfield idx, 3)) {v : Value} (hv : sv b S i k = cv b v) (kk : V p l e R s m args below meth c b D cy nL Qf S cells slots (pc + 3) lv (v :: st)) : V p l e R s m args below meth c b D cy nL Qf S cells slots pc lv (.ref i :: st) := by
  intro H locs ls hH hF hl
  exact va_get (D := D) (cl := vwCl) (ws := [(b + i, .inr (ci, (List.range N).map (sv b S i)))]) (tys := tyl cy) (v := cv b v) X.1 X.2.1 X.2.2.2.2.1 hin X.2.2.2.1 X.2.2.2.2.2.1 (hH.va1 hk hlt hc) 0 rfl hc k hkN (X.2.2.2.2.1 _ hlink) (fun _ h => h) (by simp [hkN, hv]) hd (kk H locs ls hH hF hl)
theorem v_getI (X : CX p s m args c cc nL own D cy) {i k ci idx N : Nat} {C : String} {T : u_T} (hk : hK S i = ci) (hlt : ci < 12) (hc : vwCl[ci]? = some (C, T, N)) (hkN : k < N) (hin : ∀ w ∈ u_ws C T N, w ∈ gtb) (hlink : Cond.fieldLink own idx (T k).1 (T k).2.1 (T k).2.2.1 ∈ gtb) (hrf : rfb ci k = false) (hd : decode cc pc = .ok (.getfield idx, 3)) (kk : V p l e R s m args below meth c b D cy nL Qf S cells slots (pc + 3) lv (.int (hI S i k) :: st)) : V p l e R s m args below meth c b D cy nL Qf S cells slots pc lv (.ref i :: st) := v_get X hk hlt hc hkN hin hlink hd (v := .int (hI S i k)) (sv_I hk hrf) kk
theorem v_getR (X : CX p s m args c cc nL own D cy) {i k ci idx N : Nat} {C : String} {T : u_T} (hk : hK S i = ci) (hlt : ci < 12) (hc : vwCl[ci]? = some (C, T, N)) (hkN : k < N) (hin : ∀ w ∈ u_ws C T N, w ∈ gtb) (hlink : Cond.fieldLink own idx (T k).1 (T k).2.1 (T k).2.2.1 ∈ gtb) (hrf : rfb ci k = true) (hd : decode cc pc = .ok (.getfield idx, 3)) {j : Nat} (hj : hR S i k = some j) (kk : V p l e R s m args below meth c b D cy nL Qf S cells slots (pc + 3) lv (.ref j :: st)) : V p l e R s m args below meth c b D cy nL Qf S cells slots pc lv (.ref i :: st) := v_get X hk hlt hc hkN hin hlink hd (v := .ref j) (by rw [sv_R hk hrf, hj]; rfl) kk
theorem v_put (X : CX p s m args c cc nL own D cy) {i k ci idx N : Nat} {C : String} {T : u_T} (hk : hK S i = ci) (hlt : ci < 12) (hc : vwCl[ci]? = some (C, T, N)) (hkN : k < N) (hin : ∀ w ∈ u_ws C T N, w ∈ gtb) (hlink : Cond.fieldLink own idx (T k).1 (T k).2.1 (T k).2.2.1 ∈ gtb) (ty0 : Nat → FieldType) (hty : ∀ k, k < N → parseFieldDescriptor (T k).2.2.1 = some (ty0 k)) (hnm : ∀ a, a < N → ∀ b, b < N → a ≠ b → (T a).2.1 ≠ (T b).2.1) (hfin : (T k).2.2.2 = false) {v : Value} (hn : narrow (ty0 k) (cv b v) = cv b v) (hfit : fits (ty0 k) (cv b v) = true) (hd : decode cc pc = .ok (.putfield idx, 3)) {S1 : hp} (e1 : hC S1 = hC S) (e2 : hK S1 = hK S) (e3 : hN S1 = hN S) (e4 : ∀ j n, sv b S1 j n = if j = i ∧ n = k then cv b v else sv b S j n) (kk : V p l e R s m args below meth c b D cy nL Qf S1 cells slots (pc + 3) lv st) : V p l e R s m args below meth c b D cy nL Qf S cells slots pc lv (v :: .ref i :: st) := by
  intro H locs ls hH hF hl
  have hts := X.2.2.2.2.1
  have hap := va_apart (own := own) hts hin ty0 hty hnm X.2.2.2.2.2.1 hc
  obtain ⟨cell, q1, q2, q3, q4⟩ := hH.ob hk hlt hc
  obtain ⟨hS, hfc, kC, hkC, hkind⟩ := X.2.2.2.2.2.1.1 ci _ hc
  obtain ⟨cf, kf, fi, f, hi, hsl⟩ := hS k hkN
  have hlay := hts _ (hin _ (u_in_lay hkN))
  unfold u_lay at hlay
  rw [if_neg (by rw [hfin]; decide)] at hlay
  have hst := (u_facts hfc hkC (u_lays hts hin hkN) hi).1
  have h6 := u_store hfc hkC hkind hlay hi (hty k hkN) hn hfit
  refine W.putK X.1 X.2.1 (f := f) ⟨X.2.2.2.1, hts _ hlink, ⟨_, _, _, hi⟩, hst⟩ (by rw [q2]; exact h6) q1 q3 (by rw [hsl]; exact k2_hasslot (q4 k hkN)) rfl rfl hd fun H' g1 g2 g3 => ?_
  rw [hsl] at g1 ⊢
  refine kk H' _ ls (hH.upd i e1 e2 e3 (fun j hj n => by rw [e4, if_neg (fun h => hj h.1)]) g2 g3 (Or.inl ⟨by rw [e2, hk]; exact hlt, _, by rw [e2, hk]; exact hc, ?_⟩)) (hF.put g3) hl
  rw [e2, hk]
  refine t_OB.to (V := updV (sv b S i) k (cv b v)) ⟨_, g1, q2, q3, t_set q4 hap hkN (cv b v)⟩ (fun j _ => ?_)
  rw [e4]
  by_cases hj : j = k <;> simp [updV, hj]
theorem v_putF (X : CX p s m args c cc nL own D cy) {i k ci idx N : Nat} {C : String} {T : u_T} (hk : hK S i = ci) (hlt : ci < 12) (hc : vwCl[ci]? = some (C, T, N)) (hkN : k < N) (hin : ∀ w ∈ u_ws C T N, w ∈ gtb) (hlink : Cond.fieldLink own idx (T k).1 (T k).2.1 (T k).2.2.1 ∈ gtb) (ty0 : Nat → FieldType) (hty : ∀ k, k < N → parseFieldDescriptor (T k).2.2.1 = some (ty0 k)) (hnm : ∀ a, a < N → ∀ b, b < N → a ≠ b → (T a).2.1 ≠ (T b).2.1) (hfin : (T k).2.2.2 = true) (hin2 : meth.name = "<init>") (hdecl : (T k).1 = own) {v : Value} (hn : narrow (ty0 k) (cv b v) = cv b v) (hfit : fits (ty0 k) (cv b v) = true) (hd : decode cc pc = .ok (.putfield idx, 3)) {S1 : hp} (e1 : hC S1 = hC S) (e2 : hK S1 = hK S) (e3 : hN S1 = hN S) (e4 : ∀ j n, sv b S1 j n = if j = i ∧ n = k then cv b v else sv b S j n) (kk : V p l e R s m args below meth c b D cy nL Qf S1 cells slots (pc + 3) lv st) : V p l e R s m args below meth c b D cy nL Qf S cells slots pc lv (v :: .ref i :: st) := by
  intro H locs ls hH hF hl
  have hts := X.2.2.2.2.1
  have hap := va_apart (own := own) hts hin ty0 hty hnm X.2.2.2.2.2.1 hc
  obtain ⟨cell, q1, q2, q3, q4⟩ := hH.ob hk hlt hc
  obtain ⟨hS, hfc, kC, hkC, hkind⟩ := X.2.2.2.2.2.1.1 ci _ hc
  obtain ⟨cf, kf, fi, f, hi, hsl⟩ := hS k hkN
  have hlay := hts _ (hin _ (u_in_lay hkN))
  unfold u_lay at hlay
  rw [if_pos hfin] at hlay
  have hst := (u_facts hfc hkC (u_lays hts hin hkN) hi).1
  have hcf : m.cls = cf := by
    obtain ⟨_, _, c', _, _, _, -, -, hf', -, -, -, hown2, -⟩ := Cond.laysFinal_spec hlay
    have e9 : c' = cf := by have := hi.symm.trans hf'; simp at this; exact this.1.symm
    rw [hdecl] at hown2
    rw [← e9]; exact Option.some.inj (X.2.2.2.1.symm.trans hown2)
  have h6 := u_fits hfc hkC hkind (Or.inr hlay) hi (hty k hkN) hn hfit
  refine W.putFinK X.1 X.2.1 X.2.2.2.1 (hts _ hlink) hi hst hcf hin2 (by rw [q2]; exact h6) q1 q3 (by rw [hsl]; exact k2_hasslot (q4 k hkN)) rfl rfl hd fun H' g1 g2 g3 => ?_
  rw [hsl] at g1 ⊢
  refine kk H' _ ls (hH.upd i e1 e2 e3 (fun j hj n => by rw [e4, if_neg (fun h => hj h.1)]) g2 g3 (Or.inl ⟨by rw [e2, hk]; exact hlt, _, by rw [e2, hk]; exact hc, ?_⟩)) (hF.put g3) hl
  rw [e2, hk]
  refine t_OB.to (V := updV (sv b S i) k (cv b v)) ⟨_, g1, q2, q3, t_set q4 hap hkN (cv b v)⟩ (fun j _ => ?_)
  rw [e4]
  by_cases hj : j = k <;> simp [updV, hj]
theorem v_putI (X : CX p s m args c cc nL own D cy) {i k ci idx N : Nat} {C : String} {T : u_T} (hk : hK S i = ci) (hlt : ci < 12) (hc : vwCl[ci]? = some (C, T, N)) (hkN : k < N) (hin : ∀ w ∈ u_ws C T N, w ∈ gtb) (hlink : Cond.fieldLink own idx (T k).1 (T k).2.1 (T k).2.2.1 ∈ gtb) (ty0 : Nat → FieldType) (hty : ∀ k, k < N → parseFieldDescriptor (T k).2.2.1 = some (ty0 k)) (hnm : ∀ a, a < N → ∀ b, b < N → a ≠ b → (T a).2.1 ≠ (T b).2.1) (hfin : (T k).2.2.2 = false) (hrf : rfb ci k = false) {v : Int32} (hn : narrow (ty0 k) (.int v) = .int v) (hfit : fits (ty0 k) (.int v) = true) (hd : decode cc pc = .ok (.putfield idx, 3)) (kk : V p l e R s m args below meth c b D cy nL Qf (setI S i k v) cells slots (pc + 3) lv st) : V p l e R s m args below meth c b D cy nL Qf S cells slots pc lv (.int v :: .ref i :: st) := v_put X hk hlt hc hkN hin hlink ty0 hty hnm hfin (v := .int v) hn hfit hd (S1 := setI S i k v) rfl rfl rfl (fun j n => sv_setI j n (by rw [hk]; exact hrf)) kk
theorem v_putR (X : CX p s m args c cc nL own D cy) {i k ci idx N : Nat} {C : String} {T : u_T} (hk : hK S i = ci) (hlt : ci < 12) (hc : vwCl[ci]? = some (C, T, N)) (hkN : k < N) (hin : ∀ w ∈ u_ws C T N, w ∈ gtb) (hlink : Cond.fieldLink own idx (T k).1 (T k).2.1 (T k).2.2.1 ∈ gtb) (ty0 : Nat → FieldType) (hty : ∀ k, k < N → parseFieldDescriptor (T k).2.2.1 = some (ty0 k)) (hnm : ∀ a, a < N → ∀ b, b < N → a ≠ b → (T a).2.1 ≠ (T b).2.1) (hfin : (T k).2.2.2 = false) (hrf : rfb ci k = true) {v : Nat} (hn : ∀ a : Nat, narrow (ty0 k) (.ref a) = .ref a) (hfit : ∀ a : Nat, fits (ty0 k) (.ref a) = true) (hd : decode cc pc = .ok (.putfield idx, 3)) (kk : V p l e R s m args below meth c b D cy nL Qf (setR S i k (some v)) cells slots (pc + 3) lv st) : V p l e R s m args below meth c b D cy nL Qf S cells slots pc lv (.ref v :: .ref i :: st) := v_put X hk hlt hc hkN hin hlink ty0 hty hnm hfin (v := .ref v) (hn _) (hfit _) hd (S1 := setR S i k (some v)) rfl rfl rfl (fun j n => sv_setR (v := some v) j n (by rw [hk]; exact hrf)) kk
theorem v_putFI (X : CX p s m args c cc nL own D cy) {i k ci idx N : Nat} {C : String} {T : u_T} (hk : hK S i = ci) (hlt : ci < 12) (hc : vwCl[ci]? = some (C, T, N)) (hkN : k < N) (hin : ∀ w ∈ u_ws C T N, w ∈ gtb) (hlink : Cond.fieldLink own idx (T k).1 (T k).2.1 (T k).2.2.1 ∈ gtb) (ty0 : Nat → FieldType) (hty : ∀ k, k < N → parseFieldDescriptor (T k).2.2.1 = some (ty0 k)) (hnm : ∀ a, a < N → ∀ b, b < N → a ≠ b → (T a).2.1 ≠ (T b).2.1) (hfin : (T k).2.2.2 = true) (hin2 : meth.name = "<init>") (hdecl : (T k).1 = own) (hrf : rfb ci k = false) {v : Int32} (hn : narrow (ty0 k) (.int v) = .int v) (hfit : fits (ty0 k) (.int v) = true) (hd : decode cc pc = .ok (.putfield idx, 3)) (kk : V p l e R s m args below meth c b D cy nL Qf (setI S i k v) cells slots (pc + 3) lv st) : V p l e R s m args below meth c b D cy nL Qf S cells slots pc lv (.int v :: .ref i :: st) := v_putF X hk hlt hc hkN hin hlink ty0 hty hnm hfin hin2 hdecl (v := .int v) hn hfit hd (S1 := setI S i k v) rfl rfl rfl (fun j n => sv_setI j n (by rw [hk]; exact hrf)) kk
theorem v_putFR (X : CX p s m args c cc nL own D cy) {i k ci idx N : Nat} {C : String} {T : u_T} (hk : hK S i = ci) (hlt : ci < 12) (hc : vwCl[ci]? = some (C, T, N)) (hkN : k < N) (hin : ∀ w ∈ u_ws C T N, w ∈ gtb) (hlink : Cond.fieldLink own idx (T k).1 (T k).2.1 (T k).2.2.1 ∈ gtb) (ty0 : Nat → FieldType) (hty : ∀ k, k < N → parseFieldDescriptor (T k).2.2.1 = some (ty0 k)) (hnm : ∀ a, a < N → ∀ b, b < N → a ≠ b → (T a).2.1 ≠ (T b).2.1) (hfin : (T k).2.2.2 = true) (hin2 : meth.name = "<init>") (hdecl : (T k).1 = own) (hrf : rfb ci k = true) {v : Nat} (hn : ∀ a : Nat, narrow (ty0 k) (.ref a) = .ref a) (hfit : ∀ a : Nat, fits (ty0 k) (.ref a) = true) (hd : decode cc pc = .ok (.putfield idx, 3)) (kk : V p l e R s m args below meth c b D cy nL Qf (setR S i k (some v)) cells slots (pc + 3) lv st) : V p l e R s m args below meth c b D cy nL Qf S cells slots pc lv (.ref v :: .ref i :: st) := v_putF X hk hlt hc hkN hin hlink ty0 hty hnm hfin hin2 hdecl (v := .ref v) (hn _) (hfit _) hd (S1 := setR S i k (some v)) rfl rfl rfl (fun j n => sv_setR (v := some v) j n (by rw [hk]; exact hrf)) kk
theorem arrV_rd {cI : ClassId} {N : Nat} {f : Nat → Value} {i : Int32} (h : vp_in i N) : (arrV cI N f).slots[i.toNatClampNeg]? = some (f i.toNatClampNeg) := arrV_read _ _ (Nat.not_le.mp fun q => h (Or.inr q))
theorem arrV_inb {cI : ClassId} {N : Nat} {f : Nat → Value} {i : Int32} (h : vp_in i N) : ¬ (i < 0 ∨ (arrV cI N f).slots.size ≤ i.toNatClampNeg) := by rw [arrV_size]; exact h
theorem v_iald (X : CX p s m args c cc nL own D cy) {a : Nat} {i : Int32} (hk : hK S a = 12) (hi : vp_in i (hN S a)) (hd : decode cc pc = .ok (.iaload, 1)) (kk : V p l e R s m args below meth c b D cy nL Qf S cells slots (pc + 1) lv (.int (hI S a i.toNatClampNeg) :: st)) : V p l e R s m args below meth c b D cy nL Qf S cells slots pc lv (.int i :: .ref a :: st) := fun H locs ls hH hF hl =>
  W.iald X.1 X.2.1 (hH.ar hk (by omega) (by omega)) ((X.2.2.2.2.2.1.2 0 _ rfl).1 _ _) (fun q => by cases q) (arrV_inb hi) ((arrV_rd hi).trans (by rw [sv_I hk rfl]; rfl)) rfl rfl hd (kk H locs ls hH hF hl)
theorem v_zald (X : CX p s m args c cc nL own D cy) {a : Nat} {i : Int32} (hk : hK S a = 13) (hi : vp_in i (hN S a)) (hd : decode cc pc = .ok (.baload, 1)) (kk : V p l e R s m args below meth c b D cy nL Qf S cells slots (pc + 1) lv (.int (hI S a i.toNatClampNeg) :: st)) : V p l e R s m args below meth c b D cy nL Qf S cells slots pc lv (.int i :: .ref a :: st) := fun H locs ls hH hF hl =>
  W.zald X.1 X.2.1 (hH.ar hk (by omega) (by omega)) ((X.2.2.2.2.2.1.2 1 _ rfl).1 _ _) (fun q => by cases q) (arrV_inb hi) ((arrV_rd hi).trans (by rw [sv_I hk rfl]; rfl)) rfl rfl hd (kk H locs ls hH hF hl)
theorem v_aald14 (X : CX p s m args c cc nL own D cy) {a : Nat} {i : Int32} {v : Value} (hk : hK S a = 14) (hi : vp_in i (hN S a)) (hd : decode cc pc = .ok (.aaload, 1)) (hv : va_rf (hR S a i.toNatClampNeg) = v) (kk : V p l e R s m args below meth c b D cy nL Qf S cells slots (pc + 1) lv (v :: st)) : V p l e R s m args below meth c b D cy nL Qf S cells slots pc lv (.int i :: .ref a :: st) := fun H locs ls hH hF hl =>
  W.aald (ty := .object "DummyInches$Mouth") X.1 X.2.1 (hH.ar hk (by omega) (by omega)) ((X.2.2.2.2.2.1.2 2 _ rfl).1 _ _) rfl (fun q => by cases q) (arrV_inb hi) ((arrV_rd hi).trans (by rw [sv_R hk rfl, hv])) rfl rfl hd (kk H locs ls hH hF hl)
theorem v_aald15 (X : CX p s m args c cc nL own D cy) {a : Nat} {i : Int32} {v : Value} (hk : hK S a = 15) (hi : vp_in i (hN S a)) (hd : decode cc pc = .ok (.aaload, 1)) (hv : va_rf (hR S a i.toNatClampNeg) = v) (kk : V p l e R s m args below meth c b D cy nL Qf S cells slots (pc + 1) lv (v :: st)) : V p l e R s m args below meth c b D cy nL Qf S cells slots pc lv (.int i :: .ref a :: st) := fun H locs ls hH hF hl =>
  W.aald (ty := .object "DummyInches$Street") X.1 X.2.1 (hH.ar hk (by omega) (by omega)) ((X.2.2.2.2.2.1.2 3 _ rfl).1 _ _) rfl (fun q => by cases q) (arrV_inb hi) ((arrV_rd hi).trans (by rw [sv_R hk rfl, hv])) rfl rfl hd (kk H locs ls hH hF hl)
theorem v_aald16 (X : CX p s m args c cc nL own D cy) {a : Nat} {i : Int32} {v : Value} (hk : hK S a = 16) (hi : vp_in i (hN S a)) (hd : decode cc pc = .ok (.aaload, 1)) (hv : va_rf (hR S a i.toNatClampNeg) = v) (kk : V p l e R s m args below meth c b D cy nL Qf S cells slots (pc + 1) lv (v :: st)) : V p l e R s m args below meth c b D cy nL Qf S cells slots pc lv (.int i :: .ref a :: st) := fun H locs ls hH hF hl =>
  W.aald (ty := .array .int) X.1 X.2.1 (hH.ar hk (by omega) (by omega)) ((X.2.2.2.2.2.1.2 4 _ rfl).1 _ _) rfl (fun q => by cases q) (arrV_inb hi) ((arrV_rd hi).trans (by rw [sv_R hk rfl, hv])) rfl rfl hd (kk H locs ls hH hF hl)
theorem v_iast (X : CX p s m args c cc nL own D cy) {a : Nat} {i x : Int32} (hk : hK S a = 12) (hi : vp_in i (hN S a)) (hd : decode cc pc = .ok (.iastore, 1)) (kk : V p l e R s m args below meth c b D cy nL Qf (setI S a i.toNatClampNeg x) cells slots (pc + 1) lv st) : V p l e R s m args below meth c b D cy nL Qf S cells slots pc lv (.int x :: .int i :: .ref a :: st) := by
  intro H locs ls hH hF hl
  refine W.iast X.1 X.2.1 (hH.ar hk (by omega) (by omega)) ((X.2.2.2.2.2.1.2 0 _ rfl).1 _ _) (fun q => by cases q) (arrV_inb hi) rfl rfl hd fun H1 g1 g2 g3 => ?_
  refine kk H1 _ ls (hH.upd a rfl rfl rfl (fun j hj n => by rw [sv_setI j n (by rw [hk]; rfl), if_neg (fun h => hj h.1)]) g2 g3 (Or.inr ⟨?_, ?_⟩)) (hF.put g3) hl
  · show 12 ≤ hK S a
    omega
  · rw [g1, arrV_store]
    show some (arrV _ _ _) = some (arrV (cy (hK S a)) (hN S a) _)
    rw [hk]
    congr 2
    funext q
    rw [sv_setI a q (by rw [hk]; rfl)]
    by_cases hq : q = i.toNatClampNeg
    · simp [updV, hq]
      try rfl
    · simp [updV, hq]
theorem v_zast (X : CX p s m args c cc nL own D cy) {a : Nat} {i x : Int32} (hk : hK S a = 13) (hi : vp_in i (hN S a)) (hd : decode cc pc = .ok (.bastore, 1)) (kk : V p l e R s m args below meth c b D cy nL Qf (setI S a i.toNatClampNeg (vp_nar .boolean x)) cells slots (pc + 1) lv st) : V p l e R s m args below meth c b D cy nL Qf S cells slots pc lv (.int x :: .int i :: .ref a :: st) := by
  intro H locs ls hH hF hl
  refine W.zast X.1 X.2.1 (hH.ar hk (by omega) (by omega)) ((X.2.2.2.2.2.1.2 1 _ rfl).1 _ _) (fun q => by cases q) (arrV_inb hi) rfl rfl hd fun H1 g1 g2 g3 => ?_
  refine kk H1 _ ls (hH.upd a rfl rfl rfl (fun j hj n => by rw [sv_setI j n (by rw [hk]; rfl), if_neg (fun h => hj h.1)]) g2 g3 (Or.inr ⟨?_, ?_⟩)) (hF.put g3) hl
  · show 12 ≤ hK S a
    omega
  · rw [g1, arrV_store]
    show some (arrV _ _ _) = some (arrV (cy (hK S a)) (hN S a) _)
    rw [hk]
    congr 2
    funext q
    rw [sv_setI a q (by rw [hk]; rfl)]
    by_cases hq : q = i.toNatClampNeg
    · simp [updV, hq]
      try rfl
    · simp [updV, hq]
theorem v_alen (X : CX p s m args c cc nL own D cy) {a kd : Nat} {n : Int32} (hk : hK S a = kd) (h12 : 12 ≤ kd) (h17 : kd < 17) (hn : nI (hN S a) = n) (hd : decode cc pc = .ok (.arraylength, 1)) (kk : V p l e R s m args below meth c b D cy nL Qf S cells slots (pc + 1) lv (.int n :: st)) : V p l e R s m args below meth c b D cy nL Qf S cells slots pc lv (.ref a :: st) := by
  intro H locs ls hH hF hl
  have hA : ∃ ty, ArrOfT s (cy kd) ty := by
    rcases (show kd = 12 ∨ kd = 13 ∨ kd = 14 ∨ kd = 15 ∨ kd = 16 by omega) with h | h | h | h | h <;> subst h
    · exact ⟨_, (X.2.2.2.2.2.1.2 0 _ rfl).1⟩
    · exact ⟨_, (X.2.2.2.2.2.1.2 1 _ rfl).1⟩
    · exact ⟨_, (X.2.2.2.2.2.1.2 2 _ rfl).1⟩
    · exact ⟨_, (X.2.2.2.2.2.1.2 3 _ rfl).1⟩
    · exact ⟨_, (X.2.2.2.2.2.1.2 4 _ rfl).1⟩
  obtain ⟨ty, hA⟩ := hA
  exact W.alen X.1 X.2.1 (hH.ar hk h12 h17) (hA _ _) (by rw [arrV_size]; exact hn) rfl rfl hd (kk H locs ls hH hF hl)
end VH
end
section
theorem KN.same {D : va_G} {cy : Nat → ClassId} {s U : State} (e : s.vm = U.vm) (h : KN D cy s) : KN D cy U := by
  have ha : s.vm.Alike U.vm := by rw [← e]; exact Vm.Alike.refl _
  refine ⟨h.1.moved ha, fun q hq => (h.2.1 q hq).moved ha, fun q hq => (h.2.2.1 q hq).same rfl e, fun q hq => (h.2.2.2.1 q hq).same rfl e, fun q hq => (h.2.2.2.2.1 q hq).same rfl e, fun q hq => ?_⟩
  have h9 : (Cond.arrayOver q).before #[] (s.setVm U.vm) = true := by rw [Cond.arrayOver_setVmC ha]; exact h.2.2.2.2.2 q hq
  exact h9
theorem HW.grow {b : Nat} {D : va_G} {cy : Nat → ClassId} {S : hp} {H H' : Heap} (hH : HW b D cy S H) {kd n : Nat} (hkd : kd < 17) (z : H'.size = b + hC S + 1) (o : ∀ q : Nat, q < b + hC S → H'[q]? = H[q]?) (hi : cellAt b D cy (newC S kd n) (hC S) H') : HW b D cy (newC S kd n) H' := by
  refine ⟨z, fun j hj => ?_, fun j hj => ?_⟩
  · rw [hC_newC]
    rw [hK_newC] at hj
    by_cases h : j = hC S
    · omega
    · rw [if_neg h] at hj
      have := hH.2.1 j hj
      omega
  · by_cases h : j = hC S
    · subst h; exact hi
    · have hK' : hK (newC S kd n) j = hK S j := by rw [hK_newC, if_neg h]
      have hN' : hN (newC S kd n) j = hN S j := by rw [hN_newC, if_neg h]
      have hv : sv b (newC S kd n) j = sv b S j := by funext k; simp [sv, hK', hI_newC, hR_newC, h]
      rw [hK'] at hj
      have hl := hH.2.1 j hj
      have hq := o (b + j) (by omega)
      rcases hH.2.2 j hj with ⟨g1, r, g2, g3⟩ | ⟨g1, g2⟩
      · exact Or.inl ⟨by rw [hK']; exact g1, r, by rw [hK']; exact g2, by rw [hK', hv]; exact g3.kept hq⟩
      · exact Or.inr ⟨by rw [hK']; exact g1, by rw [hK', hN', hv, hq]; exact g2⟩
theorem HF.grow {b n : Nat} {s : State} {H H' : Heap} {locs : List Loc} (h : HF b s H locs) (o : ∀ q : Nat, q < b + n → H'[q]? = H[q]?) : HF b s H' locs := ⟨fun q hq => by rw [o q (by omega)]; exact h.1 q hq, h.2⟩
theorem sv_new (b : Nat) (S : hp) (kd n k : Nat) : sv b (newC S kd n) (hC S) k = if rfb kd k = true then .null else .int 0 := by
  simp [sv, hK_newC, hI_newC, hR_newC]
  by_cases h : rfb kd k = true <;> simp [h, va_rf, cv]
def CQ (b : Nat) (D : va_G) (cy : Nat → ClassId) (post : Option Value → hp → Prop) : Array Value → State → Outcome → State → Prop := fun _ st o t => ∃ (v : Option Value) (S' : hp), o = .returned (v.map (cv b)) ∧ post v S' ∧ HW b D cy S' t.heap ∧ ∀ q : Nat, q < b → t.heap[q]? = st.heap[q]?
abbrev PC (b : Nat) (D : va_G) (cy : Nat → ClassId) (S : hp) (av : List Value) : Array Value → State → Prop := va_Pc (av.map (cv b)) (fun U => HW b D cy S U.heap ∧ KN D cy U)
/-- a method's contract over the pure heap -/
def MT (l : Launch) (y : MethodName) (cc : ByteArray) (maxL : Nat) (ret : Option FieldType) (fr lo mc ms : Nat) (b : Nat) (D : va_G) (cy : Nat → ClassId) (S : hp) (av : List Value) (post : Option Value → hp → Prop) : Prop :=
  Met l y (Cond.code y cc maxL ret :: gtb) { frames := fr, cells := mc, slots := ms, locals := lo } (PC b D cy S av) (CQ b D cy post) mc ms (fun q => b ≤ q)
theorem PC_blind (b : Nat) (D : va_G) (cy : Nat → ClassId) (S : hp) (av : List Value) : FrameBlind (PC b D cy S av) := fun a U g mk h => ⟨h.1, h.2.1, KN.same (s := U) (U := U.calling g mk a) rfl h.2.2⟩
theorem lv_args_cv (b : Nat) : ∀ (av : List Value) (n : Nat), (lv_args n av).map (cvp b) = lv_args n (av.map (cv b))
  | [], n => rfl
  | v :: av, n => by
    simp only [lv_args, List.map_cons, cv_cat]
    rw [lv_args_cv b av]
section VC
variable {p : Program} {l : Launch} {e : Env} {R : Room} {s : State} {m : MethodId} {args : Array Value} {below : List Frame} {meth : Method} {c : Code} {b : Nat} {D : va_G} {cy : Nat → ClassId} {nL : Nat} {Qf : State → Prop} {S : hp} {cells slots pc : Nat} {lv : List (Nat × Value)} {st : List Value} {cc : ByteArray} {own : String}
theorem HW.size_lt {H : Heap} (hH : HW b D cy S H) : H.size = b + hC S := hH.1
theorem v_new (X : CX p s m args c cc nL own D cy) {idx N ci : Nat} {C : String} {T : u_T} (hc : vwCl[ci]? = some (C, T, N)) (hlt : ci < 12) (hin : ∀ w ∈ u_ws C T N, w ∈ gtb) (ty : Nat → FieldType) (hty : ∀ k, k < N → parseFieldDescriptor (T k).2.2.1 = some (ty k)) (hcl : Cond.classLink own idx C ∈ gtb) (hinst : Cond.instantiable C N ∈ gtb) (hini : Cond.initialized C ∈ gtb) (hdef : ∀ k, k < N → defaultValue (ty k) = if rfb ci k = true then .null else .int 0) (hcells : cells + 1 ≤ R.cells) (hslots : slots + N ≤ R.slots) (hd : decode cc pc = .ok (.new idx, 3)) (kk : V p l e R s m args below meth c b D cy nL Qf (newC S ci 0) (cells + 1) (slots + N) (pc + 3) lv (.ref (hC S) :: st)) : V p l e R s m args below meth c b D cy nL Qf S cells slots pc lv st := by
  intro H locs ls hH hF hl
  have hts := X.2.2.2.2.1
  have hKn := X.2.2.2.2.2.1.1 ci _ hc
  refine W.newcK X.1 X.2.1 X.2.2.2.1 (hts _ hcl) (hts _ hinst) (hts _ hini) rfl hd hcells hslots hKn.2.1 hH.1 fun H1 kC hkC e1 z1 o1 => ?_
  refine kk H1 locs ls (hH.grow (by omega) z1 o1 (Or.inl ⟨by rw [hK_newC, if_pos rfl]; exact hlt, _, by rw [hK_newC, if_pos rfl]; exact hc, ?_⟩)) (hF.grow o1) hl
  rw [hK_newC, if_pos rfl]
  exact (u_born ty hts hin hKn hkC e1 hty).to (fun k hk => by rw [sv_new]; exact hdef k hk)
theorem v_newI (X : CX p s m args c cc nL own D cy) {n : Int32} {N : Nat} (harr : Cond.arrayClass .int ∈ gtb) (hn : ¬ n < 0) (hN : n.toNatClampNeg = N) (hbytes : N * componentBytes .int ≤ 536870912) (hcells : cells + 1 ≤ R.cells) (hslots : slots + N ≤ R.slots) (hd : decode cc pc = .ok (.newarray .int, 2)) (kk : V p l e R s m args below meth c b D cy nL Qf (newC S 12 N) (cells + 1) (slots + N) (pc + 2) lv (.ref (hC S) :: st)) : V p l e R s m args below meth c b D cy nL Qf S cells slots pc lv (.int n :: st) := by
  intro H locs ls hH hF hl
  refine va_newaK (atype := .int) X.1 X.2.1 (X.2.2.2.2.1 _ harr) rfl hd rfl hn hN hbytes hcells hslots hH.1 fun H1 cA e1 z1 o1 hAr hNm => ?_
  have hcA : cA = cy 12 := Option.some.inj (hNm.symm.trans (X.2.2.2.2.2.1.2 0 _ rfl).2)
  refine kk H1 locs ls (hH.grow (by omega) z1 o1 (Or.inr ⟨by rw [hK_newC, if_pos rfl]; omega, ?_⟩)) (hF.grow o1) hl
  rw [hK_newC, if_pos rfl, hN_newC, if_pos rfl, e1, hcA]
  congr 2
  funext k
  rw [sv_new]
  rfl
theorem v_newZ (X : CX p s m args c cc nL own D cy) {n : Int32} {N : Nat} (harr : Cond.arrayClass .boolean ∈ gtb) (hn : ¬ n < 0) (hN : n.toNatClampNeg = N) (hbytes : N * componentBytes .boolean ≤ 536870912) (hcells : cells + 1 ≤ R.cells) (hslots : slots + N ≤ R.slots) (hd : decode cc pc = .ok (.newarray .boolean, 2)) (kk : V p l e R s m args below meth c b D cy nL Qf (newC S 13 N) (cells + 1) (slots + N) (pc + 2) lv (.ref (hC S) :: st)) : V p l e R s m args below meth c b D cy nL Qf S cells slots pc lv (.int n :: st) := by
  intro H locs ls hH hF hl
  refine va_newaK (atype := .boolean) X.1 X.2.1 (X.2.2.2.2.1 _ harr) rfl hd rfl hn hN hbytes hcells hslots hH.1 fun H1 cA e1 z1 o1 hAr hNm => ?_
  have hcA : cA = cy 13 := Option.some.inj (hNm.symm.trans (X.2.2.2.2.2.1.2 1 _ rfl).2)
  refine kk H1 locs ls (hH.grow (by omega) z1 o1 (Or.inr ⟨by rw [hK_newC, if_pos rfl]; omega, ?_⟩)) (hF.grow o1) hl
  rw [hK_newC, if_pos rfl, hN_newC, if_pos rfl, e1, hcA]
  congr 2
  funext k
  rw [sv_new]
  rfl
theorem v_newM (X : CX p s m args c cc nL own D cy) {idx : Nat} {n : Int32} {N : Nat} (hcl : Cond.classLink own idx RX4 ∈ gtb) (hn : ¬ n < 0) (hN : n.toNatClampNeg = N) (hbytes : N * 4 ≤ 536870912) (hcells : cells + 1 ≤ R.cells) (hslots : slots + N ≤ R.slots) (hd : decode cc pc = .ok (.anewarray idx, 3)) (kk : V p l e R s m args below meth c b D cy nL Qf (newC S 14 N) (cells + 1) (slots + N) (pc + 3) lv (.ref (hC S) :: st)) : V p l e R s m args below meth c b D cy nL Qf S cells slots pc lv (.int n :: st) := by
  intro H locs ls hH hF hl
  subst hN
  have hov : (Cond.arrayOver (.object RX4)).before #[] s = true := X.2.2.2.2.2.2.2.2.2.2 _ (List.mem_of_getElem? (i := 0) rfl)
  have hsz := hH.1
  have hgo := W.anew (e := e) (l := l) (R := R) (below := below) (meth := meth) (locs := locs) (Q := Qf) (H := H) (cells := cells) (slots := slots) X.1 X.2.1 X.2.2.2.1 (X.2.2.2.2.1 _ hcl) (va_AO.use (C := RX4) (A := args) (U := s) hov) (g := F0 m pc ls (.int n :: st.map (cv b))) rfl hd rfl hn hbytes hcells hslots
  refine hgo fun cA kA comp h1 h2 h3 h4 => ?_
  obtain ⟨kA', comp', -, -, -, h9⟩ := (X.2.2.2.2.2.1.2 2 _ rfl).2
  have hcA : cA = cy 14 := Option.some.inj (h1.symm.trans h9)
  rw [arrV_new]
  generalize hH1 : H.push (arrV cA n.toNatClampNeg (fun _ => .null)) = H1
  have z1 : H1.size = b + hC S + 1 := by rw [← hH1, Array.size_push, hsz]
  have o1 : ∀ q : Nat, q < b + hC S → H1[q]? = H[q]? := fun q hq => by
    rw [← hH1, Array.getElem?_push, if_neg (by omega)]
  have e1 : H1[b + hC S]? = some (arrV cA n.toNatClampNeg (fun _ => .null)) := by
    rw [← hH1, Array.getElem?_push, if_pos hsz.symm]
  have hk := kk H1 locs ls (hH.grow (by omega) z1 o1 (Or.inr ⟨by rw [hK_newC, if_pos rfl]; omega, by
    rw [hK_newC, if_pos rfl, hN_newC, if_pos rfl, e1, hcA]
    congr 2
    funext k
    rw [sv_new]
    rfl⟩)) (hF.grow o1) hl
  rw [hsz]
  exact hk
theorem v_newS (X : CX p s m args c cc nL own D cy) {idx : Nat} {n : Int32} {N : Nat} (hcl : Cond.classLink own idx RX8 ∈ gtb) (hn : ¬ n < 0) (hN : n.toNatClampNeg = N) (hbytes : N * 4 ≤ 536870912) (hcells : cells + 1 ≤ R.cells) (hslots : slots + N ≤ R.slots) (hd : decode cc pc = .ok (.anewarray idx, 3)) (kk : V p l e R s m args below meth c b D cy nL Qf (newC S 15 N) (cells + 1) (slots + N) (pc + 3) lv (.ref (hC S) :: st)) : V p l e R s m args below meth c b D cy nL Qf S cells slots pc lv (.int n :: st) := by
  intro H locs ls hH hF hl
  subst hN
  have hov : (Cond.arrayOver (.object RX8)).before #[] s = true := X.2.2.2.2.2.2.2.2.2.2 _ (List.mem_of_getElem? (i := 1) rfl)
  have hsz := hH.1
  have hgo := W.anew (e := e) (l := l) (R := R) (below := below) (meth := meth) (locs := locs) (Q := Qf) (H := H) (cells := cells) (slots := slots) X.1 X.2.1 X.2.2.2.1 (X.2.2.2.2.1 _ hcl) (va_AO.use (C := RX8) (A := args) (U := s) hov) (g := F0 m pc ls (.int n :: st.map (cv b))) rfl hd rfl hn hbytes hcells hslots
  refine hgo fun cA kA comp h1 h2 h3 h4 => ?_
  obtain ⟨kA', comp', -, -, -, h9⟩ := (X.2.2.2.2.2.1.2 3 _ rfl).2
  have hcA : cA = cy 15 := Option.some.inj (h1.symm.trans h9)
  rw [arrV_new]
  generalize hH1 : H.push (arrV cA n.toNatClampNeg (fun _ => .null)) = H1
  have z1 : H1.size = b + hC S + 1 := by rw [← hH1, Array.size_push, hsz]
  have o1 : ∀ q : Nat, q < b + hC S → H1[q]? = H[q]? := fun q hq => by
    rw [← hH1, Array.getElem?_push, if_neg (by omega)]
  have e1 : H1[b + hC S]? = some (arrV cA n.toNatClampNeg (fun _ => .null)) := by
    rw [← hH1, Array.getElem?_push, if_pos hsz.symm]
  have hk := kk H1 locs ls (hH.grow (by omega) z1 o1 (Or.inr ⟨by rw [hK_newC, if_pos rfl]; omega, by
    rw [hK_newC, if_pos rfl, hN_newC, if_pos rfl, e1, hcA]
    congr 2
    funext k
    rw [sv_new]
    rfl⟩)) (hF.grow o1) hl
  rw [hsz]
  exact hk
theorem v_aastM (X : CX p s m args c cc nL own D cy) {a v ci : Nat} {i : Int32} (hk : hK S a = 14) (hv : hK S v = ci) (hci : ci = 1 ∨ ci = 3 ∨ ci = 4 ∨ ci = 6 ∨ ci = 9) (hi : vp_in i (hN S a)) (hd : decode cc pc = .ok (.aastore, 1)) (kk : V p l e R s m args below meth c b D cy nL Qf (setR S a i.toNatClampNeg (some v)) cells slots (pc + 1) lv st) : V p l e R s m args below meth c b D cy nL Qf S cells slots pc lv (.ref v :: .int i :: .ref a :: st) := by
  intro H locs ls hH hF hl
  have hlt : i.toNatClampNeg < hN S a := Nat.not_le.mp fun q => hi (Or.inr q)
  have h0 : ¬ i < 0 := fun q => hi (Or.inl q)
  have hany : va_Any "DummyInches$Mouth" s H (b + v) := by
    rcases hci with rfl | rfl | rfl | rfl | rfl
    · obtain ⟨cell, g1, g2, g3⟩ := va_recv (q0 := 0) (q := (RX1, TX1, 2)) X.2.2.2.2.2.1 (hH.va1 hv (by omega) rfl) rfl rfl
      obtain ⟨kC, hkC, -⟩ := Vm.findClass_spec g3
      obtain ⟨c0, t0, f1, f2, f3⟩ := Cond.castable_spec (va_Nw.use (A := args) rfl (X.2.2.2.2.2.2.2.1 (RX1, RX4) (List.mem_of_getElem? (i := 3) rfl)))
      exact ⟨cell, g1, g2, ⟨kC, hkC⟩, fun comp h => by rw [← Option.some.inj (f1.symm.trans g3), ← Option.some.inj (f2.symm.trans h)]; exact f3⟩
    · obtain ⟨cell, g1, g2, g3⟩ := va_recv (q0 := 0) (q := (RX3, TX3, 2)) X.2.2.2.2.2.1 (hH.va1 hv (by omega) rfl) rfl rfl
      obtain ⟨kC, hkC, -⟩ := Vm.findClass_spec g3
      obtain ⟨c0, t0, f1, f2, f3⟩ := Cond.castable_spec (va_Nw.use (A := args) rfl (X.2.2.2.2.2.2.2.1 (RX3, RX4) (List.mem_of_getElem? (i := 5) rfl)))
      exact ⟨cell, g1, g2, ⟨kC, hkC⟩, fun comp h => by rw [← Option.some.inj (f1.symm.trans g3), ← Option.some.inj (f2.symm.trans h)]; exact f3⟩
    · obtain ⟨cell, g1, g2, g3⟩ := va_recv (q0 := 0) (q := (RX5, TX5, 2)) X.2.2.2.2.2.1 (hH.va1 hv (by omega) rfl) rfl rfl
      obtain ⟨kC, hkC, -⟩ := Vm.findClass_spec g3
      obtain ⟨c0, t0, f1, f2, f3⟩ := Cond.castable_spec (va_Nw.use (A := args) rfl (X.2.2.2.2.2.2.2.1 (RX5, RX4) (List.mem_of_getElem? (i := 4) rfl)))
      exact ⟨cell, g1, g2, ⟨kC, hkC⟩, fun comp h => by rw [← Option.some.inj (f1.symm.trans g3), ← Option.some.inj (f2.symm.trans h)]; exact f3⟩
    · obtain ⟨cell, g1, g2, g3⟩ := va_recv (q0 := 0) (q := (RX7, TX7, 2)) X.2.2.2.2.2.1 (hH.va1 hv (by omega) rfl) rfl rfl
      obtain ⟨kC, hkC, -⟩ := Vm.findClass_spec g3
      obtain ⟨c0, t0, f1, f2, f3⟩ := Cond.castable_spec (va_Nw.use (A := args) rfl (X.2.2.2.2.2.2.2.1 (RX7, RX4) (List.mem_of_getElem? (i := 6) rfl)))
      exact ⟨cell, g1, g2, ⟨kC, hkC⟩, fun comp h => by rw [← Option.some.inj (f1.symm.trans g3), ← Option.some.inj (f2.symm.trans h)]; exact f3⟩
    · obtain ⟨cell, g1, g2, g3⟩ := va_recv (q0 := 0) (q := (RX10, TX10, 2)) X.2.2.2.2.2.1 (hH.va1 hv (by omega) rfl) rfl rfl
      obtain ⟨kC, hkC, -⟩ := Vm.findClass_spec g3
      obtain ⟨c0, t0, f1, f2, f3⟩ := Cond.castable_spec (va_Nw.use (A := args) rfl (X.2.2.2.2.2.2.2.1 (RX10, RX4) (List.mem_of_getElem? (i := 7) rfl)))
      exact ⟨cell, g1, g2, ⟨kC, hkC⟩, fun comp h => by rw [← Option.some.inj (f1.symm.trans g3), ← Option.some.inj (f2.symm.trans h)]; exact f3⟩
  obtain ⟨cellV, g1, g3, ⟨kC, hkC⟩, hasg⟩ := hany
  obtain ⟨kA, comp, k1, k2, k3, -⟩ := (X.2.2.2.2.2.1.2 2 _ rfl).2
  obtain ⟨kE, hkE, -⟩ := Vm.findClass_spec k3
  refine W.aast X.1 X.2.1 (hH.ar hk (by omega) (by omega)) (fun q h => by cases h) (fun h => by cases h) k1 k2 rfl hkE ⟨h0, by rw [arrV_size]; exact hlt⟩ g1 (fun q h => by rw [h] at g3; cases g3) hkC (hasg _ k3) rfl rfl hd fun H1 g1 g2 g3 => ?_
  refine kk H1 _ ls (hH.upd a rfl rfl rfl (fun j hj n => by rw [sv_setR j n (by rw [hk]; rfl), if_neg (fun h => hj h.1)]) g2 g3 (Or.inr ⟨by show 12 ≤ hK S a; omega, ?_⟩)) (hF.put g3) hl
  rw [g1, arrV_store]
  show some (arrV _ _ _) = some (arrV (cy (hK S a)) (hN S a) _)
  rw [hk]
  congr 2
  funext q
  rw [sv_setR a q (by rw [hk]; rfl)]
  by_cases hq : q = i.toNatClampNeg
  · simp [updV, hq]
    try rfl
  · simp [updV, hq]
theorem v_aastMN (X : CX p s m args c cc nL own D cy) {a : Nat} {i : Int32} (hk : hK S a = 14) (hi : vp_in i (hN S a)) (hd : decode cc pc = .ok (.aastore, 1)) (kk : V p l e R s m args below meth c b D cy nL Qf (setR S a i.toNatClampNeg none) cells slots (pc + 1) lv st) : V p l e R s m args below meth c b D cy nL Qf S cells slots pc lv (.null :: .int i :: .ref a :: st) := by
  intro H locs ls hH hF hl
  refine va_WaastN (C := "DummyInches$Mouth") X.1 X.2.1 (hH.ar hk (by omega) (by omega)) ((X.2.2.2.2.2.1.2 2 _ rfl).1 _ _) (fun q => by cases q) (arrV_inb hi) rfl rfl hd fun H1 g1 g2 g3 => ?_
  refine kk H1 _ ls (hH.upd a rfl rfl rfl (fun j hj n => by rw [sv_setR j n (by rw [hk]; rfl), if_neg (fun h => hj h.1)]) g2 g3 (Or.inr ⟨by show 12 ≤ hK S a; omega, ?_⟩)) (hF.put g3) hl
  rw [g1, arrV_store]
  show some (arrV _ _ _) = some (arrV (cy (hK S a)) (hN S a) _)
  rw [hk]
  congr 2
  funext q
  rw [sv_setR a q (by rw [hk]; rfl)]
  by_cases hq : q = i.toNatClampNeg
  · simp [updV, hq, va_rf]
    try rfl
  · simp [updV, hq]
theorem v_aastS (X : CX p s m args c cc nL own D cy) {a v ci : Nat} {i : Int32} (hk : hK S a = 15) (hv : hK S v = ci) (hci : ci = 7) (hi : vp_in i (hN S a)) (hd : decode cc pc = .ok (.aastore, 1)) (kk : V p l e R s m args below meth c b D cy nL Qf (setR S a i.toNatClampNeg (some v)) cells slots (pc + 1) lv st) : V p l e R s m args below meth c b D cy nL Qf S cells slots pc lv (.ref v :: .int i :: .ref a :: st) := by
  intro H locs ls hH hF hl
  have hlt : i.toNatClampNeg < hN S a := Nat.not_le.mp fun q => hi (Or.inr q)
  have h0 : ¬ i < 0 := fun q => hi (Or.inl q)
  have hany : va_Any "DummyInches$Street" s H (b + v) := by
    subst hci
    obtain ⟨cell, g1, g2, g3⟩ := va_recv (q0 := 0) (q := (RX8, TX8, 10)) X.2.2.2.2.2.1 (hH.va1 hv (by omega) rfl) rfl rfl
    obtain ⟨kC, hkC, -⟩ := Vm.findClass_spec g3
    exact ⟨cell, g1, g2, ⟨kC, hkC⟩, fun comp h => by
      have hcls := (X.2.2.2.2.2.1.1 7 (RX8, TX8, 10) rfl).2
      rw [Option.some.inj (g3.symm.trans hcls.1), Option.some.inj (h.symm.trans hcls.1)]
      exact va_assign hcls⟩
  obtain ⟨cellV, g1, g3, ⟨kC, hkC⟩, hasg⟩ := hany
  obtain ⟨kA, comp, k1, k2, k3, -⟩ := (X.2.2.2.2.2.1.2 3 _ rfl).2
  obtain ⟨kE, hkE, -⟩ := Vm.findClass_spec k3
  refine W.aast X.1 X.2.1 (hH.ar hk (by omega) (by omega)) (fun q h => by cases h) (fun h => by cases h) k1 k2 rfl hkE ⟨h0, by rw [arrV_size]; exact hlt⟩ g1 (fun q h => by rw [h] at g3; cases g3) hkC (hasg _ k3) rfl rfl hd fun H1 g1 g2 g3 => ?_
  refine kk H1 _ ls (hH.upd a rfl rfl rfl (fun j hj n => by rw [sv_setR j n (by rw [hk]; rfl), if_neg (fun h => hj h.1)]) g2 g3 (Or.inr ⟨by show 12 ≤ hK S a; omega, ?_⟩)) (hF.put g3) hl
  rw [g1, arrV_store]
  show some (arrV _ _ _) = some (arrV (cy (hK S a)) (hN S a) _)
  rw [hk]
  congr 2
  funext q
  rw [sv_setR a q (by rw [hk]; rfl)]
  by_cases hq : q = i.toNatClampNeg
  · simp [updV, hq]
    try rfl
  · simp [updV, hq]
theorem v_aastSN (X : CX p s m args c cc nL own D cy) {a : Nat} {i : Int32} (hk : hK S a = 15) (hi : vp_in i (hN S a)) (hd : decode cc pc = .ok (.aastore, 1)) (kk : V p l e R s m args below meth c b D cy nL Qf (setR S a i.toNatClampNeg none) cells slots (pc + 1) lv st) : V p l e R s m args below meth c b D cy nL Qf S cells slots pc lv (.null :: .int i :: .ref a :: st) := by
  intro H locs ls hH hF hl
  refine va_WaastN (C := "DummyInches$Street") X.1 X.2.1 (hH.ar hk (by omega) (by omega)) ((X.2.2.2.2.2.1.2 3 _ rfl).1 _ _) (fun q => by cases q) (arrV_inb hi) rfl rfl hd fun H1 g1 g2 g3 => ?_
  refine kk H1 _ ls (hH.upd a rfl rfl rfl (fun j hj n => by rw [sv_setR j n (by rw [hk]; rfl), if_neg (fun h => hj h.1)]) g2 g3 (Or.inr ⟨by show 12 ≤ hK S a; omega, ?_⟩)) (hF.put g3) hl
  rw [g1, arrV_store]
  show some (arrV _ _ _) = some (arrV (cy (hK S a)) (hN S a) _)
  rw [hk]
  congr 2
  funext q
  rw [sv_setR a q (by rw [hk]; rfl)]
  by_cases hq : q = i.toNatClampNeg
  · simp [updV, hq, va_rf]
    try rfl
  · simp [updV, hq]
theorem v_objInit (X : CX p s m args c cc nL own D cy) {idx a : Nat} (hlink : Cond.methodLink own idx objectInit ∈ gtb) (hinst : Cond.instanceMethod objectInit ∈ gtb) (hcode : Cond.code objectInit ⟨#[0xb1]⟩ 1 none ∈ gtb) (hd : decode cc pc = .ok (.invokespecial idx, 3)) (hframes : 1 ≤ R.frames) (hlocals : ((st.map (cv b)).map fun v => v.category).sum + 12 ≤ R.locals) (kk : V p l e R s m args below meth c b D cy nL Qf S cells slots (pc + 3) lv st) : V p l e R s m args below meth c b D cy nL Qf S cells slots pc lv (.ref a :: st) := fun H locs ls hH hF hl =>
  W.objInit X.1 X.2.1 X.2.2.2.1 (X.2.2.2.2.1 _ hlink) (X.2.2.2.2.1 _ hinst) (X.2.2.2.2.1 _ hcode) rfl (by rw [X.2.2.1]; exact hl.1) rfl hd hframes (by show 2 * 0 + _ + _ ≤ _; omega) (kk H locs ls hH hF hl)
theorem v_mmax (X : CX p s m args c cc nL own D cy) {idx : Nat} {x y : Int32} (hlink : Cond.methodLink own idx Lib.Math.max.name ∈ gtb) (hstat : Cond.static Lib.Math.max.name ∈ gtb) (hini : Cond.initialized "java/lang/Math" ∈ gtb) (hcode : Cond.code Lib.Math.max.name Lib.Math.max.code 2 (some .int) ∈ gtb) (hframes : 1 ≤ R.frames) (hlocals : ((st.map (cv b)).map fun v => v.category).sum + 13 ≤ R.locals) (hc : cells ≤ R.cells) (hs : slots ≤ R.slots) (hd : decode cc pc = .ok (.invokestatic idx, 3)) (kk : V p l e R s m args below meth c b D cy nL Qf S cells slots (pc + 3) lv (.int (if x < y then y else x) :: st)) : V p l e R s m args below meth c b D cy nL Qf S cells slots pc lv (.int y :: .int x :: st) := fun H locs ls hH hF hl =>
  va_mmax X.1 X.2.1 (by rw [X.2.2.1]; exact hl.1.symm) X.2.2.2.1 (X.2.2.2.2.1 _ hlink) (X.2.2.2.2.1 _ hstat) (X.2.2.2.2.1 _ hini) (X.2.2.2.2.1 _ hcode) hframes hlocals hc hs hd (kk H locs ls hH hF hl)
theorem v_mmin (X : CX p s m args c cc nL own D cy) {idx : Nat} {x y : Int32} (hlink : Cond.methodLink own idx Lib.Math.min.name ∈ gtb) (hstat : Cond.static Lib.Math.min.name ∈ gtb) (hini : Cond.initialized "java/lang/Math" ∈ gtb) (hcode : Cond.code Lib.Math.min.name Lib.Math.min.code 2 (some .int) ∈ gtb) (hframes : 1 ≤ R.frames) (hlocals : ((st.map (cv b)).map fun v => v.category).sum + 13 ≤ R.locals) (hc : cells ≤ R.cells) (hs : slots ≤ R.slots) (hd : decode cc pc = .ok (.invokestatic idx, 3)) (kk : V p l e R s m args below meth c b D cy nL Qf S cells slots (pc + 3) lv (.int (if y < x then y else x) :: st)) : V p l e R s m args below meth c b D cy nL Qf S cells slots pc lv (.int y :: .int x :: st) := fun H locs ls hH hF hl =>
  va_mmin X.1 X.2.1 (by rw [X.2.2.1]; exact hl.1.symm) X.2.2.2.1 (X.2.2.2.2.1 _ hlink) (X.2.2.2.2.1 _ hstat) (X.2.2.2.2.1 _ hini) (X.2.2.2.2.1 _ hcode) hframes hlocals hc hs hd (kk H locs ls hH hF hl)
theorem v_mabs (X : CX p s m args c cc nL own D cy) {idx : Nat} {x : Int32} (hlink : Cond.methodLink own idx Lib.Math.abs.name ∈ gtb) (hstat : Cond.static Lib.Math.abs.name ∈ gtb) (hini : Cond.initialized "java/lang/Math" ∈ gtb) (hcode : Cond.code Lib.Math.abs.name Lib.Math.abs.code 1 (some .int) ∈ gtb) (hframes : 1 ≤ R.frames) (hlocals : ((st.map (cv b)).map fun v => v.category).sum + 13 ≤ R.locals) (hc : cells ≤ R.cells) (hs : slots ≤ R.slots) (hd : decode cc pc = .ok (.invokestatic idx, 3)) (kk : V p l e R s m args below meth c b D cy nL Qf S cells slots (pc + 3) lv (.int (if 0 ≤ x then x else 0 - x) :: st)) : V p l e R s m args below meth c b D cy nL Qf S cells slots pc lv (.int x :: st) := fun H locs ls hH hF hl =>
  va_mabs X.1 X.2.1 (by rw [X.2.2.1]; exact hl.1.symm) X.2.2.2.1 (X.2.2.2.2.1 _ hlink) (X.2.2.2.2.1 _ hstat) (X.2.2.2.2.1 _ hini) (X.2.2.2.2.1 _ hcode) hframes hlocals hc hs hd (kk H locs ls hH hF hl)
theorem v_ifnullN (X : CX p s m args c cc nL own D cy) {off : Int} {tgt : Nat} (hd : decode cc pc = .ok (.ifnull off, 3)) (ht : (pc : Int) + off = (tgt : Int)) (k : V p l e R s m args below meth c b D cy nL Qf S cells slots tgt lv st) : V p l e R s m args below meth c b D cy nL Qf S cells slots pc lv (.null :: st) := fun H locs ls hH hF hl => lv_ifnullN X.1 X.2.1 hd ht (k H locs ls hH hF hl)
theorem v_ifnonnullN (X : CX p s m args c cc nL own D cy) {off : Int} (hd : decode cc pc = .ok (.ifnonnull off, 3)) (k : V p l e R s m args below meth c b D cy nL Qf S cells slots (pc + 3) lv st) : V p l e R s m args below meth c b D cy nL Qf S cells slots pc lv (.null :: st) := fun H locs ls hH hF hl => lv_ifnonnullN X.1 X.2.1 hd (k H locs ls hH hF hl)
theorem v_inY (X : CX p s m args c cc nL own D cy) {C nm : String} {T : u_T} {N idx a ci : Nat} (hk : hK S a = ci) (hlt : ci < 12) (hc : vwCl[ci]? = some (C, T, N)) (hlink : Cond.classLink own idx nm ∈ gtb) (hm : (C, nm) ∈ ycl) (hd : decode cc pc = .ok (.instanceof idx, 3)) (k : V p l e R s m args below meth c b D cy nL Qf S cells slots (pc + 3) lv (.int 1 :: st)) : V p l e R s m args below meth c b D cy nL Qf S cells slots pc lv (.ref a :: st) := fun H locs ls hH hF hl => va_instY X.1 X.2.1 X.2.2.2.1 (X.2.2.2.2.1 _ hlink) (X.2.2.2.2.2.2.2.1 _ hm) (va_recv (q0 := 0) X.2.2.2.2.2.1 (hH.va1 hk hlt hc) hc rfl) hd (k H locs ls hH hF hl)
theorem v_inS (X : CX p s m args c cc nL own D cy) {C : String} {T : u_T} {N idx a ci : Nat} (hk : hK S a = ci) (hlt : ci < 12) (hc : vwCl[ci]? = some (C, T, N)) (hlink : Cond.classLink own idx C ∈ gtb) (hd : decode cc pc = .ok (.instanceof idx, 3)) (k : V p l e R s m args below meth c b D cy nL Qf S cells slots (pc + 3) lv (.int 1 :: st)) : V p l e R s m args below meth c b D cy nL Qf S cells slots pc lv (.ref a :: st) := fun H locs ls hH hF hl => va_instS X.1 X.2.1 X.2.2.2.1 (X.2.2.2.2.1 _ hlink) (X.2.2.2.2.2.1.1 ci _ hc).2 (va_recv (q0 := 0) X.2.2.2.2.2.1 (hH.va1 hk hlt hc) hc rfl) hd (k H locs ls hH hF hl)
theorem v_inN (X : CX p s m args c cc nL own D cy) {C nm : String} {T : u_T} {N idx a ci : Nat} (hk : hK S a = ci) (hlt : ci < 12) (hc : vwCl[ci]? = some (C, T, N)) (hlink : Cond.classLink own idx nm ∈ gtb) (hm : (C, nm) ∈ ncl) (hd : decode cc pc = .ok (.instanceof idx, 3)) (k : V p l e R s m args below meth c b D cy nL Qf S cells slots (pc + 3) lv (.int 0 :: st)) : V p l e R s m args below meth c b D cy nL Qf S cells slots pc lv (.ref a :: st) := fun H locs ls hH hF hl => va_instNo X.1 X.2.1 X.2.2.2.1 (X.2.2.2.2.1 _ hlink) (X.2.2.2.2.2.2.1 _ hm) (va_recv (q0 := 0) X.2.2.2.2.2.1 (hH.va1 hk hlt hc) hc rfl) hd (k H locs ls hH hF hl)
theorem v_call {mc ms : Nat} {st0 rest : List Value} {post : Option Value → hp → Prop} {av : Array Value} (hr : ∀ (H : Heap) (locs : List Loc) (ls : Array Slot), HW b D cy S H → lv_has ls nL (lv.map (cvp b)) → va_Run p l e R s m args below meth c H locs cells slots mc ms (F0 m pc ls (st0.map (cv b))) (rest.map (cv b)) (CQ b D cy post av) (fun q => b ≤ q)) (kk : ∀ (v : Option Value) (S1 : hp), post v S1 → V p l e R s m args below meth c b D cy nL Qf S1 (cells + mc) (slots + ms) (pc + 3) lv (v.toList ++ rest)) : V p l e R s m args below meth c b D cy nL Qf S cells slots pc lv st0 := by
  intro H locs ls hH hF hl T hT X
  obtain ⟨v, st₀, t, T', L, h0, X', hL, e1, e2, ⟨w, S1, ew, hp, hH1, hfr⟩, st⟩ := hr H locs ls hH hl T hT X
  cases ew
  obtain ⟨t2, a1, b1⟩ := kk w S1 hp T'.heap (locs ++ L) ls (by rw [e1]; exact hH1) ⟨fun q hq => by rw [e1, hfr q hq, h0]; exact hF.1 q hq, fun q hq => by
    rcases List.mem_append.mp hq with h | h
    · exact hF.2 q h
    · exact hL q h⟩ hl T' rfl X'
  refine ⟨t2, st t2 ?_, b1⟩
  have e9 : (w.toList ++ rest).map (cv b) = (w.map (cv b)).toList ++ rest.map (cv b) := by cases w <;> simp
  rw [e9] at a1
  exact a1
theorem gd_code {y : MethodName} {cc : ByteArray} {n : Nat} {r : Option FieldType} (h : Cond.code y cc n r ∈ gtb) : ∀ w ∈ Cond.code y cc n r :: gtb, w ∈ gtb := fun w hw => (List.mem_cons.mp hw).elim (fun e => e ▸ h) id
theorem cv_rev (b : Nat) (av : List Value) (rest : List Value) : (av.reverse ++ rest).map (cv b) = (av.map (cv b)).reverse ++ rest.map (cv b) := by rw [List.map_append, List.map_reverse]

theorem v_callS (X : CX p s m args c cc nL own D cy) {fr lo mc ms n : Nat} {y : MethodName} {bc : ByteArray} {maxL : Nat} {ret : Option FieldType} {av rest : List Value} {post : Option Value → hp → Prop} {idx : Nat} (hM : MT l y bc maxL ret fr lo mc ms b D cy S av post) (hlink : Cond.methodLink own idx y ∈ gtb) (hst : Cond.static y ∈ gtb) (hini : Cond.initialized y.cls ∈ gtb) (hcode : Cond.code y bc maxL ret ∈ gtb) (hdn : y.cls ≠ "java/lang/invoke/MethodHandle" ∧ y.cls ≠ "java/lang/invoke/VarHandle" ∧ (parseMethodDescriptor y.desc).map (fun d => d.parameters.length) = some n) (hn : av.length = n) (hR : fr + 1 ≤ R.frames ∧ 8 + (maxL + 11) + lo ≤ R.locals) (hW : ((rest.map (cv b)).map fun v => v.category).sum ≤ 8) (hf : cells + mc ≤ R.cells ∧ slots + ms ≤ R.slots) (hd : decode cc pc = .ok (.invokestatic idx, 3)) {st0 : List Value} (hst0 : st0 = av.reverse ++ rest) (kk : ∀ (v : Option Value) (S1 : hp), post v S1 → V p l e R s m args below meth c b D cy nL Qf S1 (cells + mc) (slots + ms) (pc + 3) lv (v.toList ++ rest)) : V p l e R s m args below meth c b D cy nL Qf S cells slots pc lv st0 := by
  refine v_call (av := (av.map (cv b)).toArray) (fun H locs ls hH hl => ?_) kk
  refine va_runS ⟨X.1, X.2.1, X.2.2.1, X.2.2.2.1, X.2.2.2.2.1⟩ hM (va_cwS n X.2.2.2.2.1 (gd_all (fun w hw => ?_)) rfl rfl rfl hdn hR) ⟨PC_blind b D cy S av, fun U hU hWm => ⟨rfl, by rw [hU]; exact hH, X.2.2.2.2.2.warm hWm⟩⟩ rfl (by rw [List.length_map]; exact hn) hl.1 (by rw [hst0]; exact cv_rev b av rest) (by show 2 * 0 + _ ≤ 8; omega) hd hf
  unfold va_wsS at hw
  rcases List.mem_append.mp hw with h | h
  · simp only [List.mem_cons, List.not_mem_nil, or_false] at h
    rcases h with rfl | rfl | rfl
    · exact hlink
    · exact hst
    · exact hini
  · exact gd_code hcode w h
theorem v_callI (X : CX p s m args c cc nL own D cy) {fr lo mc ms n : Nat} {y : MethodName} {bc : ByteArray} {maxL : Nat} {ret : Option FieldType} {av rest : List Value} {post : Option Value → hp → Prop} {idx a : Nat} (hM : MT l y bc maxL none fr lo mc ms b D cy S (.ref a :: av) post) (hlink : Cond.methodLink own idx y ∈ gtb) (hin : Cond.instanceMethod y ∈ gtb) (hini : Cond.initialized y.cls ∈ gtb) (hcode : Cond.code y bc maxL none ∈ gtb) (hy1 : y.name = "<init>") (hdn : y.cls ≠ "java/lang/invoke/MethodHandle" ∧ y.cls ≠ "java/lang/invoke/VarHandle" ∧ (parseMethodDescriptor y.desc).map (fun d => d.parameters.length) = some n) (hn : av.length = n) (hR : fr + 1 ≤ R.frames ∧ 8 + (maxL + 11) + lo ≤ R.locals) (hW : ((rest.map (cv b)).map fun v => v.category).sum ≤ 8) (hf : cells + mc ≤ R.cells ∧ slots + ms ≤ R.slots) (hd : decode cc pc = .ok (.invokespecial idx, 3)) {st0 : List Value} (hst0 : st0 = av.reverse ++ .ref a :: rest) (kk : ∀ (v : Option Value) (S1 : hp), post v S1 → V p l e R s m args below meth c b D cy nL Qf S1 (cells + mc) (slots + ms) (pc + 3) lv (v.toList ++ rest)) : V p l e R s m args below meth c b D cy nL Qf S cells slots pc lv st0 := by
  have hts := X.2.2.2.2.1
  refine v_call (av := (Value.ref (b + a) :: av.map (cv b)).toArray) (fun H locs ls hH hl => ?_) kk
  exact va_runI (As := av.map (cv b)) (b := b + a) (rest := rest.map (cv b)) ⟨X.1, X.2.1, X.2.2.1, X.2.2.2.1, hts⟩ hM (cwI n hts (gd_all (gd_code hcode)) rfl rfl rfl (hts _ hini) (hts _ hlink) (hts _ hin) hy1 hdn hR) ⟨PC_blind b D cy S (.ref a :: av), fun U hU hWm => ⟨rfl, by rw [hU]; exact hH, X.2.2.2.2.2.warm hWm⟩⟩ rfl (by rw [List.length_map]; exact hn) hl.1 (by rw [hst0]; exact cv_rev b av (.ref a :: rest)) (by show 2 * 0 + _ ≤ 8; omega) hd hf
theorem v_callIN (X : CX p s m args c cc nL own D cy) {fr lo mc ms n : Nat} {y : MethodName} {bc : ByteArray} {maxL : Nat} {ret : Option FieldType} {av rest : List Value} {post : Option Value → hp → Prop} {idx a : Nat} (hM : MT l y bc maxL none fr lo mc ms b D cy S (.ref a :: av) post) (hown : own = RX11) (hlink : (idx, y) ∈ nsl) (hin : Cond.instanceMethod y ∈ gtb) (hini : Cond.initialized y.cls ∈ gtb) (hcode : Cond.code y bc maxL none ∈ gtb) (hy1 : y.name = "<init>") (hdn : y.cls ≠ "java/lang/invoke/MethodHandle" ∧ y.cls ≠ "java/lang/invoke/VarHandle" ∧ (parseMethodDescriptor y.desc).map (fun d => d.parameters.length) = some n) (hn : av.length = n) (hR : fr + 1 ≤ R.frames ∧ 8 + (maxL + 11) + lo ≤ R.locals) (hW : ((rest.map (cv b)).map fun v => v.category).sum ≤ 8) (hf : cells + mc ≤ R.cells ∧ slots + ms ≤ R.slots) (hd : decode cc pc = .ok (.invokespecial idx, 3)) {st0 : List Value} (hst0 : st0 = av.reverse ++ .ref a :: rest) (kk : ∀ (v : Option Value) (S1 : hp), post v S1 → V p l e R s m args below meth c b D cy nL Qf S1 (cells + mc) (slots + ms) (pc + 3) lv (v.toList ++ rest)) : V p l e R s m args below meth c b D cy nL Qf S cells slots pc lv st0 := by
  have hts := X.2.2.2.2.1
  subst hown
  refine v_call (av := (Value.ref (b + a) :: av.map (cv b)).toArray) (fun H locs ls hH hl => ?_) kk
  exact va_runIN (As := av.map (cv b)) (b := b + a) (rest := rest.map (cv b)) ⟨X.1, X.2.1, X.2.2.1, X.2.2.2.1, hts⟩ hM ⟨va_cnB n hts (gd_all (gd_code hcode)) rfl rfl rfl (X.2.2.2.2.2.2.2.2.1 _ hlink) (hts _ hini) hdn hR, hy1, hts _ hin⟩ ⟨PC_blind b D cy S (.ref a :: av), fun U hU hWm => ⟨rfl, by rw [hU]; exact hH, X.2.2.2.2.2.warm hWm⟩⟩ rfl (by rw [List.length_map]; exact hn) hl.1 (by rw [hst0]; exact cv_rev b av (.ref a :: rest)) (by show 2 * 0 + _ ≤ 8; omega) hd hf
theorem HW.recv {H : Heap} (hH : HW b D cy S H) (hKN : KN D cy s) {i ci N : Nat} {C : String} {T : u_T} (hk : hK S i = ci) (hlt : ci < 12) (hc : vwCl[ci]? = some (C, T, N)) : ∃ cell : Cell, H[b + i]? = some cell ∧ cell.vm.isStatics = false ∧ s.vm.findClass C = some cell.cls := va_recv (q0 := 0) hKN.1 (hH.va1 hk hlt hc) hc rfl
theorem v_callV (X : CX p s m args c cc nL own D cy) {fr lo mc ms n : Nat} {y : MethodName} {bc : ByteArray} {maxL : Nat} {ret : Option FieldType} {av rest : List Value} {post : Option Value → hp → Prop} {idx a ci N : Nat} {T : u_T} (hM : MT l y bc maxL ret fr lo mc ms b D cy S (.ref a :: av) post) (hk : hK S a = ci) (hlt : ci < 12) (hc : vwCl[ci]? = some (y.cls, T, N)) (hlink : Cond.methodLink own idx y ∈ gtb) (hin : Cond.instanceMethod y ∈ gtb) (hse : Cond.selects y.cls y y ∈ gtb) (hini : Cond.initialized y.cls ∈ gtb) (hcode : Cond.code y bc maxL ret ∈ gtb) (hdn : y.cls ≠ "java/lang/invoke/MethodHandle" ∧ y.cls ≠ "java/lang/invoke/VarHandle" ∧ (parseMethodDescriptor y.desc).map (fun d => d.parameters.length) = some n) (hn : av.length = n) (hR : fr + 1 ≤ R.frames ∧ 8 + (maxL + 11) + lo ≤ R.locals) (hW : ((rest.map (cv b)).map fun v => v.category).sum ≤ 8) (hf : cells + mc ≤ R.cells ∧ slots + ms ≤ R.slots) (hd : decode cc pc = .ok (.invokevirtual idx, 3)) {st0 : List Value} (hst0 : st0 = av.reverse ++ .ref a :: rest) (kk : ∀ (v : Option Value) (S1 : hp), post v S1 → V p l e R s m args below meth c b D cy nL Qf S1 (cells + mc) (slots + ms) (pc + 3) lv (v.toList ++ rest)) : V p l e R s m args below meth c b D cy nL Qf S cells slots pc lv st0 := by
  have hts := X.2.2.2.2.1
  refine v_call (av := (Value.ref (b + a) :: av.map (cv b)).toArray) (fun H locs ls hH hl => ?_) kk
  refine va_runV (C := y.cls) (As := av.map (cv b)) (b := b + a) (rest := rest.map (cv b)) ⟨X.1, X.2.1, X.2.2.1, X.2.2.2.1, hts⟩ hM (cwV n hts (gd_all (fun w hw => ?_)) rfl rfl rfl ⟨rfl, hdn⟩ hR) ⟨PC_blind b D cy S (.ref a :: av), hH.recv X.2.2.2.2.2 hk hlt hc, fun U hU hWm => ⟨rfl, by rw [hU]; exact hH, X.2.2.2.2.2.warm hWm⟩⟩ rfl (by rw [List.length_map]; exact hn) hl.1 (by rw [hst0]; exact cv_rev b av (.ref a :: rest)) (by show 2 * 0 + _ ≤ 8; omega) hd hf
  unfold wsV at hw
  rcases List.mem_append.mp hw with h | h
  · simp only [List.mem_cons, List.not_mem_nil, or_false] at h
    rcases h with rfl | rfl | rfl | rfl
    · exact hlink
    · exact hin
    · exact hse
    · exact hini
  · exact gd_code hcode w h
theorem v_callA (X : CX p s m args c cc nL own D cy) {fr lo mc ms n : Nat} {y : MethodName} {bc : ByteArray} {maxL : Nat} {ret : Option FieldType} {av rest : List Value} {post : Option Value → hp → Prop} {idx a ci N : Nat} {C owner : String} {x : MethodName} {T : u_T} (hM : MT l y bc maxL ret fr lo mc ms b D cy S (.ref a :: av) post) (hk : hK S a = ci) (hlt : ci < 12) (hc : vwCl[ci]? = some (C, T, N)) (hdecl : va_Decl s ⟨owner, x.name, x.desc⟩) (hlink : Cond.methodLink own idx x ∈ gtb) (hsm : Cond.sameMethod x.cls owner x.name x.desc ∈ gtb) (hse : Cond.selects C x y ∈ gtb) (hin : Cond.instanceMethod y ∈ gtb) (hini : Cond.initialized y.cls ∈ gtb) (hcode : Cond.code y bc maxL ret ∈ gtb) (hdn : owner ≠ "java/lang/invoke/MethodHandle" ∧ owner ≠ "java/lang/invoke/VarHandle" ∧ (parseMethodDescriptor x.desc).map (fun d => d.parameters.length) = some n) (hn : av.length = n) (hR : fr + 1 ≤ R.frames ∧ 8 + (maxL + 11) + lo ≤ R.locals) (hW : ((rest.map (cv b)).map fun v => v.category).sum ≤ 8) (hf : cells + mc ≤ R.cells ∧ slots + ms ≤ R.slots) (hd : decode cc pc = .ok (.invokevirtual idx, 3)) {st0 : List Value} (hst0 : st0 = av.reverse ++ .ref a :: rest) (kk : ∀ (v : Option Value) (S1 : hp), post v S1 → V p l e R s m args below meth c b D cy nL Qf S1 (cells + mc) (slots + ms) (pc + 3) lv (v.toList ++ rest)) : V p l e R s m args below meth c b D cy nL Qf S cells slots pc lv st0 := by
  have hts := X.2.2.2.2.1
  refine v_call (av := (Value.ref (b + a) :: av.map (cv b)).toArray) (fun H locs ls hH hl => ?_) kk
  refine va_runU (n := n) (C := C) (owner := owner) (x := x) (As := av.map (cv b)) (b := b + a) (rest := rest.map (cv b)) ⟨X.1, X.2.1, X.2.2.1, X.2.2.2.1, hts⟩ hM ⟨⟨rfl, rfl, hR.1, hR.2, pay_in hts (gd_all (gd_code hcode)), List.mem_cons_self⟩, hts _ hcode, hts _ hini, ⟨hdn.1, hdn.2.1⟩, fun sig h => ?_, hts _ hlink, hts _ hsm, hdecl, hts _ hse, hts _ hin⟩ ⟨PC_blind b D cy S (.ref a :: av), hH.recv X.2.2.2.2.2 hk hlt hc, fun U hU hWm => ⟨rfl, by rw [hU]; exact hH, X.2.2.2.2.2.warm hWm⟩⟩ rfl (by rw [List.length_map]; exact hn) hl.1 (by rw [hst0]; exact cv_rev b av (.ref a :: rest)) (by show 2 * 0 + _ ≤ 8; omega) hd hf
  have h2 := hdn.2.2
  rw [h] at h2
  exact (Option.some.inj h2).symm
theorem v_callU (X : CX p s m args c cc nL own D cy) {fr lo mc ms n : Nat} {y : MethodName} {bc : ByteArray} {maxL : Nat} {ret : Option FieldType} {av rest : List Value} {post : Option Value → hp → Prop} {idx a ci N : Nat} {C : String} {T : u_T} (hM : MT l y bc maxL ret fr lo mc ms b D cy S (.ref a :: av) post) (hk : hK S a = ci) (hlt : ci < 12) (hc : vwCl[ci]? = some (C, T, N)) (hlink : Cond.methodLink own idx y ∈ gtb) (hsm : Cond.sameMethod y.cls y.cls y.name y.desc ∈ gtb) (hsu : Cond.superclass own y.cls ∈ gtb) (hin : Cond.instanceMethod y ∈ gtb) (hini : Cond.initialized y.cls ∈ gtb) (hcode : Cond.code y bc maxL ret ∈ gtb) (hdn : y.name ≠ "<init>" ∧ (parseMethodDescriptor y.desc).map (fun d => d.parameters.length) = some n) (hn : av.length = n) (hR : fr + 1 ≤ R.frames ∧ 8 + (maxL + 11) + lo ≤ R.locals) (hW : ((rest.map (cv b)).map fun v => v.category).sum ≤ 8) (hf : cells + mc ≤ R.cells ∧ slots + ms ≤ R.slots) (hd : decode cc pc = .ok (.invokespecial idx, 3)) {st0 : List Value} (hst0 : st0 = av.reverse ++ .ref a :: rest) (kk : ∀ (v : Option Value) (S1 : hp), post v S1 → V p l e R s m args below meth c b D cy nL Qf S1 (cells + mc) (slots + ms) (pc + 3) lv (v.toList ++ rest)) : V p l e R s m args below meth c b D cy nL Qf S cells slots pc lv st0 := by
  have hts := X.2.2.2.2.1
  refine v_call (av := (Value.ref (b + a) :: av.map (cv b)).toArray) (fun H locs ls hH hl => ?_) kk
  refine va_runSU (n := n) (C := C) (As := av.map (cv b)) (b := b + a) (rest := rest.map (cv b)) (X.2.2.2.2.2.1.1 ci _ hc).2 ⟨X.1, X.2.1, X.2.2.1, X.2.2.2.1, hts⟩ hM ⟨⟨rfl, rfl, hR.1, hR.2, pay_in hts (gd_all (gd_code hcode)), List.mem_cons_self⟩, hts _ hlink, hts _ hsm, hts _ hsu, hts _ hin, hts _ hini, hts _ hcode, hdn.1, fun sig h => ?_⟩ ⟨PC_blind b D cy S (.ref a :: av), hH.recv X.2.2.2.2.2 hk hlt hc, fun U hU hWm => ⟨rfl, by rw [hU]; exact hH, X.2.2.2.2.2.warm hWm⟩⟩ rfl (by rw [List.length_map]; exact hn) hl.1 (by rw [hst0]; exact cv_rev b av (.ref a :: rest)) (by show 2 * 0 + _ ≤ 8; omega) hd hf
  have h2 := hdn.2
  rw [h] at h2
  exact (Option.some.inj h2).symm
theorem v_iret (X : CX p s m args c cc nL own D cy) {v : Int32} (hr : meth.sig.returnType = some .int) {post : Option Value → hp → Prop} (hlk : meth.locks = false) (hp : post (some (.int v)) S) (hd : decode cc pc = .ok (.ireturn, 1)) : V p l e R s m args below meth c b D cy nL (MQ below (CQ b D cy post) args s cells slots (fun q => b ≤ q)) S cells slots pc lv [.int v] := fun H locs ls hH hF hl => W.iret X.1 X.2.1 hr (fun t ht hW => ⟨some (.int v), S, rfl, hp, by rw [ht]; exact hH, fun q hq => by rw [ht]; exact hF.1 q hq⟩) hF.2 hd hlk
theorem v_zret (X : CX p s m args c cc nL own D cy) {v : Int32} (hr : meth.sig.returnType = some .boolean) (hz : v = 0 ∨ v = 1) {post : Option Value → hp → Prop} (hlk : meth.locks = false) (hp : post (some (.int v)) S) (hd : decode cc pc = .ok (.ireturn, 1)) : V p l e R s m args below meth c b D cy nL (MQ below (CQ b D cy post) args s cells slots (fun q => b ≤ q)) S cells slots pc lv [.int v] := fun H locs ls hH hF hl => W.zret X.1 X.2.1 hr (by rcases hz with rfl | rfl <;> rfl) (fun t ht hW => ⟨some (.int v), S, rfl, hp, by rw [ht]; exact hH, fun q hq => by rw [ht]; exact hF.1 q hq⟩) hF.2 hd hlk
theorem v_aret (X : CX p s m args c cc nL own D cy) {v : Nat} {rt : String} (hr : meth.sig.returnType = some (.object rt)) {post : Option Value → hp → Prop} (hlk : meth.locks = false) (hp : post (some (.ref v)) S) (hd : decode cc pc = .ok (.areturn, 1)) : V p l e R s m args below meth c b D cy nL (MQ below (CQ b D cy post) args s cells slots (fun q => b ≤ q)) S cells slots pc lv [.ref v] := fun H locs ls hH hF hl => W.aret X.1 X.2.1 hr (Or.inl ⟨_, rfl⟩) (Or.inr ⟨_, rfl⟩) (fun t ht hW => ⟨some (.ref v), S, rfl, hp, by rw [ht]; exact hH, fun q hq => by rw [ht]; exact hF.1 q hq⟩) hF.2 hd hlk
theorem v_aretN (X : CX p s m args c cc nL own D cy)  {rt : String} (hr : meth.sig.returnType = some (.object rt)) {post : Option Value → hp → Prop} (hlk : meth.locks = false) (hp : post (some (.null)) S) (hd : decode cc pc = .ok (.areturn, 1)) : V p l e R s m args below meth c b D cy nL (MQ below (CQ b D cy post) args s cells slots (fun q => b ≤ q)) S cells slots pc lv [.null] := fun H locs ls hH hF hl => W.aret X.1 X.2.1 hr (Or.inl ⟨_, rfl⟩) (Or.inl rfl) (fun t ht hW => ⟨some (.null), S, rfl, hp, by rw [ht]; exact hH, fun q hq => by rw [ht]; exact hF.1 q hq⟩) hF.2 hd hlk
theorem v_vret (X : CX p s m args c cc nL own D cy) (hr : meth.sig.returnType = none) {post : Option Value → hp → Prop} (hlk : meth.locks = false) (hp : post none S) (hd : decode cc pc = .ok (.return_, 1)) : V p l e R s m args below meth c b D cy nL (MQ below (CQ b D cy post) args s cells slots (fun q => b ≤ q)) S cells slots pc lv [] := fun H locs ls hH hF hl => W.vret X.1 X.2.1 hr (fun t ht hW => ⟨none, S, rfl, hp, by rw [ht]; exact hH, fun q hq => by rw [ht]; exact hF.1 q hq⟩) hF.2 hd hlk
theorem MT.of {y : MethodName} {bc : ByteArray} {maxL : Nat} {ret : Option FieldType} {fr lo mc ms : Nat} {av : List Value} {post : Option Value → hp → Prop} (hy : plainName y.cls = true) (hlen : (lg_sl (av.map (cv b))).length ≤ maxL) (h : ∀ (p : Program) (e : Env) (s : State) (m : MethodId) (args : Array Value) (below : List Frame) (meth : Method) (c : Code), CX p s m args c bc maxL y.cls D cy → meth.sig.returnType = ret → meth.locks = false → meth.name = y.name → V p l e { frames := fr, cells := mc, slots := ms, locals := lo } s m args below meth c b D cy maxL (MQ below (CQ b D cy post) args s mc ms (fun q => b ≤ q)) S 0 0 0 (lv_args 0 av) []) : MT l y bc maxL ret fr lo mc ms b D cy S av post := by
  refine Met.ofW (cc := bc) (maxL := maxL) (ret := ret) hy rfl ?_
  intro p e s m args below meth c s₁ B hml hv
  obtain ⟨rfl, hH, hKN⟩ := hv
  have hts0 := atoms_spec (ws := Cond.code y bc maxL ret :: gtb) B.pre
  have hl := lv_entry (av.map (cv b)) (n := maxL) hlen
  rw [lg_entry_eq]
  rw [← lv_args_cv] at hl
  exact h p e s m _ below meth c ⟨B.exec, B.bytes, hml, findClass_of_methodNamed B.named, fun w hw => hts0 w (List.mem_cons_of_mem _ hw), hKN⟩ B.returns B.notSynchronized (name_of_methodNamed B.named B.method).1 s.heap [] _ hH ⟨fun _ _ => rfl, fun _ h => by cases h⟩ hl
end VC
end
section
theorem ne_ti {x : Int32} (k : Int32) (z : Int) (hz : k.toInt = z) (h : ¬ x = k) : ¬ x.toInt = z := fun e => h (Int32.toInt_inj.mp (e.trans hz.symm))
abbrev isZ (v : Int32) : Prop := v = 0 ∨ v = 1
theorem nz {v : Int32} (h : isZ v) : narrow .boolean (.int v) = .int v := by rcases h with rfl | rfl <;> rfl
theorem fz {v : Int32} (h : isZ v) : fits .boolean (.int v) = true := by rcases h with rfl | rfl <;> rfl
/-- one of the five kinds of mouths -/
abbrev isM (k : Nat) : Prop := k = 1 ∨ k = 3 ∨ k = 4 ∨ k = 6 ∨ k = 9
abbrev pI (Q : Int32 → hp → Prop) : Option Value → hp → Prop := fun v S => ∃ r : Int32, v = some (.int r) ∧ Q r S
abbrev pV (Q : hp → Prop) : Option Value → hp → Prop := fun v S => v = none ∧ Q S
abbrev pO (Q : Option Nat → hp → Prop) : Option Value → hp → Prop := fun v S => ∃ r : Option Nat, v = some (va_rf r) ∧ Q r S
abbrev pA (Q : Nat → hp → Prop) : Option Value → hp → Prop := fun v S => ∃ r : Nat, v = some (.ref r) ∧ Q r S
theorem vw_some {ci : Nat} (h : ci < 12) : ∃ (C : String) (T : u_T) (N : Nat), vwCl[ci]? = some (C, T, N) := by
  have : ∀ k, k < 12 → ∃ (C : String) (T : u_T) (N : Nat), vwCl[k]? = some (C, T, N) := by
    intro k hk
    match k, hk with
    | 0, _ => exact ⟨_, _, _, rfl⟩
    | 1, _ => exact ⟨_, _, _, rfl⟩
    | 2, _ => exact ⟨_, _, _, rfl⟩
    | 3, _ => exact ⟨_, _, _, rfl⟩
    | 4, _ => exact ⟨_, _, _, rfl⟩
    | 5, _ => exact ⟨_, _, _, rfl⟩
    | 6, _ => exact ⟨_, _, _, rfl⟩
    | 7, _ => exact ⟨_, _, _, rfl⟩
    | 8, _ => exact ⟨_, _, _, rfl⟩
    | 9, _ => exact ⟨_, _, _, rfl⟩
    | 10, _ => exact ⟨_, _, _, rfl⟩
    | 11, _ => exact ⟨_, _, _, rfl⟩
  exact this ci h
/-- the judgement of one method's body -/
abbrev VM (l : Launch) (b : Nat) (D : va_G) (cy : Nat → ClassId) (nL fr lo mc ms : Nat) (post : Option Value → hp → Prop) (p : Program) (e : Env) (s : State) (m : MethodId) (args : Array Value) (below : List Frame) (meth : Method) (c : Code) : hp → Nat → Nat → Nat → List (Nat × Value) → List Value → Prop :=
  V p l e { frames := fr, cells := mc, slots := ms, locals := lo } s m args below meth c b D cy nL (MQ below (CQ b D cy post) args s mc ms (fun q => b ≤ q))
section V6
variable {p : Program} {l : Launch} {e : Env} {R : Room} {s : State} {m : MethodId} {args : Array Value} {below : List Frame} {meth : Method} {c : Code} {b : Nat} {D : va_G} {cy : Nat → ClassId} {nL : Nat} {Qf : State → Prop} {S : hp} {cells slots pc : Nat} {lv : List (Nat × Value)} {st : List Value} {cc : ByteArray} {own : String}
theorem v_nmS (k : ∀ S1 : hp, S1 = S → V p l e R s m args below meth c b D cy nL Qf S1 cells slots pc lv st) : V p l e R s m args below meth c b D cy nL Qf S cells slots pc lv st := k S rfl
theorem kI {Q : Int32 → hp → Prop} (k : ∀ (r : Int32) (S1 : hp), Q r S1 → V p l e R s m args below meth c b D cy nL Qf S1 cells slots pc lv (.int r :: st)) : ∀ (v : Option Value) (S1 : hp), pI Q v S1 → V p l e R s m args below meth c b D cy nL Qf S1 cells slots pc lv (v.toList ++ st) := fun v S1 hq => by
  obtain ⟨r, rfl, h⟩ := hq
  exact k r S1 h
theorem kV {Q : hp → Prop} (k : ∀ S1 : hp, Q S1 → V p l e R s m args below meth c b D cy nL Qf S1 cells slots pc lv st) : ∀ (v : Option Value) (S1 : hp), pV Q v S1 → V p l e R s m args below meth c b D cy nL Qf S1 cells slots pc lv (v.toList ++ st) := fun v S1 hq => by
  obtain ⟨rfl, h⟩ := hq
  exact k S1 h
theorem kA {Q : Nat → hp → Prop} (k : ∀ (r : Nat) (S1 : hp), Q r S1 → V p l e R s m args below meth c b D cy nL Qf S1 cells slots pc lv (.ref r :: st)) : ∀ (v : Option Value) (S1 : hp), pA Q v S1 → V p l e R s m args below meth c b D cy nL Qf S1 cells slots pc lv (v.toList ++ st) := fun v S1 hq => by
  obtain ⟨r, rfl, h⟩ := hq
  exact k r S1 h
theorem kO {Q : Option Nat → hp → Prop} (kn : ∀ S1 : hp, Q none S1 → V p l e R s m args below meth c b D cy nL Qf S1 cells slots pc lv (.null :: st)) (ks : ∀ (r : Nat) (S1 : hp), Q (some r) S1 → V p l e R s m args below meth c b D cy nL Qf S1 cells slots pc lv (.ref r :: st)) : ∀ (v : Option Value) (S1 : hp), pO Q v S1 → V p l e R s m args below meth c b D cy nL Qf S1 cells slots pc lv (v.toList ++ st) := fun v S1 hq => by
  obtain ⟨r, rfl, h⟩ := hq
  cases r with
  | none => exact kn S1 h
  | some r => exact ks r S1 h
theorem v_tabIn (X : CX p s m args c cc nL own D cy) {dflt lo hi : Int} {offs : Array Int} {len : Nat} {x : Int32} {off : Int} {tgt : Nat} (k : Int32) (hx : x = k) (hd : decode cc pc = .ok (.tableswitch dflt lo hi offs, len)) (h1 : ¬ k.toInt < lo) (h2 : ¬ hi < k.toInt) (ho : offs[(k.toInt - lo).toNat]? = some off) (ht : (pc : Int) + off = (tgt : Int)) (kk : V p l e R s m args below meth c b D cy nL Qf S cells slots tgt lv st) : V p l e R s m args below meth c b D cy nL Qf S cells slots pc lv (.int x :: st) := fun H locs ls hH hF hl => by
  subst hx
  exact lv_tableIn X.1 X.2.1 hd h1 h2 ho ht (kk H locs ls hH hF hl)
theorem v_tabOut (X : CX p s m args c cc nL own D cy) {dflt lo hi : Int} {offs : Array Int} {len : Nat} {x : Int32} {tgt : Nat} (hd : decode cc pc = .ok (.tableswitch dflt lo hi offs, len)) (h : x.toInt < lo ∨ hi < x.toInt) (ht : (pc : Int) + dflt = (tgt : Int)) (kk : V p l e R s m args below meth c b D cy nL Qf S cells slots tgt lv st) : V p l e R s m args below meth c b D cy nL Qf S cells slots pc lv (.int x :: st) := fun H locs ls hH hF hl =>
  lv_tableOut X.1 X.2.1 hd h ht (kk H locs ls hH hF hl)
theorem v_look (X : CX p s m args c cc nL own D cy) {dflt : Int} {ps : Array (Int × Int)} {len : Nat} {x : Int32} {off : Int} {tgt : Nat} (hd : decode cc pc = .ok (.lookupswitch dflt ps, len)) (hp : (ps.toList.zip (ps.toList.drop 1)).all (fun (a, next) => a.1 < next.1) = true) (ho : Op.lookupswitch.offset ps.toList dflt x.toInt = off) (ht : (pc : Int) + off = (tgt : Int)) (kk : V p l e R s m args below meth c b D cy nL Qf S cells slots tgt lv st) : V p l e R s m args below meth c b D cy nL Qf S cells slots pc lv (.int x :: st) := fun H locs ls hH hF hl =>
  lv_lookup X.1 X.2.1 hd hp ho ht (kk H locs ls hH hF hl)
theorem v_callUL (X : CX p s m args c cc nL own D cy) {fr lo mc ms n : Nat} {y : MethodName} {bc : ByteArray} {maxL : Nat} {ret : Option FieldType} {av rest : List Value} {post : Option Value → hp → Prop} {idx a : Nat} (hM : MT l y bc maxL ret fr lo mc ms b D cy S (.ref a :: av) post) (hk : hK S a < 12) (hlink : Cond.methodLink own idx y ∈ gtb) (hsm : Cond.sameMethod y.cls y.cls y.name y.desc ∈ gtb) (hsu : Cond.superclass own y.cls ∈ gtb) (hin : Cond.instanceMethod y ∈ gtb) (hini : Cond.initialized y.cls ∈ gtb) (hcode : Cond.code y bc maxL ret ∈ gtb) (hdn : y.name ≠ "<init>" ∧ (parseMethodDescriptor y.desc).map (fun d => d.parameters.length) = some n) (hn : av.length = n) (hR : fr + 1 ≤ R.frames ∧ 8 + (maxL + 11) + lo ≤ R.locals) (hW : ((rest.map (cv b)).map fun v => v.category).sum ≤ 8) (hf : cells + mc ≤ R.cells ∧ slots + ms ≤ R.slots) (hd : decode cc pc = .ok (.invokespecial idx, 3)) {st0 : List Value} (hst0 : st0 = av.reverse ++ .ref a :: rest) (kk : ∀ (v : Option Value) (S1 : hp), post v S1 → V p l e R s m args below meth c b D cy nL Qf S1 (cells + mc) (slots + ms) (pc + 3) lv (v.toList ++ rest)) : V p l e R s m args below meth c b D cy nL Qf S cells slots pc lv st0 := by
  obtain ⟨C, T, N, hc⟩ := vw_some hk
  exact v_callU X hM rfl hk hc hlink hsm hsu hin hini hcode hdn hn hR hW hf hd hst0 kk
theorem v_copy (X : CX p s m args c cc nL own D cy) {idx a d : Nat} {sp dp n : Int32} (hk0 : hK S a = 12) (hk1 : hK S d = 12) (h1 : ¬ sp < 0) (h2 : ¬ dp < 0) (h3 : ¬ n < 0) (h4 : sp.toNatClampNeg + n.toNatClampNeg ≤ hN S a) (h5 : dp.toNatClampNeg + n.toNatClampNeg ≤ hN S d) (hlink : Cond.methodLink own idx arraycopyName ∈ gtb) (hnat : Cond.native arraycopyName ∈ gtb) (hstat : Cond.static arraycopyName ∈ gtb) (hini : Cond.initialized "java/lang/System" ∈ gtb) (hframes : 1 ≤ R.frames) (hlocals : ((st.map (cv b)).map fun v => v.category).sum + (nativeFrameWords "java/lang/System" "arraycopy" 5 + 11) ≤ R.locals) (hd : decode cc pc = .ok (.invokestatic idx, 3)) (kk : V p l e R s m args below meth c b D cy nL Qf (cpyI S a d sp.toNatClampNeg dp.toNatClampNeg n.toNatClampNeg) cells slots (pc + 3) lv st) : V p l e R s m args below meth c b D cy nL Qf S cells slots pc lv (.int n :: .int dp :: .ref d :: .int sp :: .ref a :: st) := by
  have nn : ∀ z : Int32, ¬ z < 0 → z.toInt = (z.toNatClampNeg : Int) := by
    intro z hz
    have hz0 : (0 : Int) ≤ z.toInt := by
      have := Int32.not_lt.mp hz
      simpa using Int32.le_iff_toInt_le.mp this
    show z.toInt = ((z.toInt.toNat : Nat) : Int)
    omega
  intro H locs ls hH hF hl T hT Z
  have hts := X.2.2.2.2.1
  have hs0 : sv b S a = fun k => .int (hI S a k) := funext fun k => sv_I hk0 rfl
  have hs1 : sv b S d = fun k => .int (hI S d k) := funext fun k => sv_I hk1 rfl
  have hc0 : H[b + a]? = some (arrV (cy 12) (hN S a) (fun k => .int (hI S a k))) := by rw [← hs0]; exact hH.ar hk0 (by omega) (by omega)
  have hc1 : H[b + d]? = some (arrV (cy 12) (hN S d) (fun k => .int (hI S d k))) := by rw [← hs1]; exact hH.ar hk1 (by omega) (by omega)
  obtain ⟨-, k0, hk0', cm0, hkk0⟩ := (X.2.2.2.2.2.1.2 0 _ rfl).1 (hN S a) (fun k => .int (hI S a k))
  obtain ⟨-, k1, hk1', cm1, hkk1⟩ := (X.2.2.2.2.2.1.2 0 _ rfl).1 (hN S d) (fun k => .int (hI S d k))
  obtain ⟨vm', Z', step⟩ := Z.arraycopy X.1 X.2.2.2.1 (hts _ hlink) (hts _ hnat) (hts _ hstat) (hts _ hini) (src := b + a) (dst := b + d) (srcPos := sp) (destPos := dp) (n := n) (by rw [hT]; exact hc0) (by rw [hT]; exact hc1)
    (fun _ h => by cases h) (fun _ h => by cases h) (fun h => by cases h) (fun h => by cases h) hk0' hk1' hkk0 hkk1 (by simp [refKind]) h1 h2 h3
    (by rw [nn sp h1, nn n h3, arrV_size]; omega) (by rw [nn dp h2, nn n h3, arrV_size]; omega)
    (fun vm₁ _ i hi => by
      have e9 : (arrV (cy 12) (hN S a) (fun k => .int (hI S a k))).slots.getD (sp.toNatClampNeg + i) .null = .int (hI S a (sp.toNatClampNeg + i)) := by
        rw [Array.getD_eq_getD_getElem?, arrV_read _ _ (by omega)]
        rfl
      rw [e9]
      exact ⟨rfl, trivial⟩)
    (g := F0 m pc ls (.int n :: .int dp :: .ref (b + d) :: .int sp :: .ref (b + a) :: st.map (cv b))) rfl (by rw [X.2.2.1]; exact hl.1) (rest := st.map (cv b)) rfl (by rw [X.2.1]; exact hd) hframes (by show 2 * 0 + _ + _ ≤ _; omega)
  have e1 : copied (arrV (cy 12) (hN S a) (fun k => .int (hI S a k))) (arrV (cy 12) (hN S d) (fun k => .int (hI S d k))) sp dp n = arrV (cy 12) (hN S d) (fun k => .int (va_cpy (hI S a) (hI S d) sp.toNatClampNeg dp.toNatClampNeg n.toNatClampNeg k)) := va_copied (fun z => .int z) (cy 12) (cy 12) (hI S a) (hI S d) h4
  rw [e1] at Z' step
  have hl9 : b + d < H.size := (Array.getElem?_eq_some_iff.mp hc1).1
  generalize hcell : arrV (cy 12) (hN S d) (fun k => .int (va_cpy (hI S a) (hI S d) sp.toNatClampNeg dp.toNatClampNeg n.toNatClampNeg k)) = cell at Z' step
  have hheap : ((T.setVm vm').setCell (b + d) cell).heap = H.setIfInBounds (b + d) cell := by rw [← hT]; rfl
  have oq : ∀ q : Nat, q ≠ b + d → (H.setIfInBounds (b + d) cell)[q]? = H[q]? := fun q hq => by simp [Array.getElem?_setIfInBounds, Ne.symm hq]
  have hsv : ∀ j n', sv b (cpyI S a d sp.toNatClampNeg dp.toNatClampNeg n.toNatClampNeg) j n' = if j = d then .int (va_cpy (hI S a) (hI S d) sp.toNatClampNeg dp.toNatClampNeg n.toNatClampNeg n') else sv b S j n' := fun j n' => by
    by_cases hj : j = d
    · subst hj
      rw [if_pos rfl, sv_I (S := cpyI S a j sp.toNatClampNeg dp.toNatClampNeg n.toNatClampNeg) (kd := 12) hk1 rfl, hI_cpyI]
      simp only [va_cpy, true_and]
    · rw [if_neg hj]
      simp [sv, hK_cpyI, hI_cpyI, hR_cpyI, hj]
  obtain ⟨t, a1, b1⟩ := kk _ _ ls (hH.upd d rfl rfl rfl (fun j hj k => by rw [hsv, if_neg hj]) (by simp) oq (Or.inr ⟨by show 12 ≤ hK S d; omega, by
    show _ = some (arrV (cy (hK S d)) (hN S d) _)
    rw [hk1]
    have e8 : sv b (cpyI S a d sp.toNatClampNeg dp.toNatClampNeg n.toNatClampNeg) d = fun k => .int (va_cpy (hI S a) (hI S d) sp.toNatClampNeg dp.toNatClampNeg n.toNatClampNeg k) := funext fun k => by rw [hsv, if_pos rfl]
    rw [e8, hcell]
    simp [Array.getElem?_setIfInBounds, hl9]⟩)) ⟨fun q hq => by rw [oq q (by omega)]; exact hF.1 q hq, fun q hq => by
      rcases List.mem_append.mp hq with h | h
      · exact hF.2 q h
      · obtain ⟨z, -, hz⟩ := List.mem_map.mp h
        rw [← hz]
        exact Nat.le_add_right _ _⟩ hl _ hheap Z'
  exact ⟨t, step t a1, b1⟩
end V6
end
