section
-- ===== PART A: goes FIRST, ahead of the names: the tables' words, and 'selects' of the private methods out of them =====
/-- a private method of a class that the tables say can be made, by its rows of tables_1 -/
def lw_okq (q : MethodName × Nat) : Prop := (q.1.cls ≠ "java/lang/invoke/MethodHandle" ∧ q.1.cls ≠ "java/lang/invoke/VarHandle") ∧ Cond.instantiable q.1.cls q.2 ∈ tables_1 ∧ Cond.privateMethod q.1 ∈ tables_1 ∧ Cond.instanceMethod q.1 ∈ tables_1
theorem lw_p0 : lw_okq (⟨"BellSuitors$Text", "skipBlanks", "()V"⟩, 7) := ⟨⟨by decide +kernel, by decide +kernel⟩, List.mem_of_getElem? (i := 95) (by decide +kernel), List.mem_of_getElem? (i := 347) (by decide +kernel), List.mem_of_getElem? (i := 348) (by decide +kernel)⟩
theorem lw_p1 : lw_okq (⟨"BellSuitors$Text", "letterHere", "()I"⟩, 7) := ⟨⟨by decide +kernel, by decide +kernel⟩, List.mem_of_getElem? (i := 95) (by decide +kernel), List.mem_of_getElem? (i := 351) (by decide +kernel), List.mem_of_getElem? (i := 352) (by decide +kernel)⟩
theorem lw_p2 : lw_okq (⟨"BellSuitors$Text", "readClause", "()V"⟩, 7) := ⟨⟨by decide +kernel, by decide +kernel⟩, List.mem_of_getElem? (i := 95) (by decide +kernel), List.mem_of_getElem? (i := 355) (by decide +kernel), List.mem_of_getElem? (i := 356) (by decide +kernel)⟩
theorem lw_p3 : lw_okq (⟨"BellSuitors$Text", "faultOfWord", "(I)I"⟩, 7) := ⟨⟨by decide +kernel, by decide +kernel⟩, List.mem_of_getElem? (i := 95) (by decide +kernel), List.mem_of_getElem? (i := 359) (by decide +kernel), List.mem_of_getElem? (i := 360) (by decide +kernel)⟩
theorem lw_p4 : lw_okq (⟨"BellSuitors$Text", "fail", "(II)V"⟩, 7) := ⟨⟨by decide +kernel, by decide +kernel⟩, List.mem_of_getElem? (i := 95) (by decide +kernel), List.mem_of_getElem? (i := 367) (by decide +kernel), List.mem_of_getElem? (i := 368) (by decide +kernel)⟩
theorem lw_p5 : lw_okq (⟨"BellSuitors$Text", "readNumber", "(I)I"⟩, 7) := ⟨⟨by decide +kernel, by decide +kernel⟩, List.mem_of_getElem? (i := 95) (by decide +kernel), List.mem_of_getElem? (i := 374) (by decide +kernel), List.mem_of_getElem? (i := 375) (by decide +kernel)⟩
theorem lw_p6 : lw_okq (⟨"BellSuitors$Text", "withinBounds", "(II)Z"⟩, 7) := ⟨⟨by decide +kernel, by decide +kernel⟩, List.mem_of_getElem? (i := 95) (by decide +kernel), List.mem_of_getElem? (i := 381) (by decide +kernel), List.mem_of_getElem? (i := 382) (by decide +kernel)⟩
theorem lw_p7 : lw_okq (⟨"BellSuitors$Text", "enter", "(II)Z"⟩, 7) := ⟨⟨by decide +kernel, by decide +kernel⟩, List.mem_of_getElem? (i := 95) (by decide +kernel), List.mem_of_getElem? (i := 389) (by decide +kernel), List.mem_of_getElem? (i := 390) (by decide +kernel)⟩
theorem lw_p8 : lw_okq (⟨"BellSuitors$Text", "goesOn", "(II)Z"⟩, 7) := ⟨⟨by decide +kernel, by decide +kernel⟩, List.mem_of_getElem? (i := 95) (by decide +kernel), List.mem_of_getElem? (i := 416) (by decide +kernel), List.mem_of_getElem? (i := 417) (by decide +kernel)⟩
theorem lw_p9 : lw_okq (⟨"BellSuitors", "figuresNow", "()I"⟩, 17) := ⟨⟨by decide +kernel, by decide +kernel⟩, List.mem_of_getElem? (i := 19) (by decide +kernel), List.mem_of_getElem? (i := 464) (by decide +kernel), List.mem_of_getElem? (i := 465) (by decide +kernel)⟩
theorem lw_p10 : lw_okq (⟨"BellSuitors$Evening", "stillIn", "(LBellSuitors$Tower;)I"⟩, 6) := ⟨⟨by decide +kernel, by decide +kernel⟩, List.mem_of_getElem? (i := 125) (by decide +kernel), List.mem_of_getElem? (i := 478) (by decide +kernel), List.mem_of_getElem? (i := 479) (by decide +kernel)⟩
theorem lw_p11 : lw_okq (⟨"BellSuitors", "refuseToRing", "(II)I"⟩, 17) := ⟨⟨by decide +kernel, by decide +kernel⟩, List.mem_of_getElem? (i := 19) (by decide +kernel), List.mem_of_getElem? (i := 550) (by decide +kernel), List.mem_of_getElem? (i := 551) (by decide +kernel)⟩
theorem lw_p12 : lw_okq (⟨"BellSuitors$Evening", "tireAll", "(LBellSuitors$Tower;)V"⟩, 6) := ⟨⟨by decide +kernel, by decide +kernel⟩, List.mem_of_getElem? (i := 125) (by decide +kernel), List.mem_of_getElem? (i := 585) (by decide +kernel), List.mem_of_getElem? (i := 586) (by decide +kernel)⟩
theorem lw_p13 : lw_okq (⟨"BellSuitors$Evening", "sendOut", "(I)V"⟩, 6) := ⟨⟨by decide +kernel, by decide +kernel⟩, List.mem_of_getElem? (i := 125) (by decide +kernel), List.mem_of_getElem? (i := 609) (by decide +kernel), List.mem_of_getElem? (i := 610) (by decide +kernel)⟩
theorem lw_p14 : lw_okq (⟨"BellSuitors", "letChanceAct", "()V"⟩, 17) := ⟨⟨by decide +kernel, by decide +kernel⟩, List.mem_of_getElem? (i := 19) (by decide +kernel), List.mem_of_getElem? (i := 642) (by decide +kernel), List.mem_of_getElem? (i := 643) (by decide +kernel)⟩
theorem lw_p15 : lw_okq (⟨"BellSuitors", "draw", "(I)I"⟩, 17) := ⟨⟨by decide +kernel, by decide +kernel⟩, List.mem_of_getElem? (i := 19) (by decide +kernel), List.mem_of_getElem? (i := 646) (by decide +kernel), List.mem_of_getElem? (i := 647) (by decide +kernel)⟩
def lw_privs_1 : List (MethodName × Nat) := [(⟨"BellSuitors$Text", "skipBlanks", "()V"⟩, 7), (⟨"BellSuitors$Text", "letterHere", "()I"⟩, 7), (⟨"BellSuitors$Text", "readClause", "()V"⟩, 7), (⟨"BellSuitors$Text", "faultOfWord", "(I)I"⟩, 7), (⟨"BellSuitors$Text", "fail", "(II)V"⟩, 7), (⟨"BellSuitors$Text", "readNumber", "(I)I"⟩, 7), (⟨"BellSuitors$Text", "withinBounds", "(II)Z"⟩, 7), (⟨"BellSuitors$Text", "enter", "(II)Z"⟩, 7), (⟨"BellSuitors$Text", "goesOn", "(II)Z"⟩, 7), (⟨"BellSuitors", "figuresNow", "()I"⟩, 17), (⟨"BellSuitors$Evening", "stillIn", "(LBellSuitors$Tower;)I"⟩, 6), (⟨"BellSuitors", "refuseToRing", "(II)I"⟩, 17), (⟨"BellSuitors$Evening", "tireAll", "(LBellSuitors$Tower;)V"⟩, 6), (⟨"BellSuitors$Evening", "sendOut", "(I)V"⟩, 6), (⟨"BellSuitors", "letChanceAct", "()V"⟩, 17), (⟨"BellSuitors", "draw", "(I)I"⟩, 17)]
theorem lw_r1 : ∀ q ∈ lw_privs_1, lw_okq q := List.forall_mem_cons.mpr ⟨lw_p0, List.forall_mem_cons.mpr ⟨lw_p1, List.forall_mem_cons.mpr ⟨lw_p2, List.forall_mem_cons.mpr ⟨lw_p3, List.forall_mem_cons.mpr ⟨lw_p4, List.forall_mem_cons.mpr ⟨lw_p5, List.forall_mem_cons.mpr ⟨lw_p6, List.forall_mem_cons.mpr ⟨lw_p7, List.forall_mem_cons.mpr ⟨lw_p8, List.forall_mem_cons.mpr ⟨lw_p9, List.forall_mem_cons.mpr ⟨lw_p10, List.forall_mem_cons.mpr ⟨lw_p11, List.forall_mem_cons.mpr ⟨lw_p12, List.forall_mem_cons.mpr ⟨lw_p13, List.forall_mem_cons.mpr ⟨lw_p14, List.forall_mem_cons.mpr ⟨lw_p15, fun _ h => absurd h List.not_mem_nil⟩⟩⟩⟩⟩⟩⟩⟩⟩⟩⟩⟩⟩⟩⟩⟩
theorem lw_p16 : lw_okq (⟨"BellSuitors", "changeRopesByDraws", "()V"⟩, 17) := ⟨⟨by decide +kernel, by decide +kernel⟩, List.mem_of_getElem? (i := 19) (by decide +kernel), List.mem_of_getElem? (i := 654) (by decide +kernel), List.mem_of_getElem? (i := 655) (by decide +kernel)⟩
theorem lw_p17 : lw_okq (⟨"BellSuitors", "rowBehind", "(I)I"⟩, 17) := ⟨⟨by decide +kernel, by decide +kernel⟩, List.mem_of_getElem? (i := 19) (by decide +kernel), List.mem_of_getElem? (i := 670) (by decide +kernel), List.mem_of_getElem? (i := 671) (by decide +kernel)⟩
theorem lw_p18 : lw_okq (⟨"BellSuitors", "stepTrial", "(I)I"⟩, 17) := ⟨⟨by decide +kernel, by decide +kernel⟩, List.mem_of_getElem? (i := 19) (by decide +kernel), List.mem_of_getElem? (i := 675) (by decide +kernel), List.mem_of_getElem? (i := 676) (by decide +kernel)⟩
theorem lw_p19 : lw_okq (⟨"BellSuitors$Touches", "goOn", "(III)V"⟩, 6) := ⟨⟨by decide +kernel, by decide +kernel⟩, List.mem_of_getElem? (i := 204) (by decide +kernel), List.mem_of_getElem? (i := 713) (by decide +kernel), List.mem_of_getElem? (i := 714) (by decide +kernel)⟩
theorem lw_p20 : lw_okq (⟨"BellSuitors$Touches", "endLead", "(III)V"⟩, 6) := ⟨⟨by decide +kernel, by decide +kernel⟩, List.mem_of_getElem? (i := 204) (by decide +kernel), List.mem_of_getElem? (i := 720) (by decide +kernel), List.mem_of_getElem? (i := 721) (by decide +kernel)⟩
theorem lw_p21 : lw_okq (⟨"BellSuitors$Touches", "leave", "(II)V"⟩, 6) := ⟨⟨by decide +kernel, by decide +kernel⟩, List.mem_of_getElem? (i := 204) (by decide +kernel), List.mem_of_getElem? (i := 724) (by decide +kernel), List.mem_of_getElem? (i := 725) (by decide +kernel)⟩
theorem lw_p22 : lw_okq (⟨"BellSuitors$RopeSharing", "firstBell", "(LBellSuitors$Tower;II)I"⟩, 2) := ⟨⟨by decide +kernel, by decide +kernel⟩, List.mem_of_getElem? (i := 231) (by decide +kernel), List.mem_of_getElem? (i := 741) (by decide +kernel), List.mem_of_getElem? (i := 742) (by decide +kernel)⟩
theorem lw_p23 : lw_okq (⟨"BellSuitors$RopeSharing", "leastFrom", "(IIILBellSuitors$Tower;)I"⟩, 2) := ⟨⟨by decide +kernel, by decide +kernel⟩, List.mem_of_getElem? (i := 231) (by decide +kernel), List.mem_of_getElem? (i := 749) (by decide +kernel), List.mem_of_getElem? (i := 750) (by decide +kernel)⟩
theorem lw_p24 : lw_okq (⟨"BellSuitors", "plainRowBehind", "(I)I"⟩, 17) := ⟨⟨by decide +kernel, by decide +kernel⟩, List.mem_of_getElem? (i := 19) (by decide +kernel), List.mem_of_getElem? (i := 813) (by decide +kernel), List.mem_of_getElem? (i := 814) (by decide +kernel)⟩
theorem lw_p25 : lw_okq (⟨"BellSuitors", "greatestPartAlike", "(I)I"⟩, 17) := ⟨⟨by decide +kernel, by decide +kernel⟩, List.mem_of_getElem? (i := 19) (by decide +kernel), List.mem_of_getElem? (i := 830) (by decide +kernel), List.mem_of_getElem? (i := 831) (by decide +kernel)⟩
theorem lw_p26 : lw_okq (⟨"BellSuitorsModel", "isRead", "()Z"⟩, 40) := ⟨⟨by decide +kernel, by decide +kernel⟩, List.mem_of_getElem? (i := 870) (by decide +kernel), List.mem_of_getElem? (i := 1011) (by decide +kernel), List.mem_of_getElem? (i := 1012) (by decide +kernel)⟩
theorem lw_p27 : lw_okq (⟨"BellSuitorsModel", "nextToken", "()V"⟩, 40) := ⟨⟨by decide +kernel, by decide +kernel⟩, List.mem_of_getElem? (i := 870) (by decide +kernel), List.mem_of_getElem? (i := 1015) (by decide +kernel), List.mem_of_getElem? (i := 1016) (by decide +kernel)⟩
theorem lw_p28 : lw_okq (⟨"BellSuitorsModel", "isClause", "()Z"⟩, 40) := ⟨⟨by decide +kernel, by decide +kernel⟩, List.mem_of_getElem? (i := 870) (by decide +kernel), List.mem_of_getElem? (i := 1019) (by decide +kernel), List.mem_of_getElem? (i := 1020) (by decide +kernel)⟩
theorem lw_p29 : lw_okq (⟨"BellSuitorsModel", "fails", "(I)Z"⟩, 40) := ⟨⟨by decide +kernel, by decide +kernel⟩, List.mem_of_getElem? (i := 870) (by decide +kernel), List.mem_of_getElem? (i := 1023) (by decide +kernel), List.mem_of_getElem? (i := 1024) (by decide +kernel)⟩
theorem lw_p30 : lw_okq (⟨"BellSuitorsModel", "isHead", "()Z"⟩, 40) := ⟨⟨by decide +kernel, by decide +kernel⟩, List.mem_of_getElem? (i := 870) (by decide +kernel), List.mem_of_getElem? (i := 1027) (by decide +kernel), List.mem_of_getElem? (i := 1028) (by decide +kernel)⟩
theorem lw_p31 : lw_okq (⟨"BellSuitorsModel", "isNumber", "(II)Z"⟩, 40) := ⟨⟨by decide +kernel, by decide +kernel⟩, List.mem_of_getElem? (i := 870) (by decide +kernel), List.mem_of_getElem? (i := 1031) (by decide +kernel), List.mem_of_getElem? (i := 1032) (by decide +kernel)⟩
def lw_privs_2 : List (MethodName × Nat) := [(⟨"BellSuitors", "changeRopesByDraws", "()V"⟩, 17), (⟨"BellSuitors", "rowBehind", "(I)I"⟩, 17), (⟨"BellSuitors", "stepTrial", "(I)I"⟩, 17), (⟨"BellSuitors$Touches", "goOn", "(III)V"⟩, 6), (⟨"BellSuitors$Touches", "endLead", "(III)V"⟩, 6), (⟨"BellSuitors$Touches", "leave", "(II)V"⟩, 6), (⟨"BellSuitors$RopeSharing", "firstBell", "(LBellSuitors$Tower;II)I"⟩, 2), (⟨"BellSuitors$RopeSharing", "leastFrom", "(IIILBellSuitors$Tower;)I"⟩, 2), (⟨"BellSuitors", "plainRowBehind", "(I)I"⟩, 17), (⟨"BellSuitors", "greatestPartAlike", "(I)I"⟩, 17), (⟨"BellSuitorsModel", "isRead", "()Z"⟩, 40), (⟨"BellSuitorsModel", "nextToken", "()V"⟩, 40), (⟨"BellSuitorsModel", "isClause", "()Z"⟩, 40), (⟨"BellSuitorsModel", "fails", "(I)Z"⟩, 40), (⟨"BellSuitorsModel", "isHead", "()Z"⟩, 40), (⟨"BellSuitorsModel", "isNumber", "(II)Z"⟩, 40)]
theorem lw_r2 : ∀ q ∈ lw_privs_2, lw_okq q := List.forall_mem_cons.mpr ⟨lw_p16, List.forall_mem_cons.mpr ⟨lw_p17, List.forall_mem_cons.mpr ⟨lw_p18, List.forall_mem_cons.mpr ⟨lw_p19, List.forall_mem_cons.mpr ⟨lw_p20, List.forall_mem_cons.mpr ⟨lw_p21, List.forall_mem_cons.mpr ⟨lw_p22, List.forall_mem_cons.mpr ⟨lw_p23, List.forall_mem_cons.mpr ⟨lw_p24, List.forall_mem_cons.mpr ⟨lw_p25, List.forall_mem_cons.mpr ⟨lw_p26, List.forall_mem_cons.mpr ⟨lw_p27, List.forall_mem_cons.mpr ⟨lw_p28, List.forall_mem_cons.mpr ⟨lw_p29, List.forall_mem_cons.mpr ⟨lw_p30, List.forall_mem_cons.mpr ⟨lw_p31, fun _ h => absurd h List.not_mem_nil⟩⟩⟩⟩⟩⟩⟩⟩⟩⟩⟩⟩⟩⟩⟩⟩
theorem lw_p32 : lw_okq (⟨"BellSuitorsModel", "isMethod", "()Z"⟩, 40) := ⟨⟨by decide +kernel, by decide +kernel⟩, List.mem_of_getElem? (i := 870) (by decide +kernel), List.mem_of_getElem? (i := 1035) (by decide +kernel), List.mem_of_getElem? (i := 1036) (by decide +kernel)⟩
theorem lw_p33 : lw_okq (⟨"BellSuitorsModel", "isPart", "()Z"⟩, 40) := ⟨⟨by decide +kernel, by decide +kernel⟩, List.mem_of_getElem? (i := 870) (by decide +kernel), List.mem_of_getElem? (i := 1039) (by decide +kernel), List.mem_of_getElem? (i := 1040) (by decide +kernel)⟩
theorem lw_p34 : lw_okq (⟨"BellSuitorsModel", "isSuitorItem", "()Z"⟩, 40) := ⟨⟨by decide +kernel, by decide +kernel⟩, List.mem_of_getElem? (i := 870) (by decide +kernel), List.mem_of_getElem? (i := 1049) (by decide +kernel), List.mem_of_getElem? (i := 1050) (by decide +kernel)⟩
theorem lw_p35 : lw_okq (⟨"BellSuitorsModel", "isEnd", "()Z"⟩, 40) := ⟨⟨by decide +kernel, by decide +kernel⟩, List.mem_of_getElem? (i := 870) (by decide +kernel), List.mem_of_getElem? (i := 1053) (by decide +kernel), List.mem_of_getElem? (i := 1054) (by decide +kernel)⟩
theorem lw_p36 : lw_okq (⟨"BellSuitorsModel", "isCall", "()Z"⟩, 40) := ⟨⟨by decide +kernel, by decide +kernel⟩, List.mem_of_getElem? (i := 870) (by decide +kernel), List.mem_of_getElem? (i := 1057) (by decide +kernel), List.mem_of_getElem? (i := 1058) (by decide +kernel)⟩
theorem lw_p37 : lw_okq (⟨"BellSuitorsModel", "figuresOf", "([I)I"⟩, 40) := ⟨⟨by decide +kernel, by decide +kernel⟩, List.mem_of_getElem? (i := 870) (by decide +kernel), List.mem_of_getElem? (i := 1075) (by decide +kernel), List.mem_of_getElem? (i := 1076) (by decide +kernel)⟩
theorem lw_p38 : lw_okq (⟨"BellSuitorsModel", "wedIn", "([I)I"⟩, 40) := ⟨⟨by decide +kernel, by decide +kernel⟩, List.mem_of_getElem? (i := 870) (by decide +kernel), List.mem_of_getElem? (i := 1079) (by decide +kernel), List.mem_of_getElem? (i := 1080) (by decide +kernel)⟩
theorem lw_p39 : lw_okq (⟨"BellSuitorsModel", "lateOnes", "()I"⟩, 40) := ⟨⟨by decide +kernel, by decide +kernel⟩, List.mem_of_getElem? (i := 870) (by decide +kernel), List.mem_of_getElem? (i := 1083) (by decide +kernel), List.mem_of_getElem? (i := 1084) (by decide +kernel)⟩
theorem lw_p40 : lw_okq (⟨"BellSuitorsModel", "layTrue", "(I)V"⟩, 40) := ⟨⟨by decide +kernel, by decide +kernel⟩, List.mem_of_getElem? (i := 870) (by decide +kernel), List.mem_of_getElem? (i := 1087) (by decide +kernel), List.mem_of_getElem? (i := 1088) (by decide +kernel)⟩
theorem lw_p41 : lw_okq (⟨"BellSuitorsModel", "changes", "([II)V"⟩, 40) := ⟨⟨by decide +kernel, by decide +kernel⟩, List.mem_of_getElem? (i := 870) (by decide +kernel), List.mem_of_getElem? (i := 1091) (by decide +kernel), List.mem_of_getElem? (i := 1092) (by decide +kernel)⟩
theorem lw_p42 : lw_okq (⟨"BellSuitorsModel", "heardOf", "(I)I"⟩, 40) := ⟨⟨by decide +kernel, by decide +kernel⟩, List.mem_of_getElem? (i := 870) (by decide +kernel), List.mem_of_getElem? (i := 1095) (by decide +kernel), List.mem_of_getElem? (i := 1096) (by decide +kernel)⟩
theorem lw_p43 : lw_okq (⟨"BellSuitorsModel", "placeOf", "([II)I"⟩, 40) := ⟨⟨by decide +kernel, by decide +kernel⟩, List.mem_of_getElem? (i := 870) (by decide +kernel), List.mem_of_getElem? (i := 1099) (by decide +kernel), List.mem_of_getElem? (i := 1100) (by decide +kernel)⟩
theorem lw_p44 : lw_okq (⟨"BellSuitorsModel", "isTower", "()Z"⟩, 40) := ⟨⟨by decide +kernel, by decide +kernel⟩, List.mem_of_getElem? (i := 870) (by decide +kernel), List.mem_of_getElem? (i := 1107) (by decide +kernel), List.mem_of_getElem? (i := 1108) (by decide +kernel)⟩
theorem lw_p45 : lw_okq (⟨"BellSuitorsModel", "isBell", "(I)Z"⟩, 40) := ⟨⟨by decide +kernel, by decide +kernel⟩, List.mem_of_getElem? (i := 870) (by decide +kernel), List.mem_of_getElem? (i := 1116) (by decide +kernel), List.mem_of_getElem? (i := 1117) (by decide +kernel)⟩
theorem lw_p46 : lw_okq (⟨"BellSuitorsModel", "ringerOf", "(I)I"⟩, 40) := ⟨⟨by decide +kernel, by decide +kernel⟩, List.mem_of_getElem? (i := 870) (by decide +kernel), List.mem_of_getElem? (i := 1121) (by decide +kernel), List.mem_of_getElem? (i := 1122) (by decide +kernel)⟩
theorem lw_p47 : lw_okq (⟨"BellSuitorsModel", "isSuitor", "(I)Z"⟩, 40) := ⟨⟨by decide +kernel, by decide +kernel⟩, List.mem_of_getElem? (i := 870) (by decide +kernel), List.mem_of_getElem? (i := 1129) (by decide +kernel), List.mem_of_getElem? (i := 1130) (by decide +kernel)⟩
def lw_privs_3 : List (MethodName × Nat) := [(⟨"BellSuitorsModel", "isMethod", "()Z"⟩, 40), (⟨"BellSuitorsModel", "isPart", "()Z"⟩, 40), (⟨"BellSuitorsModel", "isSuitorItem", "()Z"⟩, 40), (⟨"BellSuitorsModel", "isEnd", "()Z"⟩, 40), (⟨"BellSuitorsModel", "isCall", "()Z"⟩, 40), (⟨"BellSuitorsModel", "figuresOf", "([I)I"⟩, 40), (⟨"BellSuitorsModel", "wedIn", "([I)I"⟩, 40), (⟨"BellSuitorsModel", "lateOnes", "()I"⟩, 40), (⟨"BellSuitorsModel", "layTrue", "(I)V"⟩, 40), (⟨"BellSuitorsModel", "changes", "([II)V"⟩, 40), (⟨"BellSuitorsModel", "heardOf", "(I)I"⟩, 40), (⟨"BellSuitorsModel", "placeOf", "([II)I"⟩, 40), (⟨"BellSuitorsModel", "isTower", "()Z"⟩, 40), (⟨"BellSuitorsModel", "isBell", "(I)Z"⟩, 40), (⟨"BellSuitorsModel", "ringerOf", "(I)I"⟩, 40), (⟨"BellSuitorsModel", "isSuitor", "(I)Z"⟩, 40)]
theorem lw_r3 : ∀ q ∈ lw_privs_3, lw_okq q := List.forall_mem_cons.mpr ⟨lw_p32, List.forall_mem_cons.mpr ⟨lw_p33, List.forall_mem_cons.mpr ⟨lw_p34, List.forall_mem_cons.mpr ⟨lw_p35, List.forall_mem_cons.mpr ⟨lw_p36, List.forall_mem_cons.mpr ⟨lw_p37, List.forall_mem_cons.mpr ⟨lw_p38, List.forall_mem_cons.mpr ⟨lw_p39, List.forall_mem_cons.mpr ⟨lw_p40, List.forall_mem_cons.mpr ⟨lw_p41, List.forall_mem_cons.mpr ⟨lw_p42, List.forall_mem_cons.mpr ⟨lw_p43, List.forall_mem_cons.mpr ⟨lw_p44, List.forall_mem_cons.mpr ⟨lw_p45, List.forall_mem_cons.mpr ⟨lw_p46, List.forall_mem_cons.mpr ⟨lw_p47, fun _ h => absurd h List.not_mem_nil⟩⟩⟩⟩⟩⟩⟩⟩⟩⟩⟩⟩⟩⟩⟩⟩
theorem lw_p48 : lw_okq (⟨"BellSuitorsModel", "noRows", "(II)I"⟩, 40) := ⟨⟨by decide +kernel, by decide +kernel⟩, List.mem_of_getElem? (i := 870) (by decide +kernel), List.mem_of_getElem? (i := 1137) (by decide +kernel), List.mem_of_getElem? (i := 1138) (by decide +kernel)⟩
theorem lw_p49 : lw_okq (⟨"BellSuitorsModel", "note", "()V"⟩, 40) := ⟨⟨by decide +kernel, by decide +kernel⟩, List.mem_of_getElem? (i := 870) (by decide +kernel), List.mem_of_getElem? (i := 1141) (by decide +kernel), List.mem_of_getElem? (i := 1142) (by decide +kernel)⟩
theorem lw_p50 : lw_okq (⟨"BellSuitorsModel", "rings", "([I)V"⟩, 40) := ⟨⟨by decide +kernel, by decide +kernel⟩, List.mem_of_getElem? (i := 870) (by decide +kernel), List.mem_of_getElem? (i := 1145) (by decide +kernel), List.mem_of_getElem? (i := 1146) (by decide +kernel)⟩
theorem lw_p51 : lw_okq (⟨"BellSuitorsModel", "goesOut", "([I)V"⟩, 40) := ⟨⟨by decide +kernel, by decide +kernel⟩, List.mem_of_getElem? (i := 870) (by decide +kernel), List.mem_of_getElem? (i := 1149) (by decide +kernel), List.mem_of_getElem? (i := 1150) (by decide +kernel)⟩
theorem lw_p52 : lw_okq (⟨"BellSuitorsModel", "chance", "()V"⟩, 40) := ⟨⟨by decide +kernel, by decide +kernel⟩, List.mem_of_getElem? (i := 870) (by decide +kernel), List.mem_of_getElem? (i := 1180) (by decide +kernel), List.mem_of_getElem? (i := 1181) (by decide +kernel)⟩
theorem lw_p53 : lw_okq (⟨"BellSuitorsModel", "draw", "(I)I"⟩, 40) := ⟨⟨by decide +kernel, by decide +kernel⟩, List.mem_of_getElem? (i := 870) (by decide +kernel), List.mem_of_getElem? (i := 1184) (by decide +kernel), List.mem_of_getElem? (i := 1185) (by decide +kernel)⟩
theorem lw_p54 : lw_okq (⟨"BellSuitorsModel", "begin", "()V"⟩, 40) := ⟨⟨by decide +kernel, by decide +kernel⟩, List.mem_of_getElem? (i := 870) (by decide +kernel), List.mem_of_getElem? (i := 1200) (by decide +kernel), List.mem_of_getElem? (i := 1201) (by decide +kernel)⟩
theorem lw_p55 : lw_okq (⟨"BellSuitorsModel", "goOn", "(I)V"⟩, 40) := ⟨⟨by decide +kernel, by decide +kernel⟩, List.mem_of_getElem? (i := 870) (by decide +kernel), List.mem_of_getElem? (i := 1204) (by decide +kernel), List.mem_of_getElem? (i := 1205) (by decide +kernel)⟩
theorem lw_p56 : lw_okq (⟨"BellSuitorsModel", "roundsNow", "()I"⟩, 40) := ⟨⟨by decide +kernel, by decide +kernel⟩, List.mem_of_getElem? (i := 870) (by decide +kernel), List.mem_of_getElem? (i := 1216) (by decide +kernel), List.mem_of_getElem? (i := 1217) (by decide +kernel)⟩
theorem lw_p57 : lw_okq (⟨"BellSuitorsModel", "isNew", "(I)Z"⟩, 40) := ⟨⟨by decide +kernel, by decide +kernel⟩, List.mem_of_getElem? (i := 870) (by decide +kernel), List.mem_of_getElem? (i := 1224) (by decide +kernel), List.mem_of_getElem? (i := 1225) (by decide +kernel)⟩
theorem lw_p58 : lw_okq (⟨"BellSuitorsModel", "isTouch", "(II)Z"⟩, 40) := ⟨⟨by decide +kernel, by decide +kernel⟩, List.mem_of_getElem? (i := 870) (by decide +kernel), List.mem_of_getElem? (i := 1232) (by decide +kernel), List.mem_of_getElem? (i := 1233) (by decide +kernel)⟩
theorem lw_p59 : lw_okq (⟨"BellSuitorsModel", "layRopes", "()I"⟩, 40) := ⟨⟨by decide +kernel, by decide +kernel⟩, List.mem_of_getElem? (i := 870) (by decide +kernel), List.mem_of_getElem? (i := 1240) (by decide +kernel), List.mem_of_getElem? (i := 1241) (by decide +kernel)⟩
theorem lw_p60 : lw_okq (⟨"BellSuitorsModel", "layPerm", "(I)Z"⟩, 40) := ⟨⟨by decide +kernel, by decide +kernel⟩, List.mem_of_getElem? (i := 870) (by decide +kernel), List.mem_of_getElem? (i := 1244) (by decide +kernel), List.mem_of_getElem? (i := 1245) (by decide +kernel)⟩
theorem lw_p61 : lw_okq (⟨"BellSuitorsModel", "layRow", "(I)Z"⟩, 40) := ⟨⟨by decide +kernel, by decide +kernel⟩, List.mem_of_getElem? (i := 870) (by decide +kernel), List.mem_of_getElem? (i := 1260) (by decide +kernel), List.mem_of_getElem? (i := 1261) (by decide +kernel)⟩
theorem lw_p62 : lw_okq (⟨"BellSuitorsModel", "without", "(I)I"⟩, 40) := ⟨⟨by decide +kernel, by decide +kernel⟩, List.mem_of_getElem? (i := 870) (by decide +kernel), List.mem_of_getElem? (i := 1272) (by decide +kernel), List.mem_of_getElem? (i := 1273) (by decide +kernel)⟩
def lw_privs_4 : List (MethodName × Nat) := [(⟨"BellSuitorsModel", "noRows", "(II)I"⟩, 40), (⟨"BellSuitorsModel", "note", "()V"⟩, 40), (⟨"BellSuitorsModel", "rings", "([I)V"⟩, 40), (⟨"BellSuitorsModel", "goesOut", "([I)V"⟩, 40), (⟨"BellSuitorsModel", "chance", "()V"⟩, 40), (⟨"BellSuitorsModel", "draw", "(I)I"⟩, 40), (⟨"BellSuitorsModel", "begin", "()V"⟩, 40), (⟨"BellSuitorsModel", "goOn", "(I)V"⟩, 40), (⟨"BellSuitorsModel", "roundsNow", "()I"⟩, 40), (⟨"BellSuitorsModel", "isNew", "(I)Z"⟩, 40), (⟨"BellSuitorsModel", "isTouch", "(II)Z"⟩, 40), (⟨"BellSuitorsModel", "layRopes", "()I"⟩, 40), (⟨"BellSuitorsModel", "layPerm", "(I)Z"⟩, 40), (⟨"BellSuitorsModel", "layRow", "(I)Z"⟩, 40), (⟨"BellSuitorsModel", "without", "(I)I"⟩, 40)]
theorem lw_r4 : ∀ q ∈ lw_privs_4, lw_okq q := List.forall_mem_cons.mpr ⟨lw_p48, List.forall_mem_cons.mpr ⟨lw_p49, List.forall_mem_cons.mpr ⟨lw_p50, List.forall_mem_cons.mpr ⟨lw_p51, List.forall_mem_cons.mpr ⟨lw_p52, List.forall_mem_cons.mpr ⟨lw_p53, List.forall_mem_cons.mpr ⟨lw_p54, List.forall_mem_cons.mpr ⟨lw_p55, List.forall_mem_cons.mpr ⟨lw_p56, List.forall_mem_cons.mpr ⟨lw_p57, List.forall_mem_cons.mpr ⟨lw_p58, List.forall_mem_cons.mpr ⟨lw_p59, List.forall_mem_cons.mpr ⟨lw_p60, List.forall_mem_cons.mpr ⟨lw_p61, List.forall_mem_cons.mpr ⟨lw_p62, fun _ h => absurd h List.not_mem_nil⟩⟩⟩⟩⟩⟩⟩⟩⟩⟩⟩⟩⟩⟩⟩
def lw_privs : List (MethodName × Nat) := lw_privs_1 ++ (lw_privs_2 ++ (lw_privs_3 ++ (lw_privs_4)))
def lw_tbl : List Cond := k2_sels lw_privs ++ tables_1
theorem lw_privs_ok : ∀ q ∈ lw_privs, lw_okq q := by
  show ∀ q ∈ lw_privs_1 ++ (lw_privs_2 ++ (lw_privs_3 ++ (lw_privs_4))), lw_okq q
  exact List.forall_mem_append.mpr ⟨lw_r1, List.forall_mem_append.mpr ⟨lw_r2, List.forall_mem_append.mpr ⟨lw_r3, lw_r4⟩⟩⟩
end
section
def RX0 : String := "BellSuitors$Change"
def TX0 : u_T := fun k => match k with
  | 0 => ("BellSuitors$Change", "set", "I", false)
  | 1 => ("BellSuitors$Change", "stays", "I", false)
  | _ => ("BellSuitors$Change", "firsts", "I", false)
def tyX0 : Nat → FieldType := fun k => match k with
  | 0 => .int
  | 1 => .int
  | _ => .int
abbrev wsX00 : List Cond := u_ws RX0 TX0 3
theorem nmX0 : ∀ a, a < 3 → ∀ b, b < 3 → a ≠ b → (TX0 a).2.1 ≠ (TX0 b).2.1 := by decide +kernel
theorem tyX0_ok : ∀ k, k < 3 → parseFieldDescriptor (TX0 k).2.2.1 = some (tyX0 k) := by decide +kernel
abbrev cX0_init : ByteArray := prog_2_method_1_code
def yX0_init : MethodName := ⟨RX0, "<init>", "()V"⟩
abbrev cX0_firstsOf : ByteArray := prog_2_method_2_code
def yX0_firstsOf : MethodName := ⟨RX0, "firstsOf", "(II)I"⟩
abbrev cX0_become : ByteArray := prog_2_method_3_code
def yX0_become : MethodName := ⟨RX0, "become", "(II)Z"⟩
abbrev cX0_next : ByteArray := prog_2_method_4_code
def yX0_next : MethodName := ⟨RX0, "next", "(I)I"⟩
def RX1 : String := "BellSuitors$Evening"
def TX1 : u_T := fun k => match k with
  | 0 => ("BellSuitors$Evening", "walk", "LBellSuitors$Walk;", true)
  | 1 => ("BellSuitors$Evening", "rung", "I", false)
  | 2 => ("BellSuitors$Evening", "out", "I", false)
  | 3 => ("BellSuitors$Evening", "isWet", "Z", false)
  | 4 => ("BellSuitors$Evening", "ropeOfSuitor", "[I", true)
  | _ => ("BellSuitors$Evening", "tired", "[I", true)
def tyX1 : Nat → FieldType := fun k => match k with
  | 0 => .object "BellSuitors$Walk"
  | 1 => .int
  | 2 => .int
  | 3 => .boolean
  | 4 => .array .int
  | _ => .array .int
abbrev wsX10 : List Cond := u_ws RX1 TX1 6
theorem nmX1 : ∀ a, a < 6 → ∀ b, b < 6 → a ≠ b → (TX1 a).2.1 ≠ (TX1 b).2.1 := by decide +kernel
theorem tyX1_ok : ∀ k, k < 6 → parseFieldDescriptor (TX1 k).2.2.1 = some (tyX1 k) := by decide +kernel
abbrev cX1_init : ByteArray := prog_3_method_1_code
def yX1_init : MethodName := ⟨RX1, "<init>", "()V"⟩
abbrev cX1_begin : ByteArray := prog_3_method_2_code
def yX1_begin : MethodName := ⟨RX1, "begin", "(LBellSuitors$Tower;)V"⟩
abbrev cX1_standAgain : ByteArray := prog_3_method_3_code
def yX1_standAgain : MethodName := ⟨RX1, "standAgain", "(LBellSuitors$Tower;)V"⟩
abbrev cX1_copyFrom : ByteArray := prog_3_method_4_code
def yX1_copyFrom : MethodName := ⟨RX1, "copyFrom", "(LBellSuitors$Evening;)V"⟩
abbrev cX1_ropeOf : ByteArray := prog_3_method_5_code
def yX1_ropeOf : MethodName := ⟨RX1, "ropeOf", "(I)I"⟩
abbrev cX1_tirednessOf : ByteArray := prog_3_method_6_code
def yX1_tirednessOf : MethodName := ⟨RX1, "tirednessOf", "(I)I"⟩
abbrev cX1_isOut : ByteArray := prog_3_method_7_code
def yX1_isOut : MethodName := ⟨RX1, "isOut", "(I)Z"⟩
abbrev cX1_suitorOf : ByteArray := prog_3_method_8_code
def yX1_suitorOf : MethodName := ⟨RX1, "suitorOf", "(ILBellSuitors$Tower;)I"⟩
abbrev cX1_changeRopes : ByteArray := prog_3_method_9_code
def yX1_changeRopes : MethodName := ⟨RX1, "changeRopes", "(II)V"⟩
abbrev cX1_ringNext : ByteArray := prog_3_method_10_code
def yX1_ringNext : MethodName := ⟨RX1, "ringNext", "(LBellSuitors$Tower;)V"⟩
abbrev cX1_tireAll : ByteArray := prog_3_method_11_code
def yX1_tireAll : MethodName := ⟨RX1, "tireAll", "(LBellSuitors$Tower;)V"⟩
abbrev cX1_sendOut : ByteArray := prog_3_method_12_code
def yX1_sendOut : MethodName := ⟨RX1, "sendOut", "(I)V"⟩
abbrev cX1_loserBy : ByteArray := prog_3_method_13_code
def yX1_loserBy : MethodName := ⟨RX1, "loserBy", "(ILBellSuitors$Tower;)I"⟩
abbrev cX1_stillIn : ByteArray := prog_3_method_14_code
def yX1_stillIn : MethodName := ⟨RX1, "stillIn", "(LBellSuitors$Tower;)I"⟩
abbrev cX1_wed : ByteArray := prog_3_method_15_code
def yX1_wed : MethodName := ⟨RX1, "wed", "(LBellSuitors$Tower;)I"⟩
def RX2 : String := "BellSuitors$Notebook"
def TX2 : u_T := fun k => match k with
  | 0 => ("BellSuitors$Notebook", "heard", "I", false)
  | 1 => ("BellSuitors$Notebook", "late", "I", false)
  | 2 => ("BellSuitors$Notebook", "written", "I", false)
  | 3 => ("BellSuitors$Notebook", "bells", "[I", true)
  | _ => ("BellSuitors$Notebook", "places", "[I", true)
def tyX2 : Nat → FieldType := fun k => match k with
  | 0 => .int
  | 1 => .int
  | 2 => .int
  | 3 => .array .int
  | _ => .array .int
abbrev wsX20 : List Cond := u_ws RX2 TX2 5
theorem nmX2 : ∀ a, a < 5 → ∀ b, b < 5 → a ≠ b → (TX2 a).2.1 ≠ (TX2 b).2.1 := by decide +kernel
theorem tyX2_ok : ∀ k, k < 5 → parseFieldDescriptor (TX2 k).2.2.1 = some (tyX2 k) := by decide +kernel
abbrev cX2_init : ByteArray := prog_4_method_1_code
def yX2_init : MethodName := ⟨RX2, "<init>", "()V"⟩
abbrev cX2_empty : ByteArray := prog_4_method_2_code
def yX2_empty : MethodName := ⟨RX2, "empty", "(LBellSuitors$Tower;)V"⟩
abbrev cX2_hearAs : ByteArray := prog_4_method_3_code
def yX2_hearAs : MethodName := ⟨RX2, "hearAs", "(IILBellSuitors$Tower;)V"⟩
abbrev cX2_enter : ByteArray := prog_4_method_4_code
def yX2_enter : MethodName := ⟨RX2, "enter", "(II)Z"⟩
abbrev cX2_firstWrong : ByteArray := prog_4_method_5_code
def yX2_firstWrong : MethodName := ⟨RX2, "firstWrong", "(ILBellSuitors$Tower;)I"⟩
def RX3 : String := "BellSuitors$Past"
def TX3 : u_T := fun k => match k with
  | 0 => ("BellSuitors$Past", "kept", "I", false)
  | 1 => ("BellSuitors$Past", "next", "I", false)
  | _ => ("BellSuitors$Past", "evenings", "[LBellSuitors$Evening;", true)
def tyX3 : Nat → FieldType := fun k => match k with
  | 0 => .int
  | 1 => .int
  | _ => .array (.object "BellSuitors$Evening")
abbrev wsX30 : List Cond := u_ws RX3 TX3 3
theorem nmX3 : ∀ a, a < 3 → ∀ b, b < 3 → a ≠ b → (TX3 a).2.1 ≠ (TX3 b).2.1 := by decide +kernel
theorem tyX3_ok : ∀ k, k < 3 → parseFieldDescriptor (TX3 k).2.2.1 = some (tyX3 k) := by decide +kernel
abbrev cX3_init : ByteArray := prog_5_method_1_code
def yX3_init : MethodName := ⟨RX3, "<init>", "()V"⟩
abbrev cX3_forget : ByteArray := prog_5_method_2_code
def yX3_forget : MethodName := ⟨RX3, "forget", "()V"⟩
abbrev cX3_remember : ByteArray := prog_5_method_3_code
def yX3_remember : MethodName := ⟨RX3, "remember", "(LBellSuitors$Evening;)V"⟩
abbrev cX3_restore : ByteArray := prog_5_method_4_code
def yX3_restore : MethodName := ⟨RX3, "restore", "(LBellSuitors$Evening;)Z"⟩
def RX4 : String := "BellSuitors$RopeSharing"
def TX4 : u_T := fun k => match k with
  | 0 => ("BellSuitors$RopeSharing", "least", "[I", true)
  | _ => ("BellSuitors$RopeSharing", "bells", "[I", true)
def tyX4 : Nat → FieldType := fun k => match k with
  | 0 => .array .int
  | _ => .array .int
abbrev wsX40 : List Cond := u_ws RX4 TX4 2
theorem nmX4 : ∀ a, a < 2 → ∀ b, b < 2 → a ≠ b → (TX4 a).2.1 ≠ (TX4 b).2.1 := by decide +kernel
theorem tyX4_ok : ∀ k, k < 2 → parseFieldDescriptor (TX4 k).2.2.1 = some (tyX4 k) := by decide +kernel
abbrev cX4_init : ByteArray := prog_6_method_1_code
def yX4_init : MethodName := ⟨RX4, "<init>", "()V"⟩
abbrev cX4_share : ByteArray := prog_6_method_2_code
def yX4_share : MethodName := ⟨RX4, "share", "(LBellSuitors$Tower;)V"⟩
abbrev cX4_leastTogether : ByteArray := prog_6_method_3_code
def yX4_leastTogether : MethodName := ⟨RX4, "leastTogether", "(LBellSuitors$Tower;)I"⟩
abbrev cX4_bellFor : ByteArray := prog_6_method_4_code
def yX4_bellFor : MethodName := ⟨RX4, "bellFor", "(I)I"⟩
abbrev cX4_allBells : ByteArray := prog_6_method_5_code
def yX4_allBells : MethodName := ⟨RX4, "allBells", "(LBellSuitors$Tower;)I"⟩
abbrev cX4_firstBell : ByteArray := prog_6_method_6_code
def yX4_firstBell : MethodName := ⟨RX4, "firstBell", "(LBellSuitors$Tower;II)I"⟩
abbrev cX4_leastFrom : ByteArray := prog_6_method_7_code
def yX4_leastFrom : MethodName := ⟨RX4, "leastFrom", "(IIILBellSuitors$Tower;)I"⟩
def RX5 : String := "BellSuitors$Rows"
def TX5 : u_T := fun k => match k with
  | _ => ("", "", "", false)
def tyX5 : Nat → FieldType := fun k => match k with
  | _ => .int
abbrev wsX50 : List Cond := u_ws RX5 TX5 0
theorem nmX5 : ∀ a, a < 0 → ∀ b, b < 0 → a ≠ b → (TX5 a).2.1 ≠ (TX5 b).2.1 := by decide +kernel
theorem tyX5_ok : ∀ k, k < 0 → parseFieldDescriptor (TX5 k).2.2.1 = some (tyX5 k) := by decide +kernel
abbrev cX5_rounds : ByteArray := prog_7_method_2_code
def yX5_rounds : MethodName := ⟨RX5, "rounds", "(I)I"⟩
abbrev cX5_bellIn : ByteArray := prog_7_method_3_code
def yX5_bellIn : MethodName := ⟨RX5, "bellIn", "(II)I"⟩
abbrev cX5_placeOf : ByteArray := prog_7_method_4_code
def yX5_placeOf : MethodName := ⟨RX5, "placeOf", "(III)I"⟩
abbrev cX5_figures : ByteArray := prog_7_method_5_code
def yX5_figures : MethodName := ⟨RX5, "figures", "(II)I"⟩
abbrev cX5_fromFigures : ByteArray := prog_7_method_6_code
def yX5_fromFigures : MethodName := ⟨RX5, "fromFigures", "(II)I"⟩
abbrev cX5_placesAlike : ByteArray := prog_7_method_7_code
def yX5_placesAlike : MethodName := ⟨RX5, "placesAlike", "(III)I"⟩
abbrev cX5_without : ByteArray := prog_7_method_8_code
def yX5_without : MethodName := ⟨RX5, "without", "(III)I"⟩
abbrev cX5_withLate : ByteArray := prog_7_method_9_code
def yX5_withLate : MethodName := ⟨RX5, "withLate", "(III)I"⟩
def RX6 : String := "BellSuitors$Seen"
def TX6 : u_T := fun k => match k with
  | _ => ("BellSuitors$Seen", "words", "[I", true)
def tyX6 : Nat → FieldType := fun k => match k with
  | _ => .array .int
abbrev wsX60 : List Cond := u_ws RX6 TX6 1
theorem nmX6 : ∀ a, a < 1 → ∀ b, b < 1 → a ≠ b → (TX6 a).2.1 ≠ (TX6 b).2.1 := by decide +kernel
theorem tyX6_ok : ∀ k, k < 1 → parseFieldDescriptor (TX6 k).2.2.1 = some (tyX6 k) := by decide +kernel
abbrev cX6_init : ByteArray := prog_8_method_1_code
def yX6_init : MethodName := ⟨RX6, "<init>", "()V"⟩
abbrev cX6_clear : ByteArray := prog_8_method_2_code
def yX6_clear : MethodName := ⟨RX6, "clear", "()V"⟩
abbrev cX6_add : ByteArray := prog_8_method_3_code
def yX6_add : MethodName := ⟨RX6, "add", "(I)Z"⟩
abbrev cX6_remove : ByteArray := prog_8_method_4_code
def yX6_remove : MethodName := ⟨RX6, "remove", "(I)V"⟩
def RX7 : String := "BellSuitors$Text"
def TX7 : u_T := fun k => match k with
  | 0 => ("BellSuitors$Text", "length", "I", false)
  | 1 => ("BellSuitors$Text", "faultAt", "I", false)
  | 2 => ("BellSuitors$Text", "letters", "[I", true)
  | 3 => ("BellSuitors$Text", "target", "LBellSuitors$Tower;", false)
  | 4 => ("BellSuitors$Text", "at", "I", false)
  | 5 => ("BellSuitors$Text", "numberAt", "I", false)
  | _ => ("BellSuitors$Text", "wrong", "I", false)
def tyX7 : Nat → FieldType := fun k => match k with
  | 0 => .int
  | 1 => .int
  | 2 => .array .int
  | 3 => .object "BellSuitors$Tower"
  | 4 => .int
  | 5 => .int
  | _ => .int
abbrev wsX70 : List Cond := u_ws RX7 TX7 7
theorem nmX7 : ∀ a, a < 7 → ∀ b, b < 7 → a ≠ b → (TX7 a).2.1 ≠ (TX7 b).2.1 := by decide +kernel
theorem tyX7_ok : ∀ k, k < 7 → parseFieldDescriptor (TX7 k).2.2.1 = some (tyX7 k) := by decide +kernel
abbrev cX7_init : ByteArray := prog_9_method_1_code
def yX7_init : MethodName := ⟨RX7, "<init>", "(LBellSuitors$Tower;)V"⟩
abbrev cX7_add : ByteArray := prog_9_method_2_code
def yX7_add : MethodName := ⟨RX7, "add", "(I)Z"⟩
abbrev cX7_readInto : ByteArray := prog_9_method_3_code
def yX7_readInto : MethodName := ⟨RX7, "readInto", "(LBellSuitors$Tower;)I"⟩
abbrev cX7_letterHere : ByteArray := prog_9_method_4_code
def yX7_letterHere : MethodName := ⟨RX7, "letterHere", "()I"⟩
abbrev cX7_skipBlanks : ByteArray := prog_9_method_5_code
def yX7_skipBlanks : MethodName := ⟨RX7, "skipBlanks", "()V"⟩
abbrev cX7_fail : ByteArray := prog_9_method_6_code
def yX7_fail : MethodName := ⟨RX7, "fail", "(II)V"⟩
abbrev cX7_readClause : ByteArray := prog_9_method_7_code
def yX7_readClause : MethodName := ⟨RX7, "readClause", "()V"⟩
abbrev cX7_faultOfWord : ByteArray := prog_9_method_8_code
def yX7_faultOfWord : MethodName := ⟨RX7, "faultOfWord", "(I)I"⟩
abbrev cX7_mostNumbers : ByteArray := prog_9_method_9_code
def yX7_mostNumbers : MethodName := ⟨RX7, "mostNumbers", "(I)I"⟩
abbrev cX7_goesOn : ByteArray := prog_9_method_10_code
def yX7_goesOn : MethodName := ⟨RX7, "goesOn", "(II)Z"⟩
abbrev cX7_readNumber : ByteArray := prog_9_method_11_code
def yX7_readNumber : MethodName := ⟨RX7, "readNumber", "(I)I"⟩
abbrev cX7_isFigure : ByteArray := prog_9_method_12_code
def yX7_isFigure : MethodName := ⟨RX7, "isFigure", "(I)Z"⟩
abbrev cX7_withinBounds : ByteArray := prog_9_method_13_code
def yX7_withinBounds : MethodName := ⟨RX7, "withinBounds", "(II)Z"⟩
abbrev cX7_enter : ByteArray := prog_9_method_14_code
def yX7_enter : MethodName := ⟨RX7, "enter", "(II)Z"⟩
def RX8 : String := "BellSuitors$Touches"
def TX8 : u_T := fun k => match k with
  | 0 => ("BellSuitors$Touches", "count", "I", false)
  | 1 => ("BellSuitors$Touches", "first", "I", false)
  | 2 => ("BellSuitors$Touches", "seen", "LBellSuitors$Seen;", true)
  | 3 => ("BellSuitors$Touches", "tower", "LBellSuitors$Tower;", false)
  | 4 => ("BellSuitors$Touches", "leads", "I", false)
  | _ => ("BellSuitors$Touches", "rounds", "I", false)
def tyX8 : Nat → FieldType := fun k => match k with
  | 0 => .int
  | 1 => .int
  | 2 => .object "BellSuitors$Seen"
  | 3 => .object "BellSuitors$Tower"
  | 4 => .int
  | _ => .int
abbrev wsX80 : List Cond := u_ws RX8 TX8 6
theorem nmX8 : ∀ a, a < 6 → ∀ b, b < 6 → a ≠ b → (TX8 a).2.1 ≠ (TX8 b).2.1 := by decide +kernel
theorem tyX8_ok : ∀ k, k < 6 → parseFieldDescriptor (TX8 k).2.2.1 = some (tyX8 k) := by decide +kernel
abbrev cX8_init : ByteArray := prog_10_method_1_code
def yX8_init : MethodName := ⟨RX8, "<init>", "(LBellSuitors$Seen;LBellSuitors$Tower;)V"⟩
abbrev cX8_search : ByteArray := prog_10_method_2_code
def yX8_search : MethodName := ⟨RX8, "search", "(LBellSuitors$Tower;I)V"⟩
abbrev cX8_goOn : ByteArray := prog_10_method_3_code
def yX8_goOn : MethodName := ⟨RX8, "goOn", "(III)V"⟩
abbrev cX8_endLead : ByteArray := prog_10_method_4_code
def yX8_endLead : MethodName := ⟨RX8, "endLead", "(III)V"⟩
abbrev cX8_leave : ByteArray := prog_10_method_5_code
def yX8_leave : MethodName := ⟨RX8, "leave", "(II)V"⟩
def RX9 : String := "BellSuitors$Tower"
def TX9 : u_T := fun k => match k with
  | 0 => ("BellSuitors$Tower", "bells", "I", false)
  | 1 => ("BellSuitors$Tower", "changes", "I", false)
  | 2 => ("BellSuitors$Tower", "suitors", "I", false)
  | 3 => ("BellSuitors$Tower", "callTold", "Z", false)
  | 4 => ("BellSuitors$Tower", "theCall", "LBellSuitors$Change;", true)
  | 5 => ("BellSuitors$Tower", "theMethod", "[LBellSuitors$Change;", true)
  | 6 => ("BellSuitors$Tower", "weights", "[I", true)
  | _ => ("BellSuitors$Tower", "strengths", "[I", true)
def tyX9 : Nat → FieldType := fun k => match k with
  | 0 => .int
  | 1 => .int
  | 2 => .int
  | 3 => .boolean
  | 4 => .object "BellSuitors$Change"
  | 5 => .array (.object "BellSuitors$Change")
  | 6 => .array .int
  | _ => .array .int
abbrev wsX90 : List Cond := u_ws RX9 TX9 8
theorem nmX9 : ∀ a, a < 8 → ∀ b, b < 8 → a ≠ b → (TX9 a).2.1 ≠ (TX9 b).2.1 := by decide +kernel
theorem tyX9_ok : ∀ k, k < 8 → parseFieldDescriptor (TX9 k).2.2.1 = some (tyX9 k) := by decide +kernel
abbrev cX9_init : ByteArray := prog_11_method_1_code
def yX9_init : MethodName := ⟨RX9, "<init>", "()V"⟩
abbrev cX9_clear : ByteArray := prog_11_method_2_code
def yX9_clear : MethodName := ⟨RX9, "clear", "()V"⟩
abbrev cX9_stands : ByteArray := prog_11_method_3_code
def yX9_stands : MethodName := ⟨RX9, "stands", "()Z"⟩
abbrev cX9_hasBell : ByteArray := prog_11_method_4_code
def yX9_hasBell : MethodName := ⟨RX9, "hasBell", "(I)Z"⟩
abbrev cX9_hasSuitor : ByteArray := prog_11_method_5_code
def yX9_hasSuitor : MethodName := ⟨RX9, "hasSuitor", "(I)Z"⟩
abbrev cX9_allPlaces : ByteArray := prog_11_method_6_code
def yX9_allPlaces : MethodName := ⟨RX9, "allPlaces", "()I"⟩
abbrev cX9_weightOf : ByteArray := prog_11_method_7_code
def yX9_weightOf : MethodName := ⟨RX9, "weightOf", "(I)I"⟩
abbrev cX9_strengthOf : ByteArray := prog_11_method_8_code
def yX9_strengthOf : MethodName := ⟨RX9, "strengthOf", "(I)I"⟩
abbrev cX9_excess : ByteArray := prog_11_method_9_code
def yX9_excess : MethodName := ⟨RX9, "excess", "(II)I"⟩
abbrev cX9_changeAt : ByteArray := prog_11_method_10_code
def yX9_changeAt : MethodName := ⟨RX9, "changeAt", "(I)LBellSuitors$Change;"⟩
abbrev cX9_addBell : ByteArray := prog_11_method_11_code
def yX9_addBell : MethodName := ⟨RX9, "addBell", "(I)V"⟩
abbrev cX9_addSuitor : ByteArray := prog_11_method_12_code
def yX9_addSuitor : MethodName := ⟨RX9, "addSuitor", "(I)V"⟩
abbrev cX9_addChange : ByteArray := prog_11_method_13_code
def yX9_addChange : MethodName := ⟨RX9, "addChange", "(I)Z"⟩
abbrev cX9_tellCall : ByteArray := prog_11_method_14_code
def yX9_tellCall : MethodName := ⟨RX9, "tellCall", "(I)Z"⟩
abbrev cX9_complete : ByteArray := prog_11_method_15_code
def yX9_complete : MethodName := ⟨RX9, "complete", "()V"⟩
def RX10 : String := "BellSuitors$Walk"
def TX10 : u_T := fun k => match k with
  | 0 => ("BellSuitors$Walk", "row", "I", false)
  | 1 => ("BellSuitors$Walk", "come", "I", false)
  | _ => ("BellSuitors$Walk", "called", "Z", false)
def tyX10 : Nat → FieldType := fun k => match k with
  | 0 => .int
  | 1 => .int
  | _ => .boolean
abbrev wsX100 : List Cond := u_ws RX10 TX10 3
theorem nmX10 : ∀ a, a < 3 → ∀ b, b < 3 → a ≠ b → (TX10 a).2.1 ≠ (TX10 b).2.1 := by decide +kernel
theorem tyX10_ok : ∀ k, k < 3 → parseFieldDescriptor (TX10 k).2.2.1 = some (tyX10 k) := by decide +kernel
abbrev cX10_init : ByteArray := prog_12_method_1_code
def yX10_init : MethodName := ⟨RX10, "<init>", "()V"⟩
abbrev cX10_begin : ByteArray := prog_12_method_2_code
def yX10_begin : MethodName := ⟨RX10, "begin", "(LBellSuitors$Tower;)V"⟩
abbrev cX10_copyFrom : ByteArray := prog_12_method_3_code
def yX10_copyFrom : MethodName := ⟨RX10, "copyFrom", "(LBellSuitors$Walk;)V"⟩
abbrev cX10_step : ByteArray := prog_12_method_4_code
def yX10_step : MethodName := ⟨RX10, "step", "(LBellSuitors$Tower;)V"⟩
abbrev cX10_endsLead : ByteArray := prog_12_method_5_code
def yX10_endsLead : MethodName := ⟨RX10, "endsLead", "()Z"⟩
def RX11 : String := "BellSuitors"
def TX11 : u_T := fun k => match k with
  | 0 => ("BellSuitors", "tower", "LBellSuitors$Tower;", false)
  | 1 => ("BellSuitors", "draft", "LBellSuitors$Tower;", false)
  | 2 => ("BellSuitors", "text", "LBellSuitors$Text;", true)
  | 3 => ("BellSuitors", "evening", "LBellSuitors$Evening;", true)
  | 4 => ("BellSuitors", "past", "LBellSuitors$Past;", true)
  | 5 => ("BellSuitors", "images", "[LBellSuitors$Evening;", true)
  | 6 => ("BellSuitors", "imageSeeds", "[I", true)
  | 7 => ("BellSuitors", "imagesKept", "I", false)
  | 8 => ("BellSuitors", "seen", "LBellSuitors$Seen;", true)
  | 9 => ("BellSuitors", "touches", "LBellSuitors$Touches;", true)
  | 10 => ("BellSuitors", "sharing", "LBellSuitors$RopeSharing;", true)
  | 11 => ("BellSuitors", "trial", "LBellSuitors$Walk;", true)
  | 12 => ("BellSuitors", "tried", "LBellSuitors$Change;", true)
  | 13 => ("BellSuitors", "notebook", "LBellSuitors$Notebook;", true)
  | 14 => ("BellSuitors", "heardRows", "[I", true)
  | 15 => ("BellSuitors", "faultAt", "I", false)
  | _ => ("BellSuitors", "seedNow", "I", false)
def tyX11 : Nat → FieldType := fun k => match k with
  | 0 => .object "BellSuitors$Tower"
  | 1 => .object "BellSuitors$Tower"
  | 2 => .object "BellSuitors$Text"
  | 3 => .object "BellSuitors$Evening"
  | 4 => .object "BellSuitors$Past"
  | 5 => .array (.object "BellSuitors$Evening")
  | 6 => .array .int
  | 7 => .int
  | 8 => .object "BellSuitors$Seen"
  | 9 => .object "BellSuitors$Touches"
  | 10 => .object "BellSuitors$RopeSharing"
  | 11 => .object "BellSuitors$Walk"
  | 12 => .object "BellSuitors$Change"
  | 13 => .object "BellSuitors$Notebook"
  | 14 => .array .int
  | 15 => .int
  | _ => .int
abbrev wsX110 : List Cond := u_ws RX11 TX11 17
theorem nmX11 : ∀ a, a < 17 → ∀ b, b < 17 → a ≠ b → (TX11 a).2.1 ≠ (TX11 b).2.1 := by decide +kernel
theorem tyX11_ok : ∀ k, k < 17 → parseFieldDescriptor (TX11 k).2.2.1 = some (tyX11 k) := by decide +kernel
abbrev cX11_init : ByteArray := prog_1_method_1_code
def yX11_init : MethodName := ⟨RX11, "<init>", "()V"⟩
abbrev cX11_feed : ByteArray := prog_1_method_2_code
def yX11_feed : MethodName := ⟨RX11, "feed", "(I)I"⟩
abbrev cX11_tower : ByteArray := prog_1_method_3_code
def yX11_tower : MethodName := ⟨RX11, "tower", "()I"⟩
abbrev cX11_fault : ByteArray := prog_1_method_4_code
def yX11_fault : MethodName := ⟨RX11, "fault", "()I"⟩
abbrev cX11_told : ByteArray := prog_1_method_5_code
def yX11_told : MethodName := ⟨RX11, "told", "(I)I"⟩
abbrev cX11_method : ByteArray := prog_1_method_6_code
def yX11_method : MethodName := ⟨RX11, "method", "(I)I"⟩
abbrev cX11_bell : ByteArray := prog_1_method_7_code
def yX11_bell : MethodName := ⟨RX11, "bell", "(II)I"⟩
abbrev cX11_suitor : ByteArray := prog_1_method_8_code
def yX11_suitor : MethodName := ⟨RX11, "suitor", "(II)I"⟩
abbrev cX11_ring : ByteArray := prog_1_method_9_code
def yX11_ring : MethodName := ⟨RX11, "ring", "(I)I"⟩
abbrev cX11_call : ByteArray := prog_1_method_10_code
def yX11_call : MethodName := ⟨RX11, "call", "()I"⟩
abbrev cX11_swap : ByteArray := prog_1_method_11_code
def yX11_swap : MethodName := ⟨RX11, "swap", "(II)I"⟩
abbrev cX11_stand : ByteArray := prog_1_method_12_code
def yX11_stand : MethodName := ⟨RX11, "stand", "()I"⟩
abbrev cX11_wet : ByteArray := prog_1_method_13_code
def yX11_wet : MethodName := ⟨RX11, "wet", "(Z)I"⟩
abbrev cX11_forgive : ByteArray := prog_1_method_14_code
def yX11_forgive : MethodName := ⟨RX11, "forgive", "(I)I"⟩
abbrev cX11_drift : ByteArray := prog_1_method_15_code
def yX11_drift : MethodName := ⟨RX11, "drift", "(I)I"⟩
abbrev cX11_undo : ByteArray := prog_1_method_16_code
def yX11_undo : MethodName := ⟨RX11, "undo", "()I"⟩
abbrev cX11_rowAt : ByteArray := prog_1_method_17_code
def yX11_rowAt : MethodName := ⟨RX11, "rowAt", "(I)I"⟩
abbrev cX11_placeAt : ByteArray := prog_1_method_18_code
def yX11_placeAt : MethodName := ⟨RX11, "placeAt", "(II)I"⟩
abbrev cX11_round : ByteArray := prog_1_method_19_code
def yX11_round : MethodName := ⟨RX11, "round", "()I"⟩
abbrev cX11_trueFor : ByteArray := prog_1_method_20_code
def yX11_trueFor : MethodName := ⟨RX11, "trueFor", "()I"⟩
abbrev cX11_touch : ByteArray := prog_1_method_21_code
def yX11_touch : MethodName := ⟨RX11, "touch", "(II)I"⟩
abbrev cX11_ropes : ByteArray := prog_1_method_22_code
def yX11_ropes : MethodName := ⟨RX11, "ropes", "(I)I"⟩
abbrev cX11_last : ByteArray := prog_1_method_23_code
def yX11_last : MethodName := ⟨RX11, "last", "(II)I"⟩
abbrev cX11_nextOut : ByteArray := prog_1_method_24_code
def yX11_nextOut : MethodName := ⟨RX11, "nextOut", "()I"⟩
abbrev cX11_change : ByteArray := prog_1_method_25_code
def yX11_change : MethodName := ⟨RX11, "change", "(II)I"⟩
abbrev cX11_follow : ByteArray := prog_1_method_26_code
def yX11_follow : MethodName := ⟨RX11, "follow", "()I"⟩
abbrev cX11_gap : ByteArray := prog_1_method_27_code
def yX11_gap : MethodName := ⟨RX11, "gap", "(II)I"⟩
abbrev cX11_dry : ByteArray := prog_1_method_28_code
def yX11_dry : MethodName := ⟨RX11, "dry", "(II)I"⟩
abbrev cX11_hear : ByteArray := prog_1_method_29_code
def yX11_hear : MethodName := ⟨RX11, "hear", "(II)I"⟩
abbrev cX11_listen : ByteArray := prog_1_method_30_code
def yX11_listen : MethodName := ⟨RX11, "listen", "()I"⟩
abbrev cX11_write : ByteArray := prog_1_method_31_code
def yX11_write : MethodName := ⟨RX11, "write", "(II)I"⟩
abbrev cX11_tear : ByteArray := prog_1_method_32_code
def yX11_tear : MethodName := ⟨RX11, "tear", "()I"⟩
abbrev cX11_judge : ByteArray := prog_1_method_33_code
def yX11_judge : MethodName := ⟨RX11, "judge", "()I"⟩
abbrev cX11_seed : ByteArray := prog_1_method_34_code
def yX11_seed : MethodName := ⟨RX11, "seed", "(I)I"⟩
abbrev cX11_keep : ByteArray := prog_1_method_35_code
def yX11_keep : MethodName := ⟨RX11, "keep", "(I)I"⟩
abbrev cX11_goBack : ByteArray := prog_1_method_36_code
def yX11_goBack : MethodName := ⟨RX11, "goBack", "(I)I"⟩
abbrev cX11_figuresNow : ByteArray := prog_1_method_37_code
def yX11_figuresNow : MethodName := ⟨RX11, "figuresNow", "()I"⟩
abbrev cX11_refuseToRing : ByteArray := prog_1_method_38_code
def yX11_refuseToRing : MethodName := ⟨RX11, "refuseToRing", "(II)I"⟩
abbrev cX11_rowBehind : ByteArray := prog_1_method_39_code
def yX11_rowBehind : MethodName := ⟨RX11, "rowBehind", "(I)I"⟩
abbrev cX11_plainRowBehind : ByteArray := prog_1_method_40_code
def yX11_plainRowBehind : MethodName := ⟨RX11, "plainRowBehind", "(I)I"⟩
abbrev cX11_stepTrial : ByteArray := prog_1_method_41_code
def yX11_stepTrial : MethodName := ⟨RX11, "stepTrial", "(I)I"⟩
abbrev cX11_draw : ByteArray := prog_1_method_42_code
def yX11_draw : MethodName := ⟨RX11, "draw", "(I)I"⟩
abbrev cX11_letChanceAct : ByteArray := prog_1_method_43_code
def yX11_letChanceAct : MethodName := ⟨RX11, "letChanceAct", "()V"⟩
abbrev cX11_changeRopesByDraws : ByteArray := prog_1_method_44_code
def yX11_changeRopesByDraws : MethodName := ⟨RX11, "changeRopesByDraws", "()V"⟩
abbrev cX11_greatestPartAlike : ByteArray := prog_1_method_45_code
def yX11_greatestPartAlike : MethodName := ⟨RX11, "greatestPartAlike", "(I)I"⟩
def RX12 : String := "BellSuitorsModel"
def TX12 : u_T := fun k => match k with
  | 0 => ("BellSuitorsModel", "letters", "I", false)
  | 1 => ("BellSuitorsModel", "text", "[I", true)
  | 2 => ("BellSuitorsModel", "position", "I", false)
  | 3 => ("BellSuitorsModel", "tokenAt", "I", false)
  | 4 => ("BellSuitorsModel", "token", "I", false)
  | 5 => ("BellSuitorsModel", "number", "I", false)
  | 6 => ("BellSuitorsModel", "figures", "I", false)
  | 7 => ("BellSuitorsModel", "faultAt", "I", false)
  | 8 => ("BellSuitorsModel", "faultIs", "I", false)
  | 9 => ("BellSuitorsModel", "readBells", "I", false)
  | 10 => ("BellSuitorsModel", "readMany", "I", false)
  | 11 => ("BellSuitorsModel", "readSuitors", "I", false)
  | 12 => ("BellSuitorsModel", "readCall", "I", false)
  | 13 => ("BellSuitorsModel", "readWeight", "[I", true)
  | 14 => ("BellSuitorsModel", "readMethod", "[I", true)
  | 15 => ("BellSuitorsModel", "readStrong", "[I", true)
  | 16 => ("BellSuitorsModel", "bells", "I", false)
  | 17 => ("BellSuitorsModel", "many", "I", false)
  | 18 => ("BellSuitorsModel", "suitors", "I", false)
  | 19 => ("BellSuitorsModel", "call", "I", false)
  | 20 => ("BellSuitorsModel", "weight", "[I", true)
  | 21 => ("BellSuitorsModel", "method", "[I", true)
  | 22 => ("BellSuitorsModel", "strong", "[I", true)
  | 23 => ("BellSuitorsModel", "now", "[I", true)
  | 24 => ("BellSuitorsModel", "tried", "[I", true)
  | 25 => ("BellSuitorsModel", "backOf", "[I", true)
  | 26 => ("BellSuitorsModel", "backs", "I", false)
  | 27 => ("BellSuitorsModel", "image", "[I", true)
  | 28 => ("BellSuitorsModel", "imageSeed", "[I", true)
  | 29 => ("BellSuitorsModel", "isKept", "[Z", true)
  | 30 => ("BellSuitorsModel", "seed", "I", false)
  | 31 => ("BellSuitorsModel", "heard", "I", false)
  | 32 => ("BellSuitorsModel", "sight", "[I", true)
  | 33 => ("BellSuitorsModel", "entries", "I", false)
  | 34 => ("BellSuitorsModel", "entry", "[I", true)
  | 35 => ("BellSuitorsModel", "met", "[I", true)
  | 36 => ("BellSuitorsModel", "metMany", "I", false)
  | 37 => ("BellSuitorsModel", "perm", "[I", true)
  | 38 => ("BellSuitorsModel", "bestPerm", "[I", true)
  | _ => ("BellSuitorsModel", "heardBy", "[I", true)
def tyX12 : Nat → FieldType := fun k => match k with
  | 0 => .int
  | 1 => .array .int
  | 2 => .int
  | 3 => .int
  | 4 => .int
  | 5 => .int
  | 6 => .int
  | 7 => .int
  | 8 => .int
  | 9 => .int
  | 10 => .int
  | 11 => .int
  | 12 => .int
  | 13 => .array .int
  | 14 => .array .int
  | 15 => .array .int
  | 16 => .int
  | 17 => .int
  | 18 => .int
  | 19 => .int
  | 20 => .array .int
  | 21 => .array .int
  | 22 => .array .int
  | 23 => .array .int
  | 24 => .array .int
  | 25 => .array .int
  | 26 => .int
  | 27 => .array .int
  | 28 => .array .int
  | 29 => .array .boolean
  | 30 => .int
  | 31 => .int
  | 32 => .array .int
  | 33 => .int
  | 34 => .array .int
  | 35 => .array .int
  | 36 => .int
  | 37 => .array .int
  | 38 => .array .int
  | _ => .array .int
abbrev wsX120 : List Cond := u_ws RX12 TX12 40
theorem nmX12 : ∀ a, a < 40 → ∀ b, b < 40 → a ≠ b → (TX12 a).2.1 ≠ (TX12 b).2.1 := by decide +kernel
theorem tyX12_ok : ∀ k, k < 40 → parseFieldDescriptor (TX12 k).2.2.1 = some (tyX12 k) := by decide +kernel
abbrev cX12_init : ByteArray := prog_14_method_1_code
def yX12_init : MethodName := ⟨RX12, "<init>", "()V"⟩
abbrev cX12_in : ByteArray := prog_14_method_2_code
def yX12_in : MethodName := ⟨RX12, "in", "(III)Z"⟩
abbrev cX12_has : ByteArray := prog_14_method_3_code
def yX12_has : MethodName := ⟨RX12, "has", "(II)Z"⟩
abbrev cX12_bits : ByteArray := prog_14_method_4_code
def yX12_bits : MethodName := ⟨RX12, "bits", "(I)I"⟩
abbrev cX12_isTower : ByteArray := prog_14_method_5_code
def yX12_isTower : MethodName := ⟨RX12, "isTower", "()Z"⟩
abbrev cX12_isBell : ByteArray := prog_14_method_6_code
def yX12_isBell : MethodName := ⟨RX12, "isBell", "(I)Z"⟩
abbrev cX12_isSuitor : ByteArray := prog_14_method_7_code
def yX12_isSuitor : MethodName := ⟨RX12, "isSuitor", "(I)Z"⟩
abbrev cX12_feed : ByteArray := prog_14_method_8_code
def yX12_feed : MethodName := ⟨RX12, "feed", "(I)I"⟩
abbrev cX12_nextToken : ByteArray := prog_14_method_9_code
def yX12_nextToken : MethodName := ⟨RX12, "nextToken", "()V"⟩
abbrev cX12_fails : ByteArray := prog_14_method_10_code
def yX12_fails : MethodName := ⟨RX12, "fails", "(I)Z"⟩
abbrev cX12_isNumber : ByteArray := prog_14_method_11_code
def yX12_isNumber : MethodName := ⟨RX12, "isNumber", "(II)Z"⟩
abbrev cX12_isEnd : ByteArray := prog_14_method_12_code
def yX12_isEnd : MethodName := ⟨RX12, "isEnd", "()Z"⟩
abbrev cX12_isChange : ByteArray := prog_14_method_13_code
def yX12_isChange : MethodName := ⟨RX12, "isChange", "(II)Z"⟩
abbrev cX12_isHead : ByteArray := prog_14_method_14_code
def yX12_isHead : MethodName := ⟨RX12, "isHead", "()Z"⟩
abbrev cX12_isPart : ByteArray := prog_14_method_15_code
def yX12_isPart : MethodName := ⟨RX12, "isPart", "()Z"⟩
abbrev cX12_isMethod : ByteArray := prog_14_method_16_code
def yX12_isMethod : MethodName := ⟨RX12, "isMethod", "()Z"⟩
abbrev cX12_isSuitorItem : ByteArray := prog_14_method_17_code
def yX12_isSuitorItem : MethodName := ⟨RX12, "isSuitorItem", "()Z"⟩
abbrev cX12_isCall : ByteArray := prog_14_method_18_code
def yX12_isCall : MethodName := ⟨RX12, "isCall", "()Z"⟩
abbrev cX12_isClause : ByteArray := prog_14_method_19_code
def yX12_isClause : MethodName := ⟨RX12, "isClause", "()Z"⟩
abbrev cX12_isRead : ByteArray := prog_14_method_20_code
def yX12_isRead : MethodName := ⟨RX12, "isRead", "()Z"⟩
abbrev cX12_bring : ByteArray := prog_14_method_21_code
def yX12_bring : MethodName := ⟨RX12, "bring", "([II[III)V"⟩
abbrev cX12_toRounds : ByteArray := prog_14_method_22_code
def yX12_toRounds : MethodName := ⟨RX12, "toRounds", "([I)V"⟩
abbrev cX12_tower : ByteArray := prog_14_method_23_code
def yX12_tower : MethodName := ⟨RX12, "tower", "()I"⟩
abbrev cX12_fault : ByteArray := prog_14_method_24_code
def yX12_fault : MethodName := ⟨RX12, "fault", "()I"⟩
abbrev cX12_figuresOf : ByteArray := prog_14_method_25_code
def yX12_figuresOf : MethodName := ⟨RX12, "figuresOf", "([I)I"⟩
abbrev cX12_wedIn : ByteArray := prog_14_method_26_code
def yX12_wedIn : MethodName := ⟨RX12, "wedIn", "([I)I"⟩
abbrev cX12_told : ByteArray := prog_14_method_27_code
def yX12_told : MethodName := ⟨RX12, "told", "(I)I"⟩
abbrev cX12_method : ByteArray := prog_14_method_28_code
def yX12_method : MethodName := ⟨RX12, "method", "(I)I"⟩
abbrev cX12_placeOf : ByteArray := prog_14_method_29_code
def yX12_placeOf : MethodName := ⟨RX12, "placeOf", "([II)I"⟩
abbrev cX12_ringerOf : ByteArray := prog_14_method_30_code
def yX12_ringerOf : MethodName := ⟨RX12, "ringerOf", "(I)I"⟩
abbrev cX12_bell : ByteArray := prog_14_method_31_code
def yX12_bell : MethodName := ⟨RX12, "bell", "(II)I"⟩
abbrev cX12_suitor : ByteArray := prog_14_method_32_code
def yX12_suitor : MethodName := ⟨RX12, "suitor", "(II)I"⟩
abbrev cX12_note : ByteArray := prog_14_method_33_code
def yX12_note : MethodName := ⟨RX12, "note", "()V"⟩
abbrev cX12_changes : ByteArray := prog_14_method_34_code
def yX12_changes : MethodName := ⟨RX12, "changes", "([II)V"⟩
abbrev cX12_goesOut : ByteArray := prog_14_method_35_code
def yX12_goesOut : MethodName := ⟨RX12, "goesOut", "([I)V"⟩
abbrev cX12_rings : ByteArray := prog_14_method_36_code
def yX12_rings : MethodName := ⟨RX12, "rings", "([I)V"⟩
abbrev cX12_noRows : ByteArray := prog_14_method_37_code
def yX12_noRows : MethodName := ⟨RX12, "noRows", "(II)I"⟩
abbrev cX12_ring : ByteArray := prog_14_method_38_code
def yX12_ring : MethodName := ⟨RX12, "ring", "(I)I"⟩
abbrev cX12_call : ByteArray := prog_14_method_39_code
def yX12_call : MethodName := ⟨RX12, "call", "()I"⟩
abbrev cX12_swaps : ByteArray := prog_14_method_40_code
def yX12_swaps : MethodName := ⟨RX12, "swaps", "([III)V"⟩
abbrev cX12_swap : ByteArray := prog_14_method_41_code
def yX12_swap : MethodName := ⟨RX12, "swap", "(II)I"⟩
abbrev cX12_stand : ByteArray := prog_14_method_42_code
def yX12_stand : MethodName := ⟨RX12, "stand", "()I"⟩
abbrev cX12_wet : ByteArray := prog_14_method_43_code
def yX12_wet : MethodName := ⟨RX12, "wet", "(Z)I"⟩
abbrev cX12_forgive : ByteArray := prog_14_method_44_code
def yX12_forgive : MethodName := ⟨RX12, "forgive", "(I)I"⟩
abbrev cX12_draw : ByteArray := prog_14_method_45_code
def yX12_draw : MethodName := ⟨RX12, "draw", "(I)I"⟩
abbrev cX12_chance : ByteArray := prog_14_method_46_code
def yX12_chance : MethodName := ⟨RX12, "chance", "()V"⟩
abbrev cX12_drift : ByteArray := prog_14_method_47_code
def yX12_drift : MethodName := ⟨RX12, "drift", "(I)I"⟩
abbrev cX12_undo : ByteArray := prog_14_method_48_code
def yX12_undo : MethodName := ⟨RX12, "undo", "()I"⟩
abbrev cX12_begin : ByteArray := prog_14_method_49_code
def yX12_begin : MethodName := ⟨RX12, "begin", "()V"⟩
abbrev cX12_goOn : ByteArray := prog_14_method_50_code
def yX12_goOn : MethodName := ⟨RX12, "goOn", "(I)V"⟩
abbrev cX12_rowAt : ByteArray := prog_14_method_51_code
def yX12_rowAt : MethodName := ⟨RX12, "rowAt", "(I)I"⟩
abbrev cX12_placeAt : ByteArray := prog_14_method_52_code
def yX12_placeAt : MethodName := ⟨RX12, "placeAt", "(II)I"⟩
abbrev cX12_roundsNow : ByteArray := prog_14_method_53_code
def yX12_roundsNow : MethodName := ⟨RX12, "roundsNow", "()I"⟩
abbrev cX12_round : ByteArray := prog_14_method_54_code
def yX12_round : MethodName := ⟨RX12, "round", "()I"⟩
abbrev cX12_isNew : ByteArray := prog_14_method_55_code
def yX12_isNew : MethodName := ⟨RX12, "isNew", "(I)Z"⟩
abbrev cX12_trueFor : ByteArray := prog_14_method_56_code
def yX12_trueFor : MethodName := ⟨RX12, "trueFor", "()I"⟩
abbrev cX12_isTouch : ByteArray := prog_14_method_57_code
def yX12_isTouch : MethodName := ⟨RX12, "isTouch", "(II)Z"⟩
abbrev cX12_touch : ByteArray := prog_14_method_58_code
def yX12_touch : MethodName := ⟨RX12, "touch", "(II)I"⟩
abbrev cX12_layPerm : ByteArray := prog_14_method_59_code
def yX12_layPerm : MethodName := ⟨RX12, "layPerm", "(I)Z"⟩
abbrev cX12_layRopes : ByteArray := prog_14_method_60_code
def yX12_layRopes : MethodName := ⟨RX12, "layRopes", "()I"⟩
abbrev cX12_ropes : ByteArray := prog_14_method_61_code
def yX12_ropes : MethodName := ⟨RX12, "ropes", "(I)I"⟩
abbrev cX12_last : ByteArray := prog_14_method_62_code
def yX12_last : MethodName := ⟨RX12, "last", "(II)I"⟩
abbrev cX12_nextOut : ByteArray := prog_14_method_63_code
def yX12_nextOut : MethodName := ⟨RX12, "nextOut", "()I"⟩
abbrev cX12_layRow : ByteArray := prog_14_method_64_code
def yX12_layRow : MethodName := ⟨RX12, "layRow", "(I)Z"⟩
abbrev cX12_change : ByteArray := prog_14_method_65_code
def yX12_change : MethodName := ⟨RX12, "change", "(II)I"⟩
abbrev cX12_follow : ByteArray := prog_14_method_66_code
def yX12_follow : MethodName := ⟨RX12, "follow", "()I"⟩
abbrev cX12_without : ByteArray := prog_14_method_67_code
def yX12_without : MethodName := ⟨RX12, "without", "(I)I"⟩
abbrev cX12_gap : ByteArray := prog_14_method_68_code
def yX12_gap : MethodName := ⟨RX12, "gap", "(II)I"⟩
abbrev cX12_dry : ByteArray := prog_14_method_69_code
def yX12_dry : MethodName := ⟨RX12, "dry", "(II)I"⟩
abbrev cX12_hear : ByteArray := prog_14_method_70_code
def yX12_hear : MethodName := ⟨RX12, "hear", "(II)I"⟩
abbrev cX12_layTrue : ByteArray := prog_14_method_71_code
def yX12_layTrue : MethodName := ⟨RX12, "layTrue", "(I)V"⟩
abbrev cX12_heardOf : ByteArray := prog_14_method_72_code
def yX12_heardOf : MethodName := ⟨RX12, "heardOf", "(I)I"⟩
abbrev cX12_lateOnes : ByteArray := prog_14_method_73_code
def yX12_lateOnes : MethodName := ⟨RX12, "lateOnes", "()I"⟩
abbrev cX12_listen : ByteArray := prog_14_method_74_code
def yX12_listen : MethodName := ⟨RX12, "listen", "()I"⟩
abbrev cX12_write : ByteArray := prog_14_method_75_code
def yX12_write : MethodName := ⟨RX12, "write", "(II)I"⟩
abbrev cX12_tear : ByteArray := prog_14_method_76_code
def yX12_tear : MethodName := ⟨RX12, "tear", "()I"⟩
abbrev cX12_judge : ByteArray := prog_14_method_77_code
def yX12_judge : MethodName := ⟨RX12, "judge", "()I"⟩
abbrev cX12_seed : ByteArray := prog_14_method_78_code
def yX12_seed : MethodName := ⟨RX12, "seed", "(I)I"⟩
abbrev cX12_keep : ByteArray := prog_14_method_79_code
def yX12_keep : MethodName := ⟨RX12, "keep", "(I)I"⟩
abbrev cX12_goBack : ByteArray := prog_14_method_80_code
def yX12_goBack : MethodName := ⟨RX12, "goBack", "(I)I"⟩
def RJ6 : String := "java/lang/Integer"
def TJ6 : u_T := fun k => match k with
  | _ => ("", "", "", false)
def tyJ6 : Nat → FieldType := fun k => match k with
  | _ => .int
abbrev wsJ60 : List Cond := u_ws RJ6 TJ6 0
theorem nmJ6 : ∀ a, a < 0 → ∀ b, b < 0 → a ≠ b → (TJ6 a).2.1 ≠ (TJ6 b).2.1 := by decide +kernel
theorem tyJ6_ok : ∀ k, k < 0 → parseFieldDescriptor (TJ6 k).2.2.1 = some (tyJ6 k) := by decide +kernel
abbrev cJ6_numberOfTrailingZeros_0f7a4 : ByteArray := prog_15_method_48_code
def yJ6_numberOfTrailingZeros_0f7a4 : MethodName := ⟨RJ6, "numberOfTrailingZeros", "(I)I"⟩
abbrev cJ6_bitCount_0f7a4 : ByteArray := prog_15_method_49_code
def yJ6_bitCount_0f7a4 : MethodName := ⟨RJ6, "bitCount", "(I)I"⟩
def RJ9 : String := "java/lang/Math"
def TJ9 : u_T := fun k => match k with
  | _ => ("", "", "", false)
def tyJ9 : Nat → FieldType := fun k => match k with
  | _ => .int
abbrev wsJ90 : List Cond := u_ws RJ9 TJ9 0
theorem nmJ9 : ∀ a, a < 0 → ∀ b, b < 0 → a ≠ b → (TJ9 a).2.1 ≠ (TJ9 b).2.1 := by decide +kernel
theorem tyJ9_ok : ∀ k, k < 0 → parseFieldDescriptor (TJ9 k).2.2.1 = some (tyJ9 k) := by decide +kernel
abbrev cJ9_max_7cf53 : ByteArray := prog_16_method_65_code
def yJ9_max_7cf53 : MethodName := ⟨RJ9, "max", "(II)I"⟩
abbrev cJ9_min_7cf53 : ByteArray := prog_16_method_69_code
def yJ9_min_7cf53 : MethodName := ⟨RJ9, "min", "(II)I"⟩
def RJ10 : String := "java/lang/System"
def TJ10 : u_T := fun k => match k with
  | _ => ("", "", "", false)
def tyJ10 : Nat → FieldType := fun k => match k with
  | _ => .int
abbrev wsJ100 : List Cond := u_ws RJ10 TJ10 0
theorem nmJ10 : ∀ a, a < 0 → ∀ b, b < 0 → a ≠ b → (TJ10 a).2.1 ≠ (TJ10 b).2.1 := by decide +kernel
theorem tyJ10_ok : ∀ k, k < 0 → parseFieldDescriptor (TJ10 k).2.2.1 = some (tyJ10 k) := by decide +kernel
def RJ7 : String := "java/util/Arrays"
def TJ7 : u_T := fun k => match k with
  | _ => ("", "", "", false)
def tyJ7 : Nat → FieldType := fun k => match k with
  | _ => .int
abbrev wsJ70 : List Cond := u_ws RJ7 TJ7 0
theorem nmJ7 : ∀ a, a < 0 → ∀ b, b < 0 → a ≠ b → (TJ7 a).2.1 ≠ (TJ7 b).2.1 := by decide +kernel
theorem tyJ7_ok : ∀ k, k < 0 → parseFieldDescriptor (TJ7 k).2.2.1 = some (tyJ7 k) := by decide +kernel
abbrev cJ7_fill_53178 : ByteArray := prog_18_method_103_code
def yJ7_fill_53178 : MethodName := ⟨RJ7, "fill", "([II)V"⟩
def RL : String := "BellSuitorsLaw"
abbrev cL_law : ByteArray := code
def yL_law : MethodName := ⟨RL, "law", "([I)Z"⟩
theorem inX0 : ∀ w ∈ wsX00, w ∈ lw_tbl := by decide +kernel
theorem inX1 : ∀ w ∈ wsX10, w ∈ lw_tbl := by decide +kernel
theorem inX2 : ∀ w ∈ wsX20, w ∈ lw_tbl := by decide +kernel
theorem inX3 : ∀ w ∈ wsX30, w ∈ lw_tbl := by decide +kernel
theorem inX4 : ∀ w ∈ wsX40, w ∈ lw_tbl := by decide +kernel
theorem inX5 : ∀ w ∈ wsX50, w ∈ lw_tbl := by decide +kernel
theorem inX6 : ∀ w ∈ wsX60, w ∈ lw_tbl := by decide +kernel
theorem inX7 : ∀ w ∈ wsX70, w ∈ lw_tbl := by decide +kernel
theorem inX8 : ∀ w ∈ wsX80, w ∈ lw_tbl := by decide +kernel
theorem inX9 : ∀ w ∈ wsX90, w ∈ lw_tbl := by decide +kernel
theorem inX10 : ∀ w ∈ wsX100, w ∈ lw_tbl := by decide +kernel
theorem inX11 : ∀ w ∈ wsX110, w ∈ lw_tbl := by decide +kernel
theorem inX12 : ∀ w ∈ wsX120, w ∈ lw_tbl := by decide +kernel
abbrev clsL : List vw_C := [(RX0, TX0, 3), (RX1, TX1, 6), (RX2, TX2, 5), (RX3, TX3, 3), (RX4, TX4, 2), (RX5, TX5, 0), (RX6, TX6, 1), (RX7, TX7, 7), (RX8, TX8, 6), (RX9, TX9, 8), (RX10, TX10, 3), (RX11, TX11, 17), (RX12, TX12, 40)]
def tbG : List Cond := lw_tbl.filter goodWord
theorem tbG_in {w : Cond} (h : w ∈ lw_tbl) (hg : goodWord w = true) : w ∈ tbG := List.mem_filter.mpr ⟨h, hg⟩
theorem tbG_of {w : Cond} (h : w ∈ tbG) : w ∈ lw_tbl := (List.mem_filter.mp h).1
theorem tbG_good {w : Cond} (h : w ∈ tbG) : (w.onTables && w.keeps) = true ∨ ∃ ty, w = .arrayClass ty := good_of_word (List.mem_filter.mp h).2
end
section
theorem dX0_init_0 : decode cX0_init 0 = .ok (.aload_n 0, 1) := by decide +kernel
theorem dX0_init_1 : decode cX0_init 1 = .ok (.invokespecial 3, 3) := by decide +kernel
theorem dX0_init_4 : decode cX0_init 4 = .ok (.return_, 1) := by decide +kernel
theorem dX0_firstsOf_0 : decode cX0_firstsOf 0 = .ok (.iconst 0, 1) := by decide +kernel
theorem dX0_firstsOf_1 : decode cX0_firstsOf 1 = .ok (.istore_n 2, 1) := by decide +kernel
theorem dX0_firstsOf_2 : decode cX0_firstsOf 2 = .ok (.iconst 0, 1) := by decide +kernel
theorem dX0_firstsOf_3 : decode cX0_firstsOf 3 = .ok (.istore_n 3, 1) := by decide +kernel
theorem dX0_firstsOf_4 : decode cX0_firstsOf 4 = .ok (.iload_n 3, 1) := by decide +kernel
theorem dX0_firstsOf_5 : decode cX0_firstsOf 5 = .ok (.iload_n 1, 1) := by decide +kernel
theorem dX0_firstsOf_6 : decode cX0_firstsOf 6 = .ok (.if_icmp .ge 48, 3) := by decide +kernel
theorem dX0_firstsOf_9 : decode cX0_firstsOf 9 = .ok (.iload_n 0, 1) := by decide +kernel
theorem dX0_firstsOf_10 : decode cX0_firstsOf 10 = .ok (.iload_n 3, 1) := by decide +kernel
theorem dX0_firstsOf_11 : decode cX0_firstsOf 11 = .ok (.ishr, 1) := by decide +kernel
theorem dX0_firstsOf_12 : decode cX0_firstsOf 12 = .ok (.iconst 1, 1) := by decide +kernel
theorem dX0_firstsOf_13 : decode cX0_firstsOf 13 = .ok (.iand, 1) := by decide +kernel
theorem dX0_firstsOf_14 : decode cX0_firstsOf 14 = .ok (.ifCond .ne 34, 3) := by decide +kernel
theorem dX0_firstsOf_17 : decode cX0_firstsOf 17 = .ok (.iload_n 3, 1) := by decide +kernel
theorem dX0_firstsOf_18 : decode cX0_firstsOf 18 = .ok (.iconst 1, 1) := by decide +kernel
theorem dX0_firstsOf_19 : decode cX0_firstsOf 19 = .ok (.iadd, 1) := by decide +kernel
theorem dX0_firstsOf_20 : decode cX0_firstsOf 20 = .ok (.iload_n 1, 1) := by decide +kernel
theorem dX0_firstsOf_21 : decode cX0_firstsOf 21 = .ok (.if_icmp .eq 13, 3) := by decide +kernel
theorem dX0_firstsOf_24 : decode cX0_firstsOf 24 = .ok (.iload_n 0, 1) := by decide +kernel
theorem dX0_firstsOf_25 : decode cX0_firstsOf 25 = .ok (.iload_n 3, 1) := by decide +kernel
theorem dX0_firstsOf_26 : decode cX0_firstsOf 26 = .ok (.iconst 1, 1) := by decide +kernel
theorem dX0_firstsOf_27 : decode cX0_firstsOf 27 = .ok (.iadd, 1) := by decide +kernel
theorem dX0_firstsOf_28 : decode cX0_firstsOf 28 = .ok (.ishr, 1) := by decide +kernel
theorem dX0_firstsOf_29 : decode cX0_firstsOf 29 = .ok (.iconst 1, 1) := by decide +kernel
theorem dX0_firstsOf_30 : decode cX0_firstsOf 30 = .ok (.iand, 1) := by decide +kernel
theorem dX0_firstsOf_31 : decode cX0_firstsOf 31 = .ok (.ifCond .eq 5, 3) := by decide +kernel
theorem dX0_firstsOf_34 : decode cX0_firstsOf 34 = .ok (.iconst (-1), 1) := by decide +kernel
theorem dX0_firstsOf_35 : decode cX0_firstsOf 35 = .ok (.ireturn, 1) := by decide +kernel
theorem dX0_firstsOf_36 : decode cX0_firstsOf 36 = .ok (.iload_n 2, 1) := by decide +kernel
theorem dX0_firstsOf_37 : decode cX0_firstsOf 37 = .ok (.bipush 7, 2) := by decide +kernel
theorem dX0_firstsOf_39 : decode cX0_firstsOf 39 = .ok (.iconst 3, 1) := by decide +kernel
theorem dX0_firstsOf_40 : decode cX0_firstsOf 40 = .ok (.iload_n 3, 1) := by decide +kernel
theorem dX0_firstsOf_41 : decode cX0_firstsOf 41 = .ok (.imul, 1) := by decide +kernel
theorem dX0_firstsOf_42 : decode cX0_firstsOf 42 = .ok (.ishl, 1) := by decide +kernel
theorem dX0_firstsOf_43 : decode cX0_firstsOf 43 = .ok (.ior, 1) := by decide +kernel
theorem dX0_firstsOf_44 : decode cX0_firstsOf 44 = .ok (.istore_n 2, 1) := by decide +kernel
theorem dX0_firstsOf_45 : decode cX0_firstsOf 45 = .ok (.iinc 3 1, 3) := by decide +kernel
theorem dX0_firstsOf_48 : decode cX0_firstsOf 48 = .ok (.iinc 3 1, 3) := by decide +kernel
theorem dX0_firstsOf_51 : decode cX0_firstsOf 51 = .ok (.goto (-47), 3) := by decide +kernel
theorem dX0_firstsOf_54 : decode cX0_firstsOf 54 = .ok (.iload_n 2, 1) := by decide +kernel
theorem dX0_firstsOf_55 : decode cX0_firstsOf 55 = .ok (.ireturn, 1) := by decide +kernel
theorem dX0_become_0 : decode cX0_become 0 = .ok (.iload_n 1, 1) := by decide +kernel
theorem dX0_become_1 : decode cX0_become 1 = .ok (.iload_n 2, 1) := by decide +kernel
theorem dX0_become_2 : decode cX0_become 2 = .ok (.invokestatic 11, 3) := by decide +kernel
theorem dX0_become_5 : decode cX0_become 5 = .ok (.istore_n 3, 1) := by decide +kernel
theorem dX0_become_6 : decode cX0_become 6 = .ok (.iload_n 3, 1) := by decide +kernel
theorem dX0_become_7 : decode cX0_become 7 = .ok (.iconst (-1), 1) := by decide +kernel
theorem dX0_become_8 : decode cX0_become 8 = .ok (.if_icmp .ne 5, 3) := by decide +kernel
theorem dX0_become_11 : decode cX0_become 11 = .ok (.iconst 0, 1) := by decide +kernel
theorem dX0_become_12 : decode cX0_become 12 = .ok (.ireturn, 1) := by decide +kernel
theorem dX0_become_13 : decode cX0_become 13 = .ok (.aload_n 0, 1) := by decide +kernel
theorem dX0_become_14 : decode cX0_become 14 = .ok (.iload_n 1, 1) := by decide +kernel
theorem dX0_become_15 : decode cX0_become 15 = .ok (.putfield 17, 3) := by decide +kernel
theorem dX0_become_18 : decode cX0_become 18 = .ok (.aload_n 0, 1) := by decide +kernel
theorem dX0_become_19 : decode cX0_become 19 = .ok (.iload_n 3, 1) := by decide +kernel
theorem dX0_become_20 : decode cX0_become 20 = .ok (.putfield 21, 3) := by decide +kernel
theorem dX0_become_23 : decode cX0_become 23 = .ok (.aload_n 0, 1) := by decide +kernel
theorem dX0_become_24 : decode cX0_become 24 = .ok (.iconst 1, 1) := by decide +kernel
theorem dX0_become_25 : decode cX0_become 25 = .ok (.iconst 3, 1) := by decide +kernel
theorem dX0_become_26 : decode cX0_become 26 = .ok (.iload_n 2, 1) := by decide +kernel
theorem dX0_become_27 : decode cX0_become 27 = .ok (.imul, 1) := by decide +kernel
theorem dX0_become_28 : decode cX0_become 28 = .ok (.ishl, 1) := by decide +kernel
theorem dX0_become_29 : decode cX0_become 29 = .ok (.iconst 1, 1) := by decide +kernel
theorem dX0_become_30 : decode cX0_become 30 = .ok (.isub, 1) := by decide +kernel
theorem dX0_become_31 : decode cX0_become 31 = .ok (.iload_n 3, 1) := by decide +kernel
theorem dX0_become_32 : decode cX0_become 32 = .ok (.iload_n 3, 1) := by decide +kernel
theorem dX0_become_33 : decode cX0_become 33 = .ok (.iconst 3, 1) := by decide +kernel
theorem dX0_become_34 : decode cX0_become 34 = .ok (.ishl, 1) := by decide +kernel
theorem dX0_become_35 : decode cX0_become 35 = .ok (.ior, 1) := by decide +kernel
theorem dX0_become_36 : decode cX0_become 36 = .ok (.iconst (-1), 1) := by decide +kernel
theorem dX0_become_37 : decode cX0_become 37 = .ok (.ixor, 1) := by decide +kernel
theorem dX0_become_38 : decode cX0_become 38 = .ok (.iand, 1) := by decide +kernel
theorem dX0_become_39 : decode cX0_become 39 = .ok (.putfield 24, 3) := by decide +kernel
theorem dX0_become_42 : decode cX0_become 42 = .ok (.iconst 1, 1) := by decide +kernel
theorem dX0_become_43 : decode cX0_become 43 = .ok (.ireturn, 1) := by decide +kernel
theorem dX0_next_0 : decode cX0_next 0 = .ok (.iload_n 1, 1) := by decide +kernel
theorem dX0_next_1 : decode cX0_next 1 = .ok (.aload_n 0, 1) := by decide +kernel
theorem dX0_next_2 : decode cX0_next 2 = .ok (.getfield 24, 3) := by decide +kernel
theorem dX0_next_5 : decode cX0_next 5 = .ok (.iand, 1) := by decide +kernel
theorem dX0_next_6 : decode cX0_next 6 = .ok (.iload_n 1, 1) := by decide +kernel
theorem dX0_next_7 : decode cX0_next 7 = .ok (.aload_n 0, 1) := by decide +kernel
theorem dX0_next_8 : decode cX0_next 8 = .ok (.getfield 21, 3) := by decide +kernel
theorem dX0_next_11 : decode cX0_next 11 = .ok (.iand, 1) := by decide +kernel
theorem dX0_next_12 : decode cX0_next 12 = .ok (.iconst 3, 1) := by decide +kernel
theorem dX0_next_13 : decode cX0_next 13 = .ok (.ishl, 1) := by decide +kernel
theorem dX0_next_14 : decode cX0_next 14 = .ok (.ior, 1) := by decide +kernel
theorem dX0_next_15 : decode cX0_next 15 = .ok (.iload_n 1, 1) := by decide +kernel
theorem dX0_next_16 : decode cX0_next 16 = .ok (.iconst 3, 1) := by decide +kernel
theorem dX0_next_17 : decode cX0_next 17 = .ok (.ishr, 1) := by decide +kernel
theorem dX0_next_18 : decode cX0_next 18 = .ok (.aload_n 0, 1) := by decide +kernel
theorem dX0_next_19 : decode cX0_next 19 = .ok (.getfield 21, 3) := by decide +kernel
theorem dX0_next_22 : decode cX0_next 22 = .ok (.iand, 1) := by decide +kernel
theorem dX0_next_23 : decode cX0_next 23 = .ok (.ior, 1) := by decide +kernel
theorem dX0_next_24 : decode cX0_next 24 = .ok (.ireturn, 1) := by decide +kernel
theorem dX1_init_0 : decode cX1_init 0 = .ok (.aload_n 0, 1) := by decide +kernel
theorem dX1_init_1 : decode cX1_init 1 = .ok (.invokespecial 3, 3) := by decide +kernel
theorem dX1_init_4 : decode cX1_init 4 = .ok (.aload_n 0, 1) := by decide +kernel
theorem dX1_init_5 : decode cX1_init 5 = .ok (.new 9, 3) := by decide +kernel
theorem dX1_init_8 : decode cX1_init 8 = .ok (.dup, 1) := by decide +kernel
theorem dX1_init_9 : decode cX1_init 9 = .ok (.invokespecial 11, 3) := by decide +kernel
theorem dX1_init_12 : decode cX1_init 12 = .ok (.putfield 12, 3) := by decide +kernel
theorem dX1_init_15 : decode cX1_init 15 = .ok (.aload_n 0, 1) := by decide +kernel
theorem dX1_init_16 : decode cX1_init 16 = .ok (.bipush 6, 2) := by decide +kernel
theorem dX1_init_18 : decode cX1_init 18 = .ok (.newarray .int, 2) := by decide +kernel
theorem dX1_init_20 : decode cX1_init 20 = .ok (.putfield 18, 3) := by decide +kernel
theorem dX1_init_23 : decode cX1_init 23 = .ok (.aload_n 0, 1) := by decide +kernel
theorem dX1_init_24 : decode cX1_init 24 = .ok (.bipush 6, 2) := by decide +kernel
theorem dX1_init_26 : decode cX1_init 26 = .ok (.newarray .int, 2) := by decide +kernel
theorem dX1_init_28 : decode cX1_init 28 = .ok (.putfield 22, 3) := by decide +kernel
theorem dX1_init_31 : decode cX1_init 31 = .ok (.return_, 1) := by decide +kernel
theorem dX1_begin_0 : decode cX1_begin 0 = .ok (.aload_n 0, 1) := by decide +kernel
theorem dX1_begin_1 : decode cX1_begin 1 = .ok (.aload_n 1, 1) := by decide +kernel
theorem dX1_begin_2 : decode cX1_begin 2 = .ok (.invokevirtual 25, 3) := by decide +kernel
theorem dX1_begin_5 : decode cX1_begin 5 = .ok (.aload_n 0, 1) := by decide +kernel
theorem dX1_begin_6 : decode cX1_begin 6 = .ok (.iconst 0, 1) := by decide +kernel
theorem dX1_begin_7 : decode cX1_begin 7 = .ok (.putfield 29, 3) := by decide +kernel
theorem dX1_begin_10 : decode cX1_begin 10 = .ok (.aload_n 0, 1) := by decide +kernel
theorem dX1_begin_11 : decode cX1_begin 11 = .ok (.iconst 0, 1) := by decide +kernel
theorem dX1_begin_12 : decode cX1_begin 12 = .ok (.putfield 33, 3) := by decide +kernel
theorem dX1_begin_15 : decode cX1_begin 15 = .ok (.aload_n 0, 1) := by decide +kernel
theorem dX1_begin_16 : decode cX1_begin 16 = .ok (.iconst 0, 1) := by decide +kernel
theorem dX1_begin_17 : decode cX1_begin 17 = .ok (.putfield 36, 3) := by decide +kernel
theorem dX1_begin_20 : decode cX1_begin 20 = .ok (.iconst 0, 1) := by decide +kernel
theorem dX1_begin_21 : decode cX1_begin 21 = .ok (.istore_n 2, 1) := by decide +kernel
theorem dX1_begin_22 : decode cX1_begin 22 = .ok (.iload_n 2, 1) := by decide +kernel
theorem dX1_begin_23 : decode cX1_begin 23 = .ok (.bipush 6, 2) := by decide +kernel
theorem dX1_begin_25 : decode cX1_begin 25 = .ok (.if_icmp .ge 16, 3) := by decide +kernel
theorem dX1_begin_28 : decode cX1_begin 28 = .ok (.aload_n 0, 1) := by decide +kernel
theorem dX1_begin_29 : decode cX1_begin 29 = .ok (.getfield 18, 3) := by decide +kernel
theorem dX1_begin_32 : decode cX1_begin 32 = .ok (.iload_n 2, 1) := by decide +kernel
theorem dX1_begin_33 : decode cX1_begin 33 = .ok (.iload_n 2, 1) := by decide +kernel
theorem dX1_begin_34 : decode cX1_begin 34 = .ok (.iastore, 1) := by decide +kernel
theorem dX1_begin_35 : decode cX1_begin 35 = .ok (.iinc 2 1, 3) := by decide +kernel
theorem dX1_begin_38 : decode cX1_begin 38 = .ok (.goto (-16), 3) := by decide +kernel
theorem dX1_begin_41 : decode cX1_begin 41 = .ok (.return_, 1) := by decide +kernel
theorem dX1_standAgain_0 : decode cX1_standAgain 0 = .ok (.aload_n 0, 1) := by decide +kernel
theorem dX1_standAgain_1 : decode cX1_standAgain 1 = .ok (.getfield 12, 3) := by decide +kernel
theorem dX1_standAgain_4 : decode cX1_standAgain 4 = .ok (.aload_n 1, 1) := by decide +kernel
theorem dX1_standAgain_5 : decode cX1_standAgain 5 = .ok (.invokevirtual 40, 3) := by decide +kernel
theorem dX1_standAgain_8 : decode cX1_standAgain 8 = .ok (.aload_n 0, 1) := by decide +kernel
theorem dX1_standAgain_9 : decode cX1_standAgain 9 = .ok (.getfield 22, 3) := by decide +kernel
theorem dX1_standAgain_12 : decode cX1_standAgain 12 = .ok (.iconst 0, 1) := by decide +kernel
theorem dX1_standAgain_13 : decode cX1_standAgain 13 = .ok (.invokestatic 43, 3) := by decide +kernel
theorem dX1_standAgain_16 : decode cX1_standAgain 16 = .ok (.return_, 1) := by decide +kernel
theorem dX1_copyFrom_0 : decode cX1_copyFrom 0 = .ok (.aload_n 0, 1) := by decide +kernel
theorem dX1_copyFrom_1 : decode cX1_copyFrom 1 = .ok (.getfield 12, 3) := by decide +kernel
theorem dX1_copyFrom_4 : decode cX1_copyFrom 4 = .ok (.aload_n 1, 1) := by decide +kernel
theorem dX1_copyFrom_5 : decode cX1_copyFrom 5 = .ok (.getfield 12, 3) := by decide +kernel
theorem dX1_copyFrom_8 : decode cX1_copyFrom 8 = .ok (.invokevirtual 49, 3) := by decide +kernel
theorem dX1_copyFrom_11 : decode cX1_copyFrom 11 = .ok (.aload_n 0, 1) := by decide +kernel
theorem dX1_copyFrom_12 : decode cX1_copyFrom 12 = .ok (.aload_n 1, 1) := by decide +kernel
theorem dX1_copyFrom_13 : decode cX1_copyFrom 13 = .ok (.getfield 29, 3) := by decide +kernel
theorem dX1_copyFrom_16 : decode cX1_copyFrom 16 = .ok (.putfield 29, 3) := by decide +kernel
theorem dX1_copyFrom_19 : decode cX1_copyFrom 19 = .ok (.aload_n 0, 1) := by decide +kernel
theorem dX1_copyFrom_20 : decode cX1_copyFrom 20 = .ok (.aload_n 1, 1) := by decide +kernel
theorem dX1_copyFrom_21 : decode cX1_copyFrom 21 = .ok (.getfield 33, 3) := by decide +kernel
theorem dX1_copyFrom_24 : decode cX1_copyFrom 24 = .ok (.putfield 33, 3) := by decide +kernel
theorem dX1_copyFrom_27 : decode cX1_copyFrom 27 = .ok (.aload_n 0, 1) := by decide +kernel
theorem dX1_copyFrom_28 : decode cX1_copyFrom 28 = .ok (.aload_n 1, 1) := by decide +kernel
theorem dX1_copyFrom_29 : decode cX1_copyFrom 29 = .ok (.getfield 36, 3) := by decide +kernel
theorem dX1_copyFrom_32 : decode cX1_copyFrom 32 = .ok (.putfield 36, 3) := by decide +kernel
theorem dX1_copyFrom_35 : decode cX1_copyFrom 35 = .ok (.aload_n 1, 1) := by decide +kernel
theorem dX1_copyFrom_36 : decode cX1_copyFrom 36 = .ok (.getfield 18, 3) := by decide +kernel
theorem dX1_copyFrom_39 : decode cX1_copyFrom 39 = .ok (.iconst 0, 1) := by decide +kernel
theorem dX1_copyFrom_40 : decode cX1_copyFrom 40 = .ok (.aload_n 0, 1) := by decide +kernel
theorem dX1_copyFrom_41 : decode cX1_copyFrom 41 = .ok (.getfield 18, 3) := by decide +kernel
theorem dX1_copyFrom_44 : decode cX1_copyFrom 44 = .ok (.iconst 0, 1) := by decide +kernel
theorem dX1_copyFrom_45 : decode cX1_copyFrom 45 = .ok (.bipush 6, 2) := by decide +kernel
theorem dX1_copyFrom_47 : decode cX1_copyFrom 47 = .ok (.invokestatic 53, 3) := by decide +kernel
theorem dX1_copyFrom_50 : decode cX1_copyFrom 50 = .ok (.aload_n 1, 1) := by decide +kernel
theorem dX1_copyFrom_51 : decode cX1_copyFrom 51 = .ok (.getfield 22, 3) := by decide +kernel
theorem dX1_copyFrom_54 : decode cX1_copyFrom 54 = .ok (.iconst 0, 1) := by decide +kernel
theorem dX1_copyFrom_55 : decode cX1_copyFrom 55 = .ok (.aload_n 0, 1) := by decide +kernel
theorem dX1_copyFrom_56 : decode cX1_copyFrom 56 = .ok (.getfield 22, 3) := by decide +kernel
theorem dX1_copyFrom_59 : decode cX1_copyFrom 59 = .ok (.iconst 0, 1) := by decide +kernel
theorem dX1_copyFrom_60 : decode cX1_copyFrom 60 = .ok (.bipush 6, 2) := by decide +kernel
theorem dX1_copyFrom_62 : decode cX1_copyFrom 62 = .ok (.invokestatic 53, 3) := by decide +kernel
theorem dX1_copyFrom_65 : decode cX1_copyFrom 65 = .ok (.return_, 1) := by decide +kernel
theorem dX1_ropeOf_0 : decode cX1_ropeOf 0 = .ok (.iload_n 1, 1) := by decide +kernel
theorem dX1_ropeOf_1 : decode cX1_ropeOf 1 = .ok (.ifCond .lt 18, 3) := by decide +kernel
theorem dX1_ropeOf_4 : decode cX1_ropeOf 4 = .ok (.iload_n 1, 1) := by decide +kernel
theorem dX1_ropeOf_5 : decode cX1_ropeOf 5 = .ok (.bipush 6, 2) := by decide +kernel
theorem dX1_ropeOf_7 : decode cX1_ropeOf 7 = .ok (.if_icmp .ge 12, 3) := by decide +kernel
theorem dX1_ropeOf_10 : decode cX1_ropeOf 10 = .ok (.aload_n 0, 1) := by decide +kernel
theorem dX1_ropeOf_11 : decode cX1_ropeOf 11 = .ok (.getfield 18, 3) := by decide +kernel
theorem dX1_ropeOf_14 : decode cX1_ropeOf 14 = .ok (.iload_n 1, 1) := by decide +kernel
theorem dX1_ropeOf_15 : decode cX1_ropeOf 15 = .ok (.iaload, 1) := by decide +kernel
theorem dX1_ropeOf_16 : decode cX1_ropeOf 16 = .ok (.goto 4, 3) := by decide +kernel
theorem dX1_ropeOf_19 : decode cX1_ropeOf 19 = .ok (.iconst (-1), 1) := by decide +kernel
theorem dX1_ropeOf_20 : decode cX1_ropeOf 20 = .ok (.ireturn, 1) := by decide +kernel
theorem dX1_tirednessOf_0 : decode cX1_tirednessOf 0 = .ok (.iload_n 1, 1) := by decide +kernel
theorem dX1_tirednessOf_1 : decode cX1_tirednessOf 1 = .ok (.ifCond .lt 18, 3) := by decide +kernel
theorem dX1_tirednessOf_4 : decode cX1_tirednessOf 4 = .ok (.iload_n 1, 1) := by decide +kernel
theorem dX1_tirednessOf_5 : decode cX1_tirednessOf 5 = .ok (.bipush 6, 2) := by decide +kernel
theorem dX1_tirednessOf_7 : decode cX1_tirednessOf 7 = .ok (.if_icmp .ge 12, 3) := by decide +kernel
theorem dX1_tirednessOf_10 : decode cX1_tirednessOf 10 = .ok (.aload_n 0, 1) := by decide +kernel
theorem dX1_tirednessOf_11 : decode cX1_tirednessOf 11 = .ok (.getfield 22, 3) := by decide +kernel
theorem dX1_tirednessOf_14 : decode cX1_tirednessOf 14 = .ok (.iload_n 1, 1) := by decide +kernel
theorem dX1_tirednessOf_15 : decode cX1_tirednessOf 15 = .ok (.iaload, 1) := by decide +kernel
theorem dX1_tirednessOf_16 : decode cX1_tirednessOf 16 = .ok (.goto 4, 3) := by decide +kernel
theorem dX1_tirednessOf_19 : decode cX1_tirednessOf 19 = .ok (.iconst 0, 1) := by decide +kernel
theorem dX1_tirednessOf_20 : decode cX1_tirednessOf 20 = .ok (.ireturn, 1) := by decide +kernel
theorem dX1_isOut_0 : decode cX1_isOut 0 = .ok (.aload_n 0, 1) := by decide +kernel
theorem dX1_isOut_1 : decode cX1_isOut 1 = .ok (.getfield 33, 3) := by decide +kernel
theorem dX1_isOut_4 : decode cX1_isOut 4 = .ok (.iload_n 1, 1) := by decide +kernel
theorem dX1_isOut_5 : decode cX1_isOut 5 = .ok (.ishr, 1) := by decide +kernel
theorem dX1_isOut_6 : decode cX1_isOut 6 = .ok (.iconst 1, 1) := by decide +kernel
theorem dX1_isOut_7 : decode cX1_isOut 7 = .ok (.iand, 1) := by decide +kernel
theorem dX1_isOut_8 : decode cX1_isOut 8 = .ok (.ifCond .eq 7, 3) := by decide +kernel
theorem dX1_isOut_11 : decode cX1_isOut 11 = .ok (.iconst 1, 1) := by decide +kernel
theorem dX1_isOut_12 : decode cX1_isOut 12 = .ok (.goto 4, 3) := by decide +kernel
theorem dX1_isOut_15 : decode cX1_isOut 15 = .ok (.iconst 0, 1) := by decide +kernel
theorem dX1_isOut_16 : decode cX1_isOut 16 = .ok (.ireturn, 1) := by decide +kernel
theorem dX1_suitorOf_0 : decode cX1_suitorOf 0 = .ok (.iconst 0, 1) := by decide +kernel
theorem dX1_suitorOf_1 : decode cX1_suitorOf 1 = .ok (.istore_n 3, 1) := by decide +kernel
theorem dX1_suitorOf_2 : decode cX1_suitorOf 2 = .ok (.iload_n 3, 1) := by decide +kernel
theorem dX1_suitorOf_3 : decode cX1_suitorOf 3 = .ok (.aload_n 2, 1) := by decide +kernel
theorem dX1_suitorOf_4 : decode cX1_suitorOf 4 = .ok (.getfield 59, 3) := by decide +kernel
theorem dX1_suitorOf_7 : decode cX1_suitorOf 7 = .ok (.if_icmp .ge 20, 3) := by decide +kernel
theorem dX1_suitorOf_10 : decode cX1_suitorOf 10 = .ok (.aload_n 0, 1) := by decide +kernel
theorem dX1_suitorOf_11 : decode cX1_suitorOf 11 = .ok (.iload_n 3, 1) := by decide +kernel
theorem dX1_suitorOf_12 : decode cX1_suitorOf 12 = .ok (.invokevirtual 64, 3) := by decide +kernel
theorem dX1_suitorOf_15 : decode cX1_suitorOf 15 = .ok (.iload_n 1, 1) := by decide +kernel
theorem dX1_suitorOf_16 : decode cX1_suitorOf 16 = .ok (.if_icmp .ne 5, 3) := by decide +kernel
theorem dX1_suitorOf_19 : decode cX1_suitorOf 19 = .ok (.iload_n 3, 1) := by decide +kernel
theorem dX1_suitorOf_20 : decode cX1_suitorOf 20 = .ok (.ireturn, 1) := by decide +kernel
theorem dX1_suitorOf_21 : decode cX1_suitorOf 21 = .ok (.iinc 3 1, 3) := by decide +kernel
theorem dX1_suitorOf_24 : decode cX1_suitorOf 24 = .ok (.goto (-22), 3) := by decide +kernel
theorem dX1_suitorOf_27 : decode cX1_suitorOf 27 = .ok (.iconst (-1), 1) := by decide +kernel
theorem dX1_suitorOf_28 : decode cX1_suitorOf 28 = .ok (.ireturn, 1) := by decide +kernel
theorem dX1_changeRopes_0 : decode cX1_changeRopes 0 = .ok (.iload_n 1, 1) := by decide +kernel
theorem dX1_changeRopes_1 : decode cX1_changeRopes 1 = .ok (.ifCond .lt 45, 3) := by decide +kernel
theorem dX1_changeRopes_4 : decode cX1_changeRopes 4 = .ok (.iload_n 1, 1) := by decide +kernel
theorem dX1_changeRopes_5 : decode cX1_changeRopes 5 = .ok (.bipush 6, 2) := by decide +kernel
theorem dX1_changeRopes_7 : decode cX1_changeRopes 7 = .ok (.if_icmp .ge 39, 3) := by decide +kernel
theorem dX1_changeRopes_10 : decode cX1_changeRopes 10 = .ok (.iload_n 2, 1) := by decide +kernel
theorem dX1_changeRopes_11 : decode cX1_changeRopes 11 = .ok (.ifCond .lt 35, 3) := by decide +kernel
theorem dX1_changeRopes_14 : decode cX1_changeRopes 14 = .ok (.iload_n 2, 1) := by decide +kernel
theorem dX1_changeRopes_15 : decode cX1_changeRopes 15 = .ok (.bipush 6, 2) := by decide +kernel
theorem dX1_changeRopes_17 : decode cX1_changeRopes 17 = .ok (.if_icmp .ge 29, 3) := by decide +kernel
theorem dX1_changeRopes_20 : decode cX1_changeRopes 20 = .ok (.aload_n 0, 1) := by decide +kernel
theorem dX1_changeRopes_21 : decode cX1_changeRopes 21 = .ok (.getfield 18, 3) := by decide +kernel
theorem dX1_changeRopes_24 : decode cX1_changeRopes 24 = .ok (.iload_n 1, 1) := by decide +kernel
theorem dX1_changeRopes_25 : decode cX1_changeRopes 25 = .ok (.iaload, 1) := by decide +kernel
theorem dX1_changeRopes_26 : decode cX1_changeRopes 26 = .ok (.istore_n 3, 1) := by decide +kernel
theorem dX1_changeRopes_27 : decode cX1_changeRopes 27 = .ok (.aload_n 0, 1) := by decide +kernel
theorem dX1_changeRopes_28 : decode cX1_changeRopes 28 = .ok (.getfield 18, 3) := by decide +kernel
theorem dX1_changeRopes_31 : decode cX1_changeRopes 31 = .ok (.iload_n 1, 1) := by decide +kernel
theorem dX1_changeRopes_32 : decode cX1_changeRopes 32 = .ok (.aload_n 0, 1) := by decide +kernel
theorem dX1_changeRopes_33 : decode cX1_changeRopes 33 = .ok (.getfield 18, 3) := by decide +kernel
theorem dX1_changeRopes_36 : decode cX1_changeRopes 36 = .ok (.iload_n 2, 1) := by decide +kernel
theorem dX1_changeRopes_37 : decode cX1_changeRopes 37 = .ok (.iaload, 1) := by decide +kernel
theorem dX1_changeRopes_38 : decode cX1_changeRopes 38 = .ok (.iastore, 1) := by decide +kernel
theorem dX1_changeRopes_39 : decode cX1_changeRopes 39 = .ok (.aload_n 0, 1) := by decide +kernel
theorem dX1_changeRopes_40 : decode cX1_changeRopes 40 = .ok (.getfield 18, 3) := by decide +kernel
theorem dX1_changeRopes_43 : decode cX1_changeRopes 43 = .ok (.iload_n 2, 1) := by decide +kernel
theorem dX1_changeRopes_44 : decode cX1_changeRopes 44 = .ok (.iload_n 3, 1) := by decide +kernel
theorem dX1_changeRopes_45 : decode cX1_changeRopes 45 = .ok (.iastore, 1) := by decide +kernel
theorem dX1_changeRopes_46 : decode cX1_changeRopes 46 = .ok (.return_, 1) := by decide +kernel
theorem dX1_ringNext_0 : decode cX1_ringNext 0 = .ok (.aload_n 0, 1) := by decide +kernel
theorem dX1_ringNext_1 : decode cX1_ringNext 1 = .ok (.getfield 12, 3) := by decide +kernel
theorem dX1_ringNext_4 : decode cX1_ringNext 4 = .ok (.aload_n 1, 1) := by decide +kernel
theorem dX1_ringNext_5 : decode cX1_ringNext 5 = .ok (.invokevirtual 68, 3) := by decide +kernel
theorem dX1_ringNext_8 : decode cX1_ringNext 8 = .ok (.aload_n 0, 1) := by decide +kernel
theorem dX1_ringNext_9 : decode cX1_ringNext 9 = .ok (.dup, 1) := by decide +kernel
theorem dX1_ringNext_10 : decode cX1_ringNext 10 = .ok (.getfield 29, 3) := by decide +kernel
theorem dX1_ringNext_13 : decode cX1_ringNext 13 = .ok (.iconst 1, 1) := by decide +kernel
theorem dX1_ringNext_14 : decode cX1_ringNext 14 = .ok (.iadd, 1) := by decide +kernel
theorem dX1_ringNext_15 : decode cX1_ringNext 15 = .ok (.putfield 29, 3) := by decide +kernel
theorem dX1_ringNext_18 : decode cX1_ringNext 18 = .ok (.aload_n 0, 1) := by decide +kernel
theorem dX1_ringNext_19 : decode cX1_ringNext 19 = .ok (.aload_n 1, 1) := by decide +kernel
theorem dX1_ringNext_20 : decode cX1_ringNext 20 = .ok (.invokevirtual 71, 3) := by decide +kernel
theorem dX1_ringNext_23 : decode cX1_ringNext 23 = .ok (.aload_n 0, 1) := by decide +kernel
theorem dX1_ringNext_24 : decode cX1_ringNext 24 = .ok (.getfield 12, 3) := by decide +kernel
theorem dX1_ringNext_27 : decode cX1_ringNext 27 = .ok (.invokevirtual 74, 3) := by decide +kernel
theorem dX1_ringNext_30 : decode cX1_ringNext 30 = .ok (.ifCond .eq 19, 3) := by decide +kernel
theorem dX1_ringNext_33 : decode cX1_ringNext 33 = .ok (.aload_n 0, 1) := by decide +kernel
theorem dX1_ringNext_34 : decode cX1_ringNext 34 = .ok (.aload_n 0, 1) := by decide +kernel
theorem dX1_ringNext_35 : decode cX1_ringNext 35 = .ok (.aload_n 0, 1) := by decide +kernel
theorem dX1_ringNext_36 : decode cX1_ringNext 36 = .ok (.getfield 12, 3) := by decide +kernel
theorem dX1_ringNext_39 : decode cX1_ringNext 39 = .ok (.getfield 78, 3) := by decide +kernel
theorem dX1_ringNext_42 : decode cX1_ringNext 42 = .ok (.aload_n 1, 1) := by decide +kernel
theorem dX1_ringNext_43 : decode cX1_ringNext 43 = .ok (.invokevirtual 81, 3) := by decide +kernel
theorem dX1_ringNext_46 : decode cX1_ringNext 46 = .ok (.invokevirtual 85, 3) := by decide +kernel
theorem dX1_ringNext_49 : decode cX1_ringNext 49 = .ok (.return_, 1) := by decide +kernel
theorem dX1_tireAll_0 : decode cX1_tireAll 0 = .ok (.aload_n 0, 1) := by decide +kernel
theorem dX1_tireAll_1 : decode cX1_tireAll 1 = .ok (.getfield 36, 3) := by decide +kernel
theorem dX1_tireAll_4 : decode cX1_tireAll 4 = .ok (.ifCond .eq 7, 3) := by decide +kernel
theorem dX1_tireAll_7 : decode cX1_tireAll 7 = .ok (.iconst 1, 1) := by decide +kernel
theorem dX1_tireAll_8 : decode cX1_tireAll 8 = .ok (.goto 4, 3) := by decide +kernel
theorem dX1_tireAll_11 : decode cX1_tireAll 11 = .ok (.iconst 0, 1) := by decide +kernel
theorem dX1_tireAll_12 : decode cX1_tireAll 12 = .ok (.istore_n 2, 1) := by decide +kernel
theorem dX1_tireAll_13 : decode cX1_tireAll 13 = .ok (.iconst 0, 1) := by decide +kernel
theorem dX1_tireAll_14 : decode cX1_tireAll 14 = .ok (.istore_n 3, 1) := by decide +kernel
theorem dX1_tireAll_15 : decode cX1_tireAll 15 = .ok (.iload_n 3, 1) := by decide +kernel
theorem dX1_tireAll_16 : decode cX1_tireAll 16 = .ok (.aload_n 1, 1) := by decide +kernel
theorem dX1_tireAll_17 : decode cX1_tireAll 17 = .ok (.getfield 59, 3) := by decide +kernel
theorem dX1_tireAll_20 : decode cX1_tireAll 20 = .ok (.if_icmp .ge 54, 3) := by decide +kernel
theorem dX1_tireAll_23 : decode cX1_tireAll 23 = .ok (.iload_n 3, 1) := by decide +kernel
theorem dX1_tireAll_24 : decode cX1_tireAll 24 = .ok (.bipush 6, 2) := by decide +kernel
theorem dX1_tireAll_26 : decode cX1_tireAll 26 = .ok (.if_icmp .ge 48, 3) := by decide +kernel
theorem dX1_tireAll_29 : decode cX1_tireAll 29 = .ok (.aload_n 0, 1) := by decide +kernel
theorem dX1_tireAll_30 : decode cX1_tireAll 30 = .ok (.iload_n 3, 1) := by decide +kernel
theorem dX1_tireAll_31 : decode cX1_tireAll 31 = .ok (.invokevirtual 89, 3) := by decide +kernel
theorem dX1_tireAll_34 : decode cX1_tireAll 34 = .ok (.ifCond .ne 34, 3) := by decide +kernel
theorem dX1_tireAll_37 : decode cX1_tireAll 37 = .ok (.aload_n 0, 1) := by decide +kernel
theorem dX1_tireAll_38 : decode cX1_tireAll 38 = .ok (.getfield 22, 3) := by decide +kernel
theorem dX1_tireAll_41 : decode cX1_tireAll 41 = .ok (.iload_n 3, 1) := by decide +kernel
theorem dX1_tireAll_42 : decode cX1_tireAll 42 = .ok (.sipush 9999, 3) := by decide +kernel
theorem dX1_tireAll_45 : decode cX1_tireAll 45 = .ok (.aload_n 0, 1) := by decide +kernel
theorem dX1_tireAll_46 : decode cX1_tireAll 46 = .ok (.getfield 22, 3) := by decide +kernel
theorem dX1_tireAll_49 : decode cX1_tireAll 49 = .ok (.iload_n 3, 1) := by decide +kernel
theorem dX1_tireAll_50 : decode cX1_tireAll 50 = .ok (.iaload, 1) := by decide +kernel
theorem dX1_tireAll_51 : decode cX1_tireAll 51 = .ok (.aload_n 1, 1) := by decide +kernel
theorem dX1_tireAll_52 : decode cX1_tireAll 52 = .ok (.iload_n 3, 1) := by decide +kernel
theorem dX1_tireAll_53 : decode cX1_tireAll 53 = .ok (.aload_n 0, 1) := by decide +kernel
theorem dX1_tireAll_54 : decode cX1_tireAll 54 = .ok (.iload_n 3, 1) := by decide +kernel
theorem dX1_tireAll_55 : decode cX1_tireAll 55 = .ok (.invokevirtual 64, 3) := by decide +kernel
theorem dX1_tireAll_58 : decode cX1_tireAll 58 = .ok (.invokevirtual 93, 3) := by decide +kernel
theorem dX1_tireAll_61 : decode cX1_tireAll 61 = .ok (.iadd, 1) := by decide +kernel
theorem dX1_tireAll_62 : decode cX1_tireAll 62 = .ok (.iload_n 2, 1) := by decide +kernel
theorem dX1_tireAll_63 : decode cX1_tireAll 63 = .ok (.iadd, 1) := by decide +kernel
theorem dX1_tireAll_64 : decode cX1_tireAll 64 = .ok (.invokestatic 97, 3) := by decide +kernel
theorem dX1_tireAll_67 : decode cX1_tireAll 67 = .ok (.iastore, 1) := by decide +kernel
theorem dX1_tireAll_68 : decode cX1_tireAll 68 = .ok (.iinc 3 1, 3) := by decide +kernel
theorem dX1_tireAll_71 : decode cX1_tireAll 71 = .ok (.goto (-56), 3) := by decide +kernel
theorem dX1_tireAll_74 : decode cX1_tireAll 74 = .ok (.return_, 1) := by decide +kernel
theorem dX1_sendOut_0 : decode cX1_sendOut 0 = .ok (.iload_n 1, 1) := by decide +kernel
theorem dX1_sendOut_1 : decode cX1_sendOut 1 = .ok (.iconst (-1), 1) := by decide +kernel
theorem dX1_sendOut_2 : decode cX1_sendOut 2 = .ok (.if_icmp .eq 15, 3) := by decide +kernel
theorem dX1_sendOut_5 : decode cX1_sendOut 5 = .ok (.aload_n 0, 1) := by decide +kernel
theorem dX1_sendOut_6 : decode cX1_sendOut 6 = .ok (.dup, 1) := by decide +kernel
theorem dX1_sendOut_7 : decode cX1_sendOut 7 = .ok (.getfield 33, 3) := by decide +kernel
theorem dX1_sendOut_10 : decode cX1_sendOut 10 = .ok (.iconst 1, 1) := by decide +kernel
theorem dX1_sendOut_11 : decode cX1_sendOut 11 = .ok (.iload_n 1, 1) := by decide +kernel
theorem dX1_sendOut_12 : decode cX1_sendOut 12 = .ok (.ishl, 1) := by decide +kernel
theorem dX1_sendOut_13 : decode cX1_sendOut 13 = .ok (.ior, 1) := by decide +kernel
theorem dX1_sendOut_14 : decode cX1_sendOut 14 = .ok (.putfield 33, 3) := by decide +kernel
theorem dX1_sendOut_17 : decode cX1_sendOut 17 = .ok (.return_, 1) := by decide +kernel
theorem dX1_loserBy_0 : decode cX1_loserBy 0 = .ok (.aload_n 0, 1) := by decide +kernel
theorem dX1_loserBy_1 : decode cX1_loserBy 1 = .ok (.iload_n 1, 1) := by decide +kernel
theorem dX1_loserBy_2 : decode cX1_loserBy 2 = .ok (.aload_n 2, 1) := by decide +kernel
theorem dX1_loserBy_3 : decode cX1_loserBy 3 = .ok (.getfield 102, 3) := by decide +kernel
theorem dX1_loserBy_6 : decode cX1_loserBy 6 = .ok (.iconst 1, 1) := by decide +kernel
theorem dX1_loserBy_7 : decode cX1_loserBy 7 = .ok (.isub, 1) := by decide +kernel
theorem dX1_loserBy_8 : decode cX1_loserBy 8 = .ok (.invokestatic 105, 3) := by decide +kernel
theorem dX1_loserBy_11 : decode cX1_loserBy 11 = .ok (.aload_n 2, 1) := by decide +kernel
theorem dX1_loserBy_12 : decode cX1_loserBy 12 = .ok (.invokevirtual 110, 3) := by decide +kernel
theorem dX1_loserBy_15 : decode cX1_loserBy 15 = .ok (.istore_n 3, 1) := by decide +kernel
theorem dX1_loserBy_16 : decode cX1_loserBy 16 = .ok (.iload_n 3, 1) := by decide +kernel
theorem dX1_loserBy_17 : decode cX1_loserBy 17 = .ok (.iconst (-1), 1) := by decide +kernel
theorem dX1_loserBy_18 : decode cX1_loserBy 18 = .ok (.if_icmp .eq 24, 3) := by decide +kernel
theorem dX1_loserBy_21 : decode cX1_loserBy 21 = .ok (.aload_n 0, 1) := by decide +kernel
theorem dX1_loserBy_22 : decode cX1_loserBy 22 = .ok (.iload_n 3, 1) := by decide +kernel
theorem dX1_loserBy_23 : decode cX1_loserBy 23 = .ok (.invokevirtual 89, 3) := by decide +kernel
theorem dX1_loserBy_26 : decode cX1_loserBy 26 = .ok (.ifCond .ne 16, 3) := by decide +kernel
theorem dX1_loserBy_29 : decode cX1_loserBy 29 = .ok (.aload_n 0, 1) := by decide +kernel
theorem dX1_loserBy_30 : decode cX1_loserBy 30 = .ok (.aload_n 2, 1) := by decide +kernel
theorem dX1_loserBy_31 : decode cX1_loserBy 31 = .ok (.invokevirtual 113, 3) := by decide +kernel
theorem dX1_loserBy_34 : decode cX1_loserBy 34 = .ok (.iconst 2, 1) := by decide +kernel
theorem dX1_loserBy_35 : decode cX1_loserBy 35 = .ok (.if_icmp .lt 7, 3) := by decide +kernel
theorem dX1_loserBy_38 : decode cX1_loserBy 38 = .ok (.iconst 1, 1) := by decide +kernel
theorem dX1_loserBy_39 : decode cX1_loserBy 39 = .ok (.goto 4, 3) := by decide +kernel
theorem dX1_loserBy_42 : decode cX1_loserBy 42 = .ok (.iconst 0, 1) := by decide +kernel
theorem dX1_loserBy_43 : decode cX1_loserBy 43 = .ok (.istore 4, 2) := by decide +kernel
theorem dX1_loserBy_45 : decode cX1_loserBy 45 = .ok (.iload 4, 2) := by decide +kernel
theorem dX1_loserBy_47 : decode cX1_loserBy 47 = .ok (.ifCond .eq 7, 3) := by decide +kernel
theorem dX1_loserBy_50 : decode cX1_loserBy 50 = .ok (.iload_n 3, 1) := by decide +kernel
theorem dX1_loserBy_51 : decode cX1_loserBy 51 = .ok (.goto 4, 3) := by decide +kernel
theorem dX1_loserBy_54 : decode cX1_loserBy 54 = .ok (.iconst (-1), 1) := by decide +kernel
theorem dX1_loserBy_55 : decode cX1_loserBy 55 = .ok (.ireturn, 1) := by decide +kernel
theorem dX1_stillIn_0 : decode cX1_stillIn 0 = .ok (.aload_n 1, 1) := by decide +kernel
theorem dX1_stillIn_1 : decode cX1_stillIn 1 = .ok (.getfield 59, 3) := by decide +kernel
theorem dX1_stillIn_4 : decode cX1_stillIn 4 = .ok (.aload_n 0, 1) := by decide +kernel
theorem dX1_stillIn_5 : decode cX1_stillIn 5 = .ok (.getfield 33, 3) := by decide +kernel
theorem dX1_stillIn_8 : decode cX1_stillIn 8 = .ok (.invokestatic 117, 3) := by decide +kernel
theorem dX1_stillIn_11 : decode cX1_stillIn 11 = .ok (.isub, 1) := by decide +kernel
theorem dX1_stillIn_12 : decode cX1_stillIn 12 = .ok (.ireturn, 1) := by decide +kernel
theorem dX1_wed_0 : decode cX1_wed 0 = .ok (.aload_n 1, 1) := by decide +kernel
theorem dX1_wed_1 : decode cX1_wed 1 = .ok (.getfield 59, 3) := by decide +kernel
theorem dX1_wed_4 : decode cX1_wed 4 = .ok (.iconst 2, 1) := by decide +kernel
theorem dX1_wed_5 : decode cX1_wed 5 = .ok (.if_icmp .lt 12, 3) := by decide +kernel
theorem dX1_wed_8 : decode cX1_wed 8 = .ok (.aload_n 0, 1) := by decide +kernel
theorem dX1_wed_9 : decode cX1_wed 9 = .ok (.aload_n 1, 1) := by decide +kernel
theorem dX1_wed_10 : decode cX1_wed 10 = .ok (.invokevirtual 113, 3) := by decide +kernel
theorem dX1_wed_13 : decode cX1_wed 13 = .ok (.iconst 1, 1) := by decide +kernel
theorem dX1_wed_14 : decode cX1_wed 14 = .ok (.if_icmp .eq 5, 3) := by decide +kernel
theorem dX1_wed_17 : decode cX1_wed 17 = .ok (.iconst (-1), 1) := by decide +kernel
theorem dX1_wed_18 : decode cX1_wed 18 = .ok (.ireturn, 1) := by decide +kernel
theorem dX1_wed_19 : decode cX1_wed 19 = .ok (.iconst 0, 1) := by decide +kernel
theorem dX1_wed_20 : decode cX1_wed 20 = .ok (.istore_n 2, 1) := by decide +kernel
theorem dX1_wed_21 : decode cX1_wed 21 = .ok (.iload_n 2, 1) := by decide +kernel
theorem dX1_wed_22 : decode cX1_wed 22 = .ok (.aload_n 1, 1) := by decide +kernel
theorem dX1_wed_23 : decode cX1_wed 23 = .ok (.getfield 59, 3) := by decide +kernel
theorem dX1_wed_26 : decode cX1_wed 26 = .ok (.if_icmp .ge 19, 3) := by decide +kernel
theorem dX1_wed_29 : decode cX1_wed 29 = .ok (.aload_n 0, 1) := by decide +kernel
theorem dX1_wed_30 : decode cX1_wed 30 = .ok (.iload_n 2, 1) := by decide +kernel
theorem dX1_wed_31 : decode cX1_wed 31 = .ok (.invokevirtual 89, 3) := by decide +kernel
theorem dX1_wed_34 : decode cX1_wed 34 = .ok (.ifCond .ne 5, 3) := by decide +kernel
theorem dX1_wed_37 : decode cX1_wed 37 = .ok (.iload_n 2, 1) := by decide +kernel
theorem dX1_wed_38 : decode cX1_wed 38 = .ok (.ireturn, 1) := by decide +kernel
theorem dX1_wed_39 : decode cX1_wed 39 = .ok (.iinc 2 1, 3) := by decide +kernel
theorem dX1_wed_42 : decode cX1_wed 42 = .ok (.goto (-21), 3) := by decide +kernel
theorem dX1_wed_45 : decode cX1_wed 45 = .ok (.iconst (-1), 1) := by decide +kernel
theorem dX1_wed_46 : decode cX1_wed 46 = .ok (.ireturn, 1) := by decide +kernel
theorem dX2_init_0 : decode cX2_init 0 = .ok (.aload_n 0, 1) := by decide +kernel
theorem dX2_init_1 : decode cX2_init 1 = .ok (.invokespecial 3, 3) := by decide +kernel
theorem dX2_init_4 : decode cX2_init 4 = .ok (.aload_n 0, 1) := by decide +kernel
theorem dX2_init_5 : decode cX2_init 5 = .ok (.bipush 15, 2) := by decide +kernel
theorem dX2_init_7 : decode cX2_init 7 = .ok (.newarray .int, 2) := by decide +kernel
theorem dX2_init_9 : decode cX2_init 9 = .ok (.putfield 9, 3) := by decide +kernel
theorem dX2_init_12 : decode cX2_init 12 = .ok (.aload_n 0, 1) := by decide +kernel
theorem dX2_init_13 : decode cX2_init 13 = .ok (.bipush 15, 2) := by decide +kernel
theorem dX2_init_15 : decode cX2_init 15 = .ok (.newarray .int, 2) := by decide +kernel
theorem dX2_init_17 : decode cX2_init 17 = .ok (.putfield 15, 3) := by decide +kernel
theorem dX2_init_20 : decode cX2_init 20 = .ok (.return_, 1) := by decide +kernel
theorem dX2_empty_0 : decode cX2_empty 0 = .ok (.aload_n 0, 1) := by decide +kernel
theorem dX2_empty_1 : decode cX2_empty 1 = .ok (.iconst 0, 1) := by decide +kernel
theorem dX2_empty_2 : decode cX2_empty 2 = .ok (.putfield 18, 3) := by decide +kernel
theorem dX2_empty_5 : decode cX2_empty 5 = .ok (.aload_n 0, 1) := by decide +kernel
theorem dX2_empty_6 : decode cX2_empty 6 = .ok (.iconst 0, 1) := by decide +kernel
theorem dX2_empty_7 : decode cX2_empty 7 = .ok (.putfield 22, 3) := by decide +kernel
theorem dX2_empty_10 : decode cX2_empty 10 = .ok (.aload_n 0, 1) := by decide +kernel
theorem dX2_empty_11 : decode cX2_empty 11 = .ok (.aload_n 1, 1) := by decide +kernel
theorem dX2_empty_12 : decode cX2_empty 12 = .ok (.invokevirtual 25, 3) := by decide +kernel
theorem dX2_empty_15 : decode cX2_empty 15 = .ok (.ifCond .eq 10, 3) := by decide +kernel
theorem dX2_empty_18 : decode cX2_empty 18 = .ok (.aload_n 1, 1) := by decide +kernel
theorem dX2_empty_19 : decode cX2_empty 19 = .ok (.invokevirtual 31, 3) := by decide +kernel
theorem dX2_empty_22 : decode cX2_empty 22 = .ok (.goto 4, 3) := by decide +kernel
theorem dX2_empty_25 : decode cX2_empty 25 = .ok (.iconst 0, 1) := by decide +kernel
theorem dX2_empty_26 : decode cX2_empty 26 = .ok (.putfield 35, 3) := by decide +kernel
theorem dX2_empty_29 : decode cX2_empty 29 = .ok (.return_, 1) := by decide +kernel
theorem dX2_hearAs_0 : decode cX2_hearAs 0 = .ok (.aload_n 0, 1) := by decide +kernel
theorem dX2_hearAs_1 : decode cX2_hearAs 1 = .ok (.dup, 1) := by decide +kernel
theorem dX2_hearAs_2 : decode cX2_hearAs 2 = .ok (.getfield 18, 3) := by decide +kernel
theorem dX2_hearAs_5 : decode cX2_hearAs 5 = .ok (.iconst 1, 1) := by decide +kernel
theorem dX2_hearAs_6 : decode cX2_hearAs 6 = .ok (.iadd, 1) := by decide +kernel
theorem dX2_hearAs_7 : decode cX2_hearAs 7 = .ok (.putfield 18, 3) := by decide +kernel
theorem dX2_hearAs_10 : decode cX2_hearAs 10 = .ok (.iconst 0, 1) := by decide +kernel
theorem dX2_hearAs_11 : decode cX2_hearAs 11 = .ok (.istore 4, 2) := by decide +kernel
theorem dX2_hearAs_13 : decode cX2_hearAs 13 = .ok (.iload 4, 2) := by decide +kernel
theorem dX2_hearAs_15 : decode cX2_hearAs 15 = .ok (.aload_n 3, 1) := by decide +kernel
theorem dX2_hearAs_16 : decode cX2_hearAs 16 = .ok (.getfield 38, 3) := by decide +kernel
theorem dX2_hearAs_19 : decode cX2_hearAs 19 = .ok (.if_icmp .ge 38, 3) := by decide +kernel
theorem dX2_hearAs_22 : decode cX2_hearAs 22 = .ok (.iload_n 1, 1) := by decide +kernel
theorem dX2_hearAs_23 : decode cX2_hearAs 23 = .ok (.iload 4, 2) := by decide +kernel
theorem dX2_hearAs_25 : decode cX2_hearAs 25 = .ok (.aload_n 3, 1) := by decide +kernel
theorem dX2_hearAs_26 : decode cX2_hearAs 26 = .ok (.getfield 38, 3) := by decide +kernel
theorem dX2_hearAs_29 : decode cX2_hearAs 29 = .ok (.invokestatic 40, 3) := by decide +kernel
theorem dX2_hearAs_32 : decode cX2_hearAs 32 = .ok (.iload_n 2, 1) := by decide +kernel
theorem dX2_hearAs_33 : decode cX2_hearAs 33 = .ok (.if_icmp .eq 18, 3) := by decide +kernel
theorem dX2_hearAs_36 : decode cX2_hearAs 36 = .ok (.aload_n 0, 1) := by decide +kernel
theorem dX2_hearAs_37 : decode cX2_hearAs 37 = .ok (.dup, 1) := by decide +kernel
theorem dX2_hearAs_38 : decode cX2_hearAs 38 = .ok (.getfield 35, 3) := by decide +kernel
theorem dX2_hearAs_41 : decode cX2_hearAs 41 = .ok (.iconst 1, 1) := by decide +kernel
theorem dX2_hearAs_42 : decode cX2_hearAs 42 = .ok (.iload 4, 2) := by decide +kernel
theorem dX2_hearAs_44 : decode cX2_hearAs 44 = .ok (.ishl, 1) := by decide +kernel
theorem dX2_hearAs_45 : decode cX2_hearAs 45 = .ok (.iconst (-1), 1) := by decide +kernel
theorem dX2_hearAs_46 : decode cX2_hearAs 46 = .ok (.ixor, 1) := by decide +kernel
theorem dX2_hearAs_47 : decode cX2_hearAs 47 = .ok (.iand, 1) := by decide +kernel
theorem dX2_hearAs_48 : decode cX2_hearAs 48 = .ok (.putfield 35, 3) := by decide +kernel
theorem dX2_hearAs_51 : decode cX2_hearAs 51 = .ok (.iinc 4 1, 3) := by decide +kernel
theorem dX2_hearAs_54 : decode cX2_hearAs 54 = .ok (.goto (-41), 3) := by decide +kernel
theorem dX2_hearAs_57 : decode cX2_hearAs 57 = .ok (.return_, 1) := by decide +kernel
theorem dX2_enter_0 : decode cX2_enter 0 = .ok (.aload_n 0, 1) := by decide +kernel
theorem dX2_enter_1 : decode cX2_enter 1 = .ok (.getfield 22, 3) := by decide +kernel
theorem dX2_enter_4 : decode cX2_enter 4 = .ok (.bipush 15, 2) := by decide +kernel
theorem dX2_enter_6 : decode cX2_enter 6 = .ok (.if_icmp .lt 5, 3) := by decide +kernel
theorem dX2_enter_9 : decode cX2_enter 9 = .ok (.iconst 0, 1) := by decide +kernel
theorem dX2_enter_10 : decode cX2_enter 10 = .ok (.ireturn, 1) := by decide +kernel
theorem dX2_enter_11 : decode cX2_enter 11 = .ok (.aload_n 0, 1) := by decide +kernel
theorem dX2_enter_12 : decode cX2_enter 12 = .ok (.getfield 9, 3) := by decide +kernel
theorem dX2_enter_15 : decode cX2_enter 15 = .ok (.aload_n 0, 1) := by decide +kernel
theorem dX2_enter_16 : decode cX2_enter 16 = .ok (.getfield 22, 3) := by decide +kernel
theorem dX2_enter_19 : decode cX2_enter 19 = .ok (.iload_n 1, 1) := by decide +kernel
theorem dX2_enter_20 : decode cX2_enter 20 = .ok (.iastore, 1) := by decide +kernel
theorem dX2_enter_21 : decode cX2_enter 21 = .ok (.aload_n 0, 1) := by decide +kernel
theorem dX2_enter_22 : decode cX2_enter 22 = .ok (.getfield 15, 3) := by decide +kernel
theorem dX2_enter_25 : decode cX2_enter 25 = .ok (.aload_n 0, 1) := by decide +kernel
theorem dX2_enter_26 : decode cX2_enter 26 = .ok (.getfield 22, 3) := by decide +kernel
theorem dX2_enter_29 : decode cX2_enter 29 = .ok (.iload_n 2, 1) := by decide +kernel
theorem dX2_enter_30 : decode cX2_enter 30 = .ok (.iastore, 1) := by decide +kernel
theorem dX2_enter_31 : decode cX2_enter 31 = .ok (.aload_n 0, 1) := by decide +kernel
theorem dX2_enter_32 : decode cX2_enter 32 = .ok (.dup, 1) := by decide +kernel
theorem dX2_enter_33 : decode cX2_enter 33 = .ok (.getfield 22, 3) := by decide +kernel
theorem dX2_enter_36 : decode cX2_enter 36 = .ok (.iconst 1, 1) := by decide +kernel
theorem dX2_enter_37 : decode cX2_enter 37 = .ok (.iadd, 1) := by decide +kernel
theorem dX2_enter_38 : decode cX2_enter 38 = .ok (.putfield 22, 3) := by decide +kernel
theorem dX2_enter_41 : decode cX2_enter 41 = .ok (.iconst 1, 1) := by decide +kernel
theorem dX2_enter_42 : decode cX2_enter 42 = .ok (.ireturn, 1) := by decide +kernel
theorem dX2_firstWrong_0 : decode cX2_firstWrong 0 = .ok (.iconst 0, 1) := by decide +kernel
theorem dX2_firstWrong_1 : decode cX2_firstWrong 1 = .ok (.istore_n 3, 1) := by decide +kernel
theorem dX2_firstWrong_2 : decode cX2_firstWrong 2 = .ok (.iload_n 3, 1) := by decide +kernel
theorem dX2_firstWrong_3 : decode cX2_firstWrong 3 = .ok (.aload_n 0, 1) := by decide +kernel
theorem dX2_firstWrong_4 : decode cX2_firstWrong 4 = .ok (.getfield 22, 3) := by decide +kernel
theorem dX2_firstWrong_7 : decode cX2_firstWrong 7 = .ok (.if_icmp .ge 40, 3) := by decide +kernel
theorem dX2_firstWrong_10 : decode cX2_firstWrong 10 = .ok (.iload_n 3, 1) := by decide +kernel
theorem dX2_firstWrong_11 : decode cX2_firstWrong 11 = .ok (.bipush 15, 2) := by decide +kernel
theorem dX2_firstWrong_13 : decode cX2_firstWrong 13 = .ok (.if_icmp .ge 34, 3) := by decide +kernel
theorem dX2_firstWrong_16 : decode cX2_firstWrong 16 = .ok (.iload_n 1, 1) := by decide +kernel
theorem dX2_firstWrong_17 : decode cX2_firstWrong 17 = .ok (.aload_n 0, 1) := by decide +kernel
theorem dX2_firstWrong_18 : decode cX2_firstWrong 18 = .ok (.getfield 9, 3) := by decide +kernel
theorem dX2_firstWrong_21 : decode cX2_firstWrong 21 = .ok (.iload_n 3, 1) := by decide +kernel
theorem dX2_firstWrong_22 : decode cX2_firstWrong 22 = .ok (.iaload, 1) := by decide +kernel
theorem dX2_firstWrong_23 : decode cX2_firstWrong 23 = .ok (.aload_n 2, 1) := by decide +kernel
theorem dX2_firstWrong_24 : decode cX2_firstWrong 24 = .ok (.getfield 38, 3) := by decide +kernel
theorem dX2_firstWrong_27 : decode cX2_firstWrong 27 = .ok (.invokestatic 46, 3) := by decide +kernel
theorem dX2_firstWrong_30 : decode cX2_firstWrong 30 = .ok (.aload_n 0, 1) := by decide +kernel
theorem dX2_firstWrong_31 : decode cX2_firstWrong 31 = .ok (.getfield 15, 3) := by decide +kernel
theorem dX2_firstWrong_34 : decode cX2_firstWrong 34 = .ok (.iload_n 3, 1) := by decide +kernel
theorem dX2_firstWrong_35 : decode cX2_firstWrong 35 = .ok (.iaload, 1) := by decide +kernel
theorem dX2_firstWrong_36 : decode cX2_firstWrong 36 = .ok (.if_icmp .eq 5, 3) := by decide +kernel
theorem dX2_firstWrong_39 : decode cX2_firstWrong 39 = .ok (.iload_n 3, 1) := by decide +kernel
theorem dX2_firstWrong_40 : decode cX2_firstWrong 40 = .ok (.ireturn, 1) := by decide +kernel
theorem dX2_firstWrong_41 : decode cX2_firstWrong 41 = .ok (.iinc 3 1, 3) := by decide +kernel
theorem dX2_firstWrong_44 : decode cX2_firstWrong 44 = .ok (.goto (-42), 3) := by decide +kernel
theorem dX2_firstWrong_47 : decode cX2_firstWrong 47 = .ok (.iconst (-1), 1) := by decide +kernel
theorem dX2_firstWrong_48 : decode cX2_firstWrong 48 = .ok (.ireturn, 1) := by decide +kernel
theorem dX3_init_0 : decode cX3_init 0 = .ok (.aload_n 0, 1) := by decide +kernel
theorem dX3_init_1 : decode cX3_init 1 = .ok (.invokespecial 1, 3) := by decide +kernel
theorem dX3_init_4 : decode cX3_init 4 = .ok (.aload_n 0, 1) := by decide +kernel
theorem dX3_init_5 : decode cX3_init 5 = .ok (.bipush 16, 2) := by decide +kernel
theorem dX3_init_7 : decode cX3_init 7 = .ok (.anewarray 9, 3) := by decide +kernel
theorem dX3_init_10 : decode cX3_init 10 = .ok (.putfield 11, 3) := by decide +kernel
theorem dX3_init_13 : decode cX3_init 13 = .ok (.iconst 0, 1) := by decide +kernel
theorem dX3_init_14 : decode cX3_init 14 = .ok (.istore_n 1, 1) := by decide +kernel
theorem dX3_init_15 : decode cX3_init 15 = .ok (.iload_n 1, 1) := by decide +kernel
theorem dX3_init_16 : decode cX3_init 16 = .ok (.bipush 16, 2) := by decide +kernel
theorem dX3_init_18 : decode cX3_init 18 = .ok (.if_icmp .ge 22, 3) := by decide +kernel
theorem dX3_init_21 : decode cX3_init 21 = .ok (.aload_n 0, 1) := by decide +kernel
theorem dX3_init_22 : decode cX3_init 22 = .ok (.getfield 11, 3) := by decide +kernel
theorem dX3_init_25 : decode cX3_init 25 = .ok (.iload_n 1, 1) := by decide +kernel
theorem dX3_init_26 : decode cX3_init 26 = .ok (.new 9, 3) := by decide +kernel
theorem dX3_init_29 : decode cX3_init 29 = .ok (.dup, 1) := by decide +kernel
theorem dX3_init_30 : decode cX3_init 30 = .ok (.invokespecial 15, 3) := by decide +kernel
theorem dX3_init_33 : decode cX3_init 33 = .ok (.aastore, 1) := by decide +kernel
theorem dX3_init_34 : decode cX3_init 34 = .ok (.iinc 1 1, 3) := by decide +kernel
theorem dX3_init_37 : decode cX3_init 37 = .ok (.goto (-22), 3) := by decide +kernel
theorem dX3_init_40 : decode cX3_init 40 = .ok (.return_, 1) := by decide +kernel
theorem dX3_forget_0 : decode cX3_forget 0 = .ok (.aload_n 0, 1) := by decide +kernel
theorem dX3_forget_1 : decode cX3_forget 1 = .ok (.iconst 0, 1) := by decide +kernel
theorem dX3_forget_2 : decode cX3_forget 2 = .ok (.putfield 16, 3) := by decide +kernel
theorem dX3_forget_5 : decode cX3_forget 5 = .ok (.aload_n 0, 1) := by decide +kernel
theorem dX3_forget_6 : decode cX3_forget 6 = .ok (.iconst 0, 1) := by decide +kernel
theorem dX3_forget_7 : decode cX3_forget 7 = .ok (.putfield 20, 3) := by decide +kernel
theorem dX3_forget_10 : decode cX3_forget 10 = .ok (.return_, 1) := by decide +kernel
theorem dX3_remember_0 : decode cX3_remember 0 = .ok (.aload_n 0, 1) := by decide +kernel
theorem dX3_remember_1 : decode cX3_remember 1 = .ok (.getfield 11, 3) := by decide +kernel
theorem dX3_remember_4 : decode cX3_remember 4 = .ok (.aload_n 0, 1) := by decide +kernel
theorem dX3_remember_5 : decode cX3_remember 5 = .ok (.getfield 20, 3) := by decide +kernel
theorem dX3_remember_8 : decode cX3_remember 8 = .ok (.aaload, 1) := by decide +kernel
theorem dX3_remember_9 : decode cX3_remember 9 = .ok (.aload_n 1, 1) := by decide +kernel
theorem dX3_remember_10 : decode cX3_remember 10 = .ok (.invokevirtual 23, 3) := by decide +kernel
theorem dX3_remember_13 : decode cX3_remember 13 = .ok (.aload_n 0, 1) := by decide +kernel
theorem dX3_remember_14 : decode cX3_remember 14 = .ok (.aload_n 0, 1) := by decide +kernel
theorem dX3_remember_15 : decode cX3_remember 15 = .ok (.getfield 20, 3) := by decide +kernel
theorem dX3_remember_18 : decode cX3_remember 18 = .ok (.iconst 1, 1) := by decide +kernel
theorem dX3_remember_19 : decode cX3_remember 19 = .ok (.iadd, 1) := by decide +kernel
theorem dX3_remember_20 : decode cX3_remember 20 = .ok (.bipush 16, 2) := by decide +kernel
theorem dX3_remember_22 : decode cX3_remember 22 = .ok (.if_icmp .ge 12, 3) := by decide +kernel
theorem dX3_remember_25 : decode cX3_remember 25 = .ok (.aload_n 0, 1) := by decide +kernel
theorem dX3_remember_26 : decode cX3_remember 26 = .ok (.getfield 20, 3) := by decide +kernel
theorem dX3_remember_29 : decode cX3_remember 29 = .ok (.iconst 1, 1) := by decide +kernel
theorem dX3_remember_30 : decode cX3_remember 30 = .ok (.iadd, 1) := by decide +kernel
theorem dX3_remember_31 : decode cX3_remember 31 = .ok (.goto 4, 3) := by decide +kernel
theorem dX3_remember_34 : decode cX3_remember 34 = .ok (.iconst 0, 1) := by decide +kernel
theorem dX3_remember_35 : decode cX3_remember 35 = .ok (.putfield 20, 3) := by decide +kernel
theorem dX3_remember_38 : decode cX3_remember 38 = .ok (.aload_n 0, 1) := by decide +kernel
theorem dX3_remember_39 : decode cX3_remember 39 = .ok (.bipush 16, 2) := by decide +kernel
theorem dX3_remember_41 : decode cX3_remember 41 = .ok (.aload_n 0, 1) := by decide +kernel
theorem dX3_remember_42 : decode cX3_remember 42 = .ok (.getfield 16, 3) := by decide +kernel
theorem dX3_remember_45 : decode cX3_remember 45 = .ok (.iconst 1, 1) := by decide +kernel
theorem dX3_remember_46 : decode cX3_remember 46 = .ok (.iadd, 1) := by decide +kernel
theorem dX3_remember_47 : decode cX3_remember 47 = .ok (.invokestatic 27, 3) := by decide +kernel
theorem dX3_remember_50 : decode cX3_remember 50 = .ok (.putfield 16, 3) := by decide +kernel
theorem dX3_remember_53 : decode cX3_remember 53 = .ok (.return_, 1) := by decide +kernel
theorem dX3_restore_0 : decode cX3_restore 0 = .ok (.aload_n 0, 1) := by decide +kernel
theorem dX3_restore_1 : decode cX3_restore 1 = .ok (.getfield 16, 3) := by decide +kernel
theorem dX3_restore_4 : decode cX3_restore 4 = .ok (.ifCond .ne 5, 3) := by decide +kernel
theorem dX3_restore_7 : decode cX3_restore 7 = .ok (.iconst 0, 1) := by decide +kernel
theorem dX3_restore_8 : decode cX3_restore 8 = .ok (.ireturn, 1) := by decide +kernel
theorem dX3_restore_9 : decode cX3_restore 9 = .ok (.aload_n 0, 1) := by decide +kernel
theorem dX3_restore_10 : decode cX3_restore 10 = .ok (.aload_n 0, 1) := by decide +kernel
theorem dX3_restore_11 : decode cX3_restore 11 = .ok (.getfield 20, 3) := by decide +kernel
theorem dX3_restore_14 : decode cX3_restore 14 = .ok (.ifCond .le 12, 3) := by decide +kernel
theorem dX3_restore_17 : decode cX3_restore 17 = .ok (.aload_n 0, 1) := by decide +kernel
theorem dX3_restore_18 : decode cX3_restore 18 = .ok (.getfield 20, 3) := by decide +kernel
theorem dX3_restore_21 : decode cX3_restore 21 = .ok (.iconst 1, 1) := by decide +kernel
theorem dX3_restore_22 : decode cX3_restore 22 = .ok (.isub, 1) := by decide +kernel
theorem dX3_restore_23 : decode cX3_restore 23 = .ok (.goto 5, 3) := by decide +kernel
theorem dX3_restore_26 : decode cX3_restore 26 = .ok (.bipush 15, 2) := by decide +kernel
theorem dX3_restore_28 : decode cX3_restore 28 = .ok (.putfield 20, 3) := by decide +kernel
theorem dX3_restore_31 : decode cX3_restore 31 = .ok (.aload_n 0, 1) := by decide +kernel
theorem dX3_restore_32 : decode cX3_restore 32 = .ok (.dup, 1) := by decide +kernel
theorem dX3_restore_33 : decode cX3_restore 33 = .ok (.getfield 16, 3) := by decide +kernel
theorem dX3_restore_36 : decode cX3_restore 36 = .ok (.iconst 1, 1) := by decide +kernel
theorem dX3_restore_37 : decode cX3_restore 37 = .ok (.isub, 1) := by decide +kernel
theorem dX3_restore_38 : decode cX3_restore 38 = .ok (.putfield 16, 3) := by decide +kernel
theorem dX3_restore_41 : decode cX3_restore 41 = .ok (.aload_n 1, 1) := by decide +kernel
theorem dX3_restore_42 : decode cX3_restore 42 = .ok (.aload_n 0, 1) := by decide +kernel
theorem dX3_restore_43 : decode cX3_restore 43 = .ok (.getfield 11, 3) := by decide +kernel
theorem dX3_restore_46 : decode cX3_restore 46 = .ok (.aload_n 0, 1) := by decide +kernel
theorem dX3_restore_47 : decode cX3_restore 47 = .ok (.getfield 20, 3) := by decide +kernel
theorem dX3_restore_50 : decode cX3_restore 50 = .ok (.aaload, 1) := by decide +kernel
theorem dX3_restore_51 : decode cX3_restore 51 = .ok (.invokevirtual 23, 3) := by decide +kernel
theorem dX3_restore_54 : decode cX3_restore 54 = .ok (.iconst 1, 1) := by decide +kernel
theorem dX3_restore_55 : decode cX3_restore 55 = .ok (.ireturn, 1) := by decide +kernel
theorem dX4_init_0 : decode cX4_init 0 = .ok (.aload_n 0, 1) := by decide +kernel
theorem dX4_init_1 : decode cX4_init 1 = .ok (.invokespecial 3, 3) := by decide +kernel
theorem dX4_init_4 : decode cX4_init 4 = .ok (.aload_n 0, 1) := by decide +kernel
theorem dX4_init_5 : decode cX4_init 5 = .ok (.bipush 64, 2) := by decide +kernel
theorem dX4_init_7 : decode cX4_init 7 = .ok (.newarray .int, 2) := by decide +kernel
theorem dX4_init_9 : decode cX4_init 9 = .ok (.putfield 9, 3) := by decide +kernel
theorem dX4_init_12 : decode cX4_init 12 = .ok (.aload_n 0, 1) := by decide +kernel
theorem dX4_init_13 : decode cX4_init 13 = .ok (.bipush 6, 2) := by decide +kernel
theorem dX4_init_15 : decode cX4_init 15 = .ok (.newarray .int, 2) := by decide +kernel
theorem dX4_init_17 : decode cX4_init 17 = .ok (.putfield 15, 3) := by decide +kernel
theorem dX4_init_20 : decode cX4_init 20 = .ok (.return_, 1) := by decide +kernel
theorem dX4_share_0 : decode cX4_share 0 = .ok (.aload_n 0, 1) := by decide +kernel
theorem dX4_share_1 : decode cX4_share 1 = .ok (.getfield 9, 3) := by decide +kernel
theorem dX4_share_4 : decode cX4_share 4 = .ok (.iconst 0, 1) := by decide +kernel
theorem dX4_share_5 : decode cX4_share 5 = .ok (.iconst 0, 1) := by decide +kernel
theorem dX4_share_6 : decode cX4_share 6 = .ok (.iastore, 1) := by decide +kernel
theorem dX4_share_7 : decode cX4_share 7 = .ok (.iconst 1, 1) := by decide +kernel
theorem dX4_share_8 : decode cX4_share 8 = .ok (.istore_n 2, 1) := by decide +kernel
theorem dX4_share_9 : decode cX4_share 9 = .ok (.iload_n 2, 1) := by decide +kernel
theorem dX4_share_10 : decode cX4_share 10 = .ok (.iconst 1, 1) := by decide +kernel
theorem dX4_share_11 : decode cX4_share 11 = .ok (.aload_n 1, 1) := by decide +kernel
theorem dX4_share_12 : decode cX4_share 12 = .ok (.getfield 18, 3) := by decide +kernel
theorem dX4_share_15 : decode cX4_share 15 = .ok (.ishl, 1) := by decide +kernel
theorem dX4_share_16 : decode cX4_share 16 = .ok (.if_icmp .ge 48, 3) := by decide +kernel
theorem dX4_share_19 : decode cX4_share 19 = .ok (.iload_n 2, 1) := by decide +kernel
theorem dX4_share_20 : decode cX4_share 20 = .ok (.aload_n 0, 1) := by decide +kernel
theorem dX4_share_21 : decode cX4_share 21 = .ok (.getfield 9, 3) := by decide +kernel
theorem dX4_share_24 : decode cX4_share 24 = .ok (.arraylength, 1) := by decide +kernel
theorem dX4_share_25 : decode cX4_share 25 = .ok (.if_icmp .ge 39, 3) := by decide +kernel
theorem dX4_share_28 : decode cX4_share 28 = .ok (.aload_n 1, 1) := by decide +kernel
theorem dX4_share_29 : decode cX4_share 29 = .ok (.getfield 18, 3) := by decide +kernel
theorem dX4_share_32 : decode cX4_share 32 = .ok (.iload_n 2, 1) := by decide +kernel
theorem dX4_share_33 : decode cX4_share 33 = .ok (.invokestatic 24, 3) := by decide +kernel
theorem dX4_share_36 : decode cX4_share 36 = .ok (.isub, 1) := by decide +kernel
theorem dX4_share_37 : decode cX4_share 37 = .ok (.istore_n 3, 1) := by decide +kernel
theorem dX4_share_38 : decode cX4_share 38 = .ok (.aload_n 0, 1) := by decide +kernel
theorem dX4_share_39 : decode cX4_share 39 = .ok (.getfield 9, 3) := by decide +kernel
theorem dX4_share_42 : decode cX4_share 42 = .ok (.iload_n 2, 1) := by decide +kernel
theorem dX4_share_43 : decode cX4_share 43 = .ok (.aload_n 0, 1) := by decide +kernel
theorem dX4_share_44 : decode cX4_share 44 = .ok (.iload_n 3, 1) := by decide +kernel
theorem dX4_share_45 : decode cX4_share 45 = .ok (.aload_n 0, 1) := by decide +kernel
theorem dX4_share_46 : decode cX4_share 46 = .ok (.aload_n 1, 1) := by decide +kernel
theorem dX4_share_47 : decode cX4_share 47 = .ok (.iload_n 3, 1) := by decide +kernel
theorem dX4_share_48 : decode cX4_share 48 = .ok (.iload_n 2, 1) := by decide +kernel
theorem dX4_share_49 : decode cX4_share 49 = .ok (.invokevirtual 30, 3) := by decide +kernel
theorem dX4_share_52 : decode cX4_share 52 = .ok (.iload_n 2, 1) := by decide +kernel
theorem dX4_share_53 : decode cX4_share 53 = .ok (.aload_n 1, 1) := by decide +kernel
theorem dX4_share_54 : decode cX4_share 54 = .ok (.invokevirtual 34, 3) := by decide +kernel
theorem dX4_share_57 : decode cX4_share 57 = .ok (.iastore, 1) := by decide +kernel
theorem dX4_share_58 : decode cX4_share 58 = .ok (.iinc 2 1, 3) := by decide +kernel
theorem dX4_share_61 : decode cX4_share 61 = .ok (.goto (-52), 3) := by decide +kernel
theorem dX4_share_64 : decode cX4_share 64 = .ok (.aload_n 1, 1) := by decide +kernel
theorem dX4_share_65 : decode cX4_share 65 = .ok (.invokestatic 38, 3) := by decide +kernel
theorem dX4_share_68 : decode cX4_share 68 = .ok (.istore_n 2, 1) := by decide +kernel
theorem dX4_share_69 : decode cX4_share 69 = .ok (.iconst 0, 1) := by decide +kernel
theorem dX4_share_70 : decode cX4_share 70 = .ok (.istore_n 3, 1) := by decide +kernel
theorem dX4_share_71 : decode cX4_share 71 = .ok (.iload_n 3, 1) := by decide +kernel
theorem dX4_share_72 : decode cX4_share 72 = .ok (.aload_n 1, 1) := by decide +kernel
theorem dX4_share_73 : decode cX4_share 73 = .ok (.getfield 18, 3) := by decide +kernel
theorem dX4_share_76 : decode cX4_share 76 = .ok (.if_icmp .ge 41, 3) := by decide +kernel
theorem dX4_share_79 : decode cX4_share 79 = .ok (.iload_n 3, 1) := by decide +kernel
theorem dX4_share_80 : decode cX4_share 80 = .ok (.bipush 6, 2) := by decide +kernel
theorem dX4_share_82 : decode cX4_share 82 = .ok (.if_icmp .ge 35, 3) := by decide +kernel
theorem dX4_share_85 : decode cX4_share 85 = .ok (.aload_n 0, 1) := by decide +kernel
theorem dX4_share_86 : decode cX4_share 86 = .ok (.getfield 15, 3) := by decide +kernel
theorem dX4_share_89 : decode cX4_share 89 = .ok (.iload_n 3, 1) := by decide +kernel
theorem dX4_share_90 : decode cX4_share 90 = .ok (.aload_n 0, 1) := by decide +kernel
theorem dX4_share_91 : decode cX4_share 91 = .ok (.aload_n 1, 1) := by decide +kernel
theorem dX4_share_92 : decode cX4_share 92 = .ok (.iload_n 3, 1) := by decide +kernel
theorem dX4_share_93 : decode cX4_share 93 = .ok (.iload_n 2, 1) := by decide +kernel
theorem dX4_share_94 : decode cX4_share 94 = .ok (.invokevirtual 30, 3) := by decide +kernel
theorem dX4_share_97 : decode cX4_share 97 = .ok (.iastore, 1) := by decide +kernel
theorem dX4_share_98 : decode cX4_share 98 = .ok (.iload_n 2, 1) := by decide +kernel
theorem dX4_share_99 : decode cX4_share 99 = .ok (.iconst 1, 1) := by decide +kernel
theorem dX4_share_100 : decode cX4_share 100 = .ok (.aload_n 0, 1) := by decide +kernel
theorem dX4_share_101 : decode cX4_share 101 = .ok (.getfield 15, 3) := by decide +kernel
theorem dX4_share_104 : decode cX4_share 104 = .ok (.iload_n 3, 1) := by decide +kernel
theorem dX4_share_105 : decode cX4_share 105 = .ok (.iaload, 1) := by decide +kernel
theorem dX4_share_106 : decode cX4_share 106 = .ok (.ishl, 1) := by decide +kernel
theorem dX4_share_107 : decode cX4_share 107 = .ok (.iconst (-1), 1) := by decide +kernel
theorem dX4_share_108 : decode cX4_share 108 = .ok (.ixor, 1) := by decide +kernel
theorem dX4_share_109 : decode cX4_share 109 = .ok (.iand, 1) := by decide +kernel
theorem dX4_share_110 : decode cX4_share 110 = .ok (.istore_n 2, 1) := by decide +kernel
theorem dX4_share_111 : decode cX4_share 111 = .ok (.iinc 3 1, 3) := by decide +kernel
theorem dX4_share_114 : decode cX4_share 114 = .ok (.goto (-43), 3) := by decide +kernel
theorem dX4_share_117 : decode cX4_share 117 = .ok (.return_, 1) := by decide +kernel
theorem dX4_leastTogether_0 : decode cX4_leastTogether 0 = .ok (.aload_n 0, 1) := by decide +kernel
theorem dX4_leastTogether_1 : decode cX4_leastTogether 1 = .ok (.getfield 9, 3) := by decide +kernel
theorem dX4_leastTogether_4 : decode cX4_leastTogether 4 = .ok (.aload_n 1, 1) := by decide +kernel
theorem dX4_leastTogether_5 : decode cX4_leastTogether 5 = .ok (.invokestatic 38, 3) := by decide +kernel
theorem dX4_leastTogether_8 : decode cX4_leastTogether 8 = .ok (.iaload, 1) := by decide +kernel
theorem dX4_leastTogether_9 : decode cX4_leastTogether 9 = .ok (.ireturn, 1) := by decide +kernel
theorem dX4_bellFor_0 : decode cX4_bellFor 0 = .ok (.iload_n 1, 1) := by decide +kernel
theorem dX4_bellFor_1 : decode cX4_bellFor 1 = .ok (.ifCond .lt 18, 3) := by decide +kernel
theorem dX4_bellFor_4 : decode cX4_bellFor 4 = .ok (.iload_n 1, 1) := by decide +kernel
theorem dX4_bellFor_5 : decode cX4_bellFor 5 = .ok (.bipush 6, 2) := by decide +kernel
theorem dX4_bellFor_7 : decode cX4_bellFor 7 = .ok (.if_icmp .ge 12, 3) := by decide +kernel
theorem dX4_bellFor_10 : decode cX4_bellFor 10 = .ok (.aload_n 0, 1) := by decide +kernel
theorem dX4_bellFor_11 : decode cX4_bellFor 11 = .ok (.getfield 15, 3) := by decide +kernel
theorem dX4_bellFor_14 : decode cX4_bellFor 14 = .ok (.iload_n 1, 1) := by decide +kernel
theorem dX4_bellFor_15 : decode cX4_bellFor 15 = .ok (.iaload, 1) := by decide +kernel
theorem dX4_bellFor_16 : decode cX4_bellFor 16 = .ok (.goto 4, 3) := by decide +kernel
theorem dX4_bellFor_19 : decode cX4_bellFor 19 = .ok (.iconst (-1), 1) := by decide +kernel
theorem dX4_bellFor_20 : decode cX4_bellFor 20 = .ok (.ireturn, 1) := by decide +kernel
theorem dX4_allBells_0 : decode cX4_allBells 0 = .ok (.iconst 1, 1) := by decide +kernel
theorem dX4_allBells_1 : decode cX4_allBells 1 = .ok (.aload_n 0, 1) := by decide +kernel
theorem dX4_allBells_2 : decode cX4_allBells 2 = .ok (.getfield 18, 3) := by decide +kernel
theorem dX4_allBells_5 : decode cX4_allBells 5 = .ok (.bipush 6, 2) := by decide +kernel
theorem dX4_allBells_7 : decode cX4_allBells 7 = .ok (.invokestatic 42, 3) := by decide +kernel
theorem dX4_allBells_10 : decode cX4_allBells 10 = .ok (.ishl, 1) := by decide +kernel
theorem dX4_allBells_11 : decode cX4_allBells 11 = .ok (.iconst 1, 1) := by decide +kernel
theorem dX4_allBells_12 : decode cX4_allBells 12 = .ok (.isub, 1) := by decide +kernel
theorem dX4_allBells_13 : decode cX4_allBells 13 = .ok (.ireturn, 1) := by decide +kernel
theorem dX4_firstBell_0 : decode cX4_firstBell 0 = .ok (.iload_n 3, 1) := by decide +kernel
theorem dX4_firstBell_1 : decode cX4_firstBell 1 = .ok (.invokestatic 48, 3) := by decide +kernel
theorem dX4_firstBell_4 : decode cX4_firstBell 4 = .ok (.istore 4, 2) := by decide +kernel
theorem dX4_firstBell_6 : decode cX4_firstBell 6 = .ok (.iload 4, 2) := by decide +kernel
theorem dX4_firstBell_8 : decode cX4_firstBell 8 = .ok (.iconst 1, 1) := by decide +kernel
theorem dX4_firstBell_9 : decode cX4_firstBell 9 = .ok (.iadd, 1) := by decide +kernel
theorem dX4_firstBell_10 : decode cX4_firstBell 10 = .ok (.istore 5, 2) := by decide +kernel
theorem dX4_firstBell_12 : decode cX4_firstBell 12 = .ok (.iload 5, 2) := by decide +kernel
theorem dX4_firstBell_14 : decode cX4_firstBell 14 = .ok (.aload_n 1, 1) := by decide +kernel
theorem dX4_firstBell_15 : decode cX4_firstBell 15 = .ok (.getfield 18, 3) := by decide +kernel
theorem dX4_firstBell_18 : decode cX4_firstBell 18 = .ok (.if_icmp .ge 55, 3) := by decide +kernel
theorem dX4_firstBell_21 : decode cX4_firstBell 21 = .ok (.iload_n 3, 1) := by decide +kernel
theorem dX4_firstBell_22 : decode cX4_firstBell 22 = .ok (.iload 5, 2) := by decide +kernel
theorem dX4_firstBell_24 : decode cX4_firstBell 24 = .ok (.ishr, 1) := by decide +kernel
theorem dX4_firstBell_25 : decode cX4_firstBell 25 = .ok (.iconst 1, 1) := by decide +kernel
theorem dX4_firstBell_26 : decode cX4_firstBell 26 = .ok (.iand, 1) := by decide +kernel
theorem dX4_firstBell_27 : decode cX4_firstBell 27 = .ok (.ifCond .eq 7, 3) := by decide +kernel
theorem dX4_firstBell_30 : decode cX4_firstBell 30 = .ok (.iconst 1, 1) := by decide +kernel
theorem dX4_firstBell_31 : decode cX4_firstBell 31 = .ok (.goto 4, 3) := by decide +kernel
theorem dX4_firstBell_34 : decode cX4_firstBell 34 = .ok (.iconst 0, 1) := by decide +kernel
theorem dX4_firstBell_35 : decode cX4_firstBell 35 = .ok (.istore 6, 2) := by decide +kernel
theorem dX4_firstBell_37 : decode cX4_firstBell 37 = .ok (.iload 6, 2) := by decide +kernel
theorem dX4_firstBell_39 : decode cX4_firstBell 39 = .ok (.ifCond .eq 28, 3) := by decide +kernel
theorem dX4_firstBell_42 : decode cX4_firstBell 42 = .ok (.aload_n 0, 1) := by decide +kernel
theorem dX4_firstBell_43 : decode cX4_firstBell 43 = .ok (.iload_n 2, 1) := by decide +kernel
theorem dX4_firstBell_44 : decode cX4_firstBell 44 = .ok (.iload 5, 2) := by decide +kernel
theorem dX4_firstBell_46 : decode cX4_firstBell 46 = .ok (.iload_n 3, 1) := by decide +kernel
theorem dX4_firstBell_47 : decode cX4_firstBell 47 = .ok (.aload_n 1, 1) := by decide +kernel
theorem dX4_firstBell_48 : decode cX4_firstBell 48 = .ok (.invokevirtual 34, 3) := by decide +kernel
theorem dX4_firstBell_51 : decode cX4_firstBell 51 = .ok (.aload_n 0, 1) := by decide +kernel
theorem dX4_firstBell_52 : decode cX4_firstBell 52 = .ok (.iload_n 2, 1) := by decide +kernel
theorem dX4_firstBell_53 : decode cX4_firstBell 53 = .ok (.iload 4, 2) := by decide +kernel
theorem dX4_firstBell_55 : decode cX4_firstBell 55 = .ok (.iload_n 3, 1) := by decide +kernel
theorem dX4_firstBell_56 : decode cX4_firstBell 56 = .ok (.aload_n 1, 1) := by decide +kernel
theorem dX4_firstBell_57 : decode cX4_firstBell 57 = .ok (.invokevirtual 34, 3) := by decide +kernel
theorem dX4_firstBell_60 : decode cX4_firstBell 60 = .ok (.if_icmp .ge 7, 3) := by decide +kernel
theorem dX4_firstBell_63 : decode cX4_firstBell 63 = .ok (.iload 5, 2) := by decide +kernel
theorem dX4_firstBell_65 : decode cX4_firstBell 65 = .ok (.istore 4, 2) := by decide +kernel
theorem dX4_firstBell_67 : decode cX4_firstBell 67 = .ok (.iinc 5 1, 3) := by decide +kernel
theorem dX4_firstBell_70 : decode cX4_firstBell 70 = .ok (.goto (-58), 3) := by decide +kernel
theorem dX4_firstBell_73 : decode cX4_firstBell 73 = .ok (.iload 4, 2) := by decide +kernel
theorem dX4_firstBell_75 : decode cX4_firstBell 75 = .ok (.ireturn, 1) := by decide +kernel
theorem dX4_leastFrom_0 : decode cX4_leastFrom 0 = .ok (.iload_n 3, 1) := by decide +kernel
theorem dX4_leastFrom_1 : decode cX4_leastFrom 1 = .ok (.iconst 1, 1) := by decide +kernel
theorem dX4_leastFrom_2 : decode cX4_leastFrom 2 = .ok (.iload_n 2, 1) := by decide +kernel
theorem dX4_leastFrom_3 : decode cX4_leastFrom 3 = .ok (.ishl, 1) := by decide +kernel
theorem dX4_leastFrom_4 : decode cX4_leastFrom 4 = .ok (.iconst (-1), 1) := by decide +kernel
theorem dX4_leastFrom_5 : decode cX4_leastFrom 5 = .ok (.ixor, 1) := by decide +kernel
theorem dX4_leastFrom_6 : decode cX4_leastFrom 6 = .ok (.iand, 1) := by decide +kernel
theorem dX4_leastFrom_7 : decode cX4_leastFrom 7 = .ok (.aload_n 0, 1) := by decide +kernel
theorem dX4_leastFrom_8 : decode cX4_leastFrom 8 = .ok (.getfield 9, 3) := by decide +kernel
theorem dX4_leastFrom_11 : decode cX4_leastFrom 11 = .ok (.arraylength, 1) := by decide +kernel
theorem dX4_leastFrom_12 : decode cX4_leastFrom 12 = .ok (.iconst 1, 1) := by decide +kernel
theorem dX4_leastFrom_13 : decode cX4_leastFrom 13 = .ok (.isub, 1) := by decide +kernel
theorem dX4_leastFrom_14 : decode cX4_leastFrom 14 = .ok (.iand, 1) := by decide +kernel
theorem dX4_leastFrom_15 : decode cX4_leastFrom 15 = .ok (.istore 5, 2) := by decide +kernel
theorem dX4_leastFrom_17 : decode cX4_leastFrom 17 = .ok (.aload 4, 2) := by decide +kernel
theorem dX4_leastFrom_19 : decode cX4_leastFrom 19 = .ok (.iload_n 1, 1) := by decide +kernel
theorem dX4_leastFrom_20 : decode cX4_leastFrom 20 = .ok (.iload_n 2, 1) := by decide +kernel
theorem dX4_leastFrom_21 : decode cX4_leastFrom 21 = .ok (.invokevirtual 51, 3) := by decide +kernel
theorem dX4_leastFrom_24 : decode cX4_leastFrom 24 = .ok (.aload_n 0, 1) := by decide +kernel
theorem dX4_leastFrom_25 : decode cX4_leastFrom 25 = .ok (.getfield 9, 3) := by decide +kernel
theorem dX4_leastFrom_28 : decode cX4_leastFrom 28 = .ok (.iload 5, 2) := by decide +kernel
theorem dX4_leastFrom_30 : decode cX4_leastFrom 30 = .ok (.iaload, 1) := by decide +kernel
theorem dX4_leastFrom_31 : decode cX4_leastFrom 31 = .ok (.iadd, 1) := by decide +kernel
theorem dX4_leastFrom_32 : decode cX4_leastFrom 32 = .ok (.ireturn, 1) := by decide +kernel
theorem dX5_rounds_0 : decode cX5_rounds 0 = .ok (.iconst 0, 1) := by decide +kernel
theorem dX5_rounds_1 : decode cX5_rounds 1 = .ok (.istore_n 1, 1) := by decide +kernel
theorem dX5_rounds_2 : decode cX5_rounds 2 = .ok (.iconst 0, 1) := by decide +kernel
theorem dX5_rounds_3 : decode cX5_rounds 3 = .ok (.istore_n 2, 1) := by decide +kernel
theorem dX5_rounds_4 : decode cX5_rounds 4 = .ok (.iload_n 2, 1) := by decide +kernel
theorem dX5_rounds_5 : decode cX5_rounds 5 = .ok (.iload_n 0, 1) := by decide +kernel
theorem dX5_rounds_6 : decode cX5_rounds 6 = .ok (.if_icmp .ge 17, 3) := by decide +kernel
theorem dX5_rounds_9 : decode cX5_rounds 9 = .ok (.iload_n 1, 1) := by decide +kernel
theorem dX5_rounds_10 : decode cX5_rounds 10 = .ok (.iload_n 2, 1) := by decide +kernel
theorem dX5_rounds_11 : decode cX5_rounds 11 = .ok (.iconst 3, 1) := by decide +kernel
theorem dX5_rounds_12 : decode cX5_rounds 12 = .ok (.iload_n 2, 1) := by decide +kernel
theorem dX5_rounds_13 : decode cX5_rounds 13 = .ok (.imul, 1) := by decide +kernel
theorem dX5_rounds_14 : decode cX5_rounds 14 = .ok (.ishl, 1) := by decide +kernel
theorem dX5_rounds_15 : decode cX5_rounds 15 = .ok (.ior, 1) := by decide +kernel
theorem dX5_rounds_16 : decode cX5_rounds 16 = .ok (.istore_n 1, 1) := by decide +kernel
theorem dX5_rounds_17 : decode cX5_rounds 17 = .ok (.iinc 2 1, 3) := by decide +kernel
theorem dX5_rounds_20 : decode cX5_rounds 20 = .ok (.goto (-16), 3) := by decide +kernel
theorem dX5_rounds_23 : decode cX5_rounds 23 = .ok (.iload_n 1, 1) := by decide +kernel
theorem dX5_rounds_24 : decode cX5_rounds 24 = .ok (.ireturn, 1) := by decide +kernel
theorem dX5_bellIn_0 : decode cX5_bellIn 0 = .ok (.iload_n 0, 1) := by decide +kernel
theorem dX5_bellIn_1 : decode cX5_bellIn 1 = .ok (.iconst 3, 1) := by decide +kernel
theorem dX5_bellIn_2 : decode cX5_bellIn 2 = .ok (.iload_n 1, 1) := by decide +kernel
theorem dX5_bellIn_3 : decode cX5_bellIn 3 = .ok (.imul, 1) := by decide +kernel
theorem dX5_bellIn_4 : decode cX5_bellIn 4 = .ok (.ishr, 1) := by decide +kernel
theorem dX5_bellIn_5 : decode cX5_bellIn 5 = .ok (.bipush 7, 2) := by decide +kernel
theorem dX5_bellIn_7 : decode cX5_bellIn 7 = .ok (.iand, 1) := by decide +kernel
theorem dX5_bellIn_8 : decode cX5_bellIn 8 = .ok (.ireturn, 1) := by decide +kernel
theorem dX5_placeOf_0 : decode cX5_placeOf 0 = .ok (.iconst 0, 1) := by decide +kernel
theorem dX5_placeOf_1 : decode cX5_placeOf 1 = .ok (.istore_n 3, 1) := by decide +kernel
theorem dX5_placeOf_2 : decode cX5_placeOf 2 = .ok (.iload_n 3, 1) := by decide +kernel
theorem dX5_placeOf_3 : decode cX5_placeOf 3 = .ok (.iload_n 2, 1) := by decide +kernel
theorem dX5_placeOf_4 : decode cX5_placeOf 4 = .ok (.if_icmp .ge 20, 3) := by decide +kernel
theorem dX5_placeOf_7 : decode cX5_placeOf 7 = .ok (.iload_n 0, 1) := by decide +kernel
theorem dX5_placeOf_8 : decode cX5_placeOf 8 = .ok (.iload_n 3, 1) := by decide +kernel
theorem dX5_placeOf_9 : decode cX5_placeOf 9 = .ok (.invokestatic 11, 3) := by decide +kernel
theorem dX5_placeOf_12 : decode cX5_placeOf 12 = .ok (.iload_n 1, 1) := by decide +kernel
theorem dX5_placeOf_13 : decode cX5_placeOf 13 = .ok (.if_icmp .ne 5, 3) := by decide +kernel
theorem dX5_placeOf_16 : decode cX5_placeOf 16 = .ok (.iload_n 3, 1) := by decide +kernel
theorem dX5_placeOf_17 : decode cX5_placeOf 17 = .ok (.ireturn, 1) := by decide +kernel
theorem dX5_placeOf_18 : decode cX5_placeOf 18 = .ok (.iinc 3 1, 3) := by decide +kernel
theorem dX5_placeOf_21 : decode cX5_placeOf 21 = .ok (.goto (-19), 3) := by decide +kernel
theorem dX5_placeOf_24 : decode cX5_placeOf 24 = .ok (.iconst (-1), 1) := by decide +kernel
theorem dX5_placeOf_25 : decode cX5_placeOf 25 = .ok (.ireturn, 1) := by decide +kernel
theorem dX5_figures_0 : decode cX5_figures 0 = .ok (.iconst 0, 1) := by decide +kernel
theorem dX5_figures_1 : decode cX5_figures 1 = .ok (.istore_n 2, 1) := by decide +kernel
theorem dX5_figures_2 : decode cX5_figures 2 = .ok (.iconst 0, 1) := by decide +kernel
theorem dX5_figures_3 : decode cX5_figures 3 = .ok (.istore_n 3, 1) := by decide +kernel
theorem dX5_figures_4 : decode cX5_figures 4 = .ok (.iload_n 3, 1) := by decide +kernel
theorem dX5_figures_5 : decode cX5_figures 5 = .ok (.iload_n 1, 1) := by decide +kernel
theorem dX5_figures_6 : decode cX5_figures 6 = .ok (.if_icmp .ge 22, 3) := by decide +kernel
theorem dX5_figures_9 : decode cX5_figures 9 = .ok (.iload_n 2, 1) := by decide +kernel
theorem dX5_figures_10 : decode cX5_figures 10 = .ok (.bipush 10, 2) := by decide +kernel
theorem dX5_figures_12 : decode cX5_figures 12 = .ok (.imul, 1) := by decide +kernel
theorem dX5_figures_13 : decode cX5_figures 13 = .ok (.iload_n 0, 1) := by decide +kernel
theorem dX5_figures_14 : decode cX5_figures 14 = .ok (.iload_n 3, 1) := by decide +kernel
theorem dX5_figures_15 : decode cX5_figures 15 = .ok (.invokestatic 11, 3) := by decide +kernel
theorem dX5_figures_18 : decode cX5_figures 18 = .ok (.iadd, 1) := by decide +kernel
theorem dX5_figures_19 : decode cX5_figures 19 = .ok (.iconst 1, 1) := by decide +kernel
theorem dX5_figures_20 : decode cX5_figures 20 = .ok (.iadd, 1) := by decide +kernel
theorem dX5_figures_21 : decode cX5_figures 21 = .ok (.istore_n 2, 1) := by decide +kernel
theorem dX5_figures_22 : decode cX5_figures 22 = .ok (.iinc 3 1, 3) := by decide +kernel
theorem dX5_figures_25 : decode cX5_figures 25 = .ok (.goto (-21), 3) := by decide +kernel
theorem dX5_figures_28 : decode cX5_figures 28 = .ok (.iload_n 2, 1) := by decide +kernel
theorem dX5_figures_29 : decode cX5_figures 29 = .ok (.ireturn, 1) := by decide +kernel
theorem dX5_fromFigures_0 : decode cX5_fromFigures 0 = .ok (.iconst 0, 1) := by decide +kernel
theorem dX5_fromFigures_1 : decode cX5_fromFigures 1 = .ok (.istore_n 2, 1) := by decide +kernel
theorem dX5_fromFigures_2 : decode cX5_fromFigures 2 = .ok (.iconst 0, 1) := by decide +kernel
theorem dX5_fromFigures_3 : decode cX5_fromFigures 3 = .ok (.istore_n 3, 1) := by decide +kernel
theorem dX5_fromFigures_4 : decode cX5_fromFigures 4 = .ok (.iload_n 0, 1) := by decide +kernel
theorem dX5_fromFigures_5 : decode cX5_fromFigures 5 = .ok (.istore 4, 2) := by decide +kernel
theorem dX5_fromFigures_7 : decode cX5_fromFigures 7 = .ok (.iload_n 1, 1) := by decide +kernel
theorem dX5_fromFigures_8 : decode cX5_fromFigures 8 = .ok (.iconst 1, 1) := by decide +kernel
theorem dX5_fromFigures_9 : decode cX5_fromFigures 9 = .ok (.isub, 1) := by decide +kernel
theorem dX5_fromFigures_10 : decode cX5_fromFigures 10 = .ok (.istore 5, 2) := by decide +kernel
theorem dX5_fromFigures_12 : decode cX5_fromFigures 12 = .ok (.iload 5, 2) := by decide +kernel
theorem dX5_fromFigures_14 : decode cX5_fromFigures 14 = .ok (.ifCond .lt 64, 3) := by decide +kernel
theorem dX5_fromFigures_17 : decode cX5_fromFigures 17 = .ok (.iload 4, 2) := by decide +kernel
theorem dX5_fromFigures_19 : decode cX5_fromFigures 19 = .ok (.bipush 10, 2) := by decide +kernel
theorem dX5_fromFigures_21 : decode cX5_fromFigures 21 = .ok (.irem, 1) := by decide +kernel
theorem dX5_fromFigures_22 : decode cX5_fromFigures 22 = .ok (.iconst 1, 1) := by decide +kernel
theorem dX5_fromFigures_23 : decode cX5_fromFigures 23 = .ok (.isub, 1) := by decide +kernel
theorem dX5_fromFigures_24 : decode cX5_fromFigures 24 = .ok (.istore 6, 2) := by decide +kernel
theorem dX5_fromFigures_26 : decode cX5_fromFigures 26 = .ok (.iload 6, 2) := by decide +kernel
theorem dX5_fromFigures_28 : decode cX5_fromFigures 28 = .ok (.ifCond .lt 18, 3) := by decide +kernel
theorem dX5_fromFigures_31 : decode cX5_fromFigures 31 = .ok (.iload 6, 2) := by decide +kernel
theorem dX5_fromFigures_33 : decode cX5_fromFigures 33 = .ok (.iload_n 1, 1) := by decide +kernel
theorem dX5_fromFigures_34 : decode cX5_fromFigures 34 = .ok (.if_icmp .ge 12, 3) := by decide +kernel
theorem dX5_fromFigures_37 : decode cX5_fromFigures 37 = .ok (.iload_n 3, 1) := by decide +kernel
theorem dX5_fromFigures_38 : decode cX5_fromFigures 38 = .ok (.iload 6, 2) := by decide +kernel
theorem dX5_fromFigures_40 : decode cX5_fromFigures 40 = .ok (.ishr, 1) := by decide +kernel
theorem dX5_fromFigures_41 : decode cX5_fromFigures 41 = .ok (.iconst 1, 1) := by decide +kernel
theorem dX5_fromFigures_42 : decode cX5_fromFigures 42 = .ok (.iand, 1) := by decide +kernel
theorem dX5_fromFigures_43 : decode cX5_fromFigures 43 = .ok (.ifCond .eq 5, 3) := by decide +kernel
theorem dX5_fromFigures_46 : decode cX5_fromFigures 46 = .ok (.iconst (-1), 1) := by decide +kernel
theorem dX5_fromFigures_47 : decode cX5_fromFigures 47 = .ok (.ireturn, 1) := by decide +kernel
theorem dX5_fromFigures_48 : decode cX5_fromFigures 48 = .ok (.iload_n 3, 1) := by decide +kernel
theorem dX5_fromFigures_49 : decode cX5_fromFigures 49 = .ok (.iconst 1, 1) := by decide +kernel
theorem dX5_fromFigures_50 : decode cX5_fromFigures 50 = .ok (.iload 6, 2) := by decide +kernel
theorem dX5_fromFigures_52 : decode cX5_fromFigures 52 = .ok (.ishl, 1) := by decide +kernel
theorem dX5_fromFigures_53 : decode cX5_fromFigures 53 = .ok (.ior, 1) := by decide +kernel
theorem dX5_fromFigures_54 : decode cX5_fromFigures 54 = .ok (.istore_n 3, 1) := by decide +kernel
theorem dX5_fromFigures_55 : decode cX5_fromFigures 55 = .ok (.iload_n 2, 1) := by decide +kernel
theorem dX5_fromFigures_56 : decode cX5_fromFigures 56 = .ok (.iload 6, 2) := by decide +kernel
theorem dX5_fromFigures_58 : decode cX5_fromFigures 58 = .ok (.iconst 3, 1) := by decide +kernel
theorem dX5_fromFigures_59 : decode cX5_fromFigures 59 = .ok (.iload 5, 2) := by decide +kernel
theorem dX5_fromFigures_61 : decode cX5_fromFigures 61 = .ok (.imul, 1) := by decide +kernel
theorem dX5_fromFigures_62 : decode cX5_fromFigures 62 = .ok (.ishl, 1) := by decide +kernel
theorem dX5_fromFigures_63 : decode cX5_fromFigures 63 = .ok (.ior, 1) := by decide +kernel
theorem dX5_fromFigures_64 : decode cX5_fromFigures 64 = .ok (.istore_n 2, 1) := by decide +kernel
theorem dX5_fromFigures_65 : decode cX5_fromFigures 65 = .ok (.iload 4, 2) := by decide +kernel
theorem dX5_fromFigures_67 : decode cX5_fromFigures 67 = .ok (.bipush 10, 2) := by decide +kernel
theorem dX5_fromFigures_69 : decode cX5_fromFigures 69 = .ok (.idiv, 1) := by decide +kernel
theorem dX5_fromFigures_70 : decode cX5_fromFigures 70 = .ok (.istore 4, 2) := by decide +kernel
theorem dX5_fromFigures_72 : decode cX5_fromFigures 72 = .ok (.iinc 5 (-1), 3) := by decide +kernel
theorem dX5_fromFigures_75 : decode cX5_fromFigures 75 = .ok (.goto (-63), 3) := by decide +kernel
theorem dX5_fromFigures_78 : decode cX5_fromFigures 78 = .ok (.iload_n 1, 1) := by decide +kernel
theorem dX5_fromFigures_79 : decode cX5_fromFigures 79 = .ok (.ifCond .le 12, 3) := by decide +kernel
theorem dX5_fromFigures_82 : decode cX5_fromFigures 82 = .ok (.iload 4, 2) := by decide +kernel
theorem dX5_fromFigures_84 : decode cX5_fromFigures 84 = .ok (.ifCond .ne 7, 3) := by decide +kernel
theorem dX5_fromFigures_87 : decode cX5_fromFigures 87 = .ok (.iload_n 2, 1) := by decide +kernel
theorem dX5_fromFigures_88 : decode cX5_fromFigures 88 = .ok (.goto 4, 3) := by decide +kernel
theorem dX5_fromFigures_91 : decode cX5_fromFigures 91 = .ok (.iconst (-1), 1) := by decide +kernel
theorem dX5_fromFigures_92 : decode cX5_fromFigures 92 = .ok (.ireturn, 1) := by decide +kernel
theorem dX5_placesAlike_0 : decode cX5_placesAlike 0 = .ok (.iconst 0, 1) := by decide +kernel
theorem dX5_placesAlike_1 : decode cX5_placesAlike 1 = .ok (.istore_n 3, 1) := by decide +kernel
theorem dX5_placesAlike_2 : decode cX5_placesAlike 2 = .ok (.iconst 0, 1) := by decide +kernel
theorem dX5_placesAlike_3 : decode cX5_placesAlike 3 = .ok (.istore 4, 2) := by decide +kernel
theorem dX5_placesAlike_5 : decode cX5_placesAlike 5 = .ok (.iload 4, 2) := by decide +kernel
theorem dX5_placesAlike_7 : decode cX5_placesAlike 7 = .ok (.iload_n 2, 1) := by decide +kernel
theorem dX5_placesAlike_8 : decode cX5_placesAlike 8 = .ok (.if_icmp .ge 31, 3) := by decide +kernel
theorem dX5_placesAlike_11 : decode cX5_placesAlike 11 = .ok (.iload_n 0, 1) := by decide +kernel
theorem dX5_placesAlike_12 : decode cX5_placesAlike 12 = .ok (.iload 4, 2) := by decide +kernel
theorem dX5_placesAlike_14 : decode cX5_placesAlike 14 = .ok (.invokestatic 11, 3) := by decide +kernel
theorem dX5_placesAlike_17 : decode cX5_placesAlike 17 = .ok (.iload_n 1, 1) := by decide +kernel
theorem dX5_placesAlike_18 : decode cX5_placesAlike 18 = .ok (.iload 4, 2) := by decide +kernel
theorem dX5_placesAlike_20 : decode cX5_placesAlike 20 = .ok (.invokestatic 11, 3) := by decide +kernel
theorem dX5_placesAlike_23 : decode cX5_placesAlike 23 = .ok (.if_icmp .ne 10, 3) := by decide +kernel
theorem dX5_placesAlike_26 : decode cX5_placesAlike 26 = .ok (.iload_n 3, 1) := by decide +kernel
theorem dX5_placesAlike_27 : decode cX5_placesAlike 27 = .ok (.iconst 1, 1) := by decide +kernel
theorem dX5_placesAlike_28 : decode cX5_placesAlike 28 = .ok (.iload 4, 2) := by decide +kernel
theorem dX5_placesAlike_30 : decode cX5_placesAlike 30 = .ok (.ishl, 1) := by decide +kernel
theorem dX5_placesAlike_31 : decode cX5_placesAlike 31 = .ok (.ior, 1) := by decide +kernel
theorem dX5_placesAlike_32 : decode cX5_placesAlike 32 = .ok (.istore_n 3, 1) := by decide +kernel
theorem dX5_placesAlike_33 : decode cX5_placesAlike 33 = .ok (.iinc 4 1, 3) := by decide +kernel
theorem dX5_placesAlike_36 : decode cX5_placesAlike 36 = .ok (.goto (-31), 3) := by decide +kernel
theorem dX5_placesAlike_39 : decode cX5_placesAlike 39 = .ok (.iload_n 3, 1) := by decide +kernel
theorem dX5_placesAlike_40 : decode cX5_placesAlike 40 = .ok (.ireturn, 1) := by decide +kernel
theorem dX5_without_0 : decode cX5_without 0 = .ok (.iload_n 0, 1) := by decide +kernel
theorem dX5_without_1 : decode cX5_without 1 = .ok (.iload_n 1, 1) := by decide +kernel
theorem dX5_without_2 : decode cX5_without 2 = .ok (.iload_n 2, 1) := by decide +kernel
theorem dX5_without_3 : decode cX5_without 3 = .ok (.invokestatic 15, 3) := by decide +kernel
theorem dX5_without_6 : decode cX5_without 6 = .ok (.istore_n 3, 1) := by decide +kernel
theorem dX5_without_7 : decode cX5_without 7 = .ok (.iload_n 3, 1) := by decide +kernel
theorem dX5_without_8 : decode cX5_without 8 = .ok (.iconst (-1), 1) := by decide +kernel
theorem dX5_without_9 : decode cX5_without 9 = .ok (.if_icmp .ne 5, 3) := by decide +kernel
theorem dX5_without_12 : decode cX5_without 12 = .ok (.iload_n 0, 1) := by decide +kernel
theorem dX5_without_13 : decode cX5_without 13 = .ok (.ireturn, 1) := by decide +kernel
theorem dX5_without_14 : decode cX5_without 14 = .ok (.iload_n 0, 1) := by decide +kernel
theorem dX5_without_15 : decode cX5_without 15 = .ok (.iconst 1, 1) := by decide +kernel
theorem dX5_without_16 : decode cX5_without 16 = .ok (.iconst 3, 1) := by decide +kernel
theorem dX5_without_17 : decode cX5_without 17 = .ok (.iload_n 3, 1) := by decide +kernel
theorem dX5_without_18 : decode cX5_without 18 = .ok (.imul, 1) := by decide +kernel
theorem dX5_without_19 : decode cX5_without 19 = .ok (.ishl, 1) := by decide +kernel
theorem dX5_without_20 : decode cX5_without 20 = .ok (.iconst 1, 1) := by decide +kernel
theorem dX5_without_21 : decode cX5_without 21 = .ok (.isub, 1) := by decide +kernel
theorem dX5_without_22 : decode cX5_without 22 = .ok (.iand, 1) := by decide +kernel
theorem dX5_without_23 : decode cX5_without 23 = .ok (.istore 4, 2) := by decide +kernel
theorem dX5_without_25 : decode cX5_without 25 = .ok (.iload_n 0, 1) := by decide +kernel
theorem dX5_without_26 : decode cX5_without 26 = .ok (.iconst 3, 1) := by decide +kernel
theorem dX5_without_27 : decode cX5_without 27 = .ok (.iload_n 3, 1) := by decide +kernel
theorem dX5_without_28 : decode cX5_without 28 = .ok (.iconst 1, 1) := by decide +kernel
theorem dX5_without_29 : decode cX5_without 29 = .ok (.iadd, 1) := by decide +kernel
theorem dX5_without_30 : decode cX5_without 30 = .ok (.imul, 1) := by decide +kernel
theorem dX5_without_31 : decode cX5_without 31 = .ok (.ishr, 1) := by decide +kernel
theorem dX5_without_32 : decode cX5_without 32 = .ok (.istore 5, 2) := by decide +kernel
theorem dX5_without_34 : decode cX5_without 34 = .ok (.iload 4, 2) := by decide +kernel
theorem dX5_without_36 : decode cX5_without 36 = .ok (.iload 5, 2) := by decide +kernel
theorem dX5_without_38 : decode cX5_without 38 = .ok (.iconst 3, 1) := by decide +kernel
theorem dX5_without_39 : decode cX5_without 39 = .ok (.iload_n 3, 1) := by decide +kernel
theorem dX5_without_40 : decode cX5_without 40 = .ok (.imul, 1) := by decide +kernel
theorem dX5_without_41 : decode cX5_without 41 = .ok (.ishl, 1) := by decide +kernel
theorem dX5_without_42 : decode cX5_without 42 = .ok (.ior, 1) := by decide +kernel
theorem dX5_without_43 : decode cX5_without 43 = .ok (.ireturn, 1) := by decide +kernel
theorem dX5_withLate_0 : decode cX5_withLate 0 = .ok (.iload_n 0, 1) := by decide +kernel
theorem dX5_withLate_1 : decode cX5_withLate 1 = .ok (.iload_n 1, 1) := by decide +kernel
theorem dX5_withLate_2 : decode cX5_withLate 2 = .ok (.iload_n 2, 1) := by decide +kernel
theorem dX5_withLate_3 : decode cX5_withLate 3 = .ok (.invokestatic 15, 3) := by decide +kernel
theorem dX5_withLate_6 : decode cX5_withLate 6 = .ok (.istore_n 3, 1) := by decide +kernel
theorem dX5_withLate_7 : decode cX5_withLate 7 = .ok (.iload_n 3, 1) := by decide +kernel
theorem dX5_withLate_8 : decode cX5_withLate 8 = .ok (.iconst (-1), 1) := by decide +kernel
theorem dX5_withLate_9 : decode cX5_withLate 9 = .ok (.if_icmp .eq 10, 3) := by decide +kernel
theorem dX5_withLate_12 : decode cX5_withLate 12 = .ok (.iload_n 3, 1) := by decide +kernel
theorem dX5_withLate_13 : decode cX5_withLate 13 = .ok (.iload_n 2, 1) := by decide +kernel
theorem dX5_withLate_14 : decode cX5_withLate 14 = .ok (.iconst 1, 1) := by decide +kernel
theorem dX5_withLate_15 : decode cX5_withLate 15 = .ok (.isub, 1) := by decide +kernel
theorem dX5_withLate_16 : decode cX5_withLate 16 = .ok (.if_icmp .ne 5, 3) := by decide +kernel
theorem dX5_withLate_19 : decode cX5_withLate 19 = .ok (.iload_n 0, 1) := by decide +kernel
theorem dX5_withLate_20 : decode cX5_withLate 20 = .ok (.ireturn, 1) := by decide +kernel
theorem dX5_withLate_21 : decode cX5_withLate 21 = .ok (.iload_n 0, 1) := by decide +kernel
theorem dX5_withLate_22 : decode cX5_withLate 22 = .ok (.iload_n 3, 1) := by decide +kernel
theorem dX5_withLate_23 : decode cX5_withLate 23 = .ok (.invokestatic 11, 3) := by decide +kernel
theorem dX5_withLate_26 : decode cX5_withLate 26 = .ok (.iload_n 0, 1) := by decide +kernel
theorem dX5_withLate_27 : decode cX5_withLate 27 = .ok (.iload_n 3, 1) := by decide +kernel
theorem dX5_withLate_28 : decode cX5_withLate 28 = .ok (.iconst 1, 1) := by decide +kernel
theorem dX5_withLate_29 : decode cX5_withLate 29 = .ok (.iadd, 1) := by decide +kernel
theorem dX5_withLate_30 : decode cX5_withLate 30 = .ok (.invokestatic 11, 3) := by decide +kernel
theorem dX5_withLate_33 : decode cX5_withLate 33 = .ok (.ixor, 1) := by decide +kernel
theorem dX5_withLate_34 : decode cX5_withLate 34 = .ok (.iconst 3, 1) := by decide +kernel
theorem dX5_withLate_35 : decode cX5_withLate 35 = .ok (.iload_n 3, 1) := by decide +kernel
theorem dX5_withLate_36 : decode cX5_withLate 36 = .ok (.imul, 1) := by decide +kernel
theorem dX5_withLate_37 : decode cX5_withLate 37 = .ok (.ishl, 1) := by decide +kernel
theorem dX5_withLate_38 : decode cX5_withLate 38 = .ok (.istore 4, 2) := by decide +kernel
theorem dX5_withLate_40 : decode cX5_withLate 40 = .ok (.iload_n 0, 1) := by decide +kernel
theorem dX5_withLate_41 : decode cX5_withLate 41 = .ok (.iload 4, 2) := by decide +kernel
theorem dX5_withLate_43 : decode cX5_withLate 43 = .ok (.ixor, 1) := by decide +kernel
theorem dX5_withLate_44 : decode cX5_withLate 44 = .ok (.iload 4, 2) := by decide +kernel
theorem dX5_withLate_46 : decode cX5_withLate 46 = .ok (.iconst 3, 1) := by decide +kernel
theorem dX5_withLate_47 : decode cX5_withLate 47 = .ok (.ishl, 1) := by decide +kernel
theorem dX5_withLate_48 : decode cX5_withLate 48 = .ok (.ixor, 1) := by decide +kernel
theorem dX5_withLate_49 : decode cX5_withLate 49 = .ok (.ireturn, 1) := by decide +kernel
theorem dX6_init_0 : decode cX6_init 0 = .ok (.aload_n 0, 1) := by decide +kernel
theorem dX6_init_1 : decode cX6_init 1 = .ok (.invokespecial 1, 3) := by decide +kernel
theorem dX6_init_4 : decode cX6_init 4 = .ok (.aload_n 0, 1) := by decide +kernel
theorem dX6_init_5 : decode cX6_init 5 = .ok (.sipush 1024, 3) := by decide +kernel
theorem dX6_init_8 : decode cX6_init 8 = .ok (.newarray .int, 2) := by decide +kernel
theorem dX6_init_10 : decode cX6_init 10 = .ok (.putfield 9, 3) := by decide +kernel
theorem dX6_init_13 : decode cX6_init 13 = .ok (.return_, 1) := by decide +kernel
theorem dX6_clear_0 : decode cX6_clear 0 = .ok (.aload_n 0, 1) := by decide +kernel
theorem dX6_clear_1 : decode cX6_clear 1 = .ok (.getfield 9, 3) := by decide +kernel
theorem dX6_clear_4 : decode cX6_clear 4 = .ok (.iconst 0, 1) := by decide +kernel
theorem dX6_clear_5 : decode cX6_clear 5 = .ok (.invokestatic 13, 3) := by decide +kernel
theorem dX6_clear_8 : decode cX6_clear 8 = .ok (.return_, 1) := by decide +kernel
theorem dX6_add_0 : decode cX6_add 0 = .ok (.iload_n 1, 1) := by decide +kernel
theorem dX6_add_1 : decode cX6_add 1 = .ok (.sipush 32767, 3) := by decide +kernel
theorem dX6_add_4 : decode cX6_add 4 = .ok (.iand, 1) := by decide +kernel
theorem dX6_add_5 : decode cX6_add 5 = .ok (.istore_n 2, 1) := by decide +kernel
theorem dX6_add_6 : decode cX6_add 6 = .ok (.iconst 1, 1) := by decide +kernel
theorem dX6_add_7 : decode cX6_add 7 = .ok (.iload_n 2, 1) := by decide +kernel
theorem dX6_add_8 : decode cX6_add 8 = .ok (.bipush 32, 2) := by decide +kernel
theorem dX6_add_10 : decode cX6_add 10 = .ok (.irem, 1) := by decide +kernel
theorem dX6_add_11 : decode cX6_add 11 = .ok (.ishl, 1) := by decide +kernel
theorem dX6_add_12 : decode cX6_add 12 = .ok (.istore_n 3, 1) := by decide +kernel
theorem dX6_add_13 : decode cX6_add 13 = .ok (.iload_n 2, 1) := by decide +kernel
theorem dX6_add_14 : decode cX6_add 14 = .ok (.bipush 32, 2) := by decide +kernel
theorem dX6_add_16 : decode cX6_add 16 = .ok (.idiv, 1) := by decide +kernel
theorem dX6_add_17 : decode cX6_add 17 = .ok (.istore 4, 2) := by decide +kernel
theorem dX6_add_19 : decode cX6_add 19 = .ok (.aload_n 0, 1) := by decide +kernel
theorem dX6_add_20 : decode cX6_add 20 = .ok (.getfield 9, 3) := by decide +kernel
theorem dX6_add_23 : decode cX6_add 23 = .ok (.iload 4, 2) := by decide +kernel
theorem dX6_add_25 : decode cX6_add 25 = .ok (.iaload, 1) := by decide +kernel
theorem dX6_add_26 : decode cX6_add 26 = .ok (.iload_n 3, 1) := by decide +kernel
theorem dX6_add_27 : decode cX6_add 27 = .ok (.iand, 1) := by decide +kernel
theorem dX6_add_28 : decode cX6_add 28 = .ok (.ifCond .eq 5, 3) := by decide +kernel
theorem dX6_add_31 : decode cX6_add 31 = .ok (.iconst 0, 1) := by decide +kernel
theorem dX6_add_32 : decode cX6_add 32 = .ok (.ireturn, 1) := by decide +kernel
theorem dX6_add_33 : decode cX6_add 33 = .ok (.aload_n 0, 1) := by decide +kernel
theorem dX6_add_34 : decode cX6_add 34 = .ok (.getfield 9, 3) := by decide +kernel
theorem dX6_add_37 : decode cX6_add 37 = .ok (.iload 4, 2) := by decide +kernel
theorem dX6_add_39 : decode cX6_add 39 = .ok (.dup2, 1) := by decide +kernel
theorem dX6_add_40 : decode cX6_add 40 = .ok (.iaload, 1) := by decide +kernel
theorem dX6_add_41 : decode cX6_add 41 = .ok (.iload_n 3, 1) := by decide +kernel
theorem dX6_add_42 : decode cX6_add 42 = .ok (.ior, 1) := by decide +kernel
theorem dX6_add_43 : decode cX6_add 43 = .ok (.iastore, 1) := by decide +kernel
theorem dX6_add_44 : decode cX6_add 44 = .ok (.iconst 1, 1) := by decide +kernel
theorem dX6_add_45 : decode cX6_add 45 = .ok (.ireturn, 1) := by decide +kernel
theorem dX6_remove_0 : decode cX6_remove 0 = .ok (.iload_n 1, 1) := by decide +kernel
theorem dX6_remove_1 : decode cX6_remove 1 = .ok (.sipush 32767, 3) := by decide +kernel
theorem dX6_remove_4 : decode cX6_remove 4 = .ok (.iand, 1) := by decide +kernel
theorem dX6_remove_5 : decode cX6_remove 5 = .ok (.istore_n 2, 1) := by decide +kernel
theorem dX6_remove_6 : decode cX6_remove 6 = .ok (.aload_n 0, 1) := by decide +kernel
theorem dX6_remove_7 : decode cX6_remove 7 = .ok (.getfield 9, 3) := by decide +kernel
theorem dX6_remove_10 : decode cX6_remove 10 = .ok (.iload_n 2, 1) := by decide +kernel
theorem dX6_remove_11 : decode cX6_remove 11 = .ok (.bipush 32, 2) := by decide +kernel
theorem dX6_remove_13 : decode cX6_remove 13 = .ok (.idiv, 1) := by decide +kernel
theorem dX6_remove_14 : decode cX6_remove 14 = .ok (.dup2, 1) := by decide +kernel
theorem dX6_remove_15 : decode cX6_remove 15 = .ok (.iaload, 1) := by decide +kernel
theorem dX6_remove_16 : decode cX6_remove 16 = .ok (.iconst 1, 1) := by decide +kernel
theorem dX6_remove_17 : decode cX6_remove 17 = .ok (.iload_n 2, 1) := by decide +kernel
theorem dX6_remove_18 : decode cX6_remove 18 = .ok (.bipush 32, 2) := by decide +kernel
theorem dX6_remove_20 : decode cX6_remove 20 = .ok (.irem, 1) := by decide +kernel
theorem dX6_remove_21 : decode cX6_remove 21 = .ok (.ishl, 1) := by decide +kernel
theorem dX6_remove_22 : decode cX6_remove 22 = .ok (.iconst (-1), 1) := by decide +kernel
theorem dX6_remove_23 : decode cX6_remove 23 = .ok (.ixor, 1) := by decide +kernel
theorem dX6_remove_24 : decode cX6_remove 24 = .ok (.iand, 1) := by decide +kernel
theorem dX6_remove_25 : decode cX6_remove 25 = .ok (.iastore, 1) := by decide +kernel
theorem dX6_remove_26 : decode cX6_remove 26 = .ok (.return_, 1) := by decide +kernel
theorem dX7_init_0 : decode cX7_init 0 = .ok (.aload_n 0, 1) := by decide +kernel
theorem dX7_init_1 : decode cX7_init 1 = .ok (.invokespecial 3, 3) := by decide +kernel
theorem dX7_init_4 : decode cX7_init 4 = .ok (.aload_n 0, 1) := by decide +kernel
theorem dX7_init_5 : decode cX7_init 5 = .ok (.iconst (-1), 1) := by decide +kernel
theorem dX7_init_6 : decode cX7_init 6 = .ok (.putfield 9, 3) := by decide +kernel
theorem dX7_init_9 : decode cX7_init 9 = .ok (.aload_n 0, 1) := by decide +kernel
theorem dX7_init_10 : decode cX7_init 10 = .ok (.sipush 240, 3) := by decide +kernel
theorem dX7_init_13 : decode cX7_init 13 = .ok (.newarray .int, 2) := by decide +kernel
theorem dX7_init_15 : decode cX7_init 15 = .ok (.putfield 15, 3) := by decide +kernel
theorem dX7_init_18 : decode cX7_init 18 = .ok (.aload_n 0, 1) := by decide +kernel
theorem dX7_init_19 : decode cX7_init 19 = .ok (.aload_n 1, 1) := by decide +kernel
theorem dX7_init_20 : decode cX7_init 20 = .ok (.putfield 19, 3) := by decide +kernel
theorem dX7_init_23 : decode cX7_init 23 = .ok (.return_, 1) := by decide +kernel
theorem dX7_add_0 : decode cX7_add 0 = .ok (.aload_n 0, 1) := by decide +kernel
theorem dX7_add_1 : decode cX7_add 1 = .ok (.getfield 23, 3) := by decide +kernel
theorem dX7_add_4 : decode cX7_add 4 = .ok (.sipush 240, 3) := by decide +kernel
theorem dX7_add_7 : decode cX7_add 7 = .ok (.if_icmp .lt 5, 3) := by decide +kernel
theorem dX7_add_10 : decode cX7_add 10 = .ok (.iconst 0, 1) := by decide +kernel
theorem dX7_add_11 : decode cX7_add 11 = .ok (.ireturn, 1) := by decide +kernel
theorem dX7_add_12 : decode cX7_add 12 = .ok (.aload_n 0, 1) := by decide +kernel
theorem dX7_add_13 : decode cX7_add 13 = .ok (.getfield 15, 3) := by decide +kernel
theorem dX7_add_16 : decode cX7_add 16 = .ok (.aload_n 0, 1) := by decide +kernel
theorem dX7_add_17 : decode cX7_add 17 = .ok (.dup, 1) := by decide +kernel
theorem dX7_add_18 : decode cX7_add 18 = .ok (.getfield 23, 3) := by decide +kernel
theorem dX7_add_21 : decode cX7_add 21 = .ok (.dup_x1, 1) := by decide +kernel
theorem dX7_add_22 : decode cX7_add 22 = .ok (.iconst 1, 1) := by decide +kernel
theorem dX7_add_23 : decode cX7_add 23 = .ok (.iadd, 1) := by decide +kernel
theorem dX7_add_24 : decode cX7_add 24 = .ok (.putfield 23, 3) := by decide +kernel
theorem dX7_add_27 : decode cX7_add 27 = .ok (.iload_n 1, 1) := by decide +kernel
theorem dX7_add_28 : decode cX7_add 28 = .ok (.iastore, 1) := by decide +kernel
theorem dX7_add_29 : decode cX7_add 29 = .ok (.iconst 1, 1) := by decide +kernel
theorem dX7_add_30 : decode cX7_add 30 = .ok (.ireturn, 1) := by decide +kernel
theorem dX7_readInto_0 : decode cX7_readInto 0 = .ok (.aload_n 0, 1) := by decide +kernel
theorem dX7_readInto_1 : decode cX7_readInto 1 = .ok (.aload_n 1, 1) := by decide +kernel
theorem dX7_readInto_2 : decode cX7_readInto 2 = .ok (.putfield 19, 3) := by decide +kernel
theorem dX7_readInto_5 : decode cX7_readInto 5 = .ok (.aload_n 0, 1) := by decide +kernel
theorem dX7_readInto_6 : decode cX7_readInto 6 = .ok (.getfield 19, 3) := by decide +kernel
theorem dX7_readInto_9 : decode cX7_readInto 9 = .ok (.invokevirtual 26, 3) := by decide +kernel
theorem dX7_readInto_12 : decode cX7_readInto 12 = .ok (.aload_n 0, 1) := by decide +kernel
theorem dX7_readInto_13 : decode cX7_readInto 13 = .ok (.iconst 0, 1) := by decide +kernel
theorem dX7_readInto_14 : decode cX7_readInto 14 = .ok (.putfield 31, 3) := by decide +kernel
theorem dX7_readInto_17 : decode cX7_readInto 17 = .ok (.aload_n 0, 1) := by decide +kernel
theorem dX7_readInto_18 : decode cX7_readInto 18 = .ok (.iconst 0, 1) := by decide +kernel
theorem dX7_readInto_19 : decode cX7_readInto 19 = .ok (.putfield 34, 3) := by decide +kernel
theorem dX7_readInto_22 : decode cX7_readInto 22 = .ok (.aload_n 0, 1) := by decide +kernel
theorem dX7_readInto_23 : decode cX7_readInto 23 = .ok (.iconst (-1), 1) := by decide +kernel
theorem dX7_readInto_24 : decode cX7_readInto 24 = .ok (.putfield 9, 3) := by decide +kernel
theorem dX7_readInto_27 : decode cX7_readInto 27 = .ok (.aload_n 0, 1) := by decide +kernel
theorem dX7_readInto_28 : decode cX7_readInto 28 = .ok (.invokevirtual 37, 3) := by decide +kernel
theorem dX7_readInto_31 : decode cX7_readInto 31 = .ok (.iconst 0, 1) := by decide +kernel
theorem dX7_readInto_32 : decode cX7_readInto 32 = .ok (.istore_n 2, 1) := by decide +kernel
theorem dX7_readInto_33 : decode cX7_readInto 33 = .ok (.iload_n 2, 1) := by decide +kernel
theorem dX7_readInto_34 : decode cX7_readInto 34 = .ok (.sipush 240, 3) := by decide +kernel
theorem dX7_readInto_37 : decode cX7_readInto 37 = .ok (.if_icmp .ge 35, 3) := by decide +kernel
theorem dX7_readInto_40 : decode cX7_readInto 40 = .ok (.aload_n 0, 1) := by decide +kernel
theorem dX7_readInto_41 : decode cX7_readInto 41 = .ok (.getfield 31, 3) := by decide +kernel
theorem dX7_readInto_44 : decode cX7_readInto 44 = .ok (.aload_n 0, 1) := by decide +kernel
theorem dX7_readInto_45 : decode cX7_readInto 45 = .ok (.getfield 23, 3) := by decide +kernel
theorem dX7_readInto_48 : decode cX7_readInto 48 = .ok (.if_icmp .ge 24, 3) := by decide +kernel
theorem dX7_readInto_51 : decode cX7_readInto 51 = .ok (.aload_n 0, 1) := by decide +kernel
theorem dX7_readInto_52 : decode cX7_readInto 52 = .ok (.getfield 34, 3) := by decide +kernel
theorem dX7_readInto_55 : decode cX7_readInto 55 = .ok (.ifCond .ne 17, 3) := by decide +kernel
theorem dX7_readInto_58 : decode cX7_readInto 58 = .ok (.aload_n 0, 1) := by decide +kernel
theorem dX7_readInto_59 : decode cX7_readInto 59 = .ok (.invokevirtual 40, 3) := by decide +kernel
theorem dX7_readInto_62 : decode cX7_readInto 62 = .ok (.aload_n 0, 1) := by decide +kernel
theorem dX7_readInto_63 : decode cX7_readInto 63 = .ok (.invokevirtual 37, 3) := by decide +kernel
theorem dX7_readInto_66 : decode cX7_readInto 66 = .ok (.iinc 2 1, 3) := by decide +kernel
theorem dX7_readInto_69 : decode cX7_readInto 69 = .ok (.goto (-36), 3) := by decide +kernel
theorem dX7_readInto_72 : decode cX7_readInto 72 = .ok (.aload_n 0, 1) := by decide +kernel
theorem dX7_readInto_73 : decode cX7_readInto 73 = .ok (.getfield 34, 3) := by decide +kernel
theorem dX7_readInto_76 : decode cX7_readInto 76 = .ok (.ifCond .ne 10, 3) := by decide +kernel
theorem dX7_readInto_79 : decode cX7_readInto 79 = .ok (.aload_n 0, 1) := by decide +kernel
theorem dX7_readInto_80 : decode cX7_readInto 80 = .ok (.getfield 19, 3) := by decide +kernel
theorem dX7_readInto_83 : decode cX7_readInto 83 = .ok (.invokevirtual 43, 3) := by decide +kernel
theorem dX7_readInto_86 : decode cX7_readInto 86 = .ok (.aload_n 0, 1) := by decide +kernel
theorem dX7_readInto_87 : decode cX7_readInto 87 = .ok (.iconst 0, 1) := by decide +kernel
theorem dX7_readInto_88 : decode cX7_readInto 88 = .ok (.putfield 23, 3) := by decide +kernel
theorem dX7_readInto_91 : decode cX7_readInto 91 = .ok (.aload_n 0, 1) := by decide +kernel
theorem dX7_readInto_92 : decode cX7_readInto 92 = .ok (.getfield 34, 3) := by decide +kernel
theorem dX7_readInto_95 : decode cX7_readInto 95 = .ok (.ireturn, 1) := by decide +kernel
theorem dX7_letterHere_0 : decode cX7_letterHere 0 = .ok (.aload_n 0, 1) := by decide +kernel
theorem dX7_letterHere_1 : decode cX7_letterHere 1 = .ok (.getfield 31, 3) := by decide +kernel
theorem dX7_letterHere_4 : decode cX7_letterHere 4 = .ok (.ifCond .lt 36, 3) := by decide +kernel
theorem dX7_letterHere_7 : decode cX7_letterHere 7 = .ok (.aload_n 0, 1) := by decide +kernel
theorem dX7_letterHere_8 : decode cX7_letterHere 8 = .ok (.getfield 31, 3) := by decide +kernel
theorem dX7_letterHere_11 : decode cX7_letterHere 11 = .ok (.aload_n 0, 1) := by decide +kernel
theorem dX7_letterHere_12 : decode cX7_letterHere 12 = .ok (.getfield 23, 3) := by decide +kernel
theorem dX7_letterHere_15 : decode cX7_letterHere 15 = .ok (.if_icmp .ge 25, 3) := by decide +kernel
theorem dX7_letterHere_18 : decode cX7_letterHere 18 = .ok (.aload_n 0, 1) := by decide +kernel
theorem dX7_letterHere_19 : decode cX7_letterHere 19 = .ok (.getfield 31, 3) := by decide +kernel
theorem dX7_letterHere_22 : decode cX7_letterHere 22 = .ok (.sipush 240, 3) := by decide +kernel
theorem dX7_letterHere_25 : decode cX7_letterHere 25 = .ok (.if_icmp .ge 15, 3) := by decide +kernel
theorem dX7_letterHere_28 : decode cX7_letterHere 28 = .ok (.aload_n 0, 1) := by decide +kernel
theorem dX7_letterHere_29 : decode cX7_letterHere 29 = .ok (.getfield 15, 3) := by decide +kernel
theorem dX7_letterHere_32 : decode cX7_letterHere 32 = .ok (.aload_n 0, 1) := by decide +kernel
theorem dX7_letterHere_33 : decode cX7_letterHere 33 = .ok (.getfield 31, 3) := by decide +kernel
theorem dX7_letterHere_36 : decode cX7_letterHere 36 = .ok (.iaload, 1) := by decide +kernel
theorem dX7_letterHere_37 : decode cX7_letterHere 37 = .ok (.goto 4, 3) := by decide +kernel
theorem dX7_letterHere_40 : decode cX7_letterHere 40 = .ok (.iconst (-1), 1) := by decide +kernel
theorem dX7_letterHere_41 : decode cX7_letterHere 41 = .ok (.ireturn, 1) := by decide +kernel
theorem dX7_skipBlanks_0 : decode cX7_skipBlanks 0 = .ok (.aload_n 0, 1) := by decide +kernel
theorem dX7_skipBlanks_1 : decode cX7_skipBlanks 1 = .ok (.getfield 31, 3) := by decide +kernel
theorem dX7_skipBlanks_4 : decode cX7_skipBlanks 4 = .ok (.aload_n 0, 1) := by decide +kernel
theorem dX7_skipBlanks_5 : decode cX7_skipBlanks 5 = .ok (.getfield 23, 3) := by decide +kernel
theorem dX7_skipBlanks_8 : decode cX7_skipBlanks 8 = .ok (.if_icmp .ge 25, 3) := by decide +kernel
theorem dX7_skipBlanks_11 : decode cX7_skipBlanks 11 = .ok (.aload_n 0, 1) := by decide +kernel
theorem dX7_skipBlanks_12 : decode cX7_skipBlanks 12 = .ok (.invokevirtual 46, 3) := by decide +kernel
theorem dX7_skipBlanks_15 : decode cX7_skipBlanks 15 = .ok (.bipush 32, 2) := by decide +kernel
theorem dX7_skipBlanks_17 : decode cX7_skipBlanks 17 = .ok (.if_icmp .ne 16, 3) := by decide +kernel
theorem dX7_skipBlanks_20 : decode cX7_skipBlanks 20 = .ok (.aload_n 0, 1) := by decide +kernel
theorem dX7_skipBlanks_21 : decode cX7_skipBlanks 21 = .ok (.dup, 1) := by decide +kernel
theorem dX7_skipBlanks_22 : decode cX7_skipBlanks 22 = .ok (.getfield 31, 3) := by decide +kernel
theorem dX7_skipBlanks_25 : decode cX7_skipBlanks 25 = .ok (.iconst 1, 1) := by decide +kernel
theorem dX7_skipBlanks_26 : decode cX7_skipBlanks 26 = .ok (.iadd, 1) := by decide +kernel
theorem dX7_skipBlanks_27 : decode cX7_skipBlanks 27 = .ok (.putfield 31, 3) := by decide +kernel
theorem dX7_skipBlanks_30 : decode cX7_skipBlanks 30 = .ok (.goto (-30), 3) := by decide +kernel
theorem dX7_skipBlanks_33 : decode cX7_skipBlanks 33 = .ok (.return_, 1) := by decide +kernel
theorem dX7_fail_0 : decode cX7_fail 0 = .ok (.aload_n 0, 1) := by decide +kernel
theorem dX7_fail_1 : decode cX7_fail 1 = .ok (.iload_n 1, 1) := by decide +kernel
theorem dX7_fail_2 : decode cX7_fail 2 = .ok (.putfield 34, 3) := by decide +kernel
theorem dX7_fail_5 : decode cX7_fail 5 = .ok (.aload_n 0, 1) := by decide +kernel
theorem dX7_fail_6 : decode cX7_fail 6 = .ok (.iload_n 2, 1) := by decide +kernel
theorem dX7_fail_7 : decode cX7_fail 7 = .ok (.putfield 9, 3) := by decide +kernel
theorem dX7_fail_10 : decode cX7_fail 10 = .ok (.return_, 1) := by decide +kernel
theorem dX7_readClause_0 : decode cX7_readClause 0 = .ok (.aload_n 0, 1) := by decide +kernel
theorem dX7_readClause_1 : decode cX7_readClause 1 = .ok (.invokevirtual 46, 3) := by decide +kernel
theorem dX7_readClause_4 : decode cX7_readClause 4 = .ok (.istore_n 1, 1) := by decide +kernel
theorem dX7_readClause_5 : decode cX7_readClause 5 = .ok (.aload_n 0, 1) := by decide +kernel
theorem dX7_readClause_6 : decode cX7_readClause 6 = .ok (.iload_n 1, 1) := by decide +kernel
theorem dX7_readClause_7 : decode cX7_readClause 7 = .ok (.invokevirtual 50, 3) := by decide +kernel
theorem dX7_readClause_10 : decode cX7_readClause 10 = .ok (.istore_n 2, 1) := by decide +kernel
theorem dX7_readClause_11 : decode cX7_readClause 11 = .ok (.iload_n 2, 1) := by decide +kernel
theorem dX7_readClause_12 : decode cX7_readClause 12 = .ok (.ifCond .eq 13, 3) := by decide +kernel
theorem dX7_readClause_15 : decode cX7_readClause 15 = .ok (.aload_n 0, 1) := by decide +kernel
theorem dX7_readClause_16 : decode cX7_readClause 16 = .ok (.iload_n 2, 1) := by decide +kernel
theorem dX7_readClause_17 : decode cX7_readClause 17 = .ok (.aload_n 0, 1) := by decide +kernel
theorem dX7_readClause_18 : decode cX7_readClause 18 = .ok (.getfield 31, 3) := by decide +kernel
theorem dX7_readClause_21 : decode cX7_readClause 21 = .ok (.invokevirtual 54, 3) := by decide +kernel
theorem dX7_readClause_24 : decode cX7_readClause 24 = .ok (.return_, 1) := by decide +kernel
theorem dX7_readClause_25 : decode cX7_readClause 25 = .ok (.aload_n 0, 1) := by decide +kernel
theorem dX7_readClause_26 : decode cX7_readClause 26 = .ok (.dup, 1) := by decide +kernel
theorem dX7_readClause_27 : decode cX7_readClause 27 = .ok (.getfield 31, 3) := by decide +kernel
theorem dX7_readClause_30 : decode cX7_readClause 30 = .ok (.iconst 1, 1) := by decide +kernel
theorem dX7_readClause_31 : decode cX7_readClause 31 = .ok (.iadd, 1) := by decide +kernel
theorem dX7_readClause_32 : decode cX7_readClause 32 = .ok (.putfield 31, 3) := by decide +kernel
theorem dX7_readClause_35 : decode cX7_readClause 35 = .ok (.iload_n 1, 1) := by decide +kernel
theorem dX7_readClause_36 : decode cX7_readClause 36 = .ok (.invokestatic 58, 3) := by decide +kernel
theorem dX7_readClause_39 : decode cX7_readClause 39 = .ok (.istore_n 3, 1) := by decide +kernel
theorem dX7_readClause_40 : decode cX7_readClause 40 = .ok (.iconst 1, 1) := by decide +kernel
theorem dX7_readClause_41 : decode cX7_readClause 41 = .ok (.istore 4, 2) := by decide +kernel
theorem dX7_readClause_43 : decode cX7_readClause 43 = .ok (.iconst 1, 1) := by decide +kernel
theorem dX7_readClause_44 : decode cX7_readClause 44 = .ok (.istore 5, 2) := by decide +kernel
theorem dX7_readClause_46 : decode cX7_readClause 46 = .ok (.iload 5, 2) := by decide +kernel
theorem dX7_readClause_48 : decode cX7_readClause 48 = .ok (.iload_n 3, 1) := by decide +kernel
theorem dX7_readClause_49 : decode cX7_readClause 49 = .ok (.if_icmp .gt 71, 3) := by decide +kernel
theorem dX7_readClause_52 : decode cX7_readClause 52 = .ok (.iload 4, 2) := by decide +kernel
theorem dX7_readClause_54 : decode cX7_readClause 54 = .ok (.ifCond .eq 66, 3) := by decide +kernel
theorem dX7_readClause_57 : decode cX7_readClause 57 = .ok (.aload_n 0, 1) := by decide +kernel
theorem dX7_readClause_58 : decode cX7_readClause 58 = .ok (.iload_n 1, 1) := by decide +kernel
theorem dX7_readClause_59 : decode cX7_readClause 59 = .ok (.invokevirtual 61, 3) := by decide +kernel
theorem dX7_readClause_62 : decode cX7_readClause 62 = .ok (.istore 6, 2) := by decide +kernel
theorem dX7_readClause_64 : decode cX7_readClause 64 = .ok (.aload_n 0, 1) := by decide +kernel
theorem dX7_readClause_65 : decode cX7_readClause 65 = .ok (.getfield 34, 3) := by decide +kernel
theorem dX7_readClause_68 : decode cX7_readClause 68 = .ok (.ifCond .ne 22, 3) := by decide +kernel
theorem dX7_readClause_71 : decode cX7_readClause 71 = .ok (.aload_n 0, 1) := by decide +kernel
theorem dX7_readClause_72 : decode cX7_readClause 72 = .ok (.iload_n 1, 1) := by decide +kernel
theorem dX7_readClause_73 : decode cX7_readClause 73 = .ok (.iload 6, 2) := by decide +kernel
theorem dX7_readClause_75 : decode cX7_readClause 75 = .ok (.invokevirtual 64, 3) := by decide +kernel
theorem dX7_readClause_78 : decode cX7_readClause 78 = .ok (.ifCond .ne 12, 3) := by decide +kernel
theorem dX7_readClause_81 : decode cX7_readClause 81 = .ok (.aload_n 0, 1) := by decide +kernel
theorem dX7_readClause_82 : decode cX7_readClause 82 = .ok (.iconst 4, 1) := by decide +kernel
theorem dX7_readClause_83 : decode cX7_readClause 83 = .ok (.aload_n 0, 1) := by decide +kernel
theorem dX7_readClause_84 : decode cX7_readClause 84 = .ok (.getfield 68, 3) := by decide +kernel
theorem dX7_readClause_87 : decode cX7_readClause 87 = .ok (.invokevirtual 54, 3) := by decide +kernel
theorem dX7_readClause_90 : decode cX7_readClause 90 = .ok (.aload_n 0, 1) := by decide +kernel
theorem dX7_readClause_91 : decode cX7_readClause 91 = .ok (.getfield 34, 3) := by decide +kernel
theorem dX7_readClause_94 : decode cX7_readClause 94 = .ok (.ifCond .ne 17, 3) := by decide +kernel
theorem dX7_readClause_97 : decode cX7_readClause 97 = .ok (.aload_n 0, 1) := by decide +kernel
theorem dX7_readClause_98 : decode cX7_readClause 98 = .ok (.iload_n 1, 1) := by decide +kernel
theorem dX7_readClause_99 : decode cX7_readClause 99 = .ok (.iload 5, 2) := by decide +kernel
theorem dX7_readClause_101 : decode cX7_readClause 101 = .ok (.invokevirtual 71, 3) := by decide +kernel
theorem dX7_readClause_104 : decode cX7_readClause 104 = .ok (.ifCond .eq 7, 3) := by decide +kernel
theorem dX7_readClause_107 : decode cX7_readClause 107 = .ok (.iconst 1, 1) := by decide +kernel
theorem dX7_readClause_108 : decode cX7_readClause 108 = .ok (.goto 4, 3) := by decide +kernel
theorem dX7_readClause_111 : decode cX7_readClause 111 = .ok (.iconst 0, 1) := by decide +kernel
theorem dX7_readClause_112 : decode cX7_readClause 112 = .ok (.istore 4, 2) := by decide +kernel
theorem dX7_readClause_114 : decode cX7_readClause 114 = .ok (.iinc 5 1, 3) := by decide +kernel
theorem dX7_readClause_117 : decode cX7_readClause 117 = .ok (.goto (-71), 3) := by decide +kernel
theorem dX7_readClause_120 : decode cX7_readClause 120 = .ok (.return_, 1) := by decide +kernel
theorem dX7_faultOfWord_0 : decode cX7_faultOfWord 0 = .ok (.aload_n 0, 1) := by decide +kernel
theorem dX7_faultOfWord_1 : decode cX7_faultOfWord 1 = .ok (.getfield 19, 3) := by decide +kernel
theorem dX7_faultOfWord_4 : decode cX7_faultOfWord 4 = .ok (.invokevirtual 74, 3) := by decide +kernel
theorem dX7_faultOfWord_7 : decode cX7_faultOfWord 7 = .ok (.ifCond .ne 15, 3) := by decide +kernel
theorem dX7_faultOfWord_10 : decode cX7_faultOfWord 10 = .ok (.iload_n 1, 1) := by decide +kernel
theorem dX7_faultOfWord_11 : decode cX7_faultOfWord 11 = .ok (.bipush 98, 2) := by decide +kernel
theorem dX7_faultOfWord_13 : decode cX7_faultOfWord 13 = .ok (.if_icmp .ne 7, 3) := by decide +kernel
theorem dX7_faultOfWord_16 : decode cX7_faultOfWord 16 = .ok (.iconst 0, 1) := by decide +kernel
theorem dX7_faultOfWord_17 : decode cX7_faultOfWord 17 = .ok (.goto 4, 3) := by decide +kernel
theorem dX7_faultOfWord_20 : decode cX7_faultOfWord 20 = .ok (.iconst 1, 1) := by decide +kernel
theorem dX7_faultOfWord_21 : decode cX7_faultOfWord 21 = .ok (.ireturn, 1) := by decide +kernel
theorem dX7_faultOfWord_22 : decode cX7_faultOfWord 22 = .ok (.iload_n 1, 1) := by decide +kernel
theorem dX7_faultOfWord_23 : decode cX7_faultOfWord 23 = .ok (.lookupswitch 98 #[(98, 41), (99, 82), (109, 43), (114, 59)], 41) := by decide +kernel
theorem dX7_faultOfWord_64 : decode cX7_faultOfWord 64 = .ok (.iconst 3, 1) := by decide +kernel
theorem dX7_faultOfWord_65 : decode cX7_faultOfWord 65 = .ok (.ireturn, 1) := by decide +kernel
theorem dX7_faultOfWord_66 : decode cX7_faultOfWord 66 = .ok (.aload_n 0, 1) := by decide +kernel
theorem dX7_faultOfWord_67 : decode cX7_faultOfWord 67 = .ok (.getfield 19, 3) := by decide +kernel
theorem dX7_faultOfWord_70 : decode cX7_faultOfWord 70 = .ok (.getfield 78, 3) := by decide +kernel
theorem dX7_faultOfWord_73 : decode cX7_faultOfWord 73 = .ok (.ifCond .le 7, 3) := by decide +kernel
theorem dX7_faultOfWord_76 : decode cX7_faultOfWord 76 = .ok (.iconst 3, 1) := by decide +kernel
theorem dX7_faultOfWord_77 : decode cX7_faultOfWord 77 = .ok (.goto 4, 3) := by decide +kernel
theorem dX7_faultOfWord_80 : decode cX7_faultOfWord 80 = .ok (.iconst 0, 1) := by decide +kernel
theorem dX7_faultOfWord_81 : decode cX7_faultOfWord 81 = .ok (.ireturn, 1) := by decide +kernel
theorem dX7_faultOfWord_82 : decode cX7_faultOfWord 82 = .ok (.aload_n 0, 1) := by decide +kernel
theorem dX7_faultOfWord_83 : decode cX7_faultOfWord 83 = .ok (.getfield 19, 3) := by decide +kernel
theorem dX7_faultOfWord_86 : decode cX7_faultOfWord 86 = .ok (.getfield 81, 3) := by decide +kernel
theorem dX7_faultOfWord_89 : decode cX7_faultOfWord 89 = .ok (.aload_n 0, 1) := by decide +kernel
theorem dX7_faultOfWord_90 : decode cX7_faultOfWord 90 = .ok (.getfield 19, 3) := by decide +kernel
theorem dX7_faultOfWord_93 : decode cX7_faultOfWord 93 = .ok (.getfield 84, 3) := by decide +kernel
theorem dX7_faultOfWord_96 : decode cX7_faultOfWord 96 = .ok (.if_icmp .ge 7, 3) := by decide +kernel
theorem dX7_faultOfWord_99 : decode cX7_faultOfWord 99 = .ok (.iconst 0, 1) := by decide +kernel
theorem dX7_faultOfWord_100 : decode cX7_faultOfWord 100 = .ok (.goto 4, 3) := by decide +kernel
theorem dX7_faultOfWord_103 : decode cX7_faultOfWord 103 = .ok (.iconst 3, 1) := by decide +kernel
theorem dX7_faultOfWord_104 : decode cX7_faultOfWord 104 = .ok (.ireturn, 1) := by decide +kernel
theorem dX7_faultOfWord_105 : decode cX7_faultOfWord 105 = .ok (.aload_n 0, 1) := by decide +kernel
theorem dX7_faultOfWord_106 : decode cX7_faultOfWord 106 = .ok (.getfield 19, 3) := by decide +kernel
theorem dX7_faultOfWord_109 : decode cX7_faultOfWord 109 = .ok (.getfield 87, 3) := by decide +kernel
theorem dX7_faultOfWord_112 : decode cX7_faultOfWord 112 = .ok (.ifCond .eq 7, 3) := by decide +kernel
theorem dX7_faultOfWord_115 : decode cX7_faultOfWord 115 = .ok (.iconst 3, 1) := by decide +kernel
theorem dX7_faultOfWord_116 : decode cX7_faultOfWord 116 = .ok (.goto 4, 3) := by decide +kernel
theorem dX7_faultOfWord_119 : decode cX7_faultOfWord 119 = .ok (.iconst 0, 1) := by decide +kernel
theorem dX7_faultOfWord_120 : decode cX7_faultOfWord 120 = .ok (.ireturn, 1) := by decide +kernel
theorem dX7_faultOfWord_121 : decode cX7_faultOfWord 121 = .ok (.iconst 1, 1) := by decide +kernel
theorem dX7_faultOfWord_122 : decode cX7_faultOfWord 122 = .ok (.ireturn, 1) := by decide +kernel
theorem dX7_mostNumbers_0 : decode cX7_mostNumbers 0 = .ok (.iload_n 0, 1) := by decide +kernel
theorem dX7_mostNumbers_1 : decode cX7_mostNumbers 1 = .ok (.lookupswitch 33 #[(98, 27), (109, 30)], 27) := by decide +kernel
theorem dX7_mostNumbers_28 : decode cX7_mostNumbers 28 = .ok (.bipush 6, 2) := by decide +kernel
theorem dX7_mostNumbers_30 : decode cX7_mostNumbers 30 = .ok (.ireturn, 1) := by decide +kernel
theorem dX7_mostNumbers_31 : decode cX7_mostNumbers 31 = .ok (.bipush 12, 2) := by decide +kernel
theorem dX7_mostNumbers_33 : decode cX7_mostNumbers 33 = .ok (.ireturn, 1) := by decide +kernel
theorem dX7_mostNumbers_34 : decode cX7_mostNumbers 34 = .ok (.iconst 1, 1) := by decide +kernel
theorem dX7_mostNumbers_35 : decode cX7_mostNumbers 35 = .ok (.ireturn, 1) := by decide +kernel
theorem dX7_goesOn_0 : decode cX7_goesOn 0 = .ok (.aload_n 0, 1) := by decide +kernel
theorem dX7_goesOn_1 : decode cX7_goesOn 1 = .ok (.invokevirtual 37, 3) := by decide +kernel
theorem dX7_goesOn_4 : decode cX7_goesOn 4 = .ok (.iload_n 1, 1) := by decide +kernel
theorem dX7_goesOn_5 : decode cX7_goesOn 5 = .ok (.bipush 98, 2) := by decide +kernel
theorem dX7_goesOn_7 : decode cX7_goesOn 7 = .ok (.if_icmp .ne 7, 3) := by decide +kernel
theorem dX7_goesOn_10 : decode cX7_goesOn 10 = .ok (.iconst 3, 1) := by decide +kernel
theorem dX7_goesOn_11 : decode cX7_goesOn 11 = .ok (.goto 4, 3) := by decide +kernel
theorem dX7_goesOn_14 : decode cX7_goesOn 14 = .ok (.iconst 1, 1) := by decide +kernel
theorem dX7_goesOn_15 : decode cX7_goesOn 15 = .ok (.istore_n 3, 1) := by decide +kernel
theorem dX7_goesOn_16 : decode cX7_goesOn 16 = .ok (.aload_n 0, 1) := by decide +kernel
theorem dX7_goesOn_17 : decode cX7_goesOn 17 = .ok (.invokevirtual 46, 3) := by decide +kernel
theorem dX7_goesOn_20 : decode cX7_goesOn 20 = .ok (.istore 4, 2) := by decide +kernel
theorem dX7_goesOn_22 : decode cX7_goesOn 22 = .ok (.iload 4, 2) := by decide +kernel
theorem dX7_goesOn_24 : decode cX7_goesOn 24 = .ok (.bipush 44, 2) := by decide +kernel
theorem dX7_goesOn_26 : decode cX7_goesOn 26 = .ok (.if_icmp .ne 15, 3) := by decide +kernel
theorem dX7_goesOn_29 : decode cX7_goesOn 29 = .ok (.iload_n 2, 1) := by decide +kernel
theorem dX7_goesOn_30 : decode cX7_goesOn 30 = .ok (.iload_n 1, 1) := by decide +kernel
theorem dX7_goesOn_31 : decode cX7_goesOn 31 = .ok (.invokestatic 58, 3) := by decide +kernel
theorem dX7_goesOn_34 : decode cX7_goesOn 34 = .ok (.if_icmp .ge 7, 3) := by decide +kernel
theorem dX7_goesOn_37 : decode cX7_goesOn 37 = .ok (.iconst 1, 1) := by decide +kernel
theorem dX7_goesOn_38 : decode cX7_goesOn 38 = .ok (.goto 4, 3) := by decide +kernel
theorem dX7_goesOn_41 : decode cX7_goesOn 41 = .ok (.iconst 0, 1) := by decide +kernel
theorem dX7_goesOn_42 : decode cX7_goesOn 42 = .ok (.istore 5, 2) := by decide +kernel
theorem dX7_goesOn_44 : decode cX7_goesOn 44 = .ok (.iload 4, 2) := by decide +kernel
theorem dX7_goesOn_46 : decode cX7_goesOn 46 = .ok (.bipush 59, 2) := by decide +kernel
theorem dX7_goesOn_48 : decode cX7_goesOn 48 = .ok (.if_icmp .ne 12, 3) := by decide +kernel
theorem dX7_goesOn_51 : decode cX7_goesOn 51 = .ok (.iload_n 2, 1) := by decide +kernel
theorem dX7_goesOn_52 : decode cX7_goesOn 52 = .ok (.iload_n 3, 1) := by decide +kernel
theorem dX7_goesOn_53 : decode cX7_goesOn 53 = .ok (.if_icmp .lt 7, 3) := by decide +kernel
theorem dX7_goesOn_56 : decode cX7_goesOn 56 = .ok (.iconst 1, 1) := by decide +kernel
theorem dX7_goesOn_57 : decode cX7_goesOn 57 = .ok (.goto 4, 3) := by decide +kernel
theorem dX7_goesOn_60 : decode cX7_goesOn 60 = .ok (.iconst 0, 1) := by decide +kernel
theorem dX7_goesOn_61 : decode cX7_goesOn 61 = .ok (.istore 6, 2) := by decide +kernel
theorem dX7_goesOn_63 : decode cX7_goesOn 63 = .ok (.iload 5, 2) := by decide +kernel
theorem dX7_goesOn_65 : decode cX7_goesOn 65 = .ok (.ifCond .ne 8, 3) := by decide +kernel
theorem dX7_goesOn_68 : decode cX7_goesOn 68 = .ok (.iload 6, 2) := by decide +kernel
theorem dX7_goesOn_70 : decode cX7_goesOn 70 = .ok (.ifCond .eq 16, 3) := by decide +kernel
theorem dX7_goesOn_73 : decode cX7_goesOn 73 = .ok (.aload_n 0, 1) := by decide +kernel
theorem dX7_goesOn_74 : decode cX7_goesOn 74 = .ok (.dup, 1) := by decide +kernel
theorem dX7_goesOn_75 : decode cX7_goesOn 75 = .ok (.getfield 31, 3) := by decide +kernel
theorem dX7_goesOn_78 : decode cX7_goesOn 78 = .ok (.iconst 1, 1) := by decide +kernel
theorem dX7_goesOn_79 : decode cX7_goesOn 79 = .ok (.iadd, 1) := by decide +kernel
theorem dX7_goesOn_80 : decode cX7_goesOn 80 = .ok (.putfield 31, 3) := by decide +kernel
theorem dX7_goesOn_83 : decode cX7_goesOn 83 = .ok (.goto 12, 3) := by decide +kernel
theorem dX7_goesOn_86 : decode cX7_goesOn 86 = .ok (.aload_n 0, 1) := by decide +kernel
theorem dX7_goesOn_87 : decode cX7_goesOn 87 = .ok (.iconst 1, 1) := by decide +kernel
theorem dX7_goesOn_88 : decode cX7_goesOn 88 = .ok (.aload_n 0, 1) := by decide +kernel
theorem dX7_goesOn_89 : decode cX7_goesOn 89 = .ok (.getfield 31, 3) := by decide +kernel
theorem dX7_goesOn_92 : decode cX7_goesOn 92 = .ok (.invokevirtual 54, 3) := by decide +kernel
theorem dX7_goesOn_95 : decode cX7_goesOn 95 = .ok (.iload 5, 2) := by decide +kernel
theorem dX7_goesOn_97 : decode cX7_goesOn 97 = .ok (.ireturn, 1) := by decide +kernel
theorem dX7_readNumber_0 : decode cX7_readNumber 0 = .ok (.aload_n 0, 1) := by decide +kernel
theorem dX7_readNumber_1 : decode cX7_readNumber 1 = .ok (.invokevirtual 37, 3) := by decide +kernel
theorem dX7_readNumber_4 : decode cX7_readNumber 4 = .ok (.aload_n 0, 1) := by decide +kernel
theorem dX7_readNumber_5 : decode cX7_readNumber 5 = .ok (.aload_n 0, 1) := by decide +kernel
theorem dX7_readNumber_6 : decode cX7_readNumber 6 = .ok (.getfield 31, 3) := by decide +kernel
theorem dX7_readNumber_9 : decode cX7_readNumber 9 = .ok (.putfield 68, 3) := by decide +kernel
theorem dX7_readNumber_12 : decode cX7_readNumber 12 = .ok (.iconst 0, 1) := by decide +kernel
theorem dX7_readNumber_13 : decode cX7_readNumber 13 = .ok (.istore_n 2, 1) := by decide +kernel
theorem dX7_readNumber_14 : decode cX7_readNumber 14 = .ok (.aload_n 0, 1) := by decide +kernel
theorem dX7_readNumber_15 : decode cX7_readNumber 15 = .ok (.getfield 31, 3) := by decide +kernel
theorem dX7_readNumber_18 : decode cX7_readNumber 18 = .ok (.aload_n 0, 1) := by decide +kernel
theorem dX7_readNumber_19 : decode cX7_readNumber 19 = .ok (.getfield 23, 3) := by decide +kernel
theorem dX7_readNumber_22 : decode cX7_readNumber 22 = .ok (.if_icmp .ge 52, 3) := by decide +kernel
theorem dX7_readNumber_25 : decode cX7_readNumber 25 = .ok (.aload_n 0, 1) := by decide +kernel
theorem dX7_readNumber_26 : decode cX7_readNumber 26 = .ok (.invokevirtual 46, 3) := by decide +kernel
theorem dX7_readNumber_29 : decode cX7_readNumber 29 = .ok (.invokestatic 91, 3) := by decide +kernel
theorem dX7_readNumber_32 : decode cX7_readNumber 32 = .ok (.ifCond .eq 42, 3) := by decide +kernel
theorem dX7_readNumber_35 : decode cX7_readNumber 35 = .ok (.aload_n 0, 1) := by decide +kernel
theorem dX7_readNumber_36 : decode cX7_readNumber 36 = .ok (.getfield 31, 3) := by decide +kernel
theorem dX7_readNumber_39 : decode cX7_readNumber 39 = .ok (.aload_n 0, 1) := by decide +kernel
theorem dX7_readNumber_40 : decode cX7_readNumber 40 = .ok (.getfield 68, 3) := by decide +kernel
theorem dX7_readNumber_43 : decode cX7_readNumber 43 = .ok (.isub, 1) := by decide +kernel
theorem dX7_readNumber_44 : decode cX7_readNumber 44 = .ok (.iconst 3, 1) := by decide +kernel
theorem dX7_readNumber_45 : decode cX7_readNumber 45 = .ok (.if_icmp .ge 16, 3) := by decide +kernel
theorem dX7_readNumber_48 : decode cX7_readNumber 48 = .ok (.iload_n 2, 1) := by decide +kernel
theorem dX7_readNumber_49 : decode cX7_readNumber 49 = .ok (.bipush 10, 2) := by decide +kernel
theorem dX7_readNumber_51 : decode cX7_readNumber 51 = .ok (.imul, 1) := by decide +kernel
theorem dX7_readNumber_52 : decode cX7_readNumber 52 = .ok (.aload_n 0, 1) := by decide +kernel
theorem dX7_readNumber_53 : decode cX7_readNumber 53 = .ok (.invokevirtual 46, 3) := by decide +kernel
theorem dX7_readNumber_56 : decode cX7_readNumber 56 = .ok (.iadd, 1) := by decide +kernel
theorem dX7_readNumber_57 : decode cX7_readNumber 57 = .ok (.bipush 48, 2) := by decide +kernel
theorem dX7_readNumber_59 : decode cX7_readNumber 59 = .ok (.isub, 1) := by decide +kernel
theorem dX7_readNumber_60 : decode cX7_readNumber 60 = .ok (.istore_n 2, 1) := by decide +kernel
theorem dX7_readNumber_61 : decode cX7_readNumber 61 = .ok (.aload_n 0, 1) := by decide +kernel
theorem dX7_readNumber_62 : decode cX7_readNumber 62 = .ok (.dup, 1) := by decide +kernel
theorem dX7_readNumber_63 : decode cX7_readNumber 63 = .ok (.getfield 31, 3) := by decide +kernel
theorem dX7_readNumber_66 : decode cX7_readNumber 66 = .ok (.iconst 1, 1) := by decide +kernel
theorem dX7_readNumber_67 : decode cX7_readNumber 67 = .ok (.iadd, 1) := by decide +kernel
theorem dX7_readNumber_68 : decode cX7_readNumber 68 = .ok (.putfield 31, 3) := by decide +kernel
theorem dX7_readNumber_71 : decode cX7_readNumber 71 = .ok (.goto (-57), 3) := by decide +kernel
theorem dX7_readNumber_74 : decode cX7_readNumber 74 = .ok (.aload_n 0, 1) := by decide +kernel
theorem dX7_readNumber_75 : decode cX7_readNumber 75 = .ok (.getfield 31, 3) := by decide +kernel
theorem dX7_readNumber_78 : decode cX7_readNumber 78 = .ok (.aload_n 0, 1) := by decide +kernel
theorem dX7_readNumber_79 : decode cX7_readNumber 79 = .ok (.getfield 68, 3) := by decide +kernel
theorem dX7_readNumber_82 : decode cX7_readNumber 82 = .ok (.isub, 1) := by decide +kernel
theorem dX7_readNumber_83 : decode cX7_readNumber 83 = .ok (.istore_n 3, 1) := by decide +kernel
theorem dX7_readNumber_84 : decode cX7_readNumber 84 = .ok (.iload_n 3, 1) := by decide +kernel
theorem dX7_readNumber_85 : decode cX7_readNumber 85 = .ok (.ifCond .ne 15, 3) := by decide +kernel
theorem dX7_readNumber_88 : decode cX7_readNumber 88 = .ok (.aload_n 0, 1) := by decide +kernel
theorem dX7_readNumber_89 : decode cX7_readNumber 89 = .ok (.iconst 1, 1) := by decide +kernel
theorem dX7_readNumber_90 : decode cX7_readNumber 90 = .ok (.aload_n 0, 1) := by decide +kernel
theorem dX7_readNumber_91 : decode cX7_readNumber 91 = .ok (.getfield 31, 3) := by decide +kernel
theorem dX7_readNumber_94 : decode cX7_readNumber 94 = .ok (.invokevirtual 54, 3) := by decide +kernel
theorem dX7_readNumber_97 : decode cX7_readNumber 97 = .ok (.goto 26, 3) := by decide +kernel
theorem dX7_readNumber_100 : decode cX7_readNumber 100 = .ok (.iload_n 3, 1) := by decide +kernel
theorem dX7_readNumber_101 : decode cX7_readNumber 101 = .ok (.iconst 3, 1) := by decide +kernel
theorem dX7_readNumber_102 : decode cX7_readNumber 102 = .ok (.if_icmp .gt 12, 3) := by decide +kernel
theorem dX7_readNumber_105 : decode cX7_readNumber 105 = .ok (.aload_n 0, 1) := by decide +kernel
theorem dX7_readNumber_106 : decode cX7_readNumber 106 = .ok (.iload_n 1, 1) := by decide +kernel
theorem dX7_readNumber_107 : decode cX7_readNumber 107 = .ok (.iload_n 2, 1) := by decide +kernel
theorem dX7_readNumber_108 : decode cX7_readNumber 108 = .ok (.invokevirtual 95, 3) := by decide +kernel
theorem dX7_readNumber_111 : decode cX7_readNumber 111 = .ok (.ifCond .ne 12, 3) := by decide +kernel
theorem dX7_readNumber_114 : decode cX7_readNumber 114 = .ok (.aload_n 0, 1) := by decide +kernel
theorem dX7_readNumber_115 : decode cX7_readNumber 115 = .ok (.iconst 2, 1) := by decide +kernel
theorem dX7_readNumber_116 : decode cX7_readNumber 116 = .ok (.aload_n 0, 1) := by decide +kernel
theorem dX7_readNumber_117 : decode cX7_readNumber 117 = .ok (.getfield 68, 3) := by decide +kernel
theorem dX7_readNumber_120 : decode cX7_readNumber 120 = .ok (.invokevirtual 54, 3) := by decide +kernel
theorem dX7_readNumber_123 : decode cX7_readNumber 123 = .ok (.iload_n 2, 1) := by decide +kernel
theorem dX7_readNumber_124 : decode cX7_readNumber 124 = .ok (.ireturn, 1) := by decide +kernel
theorem dX7_isFigure_0 : decode cX7_isFigure 0 = .ok (.iload_n 0, 1) := by decide +kernel
theorem dX7_isFigure_1 : decode cX7_isFigure 1 = .ok (.bipush 48, 2) := by decide +kernel
theorem dX7_isFigure_3 : decode cX7_isFigure 3 = .ok (.if_icmp .lt 13, 3) := by decide +kernel
theorem dX7_isFigure_6 : decode cX7_isFigure 6 = .ok (.iload_n 0, 1) := by decide +kernel
theorem dX7_isFigure_7 : decode cX7_isFigure 7 = .ok (.bipush 57, 2) := by decide +kernel
theorem dX7_isFigure_9 : decode cX7_isFigure 9 = .ok (.if_icmp .gt 7, 3) := by decide +kernel
theorem dX7_isFigure_12 : decode cX7_isFigure 12 = .ok (.iconst 1, 1) := by decide +kernel
theorem dX7_isFigure_13 : decode cX7_isFigure 13 = .ok (.goto 4, 3) := by decide +kernel
theorem dX7_isFigure_16 : decode cX7_isFigure 16 = .ok (.iconst 0, 1) := by decide +kernel
theorem dX7_isFigure_17 : decode cX7_isFigure 17 = .ok (.ireturn, 1) := by decide +kernel
theorem dX7_withinBounds_0 : decode cX7_withinBounds 0 = .ok (.iload_n 1, 1) := by decide +kernel
theorem dX7_withinBounds_1 : decode cX7_withinBounds 1 = .ok (.bipush 98, 2) := by decide +kernel
theorem dX7_withinBounds_3 : decode cX7_withinBounds 3 = .ok (.if_icmp .eq 9, 3) := by decide +kernel
theorem dX7_withinBounds_6 : decode cX7_withinBounds 6 = .ok (.iload_n 1, 1) := by decide +kernel
theorem dX7_withinBounds_7 : decode cX7_withinBounds 7 = .ok (.bipush 114, 2) := by decide +kernel
theorem dX7_withinBounds_9 : decode cX7_withinBounds 9 = .ok (.if_icmp .ne 20, 3) := by decide +kernel
theorem dX7_withinBounds_12 : decode cX7_withinBounds 12 = .ok (.iload_n 2, 1) := by decide +kernel
theorem dX7_withinBounds_13 : decode cX7_withinBounds 13 = .ok (.iconst 1, 1) := by decide +kernel
theorem dX7_withinBounds_14 : decode cX7_withinBounds 14 = .ok (.if_icmp .lt 13, 3) := by decide +kernel
theorem dX7_withinBounds_17 : decode cX7_withinBounds 17 = .ok (.iload_n 2, 1) := by decide +kernel
theorem dX7_withinBounds_18 : decode cX7_withinBounds 18 = .ok (.bipush 20, 2) := by decide +kernel
theorem dX7_withinBounds_20 : decode cX7_withinBounds 20 = .ok (.if_icmp .gt 7, 3) := by decide +kernel
theorem dX7_withinBounds_23 : decode cX7_withinBounds 23 = .ok (.iconst 1, 1) := by decide +kernel
theorem dX7_withinBounds_24 : decode cX7_withinBounds 24 = .ok (.goto 4, 3) := by decide +kernel
theorem dX7_withinBounds_27 : decode cX7_withinBounds 27 = .ok (.iconst 0, 1) := by decide +kernel
theorem dX7_withinBounds_28 : decode cX7_withinBounds 28 = .ok (.ireturn, 1) := by decide +kernel
theorem dX7_withinBounds_29 : decode cX7_withinBounds 29 = .ok (.iload_n 2, 1) := by decide +kernel
theorem dX7_withinBounds_30 : decode cX7_withinBounds 30 = .ok (.aload_n 0, 1) := by decide +kernel
theorem dX7_withinBounds_31 : decode cX7_withinBounds 31 = .ok (.getfield 19, 3) := by decide +kernel
theorem dX7_withinBounds_34 : decode cX7_withinBounds 34 = .ok (.invokevirtual 98, 3) := by decide +kernel
theorem dX7_withinBounds_37 : decode cX7_withinBounds 37 = .ok (.if_icmp .gt 7, 3) := by decide +kernel
theorem dX7_withinBounds_40 : decode cX7_withinBounds 40 = .ok (.iconst 1, 1) := by decide +kernel
theorem dX7_withinBounds_41 : decode cX7_withinBounds 41 = .ok (.goto 4, 3) := by decide +kernel
theorem dX7_withinBounds_44 : decode cX7_withinBounds 44 = .ok (.iconst 0, 1) := by decide +kernel
theorem dX7_withinBounds_45 : decode cX7_withinBounds 45 = .ok (.ireturn, 1) := by decide +kernel
theorem dX7_enter_0 : decode cX7_enter 0 = .ok (.iload_n 1, 1) := by decide +kernel
theorem dX7_enter_1 : decode cX7_enter 1 = .ok (.lookupswitch 64 #[(98, 35), (109, 55), (114, 45)], 35) := by decide +kernel
theorem dX7_enter_36 : decode cX7_enter 36 = .ok (.aload_n 0, 1) := by decide +kernel
theorem dX7_enter_37 : decode cX7_enter 37 = .ok (.getfield 19, 3) := by decide +kernel
theorem dX7_enter_40 : decode cX7_enter 40 = .ok (.iload_n 2, 1) := by decide +kernel
theorem dX7_enter_41 : decode cX7_enter 41 = .ok (.invokevirtual 101, 3) := by decide +kernel
theorem dX7_enter_44 : decode cX7_enter 44 = .ok (.iconst 1, 1) := by decide +kernel
theorem dX7_enter_45 : decode cX7_enter 45 = .ok (.ireturn, 1) := by decide +kernel
theorem dX7_enter_46 : decode cX7_enter 46 = .ok (.aload_n 0, 1) := by decide +kernel
theorem dX7_enter_47 : decode cX7_enter 47 = .ok (.getfield 19, 3) := by decide +kernel
theorem dX7_enter_50 : decode cX7_enter 50 = .ok (.iload_n 2, 1) := by decide +kernel
theorem dX7_enter_51 : decode cX7_enter 51 = .ok (.invokevirtual 105, 3) := by decide +kernel
theorem dX7_enter_54 : decode cX7_enter 54 = .ok (.iconst 1, 1) := by decide +kernel
theorem dX7_enter_55 : decode cX7_enter 55 = .ok (.ireturn, 1) := by decide +kernel
theorem dX7_enter_56 : decode cX7_enter 56 = .ok (.aload_n 0, 1) := by decide +kernel
theorem dX7_enter_57 : decode cX7_enter 57 = .ok (.getfield 19, 3) := by decide +kernel
theorem dX7_enter_60 : decode cX7_enter 60 = .ok (.iload_n 2, 1) := by decide +kernel
theorem dX7_enter_61 : decode cX7_enter 61 = .ok (.invokevirtual 108, 3) := by decide +kernel
theorem dX7_enter_64 : decode cX7_enter 64 = .ok (.ireturn, 1) := by decide +kernel
theorem dX7_enter_65 : decode cX7_enter 65 = .ok (.aload_n 0, 1) := by decide +kernel
theorem dX7_enter_66 : decode cX7_enter 66 = .ok (.getfield 19, 3) := by decide +kernel
theorem dX7_enter_69 : decode cX7_enter 69 = .ok (.iload_n 2, 1) := by decide +kernel
theorem dX7_enter_70 : decode cX7_enter 70 = .ok (.invokevirtual 111, 3) := by decide +kernel
theorem dX7_enter_73 : decode cX7_enter 73 = .ok (.ireturn, 1) := by decide +kernel
theorem dX8_init_0 : decode cX8_init 0 = .ok (.aload_n 0, 1) := by decide +kernel
theorem dX8_init_1 : decode cX8_init 1 = .ok (.invokespecial 3, 3) := by decide +kernel
theorem dX8_init_4 : decode cX8_init 4 = .ok (.aload_n 0, 1) := by decide +kernel
theorem dX8_init_5 : decode cX8_init 5 = .ok (.aload_n 1, 1) := by decide +kernel
theorem dX8_init_6 : decode cX8_init 6 = .ok (.putfield 9, 3) := by decide +kernel
theorem dX8_init_9 : decode cX8_init 9 = .ok (.aload_n 0, 1) := by decide +kernel
theorem dX8_init_10 : decode cX8_init 10 = .ok (.aload_n 2, 1) := by decide +kernel
theorem dX8_init_11 : decode cX8_init 11 = .ok (.putfield 15, 3) := by decide +kernel
theorem dX8_init_14 : decode cX8_init 14 = .ok (.return_, 1) := by decide +kernel
theorem dX8_search_0 : decode cX8_search 0 = .ok (.aload_n 0, 1) := by decide +kernel
theorem dX8_search_1 : decode cX8_search 1 = .ok (.aload_n 1, 1) := by decide +kernel
theorem dX8_search_2 : decode cX8_search 2 = .ok (.putfield 15, 3) := by decide +kernel
theorem dX8_search_5 : decode cX8_search 5 = .ok (.aload_n 0, 1) := by decide +kernel
theorem dX8_search_6 : decode cX8_search 6 = .ok (.iload_n 2, 1) := by decide +kernel
theorem dX8_search_7 : decode cX8_search 7 = .ok (.bipush 8, 2) := by decide +kernel
theorem dX8_search_9 : decode cX8_search 9 = .ok (.invokestatic 19, 3) := by decide +kernel
theorem dX8_search_12 : decode cX8_search 12 = .ok (.putfield 25, 3) := by decide +kernel
theorem dX8_search_15 : decode cX8_search 15 = .ok (.aload_n 0, 1) := by decide +kernel
theorem dX8_search_16 : decode cX8_search 16 = .ok (.aload_n 0, 1) := by decide +kernel
theorem dX8_search_17 : decode cX8_search 17 = .ok (.getfield 15, 3) := by decide +kernel
theorem dX8_search_20 : decode cX8_search 20 = .ok (.getfield 29, 3) := by decide +kernel
theorem dX8_search_23 : decode cX8_search 23 = .ok (.invokestatic 34, 3) := by decide +kernel
theorem dX8_search_26 : decode cX8_search 26 = .ok (.putfield 40, 3) := by decide +kernel
theorem dX8_search_29 : decode cX8_search 29 = .ok (.aload_n 0, 1) := by decide +kernel
theorem dX8_search_30 : decode cX8_search 30 = .ok (.iconst 0, 1) := by decide +kernel
theorem dX8_search_31 : decode cX8_search 31 = .ok (.putfield 42, 3) := by decide +kernel
theorem dX8_search_34 : decode cX8_search 34 = .ok (.aload_n 0, 1) := by decide +kernel
theorem dX8_search_35 : decode cX8_search 35 = .ok (.iconst (-1), 1) := by decide +kernel
theorem dX8_search_36 : decode cX8_search 36 = .ok (.putfield 45, 3) := by decide +kernel
theorem dX8_search_39 : decode cX8_search 39 = .ok (.aload_n 0, 1) := by decide +kernel
theorem dX8_search_40 : decode cX8_search 40 = .ok (.getfield 9, 3) := by decide +kernel
theorem dX8_search_43 : decode cX8_search 43 = .ok (.invokevirtual 48, 3) := by decide +kernel
theorem dX8_search_46 : decode cX8_search 46 = .ok (.aload_n 0, 1) := by decide +kernel
theorem dX8_search_47 : decode cX8_search 47 = .ok (.aload_n 0, 1) := by decide +kernel
theorem dX8_search_48 : decode cX8_search 48 = .ok (.getfield 40, 3) := by decide +kernel
theorem dX8_search_51 : decode cX8_search 51 = .ok (.iconst 0, 1) := by decide +kernel
theorem dX8_search_52 : decode cX8_search 52 = .ok (.iconst 0, 1) := by decide +kernel
theorem dX8_search_53 : decode cX8_search 53 = .ok (.invokevirtual 53, 3) := by decide +kernel
theorem dX8_search_56 : decode cX8_search 56 = .ok (.return_, 1) := by decide +kernel
theorem dX8_goOn_0 : decode cX8_goOn 0 = .ok (.iload_n 1, 1) := by decide +kernel
theorem dX8_goOn_1 : decode cX8_goOn 1 = .ok (.istore 4, 2) := by decide +kernel
theorem dX8_goOn_3 : decode cX8_goOn 3 = .ok (.iconst 0, 1) := by decide +kernel
theorem dX8_goOn_4 : decode cX8_goOn 4 = .ok (.istore 5, 2) := by decide +kernel
theorem dX8_goOn_6 : decode cX8_goOn 6 = .ok (.aload_n 0, 1) := by decide +kernel
theorem dX8_goOn_7 : decode cX8_goOn 7 = .ok (.getfield 9, 3) := by decide +kernel
theorem dX8_goOn_10 : decode cX8_goOn 10 = .ok (.iload 4, 2) := by decide +kernel
theorem dX8_goOn_12 : decode cX8_goOn 12 = .ok (.invokevirtual 57, 3) := by decide +kernel
theorem dX8_goOn_15 : decode cX8_goOn 15 = .ok (.istore 6, 2) := by decide +kernel
theorem dX8_goOn_17 : decode cX8_goOn 17 = .ok (.iload 6, 2) := by decide +kernel
theorem dX8_goOn_19 : decode cX8_goOn 19 = .ok (.ifCond .eq 50, 3) := by decide +kernel
theorem dX8_goOn_22 : decode cX8_goOn 22 = .ok (.iload 5, 2) := by decide +kernel
theorem dX8_goOn_24 : decode cX8_goOn 24 = .ok (.iconst 1, 1) := by decide +kernel
theorem dX8_goOn_25 : decode cX8_goOn 25 = .ok (.iadd, 1) := by decide +kernel
theorem dX8_goOn_26 : decode cX8_goOn 26 = .ok (.aload_n 0, 1) := by decide +kernel
theorem dX8_goOn_27 : decode cX8_goOn 27 = .ok (.getfield 15, 3) := by decide +kernel
theorem dX8_goOn_30 : decode cX8_goOn 30 = .ok (.getfield 61, 3) := by decide +kernel
theorem dX8_goOn_33 : decode cX8_goOn 33 = .ok (.if_icmp .ge 36, 3) := by decide +kernel
theorem dX8_goOn_36 : decode cX8_goOn 36 = .ok (.aload_n 0, 1) := by decide +kernel
theorem dX8_goOn_37 : decode cX8_goOn 37 = .ok (.getfield 15, 3) := by decide +kernel
theorem dX8_goOn_40 : decode cX8_goOn 40 = .ok (.iload 5, 2) := by decide +kernel
theorem dX8_goOn_42 : decode cX8_goOn 42 = .ok (.invokevirtual 64, 3) := by decide +kernel
theorem dX8_goOn_45 : decode cX8_goOn 45 = .ok (.iload 4, 2) := by decide +kernel
theorem dX8_goOn_47 : decode cX8_goOn 47 = .ok (.invokevirtual 68, 3) := by decide +kernel
theorem dX8_goOn_50 : decode cX8_goOn 50 = .ok (.istore 4, 2) := by decide +kernel
theorem dX8_goOn_52 : decode cX8_goOn 52 = .ok (.iinc 5 1, 3) := by decide +kernel
theorem dX8_goOn_55 : decode cX8_goOn 55 = .ok (.aload_n 0, 1) := by decide +kernel
theorem dX8_goOn_56 : decode cX8_goOn 56 = .ok (.getfield 9, 3) := by decide +kernel
theorem dX8_goOn_59 : decode cX8_goOn 59 = .ok (.iload 4, 2) := by decide +kernel
theorem dX8_goOn_61 : decode cX8_goOn 61 = .ok (.invokevirtual 57, 3) := by decide +kernel
theorem dX8_goOn_64 : decode cX8_goOn 64 = .ok (.istore 6, 2) := by decide +kernel
theorem dX8_goOn_66 : decode cX8_goOn 66 = .ok (.goto (-49), 3) := by decide +kernel
theorem dX8_goOn_69 : decode cX8_goOn 69 = .ok (.iload 6, 2) := by decide +kernel
theorem dX8_goOn_71 : decode cX8_goOn 71 = .ok (.ifCond .eq 55, 3) := by decide +kernel
theorem dX8_goOn_74 : decode cX8_goOn 74 = .ok (.aload_n 0, 1) := by decide +kernel
theorem dX8_goOn_75 : decode cX8_goOn 75 = .ok (.aload_n 0, 1) := by decide +kernel
theorem dX8_goOn_76 : decode cX8_goOn 76 = .ok (.getfield 15, 3) := by decide +kernel
theorem dX8_goOn_79 : decode cX8_goOn 79 = .ok (.aload_n 0, 1) := by decide +kernel
theorem dX8_goOn_80 : decode cX8_goOn 80 = .ok (.getfield 15, 3) := by decide +kernel
theorem dX8_goOn_83 : decode cX8_goOn 83 = .ok (.getfield 61, 3) := by decide +kernel
theorem dX8_goOn_86 : decode cX8_goOn 86 = .ok (.iconst 1, 1) := by decide +kernel
theorem dX8_goOn_87 : decode cX8_goOn 87 = .ok (.isub, 1) := by decide +kernel
theorem dX8_goOn_88 : decode cX8_goOn 88 = .ok (.invokevirtual 64, 3) := by decide +kernel
theorem dX8_goOn_91 : decode cX8_goOn 91 = .ok (.iload 4, 2) := by decide +kernel
theorem dX8_goOn_93 : decode cX8_goOn 93 = .ok (.invokevirtual 68, 3) := by decide +kernel
theorem dX8_goOn_96 : decode cX8_goOn 96 = .ok (.iload_n 2, 1) := by decide +kernel
theorem dX8_goOn_97 : decode cX8_goOn 97 = .ok (.iload_n 3, 1) := by decide +kernel
theorem dX8_goOn_98 : decode cX8_goOn 98 = .ok (.invokevirtual 73, 3) := by decide +kernel
theorem dX8_goOn_101 : decode cX8_goOn 101 = .ok (.aload_n 0, 1) := by decide +kernel
theorem dX8_goOn_102 : decode cX8_goOn 102 = .ok (.aload_n 0, 1) := by decide +kernel
theorem dX8_goOn_103 : decode cX8_goOn 103 = .ok (.getfield 15, 3) := by decide +kernel
theorem dX8_goOn_106 : decode cX8_goOn 106 = .ok (.getfield 76, 3) := by decide +kernel
theorem dX8_goOn_109 : decode cX8_goOn 109 = .ok (.iload 4, 2) := by decide +kernel
theorem dX8_goOn_111 : decode cX8_goOn 111 = .ok (.invokevirtual 68, 3) := by decide +kernel
theorem dX8_goOn_114 : decode cX8_goOn 114 = .ok (.iload_n 2, 1) := by decide +kernel
theorem dX8_goOn_115 : decode cX8_goOn 115 = .ok (.iload_n 3, 1) := by decide +kernel
theorem dX8_goOn_116 : decode cX8_goOn 116 = .ok (.iconst 1, 1) := by decide +kernel
theorem dX8_goOn_117 : decode cX8_goOn 117 = .ok (.iload_n 2, 1) := by decide +kernel
theorem dX8_goOn_118 : decode cX8_goOn 118 = .ok (.ishl, 1) := by decide +kernel
theorem dX8_goOn_119 : decode cX8_goOn 119 = .ok (.ior, 1) := by decide +kernel
theorem dX8_goOn_120 : decode cX8_goOn 120 = .ok (.invokevirtual 73, 3) := by decide +kernel
theorem dX8_goOn_123 : decode cX8_goOn 123 = .ok (.iinc 5 1, 3) := by decide +kernel
theorem dX8_goOn_126 : decode cX8_goOn 126 = .ok (.aload_n 0, 1) := by decide +kernel
theorem dX8_goOn_127 : decode cX8_goOn 127 = .ok (.iload_n 1, 1) := by decide +kernel
theorem dX8_goOn_128 : decode cX8_goOn 128 = .ok (.iload 5, 2) := by decide +kernel
theorem dX8_goOn_130 : decode cX8_goOn 130 = .ok (.invokevirtual 80, 3) := by decide +kernel
theorem dX8_goOn_133 : decode cX8_goOn 133 = .ok (.return_, 1) := by decide +kernel
theorem dX8_endLead_0 : decode cX8_endLead 0 = .ok (.iload_n 2, 1) := by decide +kernel
theorem dX8_endLead_1 : decode cX8_endLead 1 = .ok (.iconst 1, 1) := by decide +kernel
theorem dX8_endLead_2 : decode cX8_endLead 2 = .ok (.iadd, 1) := by decide +kernel
theorem dX8_endLead_3 : decode cX8_endLead 3 = .ok (.aload_n 0, 1) := by decide +kernel
theorem dX8_endLead_4 : decode cX8_endLead 4 = .ok (.getfield 25, 3) := by decide +kernel
theorem dX8_endLead_7 : decode cX8_endLead 7 = .ok (.if_icmp .ge 15, 3) := by decide +kernel
theorem dX8_endLead_10 : decode cX8_endLead 10 = .ok (.aload_n 0, 1) := by decide +kernel
theorem dX8_endLead_11 : decode cX8_endLead 11 = .ok (.iload_n 1, 1) := by decide +kernel
theorem dX8_endLead_12 : decode cX8_endLead 12 = .ok (.iload_n 2, 1) := by decide +kernel
theorem dX8_endLead_13 : decode cX8_endLead 13 = .ok (.iconst 1, 1) := by decide +kernel
theorem dX8_endLead_14 : decode cX8_endLead 14 = .ok (.iadd, 1) := by decide +kernel
theorem dX8_endLead_15 : decode cX8_endLead 15 = .ok (.iload_n 3, 1) := by decide +kernel
theorem dX8_endLead_16 : decode cX8_endLead 16 = .ok (.invokevirtual 53, 3) := by decide +kernel
theorem dX8_endLead_19 : decode cX8_endLead 19 = .ok (.goto 44, 3) := by decide +kernel
theorem dX8_endLead_22 : decode cX8_endLead 22 = .ok (.iload_n 1, 1) := by decide +kernel
theorem dX8_endLead_23 : decode cX8_endLead 23 = .ok (.aload_n 0, 1) := by decide +kernel
theorem dX8_endLead_24 : decode cX8_endLead 24 = .ok (.getfield 40, 3) := by decide +kernel
theorem dX8_endLead_27 : decode cX8_endLead 27 = .ok (.if_icmp .ne 36, 3) := by decide +kernel
theorem dX8_endLead_30 : decode cX8_endLead 30 = .ok (.aload_n 0, 1) := by decide +kernel
theorem dX8_endLead_31 : decode cX8_endLead 31 = .ok (.aload_n 0, 1) := by decide +kernel
theorem dX8_endLead_32 : decode cX8_endLead 32 = .ok (.getfield 42, 3) := by decide +kernel
theorem dX8_endLead_35 : decode cX8_endLead 35 = .ok (.ifCond .ne 7, 3) := by decide +kernel
theorem dX8_endLead_38 : decode cX8_endLead 38 = .ok (.iload_n 3, 1) := by decide +kernel
theorem dX8_endLead_39 : decode cX8_endLead 39 = .ok (.goto 11, 3) := by decide +kernel
theorem dX8_endLead_42 : decode cX8_endLead 42 = .ok (.aload_n 0, 1) := by decide +kernel
theorem dX8_endLead_43 : decode cX8_endLead 43 = .ok (.getfield 45, 3) := by decide +kernel
theorem dX8_endLead_46 : decode cX8_endLead 46 = .ok (.iload_n 3, 1) := by decide +kernel
theorem dX8_endLead_47 : decode cX8_endLead 47 = .ok (.invokestatic 19, 3) := by decide +kernel
theorem dX8_endLead_50 : decode cX8_endLead 50 = .ok (.putfield 45, 3) := by decide +kernel
theorem dX8_endLead_53 : decode cX8_endLead 53 = .ok (.aload_n 0, 1) := by decide +kernel
theorem dX8_endLead_54 : decode cX8_endLead 54 = .ok (.dup, 1) := by decide +kernel
theorem dX8_endLead_55 : decode cX8_endLead 55 = .ok (.getfield 42, 3) := by decide +kernel
theorem dX8_endLead_58 : decode cX8_endLead 58 = .ok (.iconst 1, 1) := by decide +kernel
theorem dX8_endLead_59 : decode cX8_endLead 59 = .ok (.iadd, 1) := by decide +kernel
theorem dX8_endLead_60 : decode cX8_endLead 60 = .ok (.putfield 42, 3) := by decide +kernel
theorem dX8_endLead_63 : decode cX8_endLead 63 = .ok (.return_, 1) := by decide +kernel
theorem dX8_leave_0 : decode cX8_leave 0 = .ok (.iload_n 1, 1) := by decide +kernel
theorem dX8_leave_1 : decode cX8_leave 1 = .ok (.istore_n 3, 1) := by decide +kernel
theorem dX8_leave_2 : decode cX8_leave 2 = .ok (.iconst 0, 1) := by decide +kernel
theorem dX8_leave_3 : decode cX8_leave 3 = .ok (.istore 4, 2) := by decide +kernel
theorem dX8_leave_5 : decode cX8_leave 5 = .ok (.iload 4, 2) := by decide +kernel
theorem dX8_leave_7 : decode cX8_leave 7 = .ok (.iload_n 2, 1) := by decide +kernel
theorem dX8_leave_8 : decode cX8_leave 8 = .ok (.if_icmp .ge 31, 3) := by decide +kernel
theorem dX8_leave_11 : decode cX8_leave 11 = .ok (.aload_n 0, 1) := by decide +kernel
theorem dX8_leave_12 : decode cX8_leave 12 = .ok (.getfield 9, 3) := by decide +kernel
theorem dX8_leave_15 : decode cX8_leave 15 = .ok (.iload_n 3, 1) := by decide +kernel
theorem dX8_leave_16 : decode cX8_leave 16 = .ok (.invokevirtual 84, 3) := by decide +kernel
theorem dX8_leave_19 : decode cX8_leave 19 = .ok (.aload_n 0, 1) := by decide +kernel
theorem dX8_leave_20 : decode cX8_leave 20 = .ok (.getfield 15, 3) := by decide +kernel
theorem dX8_leave_23 : decode cX8_leave 23 = .ok (.iload 4, 2) := by decide +kernel
theorem dX8_leave_25 : decode cX8_leave 25 = .ok (.invokevirtual 64, 3) := by decide +kernel
theorem dX8_leave_28 : decode cX8_leave 28 = .ok (.iload_n 3, 1) := by decide +kernel
theorem dX8_leave_29 : decode cX8_leave 29 = .ok (.invokevirtual 68, 3) := by decide +kernel
theorem dX8_leave_32 : decode cX8_leave 32 = .ok (.istore_n 3, 1) := by decide +kernel
theorem dX8_leave_33 : decode cX8_leave 33 = .ok (.iinc 4 1, 3) := by decide +kernel
theorem dX8_leave_36 : decode cX8_leave 36 = .ok (.goto (-31), 3) := by decide +kernel
theorem dX8_leave_39 : decode cX8_leave 39 = .ok (.return_, 1) := by decide +kernel
theorem dX9_init_0 : decode cX9_init 0 = .ok (.aload_n 0, 1) := by decide +kernel
theorem dX9_init_1 : decode cX9_init 1 = .ok (.invokespecial 3, 3) := by decide +kernel
theorem dX9_init_4 : decode cX9_init 4 = .ok (.aload_n 0, 1) := by decide +kernel
theorem dX9_init_5 : decode cX9_init 5 = .ok (.new 9, 3) := by decide +kernel
theorem dX9_init_8 : decode cX9_init 8 = .ok (.dup, 1) := by decide +kernel
theorem dX9_init_9 : decode cX9_init 9 = .ok (.invokespecial 11, 3) := by decide +kernel
theorem dX9_init_12 : decode cX9_init 12 = .ok (.putfield 12, 3) := by decide +kernel
theorem dX9_init_15 : decode cX9_init 15 = .ok (.aload_n 0, 1) := by decide +kernel
theorem dX9_init_16 : decode cX9_init 16 = .ok (.bipush 12, 2) := by decide +kernel
theorem dX9_init_18 : decode cX9_init 18 = .ok (.anewarray 9, 3) := by decide +kernel
theorem dX9_init_21 : decode cX9_init 21 = .ok (.putfield 18, 3) := by decide +kernel
theorem dX9_init_24 : decode cX9_init 24 = .ok (.aload_n 0, 1) := by decide +kernel
theorem dX9_init_25 : decode cX9_init 25 = .ok (.bipush 6, 2) := by decide +kernel
theorem dX9_init_27 : decode cX9_init 27 = .ok (.newarray .int, 2) := by decide +kernel
theorem dX9_init_29 : decode cX9_init 29 = .ok (.putfield 22, 3) := by decide +kernel
theorem dX9_init_32 : decode cX9_init 32 = .ok (.aload_n 0, 1) := by decide +kernel
theorem dX9_init_33 : decode cX9_init 33 = .ok (.bipush 6, 2) := by decide +kernel
theorem dX9_init_35 : decode cX9_init 35 = .ok (.newarray .int, 2) := by decide +kernel
theorem dX9_init_37 : decode cX9_init 37 = .ok (.putfield 26, 3) := by decide +kernel
theorem dX9_init_40 : decode cX9_init 40 = .ok (.iconst 0, 1) := by decide +kernel
theorem dX9_init_41 : decode cX9_init 41 = .ok (.istore_n 1, 1) := by decide +kernel
theorem dX9_init_42 : decode cX9_init 42 = .ok (.iload_n 1, 1) := by decide +kernel
theorem dX9_init_43 : decode cX9_init 43 = .ok (.bipush 12, 2) := by decide +kernel
theorem dX9_init_45 : decode cX9_init 45 = .ok (.if_icmp .ge 22, 3) := by decide +kernel
theorem dX9_init_48 : decode cX9_init 48 = .ok (.aload_n 0, 1) := by decide +kernel
theorem dX9_init_49 : decode cX9_init 49 = .ok (.getfield 18, 3) := by decide +kernel
theorem dX9_init_52 : decode cX9_init 52 = .ok (.iload_n 1, 1) := by decide +kernel
theorem dX9_init_53 : decode cX9_init 53 = .ok (.new 9, 3) := by decide +kernel
theorem dX9_init_56 : decode cX9_init 56 = .ok (.dup, 1) := by decide +kernel
theorem dX9_init_57 : decode cX9_init 57 = .ok (.invokespecial 11, 3) := by decide +kernel
theorem dX9_init_60 : decode cX9_init 60 = .ok (.aastore, 1) := by decide +kernel
theorem dX9_init_61 : decode cX9_init 61 = .ok (.iinc 1 1, 3) := by decide +kernel
theorem dX9_init_64 : decode cX9_init 64 = .ok (.goto (-22), 3) := by decide +kernel
theorem dX9_init_67 : decode cX9_init 67 = .ok (.return_, 1) := by decide +kernel
theorem dX9_clear_0 : decode cX9_clear 0 = .ok (.aload_n 0, 1) := by decide +kernel
theorem dX9_clear_1 : decode cX9_clear 1 = .ok (.iconst 0, 1) := by decide +kernel
theorem dX9_clear_2 : decode cX9_clear 2 = .ok (.putfield 29, 3) := by decide +kernel
theorem dX9_clear_5 : decode cX9_clear 5 = .ok (.aload_n 0, 1) := by decide +kernel
theorem dX9_clear_6 : decode cX9_clear 6 = .ok (.iconst 0, 1) := by decide +kernel
theorem dX9_clear_7 : decode cX9_clear 7 = .ok (.putfield 33, 3) := by decide +kernel
theorem dX9_clear_10 : decode cX9_clear 10 = .ok (.aload_n 0, 1) := by decide +kernel
theorem dX9_clear_11 : decode cX9_clear 11 = .ok (.iconst 0, 1) := by decide +kernel
theorem dX9_clear_12 : decode cX9_clear 12 = .ok (.putfield 36, 3) := by decide +kernel
theorem dX9_clear_15 : decode cX9_clear 15 = .ok (.aload_n 0, 1) := by decide +kernel
theorem dX9_clear_16 : decode cX9_clear 16 = .ok (.iconst 0, 1) := by decide +kernel
theorem dX9_clear_17 : decode cX9_clear 17 = .ok (.putfield 39, 3) := by decide +kernel
theorem dX9_clear_20 : decode cX9_clear 20 = .ok (.return_, 1) := by decide +kernel
theorem dX9_stands_0 : decode cX9_stands 0 = .ok (.aload_n 0, 1) := by decide +kernel
theorem dX9_stands_1 : decode cX9_stands 1 = .ok (.getfield 29, 3) := by decide +kernel
theorem dX9_stands_4 : decode cX9_stands 4 = .ok (.ifCond .le 7, 3) := by decide +kernel
theorem dX9_stands_7 : decode cX9_stands 7 = .ok (.iconst 1, 1) := by decide +kernel
theorem dX9_stands_8 : decode cX9_stands 8 = .ok (.goto 4, 3) := by decide +kernel
theorem dX9_stands_11 : decode cX9_stands 11 = .ok (.iconst 0, 1) := by decide +kernel
theorem dX9_stands_12 : decode cX9_stands 12 = .ok (.ireturn, 1) := by decide +kernel
theorem dX9_hasBell_0 : decode cX9_hasBell 0 = .ok (.iload_n 1, 1) := by decide +kernel
theorem dX9_hasBell_1 : decode cX9_hasBell 1 = .ok (.ifCond .lt 15, 3) := by decide +kernel
theorem dX9_hasBell_4 : decode cX9_hasBell 4 = .ok (.iload_n 1, 1) := by decide +kernel
theorem dX9_hasBell_5 : decode cX9_hasBell 5 = .ok (.aload_n 0, 1) := by decide +kernel
theorem dX9_hasBell_6 : decode cX9_hasBell 6 = .ok (.getfield 29, 3) := by decide +kernel
theorem dX9_hasBell_9 : decode cX9_hasBell 9 = .ok (.if_icmp .ge 7, 3) := by decide +kernel
theorem dX9_hasBell_12 : decode cX9_hasBell 12 = .ok (.iconst 1, 1) := by decide +kernel
theorem dX9_hasBell_13 : decode cX9_hasBell 13 = .ok (.goto 4, 3) := by decide +kernel
theorem dX9_hasBell_16 : decode cX9_hasBell 16 = .ok (.iconst 0, 1) := by decide +kernel
theorem dX9_hasBell_17 : decode cX9_hasBell 17 = .ok (.ireturn, 1) := by decide +kernel
theorem dX9_hasSuitor_0 : decode cX9_hasSuitor 0 = .ok (.iload_n 1, 1) := by decide +kernel
theorem dX9_hasSuitor_1 : decode cX9_hasSuitor 1 = .ok (.ifCond .lt 15, 3) := by decide +kernel
theorem dX9_hasSuitor_4 : decode cX9_hasSuitor 4 = .ok (.iload_n 1, 1) := by decide +kernel
theorem dX9_hasSuitor_5 : decode cX9_hasSuitor 5 = .ok (.aload_n 0, 1) := by decide +kernel
theorem dX9_hasSuitor_6 : decode cX9_hasSuitor 6 = .ok (.getfield 36, 3) := by decide +kernel
theorem dX9_hasSuitor_9 : decode cX9_hasSuitor 9 = .ok (.if_icmp .ge 7, 3) := by decide +kernel
theorem dX9_hasSuitor_12 : decode cX9_hasSuitor 12 = .ok (.iconst 1, 1) := by decide +kernel
theorem dX9_hasSuitor_13 : decode cX9_hasSuitor 13 = .ok (.goto 4, 3) := by decide +kernel
theorem dX9_hasSuitor_16 : decode cX9_hasSuitor 16 = .ok (.iconst 0, 1) := by decide +kernel
theorem dX9_hasSuitor_17 : decode cX9_hasSuitor 17 = .ok (.ireturn, 1) := by decide +kernel
theorem dX9_allPlaces_0 : decode cX9_allPlaces 0 = .ok (.iconst 1, 1) := by decide +kernel
theorem dX9_allPlaces_1 : decode cX9_allPlaces 1 = .ok (.aload_n 0, 1) := by decide +kernel
theorem dX9_allPlaces_2 : decode cX9_allPlaces 2 = .ok (.getfield 29, 3) := by decide +kernel
theorem dX9_allPlaces_5 : decode cX9_allPlaces 5 = .ok (.ishl, 1) := by decide +kernel
theorem dX9_allPlaces_6 : decode cX9_allPlaces 6 = .ok (.iconst 1, 1) := by decide +kernel
theorem dX9_allPlaces_7 : decode cX9_allPlaces 7 = .ok (.isub, 1) := by decide +kernel
theorem dX9_allPlaces_8 : decode cX9_allPlaces 8 = .ok (.ireturn, 1) := by decide +kernel
theorem dX9_weightOf_0 : decode cX9_weightOf 0 = .ok (.aload_n 0, 1) := by decide +kernel
theorem dX9_weightOf_1 : decode cX9_weightOf 1 = .ok (.iload_n 1, 1) := by decide +kernel
theorem dX9_weightOf_2 : decode cX9_weightOf 2 = .ok (.invokevirtual 43, 3) := by decide +kernel
theorem dX9_weightOf_5 : decode cX9_weightOf 5 = .ok (.ifCond .eq 12, 3) := by decide +kernel
theorem dX9_weightOf_8 : decode cX9_weightOf 8 = .ok (.aload_n 0, 1) := by decide +kernel
theorem dX9_weightOf_9 : decode cX9_weightOf 9 = .ok (.getfield 22, 3) := by decide +kernel
theorem dX9_weightOf_12 : decode cX9_weightOf 12 = .ok (.iload_n 1, 1) := by decide +kernel
theorem dX9_weightOf_13 : decode cX9_weightOf 13 = .ok (.iaload, 1) := by decide +kernel
theorem dX9_weightOf_14 : decode cX9_weightOf 14 = .ok (.goto 4, 3) := by decide +kernel
theorem dX9_weightOf_17 : decode cX9_weightOf 17 = .ok (.iconst 0, 1) := by decide +kernel
theorem dX9_weightOf_18 : decode cX9_weightOf 18 = .ok (.ireturn, 1) := by decide +kernel
theorem dX9_strengthOf_0 : decode cX9_strengthOf 0 = .ok (.aload_n 0, 1) := by decide +kernel
theorem dX9_strengthOf_1 : decode cX9_strengthOf 1 = .ok (.iload_n 1, 1) := by decide +kernel
theorem dX9_strengthOf_2 : decode cX9_strengthOf 2 = .ok (.invokevirtual 47, 3) := by decide +kernel
theorem dX9_strengthOf_5 : decode cX9_strengthOf 5 = .ok (.ifCond .eq 12, 3) := by decide +kernel
theorem dX9_strengthOf_8 : decode cX9_strengthOf 8 = .ok (.aload_n 0, 1) := by decide +kernel
theorem dX9_strengthOf_9 : decode cX9_strengthOf 9 = .ok (.getfield 26, 3) := by decide +kernel
theorem dX9_strengthOf_12 : decode cX9_strengthOf 12 = .ok (.iload_n 1, 1) := by decide +kernel
theorem dX9_strengthOf_13 : decode cX9_strengthOf 13 = .ok (.iaload, 1) := by decide +kernel
theorem dX9_strengthOf_14 : decode cX9_strengthOf 14 = .ok (.goto 4, 3) := by decide +kernel
theorem dX9_strengthOf_17 : decode cX9_strengthOf 17 = .ok (.iconst 0, 1) := by decide +kernel
theorem dX9_strengthOf_18 : decode cX9_strengthOf 18 = .ok (.ireturn, 1) := by decide +kernel
theorem dX9_excess_0 : decode cX9_excess 0 = .ok (.iconst 0, 1) := by decide +kernel
theorem dX9_excess_1 : decode cX9_excess 1 = .ok (.aload_n 0, 1) := by decide +kernel
theorem dX9_excess_2 : decode cX9_excess 2 = .ok (.iload_n 2, 1) := by decide +kernel
theorem dX9_excess_3 : decode cX9_excess 3 = .ok (.invokevirtual 50, 3) := by decide +kernel
theorem dX9_excess_6 : decode cX9_excess 6 = .ok (.aload_n 0, 1) := by decide +kernel
theorem dX9_excess_7 : decode cX9_excess 7 = .ok (.iload_n 1, 1) := by decide +kernel
theorem dX9_excess_8 : decode cX9_excess 8 = .ok (.invokevirtual 54, 3) := by decide +kernel
theorem dX9_excess_11 : decode cX9_excess 11 = .ok (.isub, 1) := by decide +kernel
theorem dX9_excess_12 : decode cX9_excess 12 = .ok (.invokestatic 57, 3) := by decide +kernel
theorem dX9_excess_15 : decode cX9_excess 15 = .ok (.ireturn, 1) := by decide +kernel
theorem dX9_changeAt_0 : decode cX9_changeAt 0 = .ok (.iload_n 1, 1) := by decide +kernel
theorem dX9_changeAt_1 : decode cX9_changeAt 1 = .ok (.ifCond .lt 20, 3) := by decide +kernel
theorem dX9_changeAt_4 : decode cX9_changeAt 4 = .ok (.iload_n 1, 1) := by decide +kernel
theorem dX9_changeAt_5 : decode cX9_changeAt 5 = .ok (.aload_n 0, 1) := by decide +kernel
theorem dX9_changeAt_6 : decode cX9_changeAt 6 = .ok (.getfield 33, 3) := by decide +kernel
theorem dX9_changeAt_9 : decode cX9_changeAt 9 = .ok (.if_icmp .ge 12, 3) := by decide +kernel
theorem dX9_changeAt_12 : decode cX9_changeAt 12 = .ok (.aload_n 0, 1) := by decide +kernel
theorem dX9_changeAt_13 : decode cX9_changeAt 13 = .ok (.getfield 18, 3) := by decide +kernel
theorem dX9_changeAt_16 : decode cX9_changeAt 16 = .ok (.iload_n 1, 1) := by decide +kernel
theorem dX9_changeAt_17 : decode cX9_changeAt 17 = .ok (.aaload, 1) := by decide +kernel
theorem dX9_changeAt_18 : decode cX9_changeAt 18 = .ok (.goto 7, 3) := by decide +kernel
theorem dX9_changeAt_21 : decode cX9_changeAt 21 = .ok (.aload_n 0, 1) := by decide +kernel
theorem dX9_changeAt_22 : decode cX9_changeAt 22 = .ok (.getfield 12, 3) := by decide +kernel
theorem dX9_changeAt_25 : decode cX9_changeAt 25 = .ok (.areturn, 1) := by decide +kernel
theorem dX9_addBell_0 : decode cX9_addBell 0 = .ok (.aload_n 0, 1) := by decide +kernel
theorem dX9_addBell_1 : decode cX9_addBell 1 = .ok (.getfield 29, 3) := by decide +kernel
theorem dX9_addBell_4 : decode cX9_addBell 4 = .ok (.bipush 6, 2) := by decide +kernel
theorem dX9_addBell_6 : decode cX9_addBell 6 = .ok (.if_icmp .ge 20, 3) := by decide +kernel
theorem dX9_addBell_9 : decode cX9_addBell 9 = .ok (.aload_n 0, 1) := by decide +kernel
theorem dX9_addBell_10 : decode cX9_addBell 10 = .ok (.getfield 22, 3) := by decide +kernel
theorem dX9_addBell_13 : decode cX9_addBell 13 = .ok (.aload_n 0, 1) := by decide +kernel
theorem dX9_addBell_14 : decode cX9_addBell 14 = .ok (.dup, 1) := by decide +kernel
theorem dX9_addBell_15 : decode cX9_addBell 15 = .ok (.getfield 29, 3) := by decide +kernel
theorem dX9_addBell_18 : decode cX9_addBell 18 = .ok (.dup_x1, 1) := by decide +kernel
theorem dX9_addBell_19 : decode cX9_addBell 19 = .ok (.iconst 1, 1) := by decide +kernel
theorem dX9_addBell_20 : decode cX9_addBell 20 = .ok (.iadd, 1) := by decide +kernel
theorem dX9_addBell_21 : decode cX9_addBell 21 = .ok (.putfield 29, 3) := by decide +kernel
theorem dX9_addBell_24 : decode cX9_addBell 24 = .ok (.iload_n 1, 1) := by decide +kernel
theorem dX9_addBell_25 : decode cX9_addBell 25 = .ok (.iastore, 1) := by decide +kernel
theorem dX9_addBell_26 : decode cX9_addBell 26 = .ok (.return_, 1) := by decide +kernel
theorem dX9_addSuitor_0 : decode cX9_addSuitor 0 = .ok (.aload_n 0, 1) := by decide +kernel
theorem dX9_addSuitor_1 : decode cX9_addSuitor 1 = .ok (.getfield 36, 3) := by decide +kernel
theorem dX9_addSuitor_4 : decode cX9_addSuitor 4 = .ok (.bipush 6, 2) := by decide +kernel
theorem dX9_addSuitor_6 : decode cX9_addSuitor 6 = .ok (.if_icmp .ge 20, 3) := by decide +kernel
theorem dX9_addSuitor_9 : decode cX9_addSuitor 9 = .ok (.aload_n 0, 1) := by decide +kernel
theorem dX9_addSuitor_10 : decode cX9_addSuitor 10 = .ok (.getfield 26, 3) := by decide +kernel
theorem dX9_addSuitor_13 : decode cX9_addSuitor 13 = .ok (.aload_n 0, 1) := by decide +kernel
theorem dX9_addSuitor_14 : decode cX9_addSuitor 14 = .ok (.dup, 1) := by decide +kernel
theorem dX9_addSuitor_15 : decode cX9_addSuitor 15 = .ok (.getfield 36, 3) := by decide +kernel
theorem dX9_addSuitor_18 : decode cX9_addSuitor 18 = .ok (.dup_x1, 1) := by decide +kernel
theorem dX9_addSuitor_19 : decode cX9_addSuitor 19 = .ok (.iconst 1, 1) := by decide +kernel
theorem dX9_addSuitor_20 : decode cX9_addSuitor 20 = .ok (.iadd, 1) := by decide +kernel
theorem dX9_addSuitor_21 : decode cX9_addSuitor 21 = .ok (.putfield 36, 3) := by decide +kernel
theorem dX9_addSuitor_24 : decode cX9_addSuitor 24 = .ok (.iload_n 1, 1) := by decide +kernel
theorem dX9_addSuitor_25 : decode cX9_addSuitor 25 = .ok (.iastore, 1) := by decide +kernel
theorem dX9_addSuitor_26 : decode cX9_addSuitor 26 = .ok (.return_, 1) := by decide +kernel
theorem dX9_addChange_0 : decode cX9_addChange 0 = .ok (.aload_n 0, 1) := by decide +kernel
theorem dX9_addChange_1 : decode cX9_addChange 1 = .ok (.getfield 33, 3) := by decide +kernel
theorem dX9_addChange_4 : decode cX9_addChange 4 = .ok (.bipush 12, 2) := by decide +kernel
theorem dX9_addChange_6 : decode cX9_addChange 6 = .ok (.if_icmp .ge 23, 3) := by decide +kernel
theorem dX9_addChange_9 : decode cX9_addChange 9 = .ok (.aload_n 0, 1) := by decide +kernel
theorem dX9_addChange_10 : decode cX9_addChange 10 = .ok (.getfield 18, 3) := by decide +kernel
theorem dX9_addChange_13 : decode cX9_addChange 13 = .ok (.aload_n 0, 1) := by decide +kernel
theorem dX9_addChange_14 : decode cX9_addChange 14 = .ok (.getfield 33, 3) := by decide +kernel
theorem dX9_addChange_17 : decode cX9_addChange 17 = .ok (.aaload, 1) := by decide +kernel
theorem dX9_addChange_18 : decode cX9_addChange 18 = .ok (.iload_n 1, 1) := by decide +kernel
theorem dX9_addChange_19 : decode cX9_addChange 19 = .ok (.aload_n 0, 1) := by decide +kernel
theorem dX9_addChange_20 : decode cX9_addChange 20 = .ok (.getfield 29, 3) := by decide +kernel
theorem dX9_addChange_23 : decode cX9_addChange 23 = .ok (.invokevirtual 63, 3) := by decide +kernel
theorem dX9_addChange_26 : decode cX9_addChange 26 = .ok (.ifCond .ne 5, 3) := by decide +kernel
theorem dX9_addChange_29 : decode cX9_addChange 29 = .ok (.iconst 0, 1) := by decide +kernel
theorem dX9_addChange_30 : decode cX9_addChange 30 = .ok (.ireturn, 1) := by decide +kernel
theorem dX9_addChange_31 : decode cX9_addChange 31 = .ok (.aload_n 0, 1) := by decide +kernel
theorem dX9_addChange_32 : decode cX9_addChange 32 = .ok (.dup, 1) := by decide +kernel
theorem dX9_addChange_33 : decode cX9_addChange 33 = .ok (.getfield 33, 3) := by decide +kernel
theorem dX9_addChange_36 : decode cX9_addChange 36 = .ok (.iconst 1, 1) := by decide +kernel
theorem dX9_addChange_37 : decode cX9_addChange 37 = .ok (.iadd, 1) := by decide +kernel
theorem dX9_addChange_38 : decode cX9_addChange 38 = .ok (.putfield 33, 3) := by decide +kernel
theorem dX9_addChange_41 : decode cX9_addChange 41 = .ok (.iconst 1, 1) := by decide +kernel
theorem dX9_addChange_42 : decode cX9_addChange 42 = .ok (.ireturn, 1) := by decide +kernel
theorem dX9_tellCall_0 : decode cX9_tellCall 0 = .ok (.aload_n 0, 1) := by decide +kernel
theorem dX9_tellCall_1 : decode cX9_tellCall 1 = .ok (.iconst 1, 1) := by decide +kernel
theorem dX9_tellCall_2 : decode cX9_tellCall 2 = .ok (.putfield 39, 3) := by decide +kernel
theorem dX9_tellCall_5 : decode cX9_tellCall 5 = .ok (.aload_n 0, 1) := by decide +kernel
theorem dX9_tellCall_6 : decode cX9_tellCall 6 = .ok (.getfield 12, 3) := by decide +kernel
theorem dX9_tellCall_9 : decode cX9_tellCall 9 = .ok (.iload_n 1, 1) := by decide +kernel
theorem dX9_tellCall_10 : decode cX9_tellCall 10 = .ok (.aload_n 0, 1) := by decide +kernel
theorem dX9_tellCall_11 : decode cX9_tellCall 11 = .ok (.getfield 29, 3) := by decide +kernel
theorem dX9_tellCall_14 : decode cX9_tellCall 14 = .ok (.invokevirtual 63, 3) := by decide +kernel
theorem dX9_tellCall_17 : decode cX9_tellCall 17 = .ok (.ireturn, 1) := by decide +kernel
theorem dX9_complete_0 : decode cX9_complete 0 = .ok (.aload_n 0, 1) := by decide +kernel
theorem dX9_complete_1 : decode cX9_complete 1 = .ok (.invokevirtual 67, 3) := by decide +kernel
theorem dX9_complete_4 : decode cX9_complete 4 = .ok (.ifCond .eq 19, 3) := by decide +kernel
theorem dX9_complete_7 : decode cX9_complete 7 = .ok (.aload_n 0, 1) := by decide +kernel
theorem dX9_complete_8 : decode cX9_complete 8 = .ok (.getfield 33, 3) := by decide +kernel
theorem dX9_complete_11 : decode cX9_complete 11 = .ok (.ifCond .ne 12, 3) := by decide +kernel
theorem dX9_complete_14 : decode cX9_complete 14 = .ok (.aload_n 0, 1) := by decide +kernel
theorem dX9_complete_15 : decode cX9_complete 15 = .ok (.aload_n 0, 1) := by decide +kernel
theorem dX9_complete_16 : decode cX9_complete 16 = .ok (.invokevirtual 71, 3) := by decide +kernel
theorem dX9_complete_19 : decode cX9_complete 19 = .ok (.invokevirtual 75, 3) := by decide +kernel
theorem dX9_complete_22 : decode cX9_complete 22 = .ok (.pop, 1) := by decide +kernel
theorem dX9_complete_23 : decode cX9_complete 23 = .ok (.aload_n 0, 1) := by decide +kernel
theorem dX9_complete_24 : decode cX9_complete 24 = .ok (.invokevirtual 67, 3) := by decide +kernel
theorem dX9_complete_27 : decode cX9_complete 27 = .ok (.ifCond .eq 19, 3) := by decide +kernel
theorem dX9_complete_30 : decode cX9_complete 30 = .ok (.aload_n 0, 1) := by decide +kernel
theorem dX9_complete_31 : decode cX9_complete 31 = .ok (.getfield 39, 3) := by decide +kernel
theorem dX9_complete_34 : decode cX9_complete 34 = .ok (.ifCond .ne 12, 3) := by decide +kernel
theorem dX9_complete_37 : decode cX9_complete 37 = .ok (.aload_n 0, 1) := by decide +kernel
theorem dX9_complete_38 : decode cX9_complete 38 = .ok (.aload_n 0, 1) := by decide +kernel
theorem dX9_complete_39 : decode cX9_complete 39 = .ok (.invokevirtual 71, 3) := by decide +kernel
theorem dX9_complete_42 : decode cX9_complete 42 = .ok (.invokevirtual 78, 3) := by decide +kernel
theorem dX9_complete_45 : decode cX9_complete 45 = .ok (.pop, 1) := by decide +kernel
theorem dX9_complete_46 : decode cX9_complete 46 = .ok (.return_, 1) := by decide +kernel
theorem dX10_init_0 : decode cX10_init 0 = .ok (.aload_n 0, 1) := by decide +kernel
theorem dX10_init_1 : decode cX10_init 1 = .ok (.invokespecial 1, 3) := by decide +kernel
theorem dX10_init_4 : decode cX10_init 4 = .ok (.return_, 1) := by decide +kernel
theorem dX10_begin_0 : decode cX10_begin 0 = .ok (.aload_n 0, 1) := by decide +kernel
theorem dX10_begin_1 : decode cX10_begin 1 = .ok (.aload_n 1, 1) := by decide +kernel
theorem dX10_begin_2 : decode cX10_begin 2 = .ok (.getfield 7, 3) := by decide +kernel
theorem dX10_begin_5 : decode cX10_begin 5 = .ok (.invokestatic 13, 3) := by decide +kernel
theorem dX10_begin_8 : decode cX10_begin 8 = .ok (.putfield 19, 3) := by decide +kernel
theorem dX10_begin_11 : decode cX10_begin 11 = .ok (.aload_n 0, 1) := by decide +kernel
theorem dX10_begin_12 : decode cX10_begin 12 = .ok (.iconst 0, 1) := by decide +kernel
theorem dX10_begin_13 : decode cX10_begin 13 = .ok (.putfield 24, 3) := by decide +kernel
theorem dX10_begin_16 : decode cX10_begin 16 = .ok (.aload_n 0, 1) := by decide +kernel
theorem dX10_begin_17 : decode cX10_begin 17 = .ok (.iconst 0, 1) := by decide +kernel
theorem dX10_begin_18 : decode cX10_begin 18 = .ok (.putfield 27, 3) := by decide +kernel
theorem dX10_begin_21 : decode cX10_begin 21 = .ok (.return_, 1) := by decide +kernel
theorem dX10_copyFrom_0 : decode cX10_copyFrom 0 = .ok (.aload_n 0, 1) := by decide +kernel
theorem dX10_copyFrom_1 : decode cX10_copyFrom 1 = .ok (.aload_n 1, 1) := by decide +kernel
theorem dX10_copyFrom_2 : decode cX10_copyFrom 2 = .ok (.getfield 19, 3) := by decide +kernel
theorem dX10_copyFrom_5 : decode cX10_copyFrom 5 = .ok (.putfield 19, 3) := by decide +kernel
theorem dX10_copyFrom_8 : decode cX10_copyFrom 8 = .ok (.aload_n 0, 1) := by decide +kernel
theorem dX10_copyFrom_9 : decode cX10_copyFrom 9 = .ok (.aload_n 1, 1) := by decide +kernel
theorem dX10_copyFrom_10 : decode cX10_copyFrom 10 = .ok (.getfield 24, 3) := by decide +kernel
theorem dX10_copyFrom_13 : decode cX10_copyFrom 13 = .ok (.putfield 24, 3) := by decide +kernel
theorem dX10_copyFrom_16 : decode cX10_copyFrom 16 = .ok (.aload_n 0, 1) := by decide +kernel
theorem dX10_copyFrom_17 : decode cX10_copyFrom 17 = .ok (.aload_n 1, 1) := by decide +kernel
theorem dX10_copyFrom_18 : decode cX10_copyFrom 18 = .ok (.getfield 27, 3) := by decide +kernel
theorem dX10_copyFrom_21 : decode cX10_copyFrom 21 = .ok (.putfield 27, 3) := by decide +kernel
theorem dX10_copyFrom_24 : decode cX10_copyFrom 24 = .ok (.return_, 1) := by decide +kernel
theorem dX10_step_0 : decode cX10_step 0 = .ok (.aload_n 0, 1) := by decide +kernel
theorem dX10_step_1 : decode cX10_step 1 = .ok (.getfield 27, 3) := by decide +kernel
theorem dX10_step_4 : decode cX10_step 4 = .ok (.ifCond .eq 10, 3) := by decide +kernel
theorem dX10_step_7 : decode cX10_step 7 = .ok (.aload_n 1, 1) := by decide +kernel
theorem dX10_step_8 : decode cX10_step 8 = .ok (.getfield 31, 3) := by decide +kernel
theorem dX10_step_11 : decode cX10_step 11 = .ok (.goto 11, 3) := by decide +kernel
theorem dX10_step_14 : decode cX10_step 14 = .ok (.aload_n 1, 1) := by decide +kernel
theorem dX10_step_15 : decode cX10_step 15 = .ok (.aload_n 0, 1) := by decide +kernel
theorem dX10_step_16 : decode cX10_step 16 = .ok (.getfield 24, 3) := by decide +kernel
theorem dX10_step_19 : decode cX10_step 19 = .ok (.invokevirtual 35, 3) := by decide +kernel
theorem dX10_step_22 : decode cX10_step 22 = .ok (.astore_n 2, 1) := by decide +kernel
theorem dX10_step_23 : decode cX10_step 23 = .ok (.aload_n 0, 1) := by decide +kernel
theorem dX10_step_24 : decode cX10_step 24 = .ok (.aload_n 2, 1) := by decide +kernel
theorem dX10_step_25 : decode cX10_step 25 = .ok (.aload_n 0, 1) := by decide +kernel
theorem dX10_step_26 : decode cX10_step 26 = .ok (.getfield 19, 3) := by decide +kernel
theorem dX10_step_29 : decode cX10_step 29 = .ok (.invokevirtual 39, 3) := by decide +kernel
theorem dX10_step_32 : decode cX10_step 32 = .ok (.putfield 19, 3) := by decide +kernel
theorem dX10_step_35 : decode cX10_step 35 = .ok (.aload_n 0, 1) := by decide +kernel
theorem dX10_step_36 : decode cX10_step 36 = .ok (.iconst 0, 1) := by decide +kernel
theorem dX10_step_37 : decode cX10_step 37 = .ok (.putfield 27, 3) := by decide +kernel
theorem dX10_step_40 : decode cX10_step 40 = .ok (.aload_n 0, 1) := by decide +kernel
theorem dX10_step_41 : decode cX10_step 41 = .ok (.aload_n 0, 1) := by decide +kernel
theorem dX10_step_42 : decode cX10_step 42 = .ok (.getfield 24, 3) := by decide +kernel
theorem dX10_step_45 : decode cX10_step 45 = .ok (.iconst 1, 1) := by decide +kernel
theorem dX10_step_46 : decode cX10_step 46 = .ok (.iadd, 1) := by decide +kernel
theorem dX10_step_47 : decode cX10_step 47 = .ok (.aload_n 1, 1) := by decide +kernel
theorem dX10_step_48 : decode cX10_step 48 = .ok (.getfield 44, 3) := by decide +kernel
theorem dX10_step_51 : decode cX10_step 51 = .ok (.if_icmp .ge 12, 3) := by decide +kernel
theorem dX10_step_54 : decode cX10_step 54 = .ok (.aload_n 0, 1) := by decide +kernel
theorem dX10_step_55 : decode cX10_step 55 = .ok (.getfield 24, 3) := by decide +kernel
theorem dX10_step_58 : decode cX10_step 58 = .ok (.iconst 1, 1) := by decide +kernel
theorem dX10_step_59 : decode cX10_step 59 = .ok (.iadd, 1) := by decide +kernel
theorem dX10_step_60 : decode cX10_step 60 = .ok (.goto 4, 3) := by decide +kernel
theorem dX10_step_63 : decode cX10_step 63 = .ok (.iconst 0, 1) := by decide +kernel
theorem dX10_step_64 : decode cX10_step 64 = .ok (.putfield 24, 3) := by decide +kernel
theorem dX10_step_67 : decode cX10_step 67 = .ok (.return_, 1) := by decide +kernel
theorem dX10_endsLead_0 : decode cX10_endsLead 0 = .ok (.aload_n 0, 1) := by decide +kernel
theorem dX10_endsLead_1 : decode cX10_endsLead 1 = .ok (.getfield 24, 3) := by decide +kernel
theorem dX10_endsLead_4 : decode cX10_endsLead 4 = .ok (.ifCond .ne 7, 3) := by decide +kernel
theorem dX10_endsLead_7 : decode cX10_endsLead 7 = .ok (.iconst 1, 1) := by decide +kernel
theorem dX10_endsLead_8 : decode cX10_endsLead 8 = .ok (.goto 4, 3) := by decide +kernel
theorem dX10_endsLead_11 : decode cX10_endsLead 11 = .ok (.iconst 0, 1) := by decide +kernel
theorem dX10_endsLead_12 : decode cX10_endsLead 12 = .ok (.ireturn, 1) := by decide +kernel
theorem dX11_init_0 : decode cX11_init 0 = .ok (.aload_n 0, 1) := by decide +kernel
theorem dX11_init_1 : decode cX11_init 1 = .ok (.invokespecial 1, 3) := by decide +kernel
theorem dX11_init_4 : decode cX11_init 4 = .ok (.aload_n 0, 1) := by decide +kernel
theorem dX11_init_5 : decode cX11_init 5 = .ok (.new 7, 3) := by decide +kernel
theorem dX11_init_8 : decode cX11_init 8 = .ok (.dup, 1) := by decide +kernel
theorem dX11_init_9 : decode cX11_init 9 = .ok (.invokespecial 9, 3) := by decide +kernel
theorem dX11_init_12 : decode cX11_init 12 = .ok (.putfield 10, 3) := by decide +kernel
theorem dX11_init_15 : decode cX11_init 15 = .ok (.aload_n 0, 1) := by decide +kernel
theorem dX11_init_16 : decode cX11_init 16 = .ok (.new 7, 3) := by decide +kernel
theorem dX11_init_19 : decode cX11_init 19 = .ok (.dup, 1) := by decide +kernel
theorem dX11_init_20 : decode cX11_init 20 = .ok (.invokespecial 9, 3) := by decide +kernel
theorem dX11_init_23 : decode cX11_init 23 = .ok (.putfield 16, 3) := by decide +kernel
theorem dX11_init_26 : decode cX11_init 26 = .ok (.aload_n 0, 1) := by decide +kernel
theorem dX11_init_27 : decode cX11_init 27 = .ok (.new 19, 3) := by decide +kernel
theorem dX11_init_30 : decode cX11_init 30 = .ok (.dup, 1) := by decide +kernel
theorem dX11_init_31 : decode cX11_init 31 = .ok (.aload_n 0, 1) := by decide +kernel
theorem dX11_init_32 : decode cX11_init 32 = .ok (.getfield 16, 3) := by decide +kernel
theorem dX11_init_35 : decode cX11_init 35 = .ok (.invokespecial 21, 3) := by decide +kernel
theorem dX11_init_38 : decode cX11_init 38 = .ok (.putfield 24, 3) := by decide +kernel
theorem dX11_init_41 : decode cX11_init 41 = .ok (.aload_n 0, 1) := by decide +kernel
theorem dX11_init_42 : decode cX11_init 42 = .ok (.new 28, 3) := by decide +kernel
theorem dX11_init_45 : decode cX11_init 45 = .ok (.dup, 1) := by decide +kernel
theorem dX11_init_46 : decode cX11_init 46 = .ok (.invokespecial 30, 3) := by decide +kernel
theorem dX11_init_49 : decode cX11_init 49 = .ok (.putfield 31, 3) := by decide +kernel
theorem dX11_init_52 : decode cX11_init 52 = .ok (.aload_n 0, 1) := by decide +kernel
theorem dX11_init_53 : decode cX11_init 53 = .ok (.new 35, 3) := by decide +kernel
theorem dX11_init_56 : decode cX11_init 56 = .ok (.dup, 1) := by decide +kernel
theorem dX11_init_57 : decode cX11_init 57 = .ok (.invokespecial 37, 3) := by decide +kernel
theorem dX11_init_60 : decode cX11_init 60 = .ok (.putfield 38, 3) := by decide +kernel
theorem dX11_init_63 : decode cX11_init 63 = .ok (.aload_n 0, 1) := by decide +kernel
theorem dX11_init_64 : decode cX11_init 64 = .ok (.iconst 2, 1) := by decide +kernel
theorem dX11_init_65 : decode cX11_init 65 = .ok (.anewarray 28, 3) := by decide +kernel
theorem dX11_init_68 : decode cX11_init 68 = .ok (.putfield 42, 3) := by decide +kernel
theorem dX11_init_71 : decode cX11_init 71 = .ok (.aload_n 0, 1) := by decide +kernel
theorem dX11_init_72 : decode cX11_init 72 = .ok (.iconst 2, 1) := by decide +kernel
theorem dX11_init_73 : decode cX11_init 73 = .ok (.newarray .int, 2) := by decide +kernel
theorem dX11_init_75 : decode cX11_init 75 = .ok (.putfield 46, 3) := by decide +kernel
theorem dX11_init_78 : decode cX11_init 78 = .ok (.aload_n 0, 1) := by decide +kernel
theorem dX11_init_79 : decode cX11_init 79 = .ok (.iconst 0, 1) := by decide +kernel
theorem dX11_init_80 : decode cX11_init 80 = .ok (.putfield 50, 3) := by decide +kernel
theorem dX11_init_83 : decode cX11_init 83 = .ok (.aload_n 0, 1) := by decide +kernel
theorem dX11_init_84 : decode cX11_init 84 = .ok (.new 54, 3) := by decide +kernel
theorem dX11_init_87 : decode cX11_init 87 = .ok (.dup, 1) := by decide +kernel
theorem dX11_init_88 : decode cX11_init 88 = .ok (.invokespecial 56, 3) := by decide +kernel
theorem dX11_init_91 : decode cX11_init 91 = .ok (.putfield 57, 3) := by decide +kernel
theorem dX11_init_94 : decode cX11_init 94 = .ok (.aload_n 0, 1) := by decide +kernel
theorem dX11_init_95 : decode cX11_init 95 = .ok (.new 61, 3) := by decide +kernel
theorem dX11_init_98 : decode cX11_init 98 = .ok (.dup, 1) := by decide +kernel
theorem dX11_init_99 : decode cX11_init 99 = .ok (.aload_n 0, 1) := by decide +kernel
theorem dX11_init_100 : decode cX11_init 100 = .ok (.getfield 57, 3) := by decide +kernel
theorem dX11_init_103 : decode cX11_init 103 = .ok (.aload_n 0, 1) := by decide +kernel
theorem dX11_init_104 : decode cX11_init 104 = .ok (.getfield 10, 3) := by decide +kernel
theorem dX11_init_107 : decode cX11_init 107 = .ok (.invokespecial 63, 3) := by decide +kernel
theorem dX11_init_110 : decode cX11_init 110 = .ok (.putfield 66, 3) := by decide +kernel
theorem dX11_init_113 : decode cX11_init 113 = .ok (.aload_n 0, 1) := by decide +kernel
theorem dX11_init_114 : decode cX11_init 114 = .ok (.new 70, 3) := by decide +kernel
theorem dX11_init_117 : decode cX11_init 117 = .ok (.dup, 1) := by decide +kernel
theorem dX11_init_118 : decode cX11_init 118 = .ok (.invokespecial 72, 3) := by decide +kernel
theorem dX11_init_121 : decode cX11_init 121 = .ok (.putfield 73, 3) := by decide +kernel
theorem dX11_init_124 : decode cX11_init 124 = .ok (.aload_n 0, 1) := by decide +kernel
theorem dX11_init_125 : decode cX11_init 125 = .ok (.new 77, 3) := by decide +kernel
theorem dX11_init_128 : decode cX11_init 128 = .ok (.dup, 1) := by decide +kernel
theorem dX11_init_129 : decode cX11_init 129 = .ok (.invokespecial 79, 3) := by decide +kernel
theorem dX11_init_132 : decode cX11_init 132 = .ok (.putfield 80, 3) := by decide +kernel
theorem dX11_init_135 : decode cX11_init 135 = .ok (.aload_n 0, 1) := by decide +kernel
theorem dX11_init_136 : decode cX11_init 136 = .ok (.new 84, 3) := by decide +kernel
theorem dX11_init_139 : decode cX11_init 139 = .ok (.dup, 1) := by decide +kernel
theorem dX11_init_140 : decode cX11_init 140 = .ok (.invokespecial 86, 3) := by decide +kernel
theorem dX11_init_143 : decode cX11_init 143 = .ok (.putfield 87, 3) := by decide +kernel
theorem dX11_init_146 : decode cX11_init 146 = .ok (.aload_n 0, 1) := by decide +kernel
theorem dX11_init_147 : decode cX11_init 147 = .ok (.new 91, 3) := by decide +kernel
theorem dX11_init_150 : decode cX11_init 150 = .ok (.dup, 1) := by decide +kernel
theorem dX11_init_151 : decode cX11_init 151 = .ok (.invokespecial 93, 3) := by decide +kernel
theorem dX11_init_154 : decode cX11_init 154 = .ok (.putfield 94, 3) := by decide +kernel
theorem dX11_init_157 : decode cX11_init 157 = .ok (.aload_n 0, 1) := by decide +kernel
theorem dX11_init_158 : decode cX11_init 158 = .ok (.bipush 6, 2) := by decide +kernel
theorem dX11_init_160 : decode cX11_init 160 = .ok (.newarray .int, 2) := by decide +kernel
theorem dX11_init_162 : decode cX11_init 162 = .ok (.putfield 98, 3) := by decide +kernel
theorem dX11_init_165 : decode cX11_init 165 = .ok (.aload_n 0, 1) := by decide +kernel
theorem dX11_init_166 : decode cX11_init 166 = .ok (.iconst (-1), 1) := by decide +kernel
theorem dX11_init_167 : decode cX11_init 167 = .ok (.putfield 101, 3) := by decide +kernel
theorem dX11_init_170 : decode cX11_init 170 = .ok (.aload_n 0, 1) := by decide +kernel
theorem dX11_init_171 : decode cX11_init 171 = .ok (.iconst 0, 1) := by decide +kernel
theorem dX11_init_172 : decode cX11_init 172 = .ok (.putfield 104, 3) := by decide +kernel
theorem dX11_init_175 : decode cX11_init 175 = .ok (.iconst 0, 1) := by decide +kernel
theorem dX11_init_176 : decode cX11_init 176 = .ok (.istore_n 1, 1) := by decide +kernel
theorem dX11_init_177 : decode cX11_init 177 = .ok (.iload_n 1, 1) := by decide +kernel
theorem dX11_init_178 : decode cX11_init 178 = .ok (.iconst 2, 1) := by decide +kernel
theorem dX11_init_179 : decode cX11_init 179 = .ok (.if_icmp .ge 22, 3) := by decide +kernel
theorem dX11_init_182 : decode cX11_init 182 = .ok (.aload_n 0, 1) := by decide +kernel
theorem dX11_init_183 : decode cX11_init 183 = .ok (.getfield 42, 3) := by decide +kernel
theorem dX11_init_186 : decode cX11_init 186 = .ok (.iload_n 1, 1) := by decide +kernel
theorem dX11_init_187 : decode cX11_init 187 = .ok (.new 28, 3) := by decide +kernel
theorem dX11_init_190 : decode cX11_init 190 = .ok (.dup, 1) := by decide +kernel
theorem dX11_init_191 : decode cX11_init 191 = .ok (.invokespecial 30, 3) := by decide +kernel
theorem dX11_init_194 : decode cX11_init 194 = .ok (.aastore, 1) := by decide +kernel
theorem dX11_init_195 : decode cX11_init 195 = .ok (.iinc 1 1, 3) := by decide +kernel
theorem dX11_init_198 : decode cX11_init 198 = .ok (.goto (-21), 3) := by decide +kernel
theorem dX11_init_201 : decode cX11_init 201 = .ok (.return_, 1) := by decide +kernel
theorem dX11_feed_0 : decode cX11_feed 0 = .ok (.iload_n 1, 1) := by decide +kernel
theorem dX11_feed_1 : decode cX11_feed 1 = .ok (.ifCond .lt 10, 3) := by decide +kernel
theorem dX11_feed_4 : decode cX11_feed 4 = .ok (.iload_n 1, 1) := by decide +kernel
theorem dX11_feed_5 : decode cX11_feed 5 = .ok (.sipush 255, 3) := by decide +kernel
theorem dX11_feed_8 : decode cX11_feed 8 = .ok (.if_icmp .le 6, 3) := by decide +kernel
theorem dX11_feed_11 : decode cX11_feed 11 = .ok (.ldc 107, 2) := by decide +kernel
theorem dX11_feed_13 : decode cX11_feed 13 = .ok (.ireturn, 1) := by decide +kernel
theorem dX11_feed_14 : decode cX11_feed 14 = .ok (.aload_n 0, 1) := by decide +kernel
theorem dX11_feed_15 : decode cX11_feed 15 = .ok (.getfield 24, 3) := by decide +kernel
theorem dX11_feed_18 : decode cX11_feed 18 = .ok (.iload_n 1, 1) := by decide +kernel
theorem dX11_feed_19 : decode cX11_feed 19 = .ok (.invokevirtual 108, 3) := by decide +kernel
theorem dX11_feed_22 : decode cX11_feed 22 = .ok (.ifCond .eq 13, 3) := by decide +kernel
theorem dX11_feed_25 : decode cX11_feed 25 = .ok (.aload_n 0, 1) := by decide +kernel
theorem dX11_feed_26 : decode cX11_feed 26 = .ok (.getfield 24, 3) := by decide +kernel
theorem dX11_feed_29 : decode cX11_feed 29 = .ok (.getfield 112, 3) := by decide +kernel
theorem dX11_feed_32 : decode cX11_feed 32 = .ok (.goto 5, 3) := by decide +kernel
theorem dX11_feed_35 : decode cX11_feed 35 = .ok (.ldc 115, 2) := by decide +kernel
theorem dX11_feed_37 : decode cX11_feed 37 = .ok (.ireturn, 1) := by decide +kernel
theorem dX11_tower_0 : decode cX11_tower 0 = .ok (.aload_n 0, 1) := by decide +kernel
theorem dX11_tower_1 : decode cX11_tower 1 = .ok (.getfield 24, 3) := by decide +kernel
theorem dX11_tower_4 : decode cX11_tower 4 = .ok (.aload_n 0, 1) := by decide +kernel
theorem dX11_tower_5 : decode cX11_tower 5 = .ok (.getfield 16, 3) := by decide +kernel
theorem dX11_tower_8 : decode cX11_tower 8 = .ok (.invokevirtual 116, 3) := by decide +kernel
theorem dX11_tower_11 : decode cX11_tower 11 = .ok (.istore_n 1, 1) := by decide +kernel
theorem dX11_tower_12 : decode cX11_tower 12 = .ok (.aload_n 0, 1) := by decide +kernel
theorem dX11_tower_13 : decode cX11_tower 13 = .ok (.aload_n 0, 1) := by decide +kernel
theorem dX11_tower_14 : decode cX11_tower 14 = .ok (.getfield 24, 3) := by decide +kernel
theorem dX11_tower_17 : decode cX11_tower 17 = .ok (.getfield 120, 3) := by decide +kernel
theorem dX11_tower_20 : decode cX11_tower 20 = .ok (.putfield 101, 3) := by decide +kernel
theorem dX11_tower_23 : decode cX11_tower 23 = .ok (.iload_n 1, 1) := by decide +kernel
theorem dX11_tower_24 : decode cX11_tower 24 = .ok (.ifCond .eq 8, 3) := by decide +kernel
theorem dX11_tower_27 : decode cX11_tower 27 = .ok (.bipush (-10), 2) := by decide +kernel
theorem dX11_tower_29 : decode cX11_tower 29 = .ok (.iload_n 1, 1) := by decide +kernel
theorem dX11_tower_30 : decode cX11_tower 30 = .ok (.isub, 1) := by decide +kernel
theorem dX11_tower_31 : decode cX11_tower 31 = .ok (.ireturn, 1) := by decide +kernel
theorem dX11_tower_32 : decode cX11_tower 32 = .ok (.aload_n 0, 1) := by decide +kernel
theorem dX11_tower_33 : decode cX11_tower 33 = .ok (.getfield 10, 3) := by decide +kernel
theorem dX11_tower_36 : decode cX11_tower 36 = .ok (.astore_n 2, 1) := by decide +kernel
theorem dX11_tower_37 : decode cX11_tower 37 = .ok (.aload_n 0, 1) := by decide +kernel
theorem dX11_tower_38 : decode cX11_tower 38 = .ok (.aload_n 0, 1) := by decide +kernel
theorem dX11_tower_39 : decode cX11_tower 39 = .ok (.getfield 16, 3) := by decide +kernel
theorem dX11_tower_42 : decode cX11_tower 42 = .ok (.putfield 10, 3) := by decide +kernel
theorem dX11_tower_45 : decode cX11_tower 45 = .ok (.aload_n 0, 1) := by decide +kernel
theorem dX11_tower_46 : decode cX11_tower 46 = .ok (.aload_n 2, 1) := by decide +kernel
theorem dX11_tower_47 : decode cX11_tower 47 = .ok (.putfield 16, 3) := by decide +kernel
theorem dX11_tower_50 : decode cX11_tower 50 = .ok (.aload_n 0, 1) := by decide +kernel
theorem dX11_tower_51 : decode cX11_tower 51 = .ok (.getfield 31, 3) := by decide +kernel
theorem dX11_tower_54 : decode cX11_tower 54 = .ok (.aload_n 0, 1) := by decide +kernel
theorem dX11_tower_55 : decode cX11_tower 55 = .ok (.getfield 10, 3) := by decide +kernel
theorem dX11_tower_58 : decode cX11_tower 58 = .ok (.invokevirtual 121, 3) := by decide +kernel
theorem dX11_tower_61 : decode cX11_tower 61 = .ok (.aload_n 0, 1) := by decide +kernel
theorem dX11_tower_62 : decode cX11_tower 62 = .ok (.getfield 94, 3) := by decide +kernel
theorem dX11_tower_65 : decode cX11_tower 65 = .ok (.aload_n 0, 1) := by decide +kernel
theorem dX11_tower_66 : decode cX11_tower 66 = .ok (.getfield 10, 3) := by decide +kernel
theorem dX11_tower_69 : decode cX11_tower 69 = .ok (.invokevirtual 124, 3) := by decide +kernel
theorem dX11_tower_72 : decode cX11_tower 72 = .ok (.aload_n 0, 1) := by decide +kernel
theorem dX11_tower_73 : decode cX11_tower 73 = .ok (.getfield 38, 3) := by decide +kernel
theorem dX11_tower_76 : decode cX11_tower 76 = .ok (.invokevirtual 127, 3) := by decide +kernel
theorem dX11_tower_79 : decode cX11_tower 79 = .ok (.aload_n 0, 1) := by decide +kernel
theorem dX11_tower_80 : decode cX11_tower 80 = .ok (.iconst 0, 1) := by decide +kernel
theorem dX11_tower_81 : decode cX11_tower 81 = .ok (.putfield 50, 3) := by decide +kernel
theorem dX11_tower_84 : decode cX11_tower 84 = .ok (.aload_n 0, 1) := by decide +kernel
theorem dX11_tower_85 : decode cX11_tower 85 = .ok (.getfield 10, 3) := by decide +kernel
theorem dX11_tower_88 : decode cX11_tower 88 = .ok (.getfield 130, 3) := by decide +kernel
theorem dX11_tower_91 : decode cX11_tower 91 = .ok (.ireturn, 1) := by decide +kernel
theorem dX11_fault_0 : decode cX11_fault 0 = .ok (.aload_n 0, 1) := by decide +kernel
theorem dX11_fault_1 : decode cX11_fault 1 = .ok (.getfield 101, 3) := by decide +kernel
theorem dX11_fault_4 : decode cX11_fault 4 = .ok (.ireturn, 1) := by decide +kernel
theorem dX11_told_0 : decode cX11_told 0 = .ok (.iload_n 1, 1) := by decide +kernel
theorem dX11_told_1 : decode cX11_told 1 = .ok (.tableswitch 218 0 14 #[75, 83, 91, 99, 107, 115, 120, 128, 140, 159, 175, 186, 194, 202, 210], 75) := by decide +kernel
theorem dX11_told_76 : decode cX11_told 76 = .ok (.aload_n 0, 1) := by decide +kernel
theorem dX11_told_77 : decode cX11_told 77 = .ok (.getfield 10, 3) := by decide +kernel
theorem dX11_told_80 : decode cX11_told 80 = .ok (.getfield 130, 3) := by decide +kernel
theorem dX11_told_83 : decode cX11_told 83 = .ok (.ireturn, 1) := by decide +kernel
theorem dX11_told_84 : decode cX11_told 84 = .ok (.aload_n 0, 1) := by decide +kernel
theorem dX11_told_85 : decode cX11_told 85 = .ok (.getfield 10, 3) := by decide +kernel
theorem dX11_told_88 : decode cX11_told 88 = .ok (.getfield 133, 3) := by decide +kernel
theorem dX11_told_91 : decode cX11_told 91 = .ok (.ireturn, 1) := by decide +kernel
theorem dX11_told_92 : decode cX11_told 92 = .ok (.aload_n 0, 1) := by decide +kernel
theorem dX11_told_93 : decode cX11_told 93 = .ok (.getfield 10, 3) := by decide +kernel
theorem dX11_told_96 : decode cX11_told 96 = .ok (.getfield 136, 3) := by decide +kernel
theorem dX11_told_99 : decode cX11_told 99 = .ok (.ireturn, 1) := by decide +kernel
theorem dX11_told_100 : decode cX11_told 100 = .ok (.aload_n 0, 1) := by decide +kernel
theorem dX11_told_101 : decode cX11_told 101 = .ok (.getfield 24, 3) := by decide +kernel
theorem dX11_told_104 : decode cX11_told 104 = .ok (.getfield 112, 3) := by decide +kernel
theorem dX11_told_107 : decode cX11_told 107 = .ok (.ireturn, 1) := by decide +kernel
theorem dX11_told_108 : decode cX11_told 108 = .ok (.aload_n 0, 1) := by decide +kernel
theorem dX11_told_109 : decode cX11_told 109 = .ok (.getfield 31, 3) := by decide +kernel
theorem dX11_told_112 : decode cX11_told 112 = .ok (.getfield 139, 3) := by decide +kernel
theorem dX11_told_115 : decode cX11_told 115 = .ok (.ireturn, 1) := by decide +kernel
theorem dX11_told_116 : decode cX11_told 116 = .ok (.aload_n 0, 1) := by decide +kernel
theorem dX11_told_117 : decode cX11_told 117 = .ok (.invokevirtual 142, 3) := by decide +kernel
theorem dX11_told_120 : decode cX11_told 120 = .ok (.ireturn, 1) := by decide +kernel
theorem dX11_told_121 : decode cX11_told 121 = .ok (.aload_n 0, 1) := by decide +kernel
theorem dX11_told_122 : decode cX11_told 122 = .ok (.getfield 31, 3) := by decide +kernel
theorem dX11_told_125 : decode cX11_told 125 = .ok (.getfield 146, 3) := by decide +kernel
theorem dX11_told_128 : decode cX11_told 128 = .ok (.ireturn, 1) := by decide +kernel
theorem dX11_told_129 : decode cX11_told 129 = .ok (.aload_n 0, 1) := by decide +kernel
theorem dX11_told_130 : decode cX11_told 130 = .ok (.getfield 31, 3) := by decide +kernel
theorem dX11_told_133 : decode cX11_told 133 = .ok (.aload_n 0, 1) := by decide +kernel
theorem dX11_told_134 : decode cX11_told 134 = .ok (.getfield 10, 3) := by decide +kernel
theorem dX11_told_137 : decode cX11_told 137 = .ok (.invokevirtual 149, 3) := by decide +kernel
theorem dX11_told_140 : decode cX11_told 140 = .ok (.ireturn, 1) := by decide +kernel
theorem dX11_told_141 : decode cX11_told 141 = .ok (.aload_n 0, 1) := by decide +kernel
theorem dX11_told_142 : decode cX11_told 142 = .ok (.getfield 31, 3) := by decide +kernel
theorem dX11_told_145 : decode cX11_told 145 = .ok (.getfield 152, 3) := by decide +kernel
theorem dX11_told_148 : decode cX11_told 148 = .ok (.getfield 155, 3) := by decide +kernel
theorem dX11_told_151 : decode cX11_told 151 = .ok (.ifCond .eq 7, 3) := by decide +kernel
theorem dX11_told_154 : decode cX11_told 154 = .ok (.iconst 1, 1) := by decide +kernel
theorem dX11_told_155 : decode cX11_told 155 = .ok (.goto 4, 3) := by decide +kernel
theorem dX11_told_158 : decode cX11_told 158 = .ok (.iconst 0, 1) := by decide +kernel
theorem dX11_told_159 : decode cX11_told 159 = .ok (.ireturn, 1) := by decide +kernel
theorem dX11_told_160 : decode cX11_told 160 = .ok (.aload_n 0, 1) := by decide +kernel
theorem dX11_told_161 : decode cX11_told 161 = .ok (.getfield 31, 3) := by decide +kernel
theorem dX11_told_164 : decode cX11_told 164 = .ok (.getfield 159, 3) := by decide +kernel
theorem dX11_told_167 : decode cX11_told 167 = .ok (.ifCond .eq 7, 3) := by decide +kernel
theorem dX11_told_170 : decode cX11_told 170 = .ok (.iconst 1, 1) := by decide +kernel
theorem dX11_told_171 : decode cX11_told 171 = .ok (.goto 4, 3) := by decide +kernel
theorem dX11_told_174 : decode cX11_told 174 = .ok (.iconst 0, 1) := by decide +kernel
theorem dX11_told_175 : decode cX11_told 175 = .ok (.ireturn, 1) := by decide +kernel
theorem dX11_told_176 : decode cX11_told 176 = .ok (.aload_n 0, 1) := by decide +kernel
theorem dX11_told_177 : decode cX11_told 177 = .ok (.getfield 31, 3) := by decide +kernel
theorem dX11_told_180 : decode cX11_told 180 = .ok (.getfield 152, 3) := by decide +kernel
theorem dX11_told_183 : decode cX11_told 183 = .ok (.getfield 162, 3) := by decide +kernel
theorem dX11_told_186 : decode cX11_told 186 = .ok (.ireturn, 1) := by decide +kernel
theorem dX11_told_187 : decode cX11_told 187 = .ok (.aload_n 0, 1) := by decide +kernel
theorem dX11_told_188 : decode cX11_told 188 = .ok (.getfield 94, 3) := by decide +kernel
theorem dX11_told_191 : decode cX11_told 191 = .ok (.getfield 165, 3) := by decide +kernel
theorem dX11_told_194 : decode cX11_told 194 = .ok (.ireturn, 1) := by decide +kernel
theorem dX11_told_195 : decode cX11_told 195 = .ok (.aload_n 0, 1) := by decide +kernel
theorem dX11_told_196 : decode cX11_told 196 = .ok (.getfield 94, 3) := by decide +kernel
theorem dX11_told_199 : decode cX11_told 199 = .ok (.getfield 168, 3) := by decide +kernel
theorem dX11_told_202 : decode cX11_told 202 = .ok (.ireturn, 1) := by decide +kernel
theorem dX11_told_203 : decode cX11_told 203 = .ok (.aload_n 0, 1) := by decide +kernel
theorem dX11_told_204 : decode cX11_told 204 = .ok (.getfield 94, 3) := by decide +kernel
theorem dX11_told_207 : decode cX11_told 207 = .ok (.getfield 171, 3) := by decide +kernel
theorem dX11_told_210 : decode cX11_told 210 = .ok (.ireturn, 1) := by decide +kernel
theorem dX11_told_211 : decode cX11_told 211 = .ok (.aload_n 0, 1) := by decide +kernel
theorem dX11_told_212 : decode cX11_told 212 = .ok (.getfield 38, 3) := by decide +kernel
theorem dX11_told_215 : decode cX11_told 215 = .ok (.getfield 174, 3) := by decide +kernel
theorem dX11_told_218 : decode cX11_told 218 = .ok (.ireturn, 1) := by decide +kernel
theorem dX11_told_219 : decode cX11_told 219 = .ok (.ldc 107, 2) := by decide +kernel
theorem dX11_told_221 : decode cX11_told 221 = .ok (.ireturn, 1) := by decide +kernel
theorem dX11_method_0 : decode cX11_method 0 = .ok (.aload_n 0, 1) := by decide +kernel
theorem dX11_method_1 : decode cX11_method 1 = .ok (.getfield 10, 3) := by decide +kernel
theorem dX11_method_4 : decode cX11_method 4 = .ok (.invokevirtual 177, 3) := by decide +kernel
theorem dX11_method_7 : decode cX11_method 7 = .ok (.ifCond .ne 6, 3) := by decide +kernel
theorem dX11_method_10 : decode cX11_method 10 = .ok (.ldc 181, 2) := by decide +kernel
theorem dX11_method_12 : decode cX11_method 12 = .ok (.ireturn, 1) := by decide +kernel
theorem dX11_method_13 : decode cX11_method 13 = .ok (.iload_n 1, 1) := by decide +kernel
theorem dX11_method_14 : decode cX11_method 14 = .ok (.iconst (-1), 1) := by decide +kernel
theorem dX11_method_15 : decode cX11_method 15 = .ok (.if_icmp .ne 14, 3) := by decide +kernel
theorem dX11_method_18 : decode cX11_method 18 = .ok (.aload_n 0, 1) := by decide +kernel
theorem dX11_method_19 : decode cX11_method 19 = .ok (.getfield 10, 3) := by decide +kernel
theorem dX11_method_22 : decode cX11_method 22 = .ok (.getfield 182, 3) := by decide +kernel
theorem dX11_method_25 : decode cX11_method 25 = .ok (.getfield 185, 3) := by decide +kernel
theorem dX11_method_28 : decode cX11_method 28 = .ok (.ireturn, 1) := by decide +kernel
theorem dX11_method_29 : decode cX11_method 29 = .ok (.iload_n 1, 1) := by decide +kernel
theorem dX11_method_30 : decode cX11_method 30 = .ok (.ifCond .lt 28, 3) := by decide +kernel
theorem dX11_method_33 : decode cX11_method 33 = .ok (.iload_n 1, 1) := by decide +kernel
theorem dX11_method_34 : decode cX11_method 34 = .ok (.aload_n 0, 1) := by decide +kernel
theorem dX11_method_35 : decode cX11_method 35 = .ok (.getfield 10, 3) := by decide +kernel
theorem dX11_method_38 : decode cX11_method 38 = .ok (.getfield 133, 3) := by decide +kernel
theorem dX11_method_41 : decode cX11_method 41 = .ok (.if_icmp .ge 17, 3) := by decide +kernel
theorem dX11_method_44 : decode cX11_method 44 = .ok (.aload_n 0, 1) := by decide +kernel
theorem dX11_method_45 : decode cX11_method 45 = .ok (.getfield 10, 3) := by decide +kernel
theorem dX11_method_48 : decode cX11_method 48 = .ok (.iload_n 1, 1) := by decide +kernel
theorem dX11_method_49 : decode cX11_method 49 = .ok (.invokevirtual 188, 3) := by decide +kernel
theorem dX11_method_52 : decode cX11_method 52 = .ok (.getfield 185, 3) := by decide +kernel
theorem dX11_method_55 : decode cX11_method 55 = .ok (.goto 4, 3) := by decide +kernel
theorem dX11_method_58 : decode cX11_method 58 = .ok (.iconst (-1), 1) := by decide +kernel
theorem dX11_method_59 : decode cX11_method 59 = .ok (.ireturn, 1) := by decide +kernel
theorem dX11_bell_0 : decode cX11_bell 0 = .ok (.aload_n 0, 1) := by decide +kernel
theorem dX11_bell_1 : decode cX11_bell 1 = .ok (.getfield 10, 3) := by decide +kernel
theorem dX11_bell_4 : decode cX11_bell 4 = .ok (.iload_n 1, 1) := by decide +kernel
theorem dX11_bell_5 : decode cX11_bell 5 = .ok (.invokevirtual 192, 3) := by decide +kernel
theorem dX11_bell_8 : decode cX11_bell 8 = .ok (.ifCond .ne 6, 3) := by decide +kernel
theorem dX11_bell_11 : decode cX11_bell 11 = .ok (.ldc 195, 2) := by decide +kernel
theorem dX11_bell_13 : decode cX11_bell 13 = .ok (.ireturn, 1) := by decide +kernel
theorem dX11_bell_14 : decode cX11_bell 14 = .ok (.iload_n 2, 1) := by decide +kernel
theorem dX11_bell_15 : decode cX11_bell 15 = .ok (.tableswitch 69 0 2 #[25, 34, 56], 25) := by decide +kernel
theorem dX11_bell_40 : decode cX11_bell 40 = .ok (.aload_n 0, 1) := by decide +kernel
theorem dX11_bell_41 : decode cX11_bell 41 = .ok (.getfield 10, 3) := by decide +kernel
theorem dX11_bell_44 : decode cX11_bell 44 = .ok (.iload_n 1, 1) := by decide +kernel
theorem dX11_bell_45 : decode cX11_bell 45 = .ok (.invokevirtual 196, 3) := by decide +kernel
theorem dX11_bell_48 : decode cX11_bell 48 = .ok (.ireturn, 1) := by decide +kernel
theorem dX11_bell_49 : decode cX11_bell 49 = .ok (.aload_n 0, 1) := by decide +kernel
theorem dX11_bell_50 : decode cX11_bell 50 = .ok (.getfield 31, 3) := by decide +kernel
theorem dX11_bell_53 : decode cX11_bell 53 = .ok (.getfield 152, 3) := by decide +kernel
theorem dX11_bell_56 : decode cX11_bell 56 = .ok (.getfield 200, 3) := by decide +kernel
theorem dX11_bell_59 : decode cX11_bell 59 = .ok (.iload_n 1, 1) := by decide +kernel
theorem dX11_bell_60 : decode cX11_bell 60 = .ok (.aload_n 0, 1) := by decide +kernel
theorem dX11_bell_61 : decode cX11_bell 61 = .ok (.getfield 10, 3) := by decide +kernel
theorem dX11_bell_64 : decode cX11_bell 64 = .ok (.getfield 130, 3) := by decide +kernel
theorem dX11_bell_67 : decode cX11_bell 67 = .ok (.invokestatic 203, 3) := by decide +kernel
theorem dX11_bell_70 : decode cX11_bell 70 = .ok (.ireturn, 1) := by decide +kernel
theorem dX11_bell_71 : decode cX11_bell 71 = .ok (.aload_n 0, 1) := by decide +kernel
theorem dX11_bell_72 : decode cX11_bell 72 = .ok (.getfield 31, 3) := by decide +kernel
theorem dX11_bell_75 : decode cX11_bell 75 = .ok (.iload_n 1, 1) := by decide +kernel
theorem dX11_bell_76 : decode cX11_bell 76 = .ok (.aload_n 0, 1) := by decide +kernel
theorem dX11_bell_77 : decode cX11_bell 77 = .ok (.getfield 10, 3) := by decide +kernel
theorem dX11_bell_80 : decode cX11_bell 80 = .ok (.invokevirtual 209, 3) := by decide +kernel
theorem dX11_bell_83 : decode cX11_bell 83 = .ok (.ireturn, 1) := by decide +kernel
theorem dX11_bell_84 : decode cX11_bell 84 = .ok (.ldc 107, 2) := by decide +kernel
theorem dX11_bell_86 : decode cX11_bell 86 = .ok (.ireturn, 1) := by decide +kernel
theorem dX11_suitor_0 : decode cX11_suitor 0 = .ok (.aload_n 0, 1) := by decide +kernel
theorem dX11_suitor_1 : decode cX11_suitor 1 = .ok (.getfield 10, 3) := by decide +kernel
theorem dX11_suitor_4 : decode cX11_suitor 4 = .ok (.iload_n 1, 1) := by decide +kernel
theorem dX11_suitor_5 : decode cX11_suitor 5 = .ok (.invokevirtual 213, 3) := by decide +kernel
theorem dX11_suitor_8 : decode cX11_suitor 8 = .ok (.ifCond .ne 6, 3) := by decide +kernel
theorem dX11_suitor_11 : decode cX11_suitor 11 = .ok (.ldc 195, 2) := by decide +kernel
theorem dX11_suitor_13 : decode cX11_suitor 13 = .ok (.ireturn, 1) := by decide +kernel
theorem dX11_suitor_14 : decode cX11_suitor 14 = .ok (.iload_n 2, 1) := by decide +kernel
theorem dX11_suitor_15 : decode cX11_suitor 15 = .ok (.tableswitch 73 0 3 #[29, 38, 47, 56], 29) := by decide +kernel
theorem dX11_suitor_44 : decode cX11_suitor 44 = .ok (.aload_n 0, 1) := by decide +kernel
theorem dX11_suitor_45 : decode cX11_suitor 45 = .ok (.getfield 10, 3) := by decide +kernel
theorem dX11_suitor_48 : decode cX11_suitor 48 = .ok (.iload_n 1, 1) := by decide +kernel
theorem dX11_suitor_49 : decode cX11_suitor 49 = .ok (.invokevirtual 216, 3) := by decide +kernel
theorem dX11_suitor_52 : decode cX11_suitor 52 = .ok (.ireturn, 1) := by decide +kernel
theorem dX11_suitor_53 : decode cX11_suitor 53 = .ok (.aload_n 0, 1) := by decide +kernel
theorem dX11_suitor_54 : decode cX11_suitor 54 = .ok (.getfield 31, 3) := by decide +kernel
theorem dX11_suitor_57 : decode cX11_suitor 57 = .ok (.iload_n 1, 1) := by decide +kernel
theorem dX11_suitor_58 : decode cX11_suitor 58 = .ok (.invokevirtual 219, 3) := by decide +kernel
theorem dX11_suitor_61 : decode cX11_suitor 61 = .ok (.ireturn, 1) := by decide +kernel
theorem dX11_suitor_62 : decode cX11_suitor 62 = .ok (.aload_n 0, 1) := by decide +kernel
theorem dX11_suitor_63 : decode cX11_suitor 63 = .ok (.getfield 31, 3) := by decide +kernel
theorem dX11_suitor_66 : decode cX11_suitor 66 = .ok (.iload_n 1, 1) := by decide +kernel
theorem dX11_suitor_67 : decode cX11_suitor 67 = .ok (.invokevirtual 222, 3) := by decide +kernel
theorem dX11_suitor_70 : decode cX11_suitor 70 = .ok (.ireturn, 1) := by decide +kernel
theorem dX11_suitor_71 : decode cX11_suitor 71 = .ok (.aload_n 0, 1) := by decide +kernel
theorem dX11_suitor_72 : decode cX11_suitor 72 = .ok (.getfield 31, 3) := by decide +kernel
theorem dX11_suitor_75 : decode cX11_suitor 75 = .ok (.iload_n 1, 1) := by decide +kernel
theorem dX11_suitor_76 : decode cX11_suitor 76 = .ok (.invokevirtual 225, 3) := by decide +kernel
theorem dX11_suitor_79 : decode cX11_suitor 79 = .ok (.ifCond .eq 7, 3) := by decide +kernel
theorem dX11_suitor_82 : decode cX11_suitor 82 = .ok (.iconst 1, 1) := by decide +kernel
theorem dX11_suitor_83 : decode cX11_suitor 83 = .ok (.goto 4, 3) := by decide +kernel
theorem dX11_suitor_86 : decode cX11_suitor 86 = .ok (.iconst 0, 1) := by decide +kernel
theorem dX11_suitor_87 : decode cX11_suitor 87 = .ok (.ireturn, 1) := by decide +kernel
theorem dX11_suitor_88 : decode cX11_suitor 88 = .ok (.ldc 107, 2) := by decide +kernel
theorem dX11_suitor_90 : decode cX11_suitor 90 = .ok (.ireturn, 1) := by decide +kernel
theorem dX11_ring_0 : decode cX11_ring 0 = .ok (.aload_n 0, 1) := by decide +kernel
theorem dX11_ring_1 : decode cX11_ring 1 = .ok (.iload_n 1, 1) := by decide +kernel
theorem dX11_ring_2 : decode cX11_ring 2 = .ok (.sipush 200, 3) := by decide +kernel
theorem dX11_ring_5 : decode cX11_ring 5 = .ok (.invokevirtual 228, 3) := by decide +kernel
theorem dX11_ring_8 : decode cX11_ring 8 = .ok (.istore_n 2, 1) := by decide +kernel
theorem dX11_ring_9 : decode cX11_ring 9 = .ok (.iload_n 2, 1) := by decide +kernel
theorem dX11_ring_10 : decode cX11_ring 10 = .ok (.ifCond .eq 5, 3) := by decide +kernel
theorem dX11_ring_13 : decode cX11_ring 13 = .ok (.iload_n 2, 1) := by decide +kernel
theorem dX11_ring_14 : decode cX11_ring 14 = .ok (.ireturn, 1) := by decide +kernel
theorem dX11_ring_15 : decode cX11_ring 15 = .ok (.aload_n 0, 1) := by decide +kernel
theorem dX11_ring_16 : decode cX11_ring 16 = .ok (.getfield 38, 3) := by decide +kernel
theorem dX11_ring_19 : decode cX11_ring 19 = .ok (.aload_n 0, 1) := by decide +kernel
theorem dX11_ring_20 : decode cX11_ring 20 = .ok (.getfield 31, 3) := by decide +kernel
theorem dX11_ring_23 : decode cX11_ring 23 = .ok (.invokevirtual 232, 3) := by decide +kernel
theorem dX11_ring_26 : decode cX11_ring 26 = .ok (.iconst 0, 1) := by decide +kernel
theorem dX11_ring_27 : decode cX11_ring 27 = .ok (.istore_n 3, 1) := by decide +kernel
theorem dX11_ring_28 : decode cX11_ring 28 = .ok (.iload_n 3, 1) := by decide +kernel
theorem dX11_ring_29 : decode cX11_ring 29 = .ok (.iload_n 1, 1) := by decide +kernel
theorem dX11_ring_30 : decode cX11_ring 30 = .ok (.if_icmp .ge 20, 3) := by decide +kernel
theorem dX11_ring_33 : decode cX11_ring 33 = .ok (.aload_n 0, 1) := by decide +kernel
theorem dX11_ring_34 : decode cX11_ring 34 = .ok (.getfield 31, 3) := by decide +kernel
theorem dX11_ring_37 : decode cX11_ring 37 = .ok (.aload_n 0, 1) := by decide +kernel
theorem dX11_ring_38 : decode cX11_ring 38 = .ok (.getfield 10, 3) := by decide +kernel
theorem dX11_ring_41 : decode cX11_ring 41 = .ok (.invokevirtual 236, 3) := by decide +kernel
theorem dX11_ring_44 : decode cX11_ring 44 = .ok (.iinc 3 1, 3) := by decide +kernel
theorem dX11_ring_47 : decode cX11_ring 47 = .ok (.goto (-19), 3) := by decide +kernel
theorem dX11_ring_50 : decode cX11_ring 50 = .ok (.aload_n 0, 1) := by decide +kernel
theorem dX11_ring_51 : decode cX11_ring 51 = .ok (.invokevirtual 142, 3) := by decide +kernel
theorem dX11_ring_54 : decode cX11_ring 54 = .ok (.ireturn, 1) := by decide +kernel
theorem dX11_call_0 : decode cX11_call 0 = .ok (.aload_n 0, 1) := by decide +kernel
theorem dX11_call_1 : decode cX11_call 1 = .ok (.getfield 10, 3) := by decide +kernel
theorem dX11_call_4 : decode cX11_call 4 = .ok (.invokevirtual 177, 3) := by decide +kernel
theorem dX11_call_7 : decode cX11_call 7 = .ok (.ifCond .eq 16, 3) := by decide +kernel
theorem dX11_call_10 : decode cX11_call 10 = .ok (.aload_n 0, 1) := by decide +kernel
theorem dX11_call_11 : decode cX11_call 11 = .ok (.getfield 31, 3) := by decide +kernel
theorem dX11_call_14 : decode cX11_call 14 = .ok (.getfield 152, 3) := by decide +kernel
theorem dX11_call_17 : decode cX11_call 17 = .ok (.getfield 155, 3) := by decide +kernel
theorem dX11_call_20 : decode cX11_call 20 = .ok (.ifCond .eq 6, 3) := by decide +kernel
theorem dX11_call_23 : decode cX11_call 23 = .ok (.ldc 181, 2) := by decide +kernel
theorem dX11_call_25 : decode cX11_call 25 = .ok (.ireturn, 1) := by decide +kernel
theorem dX11_call_26 : decode cX11_call 26 = .ok (.aload_n 0, 1) := by decide +kernel
theorem dX11_call_27 : decode cX11_call 27 = .ok (.getfield 38, 3) := by decide +kernel
theorem dX11_call_30 : decode cX11_call 30 = .ok (.aload_n 0, 1) := by decide +kernel
theorem dX11_call_31 : decode cX11_call 31 = .ok (.getfield 31, 3) := by decide +kernel
theorem dX11_call_34 : decode cX11_call 34 = .ok (.invokevirtual 232, 3) := by decide +kernel
theorem dX11_call_37 : decode cX11_call 37 = .ok (.aload_n 0, 1) := by decide +kernel
theorem dX11_call_38 : decode cX11_call 38 = .ok (.getfield 31, 3) := by decide +kernel
theorem dX11_call_41 : decode cX11_call 41 = .ok (.getfield 152, 3) := by decide +kernel
theorem dX11_call_44 : decode cX11_call 44 = .ok (.iconst 1, 1) := by decide +kernel
theorem dX11_call_45 : decode cX11_call 45 = .ok (.putfield 155, 3) := by decide +kernel
theorem dX11_call_48 : decode cX11_call 48 = .ok (.aload_n 0, 1) := by decide +kernel
theorem dX11_call_49 : decode cX11_call 49 = .ok (.getfield 31, 3) := by decide +kernel
theorem dX11_call_52 : decode cX11_call 52 = .ok (.getfield 152, 3) := by decide +kernel
theorem dX11_call_55 : decode cX11_call 55 = .ok (.getfield 162, 3) := by decide +kernel
theorem dX11_call_58 : decode cX11_call 58 = .ok (.ireturn, 1) := by decide +kernel
theorem dX11_swap_0 : decode cX11_swap 0 = .ok (.aload_n 0, 1) := by decide +kernel
theorem dX11_swap_1 : decode cX11_swap 1 = .ok (.getfield 10, 3) := by decide +kernel
theorem dX11_swap_4 : decode cX11_swap 4 = .ok (.iload_n 1, 1) := by decide +kernel
theorem dX11_swap_5 : decode cX11_swap 5 = .ok (.invokevirtual 213, 3) := by decide +kernel
theorem dX11_swap_8 : decode cX11_swap 8 = .ok (.ifCond .eq 19, 3) := by decide +kernel
theorem dX11_swap_11 : decode cX11_swap 11 = .ok (.aload_n 0, 1) := by decide +kernel
theorem dX11_swap_12 : decode cX11_swap 12 = .ok (.getfield 10, 3) := by decide +kernel
theorem dX11_swap_15 : decode cX11_swap 15 = .ok (.iload_n 2, 1) := by decide +kernel
theorem dX11_swap_16 : decode cX11_swap 16 = .ok (.invokevirtual 213, 3) := by decide +kernel
theorem dX11_swap_19 : decode cX11_swap 19 = .ok (.ifCond .eq 8, 3) := by decide +kernel
theorem dX11_swap_22 : decode cX11_swap 22 = .ok (.iload_n 1, 1) := by decide +kernel
theorem dX11_swap_23 : decode cX11_swap 23 = .ok (.iload_n 2, 1) := by decide +kernel
theorem dX11_swap_24 : decode cX11_swap 24 = .ok (.if_icmp .ne 6, 3) := by decide +kernel
theorem dX11_swap_27 : decode cX11_swap 27 = .ok (.ldc 195, 2) := by decide +kernel
theorem dX11_swap_29 : decode cX11_swap 29 = .ok (.ireturn, 1) := by decide +kernel
theorem dX11_swap_30 : decode cX11_swap 30 = .ok (.aload_n 0, 1) := by decide +kernel
theorem dX11_swap_31 : decode cX11_swap 31 = .ok (.getfield 38, 3) := by decide +kernel
theorem dX11_swap_34 : decode cX11_swap 34 = .ok (.aload_n 0, 1) := by decide +kernel
theorem dX11_swap_35 : decode cX11_swap 35 = .ok (.getfield 31, 3) := by decide +kernel
theorem dX11_swap_38 : decode cX11_swap 38 = .ok (.invokevirtual 232, 3) := by decide +kernel
theorem dX11_swap_41 : decode cX11_swap 41 = .ok (.aload_n 0, 1) := by decide +kernel
theorem dX11_swap_42 : decode cX11_swap 42 = .ok (.getfield 31, 3) := by decide +kernel
theorem dX11_swap_45 : decode cX11_swap 45 = .ok (.iload_n 1, 1) := by decide +kernel
theorem dX11_swap_46 : decode cX11_swap 46 = .ok (.iload_n 2, 1) := by decide +kernel
theorem dX11_swap_47 : decode cX11_swap 47 = .ok (.invokevirtual 239, 3) := by decide +kernel
theorem dX11_swap_50 : decode cX11_swap 50 = .ok (.aload_n 0, 1) := by decide +kernel
theorem dX11_swap_51 : decode cX11_swap 51 = .ok (.getfield 31, 3) := by decide +kernel
theorem dX11_swap_54 : decode cX11_swap 54 = .ok (.iload_n 1, 1) := by decide +kernel
theorem dX11_swap_55 : decode cX11_swap 55 = .ok (.invokevirtual 219, 3) := by decide +kernel
theorem dX11_swap_58 : decode cX11_swap 58 = .ok (.ireturn, 1) := by decide +kernel
theorem dX11_stand_0 : decode cX11_stand 0 = .ok (.aload_n 0, 1) := by decide +kernel
theorem dX11_stand_1 : decode cX11_stand 1 = .ok (.getfield 10, 3) := by decide +kernel
theorem dX11_stand_4 : decode cX11_stand 4 = .ok (.invokevirtual 177, 3) := by decide +kernel
theorem dX11_stand_7 : decode cX11_stand 7 = .ok (.ifCond .ne 6, 3) := by decide +kernel
theorem dX11_stand_10 : decode cX11_stand 10 = .ok (.ldc 181, 2) := by decide +kernel
theorem dX11_stand_12 : decode cX11_stand 12 = .ok (.ireturn, 1) := by decide +kernel
theorem dX11_stand_13 : decode cX11_stand 13 = .ok (.aload_n 0, 1) := by decide +kernel
theorem dX11_stand_14 : decode cX11_stand 14 = .ok (.invokevirtual 142, 3) := by decide +kernel
theorem dX11_stand_17 : decode cX11_stand 17 = .ok (.istore_n 1, 1) := by decide +kernel
theorem dX11_stand_18 : decode cX11_stand 18 = .ok (.aload_n 0, 1) := by decide +kernel
theorem dX11_stand_19 : decode cX11_stand 19 = .ok (.getfield 38, 3) := by decide +kernel
theorem dX11_stand_22 : decode cX11_stand 22 = .ok (.aload_n 0, 1) := by decide +kernel
theorem dX11_stand_23 : decode cX11_stand 23 = .ok (.getfield 31, 3) := by decide +kernel
theorem dX11_stand_26 : decode cX11_stand 26 = .ok (.invokevirtual 232, 3) := by decide +kernel
theorem dX11_stand_29 : decode cX11_stand 29 = .ok (.aload_n 0, 1) := by decide +kernel
theorem dX11_stand_30 : decode cX11_stand 30 = .ok (.getfield 31, 3) := by decide +kernel
theorem dX11_stand_33 : decode cX11_stand 33 = .ok (.aload_n 0, 1) := by decide +kernel
theorem dX11_stand_34 : decode cX11_stand 34 = .ok (.getfield 10, 3) := by decide +kernel
theorem dX11_stand_37 : decode cX11_stand 37 = .ok (.invokevirtual 243, 3) := by decide +kernel
theorem dX11_stand_40 : decode cX11_stand 40 = .ok (.iload_n 1, 1) := by decide +kernel
theorem dX11_stand_41 : decode cX11_stand 41 = .ok (.ireturn, 1) := by decide +kernel
theorem dX11_wet_0 : decode cX11_wet 0 = .ok (.aload_n 0, 1) := by decide +kernel
theorem dX11_wet_1 : decode cX11_wet 1 = .ok (.getfield 10, 3) := by decide +kernel
theorem dX11_wet_4 : decode cX11_wet 4 = .ok (.invokevirtual 177, 3) := by decide +kernel
theorem dX11_wet_7 : decode cX11_wet 7 = .ok (.ifCond .ne 6, 3) := by decide +kernel
theorem dX11_wet_10 : decode cX11_wet 10 = .ok (.ldc 181, 2) := by decide +kernel
theorem dX11_wet_12 : decode cX11_wet 12 = .ok (.ireturn, 1) := by decide +kernel
theorem dX11_wet_13 : decode cX11_wet 13 = .ok (.aload_n 0, 1) := by decide +kernel
theorem dX11_wet_14 : decode cX11_wet 14 = .ok (.getfield 31, 3) := by decide +kernel
theorem dX11_wet_17 : decode cX11_wet 17 = .ok (.getfield 159, 3) := by decide +kernel
theorem dX11_wet_20 : decode cX11_wet 20 = .ok (.ifCond .eq 7, 3) := by decide +kernel
theorem dX11_wet_23 : decode cX11_wet 23 = .ok (.iconst 1, 1) := by decide +kernel
theorem dX11_wet_24 : decode cX11_wet 24 = .ok (.goto 4, 3) := by decide +kernel
theorem dX11_wet_27 : decode cX11_wet 27 = .ok (.iconst 0, 1) := by decide +kernel
theorem dX11_wet_28 : decode cX11_wet 28 = .ok (.istore_n 2, 1) := by decide +kernel
theorem dX11_wet_29 : decode cX11_wet 29 = .ok (.aload_n 0, 1) := by decide +kernel
theorem dX11_wet_30 : decode cX11_wet 30 = .ok (.getfield 38, 3) := by decide +kernel
theorem dX11_wet_33 : decode cX11_wet 33 = .ok (.aload_n 0, 1) := by decide +kernel
theorem dX11_wet_34 : decode cX11_wet 34 = .ok (.getfield 31, 3) := by decide +kernel
theorem dX11_wet_37 : decode cX11_wet 37 = .ok (.invokevirtual 232, 3) := by decide +kernel
theorem dX11_wet_40 : decode cX11_wet 40 = .ok (.aload_n 0, 1) := by decide +kernel
theorem dX11_wet_41 : decode cX11_wet 41 = .ok (.getfield 31, 3) := by decide +kernel
theorem dX11_wet_44 : decode cX11_wet 44 = .ok (.iload_n 1, 1) := by decide +kernel
theorem dX11_wet_45 : decode cX11_wet 45 = .ok (.putfield 159, 3) := by decide +kernel
theorem dX11_wet_48 : decode cX11_wet 48 = .ok (.iload_n 2, 1) := by decide +kernel
theorem dX11_wet_49 : decode cX11_wet 49 = .ok (.ireturn, 1) := by decide +kernel
theorem dX11_forgive_0 : decode cX11_forgive 0 = .ok (.aload_n 0, 1) := by decide +kernel
theorem dX11_forgive_1 : decode cX11_forgive 1 = .ok (.getfield 10, 3) := by decide +kernel
theorem dX11_forgive_4 : decode cX11_forgive 4 = .ok (.iload_n 1, 1) := by decide +kernel
theorem dX11_forgive_5 : decode cX11_forgive 5 = .ok (.invokevirtual 213, 3) := by decide +kernel
theorem dX11_forgive_8 : decode cX11_forgive 8 = .ok (.ifCond .ne 6, 3) := by decide +kernel
theorem dX11_forgive_11 : decode cX11_forgive 11 = .ok (.ldc 195, 2) := by decide +kernel
theorem dX11_forgive_13 : decode cX11_forgive 13 = .ok (.ireturn, 1) := by decide +kernel
theorem dX11_forgive_14 : decode cX11_forgive 14 = .ok (.aload_n 0, 1) := by decide +kernel
theorem dX11_forgive_15 : decode cX11_forgive 15 = .ok (.getfield 31, 3) := by decide +kernel
theorem dX11_forgive_18 : decode cX11_forgive 18 = .ok (.iload_n 1, 1) := by decide +kernel
theorem dX11_forgive_19 : decode cX11_forgive 19 = .ok (.invokevirtual 225, 3) := by decide +kernel
theorem dX11_forgive_22 : decode cX11_forgive 22 = .ok (.ifCond .ne 6, 3) := by decide +kernel
theorem dX11_forgive_25 : decode cX11_forgive 25 = .ok (.ldc 181, 2) := by decide +kernel
theorem dX11_forgive_27 : decode cX11_forgive 27 = .ok (.ireturn, 1) := by decide +kernel
theorem dX11_forgive_28 : decode cX11_forgive 28 = .ok (.aload_n 0, 1) := by decide +kernel
theorem dX11_forgive_29 : decode cX11_forgive 29 = .ok (.getfield 38, 3) := by decide +kernel
theorem dX11_forgive_32 : decode cX11_forgive 32 = .ok (.aload_n 0, 1) := by decide +kernel
theorem dX11_forgive_33 : decode cX11_forgive 33 = .ok (.getfield 31, 3) := by decide +kernel
theorem dX11_forgive_36 : decode cX11_forgive 36 = .ok (.invokevirtual 232, 3) := by decide +kernel
theorem dX11_forgive_39 : decode cX11_forgive 39 = .ok (.aload_n 0, 1) := by decide +kernel
theorem dX11_forgive_40 : decode cX11_forgive 40 = .ok (.getfield 31, 3) := by decide +kernel
theorem dX11_forgive_43 : decode cX11_forgive 43 = .ok (.dup, 1) := by decide +kernel
theorem dX11_forgive_44 : decode cX11_forgive 44 = .ok (.getfield 146, 3) := by decide +kernel
theorem dX11_forgive_47 : decode cX11_forgive 47 = .ok (.iconst 1, 1) := by decide +kernel
theorem dX11_forgive_48 : decode cX11_forgive 48 = .ok (.iload_n 1, 1) := by decide +kernel
theorem dX11_forgive_49 : decode cX11_forgive 49 = .ok (.ishl, 1) := by decide +kernel
theorem dX11_forgive_50 : decode cX11_forgive 50 = .ok (.iconst (-1), 1) := by decide +kernel
theorem dX11_forgive_51 : decode cX11_forgive 51 = .ok (.ixor, 1) := by decide +kernel
theorem dX11_forgive_52 : decode cX11_forgive 52 = .ok (.iand, 1) := by decide +kernel
theorem dX11_forgive_53 : decode cX11_forgive 53 = .ok (.putfield 146, 3) := by decide +kernel
theorem dX11_forgive_56 : decode cX11_forgive 56 = .ok (.aload_n 0, 1) := by decide +kernel
theorem dX11_forgive_57 : decode cX11_forgive 57 = .ok (.getfield 31, 3) := by decide +kernel
theorem dX11_forgive_60 : decode cX11_forgive 60 = .ok (.getfield 146, 3) := by decide +kernel
theorem dX11_forgive_63 : decode cX11_forgive 63 = .ok (.ireturn, 1) := by decide +kernel
theorem dX11_drift_0 : decode cX11_drift 0 = .ok (.aload_n 0, 1) := by decide +kernel
theorem dX11_drift_1 : decode cX11_drift 1 = .ok (.iload_n 1, 1) := by decide +kernel
theorem dX11_drift_2 : decode cX11_drift 2 = .ok (.bipush 60, 2) := by decide +kernel
theorem dX11_drift_4 : decode cX11_drift 4 = .ok (.invokevirtual 228, 3) := by decide +kernel
theorem dX11_drift_7 : decode cX11_drift 7 = .ok (.istore_n 2, 1) := by decide +kernel
theorem dX11_drift_8 : decode cX11_drift 8 = .ok (.iload_n 2, 1) := by decide +kernel
theorem dX11_drift_9 : decode cX11_drift 9 = .ok (.ifCond .eq 5, 3) := by decide +kernel
theorem dX11_drift_12 : decode cX11_drift 12 = .ok (.iload_n 2, 1) := by decide +kernel
theorem dX11_drift_13 : decode cX11_drift 13 = .ok (.ireturn, 1) := by decide +kernel
theorem dX11_drift_14 : decode cX11_drift 14 = .ok (.aload_n 0, 1) := by decide +kernel
theorem dX11_drift_15 : decode cX11_drift 15 = .ok (.getfield 38, 3) := by decide +kernel
theorem dX11_drift_18 : decode cX11_drift 18 = .ok (.aload_n 0, 1) := by decide +kernel
theorem dX11_drift_19 : decode cX11_drift 19 = .ok (.getfield 31, 3) := by decide +kernel
theorem dX11_drift_22 : decode cX11_drift 22 = .ok (.invokevirtual 232, 3) := by decide +kernel
theorem dX11_drift_25 : decode cX11_drift 25 = .ok (.iconst 0, 1) := by decide +kernel
theorem dX11_drift_26 : decode cX11_drift 26 = .ok (.istore_n 3, 1) := by decide +kernel
theorem dX11_drift_27 : decode cX11_drift 27 = .ok (.iload_n 3, 1) := by decide +kernel
theorem dX11_drift_28 : decode cX11_drift 28 = .ok (.iload_n 1, 1) := by decide +kernel
theorem dX11_drift_29 : decode cX11_drift 29 = .ok (.if_icmp .ge 24, 3) := by decide +kernel
theorem dX11_drift_32 : decode cX11_drift 32 = .ok (.aload_n 0, 1) := by decide +kernel
theorem dX11_drift_33 : decode cX11_drift 33 = .ok (.invokevirtual 246, 3) := by decide +kernel
theorem dX11_drift_36 : decode cX11_drift 36 = .ok (.aload_n 0, 1) := by decide +kernel
theorem dX11_drift_37 : decode cX11_drift 37 = .ok (.getfield 31, 3) := by decide +kernel
theorem dX11_drift_40 : decode cX11_drift 40 = .ok (.aload_n 0, 1) := by decide +kernel
theorem dX11_drift_41 : decode cX11_drift 41 = .ok (.getfield 10, 3) := by decide +kernel
theorem dX11_drift_44 : decode cX11_drift 44 = .ok (.invokevirtual 236, 3) := by decide +kernel
theorem dX11_drift_47 : decode cX11_drift 47 = .ok (.iinc 3 1, 3) := by decide +kernel
theorem dX11_drift_50 : decode cX11_drift 50 = .ok (.goto (-23), 3) := by decide +kernel
theorem dX11_drift_53 : decode cX11_drift 53 = .ok (.aload_n 0, 1) := by decide +kernel
theorem dX11_drift_54 : decode cX11_drift 54 = .ok (.invokevirtual 142, 3) := by decide +kernel
theorem dX11_drift_57 : decode cX11_drift 57 = .ok (.ireturn, 1) := by decide +kernel
theorem dX11_undo_0 : decode cX11_undo 0 = .ok (.aload_n 0, 1) := by decide +kernel
theorem dX11_undo_1 : decode cX11_undo 1 = .ok (.getfield 38, 3) := by decide +kernel
theorem dX11_undo_4 : decode cX11_undo 4 = .ok (.aload_n 0, 1) := by decide +kernel
theorem dX11_undo_5 : decode cX11_undo 5 = .ok (.getfield 31, 3) := by decide +kernel
theorem dX11_undo_8 : decode cX11_undo 8 = .ok (.invokevirtual 249, 3) := by decide +kernel
theorem dX11_undo_11 : decode cX11_undo 11 = .ok (.ifCond .eq 13, 3) := by decide +kernel
theorem dX11_undo_14 : decode cX11_undo 14 = .ok (.aload_n 0, 1) := by decide +kernel
theorem dX11_undo_15 : decode cX11_undo 15 = .ok (.getfield 38, 3) := by decide +kernel
theorem dX11_undo_18 : decode cX11_undo 18 = .ok (.getfield 174, 3) := by decide +kernel
theorem dX11_undo_21 : decode cX11_undo 21 = .ok (.goto 5, 3) := by decide +kernel
theorem dX11_undo_24 : decode cX11_undo 24 = .ok (.ldc 181, 2) := by decide +kernel
theorem dX11_undo_26 : decode cX11_undo 26 = .ok (.ireturn, 1) := by decide +kernel
theorem dX11_rowAt_0 : decode cX11_rowAt 0 = .ok (.iload_n 1, 1) := by decide +kernel
theorem dX11_rowAt_1 : decode cX11_rowAt 1 = .ok (.ifCond .lt 10, 3) := by decide +kernel
theorem dX11_rowAt_4 : decode cX11_rowAt 4 = .ok (.iload_n 1, 1) := by decide +kernel
theorem dX11_rowAt_5 : decode cX11_rowAt 5 = .ok (.sipush 500, 3) := by decide +kernel
theorem dX11_rowAt_8 : decode cX11_rowAt 8 = .ok (.if_icmp .le 6, 3) := by decide +kernel
theorem dX11_rowAt_11 : decode cX11_rowAt 11 = .ok (.ldc 107, 2) := by decide +kernel
theorem dX11_rowAt_13 : decode cX11_rowAt 13 = .ok (.ireturn, 1) := by decide +kernel
theorem dX11_rowAt_14 : decode cX11_rowAt 14 = .ok (.aload_n 0, 1) := by decide +kernel
end
section
theorem dX11_rowAt_15 : decode cX11_rowAt 15 = .ok (.getfield 10, 3) := by decide +kernel
theorem dX11_rowAt_18 : decode cX11_rowAt 18 = .ok (.invokevirtual 177, 3) := by decide +kernel
theorem dX11_rowAt_21 : decode cX11_rowAt 21 = .ok (.ifCond .ne 6, 3) := by decide +kernel
theorem dX11_rowAt_24 : decode cX11_rowAt 24 = .ok (.ldc 181, 2) := by decide +kernel
theorem dX11_rowAt_26 : decode cX11_rowAt 26 = .ok (.ireturn, 1) := by decide +kernel
theorem dX11_rowAt_27 : decode cX11_rowAt 27 = .ok (.aload_n 0, 1) := by decide +kernel
theorem dX11_rowAt_28 : decode cX11_rowAt 28 = .ok (.iload_n 1, 1) := by decide +kernel
theorem dX11_rowAt_29 : decode cX11_rowAt 29 = .ok (.invokevirtual 253, 3) := by decide +kernel
theorem dX11_rowAt_32 : decode cX11_rowAt 32 = .ok (.aload_n 0, 1) := by decide +kernel
theorem dX11_rowAt_33 : decode cX11_rowAt 33 = .ok (.getfield 10, 3) := by decide +kernel
theorem dX11_rowAt_36 : decode cX11_rowAt 36 = .ok (.getfield 130, 3) := by decide +kernel
theorem dX11_rowAt_39 : decode cX11_rowAt 39 = .ok (.invokestatic 256, 3) := by decide +kernel
theorem dX11_rowAt_42 : decode cX11_rowAt 42 = .ok (.ireturn, 1) := by decide +kernel
theorem dX11_placeAt_0 : decode cX11_placeAt 0 = .ok (.aload_n 0, 1) := by decide +kernel
theorem dX11_placeAt_1 : decode cX11_placeAt 1 = .ok (.getfield 10, 3) := by decide +kernel
theorem dX11_placeAt_4 : decode cX11_placeAt 4 = .ok (.iload_n 1, 1) := by decide +kernel
theorem dX11_placeAt_5 : decode cX11_placeAt 5 = .ok (.invokevirtual 192, 3) := by decide +kernel
theorem dX11_placeAt_8 : decode cX11_placeAt 8 = .ok (.ifCond .ne 6, 3) := by decide +kernel
theorem dX11_placeAt_11 : decode cX11_placeAt 11 = .ok (.ldc 195, 2) := by decide +kernel
theorem dX11_placeAt_13 : decode cX11_placeAt 13 = .ok (.ireturn, 1) := by decide +kernel
theorem dX11_placeAt_14 : decode cX11_placeAt 14 = .ok (.iload_n 2, 1) := by decide +kernel
theorem dX11_placeAt_15 : decode cX11_placeAt 15 = .ok (.ifCond .lt 10, 3) := by decide +kernel
theorem dX11_placeAt_18 : decode cX11_placeAt 18 = .ok (.iload_n 2, 1) := by decide +kernel
theorem dX11_placeAt_19 : decode cX11_placeAt 19 = .ok (.sipush 500, 3) := by decide +kernel
theorem dX11_placeAt_22 : decode cX11_placeAt 22 = .ok (.if_icmp .le 6, 3) := by decide +kernel
theorem dX11_placeAt_25 : decode cX11_placeAt 25 = .ok (.ldc 107, 2) := by decide +kernel
theorem dX11_placeAt_27 : decode cX11_placeAt 27 = .ok (.ireturn, 1) := by decide +kernel
theorem dX11_placeAt_28 : decode cX11_placeAt 28 = .ok (.aload_n 0, 1) := by decide +kernel
theorem dX11_placeAt_29 : decode cX11_placeAt 29 = .ok (.iload_n 2, 1) := by decide +kernel
theorem dX11_placeAt_30 : decode cX11_placeAt 30 = .ok (.invokevirtual 253, 3) := by decide +kernel
theorem dX11_placeAt_33 : decode cX11_placeAt 33 = .ok (.iload_n 1, 1) := by decide +kernel
theorem dX11_placeAt_34 : decode cX11_placeAt 34 = .ok (.aload_n 0, 1) := by decide +kernel
theorem dX11_placeAt_35 : decode cX11_placeAt 35 = .ok (.getfield 10, 3) := by decide +kernel
theorem dX11_placeAt_38 : decode cX11_placeAt 38 = .ok (.getfield 130, 3) := by decide +kernel
theorem dX11_placeAt_41 : decode cX11_placeAt 41 = .ok (.invokestatic 203, 3) := by decide +kernel
theorem dX11_placeAt_44 : decode cX11_placeAt 44 = .ok (.ireturn, 1) := by decide +kernel
theorem dX11_round_0 : decode cX11_round 0 = .ok (.aload_n 0, 1) := by decide +kernel
theorem dX11_round_1 : decode cX11_round 1 = .ok (.getfield 10, 3) := by decide +kernel
theorem dX11_round_4 : decode cX11_round 4 = .ok (.invokevirtual 177, 3) := by decide +kernel
theorem dX11_round_7 : decode cX11_round 7 = .ok (.ifCond .ne 6, 3) := by decide +kernel
theorem dX11_round_10 : decode cX11_round 10 = .ok (.ldc 181, 2) := by decide +kernel
theorem dX11_round_12 : decode cX11_round 12 = .ok (.ireturn, 1) := by decide +kernel
theorem dX11_round_13 : decode cX11_round 13 = .ok (.aload_n 0, 1) := by decide +kernel
theorem dX11_round_14 : decode cX11_round 14 = .ok (.getfield 10, 3) := by decide +kernel
theorem dX11_round_17 : decode cX11_round 17 = .ok (.getfield 130, 3) := by decide +kernel
theorem dX11_round_20 : decode cX11_round 20 = .ok (.invokestatic 259, 3) := by decide +kernel
theorem dX11_round_23 : decode cX11_round 23 = .ok (.istore_n 1, 1) := by decide +kernel
theorem dX11_round_24 : decode cX11_round 24 = .ok (.aload_n 0, 1) := by decide +kernel
theorem dX11_round_25 : decode cX11_round 25 = .ok (.getfield 80, 3) := by decide +kernel
theorem dX11_round_28 : decode cX11_round 28 = .ok (.aload_n 0, 1) := by decide +kernel
theorem dX11_round_29 : decode cX11_round 29 = .ok (.getfield 31, 3) := by decide +kernel
theorem dX11_round_32 : decode cX11_round 32 = .ok (.getfield 152, 3) := by decide +kernel
theorem dX11_round_35 : decode cX11_round 35 = .ok (.invokevirtual 262, 3) := by decide +kernel
theorem dX11_round_38 : decode cX11_round 38 = .ok (.iconst 1, 1) := by decide +kernel
theorem dX11_round_39 : decode cX11_round 39 = .ok (.istore_n 2, 1) := by decide +kernel
theorem dX11_round_40 : decode cX11_round 40 = .ok (.iload_n 2, 1) := by decide +kernel
theorem dX11_round_41 : decode cX11_round 41 = .ok (.sipush 1000, 3) := by decide +kernel
theorem dX11_round_44 : decode cX11_round 44 = .ok (.if_icmp .gt 33, 3) := by decide +kernel
theorem dX11_round_47 : decode cX11_round 47 = .ok (.aload_n 0, 1) := by decide +kernel
theorem dX11_round_48 : decode cX11_round 48 = .ok (.getfield 80, 3) := by decide +kernel
theorem dX11_round_51 : decode cX11_round 51 = .ok (.aload_n 0, 1) := by decide +kernel
theorem dX11_round_52 : decode cX11_round 52 = .ok (.getfield 10, 3) := by decide +kernel
theorem dX11_round_55 : decode cX11_round 55 = .ok (.invokevirtual 266, 3) := by decide +kernel
theorem dX11_round_58 : decode cX11_round 58 = .ok (.aload_n 0, 1) := by decide +kernel
theorem dX11_round_59 : decode cX11_round 59 = .ok (.getfield 80, 3) := by decide +kernel
theorem dX11_round_62 : decode cX11_round 62 = .ok (.getfield 200, 3) := by decide +kernel
theorem dX11_round_65 : decode cX11_round 65 = .ok (.iload_n 1, 1) := by decide +kernel
theorem dX11_round_66 : decode cX11_round 66 = .ok (.if_icmp .ne 5, 3) := by decide +kernel
theorem dX11_round_69 : decode cX11_round 69 = .ok (.iload_n 2, 1) := by decide +kernel
theorem dX11_round_70 : decode cX11_round 70 = .ok (.ireturn, 1) := by decide +kernel
theorem dX11_round_71 : decode cX11_round 71 = .ok (.iinc 2 1, 3) := by decide +kernel
theorem dX11_round_74 : decode cX11_round 74 = .ok (.goto (-34), 3) := by decide +kernel
theorem dX11_round_77 : decode cX11_round 77 = .ok (.iconst (-1), 1) := by decide +kernel
theorem dX11_round_78 : decode cX11_round 78 = .ok (.ireturn, 1) := by decide +kernel
theorem dX11_trueFor_0 : decode cX11_trueFor 0 = .ok (.aload_n 0, 1) := by decide +kernel
theorem dX11_trueFor_1 : decode cX11_trueFor 1 = .ok (.getfield 10, 3) := by decide +kernel
theorem dX11_trueFor_4 : decode cX11_trueFor 4 = .ok (.invokevirtual 177, 3) := by decide +kernel
theorem dX11_trueFor_7 : decode cX11_trueFor 7 = .ok (.ifCond .ne 6, 3) := by decide +kernel
theorem dX11_trueFor_10 : decode cX11_trueFor 10 = .ok (.ldc 181, 2) := by decide +kernel
theorem dX11_trueFor_12 : decode cX11_trueFor 12 = .ok (.ireturn, 1) := by decide +kernel
theorem dX11_trueFor_13 : decode cX11_trueFor 13 = .ok (.aload_n 0, 1) := by decide +kernel
theorem dX11_trueFor_14 : decode cX11_trueFor 14 = .ok (.getfield 80, 3) := by decide +kernel
theorem dX11_trueFor_17 : decode cX11_trueFor 17 = .ok (.aload_n 0, 1) := by decide +kernel
theorem dX11_trueFor_18 : decode cX11_trueFor 18 = .ok (.getfield 31, 3) := by decide +kernel
theorem dX11_trueFor_21 : decode cX11_trueFor 21 = .ok (.getfield 152, 3) := by decide +kernel
theorem dX11_trueFor_24 : decode cX11_trueFor 24 = .ok (.invokevirtual 262, 3) := by decide +kernel
theorem dX11_trueFor_27 : decode cX11_trueFor 27 = .ok (.aload_n 0, 1) := by decide +kernel
theorem dX11_trueFor_28 : decode cX11_trueFor 28 = .ok (.getfield 57, 3) := by decide +kernel
theorem dX11_trueFor_31 : decode cX11_trueFor 31 = .ok (.invokevirtual 269, 3) := by decide +kernel
theorem dX11_trueFor_34 : decode cX11_trueFor 34 = .ok (.aload_n 0, 1) := by decide +kernel
theorem dX11_trueFor_35 : decode cX11_trueFor 35 = .ok (.getfield 57, 3) := by decide +kernel
theorem dX11_trueFor_38 : decode cX11_trueFor 38 = .ok (.aload_n 0, 1) := by decide +kernel
theorem dX11_trueFor_39 : decode cX11_trueFor 39 = .ok (.getfield 80, 3) := by decide +kernel
theorem dX11_trueFor_42 : decode cX11_trueFor 42 = .ok (.getfield 200, 3) := by decide +kernel
theorem dX11_trueFor_45 : decode cX11_trueFor 45 = .ok (.invokevirtual 272, 3) := by decide +kernel
theorem dX11_trueFor_48 : decode cX11_trueFor 48 = .ok (.pop, 1) := by decide +kernel
theorem dX11_trueFor_49 : decode cX11_trueFor 49 = .ok (.iconst 0, 1) := by decide +kernel
theorem dX11_trueFor_50 : decode cX11_trueFor 50 = .ok (.istore_n 1, 1) := by decide +kernel
theorem dX11_trueFor_51 : decode cX11_trueFor 51 = .ok (.iload_n 1, 1) := by decide +kernel
theorem dX11_trueFor_52 : decode cX11_trueFor 52 = .ok (.sipush 720, 3) := by decide +kernel
theorem dX11_trueFor_55 : decode cX11_trueFor 55 = .ok (.if_icmp .ge 39, 3) := by decide +kernel
theorem dX11_trueFor_58 : decode cX11_trueFor 58 = .ok (.aload_n 0, 1) := by decide +kernel
theorem dX11_trueFor_59 : decode cX11_trueFor 59 = .ok (.getfield 80, 3) := by decide +kernel
theorem dX11_trueFor_62 : decode cX11_trueFor 62 = .ok (.aload_n 0, 1) := by decide +kernel
theorem dX11_trueFor_63 : decode cX11_trueFor 63 = .ok (.getfield 10, 3) := by decide +kernel
theorem dX11_trueFor_66 : decode cX11_trueFor 66 = .ok (.invokevirtual 266, 3) := by decide +kernel
theorem dX11_trueFor_69 : decode cX11_trueFor 69 = .ok (.aload_n 0, 1) := by decide +kernel
theorem dX11_trueFor_70 : decode cX11_trueFor 70 = .ok (.getfield 57, 3) := by decide +kernel
theorem dX11_trueFor_73 : decode cX11_trueFor 73 = .ok (.aload_n 0, 1) := by decide +kernel
theorem dX11_trueFor_74 : decode cX11_trueFor 74 = .ok (.getfield 80, 3) := by decide +kernel
theorem dX11_trueFor_77 : decode cX11_trueFor 77 = .ok (.getfield 200, 3) := by decide +kernel
theorem dX11_trueFor_80 : decode cX11_trueFor 80 = .ok (.invokevirtual 272, 3) := by decide +kernel
theorem dX11_trueFor_83 : decode cX11_trueFor 83 = .ok (.ifCond .ne 5, 3) := by decide +kernel
theorem dX11_trueFor_86 : decode cX11_trueFor 86 = .ok (.iload_n 1, 1) := by decide +kernel
theorem dX11_trueFor_87 : decode cX11_trueFor 87 = .ok (.ireturn, 1) := by decide +kernel
theorem dX11_trueFor_88 : decode cX11_trueFor 88 = .ok (.iinc 1 1, 3) := by decide +kernel
theorem dX11_trueFor_91 : decode cX11_trueFor 91 = .ok (.goto (-40), 3) := by decide +kernel
theorem dX11_trueFor_94 : decode cX11_trueFor 94 = .ok (.sipush 720, 3) := by decide +kernel
theorem dX11_trueFor_97 : decode cX11_trueFor 97 = .ok (.ireturn, 1) := by decide +kernel
theorem dX11_touch_0 : decode cX11_touch 0 = .ok (.iload_n 1, 1) := by decide +kernel
theorem dX11_touch_1 : decode cX11_touch 1 = .ok (.iconst 1, 1) := by decide +kernel
theorem dX11_touch_2 : decode cX11_touch 2 = .ok (.if_icmp .lt 18, 3) := by decide +kernel
theorem dX11_touch_5 : decode cX11_touch 5 = .ok (.iload_n 1, 1) := by decide +kernel
theorem dX11_touch_6 : decode cX11_touch 6 = .ok (.bipush 8, 2) := by decide +kernel
theorem dX11_touch_8 : decode cX11_touch 8 = .ok (.if_icmp .gt 12, 3) := by decide +kernel
theorem dX11_touch_11 : decode cX11_touch 11 = .ok (.iload_n 2, 1) := by decide +kernel
theorem dX11_touch_12 : decode cX11_touch 12 = .ok (.ifCond .lt 8, 3) := by decide +kernel
theorem dX11_touch_15 : decode cX11_touch 15 = .ok (.iload_n 2, 1) := by decide +kernel
theorem dX11_touch_16 : decode cX11_touch 16 = .ok (.iconst 1, 1) := by decide +kernel
theorem dX11_touch_17 : decode cX11_touch 17 = .ok (.if_icmp .le 6, 3) := by decide +kernel
theorem dX11_touch_20 : decode cX11_touch 20 = .ok (.ldc 107, 2) := by decide +kernel
theorem dX11_touch_22 : decode cX11_touch 22 = .ok (.ireturn, 1) := by decide +kernel
theorem dX11_touch_23 : decode cX11_touch 23 = .ok (.aload_n 0, 1) := by decide +kernel
theorem dX11_touch_24 : decode cX11_touch 24 = .ok (.getfield 10, 3) := by decide +kernel
theorem dX11_touch_27 : decode cX11_touch 27 = .ok (.invokevirtual 177, 3) := by decide +kernel
theorem dX11_touch_30 : decode cX11_touch 30 = .ok (.ifCond .ne 6, 3) := by decide +kernel
theorem dX11_touch_33 : decode cX11_touch 33 = .ok (.ldc 181, 2) := by decide +kernel
theorem dX11_touch_35 : decode cX11_touch 35 = .ok (.ireturn, 1) := by decide +kernel
theorem dX11_touch_36 : decode cX11_touch 36 = .ok (.aload_n 0, 1) := by decide +kernel
theorem dX11_touch_37 : decode cX11_touch 37 = .ok (.getfield 66, 3) := by decide +kernel
theorem dX11_touch_40 : decode cX11_touch 40 = .ok (.aload_n 0, 1) := by decide +kernel
theorem dX11_touch_41 : decode cX11_touch 41 = .ok (.getfield 10, 3) := by decide +kernel
theorem dX11_touch_44 : decode cX11_touch 44 = .ok (.iload_n 1, 1) := by decide +kernel
theorem dX11_touch_45 : decode cX11_touch 45 = .ok (.invokevirtual 273, 3) := by decide +kernel
theorem dX11_touch_48 : decode cX11_touch 48 = .ok (.iload_n 2, 1) := by decide +kernel
theorem dX11_touch_49 : decode cX11_touch 49 = .ok (.ifCond .ne 13, 3) := by decide +kernel
theorem dX11_touch_52 : decode cX11_touch 52 = .ok (.aload_n 0, 1) := by decide +kernel
theorem dX11_touch_53 : decode cX11_touch 53 = .ok (.getfield 66, 3) := by decide +kernel
theorem dX11_touch_56 : decode cX11_touch 56 = .ok (.getfield 277, 3) := by decide +kernel
theorem dX11_touch_59 : decode cX11_touch 59 = .ok (.goto 10, 3) := by decide +kernel
theorem dX11_touch_62 : decode cX11_touch 62 = .ok (.aload_n 0, 1) := by decide +kernel
theorem dX11_touch_63 : decode cX11_touch 63 = .ok (.getfield 66, 3) := by decide +kernel
theorem dX11_touch_66 : decode cX11_touch 66 = .ok (.getfield 280, 3) := by decide +kernel
theorem dX11_touch_69 : decode cX11_touch 69 = .ok (.ireturn, 1) := by decide +kernel
theorem dX11_ropes_0 : decode cX11_ropes 0 = .ok (.iload_n 1, 1) := by decide +kernel
theorem dX11_ropes_1 : decode cX11_ropes 1 = .ok (.iconst (-1), 1) := by decide +kernel
theorem dX11_ropes_2 : decode cX11_ropes 2 = .ok (.if_icmp .eq 17, 3) := by decide +kernel
theorem dX11_ropes_5 : decode cX11_ropes 5 = .ok (.aload_n 0, 1) := by decide +kernel
theorem dX11_ropes_6 : decode cX11_ropes 6 = .ok (.getfield 10, 3) := by decide +kernel
theorem dX11_ropes_9 : decode cX11_ropes 9 = .ok (.iload_n 1, 1) := by decide +kernel
theorem dX11_ropes_10 : decode cX11_ropes 10 = .ok (.invokevirtual 213, 3) := by decide +kernel
theorem dX11_ropes_13 : decode cX11_ropes 13 = .ok (.ifCond .ne 6, 3) := by decide +kernel
theorem dX11_ropes_16 : decode cX11_ropes 16 = .ok (.ldc 195, 2) := by decide +kernel
theorem dX11_ropes_18 : decode cX11_ropes 18 = .ok (.ireturn, 1) := by decide +kernel
theorem dX11_ropes_19 : decode cX11_ropes 19 = .ok (.aload_n 0, 1) := by decide +kernel
theorem dX11_ropes_20 : decode cX11_ropes 20 = .ok (.getfield 73, 3) := by decide +kernel
theorem dX11_ropes_23 : decode cX11_ropes 23 = .ok (.aload_n 0, 1) := by decide +kernel
theorem dX11_ropes_24 : decode cX11_ropes 24 = .ok (.getfield 10, 3) := by decide +kernel
theorem dX11_ropes_27 : decode cX11_ropes 27 = .ok (.invokevirtual 283, 3) := by decide +kernel
theorem dX11_ropes_30 : decode cX11_ropes 30 = .ok (.iload_n 1, 1) := by decide +kernel
theorem dX11_ropes_31 : decode cX11_ropes 31 = .ok (.iconst (-1), 1) := by decide +kernel
theorem dX11_ropes_32 : decode cX11_ropes 32 = .ok (.if_icmp .ne 17, 3) := by decide +kernel
theorem dX11_ropes_35 : decode cX11_ropes 35 = .ok (.aload_n 0, 1) := by decide +kernel
theorem dX11_ropes_36 : decode cX11_ropes 36 = .ok (.getfield 73, 3) := by decide +kernel
theorem dX11_ropes_39 : decode cX11_ropes 39 = .ok (.aload_n 0, 1) := by decide +kernel
theorem dX11_ropes_40 : decode cX11_ropes 40 = .ok (.getfield 10, 3) := by decide +kernel
theorem dX11_ropes_43 : decode cX11_ropes 43 = .ok (.invokevirtual 286, 3) := by decide +kernel
theorem dX11_ropes_46 : decode cX11_ropes 46 = .ok (.goto 11, 3) := by decide +kernel
theorem dX11_ropes_49 : decode cX11_ropes 49 = .ok (.aload_n 0, 1) := by decide +kernel
theorem dX11_ropes_50 : decode cX11_ropes 50 = .ok (.getfield 73, 3) := by decide +kernel
theorem dX11_ropes_53 : decode cX11_ropes 53 = .ok (.iload_n 1, 1) := by decide +kernel
theorem dX11_ropes_54 : decode cX11_ropes 54 = .ok (.invokevirtual 289, 3) := by decide +kernel
theorem dX11_ropes_57 : decode cX11_ropes 57 = .ok (.ireturn, 1) := by decide +kernel
theorem dX11_last_0 : decode cX11_last 0 = .ok (.aload_n 0, 1) := by decide +kernel
theorem dX11_last_1 : decode cX11_last 1 = .ok (.getfield 10, 3) := by decide +kernel
theorem dX11_last_4 : decode cX11_last 4 = .ok (.iload_n 1, 1) := by decide +kernel
theorem dX11_last_5 : decode cX11_last 5 = .ok (.invokevirtual 192, 3) := by decide +kernel
theorem dX11_last_8 : decode cX11_last 8 = .ok (.ifCond .ne 6, 3) := by decide +kernel
theorem dX11_last_11 : decode cX11_last 11 = .ok (.ldc 195, 2) := by decide +kernel
theorem dX11_last_13 : decode cX11_last 13 = .ok (.ireturn, 1) := by decide +kernel
theorem dX11_last_14 : decode cX11_last 14 = .ok (.iload_n 2, 1) := by decide +kernel
theorem dX11_last_15 : decode cX11_last 15 = .ok (.iconst 1, 1) := by decide +kernel
theorem dX11_last_16 : decode cX11_last 16 = .ok (.if_icmp .lt 10, 3) := by decide +kernel
theorem dX11_last_19 : decode cX11_last 19 = .ok (.iload_n 2, 1) := by decide +kernel
theorem dX11_last_20 : decode cX11_last 20 = .ok (.sipush 500, 3) := by decide +kernel
theorem dX11_last_23 : decode cX11_last 23 = .ok (.if_icmp .le 6, 3) := by decide +kernel
theorem dX11_last_26 : decode cX11_last 26 = .ok (.ldc 107, 2) := by decide +kernel
theorem dX11_last_28 : decode cX11_last 28 = .ok (.ireturn, 1) := by decide +kernel
theorem dX11_last_29 : decode cX11_last 29 = .ok (.iconst 0, 1) := by decide +kernel
theorem dX11_last_30 : decode cX11_last 30 = .ok (.istore_n 3, 1) := by decide +kernel
theorem dX11_last_31 : decode cX11_last 31 = .ok (.aload_n 0, 1) := by decide +kernel
theorem dX11_last_32 : decode cX11_last 32 = .ok (.getfield 80, 3) := by decide +kernel
theorem dX11_last_35 : decode cX11_last 35 = .ok (.aload_n 0, 1) := by decide +kernel
theorem dX11_last_36 : decode cX11_last 36 = .ok (.getfield 31, 3) := by decide +kernel
theorem dX11_last_39 : decode cX11_last 39 = .ok (.getfield 152, 3) := by decide +kernel
theorem dX11_last_42 : decode cX11_last 42 = .ok (.invokevirtual 262, 3) := by decide +kernel
theorem dX11_last_45 : decode cX11_last 45 = .ok (.iconst 0, 1) := by decide +kernel
theorem dX11_last_46 : decode cX11_last 46 = .ok (.istore 4, 2) := by decide +kernel
theorem dX11_last_48 : decode cX11_last 48 = .ok (.iload 4, 2) := by decide +kernel
theorem dX11_last_50 : decode cX11_last 50 = .ok (.iload_n 2, 1) := by decide +kernel
theorem dX11_last_51 : decode cX11_last 51 = .ok (.if_icmp .ge 46, 3) := by decide +kernel
theorem dX11_last_54 : decode cX11_last 54 = .ok (.aload_n 0, 1) := by decide +kernel
theorem dX11_last_55 : decode cX11_last 55 = .ok (.getfield 80, 3) := by decide +kernel
theorem dX11_last_58 : decode cX11_last 58 = .ok (.aload_n 0, 1) := by decide +kernel
theorem dX11_last_59 : decode cX11_last 59 = .ok (.getfield 10, 3) := by decide +kernel
theorem dX11_last_62 : decode cX11_last 62 = .ok (.invokevirtual 266, 3) := by decide +kernel
theorem dX11_last_65 : decode cX11_last 65 = .ok (.aload_n 0, 1) := by decide +kernel
theorem dX11_last_66 : decode cX11_last 66 = .ok (.getfield 80, 3) := by decide +kernel
theorem dX11_last_69 : decode cX11_last 69 = .ok (.getfield 200, 3) := by decide +kernel
theorem dX11_last_72 : decode cX11_last 72 = .ok (.aload_n 0, 1) := by decide +kernel
theorem dX11_last_73 : decode cX11_last 73 = .ok (.getfield 10, 3) := by decide +kernel
theorem dX11_last_76 : decode cX11_last 76 = .ok (.getfield 130, 3) := by decide +kernel
theorem dX11_last_79 : decode cX11_last 79 = .ok (.iconst 1, 1) := by decide +kernel
theorem dX11_last_80 : decode cX11_last 80 = .ok (.isub, 1) := by decide +kernel
theorem dX11_last_81 : decode cX11_last 81 = .ok (.invokestatic 292, 3) := by decide +kernel
theorem dX11_last_84 : decode cX11_last 84 = .ok (.iload_n 1, 1) := by decide +kernel
theorem dX11_last_85 : decode cX11_last 85 = .ok (.if_icmp .ne 6, 3) := by decide +kernel
theorem dX11_last_88 : decode cX11_last 88 = .ok (.iinc 3 1, 3) := by decide +kernel
theorem dX11_last_91 : decode cX11_last 91 = .ok (.iinc 4 1, 3) := by decide +kernel
theorem dX11_last_94 : decode cX11_last 94 = .ok (.goto (-46), 3) := by decide +kernel
theorem dX11_last_97 : decode cX11_last 97 = .ok (.iload_n 3, 1) := by decide +kernel
theorem dX11_last_98 : decode cX11_last 98 = .ok (.ireturn, 1) := by decide +kernel
theorem dX11_nextOut_0 : decode cX11_nextOut 0 = .ok (.aload_n 0, 1) := by decide +kernel
theorem dX11_nextOut_1 : decode cX11_nextOut 1 = .ok (.getfield 10, 3) := by decide +kernel
theorem dX11_nextOut_4 : decode cX11_nextOut 4 = .ok (.invokevirtual 177, 3) := by decide +kernel
theorem dX11_nextOut_7 : decode cX11_nextOut 7 = .ok (.ifCond .ne 5, 3) := by decide +kernel
theorem dX11_nextOut_10 : decode cX11_nextOut 10 = .ok (.iconst (-1), 1) := by decide +kernel
theorem dX11_nextOut_11 : decode cX11_nextOut 11 = .ok (.ireturn, 1) := by decide +kernel
theorem dX11_nextOut_12 : decode cX11_nextOut 12 = .ok (.aload_n 0, 1) := by decide +kernel
theorem dX11_nextOut_13 : decode cX11_nextOut 13 = .ok (.getfield 80, 3) := by decide +kernel
theorem dX11_nextOut_16 : decode cX11_nextOut 16 = .ok (.aload_n 0, 1) := by decide +kernel
theorem dX11_nextOut_17 : decode cX11_nextOut 17 = .ok (.getfield 31, 3) := by decide +kernel
theorem dX11_nextOut_20 : decode cX11_nextOut 20 = .ok (.getfield 152, 3) := by decide +kernel
theorem dX11_nextOut_23 : decode cX11_nextOut 23 = .ok (.invokevirtual 262, 3) := by decide +kernel
theorem dX11_nextOut_26 : decode cX11_nextOut 26 = .ok (.iconst 0, 1) := by decide +kernel
theorem dX11_nextOut_27 : decode cX11_nextOut 27 = .ok (.istore_n 1, 1) := by decide +kernel
theorem dX11_nextOut_28 : decode cX11_nextOut 28 = .ok (.iload_n 1, 1) := by decide +kernel
theorem dX11_nextOut_29 : decode cX11_nextOut 29 = .ok (.sipush 500, 3) := by decide +kernel
theorem dX11_nextOut_32 : decode cX11_nextOut 32 = .ok (.if_icmp .ge 60, 3) := by decide +kernel
theorem dX11_nextOut_35 : decode cX11_nextOut 35 = .ok (.aload_n 0, 1) := by decide +kernel
theorem dX11_nextOut_36 : decode cX11_nextOut 36 = .ok (.getfield 80, 3) := by decide +kernel
theorem dX11_nextOut_39 : decode cX11_nextOut 39 = .ok (.aload_n 0, 1) := by decide +kernel
theorem dX11_nextOut_40 : decode cX11_nextOut 40 = .ok (.getfield 10, 3) := by decide +kernel
theorem dX11_nextOut_43 : decode cX11_nextOut 43 = .ok (.invokevirtual 266, 3) := by decide +kernel
theorem dX11_nextOut_46 : decode cX11_nextOut 46 = .ok (.aload_n 0, 1) := by decide +kernel
theorem dX11_nextOut_47 : decode cX11_nextOut 47 = .ok (.getfield 80, 3) := by decide +kernel
theorem dX11_nextOut_50 : decode cX11_nextOut 50 = .ok (.invokevirtual 295, 3) := by decide +kernel
theorem dX11_nextOut_53 : decode cX11_nextOut 53 = .ok (.ifCond .eq 24, 3) := by decide +kernel
theorem dX11_nextOut_56 : decode cX11_nextOut 56 = .ok (.aload_n 0, 1) := by decide +kernel
theorem dX11_nextOut_57 : decode cX11_nextOut 57 = .ok (.getfield 31, 3) := by decide +kernel
theorem dX11_nextOut_60 : decode cX11_nextOut 60 = .ok (.aload_n 0, 1) := by decide +kernel
theorem dX11_nextOut_61 : decode cX11_nextOut 61 = .ok (.getfield 80, 3) := by decide +kernel
theorem dX11_nextOut_64 : decode cX11_nextOut 64 = .ok (.getfield 200, 3) := by decide +kernel
theorem dX11_nextOut_67 : decode cX11_nextOut 67 = .ok (.aload_n 0, 1) := by decide +kernel
theorem dX11_nextOut_68 : decode cX11_nextOut 68 = .ok (.getfield 10, 3) := by decide +kernel
theorem dX11_nextOut_71 : decode cX11_nextOut 71 = .ok (.invokevirtual 298, 3) := by decide +kernel
theorem dX11_nextOut_74 : decode cX11_nextOut 74 = .ok (.goto 4, 3) := by decide +kernel
theorem dX11_nextOut_77 : decode cX11_nextOut 77 = .ok (.iconst (-1), 1) := by decide +kernel
theorem dX11_nextOut_78 : decode cX11_nextOut 78 = .ok (.istore_n 2, 1) := by decide +kernel
theorem dX11_nextOut_79 : decode cX11_nextOut 79 = .ok (.iload_n 2, 1) := by decide +kernel
theorem dX11_nextOut_80 : decode cX11_nextOut 80 = .ok (.iconst (-1), 1) := by decide +kernel
theorem dX11_nextOut_81 : decode cX11_nextOut 81 = .ok (.if_icmp .eq 5, 3) := by decide +kernel
theorem dX11_nextOut_84 : decode cX11_nextOut 84 = .ok (.iload_n 2, 1) := by decide +kernel
theorem dX11_nextOut_85 : decode cX11_nextOut 85 = .ok (.ireturn, 1) := by decide +kernel
theorem dX11_nextOut_86 : decode cX11_nextOut 86 = .ok (.iinc 1 1, 3) := by decide +kernel
theorem dX11_nextOut_89 : decode cX11_nextOut 89 = .ok (.goto (-61), 3) := by decide +kernel
theorem dX11_nextOut_92 : decode cX11_nextOut 92 = .ok (.iconst (-1), 1) := by decide +kernel
theorem dX11_nextOut_93 : decode cX11_nextOut 93 = .ok (.ireturn, 1) := by decide +kernel
theorem dX11_change_0 : decode cX11_change 0 = .ok (.iload_n 1, 1) := by decide +kernel
theorem dX11_change_1 : decode cX11_change 1 = .ok (.aload_n 0, 1) := by decide +kernel
theorem dX11_change_2 : decode cX11_change 2 = .ok (.getfield 10, 3) := by decide +kernel
theorem dX11_change_5 : decode cX11_change 5 = .ok (.getfield 130, 3) := by decide +kernel
theorem dX11_change_8 : decode cX11_change 8 = .ok (.invokestatic 301, 3) := by decide +kernel
theorem dX11_change_11 : decode cX11_change 11 = .ok (.istore_n 3, 1) := by decide +kernel
theorem dX11_change_12 : decode cX11_change 12 = .ok (.iload_n 2, 1) := by decide +kernel
theorem dX11_change_13 : decode cX11_change 13 = .ok (.aload_n 0, 1) := by decide +kernel
theorem dX11_change_14 : decode cX11_change 14 = .ok (.getfield 10, 3) := by decide +kernel
theorem dX11_change_17 : decode cX11_change 17 = .ok (.getfield 130, 3) := by decide +kernel
theorem dX11_change_20 : decode cX11_change 20 = .ok (.invokestatic 301, 3) := by decide +kernel
theorem dX11_change_23 : decode cX11_change 23 = .ok (.istore 4, 2) := by decide +kernel
theorem dX11_change_25 : decode cX11_change 25 = .ok (.iload_n 3, 1) := by decide +kernel
theorem dX11_change_26 : decode cX11_change 26 = .ok (.iconst (-1), 1) := by decide +kernel
theorem dX11_change_27 : decode cX11_change 27 = .ok (.if_icmp .eq 9, 3) := by decide +kernel
theorem dX11_change_30 : decode cX11_change 30 = .ok (.iload 4, 2) := by decide +kernel
theorem dX11_change_32 : decode cX11_change 32 = .ok (.iconst (-1), 1) := by decide +kernel
theorem dX11_change_33 : decode cX11_change 33 = .ok (.if_icmp .ne 6, 3) := by decide +kernel
theorem dX11_change_36 : decode cX11_change 36 = .ok (.ldc 107, 2) := by decide +kernel
theorem dX11_change_38 : decode cX11_change 38 = .ok (.ireturn, 1) := by decide +kernel
theorem dX11_change_39 : decode cX11_change 39 = .ok (.iload_n 3, 1) := by decide +kernel
theorem dX11_change_40 : decode cX11_change 40 = .ok (.iload 4, 2) := by decide +kernel
theorem dX11_change_42 : decode cX11_change 42 = .ok (.aload_n 0, 1) := by decide +kernel
theorem dX11_change_43 : decode cX11_change 43 = .ok (.getfield 10, 3) := by decide +kernel
theorem dX11_change_46 : decode cX11_change 46 = .ok (.getfield 130, 3) := by decide +kernel
theorem dX11_change_49 : decode cX11_change 49 = .ok (.invokestatic 304, 3) := by decide +kernel
theorem dX11_change_52 : decode cX11_change 52 = .ok (.istore 5, 2) := by decide +kernel
theorem dX11_change_54 : decode cX11_change 54 = .ok (.aload_n 0, 1) := by decide +kernel
theorem dX11_change_55 : decode cX11_change 55 = .ok (.getfield 87, 3) := by decide +kernel
theorem dX11_change_58 : decode cX11_change 58 = .ok (.iload 5, 2) := by decide +kernel
theorem dX11_change_60 : decode cX11_change 60 = .ok (.aload_n 0, 1) := by decide +kernel
theorem dX11_change_61 : decode cX11_change 61 = .ok (.getfield 10, 3) := by decide +kernel
theorem dX11_change_64 : decode cX11_change 64 = .ok (.getfield 130, 3) := by decide +kernel
theorem dX11_change_67 : decode cX11_change 67 = .ok (.invokevirtual 307, 3) := by decide +kernel
theorem dX11_change_70 : decode cX11_change 70 = .ok (.ifCond .ne 5, 3) := by decide +kernel
theorem dX11_change_73 : decode cX11_change 73 = .ok (.iconst (-1), 1) := by decide +kernel
theorem dX11_change_74 : decode cX11_change 74 = .ok (.ireturn, 1) := by decide +kernel
theorem dX11_change_75 : decode cX11_change 75 = .ok (.aload_n 0, 1) := by decide +kernel
theorem dX11_change_76 : decode cX11_change 76 = .ok (.getfield 87, 3) := by decide +kernel
theorem dX11_change_79 : decode cX11_change 79 = .ok (.iload_n 3, 1) := by decide +kernel
theorem dX11_change_80 : decode cX11_change 80 = .ok (.invokevirtual 311, 3) := by decide +kernel
theorem dX11_change_83 : decode cX11_change 83 = .ok (.iload 4, 2) := by decide +kernel
theorem dX11_change_85 : decode cX11_change 85 = .ok (.if_icmp .ne 8, 3) := by decide +kernel
theorem dX11_change_88 : decode cX11_change 88 = .ok (.iload 5, 2) := by decide +kernel
theorem dX11_change_90 : decode cX11_change 90 = .ok (.goto 4, 3) := by decide +kernel
theorem dX11_change_93 : decode cX11_change 93 = .ok (.iconst (-1), 1) := by decide +kernel
theorem dX11_change_94 : decode cX11_change 94 = .ok (.ireturn, 1) := by decide +kernel
theorem dX11_follow_0 : decode cX11_follow 0 = .ok (.aload_n 0, 1) := by decide +kernel
theorem dX11_follow_1 : decode cX11_follow 1 = .ok (.getfield 10, 3) := by decide +kernel
theorem dX11_follow_4 : decode cX11_follow 4 = .ok (.invokevirtual 177, 3) := by decide +kernel
theorem dX11_follow_7 : decode cX11_follow 7 = .ok (.ifCond .ne 6, 3) := by decide +kernel
theorem dX11_follow_10 : decode cX11_follow 10 = .ok (.ldc 181, 2) := by decide +kernel
theorem dX11_follow_12 : decode cX11_follow 12 = .ok (.ireturn, 1) := by decide +kernel
theorem dX11_follow_13 : decode cX11_follow 13 = .ok (.iconst 0, 1) := by decide +kernel
theorem dX11_follow_14 : decode cX11_follow 14 = .ok (.istore_n 1, 1) := by decide +kernel
theorem dX11_follow_15 : decode cX11_follow 15 = .ok (.iconst 0, 1) := by decide +kernel
theorem dX11_follow_16 : decode cX11_follow 16 = .ok (.istore_n 2, 1) := by decide +kernel
theorem dX11_follow_17 : decode cX11_follow 17 = .ok (.iload_n 2, 1) := by decide +kernel
theorem dX11_follow_18 : decode cX11_follow 18 = .ok (.aload_n 0, 1) := by decide +kernel
theorem dX11_follow_19 : decode cX11_follow 19 = .ok (.getfield 10, 3) := by decide +kernel
theorem dX11_follow_22 : decode cX11_follow 22 = .ok (.invokevirtual 314, 3) := by decide +kernel
theorem dX11_follow_25 : decode cX11_follow 25 = .ok (.if_icmp .ge 27, 3) := by decide +kernel
theorem dX11_follow_28 : decode cX11_follow 28 = .ok (.iload_n 2, 1) := by decide +kernel
theorem dX11_follow_29 : decode cX11_follow 29 = .ok (.aload_n 0, 1) := by decide +kernel
theorem dX11_follow_30 : decode cX11_follow 30 = .ok (.getfield 10, 3) := by decide +kernel
theorem dX11_follow_33 : decode cX11_follow 33 = .ok (.getfield 130, 3) := by decide +kernel
theorem dX11_follow_36 : decode cX11_follow 36 = .ok (.invokestatic 317, 3) := by decide +kernel
theorem dX11_follow_39 : decode cX11_follow 39 = .ok (.iconst (-1), 1) := by decide +kernel
theorem dX11_follow_40 : decode cX11_follow 40 = .ok (.if_icmp .eq 6, 3) := by decide +kernel
theorem dX11_follow_43 : decode cX11_follow 43 = .ok (.iinc 1 1, 3) := by decide +kernel
theorem dX11_follow_46 : decode cX11_follow 46 = .ok (.iinc 2 1, 3) := by decide +kernel
theorem dX11_follow_49 : decode cX11_follow 49 = .ok (.goto (-32), 3) := by decide +kernel
theorem dX11_follow_52 : decode cX11_follow 52 = .ok (.iload_n 1, 1) := by decide +kernel
theorem dX11_follow_53 : decode cX11_follow 53 = .ok (.ireturn, 1) := by decide +kernel
theorem dX11_gap_0 : decode cX11_gap 0 = .ok (.aload_n 0, 1) := by decide +kernel
theorem dX11_gap_1 : decode cX11_gap 1 = .ok (.getfield 10, 3) := by decide +kernel
theorem dX11_gap_4 : decode cX11_gap 4 = .ok (.iload_n 1, 1) := by decide +kernel
theorem dX11_gap_5 : decode cX11_gap 5 = .ok (.invokevirtual 192, 3) := by decide +kernel
theorem dX11_gap_8 : decode cX11_gap 8 = .ok (.ifCond .ne 6, 3) := by decide +kernel
theorem dX11_gap_11 : decode cX11_gap 11 = .ok (.ldc 195, 2) := by decide +kernel
theorem dX11_gap_13 : decode cX11_gap 13 = .ok (.ireturn, 1) := by decide +kernel
theorem dX11_gap_14 : decode cX11_gap 14 = .ok (.iload_n 2, 1) := by decide +kernel
theorem dX11_gap_15 : decode cX11_gap 15 = .ok (.iconst 1, 1) := by decide +kernel
theorem dX11_gap_16 : decode cX11_gap 16 = .ok (.if_icmp .lt 10, 3) := by decide +kernel
theorem dX11_gap_19 : decode cX11_gap 19 = .ok (.iload_n 2, 1) := by decide +kernel
theorem dX11_gap_20 : decode cX11_gap 20 = .ok (.sipush 500, 3) := by decide +kernel
theorem dX11_gap_23 : decode cX11_gap 23 = .ok (.if_icmp .le 6, 3) := by decide +kernel
theorem dX11_gap_26 : decode cX11_gap 26 = .ok (.ldc 107, 2) := by decide +kernel
theorem dX11_gap_28 : decode cX11_gap 28 = .ok (.ireturn, 1) := by decide +kernel
theorem dX11_gap_29 : decode cX11_gap 29 = .ok (.iconst 1, 1) := by decide +kernel
theorem dX11_gap_30 : decode cX11_gap 30 = .ok (.istore_n 3, 1) := by decide +kernel
theorem dX11_gap_31 : decode cX11_gap 31 = .ok (.aload_n 0, 1) := by decide +kernel
theorem dX11_gap_32 : decode cX11_gap 32 = .ok (.getfield 80, 3) := by decide +kernel
theorem dX11_gap_35 : decode cX11_gap 35 = .ok (.aload_n 0, 1) := by decide +kernel
theorem dX11_gap_36 : decode cX11_gap 36 = .ok (.getfield 31, 3) := by decide +kernel
theorem dX11_gap_39 : decode cX11_gap 39 = .ok (.getfield 152, 3) := by decide +kernel
theorem dX11_gap_42 : decode cX11_gap 42 = .ok (.invokevirtual 262, 3) := by decide +kernel
theorem dX11_gap_45 : decode cX11_gap 45 = .ok (.aload_n 0, 1) := by decide +kernel
theorem dX11_gap_46 : decode cX11_gap 46 = .ok (.getfield 57, 3) := by decide +kernel
theorem dX11_gap_49 : decode cX11_gap 49 = .ok (.invokevirtual 269, 3) := by decide +kernel
theorem dX11_gap_52 : decode cX11_gap 52 = .ok (.aload_n 0, 1) := by decide +kernel
theorem dX11_gap_53 : decode cX11_gap 53 = .ok (.getfield 57, 3) := by decide +kernel
theorem dX11_gap_56 : decode cX11_gap 56 = .ok (.aload_n 0, 1) := by decide +kernel
theorem dX11_gap_57 : decode cX11_gap 57 = .ok (.getfield 80, 3) := by decide +kernel
theorem dX11_gap_60 : decode cX11_gap 60 = .ok (.getfield 200, 3) := by decide +kernel
theorem dX11_gap_63 : decode cX11_gap 63 = .ok (.iload_n 1, 1) := by decide +kernel
theorem dX11_gap_64 : decode cX11_gap 64 = .ok (.aload_n 0, 1) := by decide +kernel
theorem dX11_gap_65 : decode cX11_gap 65 = .ok (.getfield 10, 3) := by decide +kernel
theorem dX11_gap_68 : decode cX11_gap 68 = .ok (.getfield 130, 3) := by decide +kernel
theorem dX11_gap_71 : decode cX11_gap 71 = .ok (.invokestatic 320, 3) := by decide +kernel
theorem dX11_gap_74 : decode cX11_gap 74 = .ok (.invokevirtual 272, 3) := by decide +kernel
theorem dX11_gap_77 : decode cX11_gap 77 = .ok (.pop, 1) := by decide +kernel
theorem dX11_gap_78 : decode cX11_gap 78 = .ok (.iconst 0, 1) := by decide +kernel
theorem dX11_gap_79 : decode cX11_gap 79 = .ok (.istore 4, 2) := by decide +kernel
theorem dX11_gap_81 : decode cX11_gap 81 = .ok (.iload 4, 2) := by decide +kernel
theorem dX11_gap_83 : decode cX11_gap 83 = .ok (.iload_n 2, 1) := by decide +kernel
theorem dX11_gap_84 : decode cX11_gap 84 = .ok (.if_icmp .ge 51, 3) := by decide +kernel
theorem dX11_gap_87 : decode cX11_gap 87 = .ok (.aload_n 0, 1) := by decide +kernel
theorem dX11_gap_88 : decode cX11_gap 88 = .ok (.getfield 80, 3) := by decide +kernel
theorem dX11_gap_91 : decode cX11_gap 91 = .ok (.aload_n 0, 1) := by decide +kernel
theorem dX11_gap_92 : decode cX11_gap 92 = .ok (.getfield 10, 3) := by decide +kernel
theorem dX11_gap_95 : decode cX11_gap 95 = .ok (.invokevirtual 266, 3) := by decide +kernel
theorem dX11_gap_98 : decode cX11_gap 98 = .ok (.aload_n 0, 1) := by decide +kernel
theorem dX11_gap_99 : decode cX11_gap 99 = .ok (.getfield 57, 3) := by decide +kernel
theorem dX11_gap_102 : decode cX11_gap 102 = .ok (.aload_n 0, 1) := by decide +kernel
theorem dX11_gap_103 : decode cX11_gap 103 = .ok (.getfield 80, 3) := by decide +kernel
theorem dX11_gap_106 : decode cX11_gap 106 = .ok (.getfield 200, 3) := by decide +kernel
theorem dX11_gap_109 : decode cX11_gap 109 = .ok (.iload_n 1, 1) := by decide +kernel
theorem dX11_gap_110 : decode cX11_gap 110 = .ok (.aload_n 0, 1) := by decide +kernel
theorem dX11_gap_111 : decode cX11_gap 111 = .ok (.getfield 10, 3) := by decide +kernel
theorem dX11_gap_114 : decode cX11_gap 114 = .ok (.getfield 130, 3) := by decide +kernel
theorem dX11_gap_117 : decode cX11_gap 117 = .ok (.invokestatic 320, 3) := by decide +kernel
theorem dX11_gap_120 : decode cX11_gap 120 = .ok (.invokevirtual 272, 3) := by decide +kernel
theorem dX11_gap_123 : decode cX11_gap 123 = .ok (.ifCond .eq 6, 3) := by decide +kernel
theorem dX11_gap_126 : decode cX11_gap 126 = .ok (.iinc 3 1, 3) := by decide +kernel
theorem dX11_gap_129 : decode cX11_gap 129 = .ok (.iinc 4 1, 3) := by decide +kernel
theorem dX11_gap_132 : decode cX11_gap 132 = .ok (.goto (-51), 3) := by decide +kernel
theorem dX11_gap_135 : decode cX11_gap 135 = .ok (.iload_n 3, 1) := by decide +kernel
theorem dX11_gap_136 : decode cX11_gap 136 = .ok (.ireturn, 1) := by decide +kernel
theorem dX11_dry_0 : decode cX11_dry 0 = .ok (.iload_n 1, 1) := by decide +kernel
theorem dX11_dry_1 : decode cX11_dry 1 = .ok (.ifCond .lt 19, 3) := by decide +kernel
theorem dX11_dry_4 : decode cX11_dry 4 = .ok (.iload_n 1, 1) := by decide +kernel
theorem dX11_dry_5 : decode cX11_dry 5 = .ok (.bipush 60, 2) := by decide +kernel
theorem dX11_dry_7 : decode cX11_dry 7 = .ok (.if_icmp .gt 13, 3) := by decide +kernel
theorem dX11_dry_10 : decode cX11_dry 10 = .ok (.iload_n 2, 1) := by decide +kernel
theorem dX11_dry_11 : decode cX11_dry 11 = .ok (.ifCond .lt 9, 3) := by decide +kernel
theorem dX11_dry_14 : decode cX11_dry 14 = .ok (.iload_n 2, 1) := by decide +kernel
theorem dX11_dry_15 : decode cX11_dry 15 = .ok (.bipush 100, 2) := by decide +kernel
theorem dX11_dry_17 : decode cX11_dry 17 = .ok (.if_icmp .le 6, 3) := by decide +kernel
theorem dX11_dry_20 : decode cX11_dry 20 = .ok (.ldc 107, 2) := by decide +kernel
theorem dX11_dry_22 : decode cX11_dry 22 = .ok (.ireturn, 1) := by decide +kernel
theorem dX11_dry_23 : decode cX11_dry 23 = .ok (.ldc2_w 323, 3) := by decide +kernel
theorem dX11_dry_26 : decode cX11_dry 26 = .ok (.lstore_n 3, 1) := by decide +kernel
theorem dX11_dry_27 : decode cX11_dry 27 = .ok (.iconst 0, 1) := by decide +kernel
theorem dX11_dry_28 : decode cX11_dry 28 = .ok (.istore 5, 2) := by decide +kernel
theorem dX11_dry_30 : decode cX11_dry 30 = .ok (.iload 5, 2) := by decide +kernel
theorem dX11_dry_32 : decode cX11_dry 32 = .ok (.iload_n 1, 1) := by decide +kernel
theorem dX11_dry_33 : decode cX11_dry 33 = .ok (.if_icmp .ge 18, 3) := by decide +kernel
theorem dX11_dry_36 : decode cX11_dry 36 = .ok (.lload_n 3, 1) := by decide +kernel
theorem dX11_dry_37 : decode cX11_dry 37 = .ok (.iload_n 2, 1) := by decide +kernel
theorem dX11_dry_38 : decode cX11_dry 38 = .ok (.i2l, 1) := by decide +kernel
theorem dX11_dry_39 : decode cX11_dry 39 = .ok (.lmul, 1) := by decide +kernel
theorem dX11_dry_40 : decode cX11_dry 40 = .ok (.ldc2_w 325, 3) := by decide +kernel
theorem dX11_dry_43 : decode cX11_dry 43 = .ok (.ldiv, 1) := by decide +kernel
theorem dX11_dry_44 : decode cX11_dry 44 = .ok (.lstore_n 3, 1) := by decide +kernel
theorem dX11_dry_45 : decode cX11_dry 45 = .ok (.iinc 5 1, 3) := by decide +kernel
theorem dX11_dry_48 : decode cX11_dry 48 = .ok (.goto (-18), 3) := by decide +kernel
theorem dX11_dry_51 : decode cX11_dry 51 = .ok (.lload_n 3, 1) := by decide +kernel
theorem dX11_dry_52 : decode cX11_dry 52 = .ok (.l2i, 1) := by decide +kernel
theorem dX11_dry_53 : decode cX11_dry 53 = .ok (.ireturn, 1) := by decide +kernel
theorem dX11_hear_0 : decode cX11_hear 0 = .ok (.iload_n 2, 1) := by decide +kernel
theorem dX11_hear_1 : decode cX11_hear 1 = .ok (.aload_n 0, 1) := by decide +kernel
theorem dX11_hear_2 : decode cX11_hear 2 = .ok (.getfield 10, 3) := by decide +kernel
theorem dX11_hear_5 : decode cX11_hear 5 = .ok (.getfield 130, 3) := by decide +kernel
theorem dX11_hear_8 : decode cX11_hear 8 = .ok (.invokestatic 301, 3) := by decide +kernel
theorem dX11_hear_11 : decode cX11_hear 11 = .ok (.istore_n 3, 1) := by decide +kernel
theorem dX11_hear_12 : decode cX11_hear 12 = .ok (.iload_n 1, 1) := by decide +kernel
theorem dX11_hear_13 : decode cX11_hear 13 = .ok (.ifCond .lt 15, 3) := by decide +kernel
theorem dX11_hear_16 : decode cX11_hear 16 = .ok (.iload_n 1, 1) := by decide +kernel
theorem dX11_hear_17 : decode cX11_hear 17 = .ok (.sipush 500, 3) := by decide +kernel
theorem dX11_hear_20 : decode cX11_hear 20 = .ok (.if_icmp .gt 8, 3) := by decide +kernel
theorem dX11_hear_23 : decode cX11_hear 23 = .ok (.iload_n 3, 1) := by decide +kernel
theorem dX11_hear_24 : decode cX11_hear 24 = .ok (.iconst (-1), 1) := by decide +kernel
theorem dX11_hear_25 : decode cX11_hear 25 = .ok (.if_icmp .ne 6, 3) := by decide +kernel
theorem dX11_hear_28 : decode cX11_hear 28 = .ok (.ldc 107, 2) := by decide +kernel
theorem dX11_hear_30 : decode cX11_hear 30 = .ok (.ireturn, 1) := by decide +kernel
theorem dX11_hear_31 : decode cX11_hear 31 = .ok (.aload_n 0, 1) := by decide +kernel
theorem dX11_hear_32 : decode cX11_hear 32 = .ok (.getfield 94, 3) := by decide +kernel
theorem dX11_hear_35 : decode cX11_hear 35 = .ok (.getfield 165, 3) := by decide +kernel
theorem dX11_hear_38 : decode cX11_hear 38 = .ok (.bipush 6, 2) := by decide +kernel
theorem dX11_hear_40 : decode cX11_hear 40 = .ok (.if_icmp .lt 6, 3) := by decide +kernel
theorem dX11_hear_43 : decode cX11_hear 43 = .ok (.ldc 115, 2) := by decide +kernel
theorem dX11_hear_45 : decode cX11_hear 45 = .ok (.ireturn, 1) := by decide +kernel
theorem dX11_hear_46 : decode cX11_hear 46 = .ok (.aload_n 0, 1) := by decide +kernel
theorem dX11_hear_47 : decode cX11_hear 47 = .ok (.getfield 94, 3) := by decide +kernel
theorem dX11_hear_50 : decode cX11_hear 50 = .ok (.aload_n 0, 1) := by decide +kernel
theorem dX11_hear_51 : decode cX11_hear 51 = .ok (.iload_n 1, 1) := by decide +kernel
theorem dX11_hear_52 : decode cX11_hear 52 = .ok (.invokevirtual 327, 3) := by decide +kernel
theorem dX11_hear_55 : decode cX11_hear 55 = .ok (.iload_n 3, 1) := by decide +kernel
theorem dX11_hear_56 : decode cX11_hear 56 = .ok (.aload_n 0, 1) := by decide +kernel
theorem dX11_hear_57 : decode cX11_hear 57 = .ok (.getfield 10, 3) := by decide +kernel
theorem dX11_hear_60 : decode cX11_hear 60 = .ok (.invokevirtual 330, 3) := by decide +kernel
theorem dX11_hear_63 : decode cX11_hear 63 = .ok (.aload_n 0, 1) := by decide +kernel
theorem dX11_hear_64 : decode cX11_hear 64 = .ok (.getfield 94, 3) := by decide +kernel
theorem dX11_hear_67 : decode cX11_hear 67 = .ok (.getfield 165, 3) := by decide +kernel
theorem dX11_hear_70 : decode cX11_hear 70 = .ok (.ireturn, 1) := by decide +kernel
theorem dX11_listen_0 : decode cX11_listen 0 = .ok (.aload_n 0, 1) := by decide +kernel
theorem dX11_listen_1 : decode cX11_listen 1 = .ok (.getfield 10, 3) := by decide +kernel
theorem dX11_listen_4 : decode cX11_listen 4 = .ok (.invokevirtual 177, 3) := by decide +kernel
theorem dX11_listen_7 : decode cX11_listen 7 = .ok (.ifCond .ne 6, 3) := by decide +kernel
theorem dX11_listen_10 : decode cX11_listen 10 = .ok (.ldc 181, 2) := by decide +kernel
theorem dX11_listen_12 : decode cX11_listen 12 = .ok (.ireturn, 1) := by decide +kernel
theorem dX11_listen_13 : decode cX11_listen 13 = .ok (.iconst (-1), 1) := by decide +kernel
theorem dX11_listen_14 : decode cX11_listen 14 = .ok (.istore_n 1, 1) := by decide +kernel
theorem dX11_listen_15 : decode cX11_listen 15 = .ok (.aload_n 0, 1) := by decide +kernel
theorem dX11_listen_16 : decode cX11_listen 16 = .ok (.getfield 94, 3) := by decide +kernel
theorem dX11_listen_19 : decode cX11_listen 19 = .ok (.getfield 168, 3) := by decide +kernel
theorem dX11_listen_22 : decode cX11_listen 22 = .ok (.invokestatic 334, 3) := by decide +kernel
theorem dX11_listen_25 : decode cX11_listen 25 = .ok (.istore_n 2, 1) := by decide +kernel
theorem dX11_listen_26 : decode cX11_listen 26 = .ok (.aload_n 0, 1) := by decide +kernel
theorem dX11_listen_27 : decode cX11_listen 27 = .ok (.getfield 80, 3) := by decide +kernel
theorem dX11_listen_30 : decode cX11_listen 30 = .ok (.aload_n 0, 1) := by decide +kernel
theorem dX11_listen_31 : decode cX11_listen 31 = .ok (.getfield 10, 3) := by decide +kernel
theorem dX11_listen_34 : decode cX11_listen 34 = .ok (.invokevirtual 339, 3) := by decide +kernel
theorem dX11_listen_37 : decode cX11_listen 37 = .ok (.iconst 0, 1) := by decide +kernel
theorem dX11_listen_38 : decode cX11_listen 38 = .ok (.istore_n 3, 1) := by decide +kernel
theorem dX11_listen_39 : decode cX11_listen 39 = .ok (.iload_n 3, 1) := by decide +kernel
theorem dX11_listen_40 : decode cX11_listen 40 = .ok (.bipush 100, 2) := by decide +kernel
theorem dX11_listen_42 : decode cX11_listen 42 = .ok (.if_icmp .ge 49, 3) := by decide +kernel
theorem dX11_listen_45 : decode cX11_listen 45 = .ok (.iload_n 2, 1) := by decide +kernel
theorem dX11_listen_46 : decode cX11_listen 46 = .ok (.iconst 1, 1) := by decide +kernel
theorem dX11_listen_47 : decode cX11_listen 47 = .ok (.if_icmp .le 44, 3) := by decide +kernel
theorem dX11_listen_50 : decode cX11_listen 50 = .ok (.aload_n 0, 1) := by decide +kernel
theorem dX11_listen_51 : decode cX11_listen 51 = .ok (.aload_n 0, 1) := by decide +kernel
theorem dX11_listen_52 : decode cX11_listen 52 = .ok (.getfield 80, 3) := by decide +kernel
theorem dX11_listen_55 : decode cX11_listen 55 = .ok (.getfield 200, 3) := by decide +kernel
theorem dX11_listen_58 : decode cX11_listen 58 = .ok (.invokevirtual 340, 3) := by decide +kernel
theorem dX11_listen_61 : decode cX11_listen 61 = .ok (.istore 4, 2) := by decide +kernel
theorem dX11_listen_63 : decode cX11_listen 63 = .ok (.iload 4, 2) := by decide +kernel
theorem dX11_listen_65 : decode cX11_listen 65 = .ok (.iload_n 2, 1) := by decide +kernel
theorem dX11_listen_66 : decode cX11_listen 66 = .ok (.if_icmp .ge 8, 3) := by decide +kernel
theorem dX11_listen_69 : decode cX11_listen 69 = .ok (.iload 4, 2) := by decide +kernel
theorem dX11_listen_71 : decode cX11_listen 71 = .ok (.istore_n 2, 1) := by decide +kernel
theorem dX11_listen_72 : decode cX11_listen 72 = .ok (.iload_n 3, 1) := by decide +kernel
theorem dX11_listen_73 : decode cX11_listen 73 = .ok (.istore_n 1, 1) := by decide +kernel
theorem dX11_listen_74 : decode cX11_listen 74 = .ok (.aload_n 0, 1) := by decide +kernel
theorem dX11_listen_75 : decode cX11_listen 75 = .ok (.getfield 80, 3) := by decide +kernel
theorem dX11_listen_78 : decode cX11_listen 78 = .ok (.aload_n 0, 1) := by decide +kernel
theorem dX11_listen_79 : decode cX11_listen 79 = .ok (.getfield 10, 3) := by decide +kernel
theorem dX11_listen_82 : decode cX11_listen 82 = .ok (.invokevirtual 266, 3) := by decide +kernel
theorem dX11_listen_85 : decode cX11_listen 85 = .ok (.iinc 3 1, 3) := by decide +kernel
theorem dX11_listen_88 : decode cX11_listen 88 = .ok (.goto (-49), 3) := by decide +kernel
theorem dX11_listen_91 : decode cX11_listen 91 = .ok (.iload_n 1, 1) := by decide +kernel
theorem dX11_listen_92 : decode cX11_listen 92 = .ok (.ireturn, 1) := by decide +kernel
theorem dX11_write_0 : decode cX11_write 0 = .ok (.aload_n 0, 1) := by decide +kernel
theorem dX11_write_1 : decode cX11_write 1 = .ok (.getfield 10, 3) := by decide +kernel
theorem dX11_write_4 : decode cX11_write 4 = .ok (.iload_n 1, 1) := by decide +kernel
theorem dX11_write_5 : decode cX11_write 5 = .ok (.invokevirtual 192, 3) := by decide +kernel
theorem dX11_write_8 : decode cX11_write 8 = .ok (.ifCond .eq 14, 3) := by decide +kernel
theorem dX11_write_11 : decode cX11_write 11 = .ok (.aload_n 0, 1) := by decide +kernel
theorem dX11_write_12 : decode cX11_write 12 = .ok (.getfield 10, 3) := by decide +kernel
theorem dX11_write_15 : decode cX11_write 15 = .ok (.iload_n 2, 1) := by decide +kernel
theorem dX11_write_16 : decode cX11_write 16 = .ok (.invokevirtual 192, 3) := by decide +kernel
theorem dX11_write_19 : decode cX11_write 19 = .ok (.ifCond .ne 6, 3) := by decide +kernel
theorem dX11_write_22 : decode cX11_write 22 = .ok (.ldc 195, 2) := by decide +kernel
theorem dX11_write_24 : decode cX11_write 24 = .ok (.ireturn, 1) := by decide +kernel
theorem dX11_write_25 : decode cX11_write 25 = .ok (.aload_n 0, 1) := by decide +kernel
theorem dX11_write_26 : decode cX11_write 26 = .ok (.getfield 94, 3) := by decide +kernel
theorem dX11_write_29 : decode cX11_write 29 = .ok (.iload_n 1, 1) := by decide +kernel
theorem dX11_write_30 : decode cX11_write 30 = .ok (.iload_n 2, 1) := by decide +kernel
theorem dX11_write_31 : decode cX11_write 31 = .ok (.invokevirtual 343, 3) := by decide +kernel
theorem dX11_write_34 : decode cX11_write 34 = .ok (.ifCond .eq 13, 3) := by decide +kernel
theorem dX11_write_37 : decode cX11_write 37 = .ok (.aload_n 0, 1) := by decide +kernel
theorem dX11_write_38 : decode cX11_write 38 = .ok (.getfield 94, 3) := by decide +kernel
theorem dX11_write_41 : decode cX11_write 41 = .ok (.getfield 171, 3) := by decide +kernel
theorem dX11_write_44 : decode cX11_write 44 = .ok (.goto 5, 3) := by decide +kernel
theorem dX11_write_47 : decode cX11_write 47 = .ok (.ldc 115, 2) := by decide +kernel
theorem dX11_write_49 : decode cX11_write 49 = .ok (.ireturn, 1) := by decide +kernel
theorem dX11_tear_0 : decode cX11_tear 0 = .ok (.aload_n 0, 1) := by decide +kernel
theorem dX11_tear_1 : decode cX11_tear 1 = .ok (.getfield 94, 3) := by decide +kernel
theorem dX11_tear_4 : decode cX11_tear 4 = .ok (.getfield 165, 3) := by decide +kernel
theorem dX11_tear_7 : decode cX11_tear 7 = .ok (.aload_n 0, 1) := by decide +kernel
theorem dX11_tear_8 : decode cX11_tear 8 = .ok (.getfield 94, 3) := by decide +kernel
theorem dX11_tear_11 : decode cX11_tear 11 = .ok (.getfield 171, 3) := by decide +kernel
theorem dX11_tear_14 : decode cX11_tear 14 = .ok (.iadd, 1) := by decide +kernel
theorem dX11_tear_15 : decode cX11_tear 15 = .ok (.istore_n 1, 1) := by decide +kernel
theorem dX11_tear_16 : decode cX11_tear 16 = .ok (.aload_n 0, 1) := by decide +kernel
theorem dX11_tear_17 : decode cX11_tear 17 = .ok (.getfield 94, 3) := by decide +kernel
theorem dX11_tear_20 : decode cX11_tear 20 = .ok (.aload_n 0, 1) := by decide +kernel
theorem dX11_tear_21 : decode cX11_tear 21 = .ok (.getfield 10, 3) := by decide +kernel
theorem dX11_tear_24 : decode cX11_tear 24 = .ok (.invokevirtual 124, 3) := by decide +kernel
theorem dX11_tear_27 : decode cX11_tear 27 = .ok (.iload_n 1, 1) := by decide +kernel
theorem dX11_tear_28 : decode cX11_tear 28 = .ok (.ireturn, 1) := by decide +kernel
theorem dX11_judge_0 : decode cX11_judge 0 = .ok (.aload_n 0, 1) := by decide +kernel
theorem dX11_judge_1 : decode cX11_judge 1 = .ok (.getfield 94, 3) := by decide +kernel
theorem dX11_judge_4 : decode cX11_judge 4 = .ok (.aload_n 0, 1) := by decide +kernel
theorem dX11_judge_5 : decode cX11_judge 5 = .ok (.getfield 31, 3) := by decide +kernel
theorem dX11_judge_8 : decode cX11_judge 8 = .ok (.getfield 152, 3) := by decide +kernel
theorem dX11_judge_11 : decode cX11_judge 11 = .ok (.getfield 200, 3) := by decide +kernel
theorem dX11_judge_14 : decode cX11_judge 14 = .ok (.aload_n 0, 1) := by decide +kernel
theorem dX11_judge_15 : decode cX11_judge 15 = .ok (.getfield 10, 3) := by decide +kernel
theorem dX11_judge_18 : decode cX11_judge 18 = .ok (.invokevirtual 346, 3) := by decide +kernel
theorem dX11_judge_21 : decode cX11_judge 21 = .ok (.ireturn, 1) := by decide +kernel
theorem dX11_seed_0 : decode cX11_seed 0 = .ok (.iload_n 1, 1) := by decide +kernel
theorem dX11_seed_1 : decode cX11_seed 1 = .ok (.ifCond .ge 6, 3) := by decide +kernel
theorem dX11_seed_4 : decode cX11_seed 4 = .ok (.ldc 107, 2) := by decide +kernel
theorem dX11_seed_6 : decode cX11_seed 6 = .ok (.ireturn, 1) := by decide +kernel
theorem dX11_seed_7 : decode cX11_seed 7 = .ok (.aload_n 0, 1) := by decide +kernel
theorem dX11_seed_8 : decode cX11_seed 8 = .ok (.getfield 104, 3) := by decide +kernel
theorem dX11_seed_11 : decode cX11_seed 11 = .ok (.istore_n 2, 1) := by decide +kernel
theorem dX11_seed_12 : decode cX11_seed 12 = .ok (.aload_n 0, 1) := by decide +kernel
theorem dX11_seed_13 : decode cX11_seed 13 = .ok (.iload_n 1, 1) := by decide +kernel
theorem dX11_seed_14 : decode cX11_seed 14 = .ok (.putfield 104, 3) := by decide +kernel
theorem dX11_seed_17 : decode cX11_seed 17 = .ok (.iload_n 2, 1) := by decide +kernel
theorem dX11_seed_18 : decode cX11_seed 18 = .ok (.ireturn, 1) := by decide +kernel
theorem dX11_keep_0 : decode cX11_keep 0 = .ok (.iload_n 1, 1) := by decide +kernel
theorem dX11_keep_1 : decode cX11_keep 1 = .ok (.ifCond .lt 8, 3) := by decide +kernel
theorem dX11_keep_4 : decode cX11_keep 4 = .ok (.iload_n 1, 1) := by decide +kernel
theorem dX11_keep_5 : decode cX11_keep 5 = .ok (.iconst 2, 1) := by decide +kernel
theorem dX11_keep_6 : decode cX11_keep 6 = .ok (.if_icmp .lt 6, 3) := by decide +kernel
theorem dX11_keep_9 : decode cX11_keep 9 = .ok (.ldc 195, 2) := by decide +kernel
theorem dX11_keep_11 : decode cX11_keep 11 = .ok (.ireturn, 1) := by decide +kernel
theorem dX11_keep_12 : decode cX11_keep 12 = .ok (.aload_n 0, 1) := by decide +kernel
theorem dX11_keep_13 : decode cX11_keep 13 = .ok (.getfield 42, 3) := by decide +kernel
theorem dX11_keep_16 : decode cX11_keep 16 = .ok (.iload_n 1, 1) := by decide +kernel
theorem dX11_keep_17 : decode cX11_keep 17 = .ok (.aaload, 1) := by decide +kernel
theorem dX11_keep_18 : decode cX11_keep 18 = .ok (.aload_n 0, 1) := by decide +kernel
theorem dX11_keep_19 : decode cX11_keep 19 = .ok (.getfield 31, 3) := by decide +kernel
theorem dX11_keep_22 : decode cX11_keep 22 = .ok (.invokevirtual 349, 3) := by decide +kernel
theorem dX11_keep_25 : decode cX11_keep 25 = .ok (.aload_n 0, 1) := by decide +kernel
theorem dX11_keep_26 : decode cX11_keep 26 = .ok (.getfield 46, 3) := by decide +kernel
theorem dX11_keep_29 : decode cX11_keep 29 = .ok (.iload_n 1, 1) := by decide +kernel
theorem dX11_keep_30 : decode cX11_keep 30 = .ok (.aload_n 0, 1) := by decide +kernel
theorem dX11_keep_31 : decode cX11_keep 31 = .ok (.getfield 104, 3) := by decide +kernel
theorem dX11_keep_34 : decode cX11_keep 34 = .ok (.iastore, 1) := by decide +kernel
theorem dX11_keep_35 : decode cX11_keep 35 = .ok (.aload_n 0, 1) := by decide +kernel
theorem dX11_keep_36 : decode cX11_keep 36 = .ok (.dup, 1) := by decide +kernel
theorem dX11_keep_37 : decode cX11_keep 37 = .ok (.getfield 50, 3) := by decide +kernel
theorem dX11_keep_40 : decode cX11_keep 40 = .ok (.iconst 1, 1) := by decide +kernel
theorem dX11_keep_41 : decode cX11_keep 41 = .ok (.iload_n 1, 1) := by decide +kernel
theorem dX11_keep_42 : decode cX11_keep 42 = .ok (.ishl, 1) := by decide +kernel
theorem dX11_keep_43 : decode cX11_keep 43 = .ok (.ior, 1) := by decide +kernel
theorem dX11_keep_44 : decode cX11_keep 44 = .ok (.putfield 50, 3) := by decide +kernel
theorem dX11_keep_47 : decode cX11_keep 47 = .ok (.aload_n 0, 1) := by decide +kernel
theorem dX11_keep_48 : decode cX11_keep 48 = .ok (.getfield 38, 3) := by decide +kernel
theorem dX11_keep_51 : decode cX11_keep 51 = .ok (.invokevirtual 127, 3) := by decide +kernel
theorem dX11_keep_54 : decode cX11_keep 54 = .ok (.iconst 1, 1) := by decide +kernel
theorem dX11_keep_55 : decode cX11_keep 55 = .ok (.ireturn, 1) := by decide +kernel
theorem dX11_goBack_0 : decode cX11_goBack 0 = .ok (.iload_n 1, 1) := by decide +kernel
theorem dX11_goBack_1 : decode cX11_goBack 1 = .ok (.ifCond .lt 8, 3) := by decide +kernel
theorem dX11_goBack_4 : decode cX11_goBack 4 = .ok (.iload_n 1, 1) := by decide +kernel
theorem dX11_goBack_5 : decode cX11_goBack 5 = .ok (.iconst 2, 1) := by decide +kernel
theorem dX11_goBack_6 : decode cX11_goBack 6 = .ok (.if_icmp .lt 6, 3) := by decide +kernel
theorem dX11_goBack_9 : decode cX11_goBack 9 = .ok (.ldc 195, 2) := by decide +kernel
theorem dX11_goBack_11 : decode cX11_goBack 11 = .ok (.ireturn, 1) := by decide +kernel
theorem dX11_goBack_12 : decode cX11_goBack 12 = .ok (.aload_n 0, 1) := by decide +kernel
theorem dX11_goBack_13 : decode cX11_goBack 13 = .ok (.getfield 50, 3) := by decide +kernel
theorem dX11_goBack_16 : decode cX11_goBack 16 = .ok (.iload_n 1, 1) := by decide +kernel
theorem dX11_goBack_17 : decode cX11_goBack 17 = .ok (.ishr, 1) := by decide +kernel
theorem dX11_goBack_18 : decode cX11_goBack 18 = .ok (.iconst 1, 1) := by decide +kernel
theorem dX11_goBack_19 : decode cX11_goBack 19 = .ok (.iand, 1) := by decide +kernel
theorem dX11_goBack_20 : decode cX11_goBack 20 = .ok (.ifCond .ne 6, 3) := by decide +kernel
theorem dX11_goBack_23 : decode cX11_goBack 23 = .ok (.ldc 181, 2) := by decide +kernel
theorem dX11_goBack_25 : decode cX11_goBack 25 = .ok (.ireturn, 1) := by decide +kernel
theorem dX11_goBack_26 : decode cX11_goBack 26 = .ok (.aload_n 0, 1) := by decide +kernel
theorem dX11_goBack_27 : decode cX11_goBack 27 = .ok (.getfield 31, 3) := by decide +kernel
theorem dX11_goBack_30 : decode cX11_goBack 30 = .ok (.aload_n 0, 1) := by decide +kernel
theorem dX11_goBack_31 : decode cX11_goBack 31 = .ok (.getfield 42, 3) := by decide +kernel
theorem dX11_goBack_34 : decode cX11_goBack 34 = .ok (.iload_n 1, 1) := by decide +kernel
theorem dX11_goBack_35 : decode cX11_goBack 35 = .ok (.aaload, 1) := by decide +kernel
theorem dX11_goBack_36 : decode cX11_goBack 36 = .ok (.invokevirtual 349, 3) := by decide +kernel
theorem dX11_goBack_39 : decode cX11_goBack 39 = .ok (.aload_n 0, 1) := by decide +kernel
theorem dX11_goBack_40 : decode cX11_goBack 40 = .ok (.aload_n 0, 1) := by decide +kernel
theorem dX11_goBack_41 : decode cX11_goBack 41 = .ok (.getfield 46, 3) := by decide +kernel
theorem dX11_goBack_44 : decode cX11_goBack 44 = .ok (.iload_n 1, 1) := by decide +kernel
theorem dX11_goBack_45 : decode cX11_goBack 45 = .ok (.iaload, 1) := by decide +kernel
theorem dX11_goBack_46 : decode cX11_goBack 46 = .ok (.putfield 104, 3) := by decide +kernel
theorem dX11_goBack_49 : decode cX11_goBack 49 = .ok (.aload_n 0, 1) := by decide +kernel
theorem dX11_goBack_50 : decode cX11_goBack 50 = .ok (.getfield 38, 3) := by decide +kernel
theorem dX11_goBack_53 : decode cX11_goBack 53 = .ok (.invokevirtual 127, 3) := by decide +kernel
theorem dX11_goBack_56 : decode cX11_goBack 56 = .ok (.iconst 1, 1) := by decide +kernel
theorem dX11_goBack_57 : decode cX11_goBack 57 = .ok (.ireturn, 1) := by decide +kernel
theorem dX11_figuresNow_0 : decode cX11_figuresNow 0 = .ok (.aload_n 0, 1) := by decide +kernel
theorem dX11_figuresNow_1 : decode cX11_figuresNow 1 = .ok (.getfield 31, 3) := by decide +kernel
theorem dX11_figuresNow_4 : decode cX11_figuresNow 4 = .ok (.getfield 152, 3) := by decide +kernel
theorem dX11_figuresNow_7 : decode cX11_figuresNow 7 = .ok (.getfield 200, 3) := by decide +kernel
theorem dX11_figuresNow_10 : decode cX11_figuresNow 10 = .ok (.aload_n 0, 1) := by decide +kernel
theorem dX11_figuresNow_11 : decode cX11_figuresNow 11 = .ok (.getfield 10, 3) := by decide +kernel
theorem dX11_figuresNow_14 : decode cX11_figuresNow 14 = .ok (.getfield 130, 3) := by decide +kernel
theorem dX11_figuresNow_17 : decode cX11_figuresNow 17 = .ok (.invokestatic 256, 3) := by decide +kernel
theorem dX11_figuresNow_20 : decode cX11_figuresNow 20 = .ok (.ireturn, 1) := by decide +kernel
theorem dX11_refuseToRing_0 : decode cX11_refuseToRing 0 = .ok (.iload_n 1, 1) := by decide +kernel
theorem dX11_refuseToRing_1 : decode cX11_refuseToRing 1 = .ok (.iconst 1, 1) := by decide +kernel
theorem dX11_refuseToRing_2 : decode cX11_refuseToRing 2 = .ok (.if_icmp .lt 8, 3) := by decide +kernel
theorem dX11_refuseToRing_5 : decode cX11_refuseToRing 5 = .ok (.iload_n 1, 1) := by decide +kernel
theorem dX11_refuseToRing_6 : decode cX11_refuseToRing 6 = .ok (.iload_n 2, 1) := by decide +kernel
theorem dX11_refuseToRing_7 : decode cX11_refuseToRing 7 = .ok (.if_icmp .le 6, 3) := by decide +kernel
theorem dX11_refuseToRing_10 : decode cX11_refuseToRing 10 = .ok (.ldc 107, 2) := by decide +kernel
theorem dX11_refuseToRing_12 : decode cX11_refuseToRing 12 = .ok (.ireturn, 1) := by decide +kernel
theorem dX11_refuseToRing_13 : decode cX11_refuseToRing 13 = .ok (.aload_n 0, 1) := by decide +kernel
theorem dX11_refuseToRing_14 : decode cX11_refuseToRing 14 = .ok (.getfield 10, 3) := by decide +kernel
theorem dX11_refuseToRing_17 : decode cX11_refuseToRing 17 = .ok (.invokevirtual 177, 3) := by decide +kernel
theorem dX11_refuseToRing_20 : decode cX11_refuseToRing 20 = .ok (.ifCond .ne 6, 3) := by decide +kernel
theorem dX11_refuseToRing_23 : decode cX11_refuseToRing 23 = .ok (.ldc 181, 2) := by decide +kernel
theorem dX11_refuseToRing_25 : decode cX11_refuseToRing 25 = .ok (.ireturn, 1) := by decide +kernel
theorem dX11_refuseToRing_26 : decode cX11_refuseToRing 26 = .ok (.aload_n 0, 1) := by decide +kernel
theorem dX11_refuseToRing_27 : decode cX11_refuseToRing 27 = .ok (.getfield 31, 3) := by decide +kernel
theorem dX11_refuseToRing_30 : decode cX11_refuseToRing 30 = .ok (.getfield 139, 3) := by decide +kernel
theorem dX11_refuseToRing_33 : decode cX11_refuseToRing 33 = .ok (.sipush 9000, 3) := by decide +kernel
theorem dX11_refuseToRing_36 : decode cX11_refuseToRing 36 = .ok (.if_icmp .le 8, 3) := by decide +kernel
theorem dX11_refuseToRing_39 : decode cX11_refuseToRing 39 = .ok (.ldc 115, 2) := by decide +kernel
theorem dX11_refuseToRing_41 : decode cX11_refuseToRing 41 = .ok (.goto 4, 3) := by decide +kernel
theorem dX11_refuseToRing_44 : decode cX11_refuseToRing 44 = .ok (.iconst 0, 1) := by decide +kernel
theorem dX11_refuseToRing_45 : decode cX11_refuseToRing 45 = .ok (.ireturn, 1) := by decide +kernel
theorem dX11_rowBehind_0 : decode cX11_rowBehind 0 = .ok (.aload_n 0, 1) := by decide +kernel
theorem dX11_rowBehind_1 : decode cX11_rowBehind 1 = .ok (.getfield 80, 3) := by decide +kernel
theorem dX11_rowBehind_4 : decode cX11_rowBehind 4 = .ok (.aload_n 0, 1) := by decide +kernel
theorem dX11_rowBehind_5 : decode cX11_rowBehind 5 = .ok (.getfield 31, 3) := by decide +kernel
theorem dX11_rowBehind_8 : decode cX11_rowBehind 8 = .ok (.getfield 152, 3) := by decide +kernel
theorem dX11_rowBehind_11 : decode cX11_rowBehind 11 = .ok (.invokevirtual 262, 3) := by decide +kernel
theorem dX11_rowBehind_14 : decode cX11_rowBehind 14 = .ok (.aload_n 0, 1) := by decide +kernel
theorem dX11_rowBehind_15 : decode cX11_rowBehind 15 = .ok (.iload_n 1, 1) := by decide +kernel
theorem dX11_rowBehind_16 : decode cX11_rowBehind 16 = .ok (.invokevirtual 351, 3) := by decide +kernel
theorem dX11_rowBehind_19 : decode cX11_rowBehind 19 = .ok (.ireturn, 1) := by decide +kernel
theorem dX11_plainRowBehind_0 : decode cX11_plainRowBehind 0 = .ok (.aload_n 0, 1) := by decide +kernel
theorem dX11_plainRowBehind_1 : decode cX11_plainRowBehind 1 = .ok (.getfield 80, 3) := by decide +kernel
theorem dX11_plainRowBehind_4 : decode cX11_plainRowBehind 4 = .ok (.aload_n 0, 1) := by decide +kernel
theorem dX11_plainRowBehind_5 : decode cX11_plainRowBehind 5 = .ok (.getfield 10, 3) := by decide +kernel
theorem dX11_plainRowBehind_8 : decode cX11_plainRowBehind 8 = .ok (.invokevirtual 339, 3) := by decide +kernel
theorem dX11_plainRowBehind_11 : decode cX11_plainRowBehind 11 = .ok (.aload_n 0, 1) := by decide +kernel
theorem dX11_plainRowBehind_12 : decode cX11_plainRowBehind 12 = .ok (.iload_n 1, 1) := by decide +kernel
theorem dX11_plainRowBehind_13 : decode cX11_plainRowBehind 13 = .ok (.invokevirtual 351, 3) := by decide +kernel
theorem dX11_plainRowBehind_16 : decode cX11_plainRowBehind 16 = .ok (.ireturn, 1) := by decide +kernel
theorem dX11_stepTrial_0 : decode cX11_stepTrial 0 = .ok (.iconst 0, 1) := by decide +kernel
theorem dX11_stepTrial_1 : decode cX11_stepTrial 1 = .ok (.istore_n 2, 1) := by decide +kernel
theorem dX11_stepTrial_2 : decode cX11_stepTrial 2 = .ok (.iload_n 2, 1) := by decide +kernel
theorem dX11_stepTrial_3 : decode cX11_stepTrial 3 = .ok (.iload_n 1, 1) := by decide +kernel
theorem dX11_stepTrial_4 : decode cX11_stepTrial 4 = .ok (.if_icmp .ge 20, 3) := by decide +kernel
theorem dX11_stepTrial_7 : decode cX11_stepTrial 7 = .ok (.aload_n 0, 1) := by decide +kernel
theorem dX11_stepTrial_8 : decode cX11_stepTrial 8 = .ok (.getfield 80, 3) := by decide +kernel
theorem dX11_stepTrial_11 : decode cX11_stepTrial 11 = .ok (.aload_n 0, 1) := by decide +kernel
theorem dX11_stepTrial_12 : decode cX11_stepTrial 12 = .ok (.getfield 10, 3) := by decide +kernel
theorem dX11_stepTrial_15 : decode cX11_stepTrial 15 = .ok (.invokevirtual 266, 3) := by decide +kernel
theorem dX11_stepTrial_18 : decode cX11_stepTrial 18 = .ok (.iinc 2 1, 3) := by decide +kernel
theorem dX11_stepTrial_21 : decode cX11_stepTrial 21 = .ok (.goto (-19), 3) := by decide +kernel
theorem dX11_stepTrial_24 : decode cX11_stepTrial 24 = .ok (.aload_n 0, 1) := by decide +kernel
theorem dX11_stepTrial_25 : decode cX11_stepTrial 25 = .ok (.getfield 80, 3) := by decide +kernel
theorem dX11_stepTrial_28 : decode cX11_stepTrial 28 = .ok (.getfield 200, 3) := by decide +kernel
theorem dX11_stepTrial_31 : decode cX11_stepTrial 31 = .ok (.ireturn, 1) := by decide +kernel
theorem dX11_draw_0 : decode cX11_draw 0 = .ok (.aload_n 0, 1) := by decide +kernel
theorem dX11_draw_1 : decode cX11_draw 1 = .ok (.aload_n 0, 1) := by decide +kernel
theorem dX11_draw_2 : decode cX11_draw 2 = .ok (.getfield 104, 3) := by decide +kernel
theorem dX11_draw_5 : decode cX11_draw 5 = .ok (.i2l, 1) := by decide +kernel
theorem dX11_draw_6 : decode cX11_draw 6 = .ok (.ldc2_w 354, 3) := by decide +kernel
theorem dX11_draw_9 : decode cX11_draw 9 = .ok (.lmul, 1) := by decide +kernel
theorem dX11_draw_10 : decode cX11_draw 10 = .ok (.ldc2_w 356, 3) := by decide +kernel
theorem dX11_draw_13 : decode cX11_draw 13 = .ok (.ladd, 1) := by decide +kernel
theorem dX11_draw_14 : decode cX11_draw 14 = .ok (.ldc2_w 358, 3) := by decide +kernel
theorem dX11_draw_17 : decode cX11_draw 17 = .ok (.land, 1) := by decide +kernel
theorem dX11_draw_18 : decode cX11_draw 18 = .ok (.l2i, 1) := by decide +kernel
theorem dX11_draw_19 : decode cX11_draw 19 = .ok (.putfield 104, 3) := by decide +kernel
theorem dX11_draw_22 : decode cX11_draw 22 = .ok (.iload_n 1, 1) := by decide +kernel
theorem dX11_draw_23 : decode cX11_draw 23 = .ok (.ifCond .le 16, 3) := by decide +kernel
theorem dX11_draw_26 : decode cX11_draw 26 = .ok (.aload_n 0, 1) := by decide +kernel
theorem dX11_draw_27 : decode cX11_draw 27 = .ok (.getfield 104, 3) := by decide +kernel
theorem dX11_draw_30 : decode cX11_draw 30 = .ok (.ldc_w 360, 3) := by decide +kernel
theorem dX11_draw_33 : decode cX11_draw 33 = .ok (.idiv, 1) := by decide +kernel
theorem dX11_draw_34 : decode cX11_draw 34 = .ok (.iload_n 1, 1) := by decide +kernel
theorem dX11_draw_35 : decode cX11_draw 35 = .ok (.irem, 1) := by decide +kernel
theorem dX11_draw_36 : decode cX11_draw 36 = .ok (.goto 4, 3) := by decide +kernel
theorem dX11_draw_39 : decode cX11_draw 39 = .ok (.iconst 0, 1) := by decide +kernel
theorem dX11_draw_40 : decode cX11_draw 40 = .ok (.ireturn, 1) := by decide +kernel
theorem dX11_letChanceAct_0 : decode cX11_letChanceAct 0 = .ok (.aload_n 0, 1) := by decide +kernel
theorem dX11_letChanceAct_1 : decode cX11_letChanceAct 1 = .ok (.bipush 8, 2) := by decide +kernel
theorem dX11_letChanceAct_3 : decode cX11_letChanceAct 3 = .ok (.invokevirtual 361, 3) := by decide +kernel
theorem dX11_letChanceAct_6 : decode cX11_letChanceAct 6 = .ok (.tableswitch 72 0 2 #[26, 40, 65], 26) := by decide +kernel
theorem dX11_letChanceAct_32 : decode cX11_letChanceAct 32 = .ok (.aload_n 0, 1) := by decide +kernel
theorem dX11_letChanceAct_33 : decode cX11_letChanceAct 33 = .ok (.getfield 31, 3) := by decide +kernel
theorem dX11_letChanceAct_36 : decode cX11_letChanceAct 36 = .ok (.getfield 152, 3) := by decide +kernel
theorem dX11_letChanceAct_39 : decode cX11_letChanceAct 39 = .ok (.iconst 1, 1) := by decide +kernel
theorem dX11_letChanceAct_40 : decode cX11_letChanceAct 40 = .ok (.putfield 155, 3) := by decide +kernel
theorem dX11_letChanceAct_43 : decode cX11_letChanceAct 43 = .ok (.goto 35, 3) := by decide +kernel
theorem dX11_letChanceAct_46 : decode cX11_letChanceAct 46 = .ok (.aload_n 0, 1) := by decide +kernel
theorem dX11_letChanceAct_47 : decode cX11_letChanceAct 47 = .ok (.getfield 31, 3) := by decide +kernel
theorem dX11_letChanceAct_50 : decode cX11_letChanceAct 50 = .ok (.aload_n 0, 1) := by decide +kernel
theorem dX11_letChanceAct_51 : decode cX11_letChanceAct 51 = .ok (.getfield 31, 3) := by decide +kernel
theorem dX11_letChanceAct_54 : decode cX11_letChanceAct 54 = .ok (.getfield 159, 3) := by decide +kernel
theorem dX11_letChanceAct_57 : decode cX11_letChanceAct 57 = .ok (.ifCond .ne 7, 3) := by decide +kernel
theorem dX11_letChanceAct_60 : decode cX11_letChanceAct 60 = .ok (.iconst 1, 1) := by decide +kernel
theorem dX11_letChanceAct_61 : decode cX11_letChanceAct 61 = .ok (.goto 4, 3) := by decide +kernel
theorem dX11_letChanceAct_64 : decode cX11_letChanceAct 64 = .ok (.iconst 0, 1) := by decide +kernel
theorem dX11_letChanceAct_65 : decode cX11_letChanceAct 65 = .ok (.putfield 159, 3) := by decide +kernel
theorem dX11_letChanceAct_68 : decode cX11_letChanceAct 68 = .ok (.goto 10, 3) := by decide +kernel
theorem dX11_letChanceAct_71 : decode cX11_letChanceAct 71 = .ok (.aload_n 0, 1) := by decide +kernel
theorem dX11_letChanceAct_72 : decode cX11_letChanceAct 72 = .ok (.invokevirtual 364, 3) := by decide +kernel
theorem dX11_letChanceAct_75 : decode cX11_letChanceAct 75 = .ok (.goto 3, 3) := by decide +kernel
theorem dX11_letChanceAct_78 : decode cX11_letChanceAct 78 = .ok (.return_, 1) := by decide +kernel
theorem dX11_changeRopesByDraws_0 : decode cX11_changeRopesByDraws 0 = .ok (.aload_n 0, 1) := by decide +kernel
theorem dX11_changeRopesByDraws_1 : decode cX11_changeRopesByDraws 1 = .ok (.getfield 10, 3) := by decide +kernel
theorem dX11_changeRopesByDraws_4 : decode cX11_changeRopesByDraws 4 = .ok (.getfield 136, 3) := by decide +kernel
theorem dX11_changeRopesByDraws_7 : decode cX11_changeRopesByDraws 7 = .ok (.ifCond .le 36, 3) := by decide +kernel
theorem dX11_changeRopesByDraws_10 : decode cX11_changeRopesByDraws 10 = .ok (.aload_n 0, 1) := by decide +kernel
theorem dX11_changeRopesByDraws_11 : decode cX11_changeRopesByDraws 11 = .ok (.aload_n 0, 1) := by decide +kernel
theorem dX11_changeRopesByDraws_12 : decode cX11_changeRopesByDraws 12 = .ok (.getfield 10, 3) := by decide +kernel
theorem dX11_changeRopesByDraws_15 : decode cX11_changeRopesByDraws 15 = .ok (.getfield 136, 3) := by decide +kernel
theorem dX11_changeRopesByDraws_18 : decode cX11_changeRopesByDraws 18 = .ok (.invokevirtual 361, 3) := by decide +kernel
theorem dX11_changeRopesByDraws_21 : decode cX11_changeRopesByDraws 21 = .ok (.istore_n 1, 1) := by decide +kernel
theorem dX11_changeRopesByDraws_22 : decode cX11_changeRopesByDraws 22 = .ok (.aload_n 0, 1) := by decide +kernel
theorem dX11_changeRopesByDraws_23 : decode cX11_changeRopesByDraws 23 = .ok (.aload_n 0, 1) := by decide +kernel
theorem dX11_changeRopesByDraws_24 : decode cX11_changeRopesByDraws 24 = .ok (.getfield 10, 3) := by decide +kernel
theorem dX11_changeRopesByDraws_27 : decode cX11_changeRopesByDraws 27 = .ok (.getfield 136, 3) := by decide +kernel
theorem dX11_changeRopesByDraws_30 : decode cX11_changeRopesByDraws 30 = .ok (.invokevirtual 361, 3) := by decide +kernel
theorem dX11_changeRopesByDraws_33 : decode cX11_changeRopesByDraws 33 = .ok (.istore_n 2, 1) := by decide +kernel
theorem dX11_changeRopesByDraws_34 : decode cX11_changeRopesByDraws 34 = .ok (.aload_n 0, 1) := by decide +kernel
theorem dX11_changeRopesByDraws_35 : decode cX11_changeRopesByDraws 35 = .ok (.getfield 31, 3) := by decide +kernel
theorem dX11_changeRopesByDraws_38 : decode cX11_changeRopesByDraws 38 = .ok (.iload_n 1, 1) := by decide +kernel
theorem dX11_changeRopesByDraws_39 : decode cX11_changeRopesByDraws 39 = .ok (.iload_n 2, 1) := by decide +kernel
theorem dX11_changeRopesByDraws_40 : decode cX11_changeRopesByDraws 40 = .ok (.invokevirtual 239, 3) := by decide +kernel
theorem dX11_changeRopesByDraws_43 : decode cX11_changeRopesByDraws 43 = .ok (.return_, 1) := by decide +kernel
theorem dX11_greatestPartAlike_0 : decode cX11_greatestPartAlike 0 = .ok (.iconst 0, 1) := by decide +kernel
theorem dX11_greatestPartAlike_1 : decode cX11_greatestPartAlike 1 = .ok (.istore_n 2, 1) := by decide +kernel
theorem dX11_greatestPartAlike_2 : decode cX11_greatestPartAlike 2 = .ok (.iconst 0, 1) := by decide +kernel
theorem dX11_greatestPartAlike_3 : decode cX11_greatestPartAlike 3 = .ok (.istore_n 3, 1) := by decide +kernel
theorem dX11_greatestPartAlike_4 : decode cX11_greatestPartAlike 4 = .ok (.iload_n 3, 1) := by decide +kernel
theorem dX11_greatestPartAlike_5 : decode cX11_greatestPartAlike 5 = .ok (.aload_n 0, 1) := by decide +kernel
theorem dX11_greatestPartAlike_6 : decode cX11_greatestPartAlike 6 = .ok (.getfield 10, 3) := by decide +kernel
theorem dX11_greatestPartAlike_9 : decode cX11_greatestPartAlike 9 = .ok (.getfield 130, 3) := by decide +kernel
theorem dX11_greatestPartAlike_12 : decode cX11_greatestPartAlike 12 = .ok (.if_icmp .ge 50, 3) := by decide +kernel
theorem dX11_greatestPartAlike_15 : decode cX11_greatestPartAlike 15 = .ok (.iload_n 3, 1) := by decide +kernel
theorem dX11_greatestPartAlike_16 : decode cX11_greatestPartAlike 16 = .ok (.bipush 6, 2) := by decide +kernel
theorem dX11_greatestPartAlike_18 : decode cX11_greatestPartAlike 18 = .ok (.if_icmp .ge 44, 3) := by decide +kernel
theorem dX11_greatestPartAlike_21 : decode cX11_greatestPartAlike 21 = .ok (.aload_n 0, 1) := by decide +kernel
theorem dX11_greatestPartAlike_22 : decode cX11_greatestPartAlike 22 = .ok (.getfield 94, 3) := by decide +kernel
theorem dX11_greatestPartAlike_25 : decode cX11_greatestPartAlike 25 = .ok (.getfield 168, 3) := by decide +kernel
theorem dX11_greatestPartAlike_28 : decode cX11_greatestPartAlike 28 = .ok (.iload_n 3, 1) := by decide +kernel
theorem dX11_greatestPartAlike_29 : decode cX11_greatestPartAlike 29 = .ok (.ishr, 1) := by decide +kernel
theorem dX11_greatestPartAlike_30 : decode cX11_greatestPartAlike 30 = .ok (.iconst 1, 1) := by decide +kernel
theorem dX11_greatestPartAlike_31 : decode cX11_greatestPartAlike 31 = .ok (.iand, 1) := by decide +kernel
theorem dX11_greatestPartAlike_32 : decode cX11_greatestPartAlike 32 = .ok (.ifCond .eq 24, 3) := by decide +kernel
theorem dX11_greatestPartAlike_35 : decode cX11_greatestPartAlike 35 = .ok (.aload_n 0, 1) := by decide +kernel
theorem dX11_greatestPartAlike_36 : decode cX11_greatestPartAlike 36 = .ok (.getfield 98, 3) := by decide +kernel
theorem dX11_greatestPartAlike_39 : decode cX11_greatestPartAlike 39 = .ok (.iload_n 2, 1) := by decide +kernel
theorem dX11_greatestPartAlike_40 : decode cX11_greatestPartAlike 40 = .ok (.iinc 2 1, 3) := by decide +kernel
theorem dX11_greatestPartAlike_43 : decode cX11_greatestPartAlike 43 = .ok (.iload_n 1, 1) := by decide +kernel
theorem dX11_greatestPartAlike_44 : decode cX11_greatestPartAlike 44 = .ok (.iload_n 3, 1) := by decide +kernel
theorem dX11_greatestPartAlike_45 : decode cX11_greatestPartAlike 45 = .ok (.aload_n 0, 1) := by decide +kernel
theorem dX11_greatestPartAlike_46 : decode cX11_greatestPartAlike 46 = .ok (.getfield 10, 3) := by decide +kernel
theorem dX11_greatestPartAlike_49 : decode cX11_greatestPartAlike 49 = .ok (.getfield 130, 3) := by decide +kernel
theorem dX11_greatestPartAlike_52 : decode cX11_greatestPartAlike 52 = .ok (.invokestatic 367, 3) := by decide +kernel
theorem dX11_greatestPartAlike_55 : decode cX11_greatestPartAlike 55 = .ok (.iastore, 1) := by decide +kernel
theorem dX11_greatestPartAlike_56 : decode cX11_greatestPartAlike 56 = .ok (.iinc 3 1, 3) := by decide +kernel
theorem dX11_greatestPartAlike_59 : decode cX11_greatestPartAlike 59 = .ok (.goto (-55), 3) := by decide +kernel
theorem dX11_greatestPartAlike_62 : decode cX11_greatestPartAlike 62 = .ok (.iconst 0, 1) := by decide +kernel
theorem dX11_greatestPartAlike_63 : decode cX11_greatestPartAlike 63 = .ok (.istore_n 3, 1) := by decide +kernel
theorem dX11_greatestPartAlike_64 : decode cX11_greatestPartAlike 64 = .ok (.iconst 0, 1) := by decide +kernel
theorem dX11_greatestPartAlike_65 : decode cX11_greatestPartAlike 65 = .ok (.istore 4, 2) := by decide +kernel
theorem dX11_greatestPartAlike_67 : decode cX11_greatestPartAlike 67 = .ok (.iload 4, 2) := by decide +kernel
theorem dX11_greatestPartAlike_69 : decode cX11_greatestPartAlike 69 = .ok (.iload_n 2, 1) := by decide +kernel
theorem dX11_greatestPartAlike_70 : decode cX11_greatestPartAlike 70 = .ok (.if_icmp .ge 61, 3) := by decide +kernel
theorem dX11_greatestPartAlike_73 : decode cX11_greatestPartAlike 73 = .ok (.iconst 0, 1) := by decide +kernel
theorem dX11_greatestPartAlike_74 : decode cX11_greatestPartAlike 74 = .ok (.istore 5, 2) := by decide +kernel
theorem dX11_greatestPartAlike_76 : decode cX11_greatestPartAlike 76 = .ok (.iconst 0, 1) := by decide +kernel
theorem dX11_greatestPartAlike_77 : decode cX11_greatestPartAlike 77 = .ok (.istore 6, 2) := by decide +kernel
theorem dX11_greatestPartAlike_79 : decode cX11_greatestPartAlike 79 = .ok (.iload 6, 2) := by decide +kernel
theorem dX11_greatestPartAlike_81 : decode cX11_greatestPartAlike 81 = .ok (.iload_n 2, 1) := by decide +kernel
theorem dX11_greatestPartAlike_82 : decode cX11_greatestPartAlike 82 = .ok (.if_icmp .ge 36, 3) := by decide +kernel
theorem dX11_greatestPartAlike_85 : decode cX11_greatestPartAlike 85 = .ok (.iload 5, 2) := by decide +kernel
theorem dX11_greatestPartAlike_87 : decode cX11_greatestPartAlike 87 = .ok (.aload_n 0, 1) := by decide +kernel
theorem dX11_greatestPartAlike_88 : decode cX11_greatestPartAlike 88 = .ok (.getfield 98, 3) := by decide +kernel
theorem dX11_greatestPartAlike_91 : decode cX11_greatestPartAlike 91 = .ok (.iload 6, 2) := by decide +kernel
theorem dX11_greatestPartAlike_93 : decode cX11_greatestPartAlike 93 = .ok (.iaload, 1) := by decide +kernel
theorem dX11_greatestPartAlike_94 : decode cX11_greatestPartAlike 94 = .ok (.aload_n 0, 1) := by decide +kernel
theorem dX11_greatestPartAlike_95 : decode cX11_greatestPartAlike 95 = .ok (.getfield 98, 3) := by decide +kernel
theorem dX11_greatestPartAlike_98 : decode cX11_greatestPartAlike 98 = .ok (.iload 4, 2) := by decide +kernel
theorem dX11_greatestPartAlike_100 : decode cX11_greatestPartAlike 100 = .ok (.iaload, 1) := by decide +kernel
theorem dX11_greatestPartAlike_101 : decode cX11_greatestPartAlike 101 = .ok (.if_icmp .ne 7, 3) := by decide +kernel
theorem dX11_greatestPartAlike_104 : decode cX11_greatestPartAlike 104 = .ok (.iconst 1, 1) := by decide +kernel
theorem dX11_greatestPartAlike_105 : decode cX11_greatestPartAlike 105 = .ok (.goto 4, 3) := by decide +kernel
theorem dX11_greatestPartAlike_108 : decode cX11_greatestPartAlike 108 = .ok (.iconst 0, 1) := by decide +kernel
theorem dX11_greatestPartAlike_109 : decode cX11_greatestPartAlike 109 = .ok (.iadd, 1) := by decide +kernel
theorem dX11_greatestPartAlike_110 : decode cX11_greatestPartAlike 110 = .ok (.istore 5, 2) := by decide +kernel
theorem dX11_greatestPartAlike_112 : decode cX11_greatestPartAlike 112 = .ok (.iinc 6 1, 3) := by decide +kernel
theorem dX11_greatestPartAlike_115 : decode cX11_greatestPartAlike 115 = .ok (.goto (-36), 3) := by decide +kernel
theorem dX11_greatestPartAlike_118 : decode cX11_greatestPartAlike 118 = .ok (.iload_n 3, 1) := by decide +kernel
theorem dX11_greatestPartAlike_119 : decode cX11_greatestPartAlike 119 = .ok (.iload 5, 2) := by decide +kernel
theorem dX11_greatestPartAlike_121 : decode cX11_greatestPartAlike 121 = .ok (.invokestatic 370, 3) := by decide +kernel
theorem dX11_greatestPartAlike_124 : decode cX11_greatestPartAlike 124 = .ok (.istore_n 3, 1) := by decide +kernel
theorem dX11_greatestPartAlike_125 : decode cX11_greatestPartAlike 125 = .ok (.iinc 4 1, 3) := by decide +kernel
theorem dX11_greatestPartAlike_128 : decode cX11_greatestPartAlike 128 = .ok (.goto (-61), 3) := by decide +kernel
theorem dX11_greatestPartAlike_131 : decode cX11_greatestPartAlike 131 = .ok (.iload_n 3, 1) := by decide +kernel
theorem dX11_greatestPartAlike_132 : decode cX11_greatestPartAlike 132 = .ok (.ireturn, 1) := by decide +kernel
theorem dX12_init_0 : decode cX12_init 0 = .ok (.aload_n 0, 1) := by decide +kernel
theorem dX12_init_1 : decode cX12_init 1 = .ok (.invokespecial 1, 3) := by decide +kernel
theorem dX12_init_4 : decode cX12_init 4 = .ok (.aload_n 0, 1) := by decide +kernel
theorem dX12_init_5 : decode cX12_init 5 = .ok (.sipush 240, 3) := by decide +kernel
theorem dX12_init_8 : decode cX12_init 8 = .ok (.newarray .int, 2) := by decide +kernel
theorem dX12_init_10 : decode cX12_init 10 = .ok (.putfield 7, 3) := by decide +kernel
theorem dX12_init_13 : decode cX12_init 13 = .ok (.aload_n 0, 1) := by decide +kernel
theorem dX12_init_14 : decode cX12_init 14 = .ok (.iconst (-1), 1) := by decide +kernel
theorem dX12_init_15 : decode cX12_init 15 = .ok (.putfield 13, 3) := by decide +kernel
theorem dX12_init_18 : decode cX12_init 18 = .ok (.aload_n 0, 1) := by decide +kernel
theorem dX12_init_19 : decode cX12_init 19 = .ok (.bipush 6, 2) := by decide +kernel
theorem dX12_init_21 : decode cX12_init 21 = .ok (.newarray .int, 2) := by decide +kernel
theorem dX12_init_23 : decode cX12_init 23 = .ok (.putfield 17, 3) := by decide +kernel
theorem dX12_init_26 : decode cX12_init 26 = .ok (.aload_n 0, 1) := by decide +kernel
theorem dX12_init_27 : decode cX12_init 27 = .ok (.bipush 12, 2) := by decide +kernel
theorem dX12_init_29 : decode cX12_init 29 = .ok (.newarray .int, 2) := by decide +kernel
theorem dX12_init_31 : decode cX12_init 31 = .ok (.putfield 20, 3) := by decide +kernel
theorem dX12_init_34 : decode cX12_init 34 = .ok (.aload_n 0, 1) := by decide +kernel
theorem dX12_init_35 : decode cX12_init 35 = .ok (.bipush 6, 2) := by decide +kernel
theorem dX12_init_37 : decode cX12_init 37 = .ok (.newarray .int, 2) := by decide +kernel
theorem dX12_init_39 : decode cX12_init 39 = .ok (.putfield 23, 3) := by decide +kernel
theorem dX12_init_42 : decode cX12_init 42 = .ok (.aload_n 0, 1) := by decide +kernel
theorem dX12_init_43 : decode cX12_init 43 = .ok (.bipush 6, 2) := by decide +kernel
theorem dX12_init_45 : decode cX12_init 45 = .ok (.newarray .int, 2) := by decide +kernel
theorem dX12_init_47 : decode cX12_init 47 = .ok (.putfield 26, 3) := by decide +kernel
theorem dX12_init_50 : decode cX12_init 50 = .ok (.aload_n 0, 1) := by decide +kernel
theorem dX12_init_51 : decode cX12_init 51 = .ok (.bipush 12, 2) := by decide +kernel
theorem dX12_init_53 : decode cX12_init 53 = .ok (.newarray .int, 2) := by decide +kernel
theorem dX12_init_55 : decode cX12_init 55 = .ok (.putfield 29, 3) := by decide +kernel
theorem dX12_init_58 : decode cX12_init 58 = .ok (.aload_n 0, 1) := by decide +kernel
theorem dX12_init_59 : decode cX12_init 59 = .ok (.bipush 6, 2) := by decide +kernel
theorem dX12_init_61 : decode cX12_init 61 = .ok (.newarray .int, 2) := by decide +kernel
theorem dX12_init_63 : decode cX12_init 63 = .ok (.putfield 32, 3) := by decide +kernel
theorem dX12_init_66 : decode cX12_init 66 = .ok (.aload_n 0, 1) := by decide +kernel
theorem dX12_init_67 : decode cX12_init 67 = .ok (.bipush 23, 2) := by decide +kernel
theorem dX12_init_69 : decode cX12_init 69 = .ok (.newarray .int, 2) := by decide +kernel
theorem dX12_init_71 : decode cX12_init 71 = .ok (.putfield 35, 3) := by decide +kernel
theorem dX12_init_74 : decode cX12_init 74 = .ok (.aload_n 0, 1) := by decide +kernel
theorem dX12_init_75 : decode cX12_init 75 = .ok (.bipush 23, 2) := by decide +kernel
theorem dX12_init_77 : decode cX12_init 77 = .ok (.newarray .int, 2) := by decide +kernel
theorem dX12_init_79 : decode cX12_init 79 = .ok (.putfield 38, 3) := by decide +kernel
theorem dX12_init_82 : decode cX12_init 82 = .ok (.aload_n 0, 1) := by decide +kernel
theorem dX12_init_83 : decode cX12_init 83 = .ok (.sipush 368, 3) := by decide +kernel
theorem dX12_init_86 : decode cX12_init 86 = .ok (.newarray .int, 2) := by decide +kernel
theorem dX12_init_88 : decode cX12_init 88 = .ok (.putfield 41, 3) := by decide +kernel
theorem dX12_init_91 : decode cX12_init 91 = .ok (.aload_n 0, 1) := by decide +kernel
theorem dX12_init_92 : decode cX12_init 92 = .ok (.bipush 46, 2) := by decide +kernel
theorem dX12_init_94 : decode cX12_init 94 = .ok (.newarray .int, 2) := by decide +kernel
theorem dX12_init_96 : decode cX12_init 96 = .ok (.putfield 44, 3) := by decide +kernel
theorem dX12_init_99 : decode cX12_init 99 = .ok (.aload_n 0, 1) := by decide +kernel
theorem dX12_init_100 : decode cX12_init 100 = .ok (.iconst 2, 1) := by decide +kernel
theorem dX12_init_101 : decode cX12_init 101 = .ok (.newarray .int, 2) := by decide +kernel
theorem dX12_init_103 : decode cX12_init 103 = .ok (.putfield 47, 3) := by decide +kernel
theorem dX12_init_106 : decode cX12_init 106 = .ok (.aload_n 0, 1) := by decide +kernel
theorem dX12_init_107 : decode cX12_init 107 = .ok (.iconst 2, 1) := by decide +kernel
theorem dX12_init_108 : decode cX12_init 108 = .ok (.newarray .boolean, 2) := by decide +kernel
theorem dX12_init_110 : decode cX12_init 110 = .ok (.putfield 50, 3) := by decide +kernel
theorem dX12_init_113 : decode cX12_init 113 = .ok (.aload_n 0, 1) := by decide +kernel
theorem dX12_init_114 : decode cX12_init 114 = .ok (.bipush 12, 2) := by decide +kernel
theorem dX12_init_116 : decode cX12_init 116 = .ok (.newarray .int, 2) := by decide +kernel
theorem dX12_init_118 : decode cX12_init 118 = .ok (.putfield 54, 3) := by decide +kernel
theorem dX12_init_121 : decode cX12_init 121 = .ok (.aload_n 0, 1) := by decide +kernel
theorem dX12_init_122 : decode cX12_init 122 = .ok (.bipush 30, 2) := by decide +kernel
theorem dX12_init_124 : decode cX12_init 124 = .ok (.newarray .int, 2) := by decide +kernel
theorem dX12_init_126 : decode cX12_init 126 = .ok (.putfield 57, 3) := by decide +kernel
theorem dX12_init_129 : decode cX12_init 129 = .ok (.aload_n 0, 1) := by decide +kernel
theorem dX12_init_130 : decode cX12_init 130 = .ok (.sipush 1001, 3) := by decide +kernel
theorem dX12_init_133 : decode cX12_init 133 = .ok (.newarray .int, 2) := by decide +kernel
theorem dX12_init_135 : decode cX12_init 135 = .ok (.putfield 60, 3) := by decide +kernel
theorem dX12_init_138 : decode cX12_init 138 = .ok (.aload_n 0, 1) := by decide +kernel
theorem dX12_init_139 : decode cX12_init 139 = .ok (.bipush 6, 2) := by decide +kernel
theorem dX12_init_141 : decode cX12_init 141 = .ok (.newarray .int, 2) := by decide +kernel
theorem dX12_init_143 : decode cX12_init 143 = .ok (.putfield 63, 3) := by decide +kernel
theorem dX12_init_146 : decode cX12_init 146 = .ok (.aload_n 0, 1) := by decide +kernel
theorem dX12_init_147 : decode cX12_init 147 = .ok (.bipush 6, 2) := by decide +kernel
theorem dX12_init_149 : decode cX12_init 149 = .ok (.newarray .int, 2) := by decide +kernel
theorem dX12_init_151 : decode cX12_init 151 = .ok (.putfield 66, 3) := by decide +kernel
theorem dX12_init_154 : decode cX12_init 154 = .ok (.aload_n 0, 1) := by decide +kernel
theorem dX12_init_155 : decode cX12_init 155 = .ok (.bipush 6, 2) := by decide +kernel
theorem dX12_init_157 : decode cX12_init 157 = .ok (.newarray .int, 2) := by decide +kernel
theorem dX12_init_159 : decode cX12_init 159 = .ok (.putfield 69, 3) := by decide +kernel
theorem dX12_init_162 : decode cX12_init 162 = .ok (.return_, 1) := by decide +kernel
theorem dX12_in_0 : decode cX12_in 0 = .ok (.iload_n 0, 1) := by decide +kernel
theorem dX12_in_1 : decode cX12_in 1 = .ok (.iload_n 1, 1) := by decide +kernel
theorem dX12_in_2 : decode cX12_in 2 = .ok (.if_icmp .lt 12, 3) := by decide +kernel
theorem dX12_in_5 : decode cX12_in 5 = .ok (.iload_n 0, 1) := by decide +kernel
theorem dX12_in_6 : decode cX12_in 6 = .ok (.iload_n 2, 1) := by decide +kernel
theorem dX12_in_7 : decode cX12_in 7 = .ok (.if_icmp .gt 7, 3) := by decide +kernel
theorem dX12_in_10 : decode cX12_in 10 = .ok (.iconst 1, 1) := by decide +kernel
theorem dX12_in_11 : decode cX12_in 11 = .ok (.goto 4, 3) := by decide +kernel
theorem dX12_in_14 : decode cX12_in 14 = .ok (.iconst 0, 1) := by decide +kernel
theorem dX12_in_15 : decode cX12_in 15 = .ok (.ireturn, 1) := by decide +kernel
theorem dX12_has_0 : decode cX12_has 0 = .ok (.iload_n 0, 1) := by decide +kernel
theorem dX12_has_1 : decode cX12_has 1 = .ok (.iload_n 1, 1) := by decide +kernel
theorem dX12_has_2 : decode cX12_has 2 = .ok (.ishr, 1) := by decide +kernel
theorem dX12_has_3 : decode cX12_has 3 = .ok (.iconst 1, 1) := by decide +kernel
theorem dX12_has_4 : decode cX12_has 4 = .ok (.iand, 1) := by decide +kernel
theorem dX12_has_5 : decode cX12_has 5 = .ok (.iconst 1, 1) := by decide +kernel
theorem dX12_has_6 : decode cX12_has 6 = .ok (.if_icmp .ne 7, 3) := by decide +kernel
theorem dX12_has_9 : decode cX12_has 9 = .ok (.iconst 1, 1) := by decide +kernel
theorem dX12_has_10 : decode cX12_has 10 = .ok (.goto 4, 3) := by decide +kernel
theorem dX12_has_13 : decode cX12_has 13 = .ok (.iconst 0, 1) := by decide +kernel
theorem dX12_has_14 : decode cX12_has 14 = .ok (.ireturn, 1) := by decide +kernel
theorem dX12_bits_0 : decode cX12_bits 0 = .ok (.iconst 0, 1) := by decide +kernel
theorem dX12_bits_1 : decode cX12_bits 1 = .ok (.istore_n 1, 1) := by decide +kernel
theorem dX12_bits_2 : decode cX12_bits 2 = .ok (.iconst 0, 1) := by decide +kernel
theorem dX12_bits_3 : decode cX12_bits 3 = .ok (.istore_n 2, 1) := by decide +kernel
theorem dX12_bits_4 : decode cX12_bits 4 = .ok (.iload_n 2, 1) := by decide +kernel
theorem dX12_bits_5 : decode cX12_bits 5 = .ok (.bipush 12, 2) := by decide +kernel
theorem dX12_bits_7 : decode cX12_bits 7 = .ok (.if_icmp .ge 17, 3) := by decide +kernel
theorem dX12_bits_10 : decode cX12_bits 10 = .ok (.iload_n 1, 1) := by decide +kernel
theorem dX12_bits_11 : decode cX12_bits 11 = .ok (.iload_n 0, 1) := by decide +kernel
theorem dX12_bits_12 : decode cX12_bits 12 = .ok (.iload_n 2, 1) := by decide +kernel
theorem dX12_bits_13 : decode cX12_bits 13 = .ok (.ishr, 1) := by decide +kernel
theorem dX12_bits_14 : decode cX12_bits 14 = .ok (.iconst 1, 1) := by decide +kernel
theorem dX12_bits_15 : decode cX12_bits 15 = .ok (.iand, 1) := by decide +kernel
theorem dX12_bits_16 : decode cX12_bits 16 = .ok (.iadd, 1) := by decide +kernel
theorem dX12_bits_17 : decode cX12_bits 17 = .ok (.istore_n 1, 1) := by decide +kernel
theorem dX12_bits_18 : decode cX12_bits 18 = .ok (.iinc 2 1, 3) := by decide +kernel
theorem dX12_bits_21 : decode cX12_bits 21 = .ok (.goto (-17), 3) := by decide +kernel
theorem dX12_bits_24 : decode cX12_bits 24 = .ok (.iload_n 1, 1) := by decide +kernel
theorem dX12_bits_25 : decode cX12_bits 25 = .ok (.ireturn, 1) := by decide +kernel
theorem dX12_isTower_0 : decode cX12_isTower 0 = .ok (.aload_n 0, 1) := by decide +kernel
theorem dX12_isTower_1 : decode cX12_isTower 1 = .ok (.getfield 72, 3) := by decide +kernel
theorem dX12_isTower_4 : decode cX12_isTower 4 = .ok (.ifCond .le 7, 3) := by decide +kernel
theorem dX12_isTower_7 : decode cX12_isTower 7 = .ok (.iconst 1, 1) := by decide +kernel
theorem dX12_isTower_8 : decode cX12_isTower 8 = .ok (.goto 4, 3) := by decide +kernel
theorem dX12_isTower_11 : decode cX12_isTower 11 = .ok (.iconst 0, 1) := by decide +kernel
theorem dX12_isTower_12 : decode cX12_isTower 12 = .ok (.ireturn, 1) := by decide +kernel
theorem dX12_isBell_0 : decode cX12_isBell 0 = .ok (.iload_n 1, 1) := by decide +kernel
theorem dX12_isBell_1 : decode cX12_isBell 1 = .ok (.iconst 0, 1) := by decide +kernel
theorem dX12_isBell_2 : decode cX12_isBell 2 = .ok (.aload_n 0, 1) := by decide +kernel
theorem dX12_isBell_3 : decode cX12_isBell 3 = .ok (.getfield 72, 3) := by decide +kernel
theorem dX12_isBell_6 : decode cX12_isBell 6 = .ok (.iconst 1, 1) := by decide +kernel
theorem dX12_isBell_7 : decode cX12_isBell 7 = .ok (.isub, 1) := by decide +kernel
theorem dX12_isBell_8 : decode cX12_isBell 8 = .ok (.invokestatic 75, 3) := by decide +kernel
theorem dX12_isBell_11 : decode cX12_isBell 11 = .ok (.ireturn, 1) := by decide +kernel
theorem dX12_isSuitor_0 : decode cX12_isSuitor 0 = .ok (.iload_n 1, 1) := by decide +kernel
theorem dX12_isSuitor_1 : decode cX12_isSuitor 1 = .ok (.iconst 0, 1) := by decide +kernel
theorem dX12_isSuitor_2 : decode cX12_isSuitor 2 = .ok (.aload_n 0, 1) := by decide +kernel
theorem dX12_isSuitor_3 : decode cX12_isSuitor 3 = .ok (.getfield 79, 3) := by decide +kernel
theorem dX12_isSuitor_6 : decode cX12_isSuitor 6 = .ok (.iconst 1, 1) := by decide +kernel
theorem dX12_isSuitor_7 : decode cX12_isSuitor 7 = .ok (.isub, 1) := by decide +kernel
theorem dX12_isSuitor_8 : decode cX12_isSuitor 8 = .ok (.invokestatic 75, 3) := by decide +kernel
theorem dX12_isSuitor_11 : decode cX12_isSuitor 11 = .ok (.ireturn, 1) := by decide +kernel
theorem dX12_feed_0 : decode cX12_feed 0 = .ok (.iload_n 1, 1) := by decide +kernel
theorem dX12_feed_1 : decode cX12_feed 1 = .ok (.iconst 0, 1) := by decide +kernel
theorem dX12_feed_2 : decode cX12_feed 2 = .ok (.sipush 255, 3) := by decide +kernel
theorem dX12_feed_5 : decode cX12_feed 5 = .ok (.invokestatic 75, 3) := by decide +kernel
theorem dX12_feed_8 : decode cX12_feed 8 = .ok (.ifCond .ne 6, 3) := by decide +kernel
theorem dX12_feed_11 : decode cX12_feed 11 = .ok (.ldc 82, 2) := by decide +kernel
theorem dX12_feed_13 : decode cX12_feed 13 = .ok (.ireturn, 1) := by decide +kernel
theorem dX12_feed_14 : decode cX12_feed 14 = .ok (.aload_n 0, 1) := by decide +kernel
theorem dX12_feed_15 : decode cX12_feed 15 = .ok (.getfield 83, 3) := by decide +kernel
theorem dX12_feed_18 : decode cX12_feed 18 = .ok (.sipush 240, 3) := by decide +kernel
theorem dX12_feed_21 : decode cX12_feed 21 = .ok (.if_icmp .ne 6, 3) := by decide +kernel
theorem dX12_feed_24 : decode cX12_feed 24 = .ok (.ldc 86, 2) := by decide +kernel
theorem dX12_feed_26 : decode cX12_feed 26 = .ok (.ireturn, 1) := by decide +kernel
theorem dX12_feed_27 : decode cX12_feed 27 = .ok (.aload_n 0, 1) := by decide +kernel
theorem dX12_feed_28 : decode cX12_feed 28 = .ok (.getfield 7, 3) := by decide +kernel
theorem dX12_feed_31 : decode cX12_feed 31 = .ok (.aload_n 0, 1) := by decide +kernel
theorem dX12_feed_32 : decode cX12_feed 32 = .ok (.getfield 83, 3) := by decide +kernel
theorem dX12_feed_35 : decode cX12_feed 35 = .ok (.iload_n 1, 1) := by decide +kernel
theorem dX12_feed_36 : decode cX12_feed 36 = .ok (.iastore, 1) := by decide +kernel
theorem dX12_feed_37 : decode cX12_feed 37 = .ok (.aload_n 0, 1) := by decide +kernel
theorem dX12_feed_38 : decode cX12_feed 38 = .ok (.dup, 1) := by decide +kernel
theorem dX12_feed_39 : decode cX12_feed 39 = .ok (.getfield 83, 3) := by decide +kernel
theorem dX12_feed_42 : decode cX12_feed 42 = .ok (.iconst 1, 1) := by decide +kernel
theorem dX12_feed_43 : decode cX12_feed 43 = .ok (.iadd, 1) := by decide +kernel
theorem dX12_feed_44 : decode cX12_feed 44 = .ok (.putfield 83, 3) := by decide +kernel
theorem dX12_feed_47 : decode cX12_feed 47 = .ok (.aload_n 0, 1) := by decide +kernel
theorem dX12_feed_48 : decode cX12_feed 48 = .ok (.getfield 83, 3) := by decide +kernel
theorem dX12_feed_51 : decode cX12_feed 51 = .ok (.ireturn, 1) := by decide +kernel
theorem dX12_nextToken_0 : decode cX12_nextToken 0 = .ok (.aload_n 0, 1) := by decide +kernel
theorem dX12_nextToken_1 : decode cX12_nextToken 1 = .ok (.getfield 87, 3) := by decide +kernel
theorem dX12_nextToken_4 : decode cX12_nextToken 4 = .ok (.aload_n 0, 1) := by decide +kernel
theorem dX12_nextToken_5 : decode cX12_nextToken 5 = .ok (.getfield 83, 3) := by decide +kernel
theorem dX12_nextToken_8 : decode cX12_nextToken 8 = .ok (.if_icmp .ge 30, 3) := by decide +kernel
theorem dX12_nextToken_11 : decode cX12_nextToken 11 = .ok (.aload_n 0, 1) := by decide +kernel
theorem dX12_nextToken_12 : decode cX12_nextToken 12 = .ok (.getfield 7, 3) := by decide +kernel
theorem dX12_nextToken_15 : decode cX12_nextToken 15 = .ok (.aload_n 0, 1) := by decide +kernel
theorem dX12_nextToken_16 : decode cX12_nextToken 16 = .ok (.getfield 87, 3) := by decide +kernel
theorem dX12_nextToken_19 : decode cX12_nextToken 19 = .ok (.iaload, 1) := by decide +kernel
theorem dX12_nextToken_20 : decode cX12_nextToken 20 = .ok (.bipush 32, 2) := by decide +kernel
theorem dX12_nextToken_22 : decode cX12_nextToken 22 = .ok (.if_icmp .ne 16, 3) := by decide +kernel
theorem dX12_nextToken_25 : decode cX12_nextToken 25 = .ok (.aload_n 0, 1) := by decide +kernel
theorem dX12_nextToken_26 : decode cX12_nextToken 26 = .ok (.dup, 1) := by decide +kernel
theorem dX12_nextToken_27 : decode cX12_nextToken 27 = .ok (.getfield 87, 3) := by decide +kernel
theorem dX12_nextToken_30 : decode cX12_nextToken 30 = .ok (.iconst 1, 1) := by decide +kernel
theorem dX12_nextToken_31 : decode cX12_nextToken 31 = .ok (.iadd, 1) := by decide +kernel
theorem dX12_nextToken_32 : decode cX12_nextToken 32 = .ok (.putfield 87, 3) := by decide +kernel
theorem dX12_nextToken_35 : decode cX12_nextToken 35 = .ok (.goto (-35), 3) := by decide +kernel
theorem dX12_nextToken_38 : decode cX12_nextToken 38 = .ok (.aload_n 0, 1) := by decide +kernel
theorem dX12_nextToken_39 : decode cX12_nextToken 39 = .ok (.aload_n 0, 1) := by decide +kernel
theorem dX12_nextToken_40 : decode cX12_nextToken 40 = .ok (.getfield 87, 3) := by decide +kernel
theorem dX12_nextToken_43 : decode cX12_nextToken 43 = .ok (.putfield 90, 3) := by decide +kernel
theorem dX12_nextToken_46 : decode cX12_nextToken 46 = .ok (.aload_n 0, 1) := by decide +kernel
theorem dX12_nextToken_47 : decode cX12_nextToken 47 = .ok (.iconst 0, 1) := by decide +kernel
theorem dX12_nextToken_48 : decode cX12_nextToken 48 = .ok (.putfield 93, 3) := by decide +kernel
theorem dX12_nextToken_51 : decode cX12_nextToken 51 = .ok (.aload_n 0, 1) := by decide +kernel
theorem dX12_nextToken_52 : decode cX12_nextToken 52 = .ok (.iconst 0, 1) := by decide +kernel
theorem dX12_nextToken_53 : decode cX12_nextToken 53 = .ok (.putfield 96, 3) := by decide +kernel
theorem dX12_nextToken_56 : decode cX12_nextToken 56 = .ok (.aload_n 0, 1) := by decide +kernel
theorem dX12_nextToken_57 : decode cX12_nextToken 57 = .ok (.getfield 87, 3) := by decide +kernel
theorem dX12_nextToken_60 : decode cX12_nextToken 60 = .ok (.aload_n 0, 1) := by decide +kernel
theorem dX12_nextToken_61 : decode cX12_nextToken 61 = .ok (.getfield 83, 3) := by decide +kernel
theorem dX12_nextToken_64 : decode cX12_nextToken 64 = .ok (.if_icmp .ne 12, 3) := by decide +kernel
theorem dX12_nextToken_67 : decode cX12_nextToken 67 = .ok (.aload_n 0, 1) := by decide +kernel
theorem dX12_nextToken_68 : decode cX12_nextToken 68 = .ok (.bipush (-2), 2) := by decide +kernel
theorem dX12_nextToken_70 : decode cX12_nextToken 70 = .ok (.putfield 99, 3) := by decide +kernel
theorem dX12_nextToken_73 : decode cX12_nextToken 73 = .ok (.goto 145, 3) := by decide +kernel
theorem dX12_nextToken_76 : decode cX12_nextToken 76 = .ok (.aload_n 0, 1) := by decide +kernel
theorem dX12_nextToken_77 : decode cX12_nextToken 77 = .ok (.getfield 7, 3) := by decide +kernel
theorem dX12_nextToken_80 : decode cX12_nextToken 80 = .ok (.aload_n 0, 1) := by decide +kernel
theorem dX12_nextToken_81 : decode cX12_nextToken 81 = .ok (.getfield 87, 3) := by decide +kernel
theorem dX12_nextToken_84 : decode cX12_nextToken 84 = .ok (.iaload, 1) := by decide +kernel
theorem dX12_nextToken_85 : decode cX12_nextToken 85 = .ok (.bipush 48, 2) := by decide +kernel
theorem dX12_nextToken_87 : decode cX12_nextToken 87 = .ok (.bipush 57, 2) := by decide +kernel
theorem dX12_nextToken_89 : decode cX12_nextToken 89 = .ok (.invokestatic 75, 3) := by decide +kernel
theorem dX12_nextToken_92 : decode cX12_nextToken 92 = .ok (.ifCond .eq 103, 3) := by decide +kernel
theorem dX12_nextToken_95 : decode cX12_nextToken 95 = .ok (.aload_n 0, 1) := by decide +kernel
theorem dX12_nextToken_96 : decode cX12_nextToken 96 = .ok (.getfield 87, 3) := by decide +kernel
theorem dX12_nextToken_99 : decode cX12_nextToken 99 = .ok (.aload_n 0, 1) := by decide +kernel
theorem dX12_nextToken_100 : decode cX12_nextToken 100 = .ok (.getfield 83, 3) := by decide +kernel
theorem dX12_nextToken_103 : decode cX12_nextToken 103 = .ok (.if_icmp .ge 84, 3) := by decide +kernel
theorem dX12_nextToken_106 : decode cX12_nextToken 106 = .ok (.aload_n 0, 1) := by decide +kernel
theorem dX12_nextToken_107 : decode cX12_nextToken 107 = .ok (.getfield 7, 3) := by decide +kernel
theorem dX12_nextToken_110 : decode cX12_nextToken 110 = .ok (.aload_n 0, 1) := by decide +kernel
theorem dX12_nextToken_111 : decode cX12_nextToken 111 = .ok (.getfield 87, 3) := by decide +kernel
theorem dX12_nextToken_114 : decode cX12_nextToken 114 = .ok (.iaload, 1) := by decide +kernel
theorem dX12_nextToken_115 : decode cX12_nextToken 115 = .ok (.bipush 48, 2) := by decide +kernel
theorem dX12_nextToken_117 : decode cX12_nextToken 117 = .ok (.bipush 57, 2) := by decide +kernel
theorem dX12_nextToken_119 : decode cX12_nextToken 119 = .ok (.invokestatic 75, 3) := by decide +kernel
theorem dX12_nextToken_122 : decode cX12_nextToken 122 = .ok (.ifCond .eq 65, 3) := by decide +kernel
theorem dX12_nextToken_125 : decode cX12_nextToken 125 = .ok (.aload_n 0, 1) := by decide +kernel
theorem dX12_nextToken_126 : decode cX12_nextToken 126 = .ok (.aload_n 0, 1) := by decide +kernel
theorem dX12_nextToken_127 : decode cX12_nextToken 127 = .ok (.getfield 96, 3) := by decide +kernel
theorem dX12_nextToken_130 : decode cX12_nextToken 130 = .ok (.iconst 3, 1) := by decide +kernel
theorem dX12_nextToken_131 : decode cX12_nextToken 131 = .ok (.if_icmp .ge 26, 3) := by decide +kernel
theorem dX12_nextToken_134 : decode cX12_nextToken 134 = .ok (.bipush 10, 2) := by decide +kernel
theorem dX12_nextToken_136 : decode cX12_nextToken 136 = .ok (.aload_n 0, 1) := by decide +kernel
theorem dX12_nextToken_137 : decode cX12_nextToken 137 = .ok (.getfield 93, 3) := by decide +kernel
theorem dX12_nextToken_140 : decode cX12_nextToken 140 = .ok (.imul, 1) := by decide +kernel
theorem dX12_nextToken_141 : decode cX12_nextToken 141 = .ok (.aload_n 0, 1) := by decide +kernel
theorem dX12_nextToken_142 : decode cX12_nextToken 142 = .ok (.getfield 7, 3) := by decide +kernel
theorem dX12_nextToken_145 : decode cX12_nextToken 145 = .ok (.aload_n 0, 1) := by decide +kernel
theorem dX12_nextToken_146 : decode cX12_nextToken 146 = .ok (.getfield 87, 3) := by decide +kernel
theorem dX12_nextToken_149 : decode cX12_nextToken 149 = .ok (.iaload, 1) := by decide +kernel
theorem dX12_nextToken_150 : decode cX12_nextToken 150 = .ok (.iadd, 1) := by decide +kernel
theorem dX12_nextToken_151 : decode cX12_nextToken 151 = .ok (.bipush 48, 2) := by decide +kernel
theorem dX12_nextToken_153 : decode cX12_nextToken 153 = .ok (.isub, 1) := by decide +kernel
theorem dX12_nextToken_154 : decode cX12_nextToken 154 = .ok (.goto 7, 3) := by decide +kernel
theorem dX12_nextToken_157 : decode cX12_nextToken 157 = .ok (.aload_n 0, 1) := by decide +kernel
theorem dX12_nextToken_158 : decode cX12_nextToken 158 = .ok (.getfield 93, 3) := by decide +kernel
theorem dX12_nextToken_161 : decode cX12_nextToken 161 = .ok (.putfield 93, 3) := by decide +kernel
theorem dX12_nextToken_164 : decode cX12_nextToken 164 = .ok (.aload_n 0, 1) := by decide +kernel
theorem dX12_nextToken_165 : decode cX12_nextToken 165 = .ok (.dup, 1) := by decide +kernel
theorem dX12_nextToken_166 : decode cX12_nextToken 166 = .ok (.getfield 96, 3) := by decide +kernel
theorem dX12_nextToken_169 : decode cX12_nextToken 169 = .ok (.iconst 1, 1) := by decide +kernel
theorem dX12_nextToken_170 : decode cX12_nextToken 170 = .ok (.iadd, 1) := by decide +kernel
theorem dX12_nextToken_171 : decode cX12_nextToken 171 = .ok (.putfield 96, 3) := by decide +kernel
theorem dX12_nextToken_174 : decode cX12_nextToken 174 = .ok (.aload_n 0, 1) := by decide +kernel
theorem dX12_nextToken_175 : decode cX12_nextToken 175 = .ok (.dup, 1) := by decide +kernel
theorem dX12_nextToken_176 : decode cX12_nextToken 176 = .ok (.getfield 87, 3) := by decide +kernel
theorem dX12_nextToken_179 : decode cX12_nextToken 179 = .ok (.iconst 1, 1) := by decide +kernel
theorem dX12_nextToken_180 : decode cX12_nextToken 180 = .ok (.iadd, 1) := by decide +kernel
theorem dX12_nextToken_181 : decode cX12_nextToken 181 = .ok (.putfield 87, 3) := by decide +kernel
theorem dX12_nextToken_184 : decode cX12_nextToken 184 = .ok (.goto (-89), 3) := by decide +kernel
theorem dX12_nextToken_187 : decode cX12_nextToken 187 = .ok (.aload_n 0, 1) := by decide +kernel
theorem dX12_nextToken_188 : decode cX12_nextToken 188 = .ok (.iconst (-1), 1) := by decide +kernel
theorem dX12_nextToken_189 : decode cX12_nextToken 189 = .ok (.putfield 99, 3) := by decide +kernel
theorem dX12_nextToken_192 : decode cX12_nextToken 192 = .ok (.goto 26, 3) := by decide +kernel
theorem dX12_nextToken_195 : decode cX12_nextToken 195 = .ok (.aload_n 0, 1) := by decide +kernel
theorem dX12_nextToken_196 : decode cX12_nextToken 196 = .ok (.aload_n 0, 1) := by decide +kernel
theorem dX12_nextToken_197 : decode cX12_nextToken 197 = .ok (.getfield 7, 3) := by decide +kernel
theorem dX12_nextToken_200 : decode cX12_nextToken 200 = .ok (.aload_n 0, 1) := by decide +kernel
theorem dX12_nextToken_201 : decode cX12_nextToken 201 = .ok (.getfield 87, 3) := by decide +kernel
theorem dX12_nextToken_204 : decode cX12_nextToken 204 = .ok (.iaload, 1) := by decide +kernel
theorem dX12_nextToken_205 : decode cX12_nextToken 205 = .ok (.putfield 99, 3) := by decide +kernel
theorem dX12_nextToken_208 : decode cX12_nextToken 208 = .ok (.aload_n 0, 1) := by decide +kernel
theorem dX12_nextToken_209 : decode cX12_nextToken 209 = .ok (.dup, 1) := by decide +kernel
theorem dX12_nextToken_210 : decode cX12_nextToken 210 = .ok (.getfield 87, 3) := by decide +kernel
theorem dX12_nextToken_213 : decode cX12_nextToken 213 = .ok (.iconst 1, 1) := by decide +kernel
theorem dX12_nextToken_214 : decode cX12_nextToken 214 = .ok (.iadd, 1) := by decide +kernel
theorem dX12_nextToken_215 : decode cX12_nextToken 215 = .ok (.putfield 87, 3) := by decide +kernel
theorem dX12_nextToken_218 : decode cX12_nextToken 218 = .ok (.return_, 1) := by decide +kernel
theorem dX12_fails_0 : decode cX12_fails 0 = .ok (.aload_n 0, 1) := by decide +kernel
theorem dX12_fails_1 : decode cX12_fails 1 = .ok (.aload_n 0, 1) := by decide +kernel
theorem dX12_fails_2 : decode cX12_fails 2 = .ok (.getfield 90, 3) := by decide +kernel
theorem dX12_fails_5 : decode cX12_fails 5 = .ok (.putfield 13, 3) := by decide +kernel
theorem dX12_fails_8 : decode cX12_fails 8 = .ok (.aload_n 0, 1) := by decide +kernel
theorem dX12_fails_9 : decode cX12_fails 9 = .ok (.iload_n 1, 1) := by decide +kernel
theorem dX12_fails_10 : decode cX12_fails 10 = .ok (.putfield 102, 3) := by decide +kernel
theorem dX12_fails_13 : decode cX12_fails 13 = .ok (.iconst 0, 1) := by decide +kernel
theorem dX12_fails_14 : decode cX12_fails 14 = .ok (.ireturn, 1) := by decide +kernel
theorem dX12_isNumber_0 : decode cX12_isNumber 0 = .ok (.aload_n 0, 1) := by decide +kernel
theorem dX12_isNumber_1 : decode cX12_isNumber 1 = .ok (.invokevirtual 105, 3) := by decide +kernel
theorem dX12_isNumber_4 : decode cX12_isNumber 4 = .ok (.aload_n 0, 1) := by decide +kernel
theorem dX12_isNumber_5 : decode cX12_isNumber 5 = .ok (.getfield 99, 3) := by decide +kernel
theorem dX12_isNumber_8 : decode cX12_isNumber 8 = .ok (.iconst (-1), 1) := by decide +kernel
theorem dX12_isNumber_9 : decode cX12_isNumber 9 = .ok (.if_icmp .eq 9, 3) := by decide +kernel
theorem dX12_isNumber_12 : decode cX12_isNumber 12 = .ok (.aload_n 0, 1) := by decide +kernel
theorem dX12_isNumber_13 : decode cX12_isNumber 13 = .ok (.iconst 1, 1) := by decide +kernel
theorem dX12_isNumber_14 : decode cX12_isNumber 14 = .ok (.invokevirtual 108, 3) := by decide +kernel
theorem dX12_isNumber_17 : decode cX12_isNumber 17 = .ok (.ireturn, 1) := by decide +kernel
theorem dX12_isNumber_18 : decode cX12_isNumber 18 = .ok (.aload_n 0, 1) := by decide +kernel
theorem dX12_isNumber_19 : decode cX12_isNumber 19 = .ok (.getfield 96, 3) := by decide +kernel
theorem dX12_isNumber_22 : decode cX12_isNumber 22 = .ok (.iconst 4, 1) := by decide +kernel
theorem dX12_isNumber_23 : decode cX12_isNumber 23 = .ok (.if_icmp .ge 15, 3) := by decide +kernel
theorem dX12_isNumber_26 : decode cX12_isNumber 26 = .ok (.aload_n 0, 1) := by decide +kernel
theorem dX12_isNumber_27 : decode cX12_isNumber 27 = .ok (.getfield 93, 3) := by decide +kernel
theorem dX12_isNumber_30 : decode cX12_isNumber 30 = .ok (.iload_n 1, 1) := by decide +kernel
theorem dX12_isNumber_31 : decode cX12_isNumber 31 = .ok (.iload_n 2, 1) := by decide +kernel
theorem dX12_isNumber_32 : decode cX12_isNumber 32 = .ok (.invokestatic 75, 3) := by decide +kernel
theorem dX12_isNumber_35 : decode cX12_isNumber 35 = .ok (.ifCond .ne 11, 3) := by decide +kernel
theorem dX12_isNumber_38 : decode cX12_isNumber 38 = .ok (.aload_n 0, 1) := by decide +kernel
theorem dX12_isNumber_39 : decode cX12_isNumber 39 = .ok (.iconst 2, 1) := by decide +kernel
theorem dX12_isNumber_40 : decode cX12_isNumber 40 = .ok (.invokevirtual 108, 3) := by decide +kernel
theorem dX12_isNumber_43 : decode cX12_isNumber 43 = .ok (.ifCond .eq 7, 3) := by decide +kernel
theorem dX12_isNumber_46 : decode cX12_isNumber 46 = .ok (.iconst 1, 1) := by decide +kernel
theorem dX12_isNumber_47 : decode cX12_isNumber 47 = .ok (.goto 4, 3) := by decide +kernel
theorem dX12_isNumber_50 : decode cX12_isNumber 50 = .ok (.iconst 0, 1) := by decide +kernel
theorem dX12_isNumber_51 : decode cX12_isNumber 51 = .ok (.ireturn, 1) := by decide +kernel
theorem dX12_isEnd_0 : decode cX12_isEnd 0 = .ok (.aload_n 0, 1) := by decide +kernel
theorem dX12_isEnd_1 : decode cX12_isEnd 1 = .ok (.invokevirtual 105, 3) := by decide +kernel
theorem dX12_isEnd_4 : decode cX12_isEnd 4 = .ok (.aload_n 0, 1) := by decide +kernel
theorem dX12_isEnd_5 : decode cX12_isEnd 5 = .ok (.getfield 99, 3) := by decide +kernel
theorem dX12_isEnd_8 : decode cX12_isEnd 8 = .ok (.bipush 59, 2) := by decide +kernel
theorem dX12_isEnd_10 : decode cX12_isEnd 10 = .ok (.if_icmp .eq 11, 3) := by decide +kernel
theorem dX12_isEnd_13 : decode cX12_isEnd 13 = .ok (.aload_n 0, 1) := by decide +kernel
theorem dX12_isEnd_14 : decode cX12_isEnd 14 = .ok (.iconst 1, 1) := by decide +kernel
theorem dX12_isEnd_15 : decode cX12_isEnd 15 = .ok (.invokevirtual 108, 3) := by decide +kernel
theorem dX12_isEnd_18 : decode cX12_isEnd 18 = .ok (.ifCond .eq 7, 3) := by decide +kernel
theorem dX12_isEnd_21 : decode cX12_isEnd 21 = .ok (.iconst 1, 1) := by decide +kernel
theorem dX12_isEnd_22 : decode cX12_isEnd 22 = .ok (.goto 4, 3) := by decide +kernel
theorem dX12_isEnd_25 : decode cX12_isEnd 25 = .ok (.iconst 0, 1) := by decide +kernel
theorem dX12_isEnd_26 : decode cX12_isEnd 26 = .ok (.ireturn, 1) := by decide +kernel
theorem dX12_isChange_0 : decode cX12_isChange 0 = .ok (.iconst 0, 1) := by decide +kernel
theorem dX12_isChange_1 : decode cX12_isChange 1 = .ok (.istore_n 2, 1) := by decide +kernel
theorem dX12_isChange_2 : decode cX12_isChange 2 = .ok (.iconst 1, 1) := by decide +kernel
theorem dX12_isChange_3 : decode cX12_isChange 3 = .ok (.istore_n 3, 1) := by decide +kernel
theorem dX12_isChange_4 : decode cX12_isChange 4 = .ok (.iconst 0, 1) := by decide +kernel
theorem dX12_isChange_5 : decode cX12_isChange 5 = .ok (.istore 4, 2) := by decide +kernel
theorem dX12_isChange_7 : decode cX12_isChange 7 = .ok (.iload 4, 2) := by decide +kernel
theorem dX12_isChange_9 : decode cX12_isChange 9 = .ok (.iload_n 1, 1) := by decide +kernel
theorem dX12_isChange_10 : decode cX12_isChange 10 = .ok (.if_icmp .ge 51, 3) := by decide +kernel
theorem dX12_isChange_13 : decode cX12_isChange 13 = .ok (.iload_n 3, 1) := by decide +kernel
theorem dX12_isChange_14 : decode cX12_isChange 14 = .ok (.ifCond .eq 22, 3) := by decide +kernel
theorem dX12_isChange_17 : decode cX12_isChange 17 = .ok (.iload_n 0, 1) := by decide +kernel
theorem dX12_isChange_18 : decode cX12_isChange 18 = .ok (.iload 4, 2) := by decide +kernel
theorem dX12_isChange_20 : decode cX12_isChange 20 = .ok (.invokestatic 112, 3) := by decide +kernel
theorem dX12_isChange_23 : decode cX12_isChange 23 = .ok (.ifCond .eq 9, 3) := by decide +kernel
theorem dX12_isChange_26 : decode cX12_isChange 26 = .ok (.iload_n 2, 1) := by decide +kernel
theorem dX12_isChange_27 : decode cX12_isChange 27 = .ok (.iconst 2, 1) := by decide +kernel
theorem dX12_isChange_28 : decode cX12_isChange 28 = .ok (.irem, 1) := by decide +kernel
theorem dX12_isChange_29 : decode cX12_isChange 29 = .ok (.ifCond .ne 7, 3) := by decide +kernel
theorem dX12_isChange_32 : decode cX12_isChange 32 = .ok (.iconst 1, 1) := by decide +kernel
theorem dX12_isChange_33 : decode cX12_isChange 33 = .ok (.goto 4, 3) := by decide +kernel
theorem dX12_isChange_36 : decode cX12_isChange 36 = .ok (.iconst 0, 1) := by decide +kernel
theorem dX12_isChange_37 : decode cX12_isChange 37 = .ok (.istore_n 3, 1) := by decide +kernel
theorem dX12_isChange_38 : decode cX12_isChange 38 = .ok (.iload_n 0, 1) := by decide +kernel
theorem dX12_isChange_39 : decode cX12_isChange 39 = .ok (.iload 4, 2) := by decide +kernel
theorem dX12_isChange_41 : decode cX12_isChange 41 = .ok (.invokestatic 112, 3) := by decide +kernel
theorem dX12_isChange_44 : decode cX12_isChange 44 = .ok (.ifCond .eq 7, 3) := by decide +kernel
theorem dX12_isChange_47 : decode cX12_isChange 47 = .ok (.iconst 0, 1) := by decide +kernel
theorem dX12_isChange_48 : decode cX12_isChange 48 = .ok (.goto 6, 3) := by decide +kernel
theorem dX12_isChange_51 : decode cX12_isChange 51 = .ok (.iload_n 2, 1) := by decide +kernel
theorem dX12_isChange_52 : decode cX12_isChange 52 = .ok (.iconst 1, 1) := by decide +kernel
theorem dX12_isChange_53 : decode cX12_isChange 53 = .ok (.iadd, 1) := by decide +kernel
theorem dX12_isChange_54 : decode cX12_isChange 54 = .ok (.istore_n 2, 1) := by decide +kernel
theorem dX12_isChange_55 : decode cX12_isChange 55 = .ok (.iinc 4 1, 3) := by decide +kernel
theorem dX12_isChange_58 : decode cX12_isChange 58 = .ok (.goto (-51), 3) := by decide +kernel
theorem dX12_isChange_61 : decode cX12_isChange 61 = .ok (.iload_n 3, 1) := by decide +kernel
theorem dX12_isChange_62 : decode cX12_isChange 62 = .ok (.ifCond .eq 13, 3) := by decide +kernel
theorem dX12_isChange_65 : decode cX12_isChange 65 = .ok (.iload_n 2, 1) := by decide +kernel
theorem dX12_isChange_66 : decode cX12_isChange 66 = .ok (.iconst 2, 1) := by decide +kernel
theorem dX12_isChange_67 : decode cX12_isChange 67 = .ok (.irem, 1) := by decide +kernel
theorem dX12_isChange_68 : decode cX12_isChange 68 = .ok (.ifCond .ne 7, 3) := by decide +kernel
theorem dX12_isChange_71 : decode cX12_isChange 71 = .ok (.iconst 1, 1) := by decide +kernel
theorem dX12_isChange_72 : decode cX12_isChange 72 = .ok (.goto 4, 3) := by decide +kernel
theorem dX12_isChange_75 : decode cX12_isChange 75 = .ok (.iconst 0, 1) := by decide +kernel
theorem dX12_isChange_76 : decode cX12_isChange 76 = .ok (.ireturn, 1) := by decide +kernel
theorem dX12_isHead_0 : decode cX12_isHead 0 = .ok (.iconst 1, 1) := by decide +kernel
theorem dX12_isHead_1 : decode cX12_isHead 1 = .ok (.istore_n 1, 1) := by decide +kernel
theorem dX12_isHead_2 : decode cX12_isHead 2 = .ok (.iload_n 1, 1) := by decide +kernel
theorem dX12_isHead_3 : decode cX12_isHead 3 = .ok (.ifCond .eq 75, 3) := by decide +kernel
theorem dX12_isHead_6 : decode cX12_isHead 6 = .ok (.aload_n 0, 1) := by decide +kernel
theorem dX12_isHead_7 : decode cX12_isHead 7 = .ok (.getfield 116, 3) := by decide +kernel
theorem dX12_isHead_10 : decode cX12_isHead 10 = .ok (.bipush 6, 2) := by decide +kernel
theorem dX12_isHead_12 : decode cX12_isHead 12 = .ok (.if_icmp .ne 9, 3) := by decide +kernel
theorem dX12_isHead_15 : decode cX12_isHead 15 = .ok (.aload_n 0, 1) := by decide +kernel
theorem dX12_isHead_16 : decode cX12_isHead 16 = .ok (.iconst 1, 1) := by decide +kernel
theorem dX12_isHead_17 : decode cX12_isHead 17 = .ok (.invokevirtual 108, 3) := by decide +kernel
theorem dX12_isHead_20 : decode cX12_isHead 20 = .ok (.ireturn, 1) := by decide +kernel
theorem dX12_isHead_21 : decode cX12_isHead 21 = .ok (.aload_n 0, 1) := by decide +kernel
theorem dX12_isHead_22 : decode cX12_isHead 22 = .ok (.iconst 1, 1) := by decide +kernel
theorem dX12_isHead_23 : decode cX12_isHead 23 = .ok (.bipush 20, 2) := by decide +kernel
theorem dX12_isHead_25 : decode cX12_isHead 25 = .ok (.invokevirtual 119, 3) := by decide +kernel
theorem dX12_isHead_28 : decode cX12_isHead 28 = .ok (.ifCond .ne 5, 3) := by decide +kernel
theorem dX12_isHead_31 : decode cX12_isHead 31 = .ok (.iconst 0, 1) := by decide +kernel
theorem dX12_isHead_32 : decode cX12_isHead 32 = .ok (.ireturn, 1) := by decide +kernel
theorem dX12_isHead_33 : decode cX12_isHead 33 = .ok (.aload_n 0, 1) := by decide +kernel
theorem dX12_isHead_34 : decode cX12_isHead 34 = .ok (.getfield 17, 3) := by decide +kernel
theorem dX12_isHead_37 : decode cX12_isHead 37 = .ok (.aload_n 0, 1) := by decide +kernel
theorem dX12_isHead_38 : decode cX12_isHead 38 = .ok (.getfield 116, 3) := by decide +kernel
theorem dX12_isHead_41 : decode cX12_isHead 41 = .ok (.aload_n 0, 1) := by decide +kernel
theorem dX12_isHead_42 : decode cX12_isHead 42 = .ok (.getfield 93, 3) := by decide +kernel
theorem dX12_isHead_45 : decode cX12_isHead 45 = .ok (.iastore, 1) := by decide +kernel
theorem dX12_isHead_46 : decode cX12_isHead 46 = .ok (.aload_n 0, 1) := by decide +kernel
theorem dX12_isHead_47 : decode cX12_isHead 47 = .ok (.dup, 1) := by decide +kernel
theorem dX12_isHead_48 : decode cX12_isHead 48 = .ok (.getfield 116, 3) := by decide +kernel
theorem dX12_isHead_51 : decode cX12_isHead 51 = .ok (.iconst 1, 1) := by decide +kernel
theorem dX12_isHead_52 : decode cX12_isHead 52 = .ok (.iadd, 1) := by decide +kernel
theorem dX12_isHead_53 : decode cX12_isHead 53 = .ok (.putfield 116, 3) := by decide +kernel
theorem dX12_isHead_56 : decode cX12_isHead 56 = .ok (.aload_n 0, 1) := by decide +kernel
theorem dX12_isHead_57 : decode cX12_isHead 57 = .ok (.invokevirtual 105, 3) := by decide +kernel
theorem dX12_isHead_60 : decode cX12_isHead 60 = .ok (.aload_n 0, 1) := by decide +kernel
theorem dX12_isHead_61 : decode cX12_isHead 61 = .ok (.getfield 99, 3) := by decide +kernel
theorem dX12_isHead_64 : decode cX12_isHead 64 = .ok (.bipush 44, 2) := by decide +kernel
theorem dX12_isHead_66 : decode cX12_isHead 66 = .ok (.if_icmp .ne 7, 3) := by decide +kernel
theorem dX12_isHead_69 : decode cX12_isHead 69 = .ok (.iconst 1, 1) := by decide +kernel
theorem dX12_isHead_70 : decode cX12_isHead 70 = .ok (.goto 4, 3) := by decide +kernel
theorem dX12_isHead_73 : decode cX12_isHead 73 = .ok (.iconst 0, 1) := by decide +kernel
theorem dX12_isHead_74 : decode cX12_isHead 74 = .ok (.istore_n 1, 1) := by decide +kernel
theorem dX12_isHead_75 : decode cX12_isHead 75 = .ok (.goto (-73), 3) := by decide +kernel
theorem dX12_isHead_78 : decode cX12_isHead 78 = .ok (.aload_n 0, 1) := by decide +kernel
theorem dX12_isHead_79 : decode cX12_isHead 79 = .ok (.getfield 99, 3) := by decide +kernel
theorem dX12_isHead_82 : decode cX12_isHead 82 = .ok (.bipush 59, 2) := by decide +kernel
theorem dX12_isHead_84 : decode cX12_isHead 84 = .ok (.if_icmp .ne 11, 3) := by decide +kernel
theorem dX12_isHead_87 : decode cX12_isHead 87 = .ok (.aload_n 0, 1) := by decide +kernel
theorem dX12_isHead_88 : decode cX12_isHead 88 = .ok (.getfield 116, 3) := by decide +kernel
theorem dX12_isHead_91 : decode cX12_isHead 91 = .ok (.iconst 2, 1) := by decide +kernel
theorem dX12_isHead_92 : decode cX12_isHead 92 = .ok (.if_icmp .gt 11, 3) := by decide +kernel
theorem dX12_isHead_95 : decode cX12_isHead 95 = .ok (.aload_n 0, 1) := by decide +kernel
theorem dX12_isHead_96 : decode cX12_isHead 96 = .ok (.iconst 1, 1) := by decide +kernel
theorem dX12_isHead_97 : decode cX12_isHead 97 = .ok (.invokevirtual 108, 3) := by decide +kernel
theorem dX12_isHead_100 : decode cX12_isHead 100 = .ok (.ifCond .eq 7, 3) := by decide +kernel
theorem dX12_isHead_103 : decode cX12_isHead 103 = .ok (.iconst 1, 1) := by decide +kernel
theorem dX12_isHead_104 : decode cX12_isHead 104 = .ok (.goto 4, 3) := by decide +kernel
theorem dX12_isHead_107 : decode cX12_isHead 107 = .ok (.iconst 0, 1) := by decide +kernel
theorem dX12_isHead_108 : decode cX12_isHead 108 = .ok (.ireturn, 1) := by decide +kernel
theorem dX12_isPart_0 : decode cX12_isPart 0 = .ok (.aload_n 0, 1) := by decide +kernel
theorem dX12_isPart_1 : decode cX12_isPart 1 = .ok (.iconst 0, 1) := by decide +kernel
theorem dX12_isPart_2 : decode cX12_isPart 2 = .ok (.iconst 1, 1) := by decide +kernel
theorem dX12_isPart_3 : decode cX12_isPart 3 = .ok (.aload_n 0, 1) := by decide +kernel
theorem dX12_isPart_4 : decode cX12_isPart 4 = .ok (.getfield 116, 3) := by decide +kernel
theorem dX12_isPart_7 : decode cX12_isPart 7 = .ok (.ishl, 1) := by decide +kernel
theorem dX12_isPart_8 : decode cX12_isPart 8 = .ok (.iconst 1, 1) := by decide +kernel
theorem dX12_isPart_9 : decode cX12_isPart 9 = .ok (.isub, 1) := by decide +kernel
theorem dX12_isPart_10 : decode cX12_isPart 10 = .ok (.invokevirtual 119, 3) := by decide +kernel
theorem dX12_isPart_13 : decode cX12_isPart 13 = .ok (.ifCond .ne 5, 3) := by decide +kernel
theorem dX12_isPart_16 : decode cX12_isPart 16 = .ok (.iconst 0, 1) := by decide +kernel
theorem dX12_isPart_17 : decode cX12_isPart 17 = .ok (.ireturn, 1) := by decide +kernel
theorem dX12_isPart_18 : decode cX12_isPart 18 = .ok (.aload_n 0, 1) := by decide +kernel
theorem dX12_isPart_19 : decode cX12_isPart 19 = .ok (.getfield 93, 3) := by decide +kernel
theorem dX12_isPart_22 : decode cX12_isPart 22 = .ok (.aload_n 0, 1) := by decide +kernel
theorem dX12_isPart_23 : decode cX12_isPart 23 = .ok (.getfield 116, 3) := by decide +kernel
theorem dX12_isPart_26 : decode cX12_isPart 26 = .ok (.invokestatic 122, 3) := by decide +kernel
theorem dX12_isPart_29 : decode cX12_isPart 29 = .ok (.ifCond .ne 11, 3) := by decide +kernel
theorem dX12_isPart_32 : decode cX12_isPart 32 = .ok (.aload_n 0, 1) := by decide +kernel
theorem dX12_isPart_33 : decode cX12_isPart 33 = .ok (.iconst 4, 1) := by decide +kernel
theorem dX12_isPart_34 : decode cX12_isPart 34 = .ok (.invokevirtual 108, 3) := by decide +kernel
theorem dX12_isPart_37 : decode cX12_isPart 37 = .ok (.ifCond .eq 7, 3) := by decide +kernel
theorem dX12_isPart_40 : decode cX12_isPart 40 = .ok (.iconst 1, 1) := by decide +kernel
theorem dX12_isPart_41 : decode cX12_isPart 41 = .ok (.goto 4, 3) := by decide +kernel
theorem dX12_isPart_44 : decode cX12_isPart 44 = .ok (.iconst 0, 1) := by decide +kernel
theorem dX12_isPart_45 : decode cX12_isPart 45 = .ok (.ireturn, 1) := by decide +kernel
theorem dX12_isMethod_0 : decode cX12_isMethod 0 = .ok (.aload_n 0, 1) := by decide +kernel
theorem dX12_isMethod_1 : decode cX12_isMethod 1 = .ok (.getfield 125, 3) := by decide +kernel
theorem dX12_isMethod_4 : decode cX12_isMethod 4 = .ok (.ifCond .le 9, 3) := by decide +kernel
theorem dX12_isMethod_7 : decode cX12_isMethod 7 = .ok (.aload_n 0, 1) := by decide +kernel
theorem dX12_isMethod_8 : decode cX12_isMethod 8 = .ok (.iconst 3, 1) := by decide +kernel
theorem dX12_isMethod_9 : decode cX12_isMethod 9 = .ok (.invokevirtual 108, 3) := by decide +kernel
theorem dX12_isMethod_12 : decode cX12_isMethod 12 = .ok (.ireturn, 1) := by decide +kernel
theorem dX12_isMethod_13 : decode cX12_isMethod 13 = .ok (.iconst 1, 1) := by decide +kernel
theorem dX12_isMethod_14 : decode cX12_isMethod 14 = .ok (.istore_n 1, 1) := by decide +kernel
theorem dX12_isMethod_15 : decode cX12_isMethod 15 = .ok (.iload_n 1, 1) := by decide +kernel
theorem dX12_isMethod_16 : decode cX12_isMethod 16 = .ok (.ifCond .eq 72, 3) := by decide +kernel
theorem dX12_isMethod_19 : decode cX12_isMethod 19 = .ok (.aload_n 0, 1) := by decide +kernel
theorem dX12_isMethod_20 : decode cX12_isMethod 20 = .ok (.getfield 125, 3) := by decide +kernel
theorem dX12_isMethod_23 : decode cX12_isMethod 23 = .ok (.bipush 12, 2) := by decide +kernel
theorem dX12_isMethod_25 : decode cX12_isMethod 25 = .ok (.if_icmp .ne 9, 3) := by decide +kernel
theorem dX12_isMethod_28 : decode cX12_isMethod 28 = .ok (.aload_n 0, 1) := by decide +kernel
theorem dX12_isMethod_29 : decode cX12_isMethod 29 = .ok (.iconst 1, 1) := by decide +kernel
theorem dX12_isMethod_30 : decode cX12_isMethod 30 = .ok (.invokevirtual 108, 3) := by decide +kernel
theorem dX12_isMethod_33 : decode cX12_isMethod 33 = .ok (.ireturn, 1) := by decide +kernel
theorem dX12_isMethod_34 : decode cX12_isMethod 34 = .ok (.aload_n 0, 1) := by decide +kernel
theorem dX12_isMethod_35 : decode cX12_isMethod 35 = .ok (.invokevirtual 128, 3) := by decide +kernel
theorem dX12_isMethod_38 : decode cX12_isMethod 38 = .ok (.ifCond .ne 5, 3) := by decide +kernel
theorem dX12_isMethod_41 : decode cX12_isMethod 41 = .ok (.iconst 0, 1) := by decide +kernel
theorem dX12_isMethod_42 : decode cX12_isMethod 42 = .ok (.ireturn, 1) := by decide +kernel
theorem dX12_isMethod_43 : decode cX12_isMethod 43 = .ok (.aload_n 0, 1) := by decide +kernel
theorem dX12_isMethod_44 : decode cX12_isMethod 44 = .ok (.getfield 20, 3) := by decide +kernel
theorem dX12_isMethod_47 : decode cX12_isMethod 47 = .ok (.aload_n 0, 1) := by decide +kernel
theorem dX12_isMethod_48 : decode cX12_isMethod 48 = .ok (.getfield 125, 3) := by decide +kernel
theorem dX12_isMethod_51 : decode cX12_isMethod 51 = .ok (.aload_n 0, 1) := by decide +kernel
theorem dX12_isMethod_52 : decode cX12_isMethod 52 = .ok (.getfield 93, 3) := by decide +kernel
theorem dX12_isMethod_55 : decode cX12_isMethod 55 = .ok (.iastore, 1) := by decide +kernel
theorem dX12_isMethod_56 : decode cX12_isMethod 56 = .ok (.aload_n 0, 1) := by decide +kernel
theorem dX12_isMethod_57 : decode cX12_isMethod 57 = .ok (.dup, 1) := by decide +kernel
theorem dX12_isMethod_58 : decode cX12_isMethod 58 = .ok (.getfield 125, 3) := by decide +kernel
theorem dX12_isMethod_61 : decode cX12_isMethod 61 = .ok (.iconst 1, 1) := by decide +kernel
theorem dX12_isMethod_62 : decode cX12_isMethod 62 = .ok (.iadd, 1) := by decide +kernel
theorem dX12_isMethod_63 : decode cX12_isMethod 63 = .ok (.putfield 125, 3) := by decide +kernel
theorem dX12_isMethod_66 : decode cX12_isMethod 66 = .ok (.aload_n 0, 1) := by decide +kernel
theorem dX12_isMethod_67 : decode cX12_isMethod 67 = .ok (.invokevirtual 105, 3) := by decide +kernel
theorem dX12_isMethod_70 : decode cX12_isMethod 70 = .ok (.aload_n 0, 1) := by decide +kernel
theorem dX12_isMethod_71 : decode cX12_isMethod 71 = .ok (.getfield 99, 3) := by decide +kernel
theorem dX12_isMethod_74 : decode cX12_isMethod 74 = .ok (.bipush 44, 2) := by decide +kernel
theorem dX12_isMethod_76 : decode cX12_isMethod 76 = .ok (.if_icmp .ne 7, 3) := by decide +kernel
theorem dX12_isMethod_79 : decode cX12_isMethod 79 = .ok (.iconst 1, 1) := by decide +kernel
theorem dX12_isMethod_80 : decode cX12_isMethod 80 = .ok (.goto 4, 3) := by decide +kernel
theorem dX12_isMethod_83 : decode cX12_isMethod 83 = .ok (.iconst 0, 1) := by decide +kernel
theorem dX12_isMethod_84 : decode cX12_isMethod 84 = .ok (.istore_n 1, 1) := by decide +kernel
theorem dX12_isMethod_85 : decode cX12_isMethod 85 = .ok (.goto (-70), 3) := by decide +kernel
theorem dX12_isMethod_88 : decode cX12_isMethod 88 = .ok (.aload_n 0, 1) := by decide +kernel
theorem dX12_isMethod_89 : decode cX12_isMethod 89 = .ok (.getfield 99, 3) := by decide +kernel
theorem dX12_isMethod_92 : decode cX12_isMethod 92 = .ok (.bipush 59, 2) := by decide +kernel
theorem dX12_isMethod_94 : decode cX12_isMethod 94 = .ok (.if_icmp .eq 11, 3) := by decide +kernel
theorem dX12_isMethod_97 : decode cX12_isMethod 97 = .ok (.aload_n 0, 1) := by decide +kernel
theorem dX12_isMethod_98 : decode cX12_isMethod 98 = .ok (.iconst 1, 1) := by decide +kernel
theorem dX12_isMethod_99 : decode cX12_isMethod 99 = .ok (.invokevirtual 108, 3) := by decide +kernel
theorem dX12_isMethod_102 : decode cX12_isMethod 102 = .ok (.ifCond .eq 7, 3) := by decide +kernel
theorem dX12_isMethod_105 : decode cX12_isMethod 105 = .ok (.iconst 1, 1) := by decide +kernel
theorem dX12_isMethod_106 : decode cX12_isMethod 106 = .ok (.goto 4, 3) := by decide +kernel
theorem dX12_isMethod_109 : decode cX12_isMethod 109 = .ok (.iconst 0, 1) := by decide +kernel
theorem dX12_isMethod_110 : decode cX12_isMethod 110 = .ok (.ireturn, 1) := by decide +kernel
theorem dX12_isSuitorItem_0 : decode cX12_isSuitorItem 0 = .ok (.aload_n 0, 1) := by decide +kernel
theorem dX12_isSuitorItem_1 : decode cX12_isSuitorItem 1 = .ok (.getfield 132, 3) := by decide +kernel
theorem dX12_isSuitorItem_4 : decode cX12_isSuitorItem 4 = .ok (.aload_n 0, 1) := by decide +kernel
theorem dX12_isSuitorItem_5 : decode cX12_isSuitorItem 5 = .ok (.getfield 116, 3) := by decide +kernel
theorem dX12_isSuitorItem_8 : decode cX12_isSuitorItem 8 = .ok (.if_icmp .ne 9, 3) := by decide +kernel
theorem dX12_isSuitorItem_11 : decode cX12_isSuitorItem 11 = .ok (.aload_n 0, 1) := by decide +kernel
theorem dX12_isSuitorItem_12 : decode cX12_isSuitorItem 12 = .ok (.iconst 3, 1) := by decide +kernel
theorem dX12_isSuitorItem_13 : decode cX12_isSuitorItem 13 = .ok (.invokevirtual 108, 3) := by decide +kernel
theorem dX12_isSuitorItem_16 : decode cX12_isSuitorItem 16 = .ok (.ireturn, 1) := by decide +kernel
theorem dX12_isSuitorItem_17 : decode cX12_isSuitorItem 17 = .ok (.aload_n 0, 1) := by decide +kernel
theorem dX12_isSuitorItem_18 : decode cX12_isSuitorItem 18 = .ok (.iconst 1, 1) := by decide +kernel
theorem dX12_isSuitorItem_19 : decode cX12_isSuitorItem 19 = .ok (.bipush 20, 2) := by decide +kernel
theorem dX12_isSuitorItem_21 : decode cX12_isSuitorItem 21 = .ok (.invokevirtual 119, 3) := by decide +kernel
theorem dX12_isSuitorItem_24 : decode cX12_isSuitorItem 24 = .ok (.ifCond .ne 5, 3) := by decide +kernel
theorem dX12_isSuitorItem_27 : decode cX12_isSuitorItem 27 = .ok (.iconst 0, 1) := by decide +kernel
theorem dX12_isSuitorItem_28 : decode cX12_isSuitorItem 28 = .ok (.ireturn, 1) := by decide +kernel
theorem dX12_isSuitorItem_29 : decode cX12_isSuitorItem 29 = .ok (.aload_n 0, 1) := by decide +kernel
theorem dX12_isSuitorItem_30 : decode cX12_isSuitorItem 30 = .ok (.getfield 23, 3) := by decide +kernel
theorem dX12_isSuitorItem_33 : decode cX12_isSuitorItem 33 = .ok (.aload_n 0, 1) := by decide +kernel
theorem dX12_isSuitorItem_34 : decode cX12_isSuitorItem 34 = .ok (.getfield 132, 3) := by decide +kernel
theorem dX12_isSuitorItem_37 : decode cX12_isSuitorItem 37 = .ok (.aload_n 0, 1) := by decide +kernel
theorem dX12_isSuitorItem_38 : decode cX12_isSuitorItem 38 = .ok (.getfield 93, 3) := by decide +kernel
theorem dX12_isSuitorItem_41 : decode cX12_isSuitorItem 41 = .ok (.iastore, 1) := by decide +kernel
theorem dX12_isSuitorItem_42 : decode cX12_isSuitorItem 42 = .ok (.aload_n 0, 1) := by decide +kernel
theorem dX12_isSuitorItem_43 : decode cX12_isSuitorItem 43 = .ok (.dup, 1) := by decide +kernel
theorem dX12_isSuitorItem_44 : decode cX12_isSuitorItem 44 = .ok (.getfield 132, 3) := by decide +kernel
theorem dX12_isSuitorItem_47 : decode cX12_isSuitorItem 47 = .ok (.iconst 1, 1) := by decide +kernel
theorem dX12_isSuitorItem_48 : decode cX12_isSuitorItem 48 = .ok (.iadd, 1) := by decide +kernel
theorem dX12_isSuitorItem_49 : decode cX12_isSuitorItem 49 = .ok (.putfield 132, 3) := by decide +kernel
theorem dX12_isSuitorItem_52 : decode cX12_isSuitorItem 52 = .ok (.aload_n 0, 1) := by decide +kernel
theorem dX12_isSuitorItem_53 : decode cX12_isSuitorItem 53 = .ok (.invokevirtual 135, 3) := by decide +kernel
theorem dX12_isSuitorItem_56 : decode cX12_isSuitorItem 56 = .ok (.ireturn, 1) := by decide +kernel
theorem dX12_isCall_0 : decode cX12_isCall 0 = .ok (.aload_n 0, 1) := by decide +kernel
theorem dX12_isCall_1 : decode cX12_isCall 1 = .ok (.getfield 138, 3) := by decide +kernel
theorem dX12_isCall_4 : decode cX12_isCall 4 = .ok (.ifCond .lt 9, 3) := by decide +kernel
theorem dX12_isCall_7 : decode cX12_isCall 7 = .ok (.aload_n 0, 1) := by decide +kernel
theorem dX12_isCall_8 : decode cX12_isCall 8 = .ok (.iconst 3, 1) := by decide +kernel
theorem dX12_isCall_9 : decode cX12_isCall 9 = .ok (.invokevirtual 108, 3) := by decide +kernel
theorem dX12_isCall_12 : decode cX12_isCall 12 = .ok (.ireturn, 1) := by decide +kernel
theorem dX12_isCall_13 : decode cX12_isCall 13 = .ok (.aload_n 0, 1) := by decide +kernel
theorem dX12_isCall_14 : decode cX12_isCall 14 = .ok (.invokevirtual 128, 3) := by decide +kernel
theorem dX12_isCall_17 : decode cX12_isCall 17 = .ok (.ifCond .ne 5, 3) := by decide +kernel
theorem dX12_isCall_20 : decode cX12_isCall 20 = .ok (.iconst 0, 1) := by decide +kernel
theorem dX12_isCall_21 : decode cX12_isCall 21 = .ok (.ireturn, 1) := by decide +kernel
theorem dX12_isCall_22 : decode cX12_isCall 22 = .ok (.aload_n 0, 1) := by decide +kernel
theorem dX12_isCall_23 : decode cX12_isCall 23 = .ok (.aload_n 0, 1) := by decide +kernel
theorem dX12_isCall_24 : decode cX12_isCall 24 = .ok (.getfield 93, 3) := by decide +kernel
theorem dX12_isCall_27 : decode cX12_isCall 27 = .ok (.putfield 138, 3) := by decide +kernel
theorem dX12_isCall_30 : decode cX12_isCall 30 = .ok (.aload_n 0, 1) := by decide +kernel
theorem dX12_isCall_31 : decode cX12_isCall 31 = .ok (.invokevirtual 135, 3) := by decide +kernel
theorem dX12_isCall_34 : decode cX12_isCall 34 = .ok (.ireturn, 1) := by decide +kernel
theorem dX12_isClause_0 : decode cX12_isClause 0 = .ok (.aload_n 0, 1) := by decide +kernel
theorem dX12_isClause_1 : decode cX12_isClause 1 = .ok (.getfield 99, 3) := by decide +kernel
theorem dX12_isClause_4 : decode cX12_isClause 4 = .ok (.bipush 98, 2) := by decide +kernel
theorem dX12_isClause_6 : decode cX12_isClause 6 = .ok (.if_icmp .ne 23, 3) := by decide +kernel
theorem dX12_isClause_9 : decode cX12_isClause 9 = .ok (.aload_n 0, 1) := by decide +kernel
theorem dX12_isClause_10 : decode cX12_isClause 10 = .ok (.getfield 116, 3) := by decide +kernel
theorem dX12_isClause_13 : decode cX12_isClause 13 = .ok (.ifCond .le 11, 3) := by decide +kernel
theorem dX12_isClause_16 : decode cX12_isClause 16 = .ok (.aload_n 0, 1) := by decide +kernel
theorem dX12_isClause_17 : decode cX12_isClause 17 = .ok (.iconst 3, 1) := by decide +kernel
theorem dX12_isClause_18 : decode cX12_isClause 18 = .ok (.invokevirtual 108, 3) := by decide +kernel
theorem dX12_isClause_21 : decode cX12_isClause 21 = .ok (.goto 7, 3) := by decide +kernel
theorem dX12_isClause_24 : decode cX12_isClause 24 = .ok (.aload_n 0, 1) := by decide +kernel
theorem dX12_isClause_25 : decode cX12_isClause 25 = .ok (.invokevirtual 141, 3) := by decide +kernel
theorem dX12_isClause_28 : decode cX12_isClause 28 = .ok (.ireturn, 1) := by decide +kernel
theorem dX12_isClause_29 : decode cX12_isClause 29 = .ok (.aload_n 0, 1) := by decide +kernel
theorem dX12_isClause_30 : decode cX12_isClause 30 = .ok (.getfield 116, 3) := by decide +kernel
theorem dX12_isClause_33 : decode cX12_isClause 33 = .ok (.ifCond .ne 9, 3) := by decide +kernel
theorem dX12_isClause_36 : decode cX12_isClause 36 = .ok (.aload_n 0, 1) := by decide +kernel
theorem dX12_isClause_37 : decode cX12_isClause 37 = .ok (.iconst 1, 1) := by decide +kernel
theorem dX12_isClause_38 : decode cX12_isClause 38 = .ok (.invokevirtual 108, 3) := by decide +kernel
theorem dX12_isClause_41 : decode cX12_isClause 41 = .ok (.ireturn, 1) := by decide +kernel
theorem dX12_isClause_42 : decode cX12_isClause 42 = .ok (.aload_n 0, 1) := by decide +kernel
theorem dX12_isClause_43 : decode cX12_isClause 43 = .ok (.getfield 99, 3) := by decide +kernel
theorem dX12_isClause_46 : decode cX12_isClause 46 = .ok (.bipush 109, 2) := by decide +kernel
theorem dX12_isClause_48 : decode cX12_isClause 48 = .ok (.if_icmp .ne 10, 3) := by decide +kernel
theorem dX12_isClause_51 : decode cX12_isClause 51 = .ok (.aload_n 0, 1) := by decide +kernel
theorem dX12_isClause_52 : decode cX12_isClause 52 = .ok (.invokevirtual 144, 3) := by decide +kernel
theorem dX12_isClause_55 : decode cX12_isClause 55 = .ok (.goto 40, 3) := by decide +kernel
theorem dX12_isClause_58 : decode cX12_isClause 58 = .ok (.aload_n 0, 1) := by decide +kernel
theorem dX12_isClause_59 : decode cX12_isClause 59 = .ok (.getfield 99, 3) := by decide +kernel
theorem dX12_isClause_62 : decode cX12_isClause 62 = .ok (.bipush 114, 2) := by decide +kernel
theorem dX12_isClause_64 : decode cX12_isClause 64 = .ok (.if_icmp .ne 10, 3) := by decide +kernel
theorem dX12_isClause_67 : decode cX12_isClause 67 = .ok (.aload_n 0, 1) := by decide +kernel
theorem dX12_isClause_68 : decode cX12_isClause 68 = .ok (.invokevirtual 147, 3) := by decide +kernel
theorem dX12_isClause_71 : decode cX12_isClause 71 = .ok (.goto 24, 3) := by decide +kernel
theorem dX12_isClause_74 : decode cX12_isClause 74 = .ok (.aload_n 0, 1) := by decide +kernel
theorem dX12_isClause_75 : decode cX12_isClause 75 = .ok (.getfield 99, 3) := by decide +kernel
theorem dX12_isClause_78 : decode cX12_isClause 78 = .ok (.bipush 99, 2) := by decide +kernel
theorem dX12_isClause_80 : decode cX12_isClause 80 = .ok (.if_icmp .ne 10, 3) := by decide +kernel
theorem dX12_isClause_83 : decode cX12_isClause 83 = .ok (.aload_n 0, 1) := by decide +kernel
theorem dX12_isClause_84 : decode cX12_isClause 84 = .ok (.invokevirtual 150, 3) := by decide +kernel
theorem dX12_isClause_87 : decode cX12_isClause 87 = .ok (.goto 8, 3) := by decide +kernel
theorem dX12_isClause_90 : decode cX12_isClause 90 = .ok (.aload_n 0, 1) := by decide +kernel
theorem dX12_isClause_91 : decode cX12_isClause 91 = .ok (.iconst 1, 1) := by decide +kernel
theorem dX12_isClause_92 : decode cX12_isClause 92 = .ok (.invokevirtual 108, 3) := by decide +kernel
theorem dX12_isClause_95 : decode cX12_isClause 95 = .ok (.ireturn, 1) := by decide +kernel
theorem dX12_isRead_0 : decode cX12_isRead 0 = .ok (.aload_n 0, 1) := by decide +kernel
theorem dX12_isRead_1 : decode cX12_isRead 1 = .ok (.iconst 0, 1) := by decide +kernel
theorem dX12_isRead_2 : decode cX12_isRead 2 = .ok (.putfield 87, 3) := by decide +kernel
theorem dX12_isRead_5 : decode cX12_isRead 5 = .ok (.aload_n 0, 1) := by decide +kernel
theorem dX12_isRead_6 : decode cX12_isRead 6 = .ok (.iconst 0, 1) := by decide +kernel
theorem dX12_isRead_7 : decode cX12_isRead 7 = .ok (.putfield 116, 3) := by decide +kernel
theorem dX12_isRead_10 : decode cX12_isRead 10 = .ok (.aload_n 0, 1) := by decide +kernel
theorem dX12_isRead_11 : decode cX12_isRead 11 = .ok (.iconst 0, 1) := by decide +kernel
theorem dX12_isRead_12 : decode cX12_isRead 12 = .ok (.putfield 125, 3) := by decide +kernel
theorem dX12_isRead_15 : decode cX12_isRead 15 = .ok (.aload_n 0, 1) := by decide +kernel
theorem dX12_isRead_16 : decode cX12_isRead 16 = .ok (.iconst 0, 1) := by decide +kernel
theorem dX12_isRead_17 : decode cX12_isRead 17 = .ok (.putfield 132, 3) := by decide +kernel
theorem dX12_isRead_20 : decode cX12_isRead 20 = .ok (.aload_n 0, 1) := by decide +kernel
theorem dX12_isRead_21 : decode cX12_isRead 21 = .ok (.iconst (-1), 1) := by decide +kernel
theorem dX12_isRead_22 : decode cX12_isRead 22 = .ok (.putfield 138, 3) := by decide +kernel
theorem dX12_isRead_25 : decode cX12_isRead 25 = .ok (.aload_n 0, 1) := by decide +kernel
theorem dX12_isRead_26 : decode cX12_isRead 26 = .ok (.invokevirtual 105, 3) := by decide +kernel
theorem dX12_isRead_29 : decode cX12_isRead 29 = .ok (.aload_n 0, 1) := by decide +kernel
theorem dX12_isRead_30 : decode cX12_isRead 30 = .ok (.getfield 99, 3) := by decide +kernel
theorem dX12_isRead_33 : decode cX12_isRead 33 = .ok (.bipush (-2), 2) := by decide +kernel
theorem dX12_isRead_35 : decode cX12_isRead 35 = .ok (.if_icmp .eq 19, 3) := by decide +kernel
theorem dX12_isRead_38 : decode cX12_isRead 38 = .ok (.aload_n 0, 1) := by decide +kernel
theorem dX12_isRead_39 : decode cX12_isRead 39 = .ok (.invokevirtual 153, 3) := by decide +kernel
theorem dX12_isRead_42 : decode cX12_isRead 42 = .ok (.ifCond .ne 5, 3) := by decide +kernel
theorem dX12_isRead_45 : decode cX12_isRead 45 = .ok (.iconst 0, 1) := by decide +kernel
theorem dX12_isRead_46 : decode cX12_isRead 46 = .ok (.ireturn, 1) := by decide +kernel
theorem dX12_isRead_47 : decode cX12_isRead 47 = .ok (.aload_n 0, 1) := by decide +kernel
theorem dX12_isRead_48 : decode cX12_isRead 48 = .ok (.invokevirtual 105, 3) := by decide +kernel
theorem dX12_isRead_51 : decode cX12_isRead 51 = .ok (.goto (-22), 3) := by decide +kernel
theorem dX12_isRead_54 : decode cX12_isRead 54 = .ok (.iconst 1, 1) := by decide +kernel
theorem dX12_isRead_55 : decode cX12_isRead 55 = .ok (.ireturn, 1) := by decide +kernel
theorem dX12_bring_0 : decode cX12_bring 0 = .ok (.iconst 0, 1) := by decide +kernel
theorem dX12_bring_1 : decode cX12_bring 1 = .ok (.istore 5, 2) := by decide +kernel
theorem dX12_bring_3 : decode cX12_bring 3 = .ok (.iload 5, 2) := by decide +kernel
theorem dX12_bring_5 : decode cX12_bring 5 = .ok (.iload 4, 2) := by decide +kernel
theorem dX12_bring_7 : decode cX12_bring 7 = .ok (.if_icmp .ge 21, 3) := by decide +kernel
theorem dX12_bring_10 : decode cX12_bring 10 = .ok (.aload_n 2, 1) := by decide +kernel
theorem dX12_bring_11 : decode cX12_bring 11 = .ok (.iload_n 3, 1) := by decide +kernel
theorem dX12_bring_12 : decode cX12_bring 12 = .ok (.iload 5, 2) := by decide +kernel
theorem dX12_bring_14 : decode cX12_bring 14 = .ok (.iadd, 1) := by decide +kernel
theorem dX12_bring_15 : decode cX12_bring 15 = .ok (.aload_n 0, 1) := by decide +kernel
theorem dX12_bring_16 : decode cX12_bring 16 = .ok (.iload_n 1, 1) := by decide +kernel
theorem dX12_bring_17 : decode cX12_bring 17 = .ok (.iload 5, 2) := by decide +kernel
theorem dX12_bring_19 : decode cX12_bring 19 = .ok (.iadd, 1) := by decide +kernel
theorem dX12_bring_20 : decode cX12_bring 20 = .ok (.iaload, 1) := by decide +kernel
theorem dX12_bring_21 : decode cX12_bring 21 = .ok (.iastore, 1) := by decide +kernel
theorem dX12_bring_22 : decode cX12_bring 22 = .ok (.iinc 5 1, 3) := by decide +kernel
theorem dX12_bring_25 : decode cX12_bring 25 = .ok (.goto (-22), 3) := by decide +kernel
theorem dX12_bring_28 : decode cX12_bring 28 = .ok (.return_, 1) := by decide +kernel
theorem dX12_toRounds_0 : decode cX12_toRounds 0 = .ok (.iconst 0, 1) := by decide +kernel
theorem dX12_toRounds_1 : decode cX12_toRounds 1 = .ok (.istore_n 1, 1) := by decide +kernel
theorem dX12_toRounds_2 : decode cX12_toRounds 2 = .ok (.iload_n 1, 1) := by decide +kernel
theorem dX12_toRounds_3 : decode cX12_toRounds 3 = .ok (.bipush 6, 2) := by decide +kernel
theorem dX12_toRounds_5 : decode cX12_toRounds 5 = .ok (.if_icmp .ge 15, 3) := by decide +kernel
theorem dX12_toRounds_8 : decode cX12_toRounds 8 = .ok (.aload_n 0, 1) := by decide +kernel
theorem dX12_toRounds_9 : decode cX12_toRounds 9 = .ok (.iconst 5, 1) := by decide +kernel
theorem dX12_toRounds_10 : decode cX12_toRounds 10 = .ok (.iload_n 1, 1) := by decide +kernel
theorem dX12_toRounds_11 : decode cX12_toRounds 11 = .ok (.iadd, 1) := by decide +kernel
theorem dX12_toRounds_12 : decode cX12_toRounds 12 = .ok (.iload_n 1, 1) := by decide +kernel
theorem dX12_toRounds_13 : decode cX12_toRounds 13 = .ok (.iastore, 1) := by decide +kernel
theorem dX12_toRounds_14 : decode cX12_toRounds 14 = .ok (.iinc 1 1, 3) := by decide +kernel
theorem dX12_toRounds_17 : decode cX12_toRounds 17 = .ok (.goto (-15), 3) := by decide +kernel
theorem dX12_toRounds_20 : decode cX12_toRounds 20 = .ok (.aload_n 0, 1) := by decide +kernel
theorem dX12_toRounds_21 : decode cX12_toRounds 21 = .ok (.iconst 1, 1) := by decide +kernel
theorem dX12_toRounds_22 : decode cX12_toRounds 22 = .ok (.iconst 0, 1) := by decide +kernel
theorem dX12_toRounds_23 : decode cX12_toRounds 23 = .ok (.iastore, 1) := by decide +kernel
theorem dX12_toRounds_24 : decode cX12_toRounds 24 = .ok (.aload_n 0, 1) := by decide +kernel
theorem dX12_toRounds_25 : decode cX12_toRounds 25 = .ok (.iconst 2, 1) := by decide +kernel
theorem dX12_toRounds_26 : decode cX12_toRounds 26 = .ok (.iconst 0, 1) := by decide +kernel
theorem dX12_toRounds_27 : decode cX12_toRounds 27 = .ok (.iastore, 1) := by decide +kernel
theorem dX12_toRounds_28 : decode cX12_toRounds 28 = .ok (.return_, 1) := by decide +kernel
theorem dX12_tower_0 : decode cX12_tower 0 = .ok (.aload_n 0, 1) := by decide +kernel
theorem dX12_tower_1 : decode cX12_tower 1 = .ok (.invokevirtual 156, 3) := by decide +kernel
theorem dX12_tower_4 : decode cX12_tower 4 = .ok (.istore_n 1, 1) := by decide +kernel
theorem dX12_tower_5 : decode cX12_tower 5 = .ok (.aload_n 0, 1) := by decide +kernel
theorem dX12_tower_6 : decode cX12_tower 6 = .ok (.iconst 0, 1) := by decide +kernel
theorem dX12_tower_7 : decode cX12_tower 7 = .ok (.putfield 83, 3) := by decide +kernel
theorem dX12_tower_10 : decode cX12_tower 10 = .ok (.iload_n 1, 1) := by decide +kernel
theorem dX12_tower_11 : decode cX12_tower 11 = .ok (.ifCond .ne 11, 3) := by decide +kernel
theorem dX12_tower_14 : decode cX12_tower 14 = .ok (.bipush (-10), 2) := by decide +kernel
theorem dX12_tower_16 : decode cX12_tower 16 = .ok (.aload_n 0, 1) := by decide +kernel
theorem dX12_tower_17 : decode cX12_tower 17 = .ok (.getfield 102, 3) := by decide +kernel
theorem dX12_tower_20 : decode cX12_tower 20 = .ok (.isub, 1) := by decide +kernel
theorem dX12_tower_21 : decode cX12_tower 21 = .ok (.ireturn, 1) := by decide +kernel
theorem dX12_tower_22 : decode cX12_tower 22 = .ok (.aload_n 0, 1) := by decide +kernel
theorem dX12_tower_23 : decode cX12_tower 23 = .ok (.iconst (-1), 1) := by decide +kernel
theorem dX12_tower_24 : decode cX12_tower 24 = .ok (.putfield 13, 3) := by decide +kernel
theorem dX12_tower_27 : decode cX12_tower 27 = .ok (.aload_n 0, 1) := by decide +kernel
theorem dX12_tower_28 : decode cX12_tower 28 = .ok (.aload_n 0, 1) := by decide +kernel
theorem dX12_tower_29 : decode cX12_tower 29 = .ok (.getfield 116, 3) := by decide +kernel
theorem dX12_tower_32 : decode cX12_tower 32 = .ok (.putfield 72, 3) := by decide +kernel
theorem dX12_tower_35 : decode cX12_tower 35 = .ok (.aload_n 0, 1) := by decide +kernel
theorem dX12_tower_36 : decode cX12_tower 36 = .ok (.aload_n 0, 1) := by decide +kernel
theorem dX12_tower_37 : decode cX12_tower 37 = .ok (.getfield 132, 3) := by decide +kernel
theorem dX12_tower_40 : decode cX12_tower 40 = .ok (.putfield 79, 3) := by decide +kernel
theorem dX12_tower_43 : decode cX12_tower 43 = .ok (.aload_n 0, 1) := by decide +kernel
theorem dX12_tower_44 : decode cX12_tower 44 = .ok (.getfield 17, 3) := by decide +kernel
theorem dX12_tower_47 : decode cX12_tower 47 = .ok (.iconst 0, 1) := by decide +kernel
theorem dX12_tower_48 : decode cX12_tower 48 = .ok (.aload_n 0, 1) := by decide +kernel
theorem dX12_tower_49 : decode cX12_tower 49 = .ok (.getfield 26, 3) := by decide +kernel
theorem dX12_tower_52 : decode cX12_tower 52 = .ok (.iconst 0, 1) := by decide +kernel
theorem dX12_tower_53 : decode cX12_tower 53 = .ok (.bipush 6, 2) := by decide +kernel
theorem dX12_tower_55 : decode cX12_tower 55 = .ok (.invokestatic 159, 3) := by decide +kernel
theorem dX12_tower_58 : decode cX12_tower 58 = .ok (.aload_n 0, 1) := by decide +kernel
theorem dX12_tower_59 : decode cX12_tower 59 = .ok (.getfield 20, 3) := by decide +kernel
theorem dX12_tower_62 : decode cX12_tower 62 = .ok (.iconst 0, 1) := by decide +kernel
theorem dX12_tower_63 : decode cX12_tower 63 = .ok (.aload_n 0, 1) := by decide +kernel
theorem dX12_tower_64 : decode cX12_tower 64 = .ok (.getfield 29, 3) := by decide +kernel
theorem dX12_tower_67 : decode cX12_tower 67 = .ok (.iconst 0, 1) := by decide +kernel
theorem dX12_tower_68 : decode cX12_tower 68 = .ok (.bipush 12, 2) := by decide +kernel
theorem dX12_tower_70 : decode cX12_tower 70 = .ok (.invokestatic 159, 3) := by decide +kernel
theorem dX12_tower_73 : decode cX12_tower 73 = .ok (.aload_n 0, 1) := by decide +kernel
theorem dX12_tower_74 : decode cX12_tower 74 = .ok (.getfield 23, 3) := by decide +kernel
theorem dX12_tower_77 : decode cX12_tower 77 = .ok (.iconst 0, 1) := by decide +kernel
theorem dX12_tower_78 : decode cX12_tower 78 = .ok (.aload_n 0, 1) := by decide +kernel
theorem dX12_tower_79 : decode cX12_tower 79 = .ok (.getfield 32, 3) := by decide +kernel
theorem dX12_tower_82 : decode cX12_tower 82 = .ok (.iconst 0, 1) := by decide +kernel
theorem dX12_tower_83 : decode cX12_tower 83 = .ok (.bipush 6, 2) := by decide +kernel
theorem dX12_tower_85 : decode cX12_tower 85 = .ok (.invokestatic 159, 3) := by decide +kernel
theorem dX12_tower_88 : decode cX12_tower 88 = .ok (.iconst 1, 1) := by decide +kernel
theorem dX12_tower_89 : decode cX12_tower 89 = .ok (.aload_n 0, 1) := by decide +kernel
theorem dX12_tower_90 : decode cX12_tower 90 = .ok (.getfield 72, 3) := by decide +kernel
theorem dX12_tower_93 : decode cX12_tower 93 = .ok (.ishl, 1) := by decide +kernel
theorem dX12_tower_94 : decode cX12_tower 94 = .ok (.iconst 1, 1) := by decide +kernel
theorem dX12_tower_95 : decode cX12_tower 95 = .ok (.isub, 1) := by decide +kernel
theorem dX12_tower_96 : decode cX12_tower 96 = .ok (.istore_n 2, 1) := by decide +kernel
theorem dX12_tower_97 : decode cX12_tower 97 = .ok (.aload_n 0, 1) := by decide +kernel
theorem dX12_tower_98 : decode cX12_tower 98 = .ok (.aload_n 0, 1) := by decide +kernel
theorem dX12_tower_99 : decode cX12_tower 99 = .ok (.getfield 125, 3) := by decide +kernel
theorem dX12_tower_102 : decode cX12_tower 102 = .ok (.ifCond .le 10, 3) := by decide +kernel
theorem dX12_tower_105 : decode cX12_tower 105 = .ok (.aload_n 0, 1) := by decide +kernel
theorem dX12_tower_106 : decode cX12_tower 106 = .ok (.getfield 125, 3) := by decide +kernel
theorem dX12_tower_109 : decode cX12_tower 109 = .ok (.goto 15, 3) := by decide +kernel
theorem dX12_tower_112 : decode cX12_tower 112 = .ok (.aload_n 0, 1) := by decide +kernel
theorem dX12_tower_113 : decode cX12_tower 113 = .ok (.getfield 72, 3) := by decide +kernel
theorem dX12_tower_116 : decode cX12_tower 116 = .ok (.ifCond .le 7, 3) := by decide +kernel
theorem dX12_tower_119 : decode cX12_tower 119 = .ok (.iconst 1, 1) := by decide +kernel
theorem dX12_tower_120 : decode cX12_tower 120 = .ok (.goto 4, 3) := by decide +kernel
theorem dX12_tower_123 : decode cX12_tower 123 = .ok (.iconst 0, 1) := by decide +kernel
theorem dX12_tower_124 : decode cX12_tower 124 = .ok (.putfield 163, 3) := by decide +kernel
theorem dX12_tower_127 : decode cX12_tower 127 = .ok (.aload_n 0, 1) := by decide +kernel
theorem dX12_tower_128 : decode cX12_tower 128 = .ok (.getfield 29, 3) := by decide +kernel
theorem dX12_tower_131 : decode cX12_tower 131 = .ok (.iconst 0, 1) := by decide +kernel
theorem dX12_tower_132 : decode cX12_tower 132 = .ok (.aload_n 0, 1) := by decide +kernel
theorem dX12_tower_133 : decode cX12_tower 133 = .ok (.getfield 125, 3) := by decide +kernel
theorem dX12_tower_136 : decode cX12_tower 136 = .ok (.ifCond .le 12, 3) := by decide +kernel
theorem dX12_tower_139 : decode cX12_tower 139 = .ok (.aload_n 0, 1) := by decide +kernel
theorem dX12_tower_140 : decode cX12_tower 140 = .ok (.getfield 29, 3) := by decide +kernel
theorem dX12_tower_143 : decode cX12_tower 143 = .ok (.iconst 0, 1) := by decide +kernel
theorem dX12_tower_144 : decode cX12_tower 144 = .ok (.iaload, 1) := by decide +kernel
theorem dX12_tower_145 : decode cX12_tower 145 = .ok (.goto 4, 3) := by decide +kernel
theorem dX12_tower_148 : decode cX12_tower 148 = .ok (.iload_n 2, 1) := by decide +kernel
theorem dX12_tower_149 : decode cX12_tower 149 = .ok (.iastore, 1) := by decide +kernel
theorem dX12_tower_150 : decode cX12_tower 150 = .ok (.aload_n 0, 1) := by decide +kernel
theorem dX12_tower_151 : decode cX12_tower 151 = .ok (.aload_n 0, 1) := by decide +kernel
theorem dX12_tower_152 : decode cX12_tower 152 = .ok (.getfield 138, 3) := by decide +kernel
theorem dX12_tower_155 : decode cX12_tower 155 = .ok (.ifCond .lt 10, 3) := by decide +kernel
theorem dX12_tower_158 : decode cX12_tower 158 = .ok (.aload_n 0, 1) := by decide +kernel
theorem dX12_tower_159 : decode cX12_tower 159 = .ok (.getfield 138, 3) := by decide +kernel
theorem dX12_tower_162 : decode cX12_tower 162 = .ok (.goto 4, 3) := by decide +kernel
theorem dX12_tower_165 : decode cX12_tower 165 = .ok (.iload_n 2, 1) := by decide +kernel
theorem dX12_tower_166 : decode cX12_tower 166 = .ok (.putfield 166, 3) := by decide +kernel
theorem dX12_tower_169 : decode cX12_tower 169 = .ok (.iconst 0, 1) := by decide +kernel
theorem dX12_tower_170 : decode cX12_tower 170 = .ok (.istore_n 3, 1) := by decide +kernel
theorem dX12_tower_171 : decode cX12_tower 171 = .ok (.iload_n 3, 1) := by decide +kernel
theorem dX12_tower_172 : decode cX12_tower 172 = .ok (.bipush 23, 2) := by decide +kernel
theorem dX12_tower_174 : decode cX12_tower 174 = .ok (.if_icmp .ge 16, 3) := by decide +kernel
theorem dX12_tower_177 : decode cX12_tower 177 = .ok (.aload_n 0, 1) := by decide +kernel
theorem dX12_tower_178 : decode cX12_tower 178 = .ok (.getfield 35, 3) := by decide +kernel
theorem dX12_tower_181 : decode cX12_tower 181 = .ok (.iload_n 3, 1) := by decide +kernel
theorem dX12_tower_182 : decode cX12_tower 182 = .ok (.iconst 0, 1) := by decide +kernel
theorem dX12_tower_183 : decode cX12_tower 183 = .ok (.iastore, 1) := by decide +kernel
theorem dX12_tower_184 : decode cX12_tower 184 = .ok (.iinc 3 1, 3) := by decide +kernel
theorem dX12_tower_187 : decode cX12_tower 187 = .ok (.goto (-16), 3) := by decide +kernel
theorem dX12_tower_190 : decode cX12_tower 190 = .ok (.aload_n 0, 1) := by decide +kernel
theorem dX12_tower_191 : decode cX12_tower 191 = .ok (.getfield 35, 3) := by decide +kernel
theorem dX12_tower_194 : decode cX12_tower 194 = .ok (.invokestatic 169, 3) := by decide +kernel
theorem dX12_tower_197 : decode cX12_tower 197 = .ok (.iconst 0, 1) := by decide +kernel
theorem dX12_tower_198 : decode cX12_tower 198 = .ok (.istore_n 3, 1) := by decide +kernel
theorem dX12_tower_199 : decode cX12_tower 199 = .ok (.iload_n 3, 1) := by decide +kernel
theorem dX12_tower_200 : decode cX12_tower 200 = .ok (.bipush 6, 2) := by decide +kernel
theorem dX12_tower_202 : decode cX12_tower 202 = .ok (.if_icmp .ge 19, 3) := by decide +kernel
theorem dX12_tower_205 : decode cX12_tower 205 = .ok (.aload_n 0, 1) := by decide +kernel
theorem dX12_tower_206 : decode cX12_tower 206 = .ok (.getfield 35, 3) := by decide +kernel
theorem dX12_tower_209 : decode cX12_tower 209 = .ok (.bipush 11, 2) := by decide +kernel
theorem dX12_tower_211 : decode cX12_tower 211 = .ok (.iload_n 3, 1) := by decide +kernel
theorem dX12_tower_212 : decode cX12_tower 212 = .ok (.iadd, 1) := by decide +kernel
theorem dX12_tower_213 : decode cX12_tower 213 = .ok (.iload_n 3, 1) := by decide +kernel
theorem dX12_tower_214 : decode cX12_tower 214 = .ok (.iastore, 1) := by decide +kernel
theorem dX12_tower_215 : decode cX12_tower 215 = .ok (.iinc 3 1, 3) := by decide +kernel
theorem dX12_tower_218 : decode cX12_tower 218 = .ok (.goto (-19), 3) := by decide +kernel
theorem dX12_tower_221 : decode cX12_tower 221 = .ok (.aload_n 0, 1) := by decide +kernel
theorem dX12_tower_222 : decode cX12_tower 222 = .ok (.iconst 0, 1) := by decide +kernel
theorem dX12_tower_223 : decode cX12_tower 223 = .ok (.putfield 173, 3) := by decide +kernel
theorem dX12_tower_226 : decode cX12_tower 226 = .ok (.aload_n 0, 1) := by decide +kernel
theorem dX12_tower_227 : decode cX12_tower 227 = .ok (.iconst 0, 1) := by decide +kernel
theorem dX12_tower_228 : decode cX12_tower 228 = .ok (.putfield 176, 3) := by decide +kernel
theorem dX12_tower_231 : decode cX12_tower 231 = .ok (.aload_n 0, 1) := by decide +kernel
theorem dX12_tower_232 : decode cX12_tower 232 = .ok (.getfield 50, 3) := by decide +kernel
theorem dX12_tower_235 : decode cX12_tower 235 = .ok (.iconst 0, 1) := by decide +kernel
theorem dX12_tower_236 : decode cX12_tower 236 = .ok (.iconst 0, 1) := by decide +kernel
theorem dX12_tower_237 : decode cX12_tower 237 = .ok (.bastore, 1) := by decide +kernel
theorem dX12_tower_238 : decode cX12_tower 238 = .ok (.aload_n 0, 1) := by decide +kernel
theorem dX12_tower_239 : decode cX12_tower 239 = .ok (.getfield 50, 3) := by decide +kernel
theorem dX12_tower_242 : decode cX12_tower 242 = .ok (.iconst 1, 1) := by decide +kernel
theorem dX12_tower_243 : decode cX12_tower 243 = .ok (.iconst 0, 1) := by decide +kernel
theorem dX12_tower_244 : decode cX12_tower 244 = .ok (.bastore, 1) := by decide +kernel
theorem dX12_tower_245 : decode cX12_tower 245 = .ok (.aload_n 0, 1) := by decide +kernel
theorem dX12_tower_246 : decode cX12_tower 246 = .ok (.iconst 0, 1) := by decide +kernel
theorem dX12_tower_247 : decode cX12_tower 247 = .ok (.putfield 179, 3) := by decide +kernel
theorem dX12_tower_250 : decode cX12_tower 250 = .ok (.aload_n 0, 1) := by decide +kernel
theorem dX12_tower_251 : decode cX12_tower 251 = .ok (.getfield 72, 3) := by decide +kernel
theorem dX12_tower_254 : decode cX12_tower 254 = .ok (.ireturn, 1) := by decide +kernel
theorem dX12_fault_0 : decode cX12_fault 0 = .ok (.aload_n 0, 1) := by decide +kernel
theorem dX12_fault_1 : decode cX12_fault 1 = .ok (.getfield 13, 3) := by decide +kernel
theorem dX12_fault_4 : decode cX12_fault 4 = .ok (.ireturn, 1) := by decide +kernel
theorem dX12_figuresOf_0 : decode cX12_figuresOf 0 = .ok (.iconst 0, 1) := by decide +kernel
theorem dX12_figuresOf_1 : decode cX12_figuresOf 1 = .ok (.istore_n 2, 1) := by decide +kernel
theorem dX12_figuresOf_2 : decode cX12_figuresOf 2 = .ok (.iconst 0, 1) := by decide +kernel
theorem dX12_figuresOf_3 : decode cX12_figuresOf 3 = .ok (.istore_n 3, 1) := by decide +kernel
theorem dX12_figuresOf_4 : decode cX12_figuresOf 4 = .ok (.iload_n 3, 1) := by decide +kernel
theorem dX12_figuresOf_5 : decode cX12_figuresOf 5 = .ok (.aload_n 0, 1) := by decide +kernel
theorem dX12_figuresOf_6 : decode cX12_figuresOf 6 = .ok (.getfield 72, 3) := by decide +kernel
theorem dX12_figuresOf_9 : decode cX12_figuresOf 9 = .ok (.if_icmp .ge 22, 3) := by decide +kernel
theorem dX12_figuresOf_12 : decode cX12_figuresOf 12 = .ok (.bipush 10, 2) := by decide +kernel
theorem dX12_figuresOf_14 : decode cX12_figuresOf 14 = .ok (.iload_n 2, 1) := by decide +kernel
theorem dX12_figuresOf_15 : decode cX12_figuresOf 15 = .ok (.imul, 1) := by decide +kernel
theorem dX12_figuresOf_16 : decode cX12_figuresOf 16 = .ok (.aload_n 1, 1) := by decide +kernel
theorem dX12_figuresOf_17 : decode cX12_figuresOf 17 = .ok (.iconst 5, 1) := by decide +kernel
theorem dX12_figuresOf_18 : decode cX12_figuresOf 18 = .ok (.iload_n 3, 1) := by decide +kernel
theorem dX12_figuresOf_19 : decode cX12_figuresOf 19 = .ok (.iadd, 1) := by decide +kernel
theorem dX12_figuresOf_20 : decode cX12_figuresOf 20 = .ok (.iaload, 1) := by decide +kernel
theorem dX12_figuresOf_21 : decode cX12_figuresOf 21 = .ok (.iadd, 1) := by decide +kernel
theorem dX12_figuresOf_22 : decode cX12_figuresOf 22 = .ok (.iconst 1, 1) := by decide +kernel
theorem dX12_figuresOf_23 : decode cX12_figuresOf 23 = .ok (.iadd, 1) := by decide +kernel
theorem dX12_figuresOf_24 : decode cX12_figuresOf 24 = .ok (.istore_n 2, 1) := by decide +kernel
theorem dX12_figuresOf_25 : decode cX12_figuresOf 25 = .ok (.iinc 3 1, 3) := by decide +kernel
theorem dX12_figuresOf_28 : decode cX12_figuresOf 28 = .ok (.goto (-24), 3) := by decide +kernel
theorem dX12_figuresOf_31 : decode cX12_figuresOf 31 = .ok (.iload_n 2, 1) := by decide +kernel
theorem dX12_figuresOf_32 : decode cX12_figuresOf 32 = .ok (.ireturn, 1) := by decide +kernel
theorem dX12_wedIn_0 : decode cX12_wedIn 0 = .ok (.iconst (-1), 1) := by decide +kernel
theorem dX12_wedIn_1 : decode cX12_wedIn 1 = .ok (.istore_n 2, 1) := by decide +kernel
theorem dX12_wedIn_2 : decode cX12_wedIn 2 = .ok (.iconst 0, 1) := by decide +kernel
theorem dX12_wedIn_3 : decode cX12_wedIn 3 = .ok (.istore_n 3, 1) := by decide +kernel
theorem dX12_wedIn_4 : decode cX12_wedIn 4 = .ok (.iconst 0, 1) := by decide +kernel
theorem dX12_wedIn_5 : decode cX12_wedIn 5 = .ok (.istore 4, 2) := by decide +kernel
theorem dX12_wedIn_7 : decode cX12_wedIn 7 = .ok (.iload 4, 2) := by decide +kernel
theorem dX12_wedIn_9 : decode cX12_wedIn 9 = .ok (.aload_n 0, 1) := by decide +kernel
theorem dX12_wedIn_10 : decode cX12_wedIn 10 = .ok (.getfield 79, 3) := by decide +kernel
theorem dX12_wedIn_13 : decode cX12_wedIn 13 = .ok (.if_icmp .ge 46, 3) := by decide +kernel
theorem dX12_wedIn_16 : decode cX12_wedIn 16 = .ok (.aload_n 1, 1) := by decide +kernel
theorem dX12_wedIn_17 : decode cX12_wedIn 17 = .ok (.iconst 4, 1) := by decide +kernel
theorem dX12_wedIn_18 : decode cX12_wedIn 18 = .ok (.iaload, 1) := by decide +kernel
theorem dX12_wedIn_19 : decode cX12_wedIn 19 = .ok (.iload 4, 2) := by decide +kernel
theorem dX12_wedIn_21 : decode cX12_wedIn 21 = .ok (.invokestatic 112, 3) := by decide +kernel
theorem dX12_wedIn_24 : decode cX12_wedIn 24 = .ok (.ifCond .eq 7, 3) := by decide +kernel
theorem dX12_wedIn_27 : decode cX12_wedIn 27 = .ok (.iload_n 2, 1) := by decide +kernel
theorem dX12_wedIn_28 : decode cX12_wedIn 28 = .ok (.goto 5, 3) := by decide +kernel
theorem dX12_wedIn_31 : decode cX12_wedIn 31 = .ok (.iload 4, 2) := by decide +kernel
theorem dX12_wedIn_33 : decode cX12_wedIn 33 = .ok (.istore_n 2, 1) := by decide +kernel
theorem dX12_wedIn_34 : decode cX12_wedIn 34 = .ok (.iload_n 3, 1) := by decide +kernel
theorem dX12_wedIn_35 : decode cX12_wedIn 35 = .ok (.aload_n 1, 1) := by decide +kernel
theorem dX12_wedIn_36 : decode cX12_wedIn 36 = .ok (.iconst 4, 1) := by decide +kernel
theorem dX12_wedIn_37 : decode cX12_wedIn 37 = .ok (.iaload, 1) := by decide +kernel
theorem dX12_wedIn_38 : decode cX12_wedIn 38 = .ok (.iload 4, 2) := by decide +kernel
theorem dX12_wedIn_40 : decode cX12_wedIn 40 = .ok (.invokestatic 112, 3) := by decide +kernel
theorem dX12_wedIn_43 : decode cX12_wedIn 43 = .ok (.ifCond .eq 7, 3) := by decide +kernel
theorem dX12_wedIn_46 : decode cX12_wedIn 46 = .ok (.iconst 0, 1) := by decide +kernel
theorem dX12_wedIn_47 : decode cX12_wedIn 47 = .ok (.goto 4, 3) := by decide +kernel
theorem dX12_wedIn_50 : decode cX12_wedIn 50 = .ok (.iconst 1, 1) := by decide +kernel
theorem dX12_wedIn_51 : decode cX12_wedIn 51 = .ok (.iadd, 1) := by decide +kernel
theorem dX12_wedIn_52 : decode cX12_wedIn 52 = .ok (.istore_n 3, 1) := by decide +kernel
theorem dX12_wedIn_53 : decode cX12_wedIn 53 = .ok (.iinc 4 1, 3) := by decide +kernel
theorem dX12_wedIn_56 : decode cX12_wedIn 56 = .ok (.goto (-49), 3) := by decide +kernel
theorem dX12_wedIn_59 : decode cX12_wedIn 59 = .ok (.aload_n 0, 1) := by decide +kernel
theorem dX12_wedIn_60 : decode cX12_wedIn 60 = .ok (.getfield 79, 3) := by decide +kernel
theorem dX12_wedIn_63 : decode cX12_wedIn 63 = .ok (.iconst 1, 1) := by decide +kernel
theorem dX12_wedIn_64 : decode cX12_wedIn 64 = .ok (.if_icmp .le 12, 3) := by decide +kernel
theorem dX12_wedIn_67 : decode cX12_wedIn 67 = .ok (.iload_n 3, 1) := by decide +kernel
theorem dX12_wedIn_68 : decode cX12_wedIn 68 = .ok (.iconst 1, 1) := by decide +kernel
theorem dX12_wedIn_69 : decode cX12_wedIn 69 = .ok (.if_icmp .ne 7, 3) := by decide +kernel
theorem dX12_wedIn_72 : decode cX12_wedIn 72 = .ok (.iload_n 2, 1) := by decide +kernel
theorem dX12_wedIn_73 : decode cX12_wedIn 73 = .ok (.goto 4, 3) := by decide +kernel
theorem dX12_wedIn_76 : decode cX12_wedIn 76 = .ok (.iconst (-1), 1) := by decide +kernel
theorem dX12_wedIn_77 : decode cX12_wedIn 77 = .ok (.ireturn, 1) := by decide +kernel
theorem dX12_told_0 : decode cX12_told 0 = .ok (.iload_n 1, 1) := by decide +kernel
theorem dX12_told_1 : decode cX12_told 1 = .ok (.tableswitch 184 0 14 #[75, 80, 85, 90, 95, 102, 111, 118, 127, 134, 141, 164, 169, 174, 179], 75) := by decide +kernel
theorem dX12_told_76 : decode cX12_told 76 = .ok (.aload_n 0, 1) := by decide +kernel
theorem dX12_told_77 : decode cX12_told 77 = .ok (.getfield 72, 3) := by decide +kernel
theorem dX12_told_80 : decode cX12_told 80 = .ok (.ireturn, 1) := by decide +kernel
theorem dX12_told_81 : decode cX12_told 81 = .ok (.aload_n 0, 1) := by decide +kernel
theorem dX12_told_82 : decode cX12_told 82 = .ok (.getfield 163, 3) := by decide +kernel
theorem dX12_told_85 : decode cX12_told 85 = .ok (.ireturn, 1) := by decide +kernel
theorem dX12_told_86 : decode cX12_told 86 = .ok (.aload_n 0, 1) := by decide +kernel
theorem dX12_told_87 : decode cX12_told 87 = .ok (.getfield 79, 3) := by decide +kernel
theorem dX12_told_90 : decode cX12_told 90 = .ok (.ireturn, 1) := by decide +kernel
theorem dX12_told_91 : decode cX12_told 91 = .ok (.aload_n 0, 1) := by decide +kernel
theorem dX12_told_92 : decode cX12_told 92 = .ok (.getfield 83, 3) := by decide +kernel
theorem dX12_told_95 : decode cX12_told 95 = .ok (.ireturn, 1) := by decide +kernel
theorem dX12_told_96 : decode cX12_told 96 = .ok (.aload_n 0, 1) := by decide +kernel
theorem dX12_told_97 : decode cX12_told 97 = .ok (.getfield 35, 3) := by decide +kernel
theorem dX12_told_100 : decode cX12_told 100 = .ok (.iconst 0, 1) := by decide +kernel
theorem dX12_told_101 : decode cX12_told 101 = .ok (.iaload, 1) := by decide +kernel
theorem dX12_told_102 : decode cX12_told 102 = .ok (.ireturn, 1) := by decide +kernel
theorem dX12_told_103 : decode cX12_told 103 = .ok (.aload_n 0, 1) := by decide +kernel
theorem dX12_told_104 : decode cX12_told 104 = .ok (.aload_n 0, 1) := by decide +kernel
theorem dX12_told_105 : decode cX12_told 105 = .ok (.getfield 35, 3) := by decide +kernel
theorem dX12_told_108 : decode cX12_told 108 = .ok (.invokevirtual 182, 3) := by decide +kernel
theorem dX12_told_111 : decode cX12_told 111 = .ok (.ireturn, 1) := by decide +kernel
theorem dX12_told_112 : decode cX12_told 112 = .ok (.aload_n 0, 1) := by decide +kernel
theorem dX12_told_113 : decode cX12_told 113 = .ok (.getfield 35, 3) := by decide +kernel
theorem dX12_told_116 : decode cX12_told 116 = .ok (.iconst 4, 1) := by decide +kernel
theorem dX12_told_117 : decode cX12_told 117 = .ok (.iaload, 1) := by decide +kernel
theorem dX12_told_118 : decode cX12_told 118 = .ok (.ireturn, 1) := by decide +kernel
theorem dX12_told_119 : decode cX12_told 119 = .ok (.aload_n 0, 1) := by decide +kernel
theorem dX12_told_120 : decode cX12_told 120 = .ok (.aload_n 0, 1) := by decide +kernel
theorem dX12_told_121 : decode cX12_told 121 = .ok (.getfield 35, 3) := by decide +kernel
theorem dX12_told_124 : decode cX12_told 124 = .ok (.invokevirtual 186, 3) := by decide +kernel
theorem dX12_told_127 : decode cX12_told 127 = .ok (.ireturn, 1) := by decide +kernel
theorem dX12_told_128 : decode cX12_told 128 = .ok (.aload_n 0, 1) := by decide +kernel
theorem dX12_told_129 : decode cX12_told 129 = .ok (.getfield 35, 3) := by decide +kernel
theorem dX12_told_132 : decode cX12_told 132 = .ok (.iconst 2, 1) := by decide +kernel
theorem dX12_told_133 : decode cX12_told 133 = .ok (.iaload, 1) := by decide +kernel
theorem dX12_told_134 : decode cX12_told 134 = .ok (.ireturn, 1) := by decide +kernel
theorem dX12_told_135 : decode cX12_told 135 = .ok (.aload_n 0, 1) := by decide +kernel
theorem dX12_told_136 : decode cX12_told 136 = .ok (.getfield 35, 3) := by decide +kernel
theorem dX12_told_139 : decode cX12_told 139 = .ok (.iconst 3, 1) := by decide +kernel
theorem dX12_told_140 : decode cX12_told 140 = .ok (.iaload, 1) := by decide +kernel
theorem dX12_told_141 : decode cX12_told 141 = .ok (.ireturn, 1) := by decide +kernel
theorem dX12_told_142 : decode cX12_told 142 = .ok (.aload_n 0, 1) := by decide +kernel
theorem dX12_told_143 : decode cX12_told 143 = .ok (.getfield 163, 3) := by decide +kernel
theorem dX12_told_146 : decode cX12_told 146 = .ok (.ifCond .ne 7, 3) := by decide +kernel
theorem dX12_told_149 : decode cX12_told 149 = .ok (.iconst 0, 1) := by decide +kernel
theorem dX12_told_150 : decode cX12_told 150 = .ok (.goto 14, 3) := by decide +kernel
theorem dX12_told_153 : decode cX12_told 153 = .ok (.aload_n 0, 1) := by decide +kernel
theorem dX12_told_154 : decode cX12_told 154 = .ok (.getfield 35, 3) := by decide +kernel
theorem dX12_told_157 : decode cX12_told 157 = .ok (.iconst 1, 1) := by decide +kernel
theorem dX12_told_158 : decode cX12_told 158 = .ok (.iaload, 1) := by decide +kernel
theorem dX12_told_159 : decode cX12_told 159 = .ok (.aload_n 0, 1) := by decide +kernel
theorem dX12_told_160 : decode cX12_told 160 = .ok (.getfield 163, 3) := by decide +kernel
theorem dX12_told_163 : decode cX12_told 163 = .ok (.irem, 1) := by decide +kernel
theorem dX12_told_164 : decode cX12_told 164 = .ok (.ireturn, 1) := by decide +kernel
theorem dX12_told_165 : decode cX12_told 165 = .ok (.aload_n 0, 1) := by decide +kernel
theorem dX12_told_166 : decode cX12_told 166 = .ok (.getfield 173, 3) := by decide +kernel
theorem dX12_told_169 : decode cX12_told 169 = .ok (.ireturn, 1) := by decide +kernel
theorem dX12_told_170 : decode cX12_told 170 = .ok (.aload_n 0, 1) := by decide +kernel
theorem dX12_told_171 : decode cX12_told 171 = .ok (.invokevirtual 189, 3) := by decide +kernel
theorem dX12_told_174 : decode cX12_told 174 = .ok (.ireturn, 1) := by decide +kernel
theorem dX12_told_175 : decode cX12_told 175 = .ok (.aload_n 0, 1) := by decide +kernel
theorem dX12_told_176 : decode cX12_told 176 = .ok (.getfield 176, 3) := by decide +kernel
theorem dX12_told_179 : decode cX12_told 179 = .ok (.ireturn, 1) := by decide +kernel
theorem dX12_told_180 : decode cX12_told 180 = .ok (.aload_n 0, 1) := by decide +kernel
theorem dX12_told_181 : decode cX12_told 181 = .ok (.getfield 179, 3) := by decide +kernel
theorem dX12_told_184 : decode cX12_told 184 = .ok (.ireturn, 1) := by decide +kernel
theorem dX12_told_185 : decode cX12_told 185 = .ok (.ldc 82, 2) := by decide +kernel
theorem dX12_told_187 : decode cX12_told 187 = .ok (.ireturn, 1) := by decide +kernel
theorem dX12_method_0 : decode cX12_method 0 = .ok (.aload_n 0, 1) := by decide +kernel
theorem dX12_method_1 : decode cX12_method 1 = .ok (.invokevirtual 193, 3) := by decide +kernel
theorem dX12_method_4 : decode cX12_method 4 = .ok (.ifCond .ne 6, 3) := by decide +kernel
theorem dX12_method_7 : decode cX12_method 7 = .ok (.ldc 196, 2) := by decide +kernel
theorem dX12_method_9 : decode cX12_method 9 = .ok (.ireturn, 1) := by decide +kernel
theorem dX12_method_10 : decode cX12_method 10 = .ok (.iload_n 1, 1) := by decide +kernel
theorem dX12_method_11 : decode cX12_method 11 = .ok (.iconst (-1), 1) := by decide +kernel
theorem dX12_method_12 : decode cX12_method 12 = .ok (.if_icmp .ne 10, 3) := by decide +kernel
theorem dX12_method_15 : decode cX12_method 15 = .ok (.aload_n 0, 1) := by decide +kernel
theorem dX12_method_16 : decode cX12_method 16 = .ok (.getfield 166, 3) := by decide +kernel
theorem dX12_method_19 : decode cX12_method 19 = .ok (.goto 27, 3) := by decide +kernel
theorem dX12_method_22 : decode cX12_method 22 = .ok (.iload_n 1, 1) := by decide +kernel
theorem dX12_method_23 : decode cX12_method 23 = .ok (.iconst 0, 1) := by decide +kernel
theorem dX12_method_24 : decode cX12_method 24 = .ok (.aload_n 0, 1) := by decide +kernel
theorem dX12_method_25 : decode cX12_method 25 = .ok (.getfield 163, 3) := by decide +kernel
theorem dX12_method_28 : decode cX12_method 28 = .ok (.iconst 1, 1) := by decide +kernel
theorem dX12_method_29 : decode cX12_method 29 = .ok (.isub, 1) := by decide +kernel
theorem dX12_method_30 : decode cX12_method 30 = .ok (.invokestatic 75, 3) := by decide +kernel
theorem dX12_method_33 : decode cX12_method 33 = .ok (.ifCond .eq 12, 3) := by decide +kernel
theorem dX12_method_36 : decode cX12_method 36 = .ok (.aload_n 0, 1) := by decide +kernel
theorem dX12_method_37 : decode cX12_method 37 = .ok (.getfield 29, 3) := by decide +kernel
theorem dX12_method_40 : decode cX12_method 40 = .ok (.iload_n 1, 1) := by decide +kernel
theorem dX12_method_41 : decode cX12_method 41 = .ok (.iaload, 1) := by decide +kernel
theorem dX12_method_42 : decode cX12_method 42 = .ok (.goto 4, 3) := by decide +kernel
theorem dX12_method_45 : decode cX12_method 45 = .ok (.iconst (-1), 1) := by decide +kernel
theorem dX12_method_46 : decode cX12_method 46 = .ok (.ireturn, 1) := by decide +kernel
theorem dX12_placeOf_0 : decode cX12_placeOf 0 = .ok (.iconst 0, 1) := by decide +kernel
theorem dX12_placeOf_1 : decode cX12_placeOf 1 = .ok (.istore_n 3, 1) := by decide +kernel
theorem dX12_placeOf_2 : decode cX12_placeOf 2 = .ok (.iconst 0, 1) := by decide +kernel
theorem dX12_placeOf_3 : decode cX12_placeOf 3 = .ok (.istore 4, 2) := by decide +kernel
theorem dX12_placeOf_5 : decode cX12_placeOf 5 = .ok (.iload 4, 2) := by decide +kernel
theorem dX12_placeOf_7 : decode cX12_placeOf 7 = .ok (.aload_n 0, 1) := by decide +kernel
theorem dX12_placeOf_8 : decode cX12_placeOf 8 = .ok (.getfield 72, 3) := by decide +kernel
theorem dX12_placeOf_11 : decode cX12_placeOf 11 = .ok (.if_icmp .ge 26, 3) := by decide +kernel
theorem dX12_placeOf_14 : decode cX12_placeOf 14 = .ok (.aload_n 1, 1) := by decide +kernel
theorem dX12_placeOf_15 : decode cX12_placeOf 15 = .ok (.iconst 5, 1) := by decide +kernel
theorem dX12_placeOf_16 : decode cX12_placeOf 16 = .ok (.iload 4, 2) := by decide +kernel
theorem dX12_placeOf_18 : decode cX12_placeOf 18 = .ok (.iadd, 1) := by decide +kernel
theorem dX12_placeOf_19 : decode cX12_placeOf 19 = .ok (.iaload, 1) := by decide +kernel
theorem dX12_placeOf_20 : decode cX12_placeOf 20 = .ok (.iload_n 2, 1) := by decide +kernel
theorem dX12_placeOf_21 : decode cX12_placeOf 21 = .ok (.if_icmp .ne 8, 3) := by decide +kernel
theorem dX12_placeOf_24 : decode cX12_placeOf 24 = .ok (.iload 4, 2) := by decide +kernel
theorem dX12_placeOf_26 : decode cX12_placeOf 26 = .ok (.goto 4, 3) := by decide +kernel
theorem dX12_placeOf_29 : decode cX12_placeOf 29 = .ok (.iload_n 3, 1) := by decide +kernel
theorem dX12_placeOf_30 : decode cX12_placeOf 30 = .ok (.istore_n 3, 1) := by decide +kernel
theorem dX12_placeOf_31 : decode cX12_placeOf 31 = .ok (.iinc 4 1, 3) := by decide +kernel
theorem dX12_placeOf_34 : decode cX12_placeOf 34 = .ok (.goto (-29), 3) := by decide +kernel
theorem dX12_placeOf_37 : decode cX12_placeOf 37 = .ok (.iload_n 3, 1) := by decide +kernel
theorem dX12_placeOf_38 : decode cX12_placeOf 38 = .ok (.ireturn, 1) := by decide +kernel
theorem dX12_ringerOf_0 : decode cX12_ringerOf 0 = .ok (.iconst (-1), 1) := by decide +kernel
theorem dX12_ringerOf_1 : decode cX12_ringerOf 1 = .ok (.istore_n 2, 1) := by decide +kernel
theorem dX12_ringerOf_2 : decode cX12_ringerOf 2 = .ok (.iconst 0, 1) := by decide +kernel
theorem dX12_ringerOf_3 : decode cX12_ringerOf 3 = .ok (.istore_n 3, 1) := by decide +kernel
theorem dX12_ringerOf_4 : decode cX12_ringerOf 4 = .ok (.iload_n 3, 1) := by decide +kernel
theorem dX12_ringerOf_5 : decode cX12_ringerOf 5 = .ok (.aload_n 0, 1) := by decide +kernel
theorem dX12_ringerOf_6 : decode cX12_ringerOf 6 = .ok (.getfield 79, 3) := by decide +kernel
theorem dX12_ringerOf_9 : decode cX12_ringerOf 9 = .ok (.if_icmp .ge 28, 3) := by decide +kernel
theorem dX12_ringerOf_12 : decode cX12_ringerOf 12 = .ok (.aload_n 0, 1) := by decide +kernel
theorem dX12_ringerOf_13 : decode cX12_ringerOf 13 = .ok (.getfield 35, 3) := by decide +kernel
theorem dX12_ringerOf_16 : decode cX12_ringerOf 16 = .ok (.bipush 11, 2) := by decide +kernel
theorem dX12_ringerOf_18 : decode cX12_ringerOf 18 = .ok (.iload_n 3, 1) := by decide +kernel
theorem dX12_ringerOf_19 : decode cX12_ringerOf 19 = .ok (.iadd, 1) := by decide +kernel
theorem dX12_ringerOf_20 : decode cX12_ringerOf 20 = .ok (.iaload, 1) := by decide +kernel
theorem dX12_ringerOf_21 : decode cX12_ringerOf 21 = .ok (.iload_n 1, 1) := by decide +kernel
theorem dX12_ringerOf_22 : decode cX12_ringerOf 22 = .ok (.if_icmp .ne 7, 3) := by decide +kernel
theorem dX12_ringerOf_25 : decode cX12_ringerOf 25 = .ok (.iload_n 3, 1) := by decide +kernel
theorem dX12_ringerOf_26 : decode cX12_ringerOf 26 = .ok (.goto 4, 3) := by decide +kernel
theorem dX12_ringerOf_29 : decode cX12_ringerOf 29 = .ok (.iload_n 2, 1) := by decide +kernel
theorem dX12_ringerOf_30 : decode cX12_ringerOf 30 = .ok (.istore_n 2, 1) := by decide +kernel
theorem dX12_ringerOf_31 : decode cX12_ringerOf 31 = .ok (.iinc 3 1, 3) := by decide +kernel
theorem dX12_ringerOf_34 : decode cX12_ringerOf 34 = .ok (.goto (-30), 3) := by decide +kernel
theorem dX12_ringerOf_37 : decode cX12_ringerOf 37 = .ok (.iload_n 2, 1) := by decide +kernel
theorem dX12_ringerOf_38 : decode cX12_ringerOf 38 = .ok (.ireturn, 1) := by decide +kernel
theorem dX12_bell_0 : decode cX12_bell 0 = .ok (.aload_n 0, 1) := by decide +kernel
theorem dX12_bell_1 : decode cX12_bell 1 = .ok (.iload_n 1, 1) := by decide +kernel
theorem dX12_bell_2 : decode cX12_bell 2 = .ok (.invokevirtual 197, 3) := by decide +kernel
theorem dX12_bell_5 : decode cX12_bell 5 = .ok (.ifCond .ne 6, 3) := by decide +kernel
theorem dX12_bell_8 : decode cX12_bell 8 = .ok (.ldc 200, 2) := by decide +kernel
theorem dX12_bell_10 : decode cX12_bell 10 = .ok (.ireturn, 1) := by decide +kernel
theorem dX12_bell_11 : decode cX12_bell 11 = .ok (.iload_n 2, 1) := by decide +kernel
theorem dX12_bell_12 : decode cX12_bell 12 = .ok (.ifCond .ne 12, 3) := by decide +kernel
theorem dX12_bell_15 : decode cX12_bell 15 = .ok (.aload_n 0, 1) := by decide +kernel
theorem dX12_bell_16 : decode cX12_bell 16 = .ok (.getfield 26, 3) := by decide +kernel
theorem dX12_bell_19 : decode cX12_bell 19 = .ok (.iload_n 1, 1) := by decide +kernel
theorem dX12_bell_20 : decode cX12_bell 20 = .ok (.iaload, 1) := by decide +kernel
theorem dX12_bell_21 : decode cX12_bell 21 = .ok (.goto 35, 3) := by decide +kernel
theorem dX12_bell_24 : decode cX12_bell 24 = .ok (.iload_n 2, 1) := by decide +kernel
theorem dX12_bell_25 : decode cX12_bell 25 = .ok (.iconst 1, 1) := by decide +kernel
theorem dX12_bell_26 : decode cX12_bell 26 = .ok (.if_icmp .ne 15, 3) := by decide +kernel
theorem dX12_bell_29 : decode cX12_bell 29 = .ok (.aload_n 0, 1) := by decide +kernel
theorem dX12_bell_30 : decode cX12_bell 30 = .ok (.aload_n 0, 1) := by decide +kernel
theorem dX12_bell_31 : decode cX12_bell 31 = .ok (.getfield 35, 3) := by decide +kernel
theorem dX12_bell_34 : decode cX12_bell 34 = .ok (.iload_n 1, 1) := by decide +kernel
theorem dX12_bell_35 : decode cX12_bell 35 = .ok (.invokevirtual 201, 3) := by decide +kernel
theorem dX12_bell_38 : decode cX12_bell 38 = .ok (.goto 18, 3) := by decide +kernel
theorem dX12_bell_41 : decode cX12_bell 41 = .ok (.iload_n 2, 1) := by decide +kernel
theorem dX12_bell_42 : decode cX12_bell 42 = .ok (.iconst 2, 1) := by decide +kernel
theorem dX12_bell_43 : decode cX12_bell 43 = .ok (.if_icmp .ne 11, 3) := by decide +kernel
theorem dX12_bell_46 : decode cX12_bell 46 = .ok (.aload_n 0, 1) := by decide +kernel
theorem dX12_bell_47 : decode cX12_bell 47 = .ok (.iload_n 1, 1) := by decide +kernel
theorem dX12_bell_48 : decode cX12_bell 48 = .ok (.invokevirtual 205, 3) := by decide +kernel
theorem dX12_bell_51 : decode cX12_bell 51 = .ok (.goto 5, 3) := by decide +kernel
theorem dX12_bell_54 : decode cX12_bell 54 = .ok (.ldc 82, 2) := by decide +kernel
theorem dX12_bell_56 : decode cX12_bell 56 = .ok (.ireturn, 1) := by decide +kernel
theorem dX12_suitor_0 : decode cX12_suitor 0 = .ok (.aload_n 0, 1) := by decide +kernel
theorem dX12_suitor_1 : decode cX12_suitor 1 = .ok (.iload_n 1, 1) := by decide +kernel
theorem dX12_suitor_2 : decode cX12_suitor 2 = .ok (.invokevirtual 209, 3) := by decide +kernel
theorem dX12_suitor_5 : decode cX12_suitor 5 = .ok (.ifCond .ne 6, 3) := by decide +kernel
theorem dX12_suitor_8 : decode cX12_suitor 8 = .ok (.ldc 200, 2) := by decide +kernel
theorem dX12_suitor_10 : decode cX12_suitor 10 = .ok (.ireturn, 1) := by decide +kernel
theorem dX12_suitor_11 : decode cX12_suitor 11 = .ok (.iload_n 2, 1) := by decide +kernel
theorem dX12_suitor_12 : decode cX12_suitor 12 = .ok (.tableswitch 70 0 3 #[32, 39, 49, 59], 32) := by decide +kernel
theorem dX12_suitor_44 : decode cX12_suitor 44 = .ok (.aload_n 0, 1) := by decide +kernel
theorem dX12_suitor_45 : decode cX12_suitor 45 = .ok (.getfield 32, 3) := by decide +kernel
theorem dX12_suitor_48 : decode cX12_suitor 48 = .ok (.iload_n 1, 1) := by decide +kernel
theorem dX12_suitor_49 : decode cX12_suitor 49 = .ok (.iaload, 1) := by decide +kernel
theorem dX12_suitor_50 : decode cX12_suitor 50 = .ok (.ireturn, 1) := by decide +kernel
theorem dX12_suitor_51 : decode cX12_suitor 51 = .ok (.aload_n 0, 1) := by decide +kernel
theorem dX12_suitor_52 : decode cX12_suitor 52 = .ok (.getfield 35, 3) := by decide +kernel
theorem dX12_suitor_55 : decode cX12_suitor 55 = .ok (.bipush 11, 2) := by decide +kernel
theorem dX12_suitor_57 : decode cX12_suitor 57 = .ok (.iload_n 1, 1) := by decide +kernel
theorem dX12_suitor_58 : decode cX12_suitor 58 = .ok (.iadd, 1) := by decide +kernel
theorem dX12_suitor_59 : decode cX12_suitor 59 = .ok (.iaload, 1) := by decide +kernel
theorem dX12_suitor_60 : decode cX12_suitor 60 = .ok (.ireturn, 1) := by decide +kernel
theorem dX12_suitor_61 : decode cX12_suitor 61 = .ok (.aload_n 0, 1) := by decide +kernel
theorem dX12_suitor_62 : decode cX12_suitor 62 = .ok (.getfield 35, 3) := by decide +kernel
theorem dX12_suitor_65 : decode cX12_suitor 65 = .ok (.bipush 17, 2) := by decide +kernel
theorem dX12_suitor_67 : decode cX12_suitor 67 = .ok (.iload_n 1, 1) := by decide +kernel
theorem dX12_suitor_68 : decode cX12_suitor 68 = .ok (.iadd, 1) := by decide +kernel
theorem dX12_suitor_69 : decode cX12_suitor 69 = .ok (.iaload, 1) := by decide +kernel
theorem dX12_suitor_70 : decode cX12_suitor 70 = .ok (.ireturn, 1) := by decide +kernel
theorem dX12_suitor_71 : decode cX12_suitor 71 = .ok (.aload_n 0, 1) := by decide +kernel
theorem dX12_suitor_72 : decode cX12_suitor 72 = .ok (.getfield 35, 3) := by decide +kernel
theorem dX12_suitor_75 : decode cX12_suitor 75 = .ok (.iconst 4, 1) := by decide +kernel
theorem dX12_suitor_76 : decode cX12_suitor 76 = .ok (.iaload, 1) := by decide +kernel
theorem dX12_suitor_77 : decode cX12_suitor 77 = .ok (.iload_n 1, 1) := by decide +kernel
theorem dX12_suitor_78 : decode cX12_suitor 78 = .ok (.ishr, 1) := by decide +kernel
theorem dX12_suitor_79 : decode cX12_suitor 79 = .ok (.iconst 1, 1) := by decide +kernel
theorem dX12_suitor_80 : decode cX12_suitor 80 = .ok (.iand, 1) := by decide +kernel
theorem dX12_suitor_81 : decode cX12_suitor 81 = .ok (.ireturn, 1) := by decide +kernel
theorem dX12_suitor_82 : decode cX12_suitor 82 = .ok (.ldc 82, 2) := by decide +kernel
theorem dX12_suitor_84 : decode cX12_suitor 84 = .ok (.ireturn, 1) := by decide +kernel
theorem dX12_note_0 : decode cX12_note 0 = .ok (.aload_n 0, 1) := by decide +kernel
theorem dX12_note_1 : decode cX12_note 1 = .ok (.getfield 179, 3) := by decide +kernel
theorem dX12_note_4 : decode cX12_note 4 = .ok (.bipush 16, 2) := by decide +kernel
theorem dX12_note_6 : decode cX12_note 6 = .ok (.if_icmp .ne 30, 3) := by decide +kernel
theorem dX12_note_9 : decode cX12_note 9 = .ok (.aload_n 0, 1) := by decide +kernel
theorem dX12_note_10 : decode cX12_note 10 = .ok (.getfield 41, 3) := by decide +kernel
theorem dX12_note_13 : decode cX12_note 13 = .ok (.bipush 23, 2) := by decide +kernel
theorem dX12_note_15 : decode cX12_note 15 = .ok (.aload_n 0, 1) := by decide +kernel
theorem dX12_note_16 : decode cX12_note 16 = .ok (.getfield 41, 3) := by decide +kernel
theorem dX12_note_19 : decode cX12_note 19 = .ok (.iconst 0, 1) := by decide +kernel
theorem dX12_note_20 : decode cX12_note 20 = .ok (.sipush 345, 3) := by decide +kernel
theorem dX12_note_23 : decode cX12_note 23 = .ok (.invokestatic 159, 3) := by decide +kernel
theorem dX12_note_26 : decode cX12_note 26 = .ok (.aload_n 0, 1) := by decide +kernel
theorem dX12_note_27 : decode cX12_note 27 = .ok (.dup, 1) := by decide +kernel
theorem dX12_note_28 : decode cX12_note 28 = .ok (.getfield 179, 3) := by decide +kernel
theorem dX12_note_31 : decode cX12_note 31 = .ok (.iconst 1, 1) := by decide +kernel
theorem dX12_note_32 : decode cX12_note 32 = .ok (.isub, 1) := by decide +kernel
theorem dX12_note_33 : decode cX12_note 33 = .ok (.putfield 179, 3) := by decide +kernel
theorem dX12_note_36 : decode cX12_note 36 = .ok (.aload_n 0, 1) := by decide +kernel
theorem dX12_note_37 : decode cX12_note 37 = .ok (.getfield 35, 3) := by decide +kernel
theorem dX12_note_40 : decode cX12_note 40 = .ok (.iconst 0, 1) := by decide +kernel
theorem dX12_note_41 : decode cX12_note 41 = .ok (.aload_n 0, 1) := by decide +kernel
theorem dX12_note_42 : decode cX12_note 42 = .ok (.getfield 41, 3) := by decide +kernel
theorem dX12_note_45 : decode cX12_note 45 = .ok (.bipush 23, 2) := by decide +kernel
theorem dX12_note_47 : decode cX12_note 47 = .ok (.aload_n 0, 1) := by decide +kernel
theorem dX12_note_48 : decode cX12_note 48 = .ok (.getfield 179, 3) := by decide +kernel
theorem dX12_note_51 : decode cX12_note 51 = .ok (.imul, 1) := by decide +kernel
theorem dX12_note_52 : decode cX12_note 52 = .ok (.bipush 23, 2) := by decide +kernel
theorem dX12_note_54 : decode cX12_note 54 = .ok (.invokestatic 159, 3) := by decide +kernel
theorem dX12_note_57 : decode cX12_note 57 = .ok (.aload_n 0, 1) := by decide +kernel
theorem dX12_note_58 : decode cX12_note 58 = .ok (.dup, 1) := by decide +kernel
theorem dX12_note_59 : decode cX12_note 59 = .ok (.getfield 179, 3) := by decide +kernel
theorem dX12_note_62 : decode cX12_note 62 = .ok (.iconst 1, 1) := by decide +kernel
theorem dX12_note_63 : decode cX12_note 63 = .ok (.iadd, 1) := by decide +kernel
theorem dX12_note_64 : decode cX12_note 64 = .ok (.putfield 179, 3) := by decide +kernel
theorem dX12_note_67 : decode cX12_note 67 = .ok (.return_, 1) := by decide +kernel
theorem dX12_changes_0 : decode cX12_changes 0 = .ok (.iconst 0, 1) := by decide +kernel
theorem dX12_changes_1 : decode cX12_changes 1 = .ok (.istore_n 3, 1) := by decide +kernel
theorem dX12_changes_2 : decode cX12_changes 2 = .ok (.iload_n 3, 1) := by decide +kernel
theorem dX12_changes_3 : decode cX12_changes 3 = .ok (.aload_n 0, 1) := by decide +kernel
theorem dX12_changes_4 : decode cX12_changes 4 = .ok (.getfield 72, 3) := by decide +kernel
theorem dX12_changes_7 : decode cX12_changes 7 = .ok (.if_icmp .ge 51, 3) := by decide +kernel
theorem dX12_changes_10 : decode cX12_changes 10 = .ok (.iload_n 2, 1) := by decide +kernel
theorem dX12_changes_11 : decode cX12_changes 11 = .ok (.iload_n 3, 1) := by decide +kernel
theorem dX12_changes_12 : decode cX12_changes 12 = .ok (.invokestatic 112, 3) := by decide +kernel
theorem dX12_changes_15 : decode cX12_changes 15 = .ok (.ifCond .eq 9, 3) := by decide +kernel
theorem dX12_changes_18 : decode cX12_changes 18 = .ok (.iinc 3 1, 3) := by decide +kernel
theorem dX12_changes_21 : decode cX12_changes 21 = .ok (.goto (-19), 3) := by decide +kernel
theorem dX12_changes_24 : decode cX12_changes 24 = .ok (.aload_n 1, 1) := by decide +kernel
theorem dX12_changes_25 : decode cX12_changes 25 = .ok (.iconst 5, 1) := by decide +kernel
theorem dX12_changes_26 : decode cX12_changes 26 = .ok (.iload_n 3, 1) := by decide +kernel
theorem dX12_changes_27 : decode cX12_changes 27 = .ok (.iadd, 1) := by decide +kernel
theorem dX12_changes_28 : decode cX12_changes 28 = .ok (.iaload, 1) := by decide +kernel
theorem dX12_changes_29 : decode cX12_changes 29 = .ok (.istore 4, 2) := by decide +kernel
theorem dX12_changes_31 : decode cX12_changes 31 = .ok (.aload_n 1, 1) := by decide +kernel
theorem dX12_changes_32 : decode cX12_changes 32 = .ok (.iconst 5, 1) := by decide +kernel
theorem dX12_changes_33 : decode cX12_changes 33 = .ok (.iload_n 3, 1) := by decide +kernel
theorem dX12_changes_34 : decode cX12_changes 34 = .ok (.iadd, 1) := by decide +kernel
theorem dX12_changes_35 : decode cX12_changes 35 = .ok (.aload_n 1, 1) := by decide +kernel
theorem dX12_changes_36 : decode cX12_changes 36 = .ok (.iconst 5, 1) := by decide +kernel
theorem dX12_changes_37 : decode cX12_changes 37 = .ok (.iload_n 3, 1) := by decide +kernel
theorem dX12_changes_38 : decode cX12_changes 38 = .ok (.iadd, 1) := by decide +kernel
theorem dX12_changes_39 : decode cX12_changes 39 = .ok (.iconst 1, 1) := by decide +kernel
theorem dX12_changes_40 : decode cX12_changes 40 = .ok (.iadd, 1) := by decide +kernel
theorem dX12_changes_41 : decode cX12_changes 41 = .ok (.iaload, 1) := by decide +kernel
theorem dX12_changes_42 : decode cX12_changes 42 = .ok (.iastore, 1) := by decide +kernel
theorem dX12_changes_43 : decode cX12_changes 43 = .ok (.aload_n 1, 1) := by decide +kernel
theorem dX12_changes_44 : decode cX12_changes 44 = .ok (.iconst 5, 1) := by decide +kernel
theorem dX12_changes_45 : decode cX12_changes 45 = .ok (.iload_n 3, 1) := by decide +kernel
theorem dX12_changes_46 : decode cX12_changes 46 = .ok (.iadd, 1) := by decide +kernel
theorem dX12_changes_47 : decode cX12_changes 47 = .ok (.iconst 1, 1) := by decide +kernel
theorem dX12_changes_48 : decode cX12_changes 48 = .ok (.iadd, 1) := by decide +kernel
theorem dX12_changes_49 : decode cX12_changes 49 = .ok (.iload 4, 2) := by decide +kernel
theorem dX12_changes_51 : decode cX12_changes 51 = .ok (.iastore, 1) := by decide +kernel
theorem dX12_changes_52 : decode cX12_changes 52 = .ok (.iinc 3 2, 3) := by decide +kernel
theorem dX12_changes_55 : decode cX12_changes 55 = .ok (.goto (-53), 3) := by decide +kernel
theorem dX12_changes_58 : decode cX12_changes 58 = .ok (.return_, 1) := by decide +kernel
theorem dX12_goesOut_0 : decode cX12_goesOut 0 = .ok (.iconst 0, 1) := by decide +kernel
theorem dX12_goesOut_1 : decode cX12_goesOut 1 = .ok (.istore_n 2, 1) := by decide +kernel
theorem dX12_goesOut_2 : decode cX12_goesOut 2 = .ok (.iconst (-1), 1) := by decide +kernel
theorem dX12_goesOut_3 : decode cX12_goesOut 3 = .ok (.istore_n 3, 1) := by decide +kernel
theorem dX12_goesOut_4 : decode cX12_goesOut 4 = .ok (.iconst 0, 1) := by decide +kernel
theorem dX12_goesOut_5 : decode cX12_goesOut 5 = .ok (.istore 4, 2) := by decide +kernel
theorem dX12_goesOut_7 : decode cX12_goesOut 7 = .ok (.iload 4, 2) := by decide +kernel
theorem dX12_goesOut_9 : decode cX12_goesOut 9 = .ok (.aload_n 0, 1) := by decide +kernel
theorem dX12_goesOut_10 : decode cX12_goesOut 10 = .ok (.getfield 79, 3) := by decide +kernel
theorem dX12_goesOut_13 : decode cX12_goesOut 13 = .ok (.if_icmp .ge 55, 3) := by decide +kernel
theorem dX12_goesOut_16 : decode cX12_goesOut 16 = .ok (.iload_n 2, 1) := by decide +kernel
theorem dX12_goesOut_17 : decode cX12_goesOut 17 = .ok (.aload_n 1, 1) := by decide +kernel
theorem dX12_goesOut_18 : decode cX12_goesOut 18 = .ok (.iconst 4, 1) := by decide +kernel
theorem dX12_goesOut_19 : decode cX12_goesOut 19 = .ok (.iaload, 1) := by decide +kernel
theorem dX12_goesOut_20 : decode cX12_goesOut 20 = .ok (.iload 4, 2) := by decide +kernel
theorem dX12_goesOut_22 : decode cX12_goesOut 22 = .ok (.invokestatic 112, 3) := by decide +kernel
theorem dX12_goesOut_25 : decode cX12_goesOut 25 = .ok (.ifCond .eq 7, 3) := by decide +kernel
theorem dX12_goesOut_28 : decode cX12_goesOut 28 = .ok (.iconst 0, 1) := by decide +kernel
theorem dX12_goesOut_29 : decode cX12_goesOut 29 = .ok (.goto 4, 3) := by decide +kernel
theorem dX12_goesOut_32 : decode cX12_goesOut 32 = .ok (.iconst 1, 1) := by decide +kernel
theorem dX12_goesOut_33 : decode cX12_goesOut 33 = .ok (.iadd, 1) := by decide +kernel
theorem dX12_goesOut_34 : decode cX12_goesOut 34 = .ok (.istore_n 2, 1) := by decide +kernel
theorem dX12_goesOut_35 : decode cX12_goesOut 35 = .ok (.aload_n 1, 1) := by decide +kernel
theorem dX12_goesOut_36 : decode cX12_goesOut 36 = .ok (.bipush 11, 2) := by decide +kernel
theorem dX12_goesOut_38 : decode cX12_goesOut 38 = .ok (.iload 4, 2) := by decide +kernel
theorem dX12_goesOut_40 : decode cX12_goesOut 40 = .ok (.iadd, 1) := by decide +kernel
theorem dX12_goesOut_41 : decode cX12_goesOut 41 = .ok (.iaload, 1) := by decide +kernel
theorem dX12_goesOut_42 : decode cX12_goesOut 42 = .ok (.aload_n 1, 1) := by decide +kernel
theorem dX12_goesOut_43 : decode cX12_goesOut 43 = .ok (.iconst 5, 1) := by decide +kernel
theorem dX12_goesOut_44 : decode cX12_goesOut 44 = .ok (.aload_n 0, 1) := by decide +kernel
theorem dX12_goesOut_45 : decode cX12_goesOut 45 = .ok (.getfield 72, 3) := by decide +kernel
theorem dX12_goesOut_48 : decode cX12_goesOut 48 = .ok (.iadd, 1) := by decide +kernel
theorem dX12_goesOut_49 : decode cX12_goesOut 49 = .ok (.iconst 1, 1) := by decide +kernel
theorem dX12_goesOut_50 : decode cX12_goesOut 50 = .ok (.isub, 1) := by decide +kernel
theorem dX12_goesOut_51 : decode cX12_goesOut 51 = .ok (.iaload, 1) := by decide +kernel
theorem dX12_goesOut_52 : decode cX12_goesOut 52 = .ok (.if_icmp .ne 8, 3) := by decide +kernel
theorem dX12_goesOut_55 : decode cX12_goesOut 55 = .ok (.iload 4, 2) := by decide +kernel
theorem dX12_goesOut_57 : decode cX12_goesOut 57 = .ok (.goto 4, 3) := by decide +kernel
theorem dX12_goesOut_60 : decode cX12_goesOut 60 = .ok (.iload_n 3, 1) := by decide +kernel
theorem dX12_goesOut_61 : decode cX12_goesOut 61 = .ok (.istore_n 3, 1) := by decide +kernel
theorem dX12_goesOut_62 : decode cX12_goesOut 62 = .ok (.iinc 4 1, 3) := by decide +kernel
theorem dX12_goesOut_65 : decode cX12_goesOut 65 = .ok (.goto (-58), 3) := by decide +kernel
theorem dX12_goesOut_68 : decode cX12_goesOut 68 = .ok (.aload_n 1, 1) := by decide +kernel
theorem dX12_goesOut_69 : decode cX12_goesOut 69 = .ok (.iconst 4, 1) := by decide +kernel
theorem dX12_goesOut_70 : decode cX12_goesOut 70 = .ok (.iload_n 2, 1) := by decide +kernel
theorem dX12_goesOut_71 : decode cX12_goesOut 71 = .ok (.iconst 1, 1) := by decide +kernel
theorem dX12_goesOut_72 : decode cX12_goesOut 72 = .ok (.if_icmp .le 18, 3) := by decide +kernel
theorem dX12_goesOut_75 : decode cX12_goesOut 75 = .ok (.iload_n 3, 1) := by decide +kernel
theorem dX12_goesOut_76 : decode cX12_goesOut 76 = .ok (.iconst (-1), 1) := by decide +kernel
theorem dX12_goesOut_77 : decode cX12_goesOut 77 = .ok (.if_icmp .eq 13, 3) := by decide +kernel
theorem dX12_goesOut_80 : decode cX12_goesOut 80 = .ok (.aload_n 1, 1) := by decide +kernel
theorem dX12_goesOut_81 : decode cX12_goesOut 81 = .ok (.iconst 4, 1) := by decide +kernel
theorem dX12_goesOut_82 : decode cX12_goesOut 82 = .ok (.iaload, 1) := by decide +kernel
theorem dX12_goesOut_83 : decode cX12_goesOut 83 = .ok (.iconst 1, 1) := by decide +kernel
theorem dX12_goesOut_84 : decode cX12_goesOut 84 = .ok (.iload_n 3, 1) := by decide +kernel
theorem dX12_goesOut_85 : decode cX12_goesOut 85 = .ok (.ishl, 1) := by decide +kernel
theorem dX12_goesOut_86 : decode cX12_goesOut 86 = .ok (.ior, 1) := by decide +kernel
theorem dX12_goesOut_87 : decode cX12_goesOut 87 = .ok (.goto 6, 3) := by decide +kernel
theorem dX12_goesOut_90 : decode cX12_goesOut 90 = .ok (.aload_n 1, 1) := by decide +kernel
theorem dX12_goesOut_91 : decode cX12_goesOut 91 = .ok (.iconst 4, 1) := by decide +kernel
theorem dX12_goesOut_92 : decode cX12_goesOut 92 = .ok (.iaload, 1) := by decide +kernel
theorem dX12_goesOut_93 : decode cX12_goesOut 93 = .ok (.iastore, 1) := by decide +kernel
theorem dX12_goesOut_94 : decode cX12_goesOut 94 = .ok (.return_, 1) := by decide +kernel
theorem dX12_rings_0 : decode cX12_rings 0 = .ok (.aload_n 1, 1) := by decide +kernel
theorem dX12_rings_1 : decode cX12_rings 1 = .ok (.iconst 1, 1) := by decide +kernel
theorem dX12_rings_2 : decode cX12_rings 2 = .ok (.iaload, 1) := by decide +kernel
theorem dX12_rings_3 : decode cX12_rings 3 = .ok (.aload_n 0, 1) := by decide +kernel
theorem dX12_rings_4 : decode cX12_rings 4 = .ok (.getfield 163, 3) := by decide +kernel
theorem dX12_rings_7 : decode cX12_rings 7 = .ok (.irem, 1) := by decide +kernel
theorem dX12_rings_8 : decode cX12_rings 8 = .ok (.istore_n 2, 1) := by decide +kernel
theorem dX12_rings_9 : decode cX12_rings 9 = .ok (.aload_n 0, 1) := by decide +kernel
theorem dX12_rings_10 : decode cX12_rings 10 = .ok (.aload_n 1, 1) := by decide +kernel
theorem dX12_rings_11 : decode cX12_rings 11 = .ok (.aload_n 1, 1) := by decide +kernel
theorem dX12_rings_12 : decode cX12_rings 12 = .ok (.iconst 2, 1) := by decide +kernel
theorem dX12_rings_13 : decode cX12_rings 13 = .ok (.iaload, 1) := by decide +kernel
theorem dX12_rings_14 : decode cX12_rings 14 = .ok (.iconst 1, 1) := by decide +kernel
theorem dX12_rings_15 : decode cX12_rings 15 = .ok (.if_icmp .ne 10, 3) := by decide +kernel
theorem dX12_rings_18 : decode cX12_rings 18 = .ok (.aload_n 0, 1) := by decide +kernel
theorem dX12_rings_19 : decode cX12_rings 19 = .ok (.getfield 166, 3) := by decide +kernel
theorem dX12_rings_22 : decode cX12_rings 22 = .ok (.goto 9, 3) := by decide +kernel
theorem dX12_rings_25 : decode cX12_rings 25 = .ok (.aload_n 0, 1) := by decide +kernel
theorem dX12_rings_26 : decode cX12_rings 26 = .ok (.getfield 29, 3) := by decide +kernel
theorem dX12_rings_29 : decode cX12_rings 29 = .ok (.iload_n 2, 1) := by decide +kernel
theorem dX12_rings_30 : decode cX12_rings 30 = .ok (.iaload, 1) := by decide +kernel
theorem dX12_rings_31 : decode cX12_rings 31 = .ok (.invokevirtual 212, 3) := by decide +kernel
theorem dX12_rings_34 : decode cX12_rings 34 = .ok (.aload_n 1, 1) := by decide +kernel
theorem dX12_rings_35 : decode cX12_rings 35 = .ok (.iconst 2, 1) := by decide +kernel
theorem dX12_rings_36 : decode cX12_rings 36 = .ok (.iconst 0, 1) := by decide +kernel
theorem dX12_rings_37 : decode cX12_rings 37 = .ok (.iastore, 1) := by decide +kernel
theorem dX12_rings_38 : decode cX12_rings 38 = .ok (.aload_n 1, 1) := by decide +kernel
theorem dX12_rings_39 : decode cX12_rings 39 = .ok (.iconst 1, 1) := by decide +kernel
theorem dX12_rings_40 : decode cX12_rings 40 = .ok (.dup2, 1) := by decide +kernel
theorem dX12_rings_41 : decode cX12_rings 41 = .ok (.iaload, 1) := by decide +kernel
theorem dX12_rings_42 : decode cX12_rings 42 = .ok (.iconst 1, 1) := by decide +kernel
theorem dX12_rings_43 : decode cX12_rings 43 = .ok (.iadd, 1) := by decide +kernel
theorem dX12_rings_44 : decode cX12_rings 44 = .ok (.iastore, 1) := by decide +kernel
theorem dX12_rings_45 : decode cX12_rings 45 = .ok (.aload_n 1, 1) := by decide +kernel
theorem dX12_rings_46 : decode cX12_rings 46 = .ok (.iconst 0, 1) := by decide +kernel
theorem dX12_rings_47 : decode cX12_rings 47 = .ok (.dup2, 1) := by decide +kernel
theorem dX12_rings_48 : decode cX12_rings 48 = .ok (.iaload, 1) := by decide +kernel
theorem dX12_rings_49 : decode cX12_rings 49 = .ok (.iconst 1, 1) := by decide +kernel
theorem dX12_rings_50 : decode cX12_rings 50 = .ok (.iadd, 1) := by decide +kernel
theorem dX12_rings_51 : decode cX12_rings 51 = .ok (.iastore, 1) := by decide +kernel
theorem dX12_rings_52 : decode cX12_rings 52 = .ok (.iconst 0, 1) := by decide +kernel
theorem dX12_rings_53 : decode cX12_rings 53 = .ok (.istore_n 3, 1) := by decide +kernel
theorem dX12_rings_54 : decode cX12_rings 54 = .ok (.iload_n 3, 1) := by decide +kernel
theorem dX12_rings_55 : decode cX12_rings 55 = .ok (.aload_n 0, 1) := by decide +kernel
theorem dX12_rings_56 : decode cX12_rings 56 = .ok (.getfield 79, 3) := by decide +kernel
theorem dX12_rings_59 : decode cX12_rings 59 = .ok (.if_icmp .ge 98, 3) := by decide +kernel
theorem dX12_rings_62 : decode cX12_rings 62 = .ok (.aload_n 0, 1) := by decide +kernel
theorem dX12_rings_63 : decode cX12_rings 63 = .ok (.getfield 26, 3) := by decide +kernel
theorem dX12_rings_66 : decode cX12_rings 66 = .ok (.aload_n 1, 1) := by decide +kernel
theorem dX12_rings_67 : decode cX12_rings 67 = .ok (.bipush 11, 2) := by decide +kernel
theorem dX12_rings_69 : decode cX12_rings 69 = .ok (.iload_n 3, 1) := by decide +kernel
theorem dX12_rings_70 : decode cX12_rings 70 = .ok (.iadd, 1) := by decide +kernel
theorem dX12_rings_71 : decode cX12_rings 71 = .ok (.iaload, 1) := by decide +kernel
theorem dX12_rings_72 : decode cX12_rings 72 = .ok (.iaload, 1) := by decide +kernel
theorem dX12_rings_73 : decode cX12_rings 73 = .ok (.aload_n 0, 1) := by decide +kernel
theorem dX12_rings_74 : decode cX12_rings 74 = .ok (.getfield 32, 3) := by decide +kernel
theorem dX12_rings_77 : decode cX12_rings 77 = .ok (.iload_n 3, 1) := by decide +kernel
theorem dX12_rings_78 : decode cX12_rings 78 = .ok (.iaload, 1) := by decide +kernel
theorem dX12_rings_79 : decode cX12_rings 79 = .ok (.isub, 1) := by decide +kernel
theorem dX12_rings_80 : decode cX12_rings 80 = .ok (.istore 4, 2) := by decide +kernel
theorem dX12_rings_82 : decode cX12_rings 82 = .ok (.aload_n 1, 1) := by decide +kernel
theorem dX12_rings_83 : decode cX12_rings 83 = .ok (.bipush 17, 2) := by decide +kernel
theorem dX12_rings_85 : decode cX12_rings 85 = .ok (.iload_n 3, 1) := by decide +kernel
theorem dX12_rings_86 : decode cX12_rings 86 = .ok (.iadd, 1) := by decide +kernel
theorem dX12_rings_87 : decode cX12_rings 87 = .ok (.iaload, 1) := by decide +kernel
theorem dX12_rings_88 : decode cX12_rings 88 = .ok (.iload 4, 2) := by decide +kernel
theorem dX12_rings_90 : decode cX12_rings 90 = .ok (.ifCond .le 8, 3) := by decide +kernel
theorem dX12_rings_93 : decode cX12_rings 93 = .ok (.iload 4, 2) := by decide +kernel
theorem dX12_rings_95 : decode cX12_rings 95 = .ok (.goto 4, 3) := by decide +kernel
theorem dX12_rings_98 : decode cX12_rings 98 = .ok (.iconst 0, 1) := by decide +kernel
theorem dX12_rings_99 : decode cX12_rings 99 = .ok (.iadd, 1) := by decide +kernel
theorem dX12_rings_100 : decode cX12_rings 100 = .ok (.aload_n 1, 1) := by decide +kernel
theorem dX12_rings_101 : decode cX12_rings 101 = .ok (.iconst 3, 1) := by decide +kernel
theorem dX12_rings_102 : decode cX12_rings 102 = .ok (.iaload, 1) := by decide +kernel
theorem dX12_rings_103 : decode cX12_rings 103 = .ok (.iadd, 1) := by decide +kernel
theorem dX12_rings_104 : decode cX12_rings 104 = .ok (.istore 5, 2) := by decide +kernel
theorem dX12_rings_106 : decode cX12_rings 106 = .ok (.aload_n 1, 1) := by decide +kernel
theorem dX12_rings_107 : decode cX12_rings 107 = .ok (.iconst 4, 1) := by decide +kernel
theorem dX12_rings_108 : decode cX12_rings 108 = .ok (.iaload, 1) := by decide +kernel
theorem dX12_rings_109 : decode cX12_rings 109 = .ok (.iload_n 3, 1) := by decide +kernel
theorem dX12_rings_110 : decode cX12_rings 110 = .ok (.invokestatic 112, 3) := by decide +kernel
theorem dX12_rings_113 : decode cX12_rings 113 = .ok (.ifCond .eq 12, 3) := by decide +kernel
theorem dX12_rings_116 : decode cX12_rings 116 = .ok (.aload_n 1, 1) := by decide +kernel
theorem dX12_rings_117 : decode cX12_rings 117 = .ok (.bipush 17, 2) := by decide +kernel
theorem dX12_rings_119 : decode cX12_rings 119 = .ok (.iload_n 3, 1) := by decide +kernel
theorem dX12_rings_120 : decode cX12_rings 120 = .ok (.iadd, 1) := by decide +kernel
theorem dX12_rings_121 : decode cX12_rings 121 = .ok (.iaload, 1) := by decide +kernel
theorem dX12_rings_122 : decode cX12_rings 122 = .ok (.goto 5, 3) := by decide +kernel
theorem dX12_rings_125 : decode cX12_rings 125 = .ok (.iload 5, 2) := by decide +kernel
theorem dX12_rings_127 : decode cX12_rings 127 = .ok (.istore 5, 2) := by decide +kernel
theorem dX12_rings_129 : decode cX12_rings 129 = .ok (.aload_n 1, 1) := by decide +kernel
theorem dX12_rings_130 : decode cX12_rings 130 = .ok (.bipush 17, 2) := by decide +kernel
theorem dX12_rings_132 : decode cX12_rings 132 = .ok (.iload_n 3, 1) := by decide +kernel
theorem dX12_rings_133 : decode cX12_rings 133 = .ok (.iadd, 1) := by decide +kernel
theorem dX12_rings_134 : decode cX12_rings 134 = .ok (.iload 5, 2) := by decide +kernel
theorem dX12_rings_136 : decode cX12_rings 136 = .ok (.sipush 9999, 3) := by decide +kernel
theorem dX12_rings_139 : decode cX12_rings 139 = .ok (.if_icmp .le 9, 3) := by decide +kernel
theorem dX12_rings_142 : decode cX12_rings 142 = .ok (.sipush 9999, 3) := by decide +kernel
theorem dX12_rings_145 : decode cX12_rings 145 = .ok (.goto 5, 3) := by decide +kernel
theorem dX12_rings_148 : decode cX12_rings 148 = .ok (.iload 5, 2) := by decide +kernel
theorem dX12_rings_150 : decode cX12_rings 150 = .ok (.iastore, 1) := by decide +kernel
theorem dX12_rings_151 : decode cX12_rings 151 = .ok (.iinc 3 1, 3) := by decide +kernel
theorem dX12_rings_154 : decode cX12_rings 154 = .ok (.goto (-100), 3) := by decide +kernel
theorem dX12_rings_157 : decode cX12_rings 157 = .ok (.iload_n 2, 1) := by decide +kernel
theorem dX12_rings_158 : decode cX12_rings 158 = .ok (.aload_n 0, 1) := by decide +kernel
theorem dX12_rings_159 : decode cX12_rings 159 = .ok (.getfield 163, 3) := by decide +kernel
theorem dX12_rings_162 : decode cX12_rings 162 = .ok (.iconst 1, 1) := by decide +kernel
theorem dX12_rings_163 : decode cX12_rings 163 = .ok (.isub, 1) := by decide +kernel
theorem dX12_rings_164 : decode cX12_rings 164 = .ok (.if_icmp .ne 8, 3) := by decide +kernel
theorem dX12_rings_167 : decode cX12_rings 167 = .ok (.aload_n 0, 1) := by decide +kernel
theorem dX12_rings_168 : decode cX12_rings 168 = .ok (.aload_n 1, 1) := by decide +kernel
theorem dX12_rings_169 : decode cX12_rings 169 = .ok (.invokevirtual 216, 3) := by decide +kernel
theorem dX12_rings_172 : decode cX12_rings 172 = .ok (.return_, 1) := by decide +kernel
theorem dX12_noRows_0 : decode cX12_noRows 0 = .ok (.iload_n 1, 1) := by decide +kernel
theorem dX12_noRows_1 : decode cX12_noRows 1 = .ok (.iconst 1, 1) := by decide +kernel
theorem dX12_noRows_2 : decode cX12_noRows 2 = .ok (.iload_n 2, 1) := by decide +kernel
theorem dX12_noRows_3 : decode cX12_noRows 3 = .ok (.invokestatic 75, 3) := by decide +kernel
theorem dX12_noRows_6 : decode cX12_noRows 6 = .ok (.ifCond .ne 8, 3) := by decide +kernel
theorem dX12_noRows_9 : decode cX12_noRows 9 = .ok (.ldc 82, 2) := by decide +kernel
theorem dX12_noRows_11 : decode cX12_noRows 11 = .ok (.goto 33, 3) := by decide +kernel
theorem dX12_noRows_14 : decode cX12_noRows 14 = .ok (.aload_n 0, 1) := by decide +kernel
theorem dX12_noRows_15 : decode cX12_noRows 15 = .ok (.invokevirtual 193, 3) := by decide +kernel
theorem dX12_noRows_18 : decode cX12_noRows 18 = .ok (.ifCond .ne 8, 3) := by decide +kernel
theorem dX12_noRows_21 : decode cX12_noRows 21 = .ok (.ldc 196, 2) := by decide +kernel
theorem dX12_noRows_23 : decode cX12_noRows 23 = .ok (.goto 21, 3) := by decide +kernel
theorem dX12_noRows_26 : decode cX12_noRows 26 = .ok (.aload_n 0, 1) := by decide +kernel
theorem dX12_noRows_27 : decode cX12_noRows 27 = .ok (.getfield 35, 3) := by decide +kernel
theorem dX12_noRows_30 : decode cX12_noRows 30 = .ok (.iconst 0, 1) := by decide +kernel
theorem dX12_noRows_31 : decode cX12_noRows 31 = .ok (.iaload, 1) := by decide +kernel
theorem dX12_noRows_32 : decode cX12_noRows 32 = .ok (.sipush 9000, 3) := by decide +kernel
theorem dX12_noRows_35 : decode cX12_noRows 35 = .ok (.if_icmp .le 8, 3) := by decide +kernel
theorem dX12_noRows_38 : decode cX12_noRows 38 = .ok (.ldc 86, 2) := by decide +kernel
theorem dX12_noRows_40 : decode cX12_noRows 40 = .ok (.goto 4, 3) := by decide +kernel
theorem dX12_noRows_43 : decode cX12_noRows 43 = .ok (.iconst 0, 1) := by decide +kernel
theorem dX12_noRows_44 : decode cX12_noRows 44 = .ok (.ireturn, 1) := by decide +kernel
theorem dX12_ring_0 : decode cX12_ring 0 = .ok (.aload_n 0, 1) := by decide +kernel
theorem dX12_ring_1 : decode cX12_ring 1 = .ok (.iload_n 1, 1) := by decide +kernel
theorem dX12_ring_2 : decode cX12_ring 2 = .ok (.sipush 200, 3) := by decide +kernel
theorem dX12_ring_5 : decode cX12_ring 5 = .ok (.invokevirtual 219, 3) := by decide +kernel
theorem dX12_ring_8 : decode cX12_ring 8 = .ok (.istore_n 2, 1) := by decide +kernel
theorem dX12_ring_9 : decode cX12_ring 9 = .ok (.iload_n 2, 1) := by decide +kernel
theorem dX12_ring_10 : decode cX12_ring 10 = .ok (.ifCond .eq 5, 3) := by decide +kernel
theorem dX12_ring_13 : decode cX12_ring 13 = .ok (.iload_n 2, 1) := by decide +kernel
theorem dX12_ring_14 : decode cX12_ring 14 = .ok (.ireturn, 1) := by decide +kernel
theorem dX12_ring_15 : decode cX12_ring 15 = .ok (.aload_n 0, 1) := by decide +kernel
theorem dX12_ring_16 : decode cX12_ring 16 = .ok (.invokevirtual 223, 3) := by decide +kernel
theorem dX12_ring_19 : decode cX12_ring 19 = .ok (.iconst 0, 1) := by decide +kernel
theorem dX12_ring_20 : decode cX12_ring 20 = .ok (.istore_n 3, 1) := by decide +kernel
theorem dX12_ring_21 : decode cX12_ring 21 = .ok (.iload_n 3, 1) := by decide +kernel
theorem dX12_ring_22 : decode cX12_ring 22 = .ok (.iload_n 1, 1) := by decide +kernel
theorem dX12_ring_23 : decode cX12_ring 23 = .ok (.if_icmp .ge 17, 3) := by decide +kernel
theorem dX12_ring_26 : decode cX12_ring 26 = .ok (.aload_n 0, 1) := by decide +kernel
theorem dX12_ring_27 : decode cX12_ring 27 = .ok (.aload_n 0, 1) := by decide +kernel
theorem dX12_ring_28 : decode cX12_ring 28 = .ok (.getfield 35, 3) := by decide +kernel
theorem dX12_ring_31 : decode cX12_ring 31 = .ok (.invokevirtual 226, 3) := by decide +kernel
theorem dX12_ring_34 : decode cX12_ring 34 = .ok (.iinc 3 1, 3) := by decide +kernel
theorem dX12_ring_37 : decode cX12_ring 37 = .ok (.goto (-16), 3) := by decide +kernel
theorem dX12_ring_40 : decode cX12_ring 40 = .ok (.aload_n 0, 1) := by decide +kernel
theorem dX12_ring_41 : decode cX12_ring 41 = .ok (.aload_n 0, 1) := by decide +kernel
theorem dX12_ring_42 : decode cX12_ring 42 = .ok (.getfield 35, 3) := by decide +kernel
theorem dX12_ring_45 : decode cX12_ring 45 = .ok (.invokevirtual 182, 3) := by decide +kernel
theorem dX12_ring_48 : decode cX12_ring 48 = .ok (.ireturn, 1) := by decide +kernel
theorem dX12_call_0 : decode cX12_call 0 = .ok (.aload_n 0, 1) := by decide +kernel
theorem dX12_call_1 : decode cX12_call 1 = .ok (.invokevirtual 193, 3) := by decide +kernel
theorem dX12_call_4 : decode cX12_call 4 = .ok (.ifCond .eq 13, 3) := by decide +kernel
theorem dX12_call_7 : decode cX12_call 7 = .ok (.aload_n 0, 1) := by decide +kernel
theorem dX12_call_8 : decode cX12_call 8 = .ok (.getfield 35, 3) := by decide +kernel
theorem dX12_call_11 : decode cX12_call 11 = .ok (.iconst 2, 1) := by decide +kernel
theorem dX12_call_12 : decode cX12_call 12 = .ok (.iaload, 1) := by decide +kernel
theorem dX12_call_13 : decode cX12_call 13 = .ok (.iconst 1, 1) := by decide +kernel
theorem dX12_call_14 : decode cX12_call 14 = .ok (.if_icmp .ne 6, 3) := by decide +kernel
theorem dX12_call_17 : decode cX12_call 17 = .ok (.ldc 196, 2) := by decide +kernel
theorem dX12_call_19 : decode cX12_call 19 = .ok (.ireturn, 1) := by decide +kernel
theorem dX12_call_20 : decode cX12_call 20 = .ok (.aload_n 0, 1) := by decide +kernel
theorem dX12_call_21 : decode cX12_call 21 = .ok (.invokevirtual 223, 3) := by decide +kernel
theorem dX12_call_24 : decode cX12_call 24 = .ok (.aload_n 0, 1) := by decide +kernel
theorem dX12_call_25 : decode cX12_call 25 = .ok (.getfield 35, 3) := by decide +kernel
theorem dX12_call_28 : decode cX12_call 28 = .ok (.iconst 2, 1) := by decide +kernel
theorem dX12_call_29 : decode cX12_call 29 = .ok (.iconst 1, 1) := by decide +kernel
theorem dX12_call_30 : decode cX12_call 30 = .ok (.iastore, 1) := by decide +kernel
theorem dX12_call_31 : decode cX12_call 31 = .ok (.aload_n 0, 1) := by decide +kernel
theorem dX12_call_32 : decode cX12_call 32 = .ok (.getfield 35, 3) := by decide +kernel
theorem dX12_call_35 : decode cX12_call 35 = .ok (.iconst 1, 1) := by decide +kernel
theorem dX12_call_36 : decode cX12_call 36 = .ok (.iaload, 1) := by decide +kernel
theorem dX12_call_37 : decode cX12_call 37 = .ok (.aload_n 0, 1) := by decide +kernel
theorem dX12_call_38 : decode cX12_call 38 = .ok (.getfield 163, 3) := by decide +kernel
theorem dX12_call_41 : decode cX12_call 41 = .ok (.irem, 1) := by decide +kernel
theorem dX12_call_42 : decode cX12_call 42 = .ok (.ireturn, 1) := by decide +kernel
theorem dX12_swaps_0 : decode cX12_swaps 0 = .ok (.aload_n 0, 1) := by decide +kernel
theorem dX12_swaps_1 : decode cX12_swaps 1 = .ok (.bipush 11, 2) := by decide +kernel
theorem dX12_swaps_3 : decode cX12_swaps 3 = .ok (.iload_n 1, 1) := by decide +kernel
theorem dX12_swaps_4 : decode cX12_swaps 4 = .ok (.iadd, 1) := by decide +kernel
theorem dX12_swaps_5 : decode cX12_swaps 5 = .ok (.iaload, 1) := by decide +kernel
theorem dX12_swaps_6 : decode cX12_swaps 6 = .ok (.istore_n 3, 1) := by decide +kernel
theorem dX12_swaps_7 : decode cX12_swaps 7 = .ok (.aload_n 0, 1) := by decide +kernel
theorem dX12_swaps_8 : decode cX12_swaps 8 = .ok (.bipush 11, 2) := by decide +kernel
theorem dX12_swaps_10 : decode cX12_swaps 10 = .ok (.iload_n 1, 1) := by decide +kernel
theorem dX12_swaps_11 : decode cX12_swaps 11 = .ok (.iadd, 1) := by decide +kernel
theorem dX12_swaps_12 : decode cX12_swaps 12 = .ok (.aload_n 0, 1) := by decide +kernel
theorem dX12_swaps_13 : decode cX12_swaps 13 = .ok (.bipush 11, 2) := by decide +kernel
theorem dX12_swaps_15 : decode cX12_swaps 15 = .ok (.iload_n 2, 1) := by decide +kernel
theorem dX12_swaps_16 : decode cX12_swaps 16 = .ok (.iadd, 1) := by decide +kernel
theorem dX12_swaps_17 : decode cX12_swaps 17 = .ok (.iaload, 1) := by decide +kernel
theorem dX12_swaps_18 : decode cX12_swaps 18 = .ok (.iastore, 1) := by decide +kernel
theorem dX12_swaps_19 : decode cX12_swaps 19 = .ok (.aload_n 0, 1) := by decide +kernel
theorem dX12_swaps_20 : decode cX12_swaps 20 = .ok (.bipush 11, 2) := by decide +kernel
theorem dX12_swaps_22 : decode cX12_swaps 22 = .ok (.iload_n 2, 1) := by decide +kernel
theorem dX12_swaps_23 : decode cX12_swaps 23 = .ok (.iadd, 1) := by decide +kernel
theorem dX12_swaps_24 : decode cX12_swaps 24 = .ok (.iload_n 3, 1) := by decide +kernel
theorem dX12_swaps_25 : decode cX12_swaps 25 = .ok (.iastore, 1) := by decide +kernel
theorem dX12_swaps_26 : decode cX12_swaps 26 = .ok (.return_, 1) := by decide +kernel
theorem dX12_swap_0 : decode cX12_swap 0 = .ok (.aload_n 0, 1) := by decide +kernel
theorem dX12_swap_1 : decode cX12_swap 1 = .ok (.iload_n 1, 1) := by decide +kernel
theorem dX12_swap_2 : decode cX12_swap 2 = .ok (.invokevirtual 209, 3) := by decide +kernel
theorem dX12_swap_5 : decode cX12_swap 5 = .ok (.ifCond .eq 16, 3) := by decide +kernel
theorem dX12_swap_8 : decode cX12_swap 8 = .ok (.aload_n 0, 1) := by decide +kernel
theorem dX12_swap_9 : decode cX12_swap 9 = .ok (.iload_n 2, 1) := by decide +kernel
theorem dX12_swap_10 : decode cX12_swap 10 = .ok (.invokevirtual 209, 3) := by decide +kernel
theorem dX12_swap_13 : decode cX12_swap 13 = .ok (.ifCond .eq 8, 3) := by decide +kernel
theorem dX12_swap_16 : decode cX12_swap 16 = .ok (.iload_n 1, 1) := by decide +kernel
theorem dX12_swap_17 : decode cX12_swap 17 = .ok (.iload_n 2, 1) := by decide +kernel
theorem dX12_swap_18 : decode cX12_swap 18 = .ok (.if_icmp .ne 6, 3) := by decide +kernel
theorem dX12_swap_21 : decode cX12_swap 21 = .ok (.ldc 200, 2) := by decide +kernel
theorem dX12_swap_23 : decode cX12_swap 23 = .ok (.ireturn, 1) := by decide +kernel
theorem dX12_swap_24 : decode cX12_swap 24 = .ok (.aload_n 0, 1) := by decide +kernel
theorem dX12_swap_25 : decode cX12_swap 25 = .ok (.invokevirtual 223, 3) := by decide +kernel
theorem dX12_swap_28 : decode cX12_swap 28 = .ok (.aload_n 0, 1) := by decide +kernel
theorem dX12_swap_29 : decode cX12_swap 29 = .ok (.getfield 35, 3) := by decide +kernel
theorem dX12_swap_32 : decode cX12_swap 32 = .ok (.iload_n 1, 1) := by decide +kernel
theorem dX12_swap_33 : decode cX12_swap 33 = .ok (.iload_n 2, 1) := by decide +kernel
theorem dX12_swap_34 : decode cX12_swap 34 = .ok (.invokestatic 229, 3) := by decide +kernel
theorem dX12_swap_37 : decode cX12_swap 37 = .ok (.aload_n 0, 1) := by decide +kernel
theorem dX12_swap_38 : decode cX12_swap 38 = .ok (.getfield 35, 3) := by decide +kernel
theorem dX12_swap_41 : decode cX12_swap 41 = .ok (.bipush 11, 2) := by decide +kernel
theorem dX12_swap_43 : decode cX12_swap 43 = .ok (.iload_n 1, 1) := by decide +kernel
theorem dX12_swap_44 : decode cX12_swap 44 = .ok (.iadd, 1) := by decide +kernel
theorem dX12_swap_45 : decode cX12_swap 45 = .ok (.iaload, 1) := by decide +kernel
theorem dX12_swap_46 : decode cX12_swap 46 = .ok (.ireturn, 1) := by decide +kernel
theorem dX12_stand_0 : decode cX12_stand 0 = .ok (.aload_n 0, 1) := by decide +kernel
theorem dX12_stand_1 : decode cX12_stand 1 = .ok (.invokevirtual 193, 3) := by decide +kernel
theorem dX12_stand_4 : decode cX12_stand 4 = .ok (.ifCond .ne 6, 3) := by decide +kernel
theorem dX12_stand_7 : decode cX12_stand 7 = .ok (.ldc 196, 2) := by decide +kernel
theorem dX12_stand_9 : decode cX12_stand 9 = .ok (.ireturn, 1) := by decide +kernel
theorem dX12_stand_10 : decode cX12_stand 10 = .ok (.aload_n 0, 1) := by decide +kernel
theorem dX12_stand_11 : decode cX12_stand 11 = .ok (.invokevirtual 223, 3) := by decide +kernel
theorem dX12_stand_14 : decode cX12_stand 14 = .ok (.aload_n 0, 1) := by decide +kernel
theorem dX12_stand_15 : decode cX12_stand 15 = .ok (.aload_n 0, 1) := by decide +kernel
theorem dX12_stand_16 : decode cX12_stand 16 = .ok (.getfield 35, 3) := by decide +kernel
theorem dX12_stand_19 : decode cX12_stand 19 = .ok (.invokevirtual 182, 3) := by decide +kernel
theorem dX12_stand_22 : decode cX12_stand 22 = .ok (.istore_n 1, 1) := by decide +kernel
theorem dX12_stand_23 : decode cX12_stand 23 = .ok (.aload_n 0, 1) := by decide +kernel
theorem dX12_stand_24 : decode cX12_stand 24 = .ok (.getfield 35, 3) := by decide +kernel
theorem dX12_stand_27 : decode cX12_stand 27 = .ok (.invokestatic 169, 3) := by decide +kernel
theorem dX12_stand_30 : decode cX12_stand 30 = .ok (.iconst 0, 1) := by decide +kernel
theorem dX12_stand_31 : decode cX12_stand 31 = .ok (.istore_n 2, 1) := by decide +kernel
theorem dX12_stand_32 : decode cX12_stand 32 = .ok (.iload_n 2, 1) := by decide +kernel
theorem dX12_stand_33 : decode cX12_stand 33 = .ok (.bipush 6, 2) := by decide +kernel
theorem dX12_stand_35 : decode cX12_stand 35 = .ok (.if_icmp .ge 19, 3) := by decide +kernel
theorem dX12_stand_38 : decode cX12_stand 38 = .ok (.aload_n 0, 1) := by decide +kernel
theorem dX12_stand_39 : decode cX12_stand 39 = .ok (.getfield 35, 3) := by decide +kernel
theorem dX12_stand_42 : decode cX12_stand 42 = .ok (.bipush 17, 2) := by decide +kernel
theorem dX12_stand_44 : decode cX12_stand 44 = .ok (.iload_n 2, 1) := by decide +kernel
theorem dX12_stand_45 : decode cX12_stand 45 = .ok (.iadd, 1) := by decide +kernel
theorem dX12_stand_46 : decode cX12_stand 46 = .ok (.iconst 0, 1) := by decide +kernel
theorem dX12_stand_47 : decode cX12_stand 47 = .ok (.iastore, 1) := by decide +kernel
theorem dX12_stand_48 : decode cX12_stand 48 = .ok (.iinc 2 1, 3) := by decide +kernel
theorem dX12_stand_51 : decode cX12_stand 51 = .ok (.goto (-19), 3) := by decide +kernel
theorem dX12_stand_54 : decode cX12_stand 54 = .ok (.iload_n 1, 1) := by decide +kernel
theorem dX12_stand_55 : decode cX12_stand 55 = .ok (.ireturn, 1) := by decide +kernel
theorem dX12_wet_0 : decode cX12_wet 0 = .ok (.aload_n 0, 1) := by decide +kernel
theorem dX12_wet_1 : decode cX12_wet 1 = .ok (.invokevirtual 193, 3) := by decide +kernel
theorem dX12_wet_4 : decode cX12_wet 4 = .ok (.ifCond .ne 6, 3) := by decide +kernel
theorem dX12_wet_7 : decode cX12_wet 7 = .ok (.ldc 196, 2) := by decide +kernel
theorem dX12_wet_9 : decode cX12_wet 9 = .ok (.ireturn, 1) := by decide +kernel
theorem dX12_wet_10 : decode cX12_wet 10 = .ok (.aload_n 0, 1) := by decide +kernel
theorem dX12_wet_11 : decode cX12_wet 11 = .ok (.invokevirtual 223, 3) := by decide +kernel
theorem dX12_wet_14 : decode cX12_wet 14 = .ok (.aload_n 0, 1) := by decide +kernel
theorem dX12_wet_15 : decode cX12_wet 15 = .ok (.getfield 35, 3) := by decide +kernel
theorem dX12_wet_18 : decode cX12_wet 18 = .ok (.iconst 3, 1) := by decide +kernel
theorem dX12_wet_19 : decode cX12_wet 19 = .ok (.iaload, 1) := by decide +kernel
theorem dX12_wet_20 : decode cX12_wet 20 = .ok (.istore_n 2, 1) := by decide +kernel
theorem dX12_wet_21 : decode cX12_wet 21 = .ok (.aload_n 0, 1) := by decide +kernel
theorem dX12_wet_22 : decode cX12_wet 22 = .ok (.getfield 35, 3) := by decide +kernel
theorem dX12_wet_25 : decode cX12_wet 25 = .ok (.iconst 3, 1) := by decide +kernel
theorem dX12_wet_26 : decode cX12_wet 26 = .ok (.iload_n 1, 1) := by decide +kernel
theorem dX12_wet_27 : decode cX12_wet 27 = .ok (.ifCond .eq 7, 3) := by decide +kernel
theorem dX12_wet_30 : decode cX12_wet 30 = .ok (.iconst 1, 1) := by decide +kernel
theorem dX12_wet_31 : decode cX12_wet 31 = .ok (.goto 4, 3) := by decide +kernel
theorem dX12_wet_34 : decode cX12_wet 34 = .ok (.iconst 0, 1) := by decide +kernel
theorem dX12_wet_35 : decode cX12_wet 35 = .ok (.iastore, 1) := by decide +kernel
theorem dX12_wet_36 : decode cX12_wet 36 = .ok (.iload_n 2, 1) := by decide +kernel
theorem dX12_wet_37 : decode cX12_wet 37 = .ok (.ireturn, 1) := by decide +kernel
theorem dX12_forgive_0 : decode cX12_forgive 0 = .ok (.aload_n 0, 1) := by decide +kernel
theorem dX12_forgive_1 : decode cX12_forgive 1 = .ok (.iload_n 1, 1) := by decide +kernel
theorem dX12_forgive_2 : decode cX12_forgive 2 = .ok (.invokevirtual 209, 3) := by decide +kernel
theorem dX12_forgive_5 : decode cX12_forgive 5 = .ok (.ifCond .ne 6, 3) := by decide +kernel
theorem dX12_forgive_8 : decode cX12_forgive 8 = .ok (.ldc 200, 2) := by decide +kernel
theorem dX12_forgive_10 : decode cX12_forgive 10 = .ok (.ireturn, 1) := by decide +kernel
theorem dX12_forgive_11 : decode cX12_forgive 11 = .ok (.aload_n 0, 1) := by decide +kernel
theorem dX12_forgive_12 : decode cX12_forgive 12 = .ok (.getfield 35, 3) := by decide +kernel
theorem dX12_forgive_15 : decode cX12_forgive 15 = .ok (.iconst 4, 1) := by decide +kernel
theorem dX12_forgive_16 : decode cX12_forgive 16 = .ok (.iaload, 1) := by decide +kernel
theorem dX12_forgive_17 : decode cX12_forgive 17 = .ok (.iload_n 1, 1) := by decide +kernel
theorem dX12_forgive_18 : decode cX12_forgive 18 = .ok (.invokestatic 112, 3) := by decide +kernel
theorem dX12_forgive_21 : decode cX12_forgive 21 = .ok (.ifCond .ne 6, 3) := by decide +kernel
theorem dX12_forgive_24 : decode cX12_forgive 24 = .ok (.ldc 196, 2) := by decide +kernel
theorem dX12_forgive_26 : decode cX12_forgive 26 = .ok (.ireturn, 1) := by decide +kernel
theorem dX12_forgive_27 : decode cX12_forgive 27 = .ok (.aload_n 0, 1) := by decide +kernel
theorem dX12_forgive_28 : decode cX12_forgive 28 = .ok (.invokevirtual 223, 3) := by decide +kernel
theorem dX12_forgive_31 : decode cX12_forgive 31 = .ok (.aload_n 0, 1) := by decide +kernel
theorem dX12_forgive_32 : decode cX12_forgive 32 = .ok (.getfield 35, 3) := by decide +kernel
theorem dX12_forgive_35 : decode cX12_forgive 35 = .ok (.iconst 4, 1) := by decide +kernel
theorem dX12_forgive_36 : decode cX12_forgive 36 = .ok (.aload_n 0, 1) := by decide +kernel
theorem dX12_forgive_37 : decode cX12_forgive 37 = .ok (.getfield 35, 3) := by decide +kernel
theorem dX12_forgive_40 : decode cX12_forgive 40 = .ok (.iconst 4, 1) := by decide +kernel
theorem dX12_forgive_41 : decode cX12_forgive 41 = .ok (.iaload, 1) := by decide +kernel
theorem dX12_forgive_42 : decode cX12_forgive 42 = .ok (.iconst 1, 1) := by decide +kernel
theorem dX12_forgive_43 : decode cX12_forgive 43 = .ok (.iload_n 1, 1) := by decide +kernel
theorem dX12_forgive_44 : decode cX12_forgive 44 = .ok (.ishl, 1) := by decide +kernel
theorem dX12_forgive_45 : decode cX12_forgive 45 = .ok (.iconst (-1), 1) := by decide +kernel
theorem dX12_forgive_46 : decode cX12_forgive 46 = .ok (.ixor, 1) := by decide +kernel
theorem dX12_forgive_47 : decode cX12_forgive 47 = .ok (.iand, 1) := by decide +kernel
theorem dX12_forgive_48 : decode cX12_forgive 48 = .ok (.iastore, 1) := by decide +kernel
theorem dX12_forgive_49 : decode cX12_forgive 49 = .ok (.aload_n 0, 1) := by decide +kernel
theorem dX12_forgive_50 : decode cX12_forgive 50 = .ok (.getfield 35, 3) := by decide +kernel
theorem dX12_forgive_53 : decode cX12_forgive 53 = .ok (.iconst 4, 1) := by decide +kernel
theorem dX12_forgive_54 : decode cX12_forgive 54 = .ok (.iaload, 1) := by decide +kernel
theorem dX12_forgive_55 : decode cX12_forgive 55 = .ok (.ireturn, 1) := by decide +kernel
theorem dX12_draw_0 : decode cX12_draw 0 = .ok (.aload_n 0, 1) := by decide +kernel
theorem dX12_draw_1 : decode cX12_draw 1 = .ok (.aload_n 0, 1) := by decide +kernel
theorem dX12_draw_2 : decode cX12_draw 2 = .ok (.getfield 233, 3) := by decide +kernel
theorem dX12_draw_5 : decode cX12_draw 5 = .ok (.i2l, 1) := by decide +kernel
theorem dX12_draw_6 : decode cX12_draw 6 = .ok (.ldc2_w 236, 3) := by decide +kernel
theorem dX12_draw_9 : decode cX12_draw 9 = .ok (.lmul, 1) := by decide +kernel
theorem dX12_draw_10 : decode cX12_draw 10 = .ok (.ldc2_w 238, 3) := by decide +kernel
theorem dX12_draw_13 : decode cX12_draw 13 = .ok (.ladd, 1) := by decide +kernel
theorem dX12_draw_14 : decode cX12_draw 14 = .ok (.ldc2_w 240, 3) := by decide +kernel
theorem dX12_draw_17 : decode cX12_draw 17 = .ok (.lrem, 1) := by decide +kernel
theorem dX12_draw_18 : decode cX12_draw 18 = .ok (.l2i, 1) := by decide +kernel
theorem dX12_draw_19 : decode cX12_draw 19 = .ok (.putfield 233, 3) := by decide +kernel
theorem dX12_draw_22 : decode cX12_draw 22 = .ok (.aload_n 0, 1) := by decide +kernel
theorem dX12_draw_23 : decode cX12_draw 23 = .ok (.getfield 233, 3) := by decide +kernel
theorem dX12_draw_26 : decode cX12_draw 26 = .ok (.ldc 242, 2) := by decide +kernel
theorem dX12_draw_28 : decode cX12_draw 28 = .ok (.idiv, 1) := by decide +kernel
theorem dX12_draw_29 : decode cX12_draw 29 = .ok (.iload_n 1, 1) := by decide +kernel
theorem dX12_draw_30 : decode cX12_draw 30 = .ok (.irem, 1) := by decide +kernel
theorem dX12_draw_31 : decode cX12_draw 31 = .ok (.ireturn, 1) := by decide +kernel
theorem dX12_chance_0 : decode cX12_chance 0 = .ok (.aload_n 0, 1) := by decide +kernel
theorem dX12_chance_1 : decode cX12_chance 1 = .ok (.bipush 8, 2) := by decide +kernel
theorem dX12_chance_3 : decode cX12_chance 3 = .ok (.invokevirtual 243, 3) := by decide +kernel
theorem dX12_chance_6 : decode cX12_chance 6 = .ok (.istore_n 1, 1) := by decide +kernel
theorem dX12_chance_7 : decode cX12_chance 7 = .ok (.iload_n 1, 1) := by decide +kernel
theorem dX12_chance_8 : decode cX12_chance 8 = .ok (.ifCond .ne 10, 3) := by decide +kernel
theorem dX12_chance_11 : decode cX12_chance 11 = .ok (.aload_n 0, 1) := by decide +kernel
theorem dX12_chance_12 : decode cX12_chance 12 = .ok (.getfield 35, 3) := by decide +kernel
theorem dX12_chance_15 : decode cX12_chance 15 = .ok (.iconst 2, 1) := by decide +kernel
theorem dX12_chance_16 : decode cX12_chance 16 = .ok (.iconst 1, 1) := by decide +kernel
theorem dX12_chance_17 : decode cX12_chance 17 = .ok (.iastore, 1) := by decide +kernel
theorem dX12_chance_18 : decode cX12_chance 18 = .ok (.iload_n 1, 1) := by decide +kernel
theorem dX12_chance_19 : decode cX12_chance 19 = .ok (.iconst 1, 1) := by decide +kernel
theorem dX12_chance_20 : decode cX12_chance 20 = .ok (.if_icmp .ne 17, 3) := by decide +kernel
theorem dX12_chance_23 : decode cX12_chance 23 = .ok (.aload_n 0, 1) := by decide +kernel
theorem dX12_chance_24 : decode cX12_chance 24 = .ok (.getfield 35, 3) := by decide +kernel
theorem dX12_chance_27 : decode cX12_chance 27 = .ok (.iconst 3, 1) := by decide +kernel
theorem dX12_chance_28 : decode cX12_chance 28 = .ok (.iconst 1, 1) := by decide +kernel
theorem dX12_chance_29 : decode cX12_chance 29 = .ok (.aload_n 0, 1) := by decide +kernel
theorem dX12_chance_30 : decode cX12_chance 30 = .ok (.getfield 35, 3) := by decide +kernel
theorem dX12_chance_33 : decode cX12_chance 33 = .ok (.iconst 3, 1) := by decide +kernel
theorem dX12_chance_34 : decode cX12_chance 34 = .ok (.iaload, 1) := by decide +kernel
end
section
theorem dX12_chance_35 : decode cX12_chance 35 = .ok (.isub, 1) := by decide +kernel
theorem dX12_chance_36 : decode cX12_chance 36 = .ok (.iastore, 1) := by decide +kernel
theorem dX12_chance_37 : decode cX12_chance 37 = .ok (.iload_n 1, 1) := by decide +kernel
theorem dX12_chance_38 : decode cX12_chance 38 = .ok (.iconst 2, 1) := by decide +kernel
theorem dX12_chance_39 : decode cX12_chance 39 = .ok (.if_icmp .ne 42, 3) := by decide +kernel
theorem dX12_chance_42 : decode cX12_chance 42 = .ok (.aload_n 0, 1) := by decide +kernel
theorem dX12_chance_43 : decode cX12_chance 43 = .ok (.getfield 79, 3) := by decide +kernel
theorem dX12_chance_46 : decode cX12_chance 46 = .ok (.ifCond .le 35, 3) := by decide +kernel
theorem dX12_chance_49 : decode cX12_chance 49 = .ok (.aload_n 0, 1) := by decide +kernel
theorem dX12_chance_50 : decode cX12_chance 50 = .ok (.aload_n 0, 1) := by decide +kernel
theorem dX12_chance_51 : decode cX12_chance 51 = .ok (.getfield 79, 3) := by decide +kernel
theorem dX12_chance_54 : decode cX12_chance 54 = .ok (.invokevirtual 243, 3) := by decide +kernel
theorem dX12_chance_57 : decode cX12_chance 57 = .ok (.istore_n 2, 1) := by decide +kernel
theorem dX12_chance_58 : decode cX12_chance 58 = .ok (.aload_n 0, 1) := by decide +kernel
theorem dX12_chance_59 : decode cX12_chance 59 = .ok (.aload_n 0, 1) := by decide +kernel
theorem dX12_chance_60 : decode cX12_chance 60 = .ok (.getfield 79, 3) := by decide +kernel
theorem dX12_chance_63 : decode cX12_chance 63 = .ok (.invokevirtual 243, 3) := by decide +kernel
theorem dX12_chance_66 : decode cX12_chance 66 = .ok (.istore_n 3, 1) := by decide +kernel
theorem dX12_chance_67 : decode cX12_chance 67 = .ok (.iload_n 2, 1) := by decide +kernel
theorem dX12_chance_68 : decode cX12_chance 68 = .ok (.iload_n 3, 1) := by decide +kernel
theorem dX12_chance_69 : decode cX12_chance 69 = .ok (.if_icmp .eq 12, 3) := by decide +kernel
theorem dX12_chance_72 : decode cX12_chance 72 = .ok (.aload_n 0, 1) := by decide +kernel
theorem dX12_chance_73 : decode cX12_chance 73 = .ok (.getfield 35, 3) := by decide +kernel
theorem dX12_chance_76 : decode cX12_chance 76 = .ok (.iload_n 2, 1) := by decide +kernel
theorem dX12_chance_77 : decode cX12_chance 77 = .ok (.iload_n 3, 1) := by decide +kernel
theorem dX12_chance_78 : decode cX12_chance 78 = .ok (.invokestatic 229, 3) := by decide +kernel
theorem dX12_chance_81 : decode cX12_chance 81 = .ok (.return_, 1) := by decide +kernel
theorem dX12_drift_0 : decode cX12_drift 0 = .ok (.aload_n 0, 1) := by decide +kernel
theorem dX12_drift_1 : decode cX12_drift 1 = .ok (.iload_n 1, 1) := by decide +kernel
theorem dX12_drift_2 : decode cX12_drift 2 = .ok (.bipush 60, 2) := by decide +kernel
theorem dX12_drift_4 : decode cX12_drift 4 = .ok (.invokevirtual 219, 3) := by decide +kernel
theorem dX12_drift_7 : decode cX12_drift 7 = .ok (.istore_n 2, 1) := by decide +kernel
theorem dX12_drift_8 : decode cX12_drift 8 = .ok (.iload_n 2, 1) := by decide +kernel
theorem dX12_drift_9 : decode cX12_drift 9 = .ok (.ifCond .eq 5, 3) := by decide +kernel
theorem dX12_drift_12 : decode cX12_drift 12 = .ok (.iload_n 2, 1) := by decide +kernel
theorem dX12_drift_13 : decode cX12_drift 13 = .ok (.ireturn, 1) := by decide +kernel
theorem dX12_drift_14 : decode cX12_drift 14 = .ok (.aload_n 0, 1) := by decide +kernel
theorem dX12_drift_15 : decode cX12_drift 15 = .ok (.invokevirtual 223, 3) := by decide +kernel
theorem dX12_drift_18 : decode cX12_drift 18 = .ok (.iconst 0, 1) := by decide +kernel
theorem dX12_drift_19 : decode cX12_drift 19 = .ok (.istore_n 3, 1) := by decide +kernel
theorem dX12_drift_20 : decode cX12_drift 20 = .ok (.iload_n 3, 1) := by decide +kernel
theorem dX12_drift_21 : decode cX12_drift 21 = .ok (.iload_n 1, 1) := by decide +kernel
theorem dX12_drift_22 : decode cX12_drift 22 = .ok (.if_icmp .ge 21, 3) := by decide +kernel
theorem dX12_drift_25 : decode cX12_drift 25 = .ok (.aload_n 0, 1) := by decide +kernel
theorem dX12_drift_26 : decode cX12_drift 26 = .ok (.invokevirtual 246, 3) := by decide +kernel
theorem dX12_drift_29 : decode cX12_drift 29 = .ok (.aload_n 0, 1) := by decide +kernel
theorem dX12_drift_30 : decode cX12_drift 30 = .ok (.aload_n 0, 1) := by decide +kernel
theorem dX12_drift_31 : decode cX12_drift 31 = .ok (.getfield 35, 3) := by decide +kernel
theorem dX12_drift_34 : decode cX12_drift 34 = .ok (.invokevirtual 226, 3) := by decide +kernel
theorem dX12_drift_37 : decode cX12_drift 37 = .ok (.iinc 3 1, 3) := by decide +kernel
theorem dX12_drift_40 : decode cX12_drift 40 = .ok (.goto (-20), 3) := by decide +kernel
theorem dX12_drift_43 : decode cX12_drift 43 = .ok (.aload_n 0, 1) := by decide +kernel
theorem dX12_drift_44 : decode cX12_drift 44 = .ok (.aload_n 0, 1) := by decide +kernel
theorem dX12_drift_45 : decode cX12_drift 45 = .ok (.getfield 35, 3) := by decide +kernel
theorem dX12_drift_48 : decode cX12_drift 48 = .ok (.invokevirtual 182, 3) := by decide +kernel
theorem dX12_drift_51 : decode cX12_drift 51 = .ok (.ireturn, 1) := by decide +kernel
theorem dX12_undo_0 : decode cX12_undo 0 = .ok (.aload_n 0, 1) := by decide +kernel
theorem dX12_undo_1 : decode cX12_undo 1 = .ok (.getfield 179, 3) := by decide +kernel
theorem dX12_undo_4 : decode cX12_undo 4 = .ok (.ifCond .ne 6, 3) := by decide +kernel
theorem dX12_undo_7 : decode cX12_undo 7 = .ok (.ldc 196, 2) := by decide +kernel
theorem dX12_undo_9 : decode cX12_undo 9 = .ok (.ireturn, 1) := by decide +kernel
theorem dX12_undo_10 : decode cX12_undo 10 = .ok (.aload_n 0, 1) := by decide +kernel
theorem dX12_undo_11 : decode cX12_undo 11 = .ok (.dup, 1) := by decide +kernel
theorem dX12_undo_12 : decode cX12_undo 12 = .ok (.getfield 179, 3) := by decide +kernel
theorem dX12_undo_15 : decode cX12_undo 15 = .ok (.iconst 1, 1) := by decide +kernel
theorem dX12_undo_16 : decode cX12_undo 16 = .ok (.isub, 1) := by decide +kernel
theorem dX12_undo_17 : decode cX12_undo 17 = .ok (.putfield 179, 3) := by decide +kernel
theorem dX12_undo_20 : decode cX12_undo 20 = .ok (.aload_n 0, 1) := by decide +kernel
theorem dX12_undo_21 : decode cX12_undo 21 = .ok (.getfield 41, 3) := by decide +kernel
theorem dX12_undo_24 : decode cX12_undo 24 = .ok (.bipush 23, 2) := by decide +kernel
theorem dX12_undo_26 : decode cX12_undo 26 = .ok (.aload_n 0, 1) := by decide +kernel
theorem dX12_undo_27 : decode cX12_undo 27 = .ok (.getfield 179, 3) := by decide +kernel
theorem dX12_undo_30 : decode cX12_undo 30 = .ok (.imul, 1) := by decide +kernel
theorem dX12_undo_31 : decode cX12_undo 31 = .ok (.aload_n 0, 1) := by decide +kernel
theorem dX12_undo_32 : decode cX12_undo 32 = .ok (.getfield 35, 3) := by decide +kernel
theorem dX12_undo_35 : decode cX12_undo 35 = .ok (.iconst 0, 1) := by decide +kernel
theorem dX12_undo_36 : decode cX12_undo 36 = .ok (.bipush 23, 2) := by decide +kernel
theorem dX12_undo_38 : decode cX12_undo 38 = .ok (.invokestatic 159, 3) := by decide +kernel
theorem dX12_undo_41 : decode cX12_undo 41 = .ok (.aload_n 0, 1) := by decide +kernel
theorem dX12_undo_42 : decode cX12_undo 42 = .ok (.getfield 179, 3) := by decide +kernel
theorem dX12_undo_45 : decode cX12_undo 45 = .ok (.ireturn, 1) := by decide +kernel
theorem dX12_begin_0 : decode cX12_begin 0 = .ok (.aload_n 0, 1) := by decide +kernel
theorem dX12_begin_1 : decode cX12_begin 1 = .ok (.getfield 35, 3) := by decide +kernel
theorem dX12_begin_4 : decode cX12_begin 4 = .ok (.iconst 0, 1) := by decide +kernel
theorem dX12_begin_5 : decode cX12_begin 5 = .ok (.aload_n 0, 1) := by decide +kernel
theorem dX12_begin_6 : decode cX12_begin 6 = .ok (.getfield 38, 3) := by decide +kernel
theorem dX12_begin_9 : decode cX12_begin 9 = .ok (.iconst 0, 1) := by decide +kernel
theorem dX12_begin_10 : decode cX12_begin 10 = .ok (.bipush 23, 2) := by decide +kernel
theorem dX12_begin_12 : decode cX12_begin 12 = .ok (.invokestatic 159, 3) := by decide +kernel
theorem dX12_begin_15 : decode cX12_begin 15 = .ok (.return_, 1) := by decide +kernel
theorem dX12_goOn_0 : decode cX12_goOn 0 = .ok (.iconst 0, 1) := by decide +kernel
theorem dX12_goOn_1 : decode cX12_goOn 1 = .ok (.istore_n 2, 1) := by decide +kernel
theorem dX12_goOn_2 : decode cX12_goOn 2 = .ok (.iload_n 2, 1) := by decide +kernel
theorem dX12_goOn_3 : decode cX12_goOn 3 = .ok (.iload_n 1, 1) := by decide +kernel
theorem dX12_goOn_4 : decode cX12_goOn 4 = .ok (.if_icmp .ge 17, 3) := by decide +kernel
theorem dX12_goOn_7 : decode cX12_goOn 7 = .ok (.aload_n 0, 1) := by decide +kernel
theorem dX12_goOn_8 : decode cX12_goOn 8 = .ok (.aload_n 0, 1) := by decide +kernel
theorem dX12_goOn_9 : decode cX12_goOn 9 = .ok (.getfield 38, 3) := by decide +kernel
theorem dX12_goOn_12 : decode cX12_goOn 12 = .ok (.invokevirtual 226, 3) := by decide +kernel
theorem dX12_goOn_15 : decode cX12_goOn 15 = .ok (.iinc 2 1, 3) := by decide +kernel
theorem dX12_goOn_18 : decode cX12_goOn 18 = .ok (.goto (-16), 3) := by decide +kernel
theorem dX12_goOn_21 : decode cX12_goOn 21 = .ok (.return_, 1) := by decide +kernel
theorem dX12_rowAt_0 : decode cX12_rowAt 0 = .ok (.iload_n 1, 1) := by decide +kernel
theorem dX12_rowAt_1 : decode cX12_rowAt 1 = .ok (.iconst 0, 1) := by decide +kernel
theorem dX12_rowAt_2 : decode cX12_rowAt 2 = .ok (.sipush 500, 3) := by decide +kernel
theorem dX12_rowAt_5 : decode cX12_rowAt 5 = .ok (.invokestatic 75, 3) := by decide +kernel
theorem dX12_rowAt_8 : decode cX12_rowAt 8 = .ok (.ifCond .ne 6, 3) := by decide +kernel
theorem dX12_rowAt_11 : decode cX12_rowAt 11 = .ok (.ldc 82, 2) := by decide +kernel
theorem dX12_rowAt_13 : decode cX12_rowAt 13 = .ok (.ireturn, 1) := by decide +kernel
theorem dX12_rowAt_14 : decode cX12_rowAt 14 = .ok (.aload_n 0, 1) := by decide +kernel
theorem dX12_rowAt_15 : decode cX12_rowAt 15 = .ok (.invokevirtual 193, 3) := by decide +kernel
theorem dX12_rowAt_18 : decode cX12_rowAt 18 = .ok (.ifCond .ne 6, 3) := by decide +kernel
theorem dX12_rowAt_21 : decode cX12_rowAt 21 = .ok (.ldc 196, 2) := by decide +kernel
theorem dX12_rowAt_23 : decode cX12_rowAt 23 = .ok (.ireturn, 1) := by decide +kernel
theorem dX12_rowAt_24 : decode cX12_rowAt 24 = .ok (.aload_n 0, 1) := by decide +kernel
theorem dX12_rowAt_25 : decode cX12_rowAt 25 = .ok (.invokevirtual 249, 3) := by decide +kernel
theorem dX12_rowAt_28 : decode cX12_rowAt 28 = .ok (.aload_n 0, 1) := by decide +kernel
theorem dX12_rowAt_29 : decode cX12_rowAt 29 = .ok (.iload_n 1, 1) := by decide +kernel
theorem dX12_rowAt_30 : decode cX12_rowAt 30 = .ok (.invokevirtual 252, 3) := by decide +kernel
theorem dX12_rowAt_33 : decode cX12_rowAt 33 = .ok (.aload_n 0, 1) := by decide +kernel
theorem dX12_rowAt_34 : decode cX12_rowAt 34 = .ok (.aload_n 0, 1) := by decide +kernel
theorem dX12_rowAt_35 : decode cX12_rowAt 35 = .ok (.getfield 38, 3) := by decide +kernel
theorem dX12_rowAt_38 : decode cX12_rowAt 38 = .ok (.invokevirtual 182, 3) := by decide +kernel
theorem dX12_rowAt_41 : decode cX12_rowAt 41 = .ok (.ireturn, 1) := by decide +kernel
theorem dX12_placeAt_0 : decode cX12_placeAt 0 = .ok (.aload_n 0, 1) := by decide +kernel
theorem dX12_placeAt_1 : decode cX12_placeAt 1 = .ok (.iload_n 1, 1) := by decide +kernel
theorem dX12_placeAt_2 : decode cX12_placeAt 2 = .ok (.invokevirtual 197, 3) := by decide +kernel
theorem dX12_placeAt_5 : decode cX12_placeAt 5 = .ok (.ifCond .ne 6, 3) := by decide +kernel
theorem dX12_placeAt_8 : decode cX12_placeAt 8 = .ok (.ldc 200, 2) := by decide +kernel
theorem dX12_placeAt_10 : decode cX12_placeAt 10 = .ok (.ireturn, 1) := by decide +kernel
theorem dX12_placeAt_11 : decode cX12_placeAt 11 = .ok (.iload_n 2, 1) := by decide +kernel
theorem dX12_placeAt_12 : decode cX12_placeAt 12 = .ok (.iconst 0, 1) := by decide +kernel
theorem dX12_placeAt_13 : decode cX12_placeAt 13 = .ok (.sipush 500, 3) := by decide +kernel
theorem dX12_placeAt_16 : decode cX12_placeAt 16 = .ok (.invokestatic 75, 3) := by decide +kernel
theorem dX12_placeAt_19 : decode cX12_placeAt 19 = .ok (.ifCond .ne 6, 3) := by decide +kernel
theorem dX12_placeAt_22 : decode cX12_placeAt 22 = .ok (.ldc 82, 2) := by decide +kernel
theorem dX12_placeAt_24 : decode cX12_placeAt 24 = .ok (.ireturn, 1) := by decide +kernel
theorem dX12_placeAt_25 : decode cX12_placeAt 25 = .ok (.aload_n 0, 1) := by decide +kernel
theorem dX12_placeAt_26 : decode cX12_placeAt 26 = .ok (.invokevirtual 249, 3) := by decide +kernel
theorem dX12_placeAt_29 : decode cX12_placeAt 29 = .ok (.aload_n 0, 1) := by decide +kernel
theorem dX12_placeAt_30 : decode cX12_placeAt 30 = .ok (.iload_n 2, 1) := by decide +kernel
theorem dX12_placeAt_31 : decode cX12_placeAt 31 = .ok (.invokevirtual 252, 3) := by decide +kernel
theorem dX12_placeAt_34 : decode cX12_placeAt 34 = .ok (.aload_n 0, 1) := by decide +kernel
theorem dX12_placeAt_35 : decode cX12_placeAt 35 = .ok (.aload_n 0, 1) := by decide +kernel
theorem dX12_placeAt_36 : decode cX12_placeAt 36 = .ok (.getfield 38, 3) := by decide +kernel
theorem dX12_placeAt_39 : decode cX12_placeAt 39 = .ok (.iload_n 1, 1) := by decide +kernel
theorem dX12_placeAt_40 : decode cX12_placeAt 40 = .ok (.invokevirtual 201, 3) := by decide +kernel
theorem dX12_placeAt_43 : decode cX12_placeAt 43 = .ok (.ireturn, 1) := by decide +kernel
theorem dX12_roundsNow_0 : decode cX12_roundsNow 0 = .ok (.iconst 0, 1) := by decide +kernel
theorem dX12_roundsNow_1 : decode cX12_roundsNow 1 = .ok (.istore_n 1, 1) := by decide +kernel
theorem dX12_roundsNow_2 : decode cX12_roundsNow 2 = .ok (.iconst 0, 1) := by decide +kernel
theorem dX12_roundsNow_3 : decode cX12_roundsNow 3 = .ok (.istore_n 2, 1) := by decide +kernel
theorem dX12_roundsNow_4 : decode cX12_roundsNow 4 = .ok (.iload_n 2, 1) := by decide +kernel
theorem dX12_roundsNow_5 : decode cX12_roundsNow 5 = .ok (.aload_n 0, 1) := by decide +kernel
theorem dX12_roundsNow_6 : decode cX12_roundsNow 6 = .ok (.getfield 72, 3) := by decide +kernel
theorem dX12_roundsNow_9 : decode cX12_roundsNow 9 = .ok (.if_icmp .ge 18, 3) := by decide +kernel
theorem dX12_roundsNow_12 : decode cX12_roundsNow 12 = .ok (.bipush 10, 2) := by decide +kernel
theorem dX12_roundsNow_14 : decode cX12_roundsNow 14 = .ok (.iload_n 1, 1) := by decide +kernel
theorem dX12_roundsNow_15 : decode cX12_roundsNow 15 = .ok (.imul, 1) := by decide +kernel
theorem dX12_roundsNow_16 : decode cX12_roundsNow 16 = .ok (.iload_n 2, 1) := by decide +kernel
theorem dX12_roundsNow_17 : decode cX12_roundsNow 17 = .ok (.iadd, 1) := by decide +kernel
theorem dX12_roundsNow_18 : decode cX12_roundsNow 18 = .ok (.iconst 1, 1) := by decide +kernel
theorem dX12_roundsNow_19 : decode cX12_roundsNow 19 = .ok (.iadd, 1) := by decide +kernel
theorem dX12_roundsNow_20 : decode cX12_roundsNow 20 = .ok (.istore_n 1, 1) := by decide +kernel
theorem dX12_roundsNow_21 : decode cX12_roundsNow 21 = .ok (.iinc 2 1, 3) := by decide +kernel
theorem dX12_roundsNow_24 : decode cX12_roundsNow 24 = .ok (.goto (-20), 3) := by decide +kernel
theorem dX12_roundsNow_27 : decode cX12_roundsNow 27 = .ok (.iload_n 1, 1) := by decide +kernel
theorem dX12_roundsNow_28 : decode cX12_roundsNow 28 = .ok (.ireturn, 1) := by decide +kernel
theorem dX12_round_0 : decode cX12_round 0 = .ok (.aload_n 0, 1) := by decide +kernel
theorem dX12_round_1 : decode cX12_round 1 = .ok (.invokevirtual 193, 3) := by decide +kernel
theorem dX12_round_4 : decode cX12_round 4 = .ok (.ifCond .ne 6, 3) := by decide +kernel
theorem dX12_round_7 : decode cX12_round 7 = .ok (.ldc 196, 2) := by decide +kernel
theorem dX12_round_9 : decode cX12_round 9 = .ok (.ireturn, 1) := by decide +kernel
theorem dX12_round_10 : decode cX12_round 10 = .ok (.aload_n 0, 1) := by decide +kernel
theorem dX12_round_11 : decode cX12_round 11 = .ok (.invokevirtual 249, 3) := by decide +kernel
theorem dX12_round_14 : decode cX12_round 14 = .ok (.iconst 1, 1) := by decide +kernel
theorem dX12_round_15 : decode cX12_round 15 = .ok (.istore_n 1, 1) := by decide +kernel
theorem dX12_round_16 : decode cX12_round 16 = .ok (.iload_n 1, 1) := by decide +kernel
theorem dX12_round_17 : decode cX12_round 17 = .ok (.sipush 1000, 3) := by decide +kernel
theorem dX12_round_20 : decode cX12_round 20 = .ok (.if_icmp .gt 31, 3) := by decide +kernel
theorem dX12_round_23 : decode cX12_round 23 = .ok (.aload_n 0, 1) := by decide +kernel
theorem dX12_round_24 : decode cX12_round 24 = .ok (.iconst 1, 1) := by decide +kernel
theorem dX12_round_25 : decode cX12_round 25 = .ok (.invokevirtual 252, 3) := by decide +kernel
theorem dX12_round_28 : decode cX12_round 28 = .ok (.aload_n 0, 1) := by decide +kernel
theorem dX12_round_29 : decode cX12_round 29 = .ok (.aload_n 0, 1) := by decide +kernel
theorem dX12_round_30 : decode cX12_round 30 = .ok (.getfield 38, 3) := by decide +kernel
theorem dX12_round_33 : decode cX12_round 33 = .ok (.invokevirtual 182, 3) := by decide +kernel
theorem dX12_round_36 : decode cX12_round 36 = .ok (.aload_n 0, 1) := by decide +kernel
theorem dX12_round_37 : decode cX12_round 37 = .ok (.invokevirtual 256, 3) := by decide +kernel
theorem dX12_round_40 : decode cX12_round 40 = .ok (.if_icmp .ne 5, 3) := by decide +kernel
theorem dX12_round_43 : decode cX12_round 43 = .ok (.iload_n 1, 1) := by decide +kernel
theorem dX12_round_44 : decode cX12_round 44 = .ok (.ireturn, 1) := by decide +kernel
theorem dX12_round_45 : decode cX12_round 45 = .ok (.iinc 1 1, 3) := by decide +kernel
theorem dX12_round_48 : decode cX12_round 48 = .ok (.goto (-32), 3) := by decide +kernel
theorem dX12_round_51 : decode cX12_round 51 = .ok (.iconst (-1), 1) := by decide +kernel
theorem dX12_round_52 : decode cX12_round 52 = .ok (.ireturn, 1) := by decide +kernel
theorem dX12_isNew_0 : decode cX12_isNew 0 = .ok (.iconst 0, 1) := by decide +kernel
theorem dX12_isNew_1 : decode cX12_isNew 1 = .ok (.istore_n 2, 1) := by decide +kernel
theorem dX12_isNew_2 : decode cX12_isNew 2 = .ok (.iload_n 2, 1) := by decide +kernel
theorem dX12_isNew_3 : decode cX12_isNew 3 = .ok (.aload_n 0, 1) := by decide +kernel
theorem dX12_isNew_4 : decode cX12_isNew 4 = .ok (.getfield 259, 3) := by decide +kernel
theorem dX12_isNew_7 : decode cX12_isNew 7 = .ok (.if_icmp .ge 21, 3) := by decide +kernel
theorem dX12_isNew_10 : decode cX12_isNew 10 = .ok (.aload_n 0, 1) := by decide +kernel
theorem dX12_isNew_11 : decode cX12_isNew 11 = .ok (.getfield 60, 3) := by decide +kernel
theorem dX12_isNew_14 : decode cX12_isNew 14 = .ok (.iload_n 2, 1) := by decide +kernel
theorem dX12_isNew_15 : decode cX12_isNew 15 = .ok (.iaload, 1) := by decide +kernel
theorem dX12_isNew_16 : decode cX12_isNew 16 = .ok (.iload_n 1, 1) := by decide +kernel
theorem dX12_isNew_17 : decode cX12_isNew 17 = .ok (.if_icmp .ne 5, 3) := by decide +kernel
theorem dX12_isNew_20 : decode cX12_isNew 20 = .ok (.iconst 0, 1) := by decide +kernel
theorem dX12_isNew_21 : decode cX12_isNew 21 = .ok (.ireturn, 1) := by decide +kernel
theorem dX12_isNew_22 : decode cX12_isNew 22 = .ok (.iinc 2 1, 3) := by decide +kernel
theorem dX12_isNew_25 : decode cX12_isNew 25 = .ok (.goto (-23), 3) := by decide +kernel
theorem dX12_isNew_28 : decode cX12_isNew 28 = .ok (.aload_n 0, 1) := by decide +kernel
theorem dX12_isNew_29 : decode cX12_isNew 29 = .ok (.getfield 60, 3) := by decide +kernel
theorem dX12_isNew_32 : decode cX12_isNew 32 = .ok (.aload_n 0, 1) := by decide +kernel
theorem dX12_isNew_33 : decode cX12_isNew 33 = .ok (.getfield 259, 3) := by decide +kernel
theorem dX12_isNew_36 : decode cX12_isNew 36 = .ok (.iload_n 1, 1) := by decide +kernel
theorem dX12_isNew_37 : decode cX12_isNew 37 = .ok (.iastore, 1) := by decide +kernel
theorem dX12_isNew_38 : decode cX12_isNew 38 = .ok (.aload_n 0, 1) := by decide +kernel
theorem dX12_isNew_39 : decode cX12_isNew 39 = .ok (.dup, 1) := by decide +kernel
theorem dX12_isNew_40 : decode cX12_isNew 40 = .ok (.getfield 259, 3) := by decide +kernel
theorem dX12_isNew_43 : decode cX12_isNew 43 = .ok (.iconst 1, 1) := by decide +kernel
theorem dX12_isNew_44 : decode cX12_isNew 44 = .ok (.iadd, 1) := by decide +kernel
theorem dX12_isNew_45 : decode cX12_isNew 45 = .ok (.putfield 259, 3) := by decide +kernel
theorem dX12_isNew_48 : decode cX12_isNew 48 = .ok (.iconst 1, 1) := by decide +kernel
theorem dX12_isNew_49 : decode cX12_isNew 49 = .ok (.ireturn, 1) := by decide +kernel
theorem dX12_trueFor_0 : decode cX12_trueFor 0 = .ok (.aload_n 0, 1) := by decide +kernel
theorem dX12_trueFor_1 : decode cX12_trueFor 1 = .ok (.invokevirtual 193, 3) := by decide +kernel
theorem dX12_trueFor_4 : decode cX12_trueFor 4 = .ok (.ifCond .ne 6, 3) := by decide +kernel
theorem dX12_trueFor_7 : decode cX12_trueFor 7 = .ok (.ldc 196, 2) := by decide +kernel
theorem dX12_trueFor_9 : decode cX12_trueFor 9 = .ok (.ireturn, 1) := by decide +kernel
theorem dX12_trueFor_10 : decode cX12_trueFor 10 = .ok (.aload_n 0, 1) := by decide +kernel
theorem dX12_trueFor_11 : decode cX12_trueFor 11 = .ok (.invokevirtual 249, 3) := by decide +kernel
theorem dX12_trueFor_14 : decode cX12_trueFor 14 = .ok (.aload_n 0, 1) := by decide +kernel
theorem dX12_trueFor_15 : decode cX12_trueFor 15 = .ok (.iconst 0, 1) := by decide +kernel
theorem dX12_trueFor_16 : decode cX12_trueFor 16 = .ok (.putfield 259, 3) := by decide +kernel
theorem dX12_trueFor_19 : decode cX12_trueFor 19 = .ok (.iconst 0, 1) := by decide +kernel
theorem dX12_trueFor_20 : decode cX12_trueFor 20 = .ok (.istore_n 1, 1) := by decide +kernel
theorem dX12_trueFor_21 : decode cX12_trueFor 21 = .ok (.aload_n 0, 1) := by decide +kernel
theorem dX12_trueFor_22 : decode cX12_trueFor 22 = .ok (.aload_n 0, 1) := by decide +kernel
theorem dX12_trueFor_23 : decode cX12_trueFor 23 = .ok (.aload_n 0, 1) := by decide +kernel
theorem dX12_trueFor_24 : decode cX12_trueFor 24 = .ok (.getfield 38, 3) := by decide +kernel
theorem dX12_trueFor_27 : decode cX12_trueFor 27 = .ok (.invokevirtual 182, 3) := by decide +kernel
theorem dX12_trueFor_30 : decode cX12_trueFor 30 = .ok (.invokevirtual 262, 3) := by decide +kernel
theorem dX12_trueFor_33 : decode cX12_trueFor 33 = .ok (.istore_n 2, 1) := by decide +kernel
theorem dX12_trueFor_34 : decode cX12_trueFor 34 = .ok (.iload_n 2, 1) := by decide +kernel
theorem dX12_trueFor_35 : decode cX12_trueFor 35 = .ok (.ifCond .eq 36, 3) := by decide +kernel
theorem dX12_trueFor_38 : decode cX12_trueFor 38 = .ok (.aload_n 0, 1) := by decide +kernel
theorem dX12_trueFor_39 : decode cX12_trueFor 39 = .ok (.iconst 1, 1) := by decide +kernel
theorem dX12_trueFor_40 : decode cX12_trueFor 40 = .ok (.invokevirtual 252, 3) := by decide +kernel
theorem dX12_trueFor_43 : decode cX12_trueFor 43 = .ok (.aload_n 0, 1) := by decide +kernel
theorem dX12_trueFor_44 : decode cX12_trueFor 44 = .ok (.aload_n 0, 1) := by decide +kernel
theorem dX12_trueFor_45 : decode cX12_trueFor 45 = .ok (.aload_n 0, 1) := by decide +kernel
theorem dX12_trueFor_46 : decode cX12_trueFor 46 = .ok (.getfield 38, 3) := by decide +kernel
theorem dX12_trueFor_49 : decode cX12_trueFor 49 = .ok (.invokevirtual 182, 3) := by decide +kernel
theorem dX12_trueFor_52 : decode cX12_trueFor 52 = .ok (.invokevirtual 262, 3) := by decide +kernel
theorem dX12_trueFor_55 : decode cX12_trueFor 55 = .ok (.istore_n 2, 1) := by decide +kernel
theorem dX12_trueFor_56 : decode cX12_trueFor 56 = .ok (.iload_n 1, 1) := by decide +kernel
theorem dX12_trueFor_57 : decode cX12_trueFor 57 = .ok (.iload_n 2, 1) := by decide +kernel
theorem dX12_trueFor_58 : decode cX12_trueFor 58 = .ok (.ifCond .eq 7, 3) := by decide +kernel
theorem dX12_trueFor_61 : decode cX12_trueFor 61 = .ok (.iconst 1, 1) := by decide +kernel
theorem dX12_trueFor_62 : decode cX12_trueFor 62 = .ok (.goto 4, 3) := by decide +kernel
theorem dX12_trueFor_65 : decode cX12_trueFor 65 = .ok (.iconst 0, 1) := by decide +kernel
theorem dX12_trueFor_66 : decode cX12_trueFor 66 = .ok (.iadd, 1) := by decide +kernel
theorem dX12_trueFor_67 : decode cX12_trueFor 67 = .ok (.istore_n 1, 1) := by decide +kernel
theorem dX12_trueFor_68 : decode cX12_trueFor 68 = .ok (.goto (-34), 3) := by decide +kernel
theorem dX12_trueFor_71 : decode cX12_trueFor 71 = .ok (.iload_n 1, 1) := by decide +kernel
theorem dX12_trueFor_72 : decode cX12_trueFor 72 = .ok (.ireturn, 1) := by decide +kernel
theorem dX12_isTouch_0 : decode cX12_isTouch 0 = .ok (.aload_n 0, 1) := by decide +kernel
theorem dX12_isTouch_1 : decode cX12_isTouch 1 = .ok (.invokevirtual 249, 3) := by decide +kernel
theorem dX12_isTouch_4 : decode cX12_isTouch 4 = .ok (.aload_n 0, 1) := by decide +kernel
theorem dX12_isTouch_5 : decode cX12_isTouch 5 = .ok (.getfield 38, 3) := by decide +kernel
theorem dX12_isTouch_8 : decode cX12_isTouch 8 = .ok (.invokestatic 169, 3) := by decide +kernel
theorem dX12_isTouch_11 : decode cX12_isTouch 11 = .ok (.aload_n 0, 1) := by decide +kernel
theorem dX12_isTouch_12 : decode cX12_isTouch 12 = .ok (.iconst 0, 1) := by decide +kernel
theorem dX12_isTouch_13 : decode cX12_isTouch 13 = .ok (.putfield 259, 3) := by decide +kernel
theorem dX12_isTouch_16 : decode cX12_isTouch 16 = .ok (.iconst 1, 1) := by decide +kernel
theorem dX12_isTouch_17 : decode cX12_isTouch 17 = .ok (.istore_n 3, 1) := by decide +kernel
theorem dX12_isTouch_18 : decode cX12_isTouch 18 = .ok (.iconst 0, 1) := by decide +kernel
theorem dX12_isTouch_19 : decode cX12_isTouch 19 = .ok (.istore 4, 2) := by decide +kernel
theorem dX12_isTouch_21 : decode cX12_isTouch 21 = .ok (.iload 4, 2) := by decide +kernel
theorem dX12_isTouch_23 : decode cX12_isTouch 23 = .ok (.iload_n 1, 1) := by decide +kernel
theorem dX12_isTouch_24 : decode cX12_isTouch 24 = .ok (.aload_n 0, 1) := by decide +kernel
theorem dX12_isTouch_25 : decode cX12_isTouch 25 = .ok (.getfield 163, 3) := by decide +kernel
theorem dX12_isTouch_28 : decode cX12_isTouch 28 = .ok (.imul, 1) := by decide +kernel
theorem dX12_isTouch_29 : decode cX12_isTouch 29 = .ok (.if_icmp .ge 72, 3) := by decide +kernel
theorem dX12_isTouch_32 : decode cX12_isTouch 32 = .ok (.iload_n 3, 1) := by decide +kernel
theorem dX12_isTouch_33 : decode cX12_isTouch 33 = .ok (.ifCond .eq 68, 3) := by decide +kernel
theorem dX12_isTouch_36 : decode cX12_isTouch 36 = .ok (.aload_n 0, 1) := by decide +kernel
theorem dX12_isTouch_37 : decode cX12_isTouch 37 = .ok (.aload_n 0, 1) := by decide +kernel
theorem dX12_isTouch_38 : decode cX12_isTouch 38 = .ok (.aload_n 0, 1) := by decide +kernel
theorem dX12_isTouch_39 : decode cX12_isTouch 39 = .ok (.getfield 38, 3) := by decide +kernel
theorem dX12_isTouch_42 : decode cX12_isTouch 42 = .ok (.invokevirtual 182, 3) := by decide +kernel
theorem dX12_isTouch_45 : decode cX12_isTouch 45 = .ok (.invokevirtual 262, 3) := by decide +kernel
theorem dX12_isTouch_48 : decode cX12_isTouch 48 = .ok (.istore_n 3, 1) := by decide +kernel
theorem dX12_isTouch_49 : decode cX12_isTouch 49 = .ok (.aload_n 0, 1) := by decide +kernel
theorem dX12_isTouch_50 : decode cX12_isTouch 50 = .ok (.getfield 38, 3) := by decide +kernel
theorem dX12_isTouch_53 : decode cX12_isTouch 53 = .ok (.iconst 2, 1) := by decide +kernel
theorem dX12_isTouch_54 : decode cX12_isTouch 54 = .ok (.iload 4, 2) := by decide +kernel
theorem dX12_isTouch_56 : decode cX12_isTouch 56 = .ok (.aload_n 0, 1) := by decide +kernel
theorem dX12_isTouch_57 : decode cX12_isTouch 57 = .ok (.getfield 163, 3) := by decide +kernel
theorem dX12_isTouch_60 : decode cX12_isTouch 60 = .ok (.irem, 1) := by decide +kernel
theorem dX12_isTouch_61 : decode cX12_isTouch 61 = .ok (.aload_n 0, 1) := by decide +kernel
theorem dX12_isTouch_62 : decode cX12_isTouch 62 = .ok (.getfield 163, 3) := by decide +kernel
theorem dX12_isTouch_65 : decode cX12_isTouch 65 = .ok (.iconst 1, 1) := by decide +kernel
theorem dX12_isTouch_66 : decode cX12_isTouch 66 = .ok (.isub, 1) := by decide +kernel
theorem dX12_isTouch_67 : decode cX12_isTouch 67 = .ok (.if_icmp .ne 21, 3) := by decide +kernel
theorem dX12_isTouch_70 : decode cX12_isTouch 70 = .ok (.iload_n 2, 1) := by decide +kernel
theorem dX12_isTouch_71 : decode cX12_isTouch 71 = .ok (.iload 4, 2) := by decide +kernel
theorem dX12_isTouch_73 : decode cX12_isTouch 73 = .ok (.aload_n 0, 1) := by decide +kernel
theorem dX12_isTouch_74 : decode cX12_isTouch 74 = .ok (.getfield 163, 3) := by decide +kernel
theorem dX12_isTouch_77 : decode cX12_isTouch 77 = .ok (.idiv, 1) := by decide +kernel
theorem dX12_isTouch_78 : decode cX12_isTouch 78 = .ok (.invokestatic 112, 3) := by decide +kernel
theorem dX12_isTouch_81 : decode cX12_isTouch 81 = .ok (.ifCond .eq 7, 3) := by decide +kernel
theorem dX12_isTouch_84 : decode cX12_isTouch 84 = .ok (.iconst 1, 1) := by decide +kernel
theorem dX12_isTouch_85 : decode cX12_isTouch 85 = .ok (.goto 4, 3) := by decide +kernel
theorem dX12_isTouch_88 : decode cX12_isTouch 88 = .ok (.iconst 0, 1) := by decide +kernel
theorem dX12_isTouch_89 : decode cX12_isTouch 89 = .ok (.iastore, 1) := by decide +kernel
theorem dX12_isTouch_90 : decode cX12_isTouch 90 = .ok (.aload_n 0, 1) := by decide +kernel
theorem dX12_isTouch_91 : decode cX12_isTouch 91 = .ok (.iconst 1, 1) := by decide +kernel
theorem dX12_isTouch_92 : decode cX12_isTouch 92 = .ok (.invokevirtual 252, 3) := by decide +kernel
theorem dX12_isTouch_95 : decode cX12_isTouch 95 = .ok (.iinc 4 1, 3) := by decide +kernel
theorem dX12_isTouch_98 : decode cX12_isTouch 98 = .ok (.goto (-77), 3) := by decide +kernel
theorem dX12_isTouch_101 : decode cX12_isTouch 101 = .ok (.iload_n 3, 1) := by decide +kernel
theorem dX12_isTouch_102 : decode cX12_isTouch 102 = .ok (.ifCond .eq 22, 3) := by decide +kernel
theorem dX12_isTouch_105 : decode cX12_isTouch 105 = .ok (.aload_n 0, 1) := by decide +kernel
theorem dX12_isTouch_106 : decode cX12_isTouch 106 = .ok (.aload_n 0, 1) := by decide +kernel
theorem dX12_isTouch_107 : decode cX12_isTouch 107 = .ok (.getfield 38, 3) := by decide +kernel
theorem dX12_isTouch_110 : decode cX12_isTouch 110 = .ok (.invokevirtual 182, 3) := by decide +kernel
theorem dX12_isTouch_113 : decode cX12_isTouch 113 = .ok (.aload_n 0, 1) := by decide +kernel
theorem dX12_isTouch_114 : decode cX12_isTouch 114 = .ok (.invokevirtual 256, 3) := by decide +kernel
theorem dX12_isTouch_117 : decode cX12_isTouch 117 = .ok (.if_icmp .ne 7, 3) := by decide +kernel
theorem dX12_isTouch_120 : decode cX12_isTouch 120 = .ok (.iconst 1, 1) := by decide +kernel
theorem dX12_isTouch_121 : decode cX12_isTouch 121 = .ok (.goto 4, 3) := by decide +kernel
theorem dX12_isTouch_124 : decode cX12_isTouch 124 = .ok (.iconst 0, 1) := by decide +kernel
theorem dX12_isTouch_125 : decode cX12_isTouch 125 = .ok (.ireturn, 1) := by decide +kernel
theorem dX12_touch_0 : decode cX12_touch 0 = .ok (.iload_n 1, 1) := by decide +kernel
theorem dX12_touch_1 : decode cX12_touch 1 = .ok (.iconst 1, 1) := by decide +kernel
theorem dX12_touch_2 : decode cX12_touch 2 = .ok (.bipush 8, 2) := by decide +kernel
theorem dX12_touch_4 : decode cX12_touch 4 = .ok (.invokestatic 75, 3) := by decide +kernel
theorem dX12_touch_7 : decode cX12_touch 7 = .ok (.ifCond .eq 12, 3) := by decide +kernel
theorem dX12_touch_10 : decode cX12_touch 10 = .ok (.iload_n 2, 1) := by decide +kernel
theorem dX12_touch_11 : decode cX12_touch 11 = .ok (.iconst 0, 1) := by decide +kernel
theorem dX12_touch_12 : decode cX12_touch 12 = .ok (.iconst 1, 1) := by decide +kernel
theorem dX12_touch_13 : decode cX12_touch 13 = .ok (.invokestatic 75, 3) := by decide +kernel
theorem dX12_touch_16 : decode cX12_touch 16 = .ok (.ifCond .ne 6, 3) := by decide +kernel
theorem dX12_touch_19 : decode cX12_touch 19 = .ok (.ldc 82, 2) := by decide +kernel
theorem dX12_touch_21 : decode cX12_touch 21 = .ok (.ireturn, 1) := by decide +kernel
theorem dX12_touch_22 : decode cX12_touch 22 = .ok (.aload_n 0, 1) := by decide +kernel
theorem dX12_touch_23 : decode cX12_touch 23 = .ok (.invokevirtual 193, 3) := by decide +kernel
theorem dX12_touch_26 : decode cX12_touch 26 = .ok (.ifCond .ne 6, 3) := by decide +kernel
theorem dX12_touch_29 : decode cX12_touch 29 = .ok (.ldc 196, 2) := by decide +kernel
theorem dX12_touch_31 : decode cX12_touch 31 = .ok (.ireturn, 1) := by decide +kernel
theorem dX12_touch_32 : decode cX12_touch 32 = .ok (.iconst 0, 1) := by decide +kernel
theorem dX12_touch_33 : decode cX12_touch 33 = .ok (.istore_n 3, 1) := by decide +kernel
theorem dX12_touch_34 : decode cX12_touch 34 = .ok (.iconst (-1), 1) := by decide +kernel
theorem dX12_touch_35 : decode cX12_touch 35 = .ok (.istore 4, 2) := by decide +kernel
theorem dX12_touch_37 : decode cX12_touch 37 = .ok (.iconst 1, 1) := by decide +kernel
theorem dX12_touch_38 : decode cX12_touch 38 = .ok (.iload_n 1, 1) := by decide +kernel
theorem dX12_touch_39 : decode cX12_touch 39 = .ok (.ishl, 1) := by decide +kernel
theorem dX12_touch_40 : decode cX12_touch 40 = .ok (.iconst 1, 1) := by decide +kernel
theorem dX12_touch_41 : decode cX12_touch 41 = .ok (.isub, 1) := by decide +kernel
theorem dX12_touch_42 : decode cX12_touch 42 = .ok (.istore 5, 2) := by decide +kernel
theorem dX12_touch_44 : decode cX12_touch 44 = .ok (.iload 5, 2) := by decide +kernel
theorem dX12_touch_46 : decode cX12_touch 46 = .ok (.ifCond .lt 45, 3) := by decide +kernel
theorem dX12_touch_49 : decode cX12_touch 49 = .ok (.aload_n 0, 1) := by decide +kernel
theorem dX12_touch_50 : decode cX12_touch 50 = .ok (.iload_n 1, 1) := by decide +kernel
theorem dX12_touch_51 : decode cX12_touch 51 = .ok (.iload 5, 2) := by decide +kernel
theorem dX12_touch_53 : decode cX12_touch 53 = .ok (.invokevirtual 265, 3) := by decide +kernel
theorem dX12_touch_56 : decode cX12_touch 56 = .ok (.istore 6, 2) := by decide +kernel
theorem dX12_touch_58 : decode cX12_touch 58 = .ok (.iload_n 3, 1) := by decide +kernel
theorem dX12_touch_59 : decode cX12_touch 59 = .ok (.iload 6, 2) := by decide +kernel
theorem dX12_touch_61 : decode cX12_touch 61 = .ok (.ifCond .eq 7, 3) := by decide +kernel
theorem dX12_touch_64 : decode cX12_touch 64 = .ok (.iconst 1, 1) := by decide +kernel
theorem dX12_touch_65 : decode cX12_touch 65 = .ok (.goto 4, 3) := by decide +kernel
theorem dX12_touch_68 : decode cX12_touch 68 = .ok (.iconst 0, 1) := by decide +kernel
theorem dX12_touch_69 : decode cX12_touch 69 = .ok (.iadd, 1) := by decide +kernel
theorem dX12_touch_70 : decode cX12_touch 70 = .ok (.istore_n 3, 1) := by decide +kernel
theorem dX12_touch_71 : decode cX12_touch 71 = .ok (.iload 6, 2) := by decide +kernel
theorem dX12_touch_73 : decode cX12_touch 73 = .ok (.ifCond .eq 8, 3) := by decide +kernel
theorem dX12_touch_76 : decode cX12_touch 76 = .ok (.iload 5, 2) := by decide +kernel
theorem dX12_touch_78 : decode cX12_touch 78 = .ok (.goto 5, 3) := by decide +kernel
theorem dX12_touch_81 : decode cX12_touch 81 = .ok (.iload 4, 2) := by decide +kernel
theorem dX12_touch_83 : decode cX12_touch 83 = .ok (.istore 4, 2) := by decide +kernel
theorem dX12_touch_85 : decode cX12_touch 85 = .ok (.iinc 5 (-1), 3) := by decide +kernel
theorem dX12_touch_88 : decode cX12_touch 88 = .ok (.goto (-44), 3) := by decide +kernel
theorem dX12_touch_91 : decode cX12_touch 91 = .ok (.iload_n 2, 1) := by decide +kernel
theorem dX12_touch_92 : decode cX12_touch 92 = .ok (.ifCond .ne 7, 3) := by decide +kernel
theorem dX12_touch_95 : decode cX12_touch 95 = .ok (.iload_n 3, 1) := by decide +kernel
theorem dX12_touch_96 : decode cX12_touch 96 = .ok (.goto 5, 3) := by decide +kernel
theorem dX12_touch_99 : decode cX12_touch 99 = .ok (.iload 4, 2) := by decide +kernel
theorem dX12_touch_101 : decode cX12_touch 101 = .ok (.ireturn, 1) := by decide +kernel
theorem dX12_layPerm_0 : decode cX12_layPerm 0 = .ok (.iload_n 1, 1) := by decide +kernel
theorem dX12_layPerm_1 : decode cX12_layPerm 1 = .ok (.istore_n 2, 1) := by decide +kernel
theorem dX12_layPerm_2 : decode cX12_layPerm 2 = .ok (.iconst 0, 1) := by decide +kernel
theorem dX12_layPerm_3 : decode cX12_layPerm 3 = .ok (.istore_n 3, 1) := by decide +kernel
theorem dX12_layPerm_4 : decode cX12_layPerm 4 = .ok (.aload_n 0, 1) := by decide +kernel
theorem dX12_layPerm_5 : decode cX12_layPerm 5 = .ok (.getfield 79, 3) := by decide +kernel
theorem dX12_layPerm_8 : decode cX12_layPerm 8 = .ok (.iconst 1, 1) := by decide +kernel
theorem dX12_layPerm_9 : decode cX12_layPerm 9 = .ok (.isub, 1) := by decide +kernel
theorem dX12_layPerm_10 : decode cX12_layPerm 10 = .ok (.istore 4, 2) := by decide +kernel
theorem dX12_layPerm_12 : decode cX12_layPerm 12 = .ok (.iload 4, 2) := by decide +kernel
theorem dX12_layPerm_14 : decode cX12_layPerm 14 = .ok (.ifCond .lt 37, 3) := by decide +kernel
theorem dX12_layPerm_17 : decode cX12_layPerm 17 = .ok (.aload_n 0, 1) := by decide +kernel
theorem dX12_layPerm_18 : decode cX12_layPerm 18 = .ok (.getfield 63, 3) := by decide +kernel
theorem dX12_layPerm_21 : decode cX12_layPerm 21 = .ok (.iload 4, 2) := by decide +kernel
theorem dX12_layPerm_23 : decode cX12_layPerm 23 = .ok (.iload_n 2, 1) := by decide +kernel
theorem dX12_layPerm_24 : decode cX12_layPerm 24 = .ok (.bipush 6, 2) := by decide +kernel
theorem dX12_layPerm_26 : decode cX12_layPerm 26 = .ok (.irem, 1) := by decide +kernel
theorem dX12_layPerm_27 : decode cX12_layPerm 27 = .ok (.iastore, 1) := by decide +kernel
theorem dX12_layPerm_28 : decode cX12_layPerm 28 = .ok (.iload_n 2, 1) := by decide +kernel
theorem dX12_layPerm_29 : decode cX12_layPerm 29 = .ok (.bipush 6, 2) := by decide +kernel
theorem dX12_layPerm_31 : decode cX12_layPerm 31 = .ok (.idiv, 1) := by decide +kernel
theorem dX12_layPerm_32 : decode cX12_layPerm 32 = .ok (.istore_n 2, 1) := by decide +kernel
theorem dX12_layPerm_33 : decode cX12_layPerm 33 = .ok (.iload_n 3, 1) := by decide +kernel
theorem dX12_layPerm_34 : decode cX12_layPerm 34 = .ok (.iconst 1, 1) := by decide +kernel
theorem dX12_layPerm_35 : decode cX12_layPerm 35 = .ok (.aload_n 0, 1) := by decide +kernel
theorem dX12_layPerm_36 : decode cX12_layPerm 36 = .ok (.getfield 63, 3) := by decide +kernel
theorem dX12_layPerm_39 : decode cX12_layPerm 39 = .ok (.iload 4, 2) := by decide +kernel
theorem dX12_layPerm_41 : decode cX12_layPerm 41 = .ok (.iaload, 1) := by decide +kernel
theorem dX12_layPerm_42 : decode cX12_layPerm 42 = .ok (.ishl, 1) := by decide +kernel
theorem dX12_layPerm_43 : decode cX12_layPerm 43 = .ok (.ior, 1) := by decide +kernel
theorem dX12_layPerm_44 : decode cX12_layPerm 44 = .ok (.istore_n 3, 1) := by decide +kernel
theorem dX12_layPerm_45 : decode cX12_layPerm 45 = .ok (.iinc 4 (-1), 3) := by decide +kernel
theorem dX12_layPerm_48 : decode cX12_layPerm 48 = .ok (.goto (-36), 3) := by decide +kernel
theorem dX12_layPerm_51 : decode cX12_layPerm 51 = .ok (.iload_n 3, 1) := by decide +kernel
theorem dX12_layPerm_52 : decode cX12_layPerm 52 = .ok (.iconst 1, 1) := by decide +kernel
theorem dX12_layPerm_53 : decode cX12_layPerm 53 = .ok (.aload_n 0, 1) := by decide +kernel
theorem dX12_layPerm_54 : decode cX12_layPerm 54 = .ok (.getfield 79, 3) := by decide +kernel
theorem dX12_layPerm_57 : decode cX12_layPerm 57 = .ok (.ishl, 1) := by decide +kernel
theorem dX12_layPerm_58 : decode cX12_layPerm 58 = .ok (.iconst 1, 1) := by decide +kernel
theorem dX12_layPerm_59 : decode cX12_layPerm 59 = .ok (.isub, 1) := by decide +kernel
theorem dX12_layPerm_60 : decode cX12_layPerm 60 = .ok (.if_icmp .ne 7, 3) := by decide +kernel
theorem dX12_layPerm_63 : decode cX12_layPerm 63 = .ok (.iconst 1, 1) := by decide +kernel
theorem dX12_layPerm_64 : decode cX12_layPerm 64 = .ok (.goto 4, 3) := by decide +kernel
theorem dX12_layPerm_67 : decode cX12_layPerm 67 = .ok (.iconst 0, 1) := by decide +kernel
theorem dX12_layPerm_68 : decode cX12_layPerm 68 = .ok (.ireturn, 1) := by decide +kernel
theorem dX12_layRopes_0 : decode cX12_layRopes 0 = .ok (.iconst 1, 1) := by decide +kernel
theorem dX12_layRopes_1 : decode cX12_layRopes 1 = .ok (.istore_n 1, 1) := by decide +kernel
theorem dX12_layRopes_2 : decode cX12_layRopes 2 = .ok (.iconst 0, 1) := by decide +kernel
theorem dX12_layRopes_3 : decode cX12_layRopes 3 = .ok (.istore_n 2, 1) := by decide +kernel
theorem dX12_layRopes_4 : decode cX12_layRopes 4 = .ok (.iload_n 2, 1) := by decide +kernel
theorem dX12_layRopes_5 : decode cX12_layRopes 5 = .ok (.aload_n 0, 1) := by decide +kernel
theorem dX12_layRopes_6 : decode cX12_layRopes 6 = .ok (.getfield 79, 3) := by decide +kernel
theorem dX12_layRopes_9 : decode cX12_layRopes 9 = .ok (.if_icmp .ge 14, 3) := by decide +kernel
theorem dX12_layRopes_12 : decode cX12_layRopes 12 = .ok (.iload_n 1, 1) := by decide +kernel
theorem dX12_layRopes_13 : decode cX12_layRopes 13 = .ok (.bipush 6, 2) := by decide +kernel
theorem dX12_layRopes_15 : decode cX12_layRopes 15 = .ok (.imul, 1) := by decide +kernel
theorem dX12_layRopes_16 : decode cX12_layRopes 16 = .ok (.istore_n 1, 1) := by decide +kernel
theorem dX12_layRopes_17 : decode cX12_layRopes 17 = .ok (.iinc 2 1, 3) := by decide +kernel
theorem dX12_layRopes_20 : decode cX12_layRopes 20 = .ok (.goto (-16), 3) := by decide +kernel
theorem dX12_layRopes_23 : decode cX12_layRopes 23 = .ok (.iconst (-1), 1) := by decide +kernel
theorem dX12_layRopes_24 : decode cX12_layRopes 24 = .ok (.istore_n 2, 1) := by decide +kernel
theorem dX12_layRopes_25 : decode cX12_layRopes 25 = .ok (.iconst 0, 1) := by decide +kernel
theorem dX12_layRopes_26 : decode cX12_layRopes 26 = .ok (.istore_n 3, 1) := by decide +kernel
theorem dX12_layRopes_27 : decode cX12_layRopes 27 = .ok (.iload_n 3, 1) := by decide +kernel
theorem dX12_layRopes_28 : decode cX12_layRopes 28 = .ok (.iload_n 1, 1) := by decide +kernel
theorem dX12_layRopes_29 : decode cX12_layRopes 29 = .ok (.if_icmp .ge 105, 3) := by decide +kernel
theorem dX12_layRopes_32 : decode cX12_layRopes 32 = .ok (.aload_n 0, 1) := by decide +kernel
theorem dX12_layRopes_33 : decode cX12_layRopes 33 = .ok (.iload_n 3, 1) := by decide +kernel
theorem dX12_layRopes_34 : decode cX12_layRopes 34 = .ok (.invokevirtual 268, 3) := by decide +kernel
theorem dX12_layRopes_37 : decode cX12_layRopes 37 = .ok (.ifCond .eq 91, 3) := by decide +kernel
theorem dX12_layRopes_40 : decode cX12_layRopes 40 = .ok (.iconst 0, 1) := by decide +kernel
theorem dX12_layRopes_41 : decode cX12_layRopes 41 = .ok (.istore 4, 2) := by decide +kernel
theorem dX12_layRopes_43 : decode cX12_layRopes 43 = .ok (.iconst 0, 1) := by decide +kernel
theorem dX12_layRopes_44 : decode cX12_layRopes 44 = .ok (.istore 5, 2) := by decide +kernel
theorem dX12_layRopes_46 : decode cX12_layRopes 46 = .ok (.iload 5, 2) := by decide +kernel
theorem dX12_layRopes_48 : decode cX12_layRopes 48 = .ok (.aload_n 0, 1) := by decide +kernel
theorem dX12_layRopes_49 : decode cX12_layRopes 49 = .ok (.getfield 79, 3) := by decide +kernel
theorem dX12_layRopes_52 : decode cX12_layRopes 52 = .ok (.if_icmp .ge 47, 3) := by decide +kernel
theorem dX12_layRopes_55 : decode cX12_layRopes 55 = .ok (.aload_n 0, 1) := by decide +kernel
theorem dX12_layRopes_56 : decode cX12_layRopes 56 = .ok (.getfield 26, 3) := by decide +kernel
theorem dX12_layRopes_59 : decode cX12_layRopes 59 = .ok (.aload_n 0, 1) := by decide +kernel
theorem dX12_layRopes_60 : decode cX12_layRopes 60 = .ok (.getfield 63, 3) := by decide +kernel
theorem dX12_layRopes_63 : decode cX12_layRopes 63 = .ok (.iload 5, 2) := by decide +kernel
theorem dX12_layRopes_65 : decode cX12_layRopes 65 = .ok (.iaload, 1) := by decide +kernel
theorem dX12_layRopes_66 : decode cX12_layRopes 66 = .ok (.iaload, 1) := by decide +kernel
theorem dX12_layRopes_67 : decode cX12_layRopes 67 = .ok (.aload_n 0, 1) := by decide +kernel
theorem dX12_layRopes_68 : decode cX12_layRopes 68 = .ok (.getfield 32, 3) := by decide +kernel
theorem dX12_layRopes_71 : decode cX12_layRopes 71 = .ok (.iload 5, 2) := by decide +kernel
theorem dX12_layRopes_73 : decode cX12_layRopes 73 = .ok (.iaload, 1) := by decide +kernel
theorem dX12_layRopes_74 : decode cX12_layRopes 74 = .ok (.isub, 1) := by decide +kernel
theorem dX12_layRopes_75 : decode cX12_layRopes 75 = .ok (.istore 6, 2) := by decide +kernel
theorem dX12_layRopes_77 : decode cX12_layRopes 77 = .ok (.iload 4, 2) := by decide +kernel
theorem dX12_layRopes_79 : decode cX12_layRopes 79 = .ok (.iload 6, 2) := by decide +kernel
theorem dX12_layRopes_81 : decode cX12_layRopes 81 = .ok (.ifCond .le 8, 3) := by decide +kernel
theorem dX12_layRopes_84 : decode cX12_layRopes 84 = .ok (.iload 6, 2) := by decide +kernel
theorem dX12_layRopes_86 : decode cX12_layRopes 86 = .ok (.goto 4, 3) := by decide +kernel
theorem dX12_layRopes_89 : decode cX12_layRopes 89 = .ok (.iconst 0, 1) := by decide +kernel
theorem dX12_layRopes_90 : decode cX12_layRopes 90 = .ok (.iadd, 1) := by decide +kernel
theorem dX12_layRopes_91 : decode cX12_layRopes 91 = .ok (.istore 4, 2) := by decide +kernel
theorem dX12_layRopes_93 : decode cX12_layRopes 93 = .ok (.iinc 5 1, 3) := by decide +kernel
theorem dX12_layRopes_96 : decode cX12_layRopes 96 = .ok (.goto (-50), 3) := by decide +kernel
theorem dX12_layRopes_99 : decode cX12_layRopes 99 = .ok (.iload_n 2, 1) := by decide +kernel
theorem dX12_layRopes_100 : decode cX12_layRopes 100 = .ok (.iconst (-1), 1) := by decide +kernel
theorem dX12_layRopes_101 : decode cX12_layRopes 101 = .ok (.if_icmp .eq 9, 3) := by decide +kernel
theorem dX12_layRopes_104 : decode cX12_layRopes 104 = .ok (.iload 4, 2) := by decide +kernel
theorem dX12_layRopes_106 : decode cX12_layRopes 106 = .ok (.iload_n 2, 1) := by decide +kernel
theorem dX12_layRopes_107 : decode cX12_layRopes 107 = .ok (.if_icmp .ge 21, 3) := by decide +kernel
theorem dX12_layRopes_110 : decode cX12_layRopes 110 = .ok (.iload 4, 2) := by decide +kernel
theorem dX12_layRopes_112 : decode cX12_layRopes 112 = .ok (.istore_n 2, 1) := by decide +kernel
theorem dX12_layRopes_113 : decode cX12_layRopes 113 = .ok (.aload_n 0, 1) := by decide +kernel
theorem dX12_layRopes_114 : decode cX12_layRopes 114 = .ok (.getfield 63, 3) := by decide +kernel
theorem dX12_layRopes_117 : decode cX12_layRopes 117 = .ok (.iconst 0, 1) := by decide +kernel
theorem dX12_layRopes_118 : decode cX12_layRopes 118 = .ok (.aload_n 0, 1) := by decide +kernel
theorem dX12_layRopes_119 : decode cX12_layRopes 119 = .ok (.getfield 66, 3) := by decide +kernel
theorem dX12_layRopes_122 : decode cX12_layRopes 122 = .ok (.iconst 0, 1) := by decide +kernel
theorem dX12_layRopes_123 : decode cX12_layRopes 123 = .ok (.bipush 6, 2) := by decide +kernel
theorem dX12_layRopes_125 : decode cX12_layRopes 125 = .ok (.invokestatic 159, 3) := by decide +kernel
theorem dX12_layRopes_128 : decode cX12_layRopes 128 = .ok (.iinc 3 1, 3) := by decide +kernel
theorem dX12_layRopes_131 : decode cX12_layRopes 131 = .ok (.goto (-104), 3) := by decide +kernel
theorem dX12_layRopes_134 : decode cX12_layRopes 134 = .ok (.iload_n 2, 1) := by decide +kernel
theorem dX12_layRopes_135 : decode cX12_layRopes 135 = .ok (.ireturn, 1) := by decide +kernel
theorem dX12_ropes_0 : decode cX12_ropes 0 = .ok (.iload_n 1, 1) := by decide +kernel
theorem dX12_ropes_1 : decode cX12_ropes 1 = .ok (.iconst (-1), 1) := by decide +kernel
theorem dX12_ropes_2 : decode cX12_ropes 2 = .ok (.if_icmp .eq 14, 3) := by decide +kernel
theorem dX12_ropes_5 : decode cX12_ropes 5 = .ok (.aload_n 0, 1) := by decide +kernel
theorem dX12_ropes_6 : decode cX12_ropes 6 = .ok (.iload_n 1, 1) := by decide +kernel
theorem dX12_ropes_7 : decode cX12_ropes 7 = .ok (.invokevirtual 209, 3) := by decide +kernel
theorem dX12_ropes_10 : decode cX12_ropes 10 = .ok (.ifCond .ne 6, 3) := by decide +kernel
theorem dX12_ropes_13 : decode cX12_ropes 13 = .ok (.ldc 200, 2) := by decide +kernel
theorem dX12_ropes_15 : decode cX12_ropes 15 = .ok (.ireturn, 1) := by decide +kernel
theorem dX12_ropes_16 : decode cX12_ropes 16 = .ok (.aload_n 0, 1) := by decide +kernel
theorem dX12_ropes_17 : decode cX12_ropes 17 = .ok (.invokevirtual 271, 3) := by decide +kernel
theorem dX12_ropes_20 : decode cX12_ropes 20 = .ok (.istore_n 2, 1) := by decide +kernel
theorem dX12_ropes_21 : decode cX12_ropes 21 = .ok (.iload_n 1, 1) := by decide +kernel
theorem dX12_ropes_22 : decode cX12_ropes 22 = .ok (.iconst (-1), 1) := by decide +kernel
theorem dX12_ropes_23 : decode cX12_ropes 23 = .ok (.if_icmp .ne 7, 3) := by decide +kernel
theorem dX12_ropes_26 : decode cX12_ropes 26 = .ok (.iload_n 2, 1) := by decide +kernel
theorem dX12_ropes_27 : decode cX12_ropes 27 = .ok (.goto 9, 3) := by decide +kernel
theorem dX12_ropes_30 : decode cX12_ropes 30 = .ok (.aload_n 0, 1) := by decide +kernel
theorem dX12_ropes_31 : decode cX12_ropes 31 = .ok (.getfield 66, 3) := by decide +kernel
theorem dX12_ropes_34 : decode cX12_ropes 34 = .ok (.iload_n 1, 1) := by decide +kernel
theorem dX12_ropes_35 : decode cX12_ropes 35 = .ok (.iaload, 1) := by decide +kernel
theorem dX12_ropes_36 : decode cX12_ropes 36 = .ok (.ireturn, 1) := by decide +kernel
theorem dX12_last_0 : decode cX12_last 0 = .ok (.aload_n 0, 1) := by decide +kernel
theorem dX12_last_1 : decode cX12_last 1 = .ok (.iload_n 1, 1) := by decide +kernel
theorem dX12_last_2 : decode cX12_last 2 = .ok (.invokevirtual 197, 3) := by decide +kernel
theorem dX12_last_5 : decode cX12_last 5 = .ok (.ifCond .ne 6, 3) := by decide +kernel
theorem dX12_last_8 : decode cX12_last 8 = .ok (.ldc 200, 2) := by decide +kernel
theorem dX12_last_10 : decode cX12_last 10 = .ok (.ireturn, 1) := by decide +kernel
theorem dX12_last_11 : decode cX12_last 11 = .ok (.iload_n 2, 1) := by decide +kernel
theorem dX12_last_12 : decode cX12_last 12 = .ok (.iconst 1, 1) := by decide +kernel
theorem dX12_last_13 : decode cX12_last 13 = .ok (.sipush 500, 3) := by decide +kernel
theorem dX12_last_16 : decode cX12_last 16 = .ok (.invokestatic 75, 3) := by decide +kernel
theorem dX12_last_19 : decode cX12_last 19 = .ok (.ifCond .ne 6, 3) := by decide +kernel
theorem dX12_last_22 : decode cX12_last 22 = .ok (.ldc 82, 2) := by decide +kernel
theorem dX12_last_24 : decode cX12_last 24 = .ok (.ireturn, 1) := by decide +kernel
theorem dX12_last_25 : decode cX12_last 25 = .ok (.aload_n 0, 1) := by decide +kernel
theorem dX12_last_26 : decode cX12_last 26 = .ok (.invokevirtual 249, 3) := by decide +kernel
theorem dX12_last_29 : decode cX12_last 29 = .ok (.iconst 0, 1) := by decide +kernel
theorem dX12_last_30 : decode cX12_last 30 = .ok (.istore_n 3, 1) := by decide +kernel
theorem dX12_last_31 : decode cX12_last 31 = .ok (.iconst 0, 1) := by decide +kernel
theorem dX12_last_32 : decode cX12_last 32 = .ok (.istore 4, 2) := by decide +kernel
theorem dX12_last_34 : decode cX12_last 34 = .ok (.iload 4, 2) := by decide +kernel
theorem dX12_last_36 : decode cX12_last 36 = .ok (.iload_n 2, 1) := by decide +kernel
theorem dX12_last_37 : decode cX12_last 37 = .ok (.if_icmp .ge 39, 3) := by decide +kernel
theorem dX12_last_40 : decode cX12_last 40 = .ok (.aload_n 0, 1) := by decide +kernel
theorem dX12_last_41 : decode cX12_last 41 = .ok (.iconst 1, 1) := by decide +kernel
theorem dX12_last_42 : decode cX12_last 42 = .ok (.invokevirtual 252, 3) := by decide +kernel
theorem dX12_last_45 : decode cX12_last 45 = .ok (.iload_n 3, 1) := by decide +kernel
theorem dX12_last_46 : decode cX12_last 46 = .ok (.aload_n 0, 1) := by decide +kernel
theorem dX12_last_47 : decode cX12_last 47 = .ok (.getfield 38, 3) := by decide +kernel
theorem dX12_last_50 : decode cX12_last 50 = .ok (.iconst 5, 1) := by decide +kernel
theorem dX12_last_51 : decode cX12_last 51 = .ok (.aload_n 0, 1) := by decide +kernel
theorem dX12_last_52 : decode cX12_last 52 = .ok (.getfield 72, 3) := by decide +kernel
theorem dX12_last_55 : decode cX12_last 55 = .ok (.iadd, 1) := by decide +kernel
theorem dX12_last_56 : decode cX12_last 56 = .ok (.iconst 1, 1) := by decide +kernel
theorem dX12_last_57 : decode cX12_last 57 = .ok (.isub, 1) := by decide +kernel
theorem dX12_last_58 : decode cX12_last 58 = .ok (.iaload, 1) := by decide +kernel
theorem dX12_last_59 : decode cX12_last 59 = .ok (.iload_n 1, 1) := by decide +kernel
theorem dX12_last_60 : decode cX12_last 60 = .ok (.if_icmp .ne 7, 3) := by decide +kernel
theorem dX12_last_63 : decode cX12_last 63 = .ok (.iconst 1, 1) := by decide +kernel
theorem dX12_last_64 : decode cX12_last 64 = .ok (.goto 4, 3) := by decide +kernel
theorem dX12_last_67 : decode cX12_last 67 = .ok (.iconst 0, 1) := by decide +kernel
theorem dX12_last_68 : decode cX12_last 68 = .ok (.iadd, 1) := by decide +kernel
theorem dX12_last_69 : decode cX12_last 69 = .ok (.istore_n 3, 1) := by decide +kernel
theorem dX12_last_70 : decode cX12_last 70 = .ok (.iinc 4 1, 3) := by decide +kernel
theorem dX12_last_73 : decode cX12_last 73 = .ok (.goto (-39), 3) := by decide +kernel
theorem dX12_last_76 : decode cX12_last 76 = .ok (.iload_n 3, 1) := by decide +kernel
theorem dX12_last_77 : decode cX12_last 77 = .ok (.ireturn, 1) := by decide +kernel
theorem dX12_nextOut_0 : decode cX12_nextOut 0 = .ok (.aload_n 0, 1) := by decide +kernel
theorem dX12_nextOut_1 : decode cX12_nextOut 1 = .ok (.invokevirtual 249, 3) := by decide +kernel
theorem dX12_nextOut_4 : decode cX12_nextOut 4 = .ok (.iconst 0, 1) := by decide +kernel
theorem dX12_nextOut_5 : decode cX12_nextOut 5 = .ok (.istore_n 1, 1) := by decide +kernel
theorem dX12_nextOut_6 : decode cX12_nextOut 6 = .ok (.iload_n 1, 1) := by decide +kernel
theorem dX12_nextOut_7 : decode cX12_nextOut 7 = .ok (.sipush 500, 3) := by decide +kernel
theorem dX12_nextOut_10 : decode cX12_nextOut 10 = .ok (.if_icmp .ge 61, 3) := by decide +kernel
theorem dX12_nextOut_13 : decode cX12_nextOut 13 = .ok (.aload_n 0, 1) := by decide +kernel
theorem dX12_nextOut_14 : decode cX12_nextOut 14 = .ok (.invokevirtual 193, 3) := by decide +kernel
theorem dX12_nextOut_17 : decode cX12_nextOut 17 = .ok (.ifCond .eq 54, 3) := by decide +kernel
theorem dX12_nextOut_20 : decode cX12_nextOut 20 = .ok (.aload_n 0, 1) := by decide +kernel
theorem dX12_nextOut_21 : decode cX12_nextOut 21 = .ok (.iconst 1, 1) := by decide +kernel
theorem dX12_nextOut_22 : decode cX12_nextOut 22 = .ok (.invokevirtual 252, 3) := by decide +kernel
theorem dX12_nextOut_25 : decode cX12_nextOut 25 = .ok (.iconst 0, 1) := by decide +kernel
theorem dX12_nextOut_26 : decode cX12_nextOut 26 = .ok (.istore_n 2, 1) := by decide +kernel
theorem dX12_nextOut_27 : decode cX12_nextOut 27 = .ok (.iload_n 2, 1) := by decide +kernel
theorem dX12_nextOut_28 : decode cX12_nextOut 28 = .ok (.aload_n 0, 1) := by decide +kernel
theorem dX12_nextOut_29 : decode cX12_nextOut 29 = .ok (.getfield 79, 3) := by decide +kernel
theorem dX12_nextOut_32 : decode cX12_nextOut 32 = .ok (.if_icmp .ge 33, 3) := by decide +kernel
theorem dX12_nextOut_35 : decode cX12_nextOut 35 = .ok (.aload_n 0, 1) := by decide +kernel
theorem dX12_nextOut_36 : decode cX12_nextOut 36 = .ok (.getfield 38, 3) := by decide +kernel
theorem dX12_nextOut_39 : decode cX12_nextOut 39 = .ok (.iconst 4, 1) := by decide +kernel
theorem dX12_nextOut_40 : decode cX12_nextOut 40 = .ok (.iaload, 1) := by decide +kernel
theorem dX12_nextOut_41 : decode cX12_nextOut 41 = .ok (.aload_n 0, 1) := by decide +kernel
theorem dX12_nextOut_42 : decode cX12_nextOut 42 = .ok (.getfield 35, 3) := by decide +kernel
theorem dX12_nextOut_45 : decode cX12_nextOut 45 = .ok (.iconst 4, 1) := by decide +kernel
theorem dX12_nextOut_46 : decode cX12_nextOut 46 = .ok (.iaload, 1) := by decide +kernel
theorem dX12_nextOut_47 : decode cX12_nextOut 47 = .ok (.iconst (-1), 1) := by decide +kernel
theorem dX12_nextOut_48 : decode cX12_nextOut 48 = .ok (.ixor, 1) := by decide +kernel
theorem dX12_nextOut_49 : decode cX12_nextOut 49 = .ok (.iand, 1) := by decide +kernel
theorem dX12_nextOut_50 : decode cX12_nextOut 50 = .ok (.iload_n 2, 1) := by decide +kernel
theorem dX12_nextOut_51 : decode cX12_nextOut 51 = .ok (.invokestatic 112, 3) := by decide +kernel
theorem dX12_nextOut_54 : decode cX12_nextOut 54 = .ok (.ifCond .eq 5, 3) := by decide +kernel
theorem dX12_nextOut_57 : decode cX12_nextOut 57 = .ok (.iload_n 2, 1) := by decide +kernel
theorem dX12_nextOut_58 : decode cX12_nextOut 58 = .ok (.ireturn, 1) := by decide +kernel
theorem dX12_nextOut_59 : decode cX12_nextOut 59 = .ok (.iinc 2 1, 3) := by decide +kernel
theorem dX12_nextOut_62 : decode cX12_nextOut 62 = .ok (.goto (-35), 3) := by decide +kernel
theorem dX12_nextOut_65 : decode cX12_nextOut 65 = .ok (.iinc 1 1, 3) := by decide +kernel
theorem dX12_nextOut_68 : decode cX12_nextOut 68 = .ok (.goto (-62), 3) := by decide +kernel
theorem dX12_nextOut_71 : decode cX12_nextOut 71 = .ok (.iconst (-1), 1) := by decide +kernel
theorem dX12_nextOut_72 : decode cX12_nextOut 72 = .ok (.ireturn, 1) := by decide +kernel
theorem dX12_layRow_0 : decode cX12_layRow 0 = .ok (.iload_n 1, 1) := by decide +kernel
theorem dX12_layRow_1 : decode cX12_layRow 1 = .ok (.istore_n 2, 1) := by decide +kernel
theorem dX12_layRow_2 : decode cX12_layRow 2 = .ok (.iconst 0, 1) := by decide +kernel
theorem dX12_layRow_3 : decode cX12_layRow 3 = .ok (.istore_n 3, 1) := by decide +kernel
theorem dX12_layRow_4 : decode cX12_layRow 4 = .ok (.aload_n 0, 1) := by decide +kernel
theorem dX12_layRow_5 : decode cX12_layRow 5 = .ok (.getfield 72, 3) := by decide +kernel
theorem dX12_layRow_8 : decode cX12_layRow 8 = .ok (.iconst 1, 1) := by decide +kernel
theorem dX12_layRow_9 : decode cX12_layRow 9 = .ok (.isub, 1) := by decide +kernel
theorem dX12_layRow_10 : decode cX12_layRow 10 = .ok (.istore 4, 2) := by decide +kernel
theorem dX12_layRow_12 : decode cX12_layRow 12 = .ok (.iload 4, 2) := by decide +kernel
theorem dX12_layRow_14 : decode cX12_layRow 14 = .ok (.ifCond .lt 53, 3) := by decide +kernel
theorem dX12_layRow_17 : decode cX12_layRow 17 = .ok (.iload_n 2, 1) := by decide +kernel
theorem dX12_layRow_18 : decode cX12_layRow 18 = .ok (.bipush 10, 2) := by decide +kernel
theorem dX12_layRow_20 : decode cX12_layRow 20 = .ok (.irem, 1) := by decide +kernel
theorem dX12_layRow_21 : decode cX12_layRow 21 = .ok (.iconst 1, 1) := by decide +kernel
theorem dX12_layRow_22 : decode cX12_layRow 22 = .ok (.isub, 1) := by decide +kernel
theorem dX12_layRow_23 : decode cX12_layRow 23 = .ok (.istore 5, 2) := by decide +kernel
theorem dX12_layRow_25 : decode cX12_layRow 25 = .ok (.iload_n 2, 1) := by decide +kernel
theorem dX12_layRow_26 : decode cX12_layRow 26 = .ok (.bipush 10, 2) := by decide +kernel
theorem dX12_layRow_28 : decode cX12_layRow 28 = .ok (.idiv, 1) := by decide +kernel
theorem dX12_layRow_29 : decode cX12_layRow 29 = .ok (.istore_n 2, 1) := by decide +kernel
theorem dX12_layRow_30 : decode cX12_layRow 30 = .ok (.iload_n 3, 1) := by decide +kernel
theorem dX12_layRow_31 : decode cX12_layRow 31 = .ok (.aload_n 0, 1) := by decide +kernel
theorem dX12_layRow_32 : decode cX12_layRow 32 = .ok (.iload 5, 2) := by decide +kernel
theorem dX12_layRow_34 : decode cX12_layRow 34 = .ok (.invokevirtual 197, 3) := by decide +kernel
theorem dX12_layRow_37 : decode cX12_layRow 37 = .ok (.ifCond .eq 10, 3) := by decide +kernel
theorem dX12_layRow_40 : decode cX12_layRow 40 = .ok (.iconst 1, 1) := by decide +kernel
theorem dX12_layRow_41 : decode cX12_layRow 41 = .ok (.iload 5, 2) := by decide +kernel
theorem dX12_layRow_43 : decode cX12_layRow 43 = .ok (.ishl, 1) := by decide +kernel
theorem dX12_layRow_44 : decode cX12_layRow 44 = .ok (.goto 4, 3) := by decide +kernel
theorem dX12_layRow_47 : decode cX12_layRow 47 = .ok (.iconst 0, 1) := by decide +kernel
theorem dX12_layRow_48 : decode cX12_layRow 48 = .ok (.ior, 1) := by decide +kernel
theorem dX12_layRow_49 : decode cX12_layRow 49 = .ok (.istore_n 3, 1) := by decide +kernel
theorem dX12_layRow_50 : decode cX12_layRow 50 = .ok (.aload_n 0, 1) := by decide +kernel
theorem dX12_layRow_51 : decode cX12_layRow 51 = .ok (.getfield 38, 3) := by decide +kernel
theorem dX12_layRow_54 : decode cX12_layRow 54 = .ok (.iconst 5, 1) := by decide +kernel
theorem dX12_layRow_55 : decode cX12_layRow 55 = .ok (.iload 4, 2) := by decide +kernel
theorem dX12_layRow_57 : decode cX12_layRow 57 = .ok (.iadd, 1) := by decide +kernel
theorem dX12_layRow_58 : decode cX12_layRow 58 = .ok (.iload 5, 2) := by decide +kernel
theorem dX12_layRow_60 : decode cX12_layRow 60 = .ok (.iastore, 1) := by decide +kernel
theorem dX12_layRow_61 : decode cX12_layRow 61 = .ok (.iinc 4 (-1), 3) := by decide +kernel
theorem dX12_layRow_64 : decode cX12_layRow 64 = .ok (.goto (-52), 3) := by decide +kernel
theorem dX12_layRow_67 : decode cX12_layRow 67 = .ok (.aload_n 0, 1) := by decide +kernel
theorem dX12_layRow_68 : decode cX12_layRow 68 = .ok (.invokevirtual 193, 3) := by decide +kernel
theorem dX12_layRow_71 : decode cX12_layRow 71 = .ok (.ifCond .eq 27, 3) := by decide +kernel
theorem dX12_layRow_74 : decode cX12_layRow 74 = .ok (.iload_n 1, 1) := by decide +kernel
theorem dX12_layRow_75 : decode cX12_layRow 75 = .ok (.ifCond .le 23, 3) := by decide +kernel
theorem dX12_layRow_78 : decode cX12_layRow 78 = .ok (.iload_n 2, 1) := by decide +kernel
theorem dX12_layRow_79 : decode cX12_layRow 79 = .ok (.ifCond .ne 19, 3) := by decide +kernel
theorem dX12_layRow_82 : decode cX12_layRow 82 = .ok (.iload_n 3, 1) := by decide +kernel
theorem dX12_layRow_83 : decode cX12_layRow 83 = .ok (.iconst 1, 1) := by decide +kernel
theorem dX12_layRow_84 : decode cX12_layRow 84 = .ok (.aload_n 0, 1) := by decide +kernel
theorem dX12_layRow_85 : decode cX12_layRow 85 = .ok (.getfield 72, 3) := by decide +kernel
theorem dX12_layRow_88 : decode cX12_layRow 88 = .ok (.ishl, 1) := by decide +kernel
theorem dX12_layRow_89 : decode cX12_layRow 89 = .ok (.iconst 1, 1) := by decide +kernel
theorem dX12_layRow_90 : decode cX12_layRow 90 = .ok (.isub, 1) := by decide +kernel
theorem dX12_layRow_91 : decode cX12_layRow 91 = .ok (.if_icmp .ne 7, 3) := by decide +kernel
theorem dX12_layRow_94 : decode cX12_layRow 94 = .ok (.iconst 1, 1) := by decide +kernel
theorem dX12_layRow_95 : decode cX12_layRow 95 = .ok (.goto 4, 3) := by decide +kernel
theorem dX12_layRow_98 : decode cX12_layRow 98 = .ok (.iconst 0, 1) := by decide +kernel
theorem dX12_layRow_99 : decode cX12_layRow 99 = .ok (.ireturn, 1) := by decide +kernel
theorem dX12_change_0 : decode cX12_change 0 = .ok (.aload_n 0, 1) := by decide +kernel
theorem dX12_change_1 : decode cX12_change 1 = .ok (.iload_n 1, 1) := by decide +kernel
theorem dX12_change_2 : decode cX12_change 2 = .ok (.invokevirtual 274, 3) := by decide +kernel
theorem dX12_change_5 : decode cX12_change 5 = .ok (.ifCond .eq 11, 3) := by decide +kernel
theorem dX12_change_8 : decode cX12_change 8 = .ok (.aload_n 0, 1) := by decide +kernel
theorem dX12_change_9 : decode cX12_change 9 = .ok (.iload_n 2, 1) := by decide +kernel
theorem dX12_change_10 : decode cX12_change 10 = .ok (.invokevirtual 274, 3) := by decide +kernel
theorem dX12_change_13 : decode cX12_change 13 = .ok (.ifCond .ne 6, 3) := by decide +kernel
theorem dX12_change_16 : decode cX12_change 16 = .ok (.ldc 82, 2) := by decide +kernel
theorem dX12_change_18 : decode cX12_change 18 = .ok (.ireturn, 1) := by decide +kernel
theorem dX12_change_19 : decode cX12_change 19 = .ok (.iconst 0, 1) := by decide +kernel
theorem dX12_change_20 : decode cX12_change 20 = .ok (.istore_n 3, 1) := by decide +kernel
theorem dX12_change_21 : decode cX12_change 21 = .ok (.iconst 0, 1) := by decide +kernel
theorem dX12_change_22 : decode cX12_change 22 = .ok (.istore 4, 2) := by decide +kernel
theorem dX12_change_24 : decode cX12_change 24 = .ok (.iload 4, 2) := by decide +kernel
theorem dX12_change_26 : decode cX12_change 26 = .ok (.aload_n 0, 1) := by decide +kernel
theorem dX12_change_27 : decode cX12_change 27 = .ok (.getfield 72, 3) := by decide +kernel
theorem dX12_change_30 : decode cX12_change 30 = .ok (.if_icmp .ge 25, 3) := by decide +kernel
theorem dX12_change_33 : decode cX12_change 33 = .ok (.aload_n 0, 1) := by decide +kernel
theorem dX12_change_34 : decode cX12_change 34 = .ok (.getfield 63, 3) := by decide +kernel
theorem dX12_change_37 : decode cX12_change 37 = .ok (.iload 4, 2) := by decide +kernel
theorem dX12_change_39 : decode cX12_change 39 = .ok (.aload_n 0, 1) := by decide +kernel
theorem dX12_change_40 : decode cX12_change 40 = .ok (.getfield 38, 3) := by decide +kernel
theorem dX12_change_43 : decode cX12_change 43 = .ok (.iconst 5, 1) := by decide +kernel
theorem dX12_change_44 : decode cX12_change 44 = .ok (.iload 4, 2) := by decide +kernel
theorem dX12_change_46 : decode cX12_change 46 = .ok (.iadd, 1) := by decide +kernel
theorem dX12_change_47 : decode cX12_change 47 = .ok (.iaload, 1) := by decide +kernel
theorem dX12_change_48 : decode cX12_change 48 = .ok (.iastore, 1) := by decide +kernel
theorem dX12_change_49 : decode cX12_change 49 = .ok (.iinc 4 1, 3) := by decide +kernel
theorem dX12_change_52 : decode cX12_change 52 = .ok (.goto (-28), 3) := by decide +kernel
theorem dX12_change_55 : decode cX12_change 55 = .ok (.aload_n 0, 1) := by decide +kernel
theorem dX12_change_56 : decode cX12_change 56 = .ok (.iload_n 1, 1) := by decide +kernel
theorem dX12_change_57 : decode cX12_change 57 = .ok (.invokevirtual 274, 3) := by decide +kernel
theorem dX12_change_60 : decode cX12_change 60 = .ok (.pop, 1) := by decide +kernel
theorem dX12_change_61 : decode cX12_change 61 = .ok (.iconst 0, 1) := by decide +kernel
theorem dX12_change_62 : decode cX12_change 62 = .ok (.istore 4, 2) := by decide +kernel
theorem dX12_change_64 : decode cX12_change 64 = .ok (.iload 4, 2) := by decide +kernel
theorem dX12_change_66 : decode cX12_change 66 = .ok (.aload_n 0, 1) := by decide +kernel
theorem dX12_change_67 : decode cX12_change 67 = .ok (.getfield 72, 3) := by decide +kernel
theorem dX12_change_70 : decode cX12_change 70 = .ok (.if_icmp .ge 39, 3) := by decide +kernel
theorem dX12_change_73 : decode cX12_change 73 = .ok (.iload_n 3, 1) := by decide +kernel
theorem dX12_change_74 : decode cX12_change 74 = .ok (.aload_n 0, 1) := by decide +kernel
theorem dX12_change_75 : decode cX12_change 75 = .ok (.getfield 38, 3) := by decide +kernel
theorem dX12_change_78 : decode cX12_change 78 = .ok (.iconst 5, 1) := by decide +kernel
theorem dX12_change_79 : decode cX12_change 79 = .ok (.iload 4, 2) := by decide +kernel
theorem dX12_change_81 : decode cX12_change 81 = .ok (.iadd, 1) := by decide +kernel
theorem dX12_change_82 : decode cX12_change 82 = .ok (.iaload, 1) := by decide +kernel
theorem dX12_change_83 : decode cX12_change 83 = .ok (.aload_n 0, 1) := by decide +kernel
theorem dX12_change_84 : decode cX12_change 84 = .ok (.getfield 63, 3) := by decide +kernel
theorem dX12_change_87 : decode cX12_change 87 = .ok (.iload 4, 2) := by decide +kernel
theorem dX12_change_89 : decode cX12_change 89 = .ok (.iaload, 1) := by decide +kernel
theorem dX12_change_90 : decode cX12_change 90 = .ok (.if_icmp .ne 10, 3) := by decide +kernel
theorem dX12_change_93 : decode cX12_change 93 = .ok (.iconst 1, 1) := by decide +kernel
theorem dX12_change_94 : decode cX12_change 94 = .ok (.iload 4, 2) := by decide +kernel
theorem dX12_change_96 : decode cX12_change 96 = .ok (.ishl, 1) := by decide +kernel
theorem dX12_change_97 : decode cX12_change 97 = .ok (.goto 4, 3) := by decide +kernel
theorem dX12_change_100 : decode cX12_change 100 = .ok (.iconst 0, 1) := by decide +kernel
theorem dX12_change_101 : decode cX12_change 101 = .ok (.ior, 1) := by decide +kernel
theorem dX12_change_102 : decode cX12_change 102 = .ok (.istore_n 3, 1) := by decide +kernel
theorem dX12_change_103 : decode cX12_change 103 = .ok (.iinc 4 1, 3) := by decide +kernel
theorem dX12_change_106 : decode cX12_change 106 = .ok (.goto (-42), 3) := by decide +kernel
theorem dX12_change_109 : decode cX12_change 109 = .ok (.iload_n 3, 1) := by decide +kernel
theorem dX12_change_110 : decode cX12_change 110 = .ok (.aload_n 0, 1) := by decide +kernel
theorem dX12_change_111 : decode cX12_change 111 = .ok (.getfield 72, 3) := by decide +kernel
theorem dX12_change_114 : decode cX12_change 114 = .ok (.invokestatic 122, 3) := by decide +kernel
theorem dX12_change_117 : decode cX12_change 117 = .ok (.ifCond .ne 5, 3) := by decide +kernel
theorem dX12_change_120 : decode cX12_change 120 = .ok (.iconst (-1), 1) := by decide +kernel
theorem dX12_change_121 : decode cX12_change 121 = .ok (.ireturn, 1) := by decide +kernel
theorem dX12_change_122 : decode cX12_change 122 = .ok (.aload_n 0, 1) := by decide +kernel
theorem dX12_change_123 : decode cX12_change 123 = .ok (.aload_n 0, 1) := by decide +kernel
theorem dX12_change_124 : decode cX12_change 124 = .ok (.getfield 38, 3) := by decide +kernel
theorem dX12_change_127 : decode cX12_change 127 = .ok (.iload_n 3, 1) := by decide +kernel
theorem dX12_change_128 : decode cX12_change 128 = .ok (.invokevirtual 212, 3) := by decide +kernel
theorem dX12_change_131 : decode cX12_change 131 = .ok (.aload_n 0, 1) := by decide +kernel
theorem dX12_change_132 : decode cX12_change 132 = .ok (.aload_n 0, 1) := by decide +kernel
theorem dX12_change_133 : decode cX12_change 133 = .ok (.getfield 38, 3) := by decide +kernel
theorem dX12_change_136 : decode cX12_change 136 = .ok (.invokevirtual 182, 3) := by decide +kernel
theorem dX12_change_139 : decode cX12_change 139 = .ok (.iload_n 2, 1) := by decide +kernel
theorem dX12_change_140 : decode cX12_change 140 = .ok (.if_icmp .ne 7, 3) := by decide +kernel
theorem dX12_change_143 : decode cX12_change 143 = .ok (.iload_n 3, 1) := by decide +kernel
theorem dX12_change_144 : decode cX12_change 144 = .ok (.goto 4, 3) := by decide +kernel
theorem dX12_change_147 : decode cX12_change 147 = .ok (.iconst (-1), 1) := by decide +kernel
theorem dX12_change_148 : decode cX12_change 148 = .ok (.ireturn, 1) := by decide +kernel
theorem dX12_follow_0 : decode cX12_follow 0 = .ok (.aload_n 0, 1) := by decide +kernel
theorem dX12_follow_1 : decode cX12_follow 1 = .ok (.invokevirtual 193, 3) := by decide +kernel
theorem dX12_follow_4 : decode cX12_follow 4 = .ok (.ifCond .ne 6, 3) := by decide +kernel
theorem dX12_follow_7 : decode cX12_follow 7 = .ok (.ldc 196, 2) := by decide +kernel
theorem dX12_follow_9 : decode cX12_follow 9 = .ok (.ireturn, 1) := by decide +kernel
theorem dX12_follow_10 : decode cX12_follow 10 = .ok (.iconst 0, 1) := by decide +kernel
theorem dX12_follow_11 : decode cX12_follow 11 = .ok (.istore_n 1, 1) := by decide +kernel
theorem dX12_follow_12 : decode cX12_follow 12 = .ok (.iconst 0, 1) := by decide +kernel
theorem dX12_follow_13 : decode cX12_follow 13 = .ok (.istore_n 2, 1) := by decide +kernel
theorem dX12_follow_14 : decode cX12_follow 14 = .ok (.iload_n 2, 1) := by decide +kernel
theorem dX12_follow_15 : decode cX12_follow 15 = .ok (.iconst 1, 1) := by decide +kernel
theorem dX12_follow_16 : decode cX12_follow 16 = .ok (.aload_n 0, 1) := by decide +kernel
theorem dX12_follow_17 : decode cX12_follow 17 = .ok (.getfield 72, 3) := by decide +kernel
theorem dX12_follow_20 : decode cX12_follow 20 = .ok (.ishl, 1) := by decide +kernel
theorem dX12_follow_21 : decode cX12_follow 21 = .ok (.iconst 1, 1) := by decide +kernel
theorem dX12_follow_22 : decode cX12_follow 22 = .ok (.isub, 1) := by decide +kernel
theorem dX12_follow_23 : decode cX12_follow 23 = .ok (.if_icmp .ge 28, 3) := by decide +kernel
theorem dX12_follow_26 : decode cX12_follow 26 = .ok (.iload_n 1, 1) := by decide +kernel
theorem dX12_follow_27 : decode cX12_follow 27 = .ok (.iload_n 2, 1) := by decide +kernel
theorem dX12_follow_28 : decode cX12_follow 28 = .ok (.aload_n 0, 1) := by decide +kernel
theorem dX12_follow_29 : decode cX12_follow 29 = .ok (.getfield 72, 3) := by decide +kernel
theorem dX12_follow_32 : decode cX12_follow 32 = .ok (.invokestatic 122, 3) := by decide +kernel
theorem dX12_follow_35 : decode cX12_follow 35 = .ok (.ifCond .eq 7, 3) := by decide +kernel
theorem dX12_follow_38 : decode cX12_follow 38 = .ok (.iconst 1, 1) := by decide +kernel
theorem dX12_follow_39 : decode cX12_follow 39 = .ok (.goto 4, 3) := by decide +kernel
theorem dX12_follow_42 : decode cX12_follow 42 = .ok (.iconst 0, 1) := by decide +kernel
theorem dX12_follow_43 : decode cX12_follow 43 = .ok (.iadd, 1) := by decide +kernel
theorem dX12_follow_44 : decode cX12_follow 44 = .ok (.istore_n 1, 1) := by decide +kernel
theorem dX12_follow_45 : decode cX12_follow 45 = .ok (.iinc 2 1, 3) := by decide +kernel
theorem dX12_follow_48 : decode cX12_follow 48 = .ok (.goto (-34), 3) := by decide +kernel
theorem dX12_follow_51 : decode cX12_follow 51 = .ok (.iload_n 1, 1) := by decide +kernel
theorem dX12_follow_52 : decode cX12_follow 52 = .ok (.ireturn, 1) := by decide +kernel
theorem dX12_without_0 : decode cX12_without 0 = .ok (.iconst 0, 1) := by decide +kernel
theorem dX12_without_1 : decode cX12_without 1 = .ok (.istore_n 2, 1) := by decide +kernel
theorem dX12_without_2 : decode cX12_without 2 = .ok (.iconst 0, 1) := by decide +kernel
theorem dX12_without_3 : decode cX12_without 3 = .ok (.istore_n 3, 1) := by decide +kernel
theorem dX12_without_4 : decode cX12_without 4 = .ok (.iload_n 3, 1) := by decide +kernel
theorem dX12_without_5 : decode cX12_without 5 = .ok (.aload_n 0, 1) := by decide +kernel
theorem dX12_without_6 : decode cX12_without 6 = .ok (.getfield 72, 3) := by decide +kernel
theorem dX12_without_9 : decode cX12_without 9 = .ok (.if_icmp .ge 41, 3) := by decide +kernel
theorem dX12_without_12 : decode cX12_without 12 = .ok (.aload_n 0, 1) := by decide +kernel
theorem dX12_without_13 : decode cX12_without 13 = .ok (.getfield 38, 3) := by decide +kernel
theorem dX12_without_16 : decode cX12_without 16 = .ok (.iconst 5, 1) := by decide +kernel
theorem dX12_without_17 : decode cX12_without 17 = .ok (.iload_n 3, 1) := by decide +kernel
theorem dX12_without_18 : decode cX12_without 18 = .ok (.iadd, 1) := by decide +kernel
theorem dX12_without_19 : decode cX12_without 19 = .ok (.iaload, 1) := by decide +kernel
theorem dX12_without_20 : decode cX12_without 20 = .ok (.iload_n 1, 1) := by decide +kernel
theorem dX12_without_21 : decode cX12_without 21 = .ok (.if_icmp .ne 7, 3) := by decide +kernel
theorem dX12_without_24 : decode cX12_without 24 = .ok (.iload_n 2, 1) := by decide +kernel
theorem dX12_without_25 : decode cX12_without 25 = .ok (.goto 18, 3) := by decide +kernel
theorem dX12_without_28 : decode cX12_without 28 = .ok (.bipush 10, 2) := by decide +kernel
theorem dX12_without_30 : decode cX12_without 30 = .ok (.iload_n 2, 1) := by decide +kernel
theorem dX12_without_31 : decode cX12_without 31 = .ok (.imul, 1) := by decide +kernel
theorem dX12_without_32 : decode cX12_without 32 = .ok (.aload_n 0, 1) := by decide +kernel
theorem dX12_without_33 : decode cX12_without 33 = .ok (.getfield 38, 3) := by decide +kernel
theorem dX12_without_36 : decode cX12_without 36 = .ok (.iconst 5, 1) := by decide +kernel
theorem dX12_without_37 : decode cX12_without 37 = .ok (.iload_n 3, 1) := by decide +kernel
theorem dX12_without_38 : decode cX12_without 38 = .ok (.iadd, 1) := by decide +kernel
theorem dX12_without_39 : decode cX12_without 39 = .ok (.iaload, 1) := by decide +kernel
theorem dX12_without_40 : decode cX12_without 40 = .ok (.iadd, 1) := by decide +kernel
theorem dX12_without_41 : decode cX12_without 41 = .ok (.iconst 1, 1) := by decide +kernel
theorem dX12_without_42 : decode cX12_without 42 = .ok (.iadd, 1) := by decide +kernel
theorem dX12_without_43 : decode cX12_without 43 = .ok (.istore_n 2, 1) := by decide +kernel
theorem dX12_without_44 : decode cX12_without 44 = .ok (.iinc 3 1, 3) := by decide +kernel
theorem dX12_without_47 : decode cX12_without 47 = .ok (.goto (-43), 3) := by decide +kernel
theorem dX12_without_50 : decode cX12_without 50 = .ok (.iload_n 2, 1) := by decide +kernel
theorem dX12_without_51 : decode cX12_without 51 = .ok (.ireturn, 1) := by decide +kernel
theorem dX12_gap_0 : decode cX12_gap 0 = .ok (.aload_n 0, 1) := by decide +kernel
theorem dX12_gap_1 : decode cX12_gap 1 = .ok (.iload_n 1, 1) := by decide +kernel
theorem dX12_gap_2 : decode cX12_gap 2 = .ok (.invokevirtual 197, 3) := by decide +kernel
theorem dX12_gap_5 : decode cX12_gap 5 = .ok (.ifCond .ne 6, 3) := by decide +kernel
theorem dX12_gap_8 : decode cX12_gap 8 = .ok (.ldc 200, 2) := by decide +kernel
theorem dX12_gap_10 : decode cX12_gap 10 = .ok (.ireturn, 1) := by decide +kernel
theorem dX12_gap_11 : decode cX12_gap 11 = .ok (.iload_n 2, 1) := by decide +kernel
theorem dX12_gap_12 : decode cX12_gap 12 = .ok (.iconst 1, 1) := by decide +kernel
theorem dX12_gap_13 : decode cX12_gap 13 = .ok (.sipush 500, 3) := by decide +kernel
theorem dX12_gap_16 : decode cX12_gap 16 = .ok (.invokestatic 75, 3) := by decide +kernel
theorem dX12_gap_19 : decode cX12_gap 19 = .ok (.ifCond .ne 6, 3) := by decide +kernel
theorem dX12_gap_22 : decode cX12_gap 22 = .ok (.ldc 82, 2) := by decide +kernel
theorem dX12_gap_24 : decode cX12_gap 24 = .ok (.ireturn, 1) := by decide +kernel
theorem dX12_gap_25 : decode cX12_gap 25 = .ok (.aload_n 0, 1) := by decide +kernel
theorem dX12_gap_26 : decode cX12_gap 26 = .ok (.invokevirtual 249, 3) := by decide +kernel
theorem dX12_gap_29 : decode cX12_gap 29 = .ok (.aload_n 0, 1) := by decide +kernel
theorem dX12_gap_30 : decode cX12_gap 30 = .ok (.iconst 0, 1) := by decide +kernel
theorem dX12_gap_31 : decode cX12_gap 31 = .ok (.putfield 259, 3) := by decide +kernel
theorem dX12_gap_34 : decode cX12_gap 34 = .ok (.aload_n 0, 1) := by decide +kernel
theorem dX12_gap_35 : decode cX12_gap 35 = .ok (.aload_n 0, 1) := by decide +kernel
theorem dX12_gap_36 : decode cX12_gap 36 = .ok (.iload_n 1, 1) := by decide +kernel
theorem dX12_gap_37 : decode cX12_gap 37 = .ok (.invokevirtual 277, 3) := by decide +kernel
theorem dX12_gap_40 : decode cX12_gap 40 = .ok (.invokevirtual 262, 3) := by decide +kernel
theorem dX12_gap_43 : decode cX12_gap 43 = .ok (.ifCond .eq 7, 3) := by decide +kernel
theorem dX12_gap_46 : decode cX12_gap 46 = .ok (.iconst 1, 1) := by decide +kernel
theorem dX12_gap_47 : decode cX12_gap 47 = .ok (.goto 4, 3) := by decide +kernel
theorem dX12_gap_50 : decode cX12_gap 50 = .ok (.iconst 0, 1) := by decide +kernel
theorem dX12_gap_51 : decode cX12_gap 51 = .ok (.istore_n 3, 1) := by decide +kernel
theorem dX12_gap_52 : decode cX12_gap 52 = .ok (.iconst 0, 1) := by decide +kernel
theorem dX12_gap_53 : decode cX12_gap 53 = .ok (.istore 4, 2) := by decide +kernel
theorem dX12_gap_55 : decode cX12_gap 55 = .ok (.iload 4, 2) := by decide +kernel
theorem dX12_gap_57 : decode cX12_gap 57 = .ok (.iload_n 2, 1) := by decide +kernel
theorem dX12_gap_58 : decode cX12_gap 58 = .ok (.if_icmp .ge 34, 3) := by decide +kernel
theorem dX12_gap_61 : decode cX12_gap 61 = .ok (.aload_n 0, 1) := by decide +kernel
theorem dX12_gap_62 : decode cX12_gap 62 = .ok (.iconst 1, 1) := by decide +kernel
theorem dX12_gap_63 : decode cX12_gap 63 = .ok (.invokevirtual 252, 3) := by decide +kernel
theorem dX12_gap_66 : decode cX12_gap 66 = .ok (.iload_n 3, 1) := by decide +kernel
theorem dX12_gap_67 : decode cX12_gap 67 = .ok (.aload_n 0, 1) := by decide +kernel
theorem dX12_gap_68 : decode cX12_gap 68 = .ok (.aload_n 0, 1) := by decide +kernel
theorem dX12_gap_69 : decode cX12_gap 69 = .ok (.iload_n 1, 1) := by decide +kernel
theorem dX12_gap_70 : decode cX12_gap 70 = .ok (.invokevirtual 277, 3) := by decide +kernel
theorem dX12_gap_73 : decode cX12_gap 73 = .ok (.invokevirtual 262, 3) := by decide +kernel
theorem dX12_gap_76 : decode cX12_gap 76 = .ok (.ifCond .eq 7, 3) := by decide +kernel
theorem dX12_gap_79 : decode cX12_gap 79 = .ok (.iconst 1, 1) := by decide +kernel
theorem dX12_gap_80 : decode cX12_gap 80 = .ok (.goto 4, 3) := by decide +kernel
theorem dX12_gap_83 : decode cX12_gap 83 = .ok (.iconst 0, 1) := by decide +kernel
theorem dX12_gap_84 : decode cX12_gap 84 = .ok (.iadd, 1) := by decide +kernel
theorem dX12_gap_85 : decode cX12_gap 85 = .ok (.istore_n 3, 1) := by decide +kernel
theorem dX12_gap_86 : decode cX12_gap 86 = .ok (.iinc 4 1, 3) := by decide +kernel
theorem dX12_gap_89 : decode cX12_gap 89 = .ok (.goto (-34), 3) := by decide +kernel
theorem dX12_gap_92 : decode cX12_gap 92 = .ok (.iload_n 3, 1) := by decide +kernel
theorem dX12_gap_93 : decode cX12_gap 93 = .ok (.ireturn, 1) := by decide +kernel
theorem dX12_dry_0 : decode cX12_dry 0 = .ok (.iload_n 1, 1) := by decide +kernel
theorem dX12_dry_1 : decode cX12_dry 1 = .ok (.iconst 0, 1) := by decide +kernel
theorem dX12_dry_2 : decode cX12_dry 2 = .ok (.bipush 60, 2) := by decide +kernel
theorem dX12_dry_4 : decode cX12_dry 4 = .ok (.invokestatic 75, 3) := by decide +kernel
theorem dX12_dry_7 : decode cX12_dry 7 = .ok (.ifCond .eq 13, 3) := by decide +kernel
theorem dX12_dry_10 : decode cX12_dry 10 = .ok (.iload_n 2, 1) := by decide +kernel
theorem dX12_dry_11 : decode cX12_dry 11 = .ok (.iconst 0, 1) := by decide +kernel
theorem dX12_dry_12 : decode cX12_dry 12 = .ok (.bipush 100, 2) := by decide +kernel
theorem dX12_dry_14 : decode cX12_dry 14 = .ok (.invokestatic 75, 3) := by decide +kernel
theorem dX12_dry_17 : decode cX12_dry 17 = .ok (.ifCond .ne 6, 3) := by decide +kernel
theorem dX12_dry_20 : decode cX12_dry 20 = .ok (.ldc 82, 2) := by decide +kernel
theorem dX12_dry_22 : decode cX12_dry 22 = .ok (.ireturn, 1) := by decide +kernel
theorem dX12_dry_23 : decode cX12_dry 23 = .ok (.ldc2_w 280, 3) := by decide +kernel
theorem dX12_dry_26 : decode cX12_dry 26 = .ok (.lstore_n 3, 1) := by decide +kernel
theorem dX12_dry_27 : decode cX12_dry 27 = .ok (.iconst 0, 1) := by decide +kernel
theorem dX12_dry_28 : decode cX12_dry 28 = .ok (.istore 5, 2) := by decide +kernel
theorem dX12_dry_30 : decode cX12_dry 30 = .ok (.iload 5, 2) := by decide +kernel
theorem dX12_dry_32 : decode cX12_dry 32 = .ok (.iload_n 1, 1) := by decide +kernel
theorem dX12_dry_33 : decode cX12_dry 33 = .ok (.if_icmp .ge 18, 3) := by decide +kernel
theorem dX12_dry_36 : decode cX12_dry 36 = .ok (.lload_n 3, 1) := by decide +kernel
theorem dX12_dry_37 : decode cX12_dry 37 = .ok (.iload_n 2, 1) := by decide +kernel
theorem dX12_dry_38 : decode cX12_dry 38 = .ok (.i2l, 1) := by decide +kernel
theorem dX12_dry_39 : decode cX12_dry 39 = .ok (.lmul, 1) := by decide +kernel
theorem dX12_dry_40 : decode cX12_dry 40 = .ok (.ldc2_w 282, 3) := by decide +kernel
theorem dX12_dry_43 : decode cX12_dry 43 = .ok (.ldiv, 1) := by decide +kernel
theorem dX12_dry_44 : decode cX12_dry 44 = .ok (.lstore_n 3, 1) := by decide +kernel
theorem dX12_dry_45 : decode cX12_dry 45 = .ok (.iinc 5 1, 3) := by decide +kernel
theorem dX12_dry_48 : decode cX12_dry 48 = .ok (.goto (-18), 3) := by decide +kernel
theorem dX12_dry_51 : decode cX12_dry 51 = .ok (.lload_n 3, 1) := by decide +kernel
theorem dX12_dry_52 : decode cX12_dry 52 = .ok (.l2i, 1) := by decide +kernel
theorem dX12_dry_53 : decode cX12_dry 53 = .ok (.ireturn, 1) := by decide +kernel
theorem dX12_hear_0 : decode cX12_hear 0 = .ok (.iload_n 1, 1) := by decide +kernel
theorem dX12_hear_1 : decode cX12_hear 1 = .ok (.iconst 0, 1) := by decide +kernel
theorem dX12_hear_2 : decode cX12_hear 2 = .ok (.sipush 500, 3) := by decide +kernel
theorem dX12_hear_5 : decode cX12_hear 5 = .ok (.invokestatic 75, 3) := by decide +kernel
theorem dX12_hear_8 : decode cX12_hear 8 = .ok (.ifCond .eq 11, 3) := by decide +kernel
theorem dX12_hear_11 : decode cX12_hear 11 = .ok (.aload_n 0, 1) := by decide +kernel
theorem dX12_hear_12 : decode cX12_hear 12 = .ok (.iload_n 2, 1) := by decide +kernel
theorem dX12_hear_13 : decode cX12_hear 13 = .ok (.invokevirtual 274, 3) := by decide +kernel
theorem dX12_hear_16 : decode cX12_hear 16 = .ok (.ifCond .ne 6, 3) := by decide +kernel
theorem dX12_hear_19 : decode cX12_hear 19 = .ok (.ldc 82, 2) := by decide +kernel
theorem dX12_hear_21 : decode cX12_hear 21 = .ok (.ireturn, 1) := by decide +kernel
theorem dX12_hear_22 : decode cX12_hear 22 = .ok (.aload_n 0, 1) := by decide +kernel
theorem dX12_hear_23 : decode cX12_hear 23 = .ok (.getfield 173, 3) := by decide +kernel
theorem dX12_hear_26 : decode cX12_hear 26 = .ok (.bipush 6, 2) := by decide +kernel
theorem dX12_hear_28 : decode cX12_hear 28 = .ok (.if_icmp .ne 6, 3) := by decide +kernel
theorem dX12_hear_31 : decode cX12_hear 31 = .ok (.ldc 86, 2) := by decide +kernel
theorem dX12_hear_33 : decode cX12_hear 33 = .ok (.ireturn, 1) := by decide +kernel
theorem dX12_hear_34 : decode cX12_hear 34 = .ok (.aload_n 0, 1) := by decide +kernel
theorem dX12_hear_35 : decode cX12_hear 35 = .ok (.getfield 54, 3) := by decide +kernel
theorem dX12_hear_38 : decode cX12_hear 38 = .ok (.iconst 2, 1) := by decide +kernel
theorem dX12_hear_39 : decode cX12_hear 39 = .ok (.aload_n 0, 1) := by decide +kernel
theorem dX12_hear_40 : decode cX12_hear 40 = .ok (.getfield 173, 3) := by decide +kernel
theorem dX12_hear_43 : decode cX12_hear 43 = .ok (.imul, 1) := by decide +kernel
theorem dX12_hear_44 : decode cX12_hear 44 = .ok (.iload_n 1, 1) := by decide +kernel
theorem dX12_hear_45 : decode cX12_hear 45 = .ok (.iastore, 1) := by decide +kernel
theorem dX12_hear_46 : decode cX12_hear 46 = .ok (.aload_n 0, 1) := by decide +kernel
theorem dX12_hear_47 : decode cX12_hear 47 = .ok (.getfield 54, 3) := by decide +kernel
theorem dX12_hear_50 : decode cX12_hear 50 = .ok (.iconst 2, 1) := by decide +kernel
theorem dX12_hear_51 : decode cX12_hear 51 = .ok (.aload_n 0, 1) := by decide +kernel
theorem dX12_hear_52 : decode cX12_hear 52 = .ok (.getfield 173, 3) := by decide +kernel
theorem dX12_hear_55 : decode cX12_hear 55 = .ok (.imul, 1) := by decide +kernel
theorem dX12_hear_56 : decode cX12_hear 56 = .ok (.iconst 1, 1) := by decide +kernel
theorem dX12_hear_57 : decode cX12_hear 57 = .ok (.iadd, 1) := by decide +kernel
theorem dX12_hear_58 : decode cX12_hear 58 = .ok (.iload_n 2, 1) := by decide +kernel
theorem dX12_hear_59 : decode cX12_hear 59 = .ok (.iastore, 1) := by decide +kernel
theorem dX12_hear_60 : decode cX12_hear 60 = .ok (.aload_n 0, 1) := by decide +kernel
theorem dX12_hear_61 : decode cX12_hear 61 = .ok (.dup, 1) := by decide +kernel
theorem dX12_hear_62 : decode cX12_hear 62 = .ok (.getfield 173, 3) := by decide +kernel
theorem dX12_hear_65 : decode cX12_hear 65 = .ok (.iconst 1, 1) := by decide +kernel
theorem dX12_hear_66 : decode cX12_hear 66 = .ok (.iadd, 1) := by decide +kernel
theorem dX12_hear_67 : decode cX12_hear 67 = .ok (.putfield 173, 3) := by decide +kernel
theorem dX12_hear_70 : decode cX12_hear 70 = .ok (.aload_n 0, 1) := by decide +kernel
theorem dX12_hear_71 : decode cX12_hear 71 = .ok (.getfield 173, 3) := by decide +kernel
theorem dX12_hear_74 : decode cX12_hear 74 = .ok (.ireturn, 1) := by decide +kernel
theorem dX12_layTrue_0 : decode cX12_layTrue 0 = .ok (.aload_n 0, 1) := by decide +kernel
theorem dX12_layTrue_1 : decode cX12_layTrue 1 = .ok (.getfield 38, 3) := by decide +kernel
theorem dX12_layTrue_4 : decode cX12_layTrue 4 = .ok (.invokestatic 169, 3) := by decide +kernel
theorem dX12_layTrue_7 : decode cX12_layTrue 7 = .ok (.iconst 0, 1) := by decide +kernel
theorem dX12_layTrue_8 : decode cX12_layTrue 8 = .ok (.istore_n 2, 1) := by decide +kernel
theorem dX12_layTrue_9 : decode cX12_layTrue 9 = .ok (.iload_n 2, 1) := by decide +kernel
theorem dX12_layTrue_10 : decode cX12_layTrue 10 = .ok (.iload_n 1, 1) := by decide +kernel
theorem dX12_layTrue_11 : decode cX12_layTrue 11 = .ok (.if_icmp .ge 28, 3) := by decide +kernel
theorem dX12_layTrue_14 : decode cX12_layTrue 14 = .ok (.aload_n 0, 1) := by decide +kernel
theorem dX12_layTrue_15 : decode cX12_layTrue 15 = .ok (.aload_n 0, 1) := by decide +kernel
theorem dX12_layTrue_16 : decode cX12_layTrue 16 = .ok (.getfield 38, 3) := by decide +kernel
theorem dX12_layTrue_19 : decode cX12_layTrue 19 = .ok (.aload_n 0, 1) := by decide +kernel
theorem dX12_layTrue_20 : decode cX12_layTrue 20 = .ok (.getfield 29, 3) := by decide +kernel
theorem dX12_layTrue_23 : decode cX12_layTrue 23 = .ok (.iload_n 2, 1) := by decide +kernel
theorem dX12_layTrue_24 : decode cX12_layTrue 24 = .ok (.aload_n 0, 1) := by decide +kernel
theorem dX12_layTrue_25 : decode cX12_layTrue 25 = .ok (.getfield 163, 3) := by decide +kernel
theorem dX12_layTrue_28 : decode cX12_layTrue 28 = .ok (.irem, 1) := by decide +kernel
theorem dX12_layTrue_29 : decode cX12_layTrue 29 = .ok (.iaload, 1) := by decide +kernel
theorem dX12_layTrue_30 : decode cX12_layTrue 30 = .ok (.invokevirtual 212, 3) := by decide +kernel
theorem dX12_layTrue_33 : decode cX12_layTrue 33 = .ok (.iinc 2 1, 3) := by decide +kernel
theorem dX12_layTrue_36 : decode cX12_layTrue 36 = .ok (.goto (-27), 3) := by decide +kernel
theorem dX12_layTrue_39 : decode cX12_layTrue 39 = .ok (.return_, 1) := by decide +kernel
theorem dX12_heardOf_0 : decode cX12_heardOf 0 = .ok (.aload_n 0, 1) := by decide +kernel
theorem dX12_heardOf_1 : decode cX12_heardOf 1 = .ok (.aload_n 0, 1) := by decide +kernel
theorem dX12_heardOf_2 : decode cX12_heardOf 2 = .ok (.getfield 38, 3) := by decide +kernel
theorem dX12_heardOf_5 : decode cX12_heardOf 5 = .ok (.iload_n 1, 1) := by decide +kernel
theorem dX12_heardOf_6 : decode cX12_heardOf 6 = .ok (.invokevirtual 201, 3) := by decide +kernel
theorem dX12_heardOf_9 : decode cX12_heardOf 9 = .ok (.istore_n 2, 1) := by decide +kernel
theorem dX12_heardOf_10 : decode cX12_heardOf 10 = .ok (.iload_n 2, 1) := by decide +kernel
theorem dX12_heardOf_11 : decode cX12_heardOf 11 = .ok (.aload_n 0, 1) := by decide +kernel
theorem dX12_heardOf_12 : decode cX12_heardOf 12 = .ok (.getfield 72, 3) := by decide +kernel
theorem dX12_heardOf_15 : decode cX12_heardOf 15 = .ok (.iconst 1, 1) := by decide +kernel
theorem dX12_heardOf_16 : decode cX12_heardOf 16 = .ok (.isub, 1) := by decide +kernel
theorem dX12_heardOf_17 : decode cX12_heardOf 17 = .ok (.if_icmp .ne 12, 3) := by decide +kernel
theorem dX12_heardOf_20 : decode cX12_heardOf 20 = .ok (.aload_n 0, 1) := by decide +kernel
theorem dX12_heardOf_21 : decode cX12_heardOf 21 = .ok (.aload_n 0, 1) := by decide +kernel
theorem dX12_heardOf_22 : decode cX12_heardOf 22 = .ok (.getfield 38, 3) := by decide +kernel
theorem dX12_heardOf_25 : decode cX12_heardOf 25 = .ok (.invokevirtual 182, 3) := by decide +kernel
theorem dX12_heardOf_28 : decode cX12_heardOf 28 = .ok (.ireturn, 1) := by decide +kernel
theorem dX12_heardOf_29 : decode cX12_heardOf 29 = .ok (.aload_n 0, 1) := by decide +kernel
theorem dX12_heardOf_30 : decode cX12_heardOf 30 = .ok (.getfield 38, 3) := by decide +kernel
theorem dX12_heardOf_33 : decode cX12_heardOf 33 = .ok (.iconst 5, 1) := by decide +kernel
theorem dX12_heardOf_34 : decode cX12_heardOf 34 = .ok (.iload_n 2, 1) := by decide +kernel
theorem dX12_heardOf_35 : decode cX12_heardOf 35 = .ok (.iadd, 1) := by decide +kernel
theorem dX12_heardOf_36 : decode cX12_heardOf 36 = .ok (.aload_n 0, 1) := by decide +kernel
theorem dX12_heardOf_37 : decode cX12_heardOf 37 = .ok (.getfield 38, 3) := by decide +kernel
theorem dX12_heardOf_40 : decode cX12_heardOf 40 = .ok (.iconst 5, 1) := by decide +kernel
theorem dX12_heardOf_41 : decode cX12_heardOf 41 = .ok (.iload_n 2, 1) := by decide +kernel
theorem dX12_heardOf_42 : decode cX12_heardOf 42 = .ok (.iadd, 1) := by decide +kernel
theorem dX12_heardOf_43 : decode cX12_heardOf 43 = .ok (.iconst 1, 1) := by decide +kernel
theorem dX12_heardOf_44 : decode cX12_heardOf 44 = .ok (.iadd, 1) := by decide +kernel
theorem dX12_heardOf_45 : decode cX12_heardOf 45 = .ok (.iaload, 1) := by decide +kernel
theorem dX12_heardOf_46 : decode cX12_heardOf 46 = .ok (.iastore, 1) := by decide +kernel
theorem dX12_heardOf_47 : decode cX12_heardOf 47 = .ok (.aload_n 0, 1) := by decide +kernel
theorem dX12_heardOf_48 : decode cX12_heardOf 48 = .ok (.getfield 38, 3) := by decide +kernel
theorem dX12_heardOf_51 : decode cX12_heardOf 51 = .ok (.iconst 5, 1) := by decide +kernel
theorem dX12_heardOf_52 : decode cX12_heardOf 52 = .ok (.iload_n 2, 1) := by decide +kernel
theorem dX12_heardOf_53 : decode cX12_heardOf 53 = .ok (.iadd, 1) := by decide +kernel
theorem dX12_heardOf_54 : decode cX12_heardOf 54 = .ok (.iconst 1, 1) := by decide +kernel
theorem dX12_heardOf_55 : decode cX12_heardOf 55 = .ok (.iadd, 1) := by decide +kernel
theorem dX12_heardOf_56 : decode cX12_heardOf 56 = .ok (.iload_n 1, 1) := by decide +kernel
theorem dX12_heardOf_57 : decode cX12_heardOf 57 = .ok (.iastore, 1) := by decide +kernel
theorem dX12_heardOf_58 : decode cX12_heardOf 58 = .ok (.aload_n 0, 1) := by decide +kernel
theorem dX12_heardOf_59 : decode cX12_heardOf 59 = .ok (.aload_n 0, 1) := by decide +kernel
theorem dX12_heardOf_60 : decode cX12_heardOf 60 = .ok (.getfield 38, 3) := by decide +kernel
theorem dX12_heardOf_63 : decode cX12_heardOf 63 = .ok (.invokevirtual 182, 3) := by decide +kernel
theorem dX12_heardOf_66 : decode cX12_heardOf 66 = .ok (.istore_n 3, 1) := by decide +kernel
theorem dX12_heardOf_67 : decode cX12_heardOf 67 = .ok (.aload_n 0, 1) := by decide +kernel
theorem dX12_heardOf_68 : decode cX12_heardOf 68 = .ok (.getfield 38, 3) := by decide +kernel
theorem dX12_heardOf_71 : decode cX12_heardOf 71 = .ok (.iconst 5, 1) := by decide +kernel
theorem dX12_heardOf_72 : decode cX12_heardOf 72 = .ok (.iload_n 2, 1) := by decide +kernel
theorem dX12_heardOf_73 : decode cX12_heardOf 73 = .ok (.iadd, 1) := by decide +kernel
theorem dX12_heardOf_74 : decode cX12_heardOf 74 = .ok (.iconst 1, 1) := by decide +kernel
theorem dX12_heardOf_75 : decode cX12_heardOf 75 = .ok (.iadd, 1) := by decide +kernel
theorem dX12_heardOf_76 : decode cX12_heardOf 76 = .ok (.aload_n 0, 1) := by decide +kernel
theorem dX12_heardOf_77 : decode cX12_heardOf 77 = .ok (.getfield 38, 3) := by decide +kernel
theorem dX12_heardOf_80 : decode cX12_heardOf 80 = .ok (.iconst 5, 1) := by decide +kernel
theorem dX12_heardOf_81 : decode cX12_heardOf 81 = .ok (.iload_n 2, 1) := by decide +kernel
theorem dX12_heardOf_82 : decode cX12_heardOf 82 = .ok (.iadd, 1) := by decide +kernel
theorem dX12_heardOf_83 : decode cX12_heardOf 83 = .ok (.iaload, 1) := by decide +kernel
theorem dX12_heardOf_84 : decode cX12_heardOf 84 = .ok (.iastore, 1) := by decide +kernel
theorem dX12_heardOf_85 : decode cX12_heardOf 85 = .ok (.aload_n 0, 1) := by decide +kernel
theorem dX12_heardOf_86 : decode cX12_heardOf 86 = .ok (.getfield 38, 3) := by decide +kernel
theorem dX12_heardOf_89 : decode cX12_heardOf 89 = .ok (.iconst 5, 1) := by decide +kernel
theorem dX12_heardOf_90 : decode cX12_heardOf 90 = .ok (.iload_n 2, 1) := by decide +kernel
theorem dX12_heardOf_91 : decode cX12_heardOf 91 = .ok (.iadd, 1) := by decide +kernel
theorem dX12_heardOf_92 : decode cX12_heardOf 92 = .ok (.iload_n 1, 1) := by decide +kernel
theorem dX12_heardOf_93 : decode cX12_heardOf 93 = .ok (.iastore, 1) := by decide +kernel
theorem dX12_heardOf_94 : decode cX12_heardOf 94 = .ok (.iload_n 3, 1) := by decide +kernel
theorem dX12_heardOf_95 : decode cX12_heardOf 95 = .ok (.ireturn, 1) := by decide +kernel
theorem dX12_lateOnes_0 : decode cX12_lateOnes 0 = .ok (.iconst 1, 1) := by decide +kernel
theorem dX12_lateOnes_1 : decode cX12_lateOnes 1 = .ok (.aload_n 0, 1) := by decide +kernel
theorem dX12_lateOnes_2 : decode cX12_lateOnes 2 = .ok (.getfield 72, 3) := by decide +kernel
theorem dX12_lateOnes_5 : decode cX12_lateOnes 5 = .ok (.ishl, 1) := by decide +kernel
theorem dX12_lateOnes_6 : decode cX12_lateOnes 6 = .ok (.iconst 1, 1) := by decide +kernel
theorem dX12_lateOnes_7 : decode cX12_lateOnes 7 = .ok (.isub, 1) := by decide +kernel
theorem dX12_lateOnes_8 : decode cX12_lateOnes 8 = .ok (.istore_n 1, 1) := by decide +kernel
theorem dX12_lateOnes_9 : decode cX12_lateOnes 9 = .ok (.iconst 0, 1) := by decide +kernel
theorem dX12_lateOnes_10 : decode cX12_lateOnes 10 = .ok (.istore_n 2, 1) := by decide +kernel
theorem dX12_lateOnes_11 : decode cX12_lateOnes 11 = .ok (.iload_n 2, 1) := by decide +kernel
theorem dX12_lateOnes_12 : decode cX12_lateOnes 12 = .ok (.aload_n 0, 1) := by decide +kernel
theorem dX12_lateOnes_13 : decode cX12_lateOnes 13 = .ok (.getfield 173, 3) := by decide +kernel
theorem dX12_lateOnes_16 : decode cX12_lateOnes 16 = .ok (.if_icmp .ge 67, 3) := by decide +kernel
theorem dX12_lateOnes_19 : decode cX12_lateOnes 19 = .ok (.aload_n 0, 1) := by decide +kernel
theorem dX12_lateOnes_20 : decode cX12_lateOnes 20 = .ok (.aload_n 0, 1) := by decide +kernel
theorem dX12_lateOnes_21 : decode cX12_lateOnes 21 = .ok (.getfield 54, 3) := by decide +kernel
theorem dX12_lateOnes_24 : decode cX12_lateOnes 24 = .ok (.iconst 2, 1) := by decide +kernel
theorem dX12_lateOnes_25 : decode cX12_lateOnes 25 = .ok (.iload_n 2, 1) := by decide +kernel
theorem dX12_lateOnes_26 : decode cX12_lateOnes 26 = .ok (.imul, 1) := by decide +kernel
theorem dX12_lateOnes_27 : decode cX12_lateOnes 27 = .ok (.iaload, 1) := by decide +kernel
theorem dX12_lateOnes_28 : decode cX12_lateOnes 28 = .ok (.invokevirtual 284, 3) := by decide +kernel
theorem dX12_lateOnes_31 : decode cX12_lateOnes 31 = .ok (.iconst 0, 1) := by decide +kernel
theorem dX12_lateOnes_32 : decode cX12_lateOnes 32 = .ok (.istore_n 3, 1) := by decide +kernel
theorem dX12_lateOnes_33 : decode cX12_lateOnes 33 = .ok (.iload_n 3, 1) := by decide +kernel
theorem dX12_lateOnes_34 : decode cX12_lateOnes 34 = .ok (.aload_n 0, 1) := by decide +kernel
theorem dX12_lateOnes_35 : decode cX12_lateOnes 35 = .ok (.getfield 72, 3) := by decide +kernel
theorem dX12_lateOnes_38 : decode cX12_lateOnes 38 = .ok (.if_icmp .ge 39, 3) := by decide +kernel
theorem dX12_lateOnes_41 : decode cX12_lateOnes 41 = .ok (.aload_n 0, 1) := by decide +kernel
theorem dX12_lateOnes_42 : decode cX12_lateOnes 42 = .ok (.iload_n 3, 1) := by decide +kernel
theorem dX12_lateOnes_43 : decode cX12_lateOnes 43 = .ok (.invokevirtual 287, 3) := by decide +kernel
theorem dX12_lateOnes_46 : decode cX12_lateOnes 46 = .ok (.aload_n 0, 1) := by decide +kernel
theorem dX12_lateOnes_47 : decode cX12_lateOnes 47 = .ok (.getfield 54, 3) := by decide +kernel
theorem dX12_lateOnes_50 : decode cX12_lateOnes 50 = .ok (.iconst 2, 1) := by decide +kernel
theorem dX12_lateOnes_51 : decode cX12_lateOnes 51 = .ok (.iload_n 2, 1) := by decide +kernel
theorem dX12_lateOnes_52 : decode cX12_lateOnes 52 = .ok (.imul, 1) := by decide +kernel
theorem dX12_lateOnes_53 : decode cX12_lateOnes 53 = .ok (.iconst 1, 1) := by decide +kernel
theorem dX12_lateOnes_54 : decode cX12_lateOnes 54 = .ok (.iadd, 1) := by decide +kernel
theorem dX12_lateOnes_55 : decode cX12_lateOnes 55 = .ok (.iaload, 1) := by decide +kernel
theorem dX12_lateOnes_56 : decode cX12_lateOnes 56 = .ok (.if_icmp .ne 7, 3) := by decide +kernel
theorem dX12_lateOnes_59 : decode cX12_lateOnes 59 = .ok (.iload_n 1, 1) := by decide +kernel
theorem dX12_lateOnes_60 : decode cX12_lateOnes 60 = .ok (.goto 10, 3) := by decide +kernel
theorem dX12_lateOnes_63 : decode cX12_lateOnes 63 = .ok (.iload_n 1, 1) := by decide +kernel
theorem dX12_lateOnes_64 : decode cX12_lateOnes 64 = .ok (.iconst 1, 1) := by decide +kernel
theorem dX12_lateOnes_65 : decode cX12_lateOnes 65 = .ok (.iload_n 3, 1) := by decide +kernel
theorem dX12_lateOnes_66 : decode cX12_lateOnes 66 = .ok (.ishl, 1) := by decide +kernel
theorem dX12_lateOnes_67 : decode cX12_lateOnes 67 = .ok (.iconst (-1), 1) := by decide +kernel
theorem dX12_lateOnes_68 : decode cX12_lateOnes 68 = .ok (.ixor, 1) := by decide +kernel
theorem dX12_lateOnes_69 : decode cX12_lateOnes 69 = .ok (.iand, 1) := by decide +kernel
theorem dX12_lateOnes_70 : decode cX12_lateOnes 70 = .ok (.istore_n 1, 1) := by decide +kernel
theorem dX12_lateOnes_71 : decode cX12_lateOnes 71 = .ok (.iinc 3 1, 3) := by decide +kernel
theorem dX12_lateOnes_74 : decode cX12_lateOnes 74 = .ok (.goto (-41), 3) := by decide +kernel
theorem dX12_lateOnes_77 : decode cX12_lateOnes 77 = .ok (.iinc 2 1, 3) := by decide +kernel
theorem dX12_lateOnes_80 : decode cX12_lateOnes 80 = .ok (.goto (-69), 3) := by decide +kernel
theorem dX12_lateOnes_83 : decode cX12_lateOnes 83 = .ok (.iload_n 1, 1) := by decide +kernel
theorem dX12_lateOnes_84 : decode cX12_lateOnes 84 = .ok (.ireturn, 1) := by decide +kernel
theorem dX12_listen_0 : decode cX12_listen 0 = .ok (.aload_n 0, 1) := by decide +kernel
theorem dX12_listen_1 : decode cX12_listen 1 = .ok (.invokevirtual 193, 3) := by decide +kernel
theorem dX12_listen_4 : decode cX12_listen 4 = .ok (.ifCond .ne 6, 3) := by decide +kernel
theorem dX12_listen_7 : decode cX12_listen 7 = .ok (.ldc 196, 2) := by decide +kernel
theorem dX12_listen_9 : decode cX12_listen 9 = .ok (.ireturn, 1) := by decide +kernel
theorem dX12_listen_10 : decode cX12_listen 10 = .ok (.aload_n 0, 1) := by decide +kernel
theorem dX12_listen_11 : decode cX12_listen 11 = .ok (.invokevirtual 189, 3) := by decide +kernel
theorem dX12_listen_14 : decode cX12_listen 14 = .ok (.istore_n 1, 1) := by decide +kernel
theorem dX12_listen_15 : decode cX12_listen 15 = .ok (.iconst (-1), 1) := by decide +kernel
theorem dX12_listen_16 : decode cX12_listen 16 = .ok (.istore_n 2, 1) := by decide +kernel
theorem dX12_listen_17 : decode cX12_listen 17 = .ok (.iload_n 1, 1) := by decide +kernel
theorem dX12_listen_18 : decode cX12_listen 18 = .ok (.invokestatic 290, 3) := by decide +kernel
theorem dX12_listen_21 : decode cX12_listen 21 = .ok (.istore_n 3, 1) := by decide +kernel
theorem dX12_listen_22 : decode cX12_listen 22 = .ok (.iconst 0, 1) := by decide +kernel
theorem dX12_listen_23 : decode cX12_listen 23 = .ok (.istore 4, 2) := by decide +kernel
theorem dX12_listen_25 : decode cX12_listen 25 = .ok (.iload 4, 2) := by decide +kernel
theorem dX12_listen_27 : decode cX12_listen 27 = .ok (.bipush 100, 2) := by decide +kernel
theorem dX12_listen_29 : decode cX12_listen 29 = .ok (.if_icmp .ge 175, 3) := by decide +kernel
theorem dX12_listen_32 : decode cX12_listen 32 = .ok (.aload_n 0, 1) := by decide +kernel
theorem dX12_listen_33 : decode cX12_listen 33 = .ok (.iload 4, 2) := by decide +kernel
theorem dX12_listen_35 : decode cX12_listen 35 = .ok (.invokevirtual 284, 3) := by decide +kernel
theorem dX12_listen_38 : decode cX12_listen 38 = .ok (.iconst 0, 1) := by decide +kernel
theorem dX12_listen_39 : decode cX12_listen 39 = .ok (.istore 5, 2) := by decide +kernel
theorem dX12_listen_41 : decode cX12_listen 41 = .ok (.iload 5, 2) := by decide +kernel
theorem dX12_listen_43 : decode cX12_listen 43 = .ok (.aload_n 0, 1) := by decide +kernel
theorem dX12_listen_44 : decode cX12_listen 44 = .ok (.getfield 72, 3) := by decide +kernel
theorem dX12_listen_47 : decode cX12_listen 47 = .ok (.if_icmp .ge 22, 3) := by decide +kernel
theorem dX12_listen_50 : decode cX12_listen 50 = .ok (.aload_n 0, 1) := by decide +kernel
theorem dX12_listen_51 : decode cX12_listen 51 = .ok (.getfield 69, 3) := by decide +kernel
theorem dX12_listen_54 : decode cX12_listen 54 = .ok (.iload 5, 2) := by decide +kernel
theorem dX12_listen_56 : decode cX12_listen 56 = .ok (.aload_n 0, 1) := by decide +kernel
theorem dX12_listen_57 : decode cX12_listen 57 = .ok (.iload 5, 2) := by decide +kernel
theorem dX12_listen_59 : decode cX12_listen 59 = .ok (.invokevirtual 287, 3) := by decide +kernel
theorem dX12_listen_62 : decode cX12_listen 62 = .ok (.iastore, 1) := by decide +kernel
theorem dX12_listen_63 : decode cX12_listen 63 = .ok (.iinc 5 1, 3) := by decide +kernel
theorem dX12_listen_66 : decode cX12_listen 66 = .ok (.goto (-25), 3) := by decide +kernel
theorem dX12_listen_69 : decode cX12_listen 69 = .ok (.iconst 0, 1) := by decide +kernel
theorem dX12_listen_70 : decode cX12_listen 70 = .ok (.istore 5, 2) := by decide +kernel
theorem dX12_listen_72 : decode cX12_listen 72 = .ok (.iconst 0, 1) := by decide +kernel
theorem dX12_listen_73 : decode cX12_listen 73 = .ok (.istore 6, 2) := by decide +kernel
theorem dX12_listen_75 : decode cX12_listen 75 = .ok (.iload 6, 2) := by decide +kernel
theorem dX12_listen_77 : decode cX12_listen 77 = .ok (.aload_n 0, 1) := by decide +kernel
theorem dX12_listen_78 : decode cX12_listen 78 = .ok (.getfield 72, 3) := by decide +kernel
theorem dX12_listen_81 : decode cX12_listen 81 = .ok (.if_icmp .ge 91, 3) := by decide +kernel
theorem dX12_listen_84 : decode cX12_listen 84 = .ok (.iconst 0, 1) := by decide +kernel
theorem dX12_listen_85 : decode cX12_listen 85 = .ok (.istore 7, 2) := by decide +kernel
theorem dX12_listen_87 : decode cX12_listen 87 = .ok (.iconst 0, 1) := by decide +kernel
theorem dX12_listen_88 : decode cX12_listen 88 = .ok (.istore 8, 2) := by decide +kernel
theorem dX12_listen_90 : decode cX12_listen 90 = .ok (.iload 8, 2) := by decide +kernel
theorem dX12_listen_92 : decode cX12_listen 92 = .ok (.aload_n 0, 1) := by decide +kernel
theorem dX12_listen_93 : decode cX12_listen 93 = .ok (.getfield 72, 3) := by decide +kernel
theorem dX12_listen_96 : decode cX12_listen 96 = .ok (.if_icmp .ge 54, 3) := by decide +kernel
theorem dX12_listen_99 : decode cX12_listen 99 = .ok (.iload 7, 2) := by decide +kernel
theorem dX12_listen_101 : decode cX12_listen 101 = .ok (.iload_n 1, 1) := by decide +kernel
theorem dX12_listen_102 : decode cX12_listen 102 = .ok (.iload 6, 2) := by decide +kernel
theorem dX12_listen_104 : decode cX12_listen 104 = .ok (.invokestatic 112, 3) := by decide +kernel
theorem dX12_listen_107 : decode cX12_listen 107 = .ok (.ifCond .eq 33, 3) := by decide +kernel
theorem dX12_listen_110 : decode cX12_listen 110 = .ok (.iload_n 1, 1) := by decide +kernel
theorem dX12_listen_111 : decode cX12_listen 111 = .ok (.iload 8, 2) := by decide +kernel
theorem dX12_listen_113 : decode cX12_listen 113 = .ok (.invokestatic 112, 3) := by decide +kernel
theorem dX12_listen_116 : decode cX12_listen 116 = .ok (.ifCond .eq 24, 3) := by decide +kernel
theorem dX12_listen_119 : decode cX12_listen 119 = .ok (.aload_n 0, 1) := by decide +kernel
theorem dX12_listen_120 : decode cX12_listen 120 = .ok (.getfield 69, 3) := by decide +kernel
theorem dX12_listen_123 : decode cX12_listen 123 = .ok (.iload 6, 2) := by decide +kernel
theorem dX12_listen_125 : decode cX12_listen 125 = .ok (.iaload, 1) := by decide +kernel
theorem dX12_listen_126 : decode cX12_listen 126 = .ok (.aload_n 0, 1) := by decide +kernel
theorem dX12_listen_127 : decode cX12_listen 127 = .ok (.getfield 69, 3) := by decide +kernel
theorem dX12_listen_130 : decode cX12_listen 130 = .ok (.iload 8, 2) := by decide +kernel
theorem dX12_listen_132 : decode cX12_listen 132 = .ok (.iaload, 1) := by decide +kernel
theorem dX12_listen_133 : decode cX12_listen 133 = .ok (.if_icmp .ne 7, 3) := by decide +kernel
theorem dX12_listen_136 : decode cX12_listen 136 = .ok (.iconst 1, 1) := by decide +kernel
theorem dX12_listen_137 : decode cX12_listen 137 = .ok (.goto 4, 3) := by decide +kernel
theorem dX12_listen_140 : decode cX12_listen 140 = .ok (.iconst 0, 1) := by decide +kernel
theorem dX12_listen_141 : decode cX12_listen 141 = .ok (.iadd, 1) := by decide +kernel
theorem dX12_listen_142 : decode cX12_listen 142 = .ok (.istore 7, 2) := by decide +kernel
theorem dX12_listen_144 : decode cX12_listen 144 = .ok (.iinc 8 1, 3) := by decide +kernel
theorem dX12_listen_147 : decode cX12_listen 147 = .ok (.goto (-57), 3) := by decide +kernel
theorem dX12_listen_150 : decode cX12_listen 150 = .ok (.iload 7, 2) := by decide +kernel
theorem dX12_listen_152 : decode cX12_listen 152 = .ok (.iload 5, 2) := by decide +kernel
theorem dX12_listen_154 : decode cX12_listen 154 = .ok (.if_icmp .le 8, 3) := by decide +kernel
theorem dX12_listen_157 : decode cX12_listen 157 = .ok (.iload 7, 2) := by decide +kernel
theorem dX12_listen_159 : decode cX12_listen 159 = .ok (.goto 5, 3) := by decide +kernel
theorem dX12_listen_162 : decode cX12_listen 162 = .ok (.iload 5, 2) := by decide +kernel
theorem dX12_listen_164 : decode cX12_listen 164 = .ok (.istore 5, 2) := by decide +kernel
theorem dX12_listen_166 : decode cX12_listen 166 = .ok (.iinc 6 1, 3) := by decide +kernel
theorem dX12_listen_169 : decode cX12_listen 169 = .ok (.goto (-94), 3) := by decide +kernel
theorem dX12_listen_172 : decode cX12_listen 172 = .ok (.iload 5, 2) := by decide +kernel
theorem dX12_listen_174 : decode cX12_listen 174 = .ok (.iload_n 3, 1) := by decide +kernel
theorem dX12_listen_175 : decode cX12_listen 175 = .ok (.if_icmp .ge 8, 3) := by decide +kernel
theorem dX12_listen_178 : decode cX12_listen 178 = .ok (.iload 4, 2) := by decide +kernel
theorem dX12_listen_180 : decode cX12_listen 180 = .ok (.goto 4, 3) := by decide +kernel
theorem dX12_listen_183 : decode cX12_listen 183 = .ok (.iload_n 2, 1) := by decide +kernel
theorem dX12_listen_184 : decode cX12_listen 184 = .ok (.istore_n 2, 1) := by decide +kernel
theorem dX12_listen_185 : decode cX12_listen 185 = .ok (.iload 5, 2) := by decide +kernel
theorem dX12_listen_187 : decode cX12_listen 187 = .ok (.iload_n 3, 1) := by decide +kernel
theorem dX12_listen_188 : decode cX12_listen 188 = .ok (.if_icmp .ge 8, 3) := by decide +kernel
theorem dX12_listen_191 : decode cX12_listen 191 = .ok (.iload 5, 2) := by decide +kernel
theorem dX12_listen_193 : decode cX12_listen 193 = .ok (.goto 4, 3) := by decide +kernel
theorem dX12_listen_196 : decode cX12_listen 196 = .ok (.iload_n 3, 1) := by decide +kernel
theorem dX12_listen_197 : decode cX12_listen 197 = .ok (.istore_n 3, 1) := by decide +kernel
theorem dX12_listen_198 : decode cX12_listen 198 = .ok (.iinc 4 1, 3) := by decide +kernel
theorem dX12_listen_201 : decode cX12_listen 201 = .ok (.goto (-176), 3) := by decide +kernel
theorem dX12_listen_204 : decode cX12_listen 204 = .ok (.iload_n 2, 1) := by decide +kernel
theorem dX12_listen_205 : decode cX12_listen 205 = .ok (.ireturn, 1) := by decide +kernel
theorem dX12_write_0 : decode cX12_write 0 = .ok (.aload_n 0, 1) := by decide +kernel
theorem dX12_write_1 : decode cX12_write 1 = .ok (.iload_n 1, 1) := by decide +kernel
theorem dX12_write_2 : decode cX12_write 2 = .ok (.invokevirtual 197, 3) := by decide +kernel
theorem dX12_write_5 : decode cX12_write 5 = .ok (.ifCond .eq 11, 3) := by decide +kernel
theorem dX12_write_8 : decode cX12_write 8 = .ok (.aload_n 0, 1) := by decide +kernel
theorem dX12_write_9 : decode cX12_write 9 = .ok (.iload_n 2, 1) := by decide +kernel
theorem dX12_write_10 : decode cX12_write 10 = .ok (.invokevirtual 197, 3) := by decide +kernel
theorem dX12_write_13 : decode cX12_write 13 = .ok (.ifCond .ne 6, 3) := by decide +kernel
theorem dX12_write_16 : decode cX12_write 16 = .ok (.ldc 200, 2) := by decide +kernel
theorem dX12_write_18 : decode cX12_write 18 = .ok (.ireturn, 1) := by decide +kernel
theorem dX12_write_19 : decode cX12_write 19 = .ok (.aload_n 0, 1) := by decide +kernel
theorem dX12_write_20 : decode cX12_write 20 = .ok (.getfield 176, 3) := by decide +kernel
theorem dX12_write_23 : decode cX12_write 23 = .ok (.bipush 15, 2) := by decide +kernel
theorem dX12_write_25 : decode cX12_write 25 = .ok (.if_icmp .ne 6, 3) := by decide +kernel
theorem dX12_write_28 : decode cX12_write 28 = .ok (.ldc 86, 2) := by decide +kernel
theorem dX12_write_30 : decode cX12_write 30 = .ok (.ireturn, 1) := by decide +kernel
theorem dX12_write_31 : decode cX12_write 31 = .ok (.aload_n 0, 1) := by decide +kernel
theorem dX12_write_32 : decode cX12_write 32 = .ok (.getfield 57, 3) := by decide +kernel
theorem dX12_write_35 : decode cX12_write 35 = .ok (.iconst 2, 1) := by decide +kernel
theorem dX12_write_36 : decode cX12_write 36 = .ok (.aload_n 0, 1) := by decide +kernel
theorem dX12_write_37 : decode cX12_write 37 = .ok (.getfield 176, 3) := by decide +kernel
theorem dX12_write_40 : decode cX12_write 40 = .ok (.imul, 1) := by decide +kernel
theorem dX12_write_41 : decode cX12_write 41 = .ok (.iload_n 1, 1) := by decide +kernel
theorem dX12_write_42 : decode cX12_write 42 = .ok (.iastore, 1) := by decide +kernel
theorem dX12_write_43 : decode cX12_write 43 = .ok (.aload_n 0, 1) := by decide +kernel
theorem dX12_write_44 : decode cX12_write 44 = .ok (.getfield 57, 3) := by decide +kernel
theorem dX12_write_47 : decode cX12_write 47 = .ok (.iconst 2, 1) := by decide +kernel
theorem dX12_write_48 : decode cX12_write 48 = .ok (.aload_n 0, 1) := by decide +kernel
theorem dX12_write_49 : decode cX12_write 49 = .ok (.getfield 176, 3) := by decide +kernel
theorem dX12_write_52 : decode cX12_write 52 = .ok (.imul, 1) := by decide +kernel
theorem dX12_write_53 : decode cX12_write 53 = .ok (.iconst 1, 1) := by decide +kernel
theorem dX12_write_54 : decode cX12_write 54 = .ok (.iadd, 1) := by decide +kernel
theorem dX12_write_55 : decode cX12_write 55 = .ok (.iload_n 2, 1) := by decide +kernel
theorem dX12_write_56 : decode cX12_write 56 = .ok (.iastore, 1) := by decide +kernel
theorem dX12_write_57 : decode cX12_write 57 = .ok (.aload_n 0, 1) := by decide +kernel
theorem dX12_write_58 : decode cX12_write 58 = .ok (.dup, 1) := by decide +kernel
theorem dX12_write_59 : decode cX12_write 59 = .ok (.getfield 176, 3) := by decide +kernel
theorem dX12_write_62 : decode cX12_write 62 = .ok (.iconst 1, 1) := by decide +kernel
theorem dX12_write_63 : decode cX12_write 63 = .ok (.iadd, 1) := by decide +kernel
theorem dX12_write_64 : decode cX12_write 64 = .ok (.putfield 176, 3) := by decide +kernel
theorem dX12_write_67 : decode cX12_write 67 = .ok (.aload_n 0, 1) := by decide +kernel
theorem dX12_write_68 : decode cX12_write 68 = .ok (.getfield 176, 3) := by decide +kernel
theorem dX12_write_71 : decode cX12_write 71 = .ok (.ireturn, 1) := by decide +kernel
theorem dX12_tear_0 : decode cX12_tear 0 = .ok (.aload_n 0, 1) := by decide +kernel
theorem dX12_tear_1 : decode cX12_tear 1 = .ok (.getfield 173, 3) := by decide +kernel
theorem dX12_tear_4 : decode cX12_tear 4 = .ok (.aload_n 0, 1) := by decide +kernel
theorem dX12_tear_5 : decode cX12_tear 5 = .ok (.getfield 176, 3) := by decide +kernel
theorem dX12_tear_8 : decode cX12_tear 8 = .ok (.iadd, 1) := by decide +kernel
theorem dX12_tear_9 : decode cX12_tear 9 = .ok (.istore_n 1, 1) := by decide +kernel
theorem dX12_tear_10 : decode cX12_tear 10 = .ok (.aload_n 0, 1) := by decide +kernel
theorem dX12_tear_11 : decode cX12_tear 11 = .ok (.iconst 0, 1) := by decide +kernel
theorem dX12_tear_12 : decode cX12_tear 12 = .ok (.putfield 173, 3) := by decide +kernel
theorem dX12_tear_15 : decode cX12_tear 15 = .ok (.aload_n 0, 1) := by decide +kernel
theorem dX12_tear_16 : decode cX12_tear 16 = .ok (.iconst 0, 1) := by decide +kernel
theorem dX12_tear_17 : decode cX12_tear 17 = .ok (.putfield 176, 3) := by decide +kernel
theorem dX12_tear_20 : decode cX12_tear 20 = .ok (.iload_n 1, 1) := by decide +kernel
theorem dX12_tear_21 : decode cX12_tear 21 = .ok (.ireturn, 1) := by decide +kernel
theorem dX12_judge_0 : decode cX12_judge 0 = .ok (.iconst 0, 1) := by decide +kernel
theorem dX12_judge_1 : decode cX12_judge 1 = .ok (.istore_n 1, 1) := by decide +kernel
theorem dX12_judge_2 : decode cX12_judge 2 = .ok (.iload_n 1, 1) := by decide +kernel
theorem dX12_judge_3 : decode cX12_judge 3 = .ok (.aload_n 0, 1) := by decide +kernel
theorem dX12_judge_4 : decode cX12_judge 4 = .ok (.getfield 176, 3) := by decide +kernel
theorem dX12_judge_7 : decode cX12_judge 7 = .ok (.if_icmp .ge 40, 3) := by decide +kernel
theorem dX12_judge_10 : decode cX12_judge 10 = .ok (.aload_n 0, 1) := by decide +kernel
theorem dX12_judge_11 : decode cX12_judge 11 = .ok (.aload_n 0, 1) := by decide +kernel
theorem dX12_judge_12 : decode cX12_judge 12 = .ok (.getfield 35, 3) := by decide +kernel
theorem dX12_judge_15 : decode cX12_judge 15 = .ok (.aload_n 0, 1) := by decide +kernel
theorem dX12_judge_16 : decode cX12_judge 16 = .ok (.getfield 57, 3) := by decide +kernel
theorem dX12_judge_19 : decode cX12_judge 19 = .ok (.iconst 2, 1) := by decide +kernel
theorem dX12_judge_20 : decode cX12_judge 20 = .ok (.iload_n 1, 1) := by decide +kernel
theorem dX12_judge_21 : decode cX12_judge 21 = .ok (.imul, 1) := by decide +kernel
theorem dX12_judge_22 : decode cX12_judge 22 = .ok (.iaload, 1) := by decide +kernel
theorem dX12_judge_23 : decode cX12_judge 23 = .ok (.invokevirtual 201, 3) := by decide +kernel
theorem dX12_judge_26 : decode cX12_judge 26 = .ok (.aload_n 0, 1) := by decide +kernel
theorem dX12_judge_27 : decode cX12_judge 27 = .ok (.getfield 57, 3) := by decide +kernel
theorem dX12_judge_30 : decode cX12_judge 30 = .ok (.iconst 2, 1) := by decide +kernel
theorem dX12_judge_31 : decode cX12_judge 31 = .ok (.iload_n 1, 1) := by decide +kernel
theorem dX12_judge_32 : decode cX12_judge 32 = .ok (.imul, 1) := by decide +kernel
theorem dX12_judge_33 : decode cX12_judge 33 = .ok (.iconst 1, 1) := by decide +kernel
theorem dX12_judge_34 : decode cX12_judge 34 = .ok (.iadd, 1) := by decide +kernel
theorem dX12_judge_35 : decode cX12_judge 35 = .ok (.iaload, 1) := by decide +kernel
theorem dX12_judge_36 : decode cX12_judge 36 = .ok (.if_icmp .eq 5, 3) := by decide +kernel
theorem dX12_judge_39 : decode cX12_judge 39 = .ok (.iload_n 1, 1) := by decide +kernel
theorem dX12_judge_40 : decode cX12_judge 40 = .ok (.ireturn, 1) := by decide +kernel
theorem dX12_judge_41 : decode cX12_judge 41 = .ok (.iinc 1 1, 3) := by decide +kernel
theorem dX12_judge_44 : decode cX12_judge 44 = .ok (.goto (-42), 3) := by decide +kernel
theorem dX12_judge_47 : decode cX12_judge 47 = .ok (.iconst (-1), 1) := by decide +kernel
theorem dX12_judge_48 : decode cX12_judge 48 = .ok (.ireturn, 1) := by decide +kernel
theorem dX12_seed_0 : decode cX12_seed 0 = .ok (.iload_n 1, 1) := by decide +kernel
theorem dX12_seed_1 : decode cX12_seed 1 = .ok (.ifCond .ge 6, 3) := by decide +kernel
theorem dX12_seed_4 : decode cX12_seed 4 = .ok (.ldc 82, 2) := by decide +kernel
theorem dX12_seed_6 : decode cX12_seed 6 = .ok (.ireturn, 1) := by decide +kernel
theorem dX12_seed_7 : decode cX12_seed 7 = .ok (.aload_n 0, 1) := by decide +kernel
theorem dX12_seed_8 : decode cX12_seed 8 = .ok (.getfield 233, 3) := by decide +kernel
theorem dX12_seed_11 : decode cX12_seed 11 = .ok (.istore_n 2, 1) := by decide +kernel
theorem dX12_seed_12 : decode cX12_seed 12 = .ok (.aload_n 0, 1) := by decide +kernel
theorem dX12_seed_13 : decode cX12_seed 13 = .ok (.iload_n 1, 1) := by decide +kernel
theorem dX12_seed_14 : decode cX12_seed 14 = .ok (.putfield 233, 3) := by decide +kernel
theorem dX12_seed_17 : decode cX12_seed 17 = .ok (.iload_n 2, 1) := by decide +kernel
theorem dX12_seed_18 : decode cX12_seed 18 = .ok (.ireturn, 1) := by decide +kernel
theorem dX12_keep_0 : decode cX12_keep 0 = .ok (.iload_n 1, 1) := by decide +kernel
theorem dX12_keep_1 : decode cX12_keep 1 = .ok (.iconst 0, 1) := by decide +kernel
theorem dX12_keep_2 : decode cX12_keep 2 = .ok (.iconst 1, 1) := by decide +kernel
theorem dX12_keep_3 : decode cX12_keep 3 = .ok (.invokestatic 75, 3) := by decide +kernel
theorem dX12_keep_6 : decode cX12_keep 6 = .ok (.ifCond .ne 6, 3) := by decide +kernel
theorem dX12_keep_9 : decode cX12_keep 9 = .ok (.ldc 200, 2) := by decide +kernel
theorem dX12_keep_11 : decode cX12_keep 11 = .ok (.ireturn, 1) := by decide +kernel
theorem dX12_keep_12 : decode cX12_keep 12 = .ok (.aload_n 0, 1) := by decide +kernel
theorem dX12_keep_13 : decode cX12_keep 13 = .ok (.getfield 35, 3) := by decide +kernel
theorem dX12_keep_16 : decode cX12_keep 16 = .ok (.iconst 0, 1) := by decide +kernel
theorem dX12_keep_17 : decode cX12_keep 17 = .ok (.aload_n 0, 1) := by decide +kernel
theorem dX12_keep_18 : decode cX12_keep 18 = .ok (.getfield 44, 3) := by decide +kernel
theorem dX12_keep_21 : decode cX12_keep 21 = .ok (.bipush 23, 2) := by decide +kernel
theorem dX12_keep_23 : decode cX12_keep 23 = .ok (.iload_n 1, 1) := by decide +kernel
theorem dX12_keep_24 : decode cX12_keep 24 = .ok (.imul, 1) := by decide +kernel
theorem dX12_keep_25 : decode cX12_keep 25 = .ok (.bipush 23, 2) := by decide +kernel
theorem dX12_keep_27 : decode cX12_keep 27 = .ok (.invokestatic 159, 3) := by decide +kernel
theorem dX12_keep_30 : decode cX12_keep 30 = .ok (.aload_n 0, 1) := by decide +kernel
theorem dX12_keep_31 : decode cX12_keep 31 = .ok (.getfield 47, 3) := by decide +kernel
theorem dX12_keep_34 : decode cX12_keep 34 = .ok (.iload_n 1, 1) := by decide +kernel
theorem dX12_keep_35 : decode cX12_keep 35 = .ok (.aload_n 0, 1) := by decide +kernel
theorem dX12_keep_36 : decode cX12_keep 36 = .ok (.getfield 233, 3) := by decide +kernel
theorem dX12_keep_39 : decode cX12_keep 39 = .ok (.iastore, 1) := by decide +kernel
theorem dX12_keep_40 : decode cX12_keep 40 = .ok (.aload_n 0, 1) := by decide +kernel
theorem dX12_keep_41 : decode cX12_keep 41 = .ok (.getfield 50, 3) := by decide +kernel
theorem dX12_keep_44 : decode cX12_keep 44 = .ok (.iload_n 1, 1) := by decide +kernel
theorem dX12_keep_45 : decode cX12_keep 45 = .ok (.iconst 1, 1) := by decide +kernel
theorem dX12_keep_46 : decode cX12_keep 46 = .ok (.bastore, 1) := by decide +kernel
theorem dX12_keep_47 : decode cX12_keep 47 = .ok (.aload_n 0, 1) := by decide +kernel
theorem dX12_keep_48 : decode cX12_keep 48 = .ok (.iconst 0, 1) := by decide +kernel
theorem dX12_keep_49 : decode cX12_keep 49 = .ok (.putfield 179, 3) := by decide +kernel
theorem dX12_keep_52 : decode cX12_keep 52 = .ok (.iconst 1, 1) := by decide +kernel
theorem dX12_keep_53 : decode cX12_keep 53 = .ok (.ireturn, 1) := by decide +kernel
theorem dX12_goBack_0 : decode cX12_goBack 0 = .ok (.iload_n 1, 1) := by decide +kernel
theorem dX12_goBack_1 : decode cX12_goBack 1 = .ok (.iconst 0, 1) := by decide +kernel
theorem dX12_goBack_2 : decode cX12_goBack 2 = .ok (.iconst 1, 1) := by decide +kernel
theorem dX12_goBack_3 : decode cX12_goBack 3 = .ok (.invokestatic 75, 3) := by decide +kernel
theorem dX12_goBack_6 : decode cX12_goBack 6 = .ok (.ifCond .ne 6, 3) := by decide +kernel
theorem dX12_goBack_9 : decode cX12_goBack 9 = .ok (.ldc 200, 2) := by decide +kernel
theorem dX12_goBack_11 : decode cX12_goBack 11 = .ok (.ireturn, 1) := by decide +kernel
theorem dX12_goBack_12 : decode cX12_goBack 12 = .ok (.aload_n 0, 1) := by decide +kernel
theorem dX12_goBack_13 : decode cX12_goBack 13 = .ok (.getfield 50, 3) := by decide +kernel
theorem dX12_goBack_16 : decode cX12_goBack 16 = .ok (.iload_n 1, 1) := by decide +kernel
theorem dX12_goBack_17 : decode cX12_goBack 17 = .ok (.baload, 1) := by decide +kernel
theorem dX12_goBack_18 : decode cX12_goBack 18 = .ok (.ifCond .ne 6, 3) := by decide +kernel
theorem dX12_goBack_21 : decode cX12_goBack 21 = .ok (.ldc 196, 2) := by decide +kernel
theorem dX12_goBack_23 : decode cX12_goBack 23 = .ok (.ireturn, 1) := by decide +kernel
theorem dX12_goBack_24 : decode cX12_goBack 24 = .ok (.aload_n 0, 1) := by decide +kernel
theorem dX12_goBack_25 : decode cX12_goBack 25 = .ok (.getfield 44, 3) := by decide +kernel
theorem dX12_goBack_28 : decode cX12_goBack 28 = .ok (.bipush 23, 2) := by decide +kernel
theorem dX12_goBack_30 : decode cX12_goBack 30 = .ok (.iload_n 1, 1) := by decide +kernel
theorem dX12_goBack_31 : decode cX12_goBack 31 = .ok (.imul, 1) := by decide +kernel
theorem dX12_goBack_32 : decode cX12_goBack 32 = .ok (.aload_n 0, 1) := by decide +kernel
theorem dX12_goBack_33 : decode cX12_goBack 33 = .ok (.getfield 35, 3) := by decide +kernel
theorem dX12_goBack_36 : decode cX12_goBack 36 = .ok (.iconst 0, 1) := by decide +kernel
theorem dX12_goBack_37 : decode cX12_goBack 37 = .ok (.bipush 23, 2) := by decide +kernel
theorem dX12_goBack_39 : decode cX12_goBack 39 = .ok (.invokestatic 159, 3) := by decide +kernel
theorem dX12_goBack_42 : decode cX12_goBack 42 = .ok (.aload_n 0, 1) := by decide +kernel
theorem dX12_goBack_43 : decode cX12_goBack 43 = .ok (.aload_n 0, 1) := by decide +kernel
theorem dX12_goBack_44 : decode cX12_goBack 44 = .ok (.getfield 47, 3) := by decide +kernel
theorem dX12_goBack_47 : decode cX12_goBack 47 = .ok (.iload_n 1, 1) := by decide +kernel
theorem dX12_goBack_48 : decode cX12_goBack 48 = .ok (.iaload, 1) := by decide +kernel
theorem dX12_goBack_49 : decode cX12_goBack 49 = .ok (.putfield 233, 3) := by decide +kernel
theorem dX12_goBack_52 : decode cX12_goBack 52 = .ok (.aload_n 0, 1) := by decide +kernel
theorem dX12_goBack_53 : decode cX12_goBack 53 = .ok (.iconst 0, 1) := by decide +kernel
theorem dX12_goBack_54 : decode cX12_goBack 54 = .ok (.putfield 179, 3) := by decide +kernel
theorem dX12_goBack_57 : decode cX12_goBack 57 = .ok (.iconst 1, 1) := by decide +kernel
theorem dX12_goBack_58 : decode cX12_goBack 58 = .ok (.ireturn, 1) := by decide +kernel
theorem dJ6_numberOfTrailingZeros_0f7a4_0 : decode cJ6_numberOfTrailingZeros_0f7a4 0 = .ok (.iload_n 0, 1) := by decide +kernel
theorem dJ6_numberOfTrailingZeros_0f7a4_1 : decode cJ6_numberOfTrailingZeros_0f7a4 1 = .ok (.iconst (-1), 1) := by decide +kernel
theorem dJ6_numberOfTrailingZeros_0f7a4_2 : decode cJ6_numberOfTrailingZeros_0f7a4 2 = .ok (.ixor, 1) := by decide +kernel
theorem dJ6_numberOfTrailingZeros_0f7a4_3 : decode cJ6_numberOfTrailingZeros_0f7a4 3 = .ok (.iload_n 0, 1) := by decide +kernel
theorem dJ6_numberOfTrailingZeros_0f7a4_4 : decode cJ6_numberOfTrailingZeros_0f7a4 4 = .ok (.iconst 1, 1) := by decide +kernel
theorem dJ6_numberOfTrailingZeros_0f7a4_5 : decode cJ6_numberOfTrailingZeros_0f7a4 5 = .ok (.isub, 1) := by decide +kernel
theorem dJ6_numberOfTrailingZeros_0f7a4_6 : decode cJ6_numberOfTrailingZeros_0f7a4 6 = .ok (.iand, 1) := by decide +kernel
theorem dJ6_numberOfTrailingZeros_0f7a4_7 : decode cJ6_numberOfTrailingZeros_0f7a4 7 = .ok (.istore_n 0, 1) := by decide +kernel
theorem dJ6_numberOfTrailingZeros_0f7a4_8 : decode cJ6_numberOfTrailingZeros_0f7a4 8 = .ok (.iload_n 0, 1) := by decide +kernel
theorem dJ6_numberOfTrailingZeros_0f7a4_9 : decode cJ6_numberOfTrailingZeros_0f7a4 9 = .ok (.ifCond .gt 8, 3) := by decide +kernel
theorem dJ6_numberOfTrailingZeros_0f7a4_12 : decode cJ6_numberOfTrailingZeros_0f7a4 12 = .ok (.iload_n 0, 1) := by decide +kernel
theorem dJ6_numberOfTrailingZeros_0f7a4_13 : decode cJ6_numberOfTrailingZeros_0f7a4 13 = .ok (.bipush 32, 2) := by decide +kernel
theorem dJ6_numberOfTrailingZeros_0f7a4_15 : decode cJ6_numberOfTrailingZeros_0f7a4 15 = .ok (.iand, 1) := by decide +kernel
theorem dJ6_numberOfTrailingZeros_0f7a4_16 : decode cJ6_numberOfTrailingZeros_0f7a4 16 = .ok (.ireturn, 1) := by decide +kernel
theorem dJ6_numberOfTrailingZeros_0f7a4_17 : decode cJ6_numberOfTrailingZeros_0f7a4 17 = .ok (.iconst 1, 1) := by decide +kernel
theorem dJ6_numberOfTrailingZeros_0f7a4_18 : decode cJ6_numberOfTrailingZeros_0f7a4 18 = .ok (.istore_n 1, 1) := by decide +kernel
theorem dJ6_numberOfTrailingZeros_0f7a4_19 : decode cJ6_numberOfTrailingZeros_0f7a4 19 = .ok (.iload_n 0, 1) := by decide +kernel
theorem dJ6_numberOfTrailingZeros_0f7a4_20 : decode cJ6_numberOfTrailingZeros_0f7a4 20 = .ok (.ldc_w 264, 3) := by decide +kernel
theorem dJ6_numberOfTrailingZeros_0f7a4_23 : decode cJ6_numberOfTrailingZeros_0f7a4 23 = .ok (.if_icmp .le 11, 3) := by decide +kernel
theorem dJ6_numberOfTrailingZeros_0f7a4_26 : decode cJ6_numberOfTrailingZeros_0f7a4 26 = .ok (.iinc 1 16, 3) := by decide +kernel
theorem dJ6_numberOfTrailingZeros_0f7a4_29 : decode cJ6_numberOfTrailingZeros_0f7a4 29 = .ok (.iload_n 0, 1) := by decide +kernel
theorem dJ6_numberOfTrailingZeros_0f7a4_30 : decode cJ6_numberOfTrailingZeros_0f7a4 30 = .ok (.bipush 16, 2) := by decide +kernel
theorem dJ6_numberOfTrailingZeros_0f7a4_32 : decode cJ6_numberOfTrailingZeros_0f7a4 32 = .ok (.iushr, 1) := by decide +kernel
theorem dJ6_numberOfTrailingZeros_0f7a4_33 : decode cJ6_numberOfTrailingZeros_0f7a4 33 = .ok (.istore_n 0, 1) := by decide +kernel
theorem dJ6_numberOfTrailingZeros_0f7a4_34 : decode cJ6_numberOfTrailingZeros_0f7a4 34 = .ok (.iload_n 0, 1) := by decide +kernel
theorem dJ6_numberOfTrailingZeros_0f7a4_35 : decode cJ6_numberOfTrailingZeros_0f7a4 35 = .ok (.sipush 256, 3) := by decide +kernel
theorem dJ6_numberOfTrailingZeros_0f7a4_38 : decode cJ6_numberOfTrailingZeros_0f7a4 38 = .ok (.if_icmp .le 11, 3) := by decide +kernel
theorem dJ6_numberOfTrailingZeros_0f7a4_41 : decode cJ6_numberOfTrailingZeros_0f7a4 41 = .ok (.iinc 1 8, 3) := by decide +kernel
theorem dJ6_numberOfTrailingZeros_0f7a4_44 : decode cJ6_numberOfTrailingZeros_0f7a4 44 = .ok (.iload_n 0, 1) := by decide +kernel
theorem dJ6_numberOfTrailingZeros_0f7a4_45 : decode cJ6_numberOfTrailingZeros_0f7a4 45 = .ok (.bipush 8, 2) := by decide +kernel
theorem dJ6_numberOfTrailingZeros_0f7a4_47 : decode cJ6_numberOfTrailingZeros_0f7a4 47 = .ok (.iushr, 1) := by decide +kernel
theorem dJ6_numberOfTrailingZeros_0f7a4_48 : decode cJ6_numberOfTrailingZeros_0f7a4 48 = .ok (.istore_n 0, 1) := by decide +kernel
theorem dJ6_numberOfTrailingZeros_0f7a4_49 : decode cJ6_numberOfTrailingZeros_0f7a4 49 = .ok (.iload_n 0, 1) := by decide +kernel
theorem dJ6_numberOfTrailingZeros_0f7a4_50 : decode cJ6_numberOfTrailingZeros_0f7a4 50 = .ok (.bipush 16, 2) := by decide +kernel
theorem dJ6_numberOfTrailingZeros_0f7a4_52 : decode cJ6_numberOfTrailingZeros_0f7a4 52 = .ok (.if_icmp .le 10, 3) := by decide +kernel
theorem dJ6_numberOfTrailingZeros_0f7a4_55 : decode cJ6_numberOfTrailingZeros_0f7a4 55 = .ok (.iinc 1 4, 3) := by decide +kernel
theorem dJ6_numberOfTrailingZeros_0f7a4_58 : decode cJ6_numberOfTrailingZeros_0f7a4 58 = .ok (.iload_n 0, 1) := by decide +kernel
theorem dJ6_numberOfTrailingZeros_0f7a4_59 : decode cJ6_numberOfTrailingZeros_0f7a4 59 = .ok (.iconst 4, 1) := by decide +kernel
theorem dJ6_numberOfTrailingZeros_0f7a4_60 : decode cJ6_numberOfTrailingZeros_0f7a4 60 = .ok (.iushr, 1) := by decide +kernel
theorem dJ6_numberOfTrailingZeros_0f7a4_61 : decode cJ6_numberOfTrailingZeros_0f7a4 61 = .ok (.istore_n 0, 1) := by decide +kernel
theorem dJ6_numberOfTrailingZeros_0f7a4_62 : decode cJ6_numberOfTrailingZeros_0f7a4 62 = .ok (.iload_n 0, 1) := by decide +kernel
theorem dJ6_numberOfTrailingZeros_0f7a4_63 : decode cJ6_numberOfTrailingZeros_0f7a4 63 = .ok (.iconst 4, 1) := by decide +kernel
theorem dJ6_numberOfTrailingZeros_0f7a4_64 : decode cJ6_numberOfTrailingZeros_0f7a4 64 = .ok (.if_icmp .le 10, 3) := by decide +kernel
theorem dJ6_numberOfTrailingZeros_0f7a4_67 : decode cJ6_numberOfTrailingZeros_0f7a4 67 = .ok (.iinc 1 2, 3) := by decide +kernel
theorem dJ6_numberOfTrailingZeros_0f7a4_70 : decode cJ6_numberOfTrailingZeros_0f7a4 70 = .ok (.iload_n 0, 1) := by decide +kernel
theorem dJ6_numberOfTrailingZeros_0f7a4_71 : decode cJ6_numberOfTrailingZeros_0f7a4 71 = .ok (.iconst 2, 1) := by decide +kernel
theorem dJ6_numberOfTrailingZeros_0f7a4_72 : decode cJ6_numberOfTrailingZeros_0f7a4 72 = .ok (.iushr, 1) := by decide +kernel
theorem dJ6_numberOfTrailingZeros_0f7a4_73 : decode cJ6_numberOfTrailingZeros_0f7a4 73 = .ok (.istore_n 0, 1) := by decide +kernel
theorem dJ6_numberOfTrailingZeros_0f7a4_74 : decode cJ6_numberOfTrailingZeros_0f7a4 74 = .ok (.iload_n 1, 1) := by decide +kernel
theorem dJ6_numberOfTrailingZeros_0f7a4_75 : decode cJ6_numberOfTrailingZeros_0f7a4 75 = .ok (.iload_n 0, 1) := by decide +kernel
theorem dJ6_numberOfTrailingZeros_0f7a4_76 : decode cJ6_numberOfTrailingZeros_0f7a4 76 = .ok (.iconst 1, 1) := by decide +kernel
theorem dJ6_numberOfTrailingZeros_0f7a4_77 : decode cJ6_numberOfTrailingZeros_0f7a4 77 = .ok (.iushr, 1) := by decide +kernel
theorem dJ6_numberOfTrailingZeros_0f7a4_78 : decode cJ6_numberOfTrailingZeros_0f7a4 78 = .ok (.iadd, 1) := by decide +kernel
theorem dJ6_numberOfTrailingZeros_0f7a4_79 : decode cJ6_numberOfTrailingZeros_0f7a4 79 = .ok (.ireturn, 1) := by decide +kernel
theorem dJ6_bitCount_0f7a4_0 : decode cJ6_bitCount_0f7a4 0 = .ok (.iload_n 0, 1) := by decide +kernel
theorem dJ6_bitCount_0f7a4_1 : decode cJ6_bitCount_0f7a4 1 = .ok (.iload_n 0, 1) := by decide +kernel
theorem dJ6_bitCount_0f7a4_2 : decode cJ6_bitCount_0f7a4 2 = .ok (.iconst 1, 1) := by decide +kernel
theorem dJ6_bitCount_0f7a4_3 : decode cJ6_bitCount_0f7a4 3 = .ok (.iushr, 1) := by decide +kernel
theorem dJ6_bitCount_0f7a4_4 : decode cJ6_bitCount_0f7a4 4 = .ok (.ldc_w 265, 3) := by decide +kernel
theorem dJ6_bitCount_0f7a4_7 : decode cJ6_bitCount_0f7a4 7 = .ok (.iand, 1) := by decide +kernel
theorem dJ6_bitCount_0f7a4_8 : decode cJ6_bitCount_0f7a4 8 = .ok (.isub, 1) := by decide +kernel
theorem dJ6_bitCount_0f7a4_9 : decode cJ6_bitCount_0f7a4 9 = .ok (.istore_n 0, 1) := by decide +kernel
theorem dJ6_bitCount_0f7a4_10 : decode cJ6_bitCount_0f7a4 10 = .ok (.iload_n 0, 1) := by decide +kernel
theorem dJ6_bitCount_0f7a4_11 : decode cJ6_bitCount_0f7a4 11 = .ok (.ldc_w 266, 3) := by decide +kernel
theorem dJ6_bitCount_0f7a4_14 : decode cJ6_bitCount_0f7a4 14 = .ok (.iand, 1) := by decide +kernel
theorem dJ6_bitCount_0f7a4_15 : decode cJ6_bitCount_0f7a4 15 = .ok (.iload_n 0, 1) := by decide +kernel
theorem dJ6_bitCount_0f7a4_16 : decode cJ6_bitCount_0f7a4 16 = .ok (.iconst 2, 1) := by decide +kernel
theorem dJ6_bitCount_0f7a4_17 : decode cJ6_bitCount_0f7a4 17 = .ok (.iushr, 1) := by decide +kernel
theorem dJ6_bitCount_0f7a4_18 : decode cJ6_bitCount_0f7a4 18 = .ok (.ldc_w 266, 3) := by decide +kernel
theorem dJ6_bitCount_0f7a4_21 : decode cJ6_bitCount_0f7a4 21 = .ok (.iand, 1) := by decide +kernel
theorem dJ6_bitCount_0f7a4_22 : decode cJ6_bitCount_0f7a4 22 = .ok (.iadd, 1) := by decide +kernel
theorem dJ6_bitCount_0f7a4_23 : decode cJ6_bitCount_0f7a4 23 = .ok (.istore_n 0, 1) := by decide +kernel
theorem dJ6_bitCount_0f7a4_24 : decode cJ6_bitCount_0f7a4 24 = .ok (.iload_n 0, 1) := by decide +kernel
theorem dJ6_bitCount_0f7a4_25 : decode cJ6_bitCount_0f7a4 25 = .ok (.iload_n 0, 1) := by decide +kernel
theorem dJ6_bitCount_0f7a4_26 : decode cJ6_bitCount_0f7a4 26 = .ok (.iconst 4, 1) := by decide +kernel
theorem dJ6_bitCount_0f7a4_27 : decode cJ6_bitCount_0f7a4 27 = .ok (.iushr, 1) := by decide +kernel
theorem dJ6_bitCount_0f7a4_28 : decode cJ6_bitCount_0f7a4 28 = .ok (.iadd, 1) := by decide +kernel
theorem dJ6_bitCount_0f7a4_29 : decode cJ6_bitCount_0f7a4 29 = .ok (.ldc_w 267, 3) := by decide +kernel
theorem dJ6_bitCount_0f7a4_32 : decode cJ6_bitCount_0f7a4 32 = .ok (.iand, 1) := by decide +kernel
theorem dJ6_bitCount_0f7a4_33 : decode cJ6_bitCount_0f7a4 33 = .ok (.istore_n 0, 1) := by decide +kernel
theorem dJ6_bitCount_0f7a4_34 : decode cJ6_bitCount_0f7a4 34 = .ok (.iload_n 0, 1) := by decide +kernel
theorem dJ6_bitCount_0f7a4_35 : decode cJ6_bitCount_0f7a4 35 = .ok (.iload_n 0, 1) := by decide +kernel
theorem dJ6_bitCount_0f7a4_36 : decode cJ6_bitCount_0f7a4 36 = .ok (.bipush 8, 2) := by decide +kernel
theorem dJ6_bitCount_0f7a4_38 : decode cJ6_bitCount_0f7a4 38 = .ok (.iushr, 1) := by decide +kernel
theorem dJ6_bitCount_0f7a4_39 : decode cJ6_bitCount_0f7a4 39 = .ok (.iadd, 1) := by decide +kernel
theorem dJ6_bitCount_0f7a4_40 : decode cJ6_bitCount_0f7a4 40 = .ok (.istore_n 0, 1) := by decide +kernel
theorem dJ6_bitCount_0f7a4_41 : decode cJ6_bitCount_0f7a4 41 = .ok (.iload_n 0, 1) := by decide +kernel
theorem dJ6_bitCount_0f7a4_42 : decode cJ6_bitCount_0f7a4 42 = .ok (.iload_n 0, 1) := by decide +kernel
theorem dJ6_bitCount_0f7a4_43 : decode cJ6_bitCount_0f7a4 43 = .ok (.bipush 16, 2) := by decide +kernel
theorem dJ6_bitCount_0f7a4_45 : decode cJ6_bitCount_0f7a4 45 = .ok (.iushr, 1) := by decide +kernel
theorem dJ6_bitCount_0f7a4_46 : decode cJ6_bitCount_0f7a4 46 = .ok (.iadd, 1) := by decide +kernel
theorem dJ6_bitCount_0f7a4_47 : decode cJ6_bitCount_0f7a4 47 = .ok (.istore_n 0, 1) := by decide +kernel
theorem dJ6_bitCount_0f7a4_48 : decode cJ6_bitCount_0f7a4 48 = .ok (.iload_n 0, 1) := by decide +kernel
theorem dJ6_bitCount_0f7a4_49 : decode cJ6_bitCount_0f7a4 49 = .ok (.bipush 63, 2) := by decide +kernel
theorem dJ6_bitCount_0f7a4_51 : decode cJ6_bitCount_0f7a4 51 = .ok (.iand, 1) := by decide +kernel
theorem dJ6_bitCount_0f7a4_52 : decode cJ6_bitCount_0f7a4 52 = .ok (.ireturn, 1) := by decide +kernel
theorem dJ9_max_7cf53_0 : decode cJ9_max_7cf53 0 = .ok (.iload_n 0, 1) := by decide +kernel
theorem dJ9_max_7cf53_1 : decode cJ9_max_7cf53 1 = .ok (.iload_n 1, 1) := by decide +kernel
theorem dJ9_max_7cf53_2 : decode cJ9_max_7cf53 2 = .ok (.if_icmp .lt 7, 3) := by decide +kernel
theorem dJ9_max_7cf53_5 : decode cJ9_max_7cf53 5 = .ok (.iload_n 0, 1) := by decide +kernel
theorem dJ9_max_7cf53_6 : decode cJ9_max_7cf53 6 = .ok (.goto 4, 3) := by decide +kernel
theorem dJ9_max_7cf53_9 : decode cJ9_max_7cf53 9 = .ok (.iload_n 1, 1) := by decide +kernel
theorem dJ9_max_7cf53_10 : decode cJ9_max_7cf53 10 = .ok (.ireturn, 1) := by decide +kernel
theorem dJ9_min_7cf53_0 : decode cJ9_min_7cf53 0 = .ok (.iload_n 0, 1) := by decide +kernel
theorem dJ9_min_7cf53_1 : decode cJ9_min_7cf53 1 = .ok (.iload_n 1, 1) := by decide +kernel
theorem dJ9_min_7cf53_2 : decode cJ9_min_7cf53 2 = .ok (.if_icmp .gt 7, 3) := by decide +kernel
theorem dJ9_min_7cf53_5 : decode cJ9_min_7cf53 5 = .ok (.iload_n 0, 1) := by decide +kernel
theorem dJ9_min_7cf53_6 : decode cJ9_min_7cf53 6 = .ok (.goto 4, 3) := by decide +kernel
theorem dJ9_min_7cf53_9 : decode cJ9_min_7cf53 9 = .ok (.iload_n 1, 1) := by decide +kernel
theorem dJ9_min_7cf53_10 : decode cJ9_min_7cf53 10 = .ok (.ireturn, 1) := by decide +kernel
theorem dJ7_fill_53178_0 : decode cJ7_fill_53178 0 = .ok (.iconst 0, 1) := by decide +kernel
theorem dJ7_fill_53178_1 : decode cJ7_fill_53178 1 = .ok (.istore_n 2, 1) := by decide +kernel
theorem dJ7_fill_53178_2 : decode cJ7_fill_53178 2 = .ok (.aload_n 0, 1) := by decide +kernel
theorem dJ7_fill_53178_3 : decode cJ7_fill_53178 3 = .ok (.arraylength, 1) := by decide +kernel
theorem dJ7_fill_53178_4 : decode cJ7_fill_53178 4 = .ok (.istore_n 3, 1) := by decide +kernel
theorem dJ7_fill_53178_5 : decode cJ7_fill_53178 5 = .ok (.iload_n 2, 1) := by decide +kernel
theorem dJ7_fill_53178_6 : decode cJ7_fill_53178 6 = .ok (.iload_n 3, 1) := by decide +kernel
theorem dJ7_fill_53178_7 : decode cJ7_fill_53178 7 = .ok (.if_icmp .ge 13, 3) := by decide +kernel
theorem dJ7_fill_53178_10 : decode cJ7_fill_53178 10 = .ok (.aload_n 0, 1) := by decide +kernel
theorem dJ7_fill_53178_11 : decode cJ7_fill_53178 11 = .ok (.iload_n 2, 1) := by decide +kernel
theorem dJ7_fill_53178_12 : decode cJ7_fill_53178 12 = .ok (.iload_n 1, 1) := by decide +kernel
theorem dJ7_fill_53178_13 : decode cJ7_fill_53178 13 = .ok (.iastore, 1) := by decide +kernel
theorem dJ7_fill_53178_14 : decode cJ7_fill_53178 14 = .ok (.iinc 2 1, 3) := by decide +kernel
theorem dJ7_fill_53178_17 : decode cJ7_fill_53178 17 = .ok (.goto (-12), 3) := by decide +kernel
theorem dJ7_fill_53178_20 : decode cJ7_fill_53178 20 = .ok (.return_, 1) := by decide +kernel
theorem dL_law_0 : decode cL_law 0 = .ok (.new 7, 3) := by decide +kernel
theorem dL_law_3 : decode cL_law 3 = .ok (.dup, 1) := by decide +kernel
theorem dL_law_4 : decode cL_law 4 = .ok (.invokespecial 9, 3) := by decide +kernel
theorem dL_law_7 : decode cL_law 7 = .ok (.astore_n 1, 1) := by decide +kernel
theorem dL_law_8 : decode cL_law 8 = .ok (.new 10, 3) := by decide +kernel
theorem dL_law_11 : decode cL_law 11 = .ok (.dup, 1) := by decide +kernel
theorem dL_law_12 : decode cL_law 12 = .ok (.invokespecial 12, 3) := by decide +kernel
theorem dL_law_15 : decode cL_law 15 = .ok (.astore_n 2, 1) := by decide +kernel
theorem dL_law_16 : decode cL_law 16 = .ok (.iconst 0, 1) := by decide +kernel
theorem dL_law_17 : decode cL_law 17 = .ok (.istore_n 3, 1) := by decide +kernel
theorem dL_law_18 : decode cL_law 18 = .ok (.iload_n 3, 1) := by decide +kernel
theorem dL_law_19 : decode cL_law 19 = .ok (.aload_n 0, 1) := by decide +kernel
theorem dL_law_20 : decode cL_law 20 = .ok (.arraylength, 1) := by decide +kernel
theorem dL_law_21 : decode cL_law 21 = .ok (.iconst 3, 1) := by decide +kernel
theorem dL_law_22 : decode cL_law 22 = .ok (.isub, 1) := by decide +kernel
theorem dL_law_23 : decode cL_law 23 = .ok (.if_icmp .gt 982, 3) := by decide +kernel
theorem dL_law_26 : decode cL_law 26 = .ok (.aload_n 0, 1) := by decide +kernel
theorem dL_law_27 : decode cL_law 27 = .ok (.iload_n 3, 1) := by decide +kernel
theorem dL_law_28 : decode cL_law 28 = .ok (.iaload, 1) := by decide +kernel
theorem dL_law_29 : decode cL_law 29 = .ok (.bipush 63, 2) := by decide +kernel
theorem dL_law_31 : decode cL_law 31 = .ok (.iand, 1) := by decide +kernel
theorem dL_law_32 : decode cL_law 32 = .ok (.tableswitch 967 0 34 #[156, 179, 192, 205, 228, 251, 284, 317, 340, 353, 386, 399, 438, 461, 484, 497, 520, 553, 566, 579, 612, 635, 668, 681, 714, 727, 760, 793, 826, 839, 872, 885, 898, 921, 944], 156) := by decide +kernel
theorem dL_law_188 : decode cL_law 188 = .ok (.aload_n 1, 1) := by decide +kernel
theorem dL_law_189 : decode cL_law 189 = .ok (.aload_n 0, 1) := by decide +kernel
theorem dL_law_190 : decode cL_law 190 = .ok (.iload_n 3, 1) := by decide +kernel
theorem dL_law_191 : decode cL_law 191 = .ok (.iconst 1, 1) := by decide +kernel
theorem dL_law_192 : decode cL_law 192 = .ok (.iadd, 1) := by decide +kernel
theorem dL_law_193 : decode cL_law 193 = .ok (.iaload, 1) := by decide +kernel
theorem dL_law_194 : decode cL_law 194 = .ok (.invokevirtual 13, 3) := by decide +kernel
theorem dL_law_197 : decode cL_law 197 = .ok (.aload_n 2, 1) := by decide +kernel
theorem dL_law_198 : decode cL_law 198 = .ok (.aload_n 0, 1) := by decide +kernel
theorem dL_law_199 : decode cL_law 199 = .ok (.iload_n 3, 1) := by decide +kernel
theorem dL_law_200 : decode cL_law 200 = .ok (.iconst 1, 1) := by decide +kernel
theorem dL_law_201 : decode cL_law 201 = .ok (.iadd, 1) := by decide +kernel
theorem dL_law_202 : decode cL_law 202 = .ok (.iaload, 1) := by decide +kernel
theorem dL_law_203 : decode cL_law 203 = .ok (.invokevirtual 17, 3) := by decide +kernel
theorem dL_law_206 : decode cL_law 206 = .ok (.if_icmp .eq 793, 3) := by decide +kernel
theorem dL_law_209 : decode cL_law 209 = .ok (.iconst 0, 1) := by decide +kernel
theorem dL_law_210 : decode cL_law 210 = .ok (.ireturn, 1) := by decide +kernel
theorem dL_law_211 : decode cL_law 211 = .ok (.aload_n 1, 1) := by decide +kernel
theorem dL_law_212 : decode cL_law 212 = .ok (.invokevirtual 18, 3) := by decide +kernel
theorem dL_law_215 : decode cL_law 215 = .ok (.aload_n 2, 1) := by decide +kernel
theorem dL_law_216 : decode cL_law 216 = .ok (.invokevirtual 22, 3) := by decide +kernel
theorem dL_law_219 : decode cL_law 219 = .ok (.if_icmp .eq 780, 3) := by decide +kernel
theorem dL_law_222 : decode cL_law 222 = .ok (.iconst 0, 1) := by decide +kernel
theorem dL_law_223 : decode cL_law 223 = .ok (.ireturn, 1) := by decide +kernel
theorem dL_law_224 : decode cL_law 224 = .ok (.aload_n 1, 1) := by decide +kernel
theorem dL_law_225 : decode cL_law 225 = .ok (.invokevirtual 23, 3) := by decide +kernel
theorem dL_law_228 : decode cL_law 228 = .ok (.aload_n 2, 1) := by decide +kernel
theorem dL_law_229 : decode cL_law 229 = .ok (.invokevirtual 26, 3) := by decide +kernel
theorem dL_law_232 : decode cL_law 232 = .ok (.if_icmp .eq 767, 3) := by decide +kernel
theorem dL_law_235 : decode cL_law 235 = .ok (.iconst 0, 1) := by decide +kernel
theorem dL_law_236 : decode cL_law 236 = .ok (.ireturn, 1) := by decide +kernel
theorem dL_law_237 : decode cL_law 237 = .ok (.aload_n 1, 1) := by decide +kernel
theorem dL_law_238 : decode cL_law 238 = .ok (.aload_n 0, 1) := by decide +kernel
theorem dL_law_239 : decode cL_law 239 = .ok (.iload_n 3, 1) := by decide +kernel
theorem dL_law_240 : decode cL_law 240 = .ok (.iconst 1, 1) := by decide +kernel
theorem dL_law_241 : decode cL_law 241 = .ok (.iadd, 1) := by decide +kernel
theorem dL_law_242 : decode cL_law 242 = .ok (.iaload, 1) := by decide +kernel
theorem dL_law_243 : decode cL_law 243 = .ok (.invokevirtual 27, 3) := by decide +kernel
theorem dL_law_246 : decode cL_law 246 = .ok (.aload_n 2, 1) := by decide +kernel
theorem dL_law_247 : decode cL_law 247 = .ok (.aload_n 0, 1) := by decide +kernel
theorem dL_law_248 : decode cL_law 248 = .ok (.iload_n 3, 1) := by decide +kernel
theorem dL_law_249 : decode cL_law 249 = .ok (.iconst 1, 1) := by decide +kernel
theorem dL_law_250 : decode cL_law 250 = .ok (.iadd, 1) := by decide +kernel
theorem dL_law_251 : decode cL_law 251 = .ok (.iaload, 1) := by decide +kernel
theorem dL_law_252 : decode cL_law 252 = .ok (.invokevirtual 30, 3) := by decide +kernel
theorem dL_law_255 : decode cL_law 255 = .ok (.if_icmp .eq 744, 3) := by decide +kernel
theorem dL_law_258 : decode cL_law 258 = .ok (.iconst 0, 1) := by decide +kernel
theorem dL_law_259 : decode cL_law 259 = .ok (.ireturn, 1) := by decide +kernel
theorem dL_law_260 : decode cL_law 260 = .ok (.aload_n 1, 1) := by decide +kernel
theorem dL_law_261 : decode cL_law 261 = .ok (.aload_n 0, 1) := by decide +kernel
theorem dL_law_262 : decode cL_law 262 = .ok (.iload_n 3, 1) := by decide +kernel
theorem dL_law_263 : decode cL_law 263 = .ok (.iconst 1, 1) := by decide +kernel
theorem dL_law_264 : decode cL_law 264 = .ok (.iadd, 1) := by decide +kernel
theorem dL_law_265 : decode cL_law 265 = .ok (.iaload, 1) := by decide +kernel
theorem dL_law_266 : decode cL_law 266 = .ok (.invokevirtual 31, 3) := by decide +kernel
theorem dL_law_269 : decode cL_law 269 = .ok (.aload_n 2, 1) := by decide +kernel
theorem dL_law_270 : decode cL_law 270 = .ok (.aload_n 0, 1) := by decide +kernel
theorem dL_law_271 : decode cL_law 271 = .ok (.iload_n 3, 1) := by decide +kernel
theorem dL_law_272 : decode cL_law 272 = .ok (.iconst 1, 1) := by decide +kernel
theorem dL_law_273 : decode cL_law 273 = .ok (.iadd, 1) := by decide +kernel
theorem dL_law_274 : decode cL_law 274 = .ok (.iaload, 1) := by decide +kernel
theorem dL_law_275 : decode cL_law 275 = .ok (.invokevirtual 34, 3) := by decide +kernel
theorem dL_law_278 : decode cL_law 278 = .ok (.if_icmp .eq 721, 3) := by decide +kernel
theorem dL_law_281 : decode cL_law 281 = .ok (.iconst 0, 1) := by decide +kernel
theorem dL_law_282 : decode cL_law 282 = .ok (.ireturn, 1) := by decide +kernel
theorem dL_law_283 : decode cL_law 283 = .ok (.aload_n 1, 1) := by decide +kernel
theorem dL_law_284 : decode cL_law 284 = .ok (.aload_n 0, 1) := by decide +kernel
theorem dL_law_285 : decode cL_law 285 = .ok (.iload_n 3, 1) := by decide +kernel
theorem dL_law_286 : decode cL_law 286 = .ok (.iconst 1, 1) := by decide +kernel
theorem dL_law_287 : decode cL_law 287 = .ok (.iadd, 1) := by decide +kernel
theorem dL_law_288 : decode cL_law 288 = .ok (.iaload, 1) := by decide +kernel
theorem dL_law_289 : decode cL_law 289 = .ok (.aload_n 0, 1) := by decide +kernel
theorem dL_law_290 : decode cL_law 290 = .ok (.iload_n 3, 1) := by decide +kernel
theorem dL_law_291 : decode cL_law 291 = .ok (.iconst 2, 1) := by decide +kernel
theorem dL_law_292 : decode cL_law 292 = .ok (.iadd, 1) := by decide +kernel
theorem dL_law_293 : decode cL_law 293 = .ok (.iaload, 1) := by decide +kernel
theorem dL_law_294 : decode cL_law 294 = .ok (.invokevirtual 35, 3) := by decide +kernel
theorem dL_law_297 : decode cL_law 297 = .ok (.aload_n 2, 1) := by decide +kernel
theorem dL_law_298 : decode cL_law 298 = .ok (.aload_n 0, 1) := by decide +kernel
theorem dL_law_299 : decode cL_law 299 = .ok (.iload_n 3, 1) := by decide +kernel
theorem dL_law_300 : decode cL_law 300 = .ok (.iconst 1, 1) := by decide +kernel
theorem dL_law_301 : decode cL_law 301 = .ok (.iadd, 1) := by decide +kernel
theorem dL_law_302 : decode cL_law 302 = .ok (.iaload, 1) := by decide +kernel
theorem dL_law_303 : decode cL_law 303 = .ok (.aload_n 0, 1) := by decide +kernel
theorem dL_law_304 : decode cL_law 304 = .ok (.iload_n 3, 1) := by decide +kernel
theorem dL_law_305 : decode cL_law 305 = .ok (.iconst 2, 1) := by decide +kernel
theorem dL_law_306 : decode cL_law 306 = .ok (.iadd, 1) := by decide +kernel
theorem dL_law_307 : decode cL_law 307 = .ok (.iaload, 1) := by decide +kernel
theorem dL_law_308 : decode cL_law 308 = .ok (.invokevirtual 39, 3) := by decide +kernel
theorem dL_law_311 : decode cL_law 311 = .ok (.if_icmp .eq 688, 3) := by decide +kernel
theorem dL_law_314 : decode cL_law 314 = .ok (.iconst 0, 1) := by decide +kernel
theorem dL_law_315 : decode cL_law 315 = .ok (.ireturn, 1) := by decide +kernel
theorem dL_law_316 : decode cL_law 316 = .ok (.aload_n 1, 1) := by decide +kernel
theorem dL_law_317 : decode cL_law 317 = .ok (.aload_n 0, 1) := by decide +kernel
theorem dL_law_318 : decode cL_law 318 = .ok (.iload_n 3, 1) := by decide +kernel
theorem dL_law_319 : decode cL_law 319 = .ok (.iconst 1, 1) := by decide +kernel
theorem dL_law_320 : decode cL_law 320 = .ok (.iadd, 1) := by decide +kernel
theorem dL_law_321 : decode cL_law 321 = .ok (.iaload, 1) := by decide +kernel
theorem dL_law_322 : decode cL_law 322 = .ok (.aload_n 0, 1) := by decide +kernel
theorem dL_law_323 : decode cL_law 323 = .ok (.iload_n 3, 1) := by decide +kernel
theorem dL_law_324 : decode cL_law 324 = .ok (.iconst 2, 1) := by decide +kernel
theorem dL_law_325 : decode cL_law 325 = .ok (.iadd, 1) := by decide +kernel
theorem dL_law_326 : decode cL_law 326 = .ok (.iaload, 1) := by decide +kernel
theorem dL_law_327 : decode cL_law 327 = .ok (.invokevirtual 40, 3) := by decide +kernel
theorem dL_law_330 : decode cL_law 330 = .ok (.aload_n 2, 1) := by decide +kernel
theorem dL_law_331 : decode cL_law 331 = .ok (.aload_n 0, 1) := by decide +kernel
theorem dL_law_332 : decode cL_law 332 = .ok (.iload_n 3, 1) := by decide +kernel
theorem dL_law_333 : decode cL_law 333 = .ok (.iconst 1, 1) := by decide +kernel
theorem dL_law_334 : decode cL_law 334 = .ok (.iadd, 1) := by decide +kernel
theorem dL_law_335 : decode cL_law 335 = .ok (.iaload, 1) := by decide +kernel
theorem dL_law_336 : decode cL_law 336 = .ok (.aload_n 0, 1) := by decide +kernel
theorem dL_law_337 : decode cL_law 337 = .ok (.iload_n 3, 1) := by decide +kernel
theorem dL_law_338 : decode cL_law 338 = .ok (.iconst 2, 1) := by decide +kernel
theorem dL_law_339 : decode cL_law 339 = .ok (.iadd, 1) := by decide +kernel
theorem dL_law_340 : decode cL_law 340 = .ok (.iaload, 1) := by decide +kernel
theorem dL_law_341 : decode cL_law 341 = .ok (.invokevirtual 43, 3) := by decide +kernel
theorem dL_law_344 : decode cL_law 344 = .ok (.if_icmp .eq 655, 3) := by decide +kernel
theorem dL_law_347 : decode cL_law 347 = .ok (.iconst 0, 1) := by decide +kernel
theorem dL_law_348 : decode cL_law 348 = .ok (.ireturn, 1) := by decide +kernel
theorem dL_law_349 : decode cL_law 349 = .ok (.aload_n 1, 1) := by decide +kernel
theorem dL_law_350 : decode cL_law 350 = .ok (.aload_n 0, 1) := by decide +kernel
theorem dL_law_351 : decode cL_law 351 = .ok (.iload_n 3, 1) := by decide +kernel
theorem dL_law_352 : decode cL_law 352 = .ok (.iconst 1, 1) := by decide +kernel
theorem dL_law_353 : decode cL_law 353 = .ok (.iadd, 1) := by decide +kernel
theorem dL_law_354 : decode cL_law 354 = .ok (.iaload, 1) := by decide +kernel
theorem dL_law_355 : decode cL_law 355 = .ok (.invokevirtual 44, 3) := by decide +kernel
theorem dL_law_358 : decode cL_law 358 = .ok (.aload_n 2, 1) := by decide +kernel
theorem dL_law_359 : decode cL_law 359 = .ok (.aload_n 0, 1) := by decide +kernel
theorem dL_law_360 : decode cL_law 360 = .ok (.iload_n 3, 1) := by decide +kernel
theorem dL_law_361 : decode cL_law 361 = .ok (.iconst 1, 1) := by decide +kernel
theorem dL_law_362 : decode cL_law 362 = .ok (.iadd, 1) := by decide +kernel
theorem dL_law_363 : decode cL_law 363 = .ok (.iaload, 1) := by decide +kernel
theorem dL_law_364 : decode cL_law 364 = .ok (.invokevirtual 47, 3) := by decide +kernel
theorem dL_law_367 : decode cL_law 367 = .ok (.if_icmp .eq 632, 3) := by decide +kernel
theorem dL_law_370 : decode cL_law 370 = .ok (.iconst 0, 1) := by decide +kernel
theorem dL_law_371 : decode cL_law 371 = .ok (.ireturn, 1) := by decide +kernel
theorem dL_law_372 : decode cL_law 372 = .ok (.aload_n 1, 1) := by decide +kernel
theorem dL_law_373 : decode cL_law 373 = .ok (.invokevirtual 48, 3) := by decide +kernel
theorem dL_law_376 : decode cL_law 376 = .ok (.aload_n 2, 1) := by decide +kernel
theorem dL_law_377 : decode cL_law 377 = .ok (.invokevirtual 51, 3) := by decide +kernel
theorem dL_law_380 : decode cL_law 380 = .ok (.if_icmp .eq 619, 3) := by decide +kernel
theorem dL_law_383 : decode cL_law 383 = .ok (.iconst 0, 1) := by decide +kernel
theorem dL_law_384 : decode cL_law 384 = .ok (.ireturn, 1) := by decide +kernel
theorem dL_law_385 : decode cL_law 385 = .ok (.aload_n 1, 1) := by decide +kernel
theorem dL_law_386 : decode cL_law 386 = .ok (.aload_n 0, 1) := by decide +kernel
theorem dL_law_387 : decode cL_law 387 = .ok (.iload_n 3, 1) := by decide +kernel
theorem dL_law_388 : decode cL_law 388 = .ok (.iconst 1, 1) := by decide +kernel
theorem dL_law_389 : decode cL_law 389 = .ok (.iadd, 1) := by decide +kernel
theorem dL_law_390 : decode cL_law 390 = .ok (.iaload, 1) := by decide +kernel
theorem dL_law_391 : decode cL_law 391 = .ok (.aload_n 0, 1) := by decide +kernel
theorem dL_law_392 : decode cL_law 392 = .ok (.iload_n 3, 1) := by decide +kernel
theorem dL_law_393 : decode cL_law 393 = .ok (.iconst 2, 1) := by decide +kernel
theorem dL_law_394 : decode cL_law 394 = .ok (.iadd, 1) := by decide +kernel
theorem dL_law_395 : decode cL_law 395 = .ok (.iaload, 1) := by decide +kernel
theorem dL_law_396 : decode cL_law 396 = .ok (.invokevirtual 52, 3) := by decide +kernel
theorem dL_law_399 : decode cL_law 399 = .ok (.aload_n 2, 1) := by decide +kernel
theorem dL_law_400 : decode cL_law 400 = .ok (.aload_n 0, 1) := by decide +kernel
theorem dL_law_401 : decode cL_law 401 = .ok (.iload_n 3, 1) := by decide +kernel
theorem dL_law_402 : decode cL_law 402 = .ok (.iconst 1, 1) := by decide +kernel
theorem dL_law_403 : decode cL_law 403 = .ok (.iadd, 1) := by decide +kernel
theorem dL_law_404 : decode cL_law 404 = .ok (.iaload, 1) := by decide +kernel
theorem dL_law_405 : decode cL_law 405 = .ok (.aload_n 0, 1) := by decide +kernel
theorem dL_law_406 : decode cL_law 406 = .ok (.iload_n 3, 1) := by decide +kernel
theorem dL_law_407 : decode cL_law 407 = .ok (.iconst 2, 1) := by decide +kernel
theorem dL_law_408 : decode cL_law 408 = .ok (.iadd, 1) := by decide +kernel
theorem dL_law_409 : decode cL_law 409 = .ok (.iaload, 1) := by decide +kernel
theorem dL_law_410 : decode cL_law 410 = .ok (.invokevirtual 55, 3) := by decide +kernel
theorem dL_law_413 : decode cL_law 413 = .ok (.if_icmp .eq 586, 3) := by decide +kernel
theorem dL_law_416 : decode cL_law 416 = .ok (.iconst 0, 1) := by decide +kernel
theorem dL_law_417 : decode cL_law 417 = .ok (.ireturn, 1) := by decide +kernel
theorem dL_law_418 : decode cL_law 418 = .ok (.aload_n 1, 1) := by decide +kernel
theorem dL_law_419 : decode cL_law 419 = .ok (.invokevirtual 56, 3) := by decide +kernel
theorem dL_law_422 : decode cL_law 422 = .ok (.aload_n 2, 1) := by decide +kernel
theorem dL_law_423 : decode cL_law 423 = .ok (.invokevirtual 59, 3) := by decide +kernel
theorem dL_law_426 : decode cL_law 426 = .ok (.if_icmp .eq 573, 3) := by decide +kernel
theorem dL_law_429 : decode cL_law 429 = .ok (.iconst 0, 1) := by decide +kernel
theorem dL_law_430 : decode cL_law 430 = .ok (.ireturn, 1) := by decide +kernel
theorem dL_law_431 : decode cL_law 431 = .ok (.aload_n 1, 1) := by decide +kernel
theorem dL_law_432 : decode cL_law 432 = .ok (.aload_n 0, 1) := by decide +kernel
theorem dL_law_433 : decode cL_law 433 = .ok (.iload_n 3, 1) := by decide +kernel
theorem dL_law_434 : decode cL_law 434 = .ok (.iconst 1, 1) := by decide +kernel
theorem dL_law_435 : decode cL_law 435 = .ok (.iadd, 1) := by decide +kernel
theorem dL_law_436 : decode cL_law 436 = .ok (.iaload, 1) := by decide +kernel
theorem dL_law_437 : decode cL_law 437 = .ok (.ifCond .eq 7, 3) := by decide +kernel
theorem dL_law_440 : decode cL_law 440 = .ok (.iconst 1, 1) := by decide +kernel
theorem dL_law_441 : decode cL_law 441 = .ok (.goto 4, 3) := by decide +kernel
theorem dL_law_444 : decode cL_law 444 = .ok (.iconst 0, 1) := by decide +kernel
theorem dL_law_445 : decode cL_law 445 = .ok (.invokevirtual 60, 3) := by decide +kernel
theorem dL_law_448 : decode cL_law 448 = .ok (.aload_n 2, 1) := by decide +kernel
theorem dL_law_449 : decode cL_law 449 = .ok (.aload_n 0, 1) := by decide +kernel
theorem dL_law_450 : decode cL_law 450 = .ok (.iload_n 3, 1) := by decide +kernel
theorem dL_law_451 : decode cL_law 451 = .ok (.iconst 1, 1) := by decide +kernel
theorem dL_law_452 : decode cL_law 452 = .ok (.iadd, 1) := by decide +kernel
theorem dL_law_453 : decode cL_law 453 = .ok (.iaload, 1) := by decide +kernel
theorem dL_law_454 : decode cL_law 454 = .ok (.ifCond .eq 7, 3) := by decide +kernel
theorem dL_law_457 : decode cL_law 457 = .ok (.iconst 1, 1) := by decide +kernel
theorem dL_law_458 : decode cL_law 458 = .ok (.goto 4, 3) := by decide +kernel
theorem dL_law_461 : decode cL_law 461 = .ok (.iconst 0, 1) := by decide +kernel
theorem dL_law_462 : decode cL_law 462 = .ok (.invokevirtual 64, 3) := by decide +kernel
theorem dL_law_465 : decode cL_law 465 = .ok (.if_icmp .eq 534, 3) := by decide +kernel
theorem dL_law_468 : decode cL_law 468 = .ok (.iconst 0, 1) := by decide +kernel
theorem dL_law_469 : decode cL_law 469 = .ok (.ireturn, 1) := by decide +kernel
theorem dL_law_470 : decode cL_law 470 = .ok (.aload_n 1, 1) := by decide +kernel
theorem dL_law_471 : decode cL_law 471 = .ok (.aload_n 0, 1) := by decide +kernel
theorem dL_law_472 : decode cL_law 472 = .ok (.iload_n 3, 1) := by decide +kernel
theorem dL_law_473 : decode cL_law 473 = .ok (.iconst 1, 1) := by decide +kernel
theorem dL_law_474 : decode cL_law 474 = .ok (.iadd, 1) := by decide +kernel
theorem dL_law_475 : decode cL_law 475 = .ok (.iaload, 1) := by decide +kernel
theorem dL_law_476 : decode cL_law 476 = .ok (.invokevirtual 65, 3) := by decide +kernel
theorem dL_law_479 : decode cL_law 479 = .ok (.aload_n 2, 1) := by decide +kernel
theorem dL_law_480 : decode cL_law 480 = .ok (.aload_n 0, 1) := by decide +kernel
theorem dL_law_481 : decode cL_law 481 = .ok (.iload_n 3, 1) := by decide +kernel
theorem dL_law_482 : decode cL_law 482 = .ok (.iconst 1, 1) := by decide +kernel
theorem dL_law_483 : decode cL_law 483 = .ok (.iadd, 1) := by decide +kernel
theorem dL_law_484 : decode cL_law 484 = .ok (.iaload, 1) := by decide +kernel
theorem dL_law_485 : decode cL_law 485 = .ok (.invokevirtual 68, 3) := by decide +kernel
theorem dL_law_488 : decode cL_law 488 = .ok (.if_icmp .eq 511, 3) := by decide +kernel
theorem dL_law_491 : decode cL_law 491 = .ok (.iconst 0, 1) := by decide +kernel
theorem dL_law_492 : decode cL_law 492 = .ok (.ireturn, 1) := by decide +kernel
theorem dL_law_493 : decode cL_law 493 = .ok (.aload_n 1, 1) := by decide +kernel
theorem dL_law_494 : decode cL_law 494 = .ok (.aload_n 0, 1) := by decide +kernel
theorem dL_law_495 : decode cL_law 495 = .ok (.iload_n 3, 1) := by decide +kernel
theorem dL_law_496 : decode cL_law 496 = .ok (.iconst 1, 1) := by decide +kernel
theorem dL_law_497 : decode cL_law 497 = .ok (.iadd, 1) := by decide +kernel
theorem dL_law_498 : decode cL_law 498 = .ok (.iaload, 1) := by decide +kernel
theorem dL_law_499 : decode cL_law 499 = .ok (.invokevirtual 69, 3) := by decide +kernel
theorem dL_law_502 : decode cL_law 502 = .ok (.aload_n 2, 1) := by decide +kernel
theorem dL_law_503 : decode cL_law 503 = .ok (.aload_n 0, 1) := by decide +kernel
theorem dL_law_504 : decode cL_law 504 = .ok (.iload_n 3, 1) := by decide +kernel
theorem dL_law_505 : decode cL_law 505 = .ok (.iconst 1, 1) := by decide +kernel
theorem dL_law_506 : decode cL_law 506 = .ok (.iadd, 1) := by decide +kernel
theorem dL_law_507 : decode cL_law 507 = .ok (.iaload, 1) := by decide +kernel
theorem dL_law_508 : decode cL_law 508 = .ok (.invokevirtual 72, 3) := by decide +kernel
theorem dL_law_511 : decode cL_law 511 = .ok (.if_icmp .eq 488, 3) := by decide +kernel
theorem dL_law_514 : decode cL_law 514 = .ok (.iconst 0, 1) := by decide +kernel
theorem dL_law_515 : decode cL_law 515 = .ok (.ireturn, 1) := by decide +kernel
theorem dL_law_516 : decode cL_law 516 = .ok (.aload_n 1, 1) := by decide +kernel
theorem dL_law_517 : decode cL_law 517 = .ok (.invokevirtual 73, 3) := by decide +kernel
theorem dL_law_520 : decode cL_law 520 = .ok (.aload_n 2, 1) := by decide +kernel
theorem dL_law_521 : decode cL_law 521 = .ok (.invokevirtual 76, 3) := by decide +kernel
theorem dL_law_524 : decode cL_law 524 = .ok (.if_icmp .eq 475, 3) := by decide +kernel
theorem dL_law_527 : decode cL_law 527 = .ok (.iconst 0, 1) := by decide +kernel
theorem dL_law_528 : decode cL_law 528 = .ok (.ireturn, 1) := by decide +kernel
theorem dL_law_529 : decode cL_law 529 = .ok (.aload_n 1, 1) := by decide +kernel
theorem dL_law_530 : decode cL_law 530 = .ok (.aload_n 0, 1) := by decide +kernel
theorem dL_law_531 : decode cL_law 531 = .ok (.iload_n 3, 1) := by decide +kernel
theorem dL_law_532 : decode cL_law 532 = .ok (.iconst 1, 1) := by decide +kernel
theorem dL_law_533 : decode cL_law 533 = .ok (.iadd, 1) := by decide +kernel
theorem dL_law_534 : decode cL_law 534 = .ok (.iaload, 1) := by decide +kernel
theorem dL_law_535 : decode cL_law 535 = .ok (.invokevirtual 77, 3) := by decide +kernel
theorem dL_law_538 : decode cL_law 538 = .ok (.aload_n 2, 1) := by decide +kernel
theorem dL_law_539 : decode cL_law 539 = .ok (.aload_n 0, 1) := by decide +kernel
theorem dL_law_540 : decode cL_law 540 = .ok (.iload_n 3, 1) := by decide +kernel
theorem dL_law_541 : decode cL_law 541 = .ok (.iconst 1, 1) := by decide +kernel
theorem dL_law_542 : decode cL_law 542 = .ok (.iadd, 1) := by decide +kernel
theorem dL_law_543 : decode cL_law 543 = .ok (.iaload, 1) := by decide +kernel
theorem dL_law_544 : decode cL_law 544 = .ok (.invokevirtual 80, 3) := by decide +kernel
theorem dL_law_547 : decode cL_law 547 = .ok (.if_icmp .eq 452, 3) := by decide +kernel
theorem dL_law_550 : decode cL_law 550 = .ok (.iconst 0, 1) := by decide +kernel
theorem dL_law_551 : decode cL_law 551 = .ok (.ireturn, 1) := by decide +kernel
theorem dL_law_552 : decode cL_law 552 = .ok (.aload_n 1, 1) := by decide +kernel
theorem dL_law_553 : decode cL_law 553 = .ok (.aload_n 0, 1) := by decide +kernel
theorem dL_law_554 : decode cL_law 554 = .ok (.iload_n 3, 1) := by decide +kernel
theorem dL_law_555 : decode cL_law 555 = .ok (.iconst 1, 1) := by decide +kernel
theorem dL_law_556 : decode cL_law 556 = .ok (.iadd, 1) := by decide +kernel
theorem dL_law_557 : decode cL_law 557 = .ok (.iaload, 1) := by decide +kernel
theorem dL_law_558 : decode cL_law 558 = .ok (.aload_n 0, 1) := by decide +kernel
theorem dL_law_559 : decode cL_law 559 = .ok (.iload_n 3, 1) := by decide +kernel
theorem dL_law_560 : decode cL_law 560 = .ok (.iconst 2, 1) := by decide +kernel
theorem dL_law_561 : decode cL_law 561 = .ok (.iadd, 1) := by decide +kernel
theorem dL_law_562 : decode cL_law 562 = .ok (.iaload, 1) := by decide +kernel
theorem dL_law_563 : decode cL_law 563 = .ok (.invokevirtual 81, 3) := by decide +kernel
theorem dL_law_566 : decode cL_law 566 = .ok (.aload_n 2, 1) := by decide +kernel
theorem dL_law_567 : decode cL_law 567 = .ok (.aload_n 0, 1) := by decide +kernel
theorem dL_law_568 : decode cL_law 568 = .ok (.iload_n 3, 1) := by decide +kernel
theorem dL_law_569 : decode cL_law 569 = .ok (.iconst 1, 1) := by decide +kernel
theorem dL_law_570 : decode cL_law 570 = .ok (.iadd, 1) := by decide +kernel
theorem dL_law_571 : decode cL_law 571 = .ok (.iaload, 1) := by decide +kernel
theorem dL_law_572 : decode cL_law 572 = .ok (.aload_n 0, 1) := by decide +kernel
theorem dL_law_573 : decode cL_law 573 = .ok (.iload_n 3, 1) := by decide +kernel
theorem dL_law_574 : decode cL_law 574 = .ok (.iconst 2, 1) := by decide +kernel
theorem dL_law_575 : decode cL_law 575 = .ok (.iadd, 1) := by decide +kernel
theorem dL_law_576 : decode cL_law 576 = .ok (.iaload, 1) := by decide +kernel
theorem dL_law_577 : decode cL_law 577 = .ok (.invokevirtual 84, 3) := by decide +kernel
theorem dL_law_580 : decode cL_law 580 = .ok (.if_icmp .eq 419, 3) := by decide +kernel
theorem dL_law_583 : decode cL_law 583 = .ok (.iconst 0, 1) := by decide +kernel
theorem dL_law_584 : decode cL_law 584 = .ok (.ireturn, 1) := by decide +kernel
theorem dL_law_585 : decode cL_law 585 = .ok (.aload_n 1, 1) := by decide +kernel
theorem dL_law_586 : decode cL_law 586 = .ok (.invokevirtual 85, 3) := by decide +kernel
theorem dL_law_589 : decode cL_law 589 = .ok (.aload_n 2, 1) := by decide +kernel
theorem dL_law_590 : decode cL_law 590 = .ok (.invokevirtual 88, 3) := by decide +kernel
theorem dL_law_593 : decode cL_law 593 = .ok (.if_icmp .eq 406, 3) := by decide +kernel
theorem dL_law_596 : decode cL_law 596 = .ok (.iconst 0, 1) := by decide +kernel
theorem dL_law_597 : decode cL_law 597 = .ok (.ireturn, 1) := by decide +kernel
theorem dL_law_598 : decode cL_law 598 = .ok (.aload_n 1, 1) := by decide +kernel
theorem dL_law_599 : decode cL_law 599 = .ok (.invokevirtual 89, 3) := by decide +kernel
theorem dL_law_602 : decode cL_law 602 = .ok (.aload_n 2, 1) := by decide +kernel
theorem dL_law_603 : decode cL_law 603 = .ok (.invokevirtual 92, 3) := by decide +kernel
theorem dL_law_606 : decode cL_law 606 = .ok (.if_icmp .eq 393, 3) := by decide +kernel
theorem dL_law_609 : decode cL_law 609 = .ok (.iconst 0, 1) := by decide +kernel
theorem dL_law_610 : decode cL_law 610 = .ok (.ireturn, 1) := by decide +kernel
theorem dL_law_611 : decode cL_law 611 = .ok (.aload_n 1, 1) := by decide +kernel
theorem dL_law_612 : decode cL_law 612 = .ok (.aload_n 0, 1) := by decide +kernel
theorem dL_law_613 : decode cL_law 613 = .ok (.iload_n 3, 1) := by decide +kernel
theorem dL_law_614 : decode cL_law 614 = .ok (.iconst 1, 1) := by decide +kernel
theorem dL_law_615 : decode cL_law 615 = .ok (.iadd, 1) := by decide +kernel
theorem dL_law_616 : decode cL_law 616 = .ok (.iaload, 1) := by decide +kernel
theorem dL_law_617 : decode cL_law 617 = .ok (.aload_n 0, 1) := by decide +kernel
theorem dL_law_618 : decode cL_law 618 = .ok (.iload_n 3, 1) := by decide +kernel
theorem dL_law_619 : decode cL_law 619 = .ok (.iconst 2, 1) := by decide +kernel
theorem dL_law_620 : decode cL_law 620 = .ok (.iadd, 1) := by decide +kernel
theorem dL_law_621 : decode cL_law 621 = .ok (.iaload, 1) := by decide +kernel
theorem dL_law_622 : decode cL_law 622 = .ok (.invokevirtual 93, 3) := by decide +kernel
theorem dL_law_625 : decode cL_law 625 = .ok (.aload_n 2, 1) := by decide +kernel
theorem dL_law_626 : decode cL_law 626 = .ok (.aload_n 0, 1) := by decide +kernel
theorem dL_law_627 : decode cL_law 627 = .ok (.iload_n 3, 1) := by decide +kernel
theorem dL_law_628 : decode cL_law 628 = .ok (.iconst 1, 1) := by decide +kernel
theorem dL_law_629 : decode cL_law 629 = .ok (.iadd, 1) := by decide +kernel
theorem dL_law_630 : decode cL_law 630 = .ok (.iaload, 1) := by decide +kernel
theorem dL_law_631 : decode cL_law 631 = .ok (.aload_n 0, 1) := by decide +kernel
theorem dL_law_632 : decode cL_law 632 = .ok (.iload_n 3, 1) := by decide +kernel
theorem dL_law_633 : decode cL_law 633 = .ok (.iconst 2, 1) := by decide +kernel
theorem dL_law_634 : decode cL_law 634 = .ok (.iadd, 1) := by decide +kernel
theorem dL_law_635 : decode cL_law 635 = .ok (.iaload, 1) := by decide +kernel
theorem dL_law_636 : decode cL_law 636 = .ok (.invokevirtual 96, 3) := by decide +kernel
theorem dL_law_639 : decode cL_law 639 = .ok (.if_icmp .eq 360, 3) := by decide +kernel
theorem dL_law_642 : decode cL_law 642 = .ok (.iconst 0, 1) := by decide +kernel
theorem dL_law_643 : decode cL_law 643 = .ok (.ireturn, 1) := by decide +kernel
theorem dL_law_644 : decode cL_law 644 = .ok (.aload_n 1, 1) := by decide +kernel
theorem dL_law_645 : decode cL_law 645 = .ok (.aload_n 0, 1) := by decide +kernel
theorem dL_law_646 : decode cL_law 646 = .ok (.iload_n 3, 1) := by decide +kernel
theorem dL_law_647 : decode cL_law 647 = .ok (.iconst 1, 1) := by decide +kernel
theorem dL_law_648 : decode cL_law 648 = .ok (.iadd, 1) := by decide +kernel
theorem dL_law_649 : decode cL_law 649 = .ok (.iaload, 1) := by decide +kernel
theorem dL_law_650 : decode cL_law 650 = .ok (.invokevirtual 97, 3) := by decide +kernel
theorem dL_law_653 : decode cL_law 653 = .ok (.aload_n 2, 1) := by decide +kernel
theorem dL_law_654 : decode cL_law 654 = .ok (.aload_n 0, 1) := by decide +kernel
theorem dL_law_655 : decode cL_law 655 = .ok (.iload_n 3, 1) := by decide +kernel
theorem dL_law_656 : decode cL_law 656 = .ok (.iconst 1, 1) := by decide +kernel
theorem dL_law_657 : decode cL_law 657 = .ok (.iadd, 1) := by decide +kernel
theorem dL_law_658 : decode cL_law 658 = .ok (.iaload, 1) := by decide +kernel
theorem dL_law_659 : decode cL_law 659 = .ok (.invokevirtual 100, 3) := by decide +kernel
theorem dL_law_662 : decode cL_law 662 = .ok (.if_icmp .eq 337, 3) := by decide +kernel
theorem dL_law_665 : decode cL_law 665 = .ok (.iconst 0, 1) := by decide +kernel
theorem dL_law_666 : decode cL_law 666 = .ok (.ireturn, 1) := by decide +kernel
theorem dL_law_667 : decode cL_law 667 = .ok (.aload_n 1, 1) := by decide +kernel
theorem dL_law_668 : decode cL_law 668 = .ok (.aload_n 0, 1) := by decide +kernel
theorem dL_law_669 : decode cL_law 669 = .ok (.iload_n 3, 1) := by decide +kernel
theorem dL_law_670 : decode cL_law 670 = .ok (.iconst 1, 1) := by decide +kernel
theorem dL_law_671 : decode cL_law 671 = .ok (.iadd, 1) := by decide +kernel
theorem dL_law_672 : decode cL_law 672 = .ok (.iaload, 1) := by decide +kernel
theorem dL_law_673 : decode cL_law 673 = .ok (.aload_n 0, 1) := by decide +kernel
theorem dL_law_674 : decode cL_law 674 = .ok (.iload_n 3, 1) := by decide +kernel
theorem dL_law_675 : decode cL_law 675 = .ok (.iconst 2, 1) := by decide +kernel
theorem dL_law_676 : decode cL_law 676 = .ok (.iadd, 1) := by decide +kernel
theorem dL_law_677 : decode cL_law 677 = .ok (.iaload, 1) := by decide +kernel
theorem dL_law_678 : decode cL_law 678 = .ok (.invokevirtual 101, 3) := by decide +kernel
theorem dL_law_681 : decode cL_law 681 = .ok (.aload_n 2, 1) := by decide +kernel
theorem dL_law_682 : decode cL_law 682 = .ok (.aload_n 0, 1) := by decide +kernel
theorem dL_law_683 : decode cL_law 683 = .ok (.iload_n 3, 1) := by decide +kernel
theorem dL_law_684 : decode cL_law 684 = .ok (.iconst 1, 1) := by decide +kernel
theorem dL_law_685 : decode cL_law 685 = .ok (.iadd, 1) := by decide +kernel
theorem dL_law_686 : decode cL_law 686 = .ok (.iaload, 1) := by decide +kernel
theorem dL_law_687 : decode cL_law 687 = .ok (.aload_n 0, 1) := by decide +kernel
theorem dL_law_688 : decode cL_law 688 = .ok (.iload_n 3, 1) := by decide +kernel
theorem dL_law_689 : decode cL_law 689 = .ok (.iconst 2, 1) := by decide +kernel
theorem dL_law_690 : decode cL_law 690 = .ok (.iadd, 1) := by decide +kernel
theorem dL_law_691 : decode cL_law 691 = .ok (.iaload, 1) := by decide +kernel
theorem dL_law_692 : decode cL_law 692 = .ok (.invokevirtual 104, 3) := by decide +kernel
theorem dL_law_695 : decode cL_law 695 = .ok (.if_icmp .eq 304, 3) := by decide +kernel
theorem dL_law_698 : decode cL_law 698 = .ok (.iconst 0, 1) := by decide +kernel
theorem dL_law_699 : decode cL_law 699 = .ok (.ireturn, 1) := by decide +kernel
theorem dL_law_700 : decode cL_law 700 = .ok (.aload_n 1, 1) := by decide +kernel
theorem dL_law_701 : decode cL_law 701 = .ok (.invokevirtual 105, 3) := by decide +kernel
theorem dL_law_704 : decode cL_law 704 = .ok (.aload_n 2, 1) := by decide +kernel
theorem dL_law_705 : decode cL_law 705 = .ok (.invokevirtual 108, 3) := by decide +kernel
theorem dL_law_708 : decode cL_law 708 = .ok (.if_icmp .eq 291, 3) := by decide +kernel
theorem dL_law_711 : decode cL_law 711 = .ok (.iconst 0, 1) := by decide +kernel
theorem dL_law_712 : decode cL_law 712 = .ok (.ireturn, 1) := by decide +kernel
theorem dL_law_713 : decode cL_law 713 = .ok (.aload_n 1, 1) := by decide +kernel
theorem dL_law_714 : decode cL_law 714 = .ok (.aload_n 0, 1) := by decide +kernel
theorem dL_law_715 : decode cL_law 715 = .ok (.iload_n 3, 1) := by decide +kernel
theorem dL_law_716 : decode cL_law 716 = .ok (.iconst 1, 1) := by decide +kernel
theorem dL_law_717 : decode cL_law 717 = .ok (.iadd, 1) := by decide +kernel
theorem dL_law_718 : decode cL_law 718 = .ok (.iaload, 1) := by decide +kernel
theorem dL_law_719 : decode cL_law 719 = .ok (.aload_n 0, 1) := by decide +kernel
theorem dL_law_720 : decode cL_law 720 = .ok (.iload_n 3, 1) := by decide +kernel
theorem dL_law_721 : decode cL_law 721 = .ok (.iconst 2, 1) := by decide +kernel
theorem dL_law_722 : decode cL_law 722 = .ok (.iadd, 1) := by decide +kernel
theorem dL_law_723 : decode cL_law 723 = .ok (.iaload, 1) := by decide +kernel
theorem dL_law_724 : decode cL_law 724 = .ok (.invokevirtual 109, 3) := by decide +kernel
theorem dL_law_727 : decode cL_law 727 = .ok (.aload_n 2, 1) := by decide +kernel
theorem dL_law_728 : decode cL_law 728 = .ok (.aload_n 0, 1) := by decide +kernel
theorem dL_law_729 : decode cL_law 729 = .ok (.iload_n 3, 1) := by decide +kernel
theorem dL_law_730 : decode cL_law 730 = .ok (.iconst 1, 1) := by decide +kernel
theorem dL_law_731 : decode cL_law 731 = .ok (.iadd, 1) := by decide +kernel
theorem dL_law_732 : decode cL_law 732 = .ok (.iaload, 1) := by decide +kernel
theorem dL_law_733 : decode cL_law 733 = .ok (.aload_n 0, 1) := by decide +kernel
theorem dL_law_734 : decode cL_law 734 = .ok (.iload_n 3, 1) := by decide +kernel
theorem dL_law_735 : decode cL_law 735 = .ok (.iconst 2, 1) := by decide +kernel
theorem dL_law_736 : decode cL_law 736 = .ok (.iadd, 1) := by decide +kernel
theorem dL_law_737 : decode cL_law 737 = .ok (.iaload, 1) := by decide +kernel
theorem dL_law_738 : decode cL_law 738 = .ok (.invokevirtual 112, 3) := by decide +kernel
theorem dL_law_741 : decode cL_law 741 = .ok (.if_icmp .eq 258, 3) := by decide +kernel
theorem dL_law_744 : decode cL_law 744 = .ok (.iconst 0, 1) := by decide +kernel
theorem dL_law_745 : decode cL_law 745 = .ok (.ireturn, 1) := by decide +kernel
theorem dL_law_746 : decode cL_law 746 = .ok (.aload_n 1, 1) := by decide +kernel
theorem dL_law_747 : decode cL_law 747 = .ok (.invokevirtual 113, 3) := by decide +kernel
theorem dL_law_750 : decode cL_law 750 = .ok (.aload_n 2, 1) := by decide +kernel
theorem dL_law_751 : decode cL_law 751 = .ok (.invokevirtual 116, 3) := by decide +kernel
theorem dL_law_754 : decode cL_law 754 = .ok (.if_icmp .eq 245, 3) := by decide +kernel
theorem dL_law_757 : decode cL_law 757 = .ok (.iconst 0, 1) := by decide +kernel
theorem dL_law_758 : decode cL_law 758 = .ok (.ireturn, 1) := by decide +kernel
theorem dL_law_759 : decode cL_law 759 = .ok (.aload_n 1, 1) := by decide +kernel
theorem dL_law_760 : decode cL_law 760 = .ok (.aload_n 0, 1) := by decide +kernel
theorem dL_law_761 : decode cL_law 761 = .ok (.iload_n 3, 1) := by decide +kernel
theorem dL_law_762 : decode cL_law 762 = .ok (.iconst 1, 1) := by decide +kernel
theorem dL_law_763 : decode cL_law 763 = .ok (.iadd, 1) := by decide +kernel
theorem dL_law_764 : decode cL_law 764 = .ok (.iaload, 1) := by decide +kernel
theorem dL_law_765 : decode cL_law 765 = .ok (.aload_n 0, 1) := by decide +kernel
theorem dL_law_766 : decode cL_law 766 = .ok (.iload_n 3, 1) := by decide +kernel
theorem dL_law_767 : decode cL_law 767 = .ok (.iconst 2, 1) := by decide +kernel
theorem dL_law_768 : decode cL_law 768 = .ok (.iadd, 1) := by decide +kernel
theorem dL_law_769 : decode cL_law 769 = .ok (.iaload, 1) := by decide +kernel
theorem dL_law_770 : decode cL_law 770 = .ok (.invokevirtual 117, 3) := by decide +kernel
theorem dL_law_773 : decode cL_law 773 = .ok (.aload_n 2, 1) := by decide +kernel
theorem dL_law_774 : decode cL_law 774 = .ok (.aload_n 0, 1) := by decide +kernel
theorem dL_law_775 : decode cL_law 775 = .ok (.iload_n 3, 1) := by decide +kernel
theorem dL_law_776 : decode cL_law 776 = .ok (.iconst 1, 1) := by decide +kernel
theorem dL_law_777 : decode cL_law 777 = .ok (.iadd, 1) := by decide +kernel
theorem dL_law_778 : decode cL_law 778 = .ok (.iaload, 1) := by decide +kernel
theorem dL_law_779 : decode cL_law 779 = .ok (.aload_n 0, 1) := by decide +kernel
theorem dL_law_780 : decode cL_law 780 = .ok (.iload_n 3, 1) := by decide +kernel
theorem dL_law_781 : decode cL_law 781 = .ok (.iconst 2, 1) := by decide +kernel
theorem dL_law_782 : decode cL_law 782 = .ok (.iadd, 1) := by decide +kernel
theorem dL_law_783 : decode cL_law 783 = .ok (.iaload, 1) := by decide +kernel
theorem dL_law_784 : decode cL_law 784 = .ok (.invokevirtual 120, 3) := by decide +kernel
theorem dL_law_787 : decode cL_law 787 = .ok (.if_icmp .eq 212, 3) := by decide +kernel
theorem dL_law_790 : decode cL_law 790 = .ok (.iconst 0, 1) := by decide +kernel
theorem dL_law_791 : decode cL_law 791 = .ok (.ireturn, 1) := by decide +kernel
theorem dL_law_792 : decode cL_law 792 = .ok (.aload_n 1, 1) := by decide +kernel
theorem dL_law_793 : decode cL_law 793 = .ok (.aload_n 0, 1) := by decide +kernel
theorem dL_law_794 : decode cL_law 794 = .ok (.iload_n 3, 1) := by decide +kernel
theorem dL_law_795 : decode cL_law 795 = .ok (.iconst 1, 1) := by decide +kernel
theorem dL_law_796 : decode cL_law 796 = .ok (.iadd, 1) := by decide +kernel
theorem dL_law_797 : decode cL_law 797 = .ok (.iaload, 1) := by decide +kernel
theorem dL_law_798 : decode cL_law 798 = .ok (.aload_n 0, 1) := by decide +kernel
theorem dL_law_799 : decode cL_law 799 = .ok (.iload_n 3, 1) := by decide +kernel
theorem dL_law_800 : decode cL_law 800 = .ok (.iconst 2, 1) := by decide +kernel
theorem dL_law_801 : decode cL_law 801 = .ok (.iadd, 1) := by decide +kernel
theorem dL_law_802 : decode cL_law 802 = .ok (.iaload, 1) := by decide +kernel
theorem dL_law_803 : decode cL_law 803 = .ok (.invokevirtual 121, 3) := by decide +kernel
theorem dL_law_806 : decode cL_law 806 = .ok (.aload_n 2, 1) := by decide +kernel
theorem dL_law_807 : decode cL_law 807 = .ok (.aload_n 0, 1) := by decide +kernel
theorem dL_law_808 : decode cL_law 808 = .ok (.iload_n 3, 1) := by decide +kernel
theorem dL_law_809 : decode cL_law 809 = .ok (.iconst 1, 1) := by decide +kernel
theorem dL_law_810 : decode cL_law 810 = .ok (.iadd, 1) := by decide +kernel
theorem dL_law_811 : decode cL_law 811 = .ok (.iaload, 1) := by decide +kernel
theorem dL_law_812 : decode cL_law 812 = .ok (.aload_n 0, 1) := by decide +kernel
theorem dL_law_813 : decode cL_law 813 = .ok (.iload_n 3, 1) := by decide +kernel
theorem dL_law_814 : decode cL_law 814 = .ok (.iconst 2, 1) := by decide +kernel
theorem dL_law_815 : decode cL_law 815 = .ok (.iadd, 1) := by decide +kernel
theorem dL_law_816 : decode cL_law 816 = .ok (.iaload, 1) := by decide +kernel
theorem dL_law_817 : decode cL_law 817 = .ok (.invokevirtual 124, 3) := by decide +kernel
theorem dL_law_820 : decode cL_law 820 = .ok (.if_icmp .eq 179, 3) := by decide +kernel
theorem dL_law_823 : decode cL_law 823 = .ok (.iconst 0, 1) := by decide +kernel
theorem dL_law_824 : decode cL_law 824 = .ok (.ireturn, 1) := by decide +kernel
theorem dL_law_825 : decode cL_law 825 = .ok (.aload_n 1, 1) := by decide +kernel
theorem dL_law_826 : decode cL_law 826 = .ok (.aload_n 0, 1) := by decide +kernel
theorem dL_law_827 : decode cL_law 827 = .ok (.iload_n 3, 1) := by decide +kernel
theorem dL_law_828 : decode cL_law 828 = .ok (.iconst 1, 1) := by decide +kernel
theorem dL_law_829 : decode cL_law 829 = .ok (.iadd, 1) := by decide +kernel
theorem dL_law_830 : decode cL_law 830 = .ok (.iaload, 1) := by decide +kernel
theorem dL_law_831 : decode cL_law 831 = .ok (.aload_n 0, 1) := by decide +kernel
theorem dL_law_832 : decode cL_law 832 = .ok (.iload_n 3, 1) := by decide +kernel
theorem dL_law_833 : decode cL_law 833 = .ok (.iconst 2, 1) := by decide +kernel
theorem dL_law_834 : decode cL_law 834 = .ok (.iadd, 1) := by decide +kernel
theorem dL_law_835 : decode cL_law 835 = .ok (.iaload, 1) := by decide +kernel
theorem dL_law_836 : decode cL_law 836 = .ok (.invokevirtual 125, 3) := by decide +kernel
theorem dL_law_839 : decode cL_law 839 = .ok (.aload_n 2, 1) := by decide +kernel
theorem dL_law_840 : decode cL_law 840 = .ok (.aload_n 0, 1) := by decide +kernel
theorem dL_law_841 : decode cL_law 841 = .ok (.iload_n 3, 1) := by decide +kernel
theorem dL_law_842 : decode cL_law 842 = .ok (.iconst 1, 1) := by decide +kernel
theorem dL_law_843 : decode cL_law 843 = .ok (.iadd, 1) := by decide +kernel
theorem dL_law_844 : decode cL_law 844 = .ok (.iaload, 1) := by decide +kernel
theorem dL_law_845 : decode cL_law 845 = .ok (.aload_n 0, 1) := by decide +kernel
theorem dL_law_846 : decode cL_law 846 = .ok (.iload_n 3, 1) := by decide +kernel
theorem dL_law_847 : decode cL_law 847 = .ok (.iconst 2, 1) := by decide +kernel
theorem dL_law_848 : decode cL_law 848 = .ok (.iadd, 1) := by decide +kernel
theorem dL_law_849 : decode cL_law 849 = .ok (.iaload, 1) := by decide +kernel
theorem dL_law_850 : decode cL_law 850 = .ok (.invokevirtual 128, 3) := by decide +kernel
theorem dL_law_853 : decode cL_law 853 = .ok (.if_icmp .eq 146, 3) := by decide +kernel
theorem dL_law_856 : decode cL_law 856 = .ok (.iconst 0, 1) := by decide +kernel
theorem dL_law_857 : decode cL_law 857 = .ok (.ireturn, 1) := by decide +kernel
theorem dL_law_858 : decode cL_law 858 = .ok (.aload_n 1, 1) := by decide +kernel
theorem dL_law_859 : decode cL_law 859 = .ok (.invokevirtual 129, 3) := by decide +kernel
theorem dL_law_862 : decode cL_law 862 = .ok (.aload_n 2, 1) := by decide +kernel
theorem dL_law_863 : decode cL_law 863 = .ok (.invokevirtual 132, 3) := by decide +kernel
theorem dL_law_866 : decode cL_law 866 = .ok (.if_icmp .eq 133, 3) := by decide +kernel
theorem dL_law_869 : decode cL_law 869 = .ok (.iconst 0, 1) := by decide +kernel
theorem dL_law_870 : decode cL_law 870 = .ok (.ireturn, 1) := by decide +kernel
theorem dL_law_871 : decode cL_law 871 = .ok (.aload_n 1, 1) := by decide +kernel
theorem dL_law_872 : decode cL_law 872 = .ok (.aload_n 0, 1) := by decide +kernel
theorem dL_law_873 : decode cL_law 873 = .ok (.iload_n 3, 1) := by decide +kernel
theorem dL_law_874 : decode cL_law 874 = .ok (.iconst 1, 1) := by decide +kernel
theorem dL_law_875 : decode cL_law 875 = .ok (.iadd, 1) := by decide +kernel
theorem dL_law_876 : decode cL_law 876 = .ok (.iaload, 1) := by decide +kernel
theorem dL_law_877 : decode cL_law 877 = .ok (.aload_n 0, 1) := by decide +kernel
theorem dL_law_878 : decode cL_law 878 = .ok (.iload_n 3, 1) := by decide +kernel
theorem dL_law_879 : decode cL_law 879 = .ok (.iconst 2, 1) := by decide +kernel
theorem dL_law_880 : decode cL_law 880 = .ok (.iadd, 1) := by decide +kernel
theorem dL_law_881 : decode cL_law 881 = .ok (.iaload, 1) := by decide +kernel
theorem dL_law_882 : decode cL_law 882 = .ok (.invokevirtual 133, 3) := by decide +kernel
theorem dL_law_885 : decode cL_law 885 = .ok (.aload_n 2, 1) := by decide +kernel
theorem dL_law_886 : decode cL_law 886 = .ok (.aload_n 0, 1) := by decide +kernel
theorem dL_law_887 : decode cL_law 887 = .ok (.iload_n 3, 1) := by decide +kernel
theorem dL_law_888 : decode cL_law 888 = .ok (.iconst 1, 1) := by decide +kernel
theorem dL_law_889 : decode cL_law 889 = .ok (.iadd, 1) := by decide +kernel
theorem dL_law_890 : decode cL_law 890 = .ok (.iaload, 1) := by decide +kernel
theorem dL_law_891 : decode cL_law 891 = .ok (.aload_n 0, 1) := by decide +kernel
theorem dL_law_892 : decode cL_law 892 = .ok (.iload_n 3, 1) := by decide +kernel
theorem dL_law_893 : decode cL_law 893 = .ok (.iconst 2, 1) := by decide +kernel
theorem dL_law_894 : decode cL_law 894 = .ok (.iadd, 1) := by decide +kernel
theorem dL_law_895 : decode cL_law 895 = .ok (.iaload, 1) := by decide +kernel
theorem dL_law_896 : decode cL_law 896 = .ok (.invokevirtual 136, 3) := by decide +kernel
theorem dL_law_899 : decode cL_law 899 = .ok (.if_icmp .eq 100, 3) := by decide +kernel
theorem dL_law_902 : decode cL_law 902 = .ok (.iconst 0, 1) := by decide +kernel
theorem dL_law_903 : decode cL_law 903 = .ok (.ireturn, 1) := by decide +kernel
theorem dL_law_904 : decode cL_law 904 = .ok (.aload_n 1, 1) := by decide +kernel
theorem dL_law_905 : decode cL_law 905 = .ok (.invokevirtual 137, 3) := by decide +kernel
theorem dL_law_908 : decode cL_law 908 = .ok (.aload_n 2, 1) := by decide +kernel
theorem dL_law_909 : decode cL_law 909 = .ok (.invokevirtual 140, 3) := by decide +kernel
theorem dL_law_912 : decode cL_law 912 = .ok (.if_icmp .eq 87, 3) := by decide +kernel
theorem dL_law_915 : decode cL_law 915 = .ok (.iconst 0, 1) := by decide +kernel
theorem dL_law_916 : decode cL_law 916 = .ok (.ireturn, 1) := by decide +kernel
theorem dL_law_917 : decode cL_law 917 = .ok (.aload_n 1, 1) := by decide +kernel
theorem dL_law_918 : decode cL_law 918 = .ok (.invokevirtual 141, 3) := by decide +kernel
theorem dL_law_921 : decode cL_law 921 = .ok (.aload_n 2, 1) := by decide +kernel
theorem dL_law_922 : decode cL_law 922 = .ok (.invokevirtual 144, 3) := by decide +kernel
theorem dL_law_925 : decode cL_law 925 = .ok (.if_icmp .eq 74, 3) := by decide +kernel
theorem dL_law_928 : decode cL_law 928 = .ok (.iconst 0, 1) := by decide +kernel
theorem dL_law_929 : decode cL_law 929 = .ok (.ireturn, 1) := by decide +kernel
theorem dL_law_930 : decode cL_law 930 = .ok (.aload_n 1, 1) := by decide +kernel
theorem dL_law_931 : decode cL_law 931 = .ok (.aload_n 0, 1) := by decide +kernel
theorem dL_law_932 : decode cL_law 932 = .ok (.iload_n 3, 1) := by decide +kernel
theorem dL_law_933 : decode cL_law 933 = .ok (.iconst 1, 1) := by decide +kernel
theorem dL_law_934 : decode cL_law 934 = .ok (.iadd, 1) := by decide +kernel
theorem dL_law_935 : decode cL_law 935 = .ok (.iaload, 1) := by decide +kernel
theorem dL_law_936 : decode cL_law 936 = .ok (.invokevirtual 145, 3) := by decide +kernel
theorem dL_law_939 : decode cL_law 939 = .ok (.aload_n 2, 1) := by decide +kernel
theorem dL_law_940 : decode cL_law 940 = .ok (.aload_n 0, 1) := by decide +kernel
theorem dL_law_941 : decode cL_law 941 = .ok (.iload_n 3, 1) := by decide +kernel
theorem dL_law_942 : decode cL_law 942 = .ok (.iconst 1, 1) := by decide +kernel
theorem dL_law_943 : decode cL_law 943 = .ok (.iadd, 1) := by decide +kernel
theorem dL_law_944 : decode cL_law 944 = .ok (.iaload, 1) := by decide +kernel
theorem dL_law_945 : decode cL_law 945 = .ok (.invokevirtual 148, 3) := by decide +kernel
theorem dL_law_948 : decode cL_law 948 = .ok (.if_icmp .eq 51, 3) := by decide +kernel
theorem dL_law_951 : decode cL_law 951 = .ok (.iconst 0, 1) := by decide +kernel
theorem dL_law_952 : decode cL_law 952 = .ok (.ireturn, 1) := by decide +kernel
theorem dL_law_953 : decode cL_law 953 = .ok (.aload_n 1, 1) := by decide +kernel
theorem dL_law_954 : decode cL_law 954 = .ok (.aload_n 0, 1) := by decide +kernel
theorem dL_law_955 : decode cL_law 955 = .ok (.iload_n 3, 1) := by decide +kernel
theorem dL_law_956 : decode cL_law 956 = .ok (.iconst 1, 1) := by decide +kernel
theorem dL_law_957 : decode cL_law 957 = .ok (.iadd, 1) := by decide +kernel
theorem dL_law_958 : decode cL_law 958 = .ok (.iaload, 1) := by decide +kernel
theorem dL_law_959 : decode cL_law 959 = .ok (.invokevirtual 149, 3) := by decide +kernel
theorem dL_law_962 : decode cL_law 962 = .ok (.aload_n 2, 1) := by decide +kernel
theorem dL_law_963 : decode cL_law 963 = .ok (.aload_n 0, 1) := by decide +kernel
theorem dL_law_964 : decode cL_law 964 = .ok (.iload_n 3, 1) := by decide +kernel
theorem dL_law_965 : decode cL_law 965 = .ok (.iconst 1, 1) := by decide +kernel
theorem dL_law_966 : decode cL_law 966 = .ok (.iadd, 1) := by decide +kernel
theorem dL_law_967 : decode cL_law 967 = .ok (.iaload, 1) := by decide +kernel
theorem dL_law_968 : decode cL_law 968 = .ok (.invokevirtual 152, 3) := by decide +kernel
theorem dL_law_971 : decode cL_law 971 = .ok (.if_icmp .eq 28, 3) := by decide +kernel
theorem dL_law_974 : decode cL_law 974 = .ok (.iconst 0, 1) := by decide +kernel
theorem dL_law_975 : decode cL_law 975 = .ok (.ireturn, 1) := by decide +kernel
theorem dL_law_976 : decode cL_law 976 = .ok (.aload_n 1, 1) := by decide +kernel
theorem dL_law_977 : decode cL_law 977 = .ok (.aload_n 0, 1) := by decide +kernel
theorem dL_law_978 : decode cL_law 978 = .ok (.iload_n 3, 1) := by decide +kernel
theorem dL_law_979 : decode cL_law 979 = .ok (.iconst 1, 1) := by decide +kernel
theorem dL_law_980 : decode cL_law 980 = .ok (.iadd, 1) := by decide +kernel
theorem dL_law_981 : decode cL_law 981 = .ok (.iaload, 1) := by decide +kernel
theorem dL_law_982 : decode cL_law 982 = .ok (.invokevirtual 153, 3) := by decide +kernel
theorem dL_law_985 : decode cL_law 985 = .ok (.aload_n 2, 1) := by decide +kernel
theorem dL_law_986 : decode cL_law 986 = .ok (.aload_n 0, 1) := by decide +kernel
theorem dL_law_987 : decode cL_law 987 = .ok (.iload_n 3, 1) := by decide +kernel
theorem dL_law_988 : decode cL_law 988 = .ok (.iconst 1, 1) := by decide +kernel
theorem dL_law_989 : decode cL_law 989 = .ok (.iadd, 1) := by decide +kernel
theorem dL_law_990 : decode cL_law 990 = .ok (.iaload, 1) := by decide +kernel
theorem dL_law_991 : decode cL_law 991 = .ok (.invokevirtual 156, 3) := by decide +kernel
theorem dL_law_994 : decode cL_law 994 = .ok (.if_icmp .eq 5, 3) := by decide +kernel
theorem dL_law_997 : decode cL_law 997 = .ok (.iconst 0, 1) := by decide +kernel
theorem dL_law_998 : decode cL_law 998 = .ok (.ireturn, 1) := by decide +kernel
theorem dL_law_999 : decode cL_law 999 = .ok (.iinc 3 3, 3) := by decide +kernel
theorem dL_law_1002 : decode cL_law 1002 = .ok (.goto (-984), 3) := by decide +kernel
theorem dL_law_1005 : decode cL_law 1005 = .ok (.iconst 1, 1) := by decide +kernel
theorem dL_law_1006 : decode cL_law 1006 = .ok (.ireturn, 1) := by decide +kernel
end
section
abbrev Mm : Type := Nat → Nat → Int32
abbrev Kd : Type := List (Nat × Nat)
abbrev An : Type := ClassId × ClassId × ClassId × ClassId
def rv (b : Nat) (x : Int32) : Value := if x < 0 then .null else .ref (b + x.toNatClampNeg)
def ro (b : Nat) (x : Int32) : Option Nat := if x < 0 then none else some (b + x.toNatClampNeg)
def cel (an : An) (b : Nat) (k : Nat × Nat) (o : Nat) (f : Nat → Int32) : va_E := match k.1 with
  | 0 => .inr (0, [.int (f 0), .int (f 1), .int (f 2)])
  | 1 => .inr (1, [.ref (b + (o + 1)), .int (f 1), .int (f 2), .int (f 3), .ref (b + (o + 2)), .ref (b + (o + 3))])
  | 2 => .inr (2, [.int (f 0), .int (f 1), .int (f 2), .ref (b + 118), .ref (b + 119)])
  | 3 => .inr (3, [.int (f 0), .int (f 1), .ref (b + 42)])
  | 4 => .inr (4, [.ref (b + 113), .ref (b + 114)])
  | 5 => .inr (5, [])
  | 6 => .inr (6, [.ref (b + 110)])
  | 7 => .inr (7, [.int (f 0), .int (f 1), .ref (b + 36), .ref (b + (f 3).toNatClampNeg), .int (f 4), .int (f 5), .int (f 6)])
  | 8 => .inr (8, [.int (f 0), .int (f 1), .ref (b + 109), .ref (b + (f 3).toNatClampNeg), .int (f 4), .int (f 5)])
  | 9 => .inr (9, [.int (f 0), .int (f 1), .int (f 2), .int (f 3), .ref (b + (o + 1)), .ref (b + (o + 2)), .ref (b + (o + 3)), .ref (b + (o + 4))])
  | 10 => .inr (10, [.int (f 0), .int (f 1), .int (f 2)])
  | 11 => .inr (11, [.ref (b + (f 0).toNatClampNeg), .ref (b + (f 1).toNatClampNeg), .ref (b + 35), .ref (b + 37), .ref (b + 41), .ref (b + 107), .ref (b + 108), .int (f 7), .ref (b + 109), .ref (b + 111), .ref (b + 112), .ref (b + 115), .ref (b + 116), .ref (b + 117), .ref (b + 120), .int (f 15), .int (f 16)])
  | 12 => .inr (12, [.int (f 0), .ref (b + 130), .int (f 2), .int (f 3), .int (f 4), .int (f 5), .int (f 6), .int (f 7), .int (f 8), .int (f 9), .int (f 10), .int (f 11), .int (f 12), .ref (b + 131), .ref (b + 132), .ref (b + 133), .int (f 16), .int (f 17), .int (f 18), .int (f 19), .ref (b + 134), .ref (b + 135), .ref (b + 136), .ref (b + 137), .ref (b + 138), .ref (b + 139), .int (f 26), .ref (b + 140), .ref (b + 141), .ref (b + 142), .int (f 30), .int (f 31), .ref (b + 143), .int (f 33), .ref (b + 144), .ref (b + 145), .int (f 36), .ref (b + 146), .ref (b + 147), .ref (b + 148)])
  | 13 => .inl (an.1, k.2, .inl f)
  | 14 => .inl (an.2.1, k.2, .inl f)
  | 15 => .inl (an.2.2.1, k.2, .inr (.inr (.inr (.inr (fun i => some (b + (o + 3 + i)))))))
  | 16 => .inl (an.2.2.2, k.2, .inr (.inr (.inr (.inr (fun i => some (b + (o + 1 + 4 * i)))))))
  | 17 => .inl (an.2.2.2, k.2, .inr (.inr (.inr (.inr (fun i => some (b + (121 + 4 * i)))))))
  | 18 => .inr (1, [rv b (f 0), .int (f 1), .int (f 2), .int (f 3), rv b (f 4), rv b (f 5)])
  | 19 => .inr (2, [.int (f 0), .int (f 1), .int (f 2), rv b (f 3), rv b (f 4)])
  | 20 => .inr (3, [.int (f 0), .int (f 1), rv b (f 2)])
  | 21 => .inr (4, [rv b (f 0), rv b (f 1)])
  | 22 => .inr (6, [rv b (f 0)])
  | 23 => .inr (7, [.int (f 0), .int (f 1), rv b (f 2), rv b (f 3), .int (f 4), .int (f 5), .int (f 6)])
  | 24 => .inr (8, [.int (f 0), .int (f 1), rv b (f 2), rv b (f 3), .int (f 4), .int (f 5)])
  | 25 => .inr (9, [.int (f 0), .int (f 1), .int (f 2), .int (f 3), rv b (f 4), rv b (f 5), rv b (f 6), rv b (f 7)])
  | 26 => .inr (11, [rv b (f 0), rv b (f 1), rv b (f 2), rv b (f 3), rv b (f 4), rv b (f 5), rv b (f 6), .int (f 7), rv b (f 8), rv b (f 9), rv b (f 10), rv b (f 11), rv b (f 12), rv b (f 13), rv b (f 14), .int (f 15), .int (f 16)])
  | 27 => .inr (12, [.int (f 0), rv b (f 1), .int (f 2), .int (f 3), .int (f 4), .int (f 5), .int (f 6), .int (f 7), .int (f 8), .int (f 9), .int (f 10), .int (f 11), .int (f 12), rv b (f 13), rv b (f 14), rv b (f 15), .int (f 16), .int (f 17), .int (f 18), .int (f 19), rv b (f 20), rv b (f 21), rv b (f 22), rv b (f 23), rv b (f 24), rv b (f 25), .int (f 26), rv b (f 27), rv b (f 28), rv b (f 29), .int (f 30), .int (f 31), rv b (f 32), .int (f 33), rv b (f 34), rv b (f 35), .int (f 36), rv b (f 37), rv b (f 38), rv b (f 39)])
  | 28 => .inl (an.2.2.1, k.2, .inr (.inr (.inr (.inr (fun i => ro b (f i))))))
  | 29 => .inl (an.2.2.2, k.2, .inr (.inr (.inr (.inr (fun i => ro b (f i))))))
  | _ => .inr (0, [])
def ksz (k : Nat × Nat) : Nat := match k.1 with
  | 0 => 3
  | 1 => 6
  | 18 => 6
  | 2 => 5
  | 19 => 5
  | 3 => 3
  | 20 => 3
  | 4 => 2
  | 21 => 2
  | 5 => 0
  | 6 => 1
  | 22 => 1
  | 7 => 7
  | 23 => 7
  | 8 => 6
  | 24 => 6
  | 9 => 8
  | 25 => 8
  | 10 => 3
  | 11 => 17
  | 26 => 17
  | 12 => 40
  | 27 => 40
  | _ => k.2
abbrev KDF : Kd := [(11, 0), (9, 0), (0, 0), (15, 12), (13, 6), (13, 6), (0, 0), (0, 0), (0, 0), (0, 0), (0, 0), (0, 0), (0, 0), (0, 0), (0, 0), (0, 0), (0, 0), (0, 0), (9, 0), (0, 0), (15, 12), (13, 6), (13, 6), (0, 0), (0, 0), (0, 0), (0, 0), (0, 0), (0, 0), (0, 0), (0, 0), (0, 0), (0, 0), (0, 0), (0, 0), (7, 0), (13, 240), (1, 0), (10, 0), (13, 6), (13, 6), (3, 0), (16, 16), (1, 0), (10, 0), (13, 6), (13, 6), (1, 0), (10, 0), (13, 6), (13, 6), (1, 0), (10, 0), (13, 6), (13, 6), (1, 0), (10, 0), (13, 6), (13, 6), (1, 0), (10, 0), (13, 6), (13, 6), (1, 0), (10, 0), (13, 6), (13, 6), (1, 0), (10, 0), (13, 6), (13, 6), (1, 0), (10, 0), (13, 6), (13, 6), (1, 0), (10, 0), (13, 6), (13, 6), (1, 0), (10, 0), (13, 6), (13, 6), (1, 0), (10, 0), (13, 6), (13, 6), (1, 0), (10, 0), (13, 6), (13, 6), (1, 0), (10, 0), (13, 6), (13, 6), (1, 0), (10, 0), (13, 6), (13, 6), (1, 0), (10, 0), (13, 6), (13, 6), (1, 0), (10, 0), (13, 6), (13, 6), (17, 2), (13, 2), (6, 0), (13, 1024), (8, 0), (4, 0), (13, 64), (13, 6), (10, 0), (0, 0), (2, 0), (13, 15), (13, 15), (13, 6), (1, 0), (10, 0), (13, 6), (13, 6), (1, 0), (10, 0), (13, 6), (13, 6), (12, 0), (13, 240), (13, 6), (13, 12), (13, 6), (13, 6), (13, 12), (13, 6), (13, 23), (13, 23), (13, 368), (13, 46), (13, 2), (14, 2), (13, 12), (13, 30), (13, 1001), (13, 6), (13, 6), (13, 6)]
theorem KDF_len : KDF.length = 149 := by decide +kernel
theorem KDF_lt {o : Nat} {k : Nat × Nat} (h : KDF[o]? = some k) : o < 149 := KDF_len ▸ (List.getElem?_eq_some_iff.mp h).1
theorem kd_Ev0 : ∀ o, o < 149 → KDF[o]? = some (1, 0) → KDF[o + 1]? = some (10, 0) ∧ KDF[o + 2]? = some (13, 6) ∧ KDF[o + 3]? = some (13, 6) := by decide +kernel
theorem kd_Ev1 {o : Nat} (h : KDF[o]? = some (1, 0)) : KDF[o + 1]? = some (10, 0) := (kd_Ev0 o (KDF_lt h) h).1
theorem kd_Ev2 {o : Nat} (h : KDF[o]? = some (1, 0)) : KDF[o + 2]? = some (13, 6) := (kd_Ev0 o (KDF_lt h) h).2.1
theorem kd_Ev3 {o : Nat} (h : KDF[o]? = some (1, 0)) : KDF[o + 3]? = some (13, 6) := (kd_Ev0 o (KDF_lt h) h).2.2
theorem kd_To0 : ∀ o, o < 149 → KDF[o]? = some (9, 0) → KDF[o + 1]? = some (0, 0) ∧ KDF[o + 2]? = some (15, 12) ∧ KDF[o + 3]? = some (13, 6) ∧ KDF[o + 4]? = some (13, 6) := by decide +kernel
theorem kd_To1 {o : Nat} (h : KDF[o]? = some (9, 0)) : KDF[o + 1]? = some (0, 0) := (kd_To0 o (KDF_lt h) h).1
theorem kd_To2 {o : Nat} (h : KDF[o]? = some (9, 0)) : KDF[o + 2]? = some (15, 12) := (kd_To0 o (KDF_lt h) h).2.1
theorem kd_To3 {o : Nat} (h : KDF[o]? = some (9, 0)) : KDF[o + 3]? = some (13, 6) := (kd_To0 o (KDF_lt h) h).2.2.1
theorem kd_To4 {o : Nat} (h : KDF[o]? = some (9, 0)) : KDF[o + 4]? = some (13, 6) := (kd_To0 o (KDF_lt h) h).2.2.2
def tbN : List Cond := [Cond.methodLinkNest "BellSuitors$Tower" 11 ⟨"BellSuitors$Change", "<init>", "()V"⟩ "BellSuitors", Cond.methodLinkNest "BellSuitors" 30 ⟨"BellSuitors$Evening", "<init>", "()V"⟩ "BellSuitors", Cond.methodLinkNest "BellSuitors$Evening" 11 ⟨"BellSuitors$Walk", "<init>", "()V"⟩ "BellSuitors", Cond.methodLinkNest "BellSuitors$Past" 15 ⟨"BellSuitors$Evening", "<init>", "()V"⟩ "BellSuitors", Cond.methodLinkNest "BellSuitors" 56 ⟨"BellSuitors$Seen", "<init>", "()V"⟩ "BellSuitors", Cond.methodLinkNest "BellSuitors" 72 ⟨"BellSuitors$RopeSharing", "<init>", "()V"⟩ "BellSuitors", Cond.methodLinkNest "BellSuitors" 79 ⟨"BellSuitors$Walk", "<init>", "()V"⟩ "BellSuitors", Cond.methodLinkNest "BellSuitors" 86 ⟨"BellSuitors$Change", "<init>", "()V"⟩ "BellSuitors", Cond.methodLinkNest "BellSuitors" 93 ⟨"BellSuitors$Notebook", "<init>", "()V"⟩ "BellSuitors"]
theorem tbN_in : ∀ w ∈ tbN, w ∈ lw_tbl := by decide +kernel
theorem tbN_on : ∀ w ∈ tbN, w.onTables = true := by decide +kernel
def Nx (U : State) : Prop := (∀ w ∈ tbN, va_Nw w U) ∧ va_AO "BellSuitors$Change" U ∧ va_AO "BellSuitors$Evening" U
theorem Nx_same {s U : State} (e : s.vm = U.vm) (ha : s.vm.Alike U.vm) (h : Nx s) : Nx U := ⟨fun w hw => va_Nw.same (tbN_on w hw) e (h.1 w hw), h.2.1.moved ha, h.2.2.moved ha⟩
theorem Nx_warm {s U : State} (hW : s.WarmedH U.vm) (h : Nx s) : Nx U := by
  refine ⟨?_, h.2.1.moved hW.alike, h.2.2.moved hW.alike⟩
  intro w hw
  have h1 := h.1 w hw
  simp only [tbN, List.mem_cons, List.not_mem_nil, or_false] at hw
  rcases hw with rfl | rfl | rfl | rfl | rfl | rfl | rfl | rfl | rfl
  · exact va_Nw.warmM hW h1
  · exact va_Nw.warmM hW h1
  · exact va_Nw.warmM hW h1
  · exact va_Nw.warmM hW h1
  · exact va_Nw.warmM hW h1
  · exact va_Nw.warmM hW h1
  · exact va_Nw.warmM hW h1
  · exact va_Nw.warmM hW h1
  · exact va_Nw.warmM hW h1
end
section
def stA (M : Mm) (o : Nat) (f : Nat → Int32) : Mm := fun o' => if o' = o then f else M o'
def st2 (M : Mm) (o k : Nat) (x : Int32) : Mm := stA M o (upd (M o) k x)
theorem stA_self {M : Mm} {o : Nat} {f : Nat → Int32} : stA M o f o = f := by simp [stA]
theorem stA_ne {M : Mm} {o o' : Nat} {f : Nat → Int32} (h : o' ≠ o) : stA M o f o' = M o' := by simp [stA, h]
def wld (an : An) (b : Nat) (KD : Kd) (M : Mm) : va_W := KD.mapIdx (fun o k => (b + o, cel an b k o (M o)))
theorem wld_get {an : An} {b : Nat} {KD : Kd} {M : Mm} {o : Nat} {k : Nat × Nat} (h : KD[o]? = some k) : (wld an b KD M)[o]? = some (b + o, cel an b k o (M o)) := by
  simp [wld, List.getElem?_mapIdx, h]
theorem wld_at {an : An} {b : Nat} {KD : Kd} {M : Mm} {i : Nat} {p : Nat × va_E} (h : (wld an b KD M)[i]? = some p) : p.1 = b + i := by
  simp only [wld, List.getElem?_mapIdx, Option.map_eq_some_iff] at h
  obtain ⟨a, -, h⟩ := h
  rw [← h]
theorem wld_D {an : An} {b : Nat} {KD : Kd} {M : Mm} : va_D (fun q => b ≤ q) (wld an b KD M) := by
  refine ⟨fun i j p q hi hj hpq => ?_, fun k q hk => ?_⟩
  · have h1 := wld_at hi
    have h2 := wld_at hj
    omega
  · have h1 := wld_at hk
    show b ≤ q.1
    omega
theorem wld_set {an : An} {b : Nat} {KD : Kd} {M : Mm} {o : Nat} {k : Nat × Nat} {f : Nat → Int32} {e : va_E} (h : KD[o]? = some k) (he : cel an b k o f = e) : (wld an b KD M).set o (b + o, e) = wld an b KD (stA M o f) := by
  have hl : o < (wld an b KD M).length := by simp [wld]; exact (List.getElem?_eq_some_iff.mp h).1
  apply List.ext_getElem?
  intro i
  by_cases hi : i = o
  · subst hi
    rw [List.getElem?_set_self hl, wld_get h, stA_self, he]
  · rw [List.getElem?_set_ne (Ne.symm hi)]
    simp [wld, List.getElem?_mapIdx, stA_ne hi]
theorem wld_new {an : An} {b : Nat} {KD : Kd} {M : Mm} {k : Nat × Nat} {f : Nat → Int32} : wld an b (KD ++ [k]) (stA M KD.length f) = wld an b KD M ++ [(b + KD.length, cel an b k KD.length f)] := by
  apply List.ext_getElem?
  intro i
  rw [wld, List.getElem?_mapIdx]
  by_cases hi : i < KD.length
  · rw [List.getElem?_append_left hi, List.getElem?_append_left (by simp [wld]; exact hi), stA_ne (Nat.ne_of_lt hi), wld, List.getElem?_mapIdx]
  · by_cases hi2 : i = KD.length
    · subst hi2
      rw [List.getElem?_append_right (Nat.le_refl _), List.getElem?_append_right (by simp [wld]), stA_self]
      simp [wld]
    · rw [List.getElem?_eq_none (by simp; omega), List.getElem?_eq_none (by simp [wld]; omega)]
      rfl
def ssum (KD : Kd) : Nat := (KD.map ksz).sum
abbrev tyL (an : An) : List (ClassId × FieldType) := [(an.1, .int), (an.2.1, .boolean), (an.2.2.1, .object "BellSuitors$Change"), (an.2.2.2, .object "BellSuitors$Evening")]
abbrev Cxt : Type := Program × Launch × Env × Room × State × MethodId × Array Value × List Frame × Method × Code × va_G × An × Nat × Nat × Nat × Nat
def Ok (x : Cxt) (cc : ByteArray) (nL : Nat) (own : String) (ret : Option FieldType) : Prop := match x with
  | (p, _l, _e, _R, s, m, args, _below, meth, c, D, an, b, _n0, _s0, _zf) => p.tables.exec = Jvm.exec ∧ c.code = cc ∧ c.maxLocals = nL ∧ s.vm.findClass own = some m.cls ∧ (∀ w ∈ tbG, w.before args s = true) ∧ va_K D clsL (tyL an) s ∧ meth.locks = false ∧ meth.sig.returnType = ret ∧ b ≤ s.heap.size
def WX (x : Cxt) (nL pc : Nat) (lv : List (Nat × Value)) (st : List Value) (KD : Kd) (M : Mm) (Q : State → Prop) : Prop := match x with
  | (p, l, e, R, s, m, args, below, meth, c, D, an, b, n0, s0, zf) => ∀ (ls : Array Slot) (H : Heap) (locs : List Loc) (cs sl : Nat), lv_has ls nL lv → va_P D clsL (wld an b KD M) H → (zf = 1 → H.size = b + KD.length) → va_S (fun q => b ≤ q) s.heap H locs → cs + n0 = KD.length → sl + s0 = ssum KD → W p l e R s m args below meth c H locs cs sl Q (F0 m pc ls st)
def xb (x : Cxt) : Nat := match x with
  | (_p, _l, _e, _R, _s, _m, _args, _below, _meth, _c, _D, _an, b, _n0, _s0, _zf) => b
def xz (x : Cxt) : Nat := match x with
  | (_p, _l, _e, _R, _s, _m, _args, _below, _meth, _c, _D, _an, _b, _n0, _s0, zf) => zf
def xl (x : Cxt) : Launch := match x with
  | (_p, l, _e, _R, _s, _m, _args, _below, _meth, _c, _D, _an, _b, _n0, _s0, _zf) => l
def xD (x : Cxt) : va_G := match x with
  | (_p, _l, _e, _R, _s, _m, _args, _below, _meth, _c, D, _an, _b, _n0, _s0, _zf) => D
def xa (x : Cxt) : An := match x with
  | (_p, _l, _e, _R, _s, _m, _args, _below, _meth, _c, _D, an, _b, _n0, _s0, _zf) => an
def StpZ (x : Cxt) (nL pc : Nat) (lv : List (Nat × Value)) (st : List Value) (KD : Kd) (M : Mm) (pc' : Nat) (lv' : List (Nat × Value)) (st' : List Value) (KD' : Kd) (M' : Mm) : Prop := ∀ Q : State → Prop, WX x nL pc' lv' st' KD' M' Q → WX x nL pc lv st KD M Q
def BrcZ (x : Cxt) (nL pc : Nat) (lv : List (Nat × Value)) (st : List Value) (KD : Kd) (M : Mm) (c : Prop) (pcT pcF : Nat) (st' : List Value) : Prop := ∀ Q : State → Prop, (c → WX x nL pcT lv st' KD M Q) → (¬ c → WX x nL pcF lv st' KD M Q) → WX x nL pc lv st KD M Q
def sl (x y : Int32) : Int32 := x <<< (y &&& 31)
def sr (x y : Int32) : Int32 := x >>> (y &&& 31)
def us (x y : Int32) : Int32 := (x.toUInt32 >>> (y.toUInt32 &&& Int32.toUInt32 31)).toInt32
def rm (x y : Int32) : Int32 := x - x / y * y
def rmL (x y : Int64) : Int64 := x - x / y * y
abbrev ix (i : Int32) : Nat := i.toNatClampNeg
abbrev ib (i : Int32) (n : Nat) : Prop := 0 ≤ i.toInt ∧ i.toInt < (n : Int)
abbrev zb (x : Int32) : Prop := x = 0 ∨ x = 1

theorem w_iconst {x : Cxt} {cc : ByteArray} {nL : Nat} {own : String} {ret : Option FieldType} (X : Ok x cc nL own ret) {pc : Nat} {lv : List (Nat × Value)} {st : List Value} {KD : Kd} {M : Mm} {n : Int} (v : Int32) (hd : decode cc pc = .ok (.iconst n, 1)) (hv : Int32.ofInt n = v) : StpZ x nL pc lv (st) KD M (pc + 1) lv (.int v :: st) KD M := by
  obtain ⟨p, l, e, R, s, m, args, below, meth, c, D, an, b, n0, s0, zf⟩ := x
  obtain ⟨hx, hb, hml, hown, hts, hK, hlk, hr, hbs⟩ := X
  intro Q k ls H locs cs sl hl hP hz hS hc hs
  exact lv_iconst hx hb hd hv (k ls H locs cs sl hl hP hz hS hc hs)
theorem w_bipush {x : Cxt} {cc : ByteArray} {nL : Nat} {own : String} {ret : Option FieldType} (X : Ok x cc nL own ret) {pc : Nat} {lv : List (Nat × Value)} {st : List Value} {KD : Kd} {M : Mm} {n : Int} (v : Int32) (hd : decode cc pc = .ok (.bipush n, 2)) (hv : (Int8.ofInt n).toInt32 = v) : StpZ x nL pc lv (st) KD M (pc + 2) lv (.int v :: st) KD M := by
  obtain ⟨p, l, e, R, s, m, args, below, meth, c, D, an, b, n0, s0, zf⟩ := x
  obtain ⟨hx, hb, hml, hown, hts, hK, hlk, hr, hbs⟩ := X
  intro Q k ls H locs cs sl hl hP hz hS hc hs
  exact lv_bipush hx hb hd hv (k ls H locs cs sl hl hP hz hS hc hs)
theorem w_sipush {x : Cxt} {cc : ByteArray} {nL : Nat} {own : String} {ret : Option FieldType} (X : Ok x cc nL own ret) {pc : Nat} {lv : List (Nat × Value)} {st : List Value} {KD : Kd} {M : Mm} {n : Int} (v : Int32) (hd : decode cc pc = .ok (.sipush n, 3)) (hv : (Int16.ofInt n).toInt32 = v) : StpZ x nL pc lv (st) KD M (pc + 3) lv (.int v :: st) KD M := by
  obtain ⟨p, l, e, R, s, m, args, below, meth, c, D, an, b, n0, s0, zf⟩ := x
  obtain ⟨hx, hb, hml, hown, hts, hK, hlk, hr, hbs⟩ := X
  intro Q k ls H locs cs sl hl hP hz hS hc hs
  exact lv_sipush hx hb hd hv (k ls H locs cs sl hl hP hz hS hc hs)
theorem w_iload_n {x : Cxt} {cc : ByteArray} {nL : Nat} {own : String} {ret : Option FieldType} (X : Ok x cc nL own ret) {pc : Nat} {lv : List (Nat × Value)} {st : List Value} {KD : Kd} {M : Mm} {k : Fin 4} {i : Nat} {v : Int32} (hd : decode cc pc = .ok (.iload_n k, 1)) (hi : (k : Nat) = i) (j : Nat) (hj : lv[j]? = some (i, .int v)) : StpZ x nL pc lv st KD M (pc + 1) lv (.int v :: st) KD M := by
  obtain ⟨p, l, e, R, s, m, args, below, meth, c, D, an, b, n0, s0, zf⟩ := x
  obtain ⟨hx, hb, hml, hown, hts, hK, hlk, hr, hbs⟩ := X
  intro Q k2 ls H locs cs sl hl hP hz hS hc hs
  exact lv_iload_n hx hb hd hi (lv_at hl j hj) (k2 ls H locs cs sl hl hP hz hS hc hs)
theorem w_iload {x : Cxt} {cc : ByteArray} {nL : Nat} {own : String} {ret : Option FieldType} (X : Ok x cc nL own ret) {pc : Nat} {lv : List (Nat × Value)} {st : List Value} {KD : Kd} {M : Mm} {i : Nat} {v : Int32} (hd : decode cc pc = .ok (.iload i, 2)) (j : Nat) (hj : lv[j]? = some (i, .int v)) : StpZ x nL pc lv st KD M (pc + 2) lv (.int v :: st) KD M := by
  obtain ⟨p, l, e, R, s, m, args, below, meth, c, D, an, b, n0, s0, zf⟩ := x
  obtain ⟨hx, hb, hml, hown, hts, hK, hlk, hr, hbs⟩ := X
  intro Q k2 ls H locs cs sl hl hP hz hS hc hs
  exact lv_iload hx hb hd (lv_at hl j hj) (k2 ls H locs cs sl hl hP hz hS hc hs)
theorem w_aload_n {x : Cxt} {cc : ByteArray} {nL : Nat} {own : String} {ret : Option FieldType} (X : Ok x cc nL own ret) {pc : Nat} {lv : List (Nat × Value)} {st : List Value} {KD : Kd} {M : Mm} {k : Fin 4} {i : Nat} {v : Nat} (hd : decode cc pc = .ok (.aload_n k, 1)) (hi : (k : Nat) = i) (j : Nat) (hj : lv[j]? = some (i, .ref v)) : StpZ x nL pc lv st KD M (pc + 1) lv (.ref v :: st) KD M := by
  obtain ⟨p, l, e, R, s, m, args, below, meth, c, D, an, b, n0, s0, zf⟩ := x
  obtain ⟨hx, hb, hml, hown, hts, hK, hlk, hr, hbs⟩ := X
  intro Q k2 ls H locs cs sl hl hP hz hS hc hs
  exact lv_aload_n hx hb hd hi (lv_at hl j hj) (k2 ls H locs cs sl hl hP hz hS hc hs)
theorem w_aload {x : Cxt} {cc : ByteArray} {nL : Nat} {own : String} {ret : Option FieldType} (X : Ok x cc nL own ret) {pc : Nat} {lv : List (Nat × Value)} {st : List Value} {KD : Kd} {M : Mm} {i : Nat} {v : Nat} (hd : decode cc pc = .ok (.aload i, 2)) (j : Nat) (hj : lv[j]? = some (i, .ref v)) : StpZ x nL pc lv st KD M (pc + 2) lv (.ref v :: st) KD M := by
  obtain ⟨p, l, e, R, s, m, args, below, meth, c, D, an, b, n0, s0, zf⟩ := x
  obtain ⟨hx, hb, hml, hown, hts, hK, hlk, hr, hbs⟩ := X
  intro Q k2 ls H locs cs sl hl hP hz hS hc hs
  exact lv_aload hx hb hd (lv_at hl j hj) (k2 ls H locs cs sl hl hP hz hS hc hs)
theorem w_lload_n {x : Cxt} {cc : ByteArray} {nL : Nat} {own : String} {ret : Option FieldType} (X : Ok x cc nL own ret) {pc : Nat} {lv : List (Nat × Value)} {st : List Value} {KD : Kd} {M : Mm} {k : Fin 4} {i : Nat} {v : Int64} (hd : decode cc pc = .ok (.lload_n k, 1)) (hi : (k : Nat) = i) (j : Nat) (hj : lv[j]? = some (i, .long v)) : StpZ x nL pc lv st KD M (pc + 1) lv (.long v :: st) KD M := by
  obtain ⟨p, l, e, R, s, m, args, below, meth, c, D, an, b, n0, s0, zf⟩ := x
  obtain ⟨hx, hb, hml, hown, hts, hK, hlk, hr, hbs⟩ := X
  intro Q k2 ls H locs cs sl hl hP hz hS hc hs
  exact lv_lload_n hx hb hd hi (lv_at hl j hj) (k2 ls H locs cs sl hl hP hz hS hc hs)
theorem w_lload {x : Cxt} {cc : ByteArray} {nL : Nat} {own : String} {ret : Option FieldType} (X : Ok x cc nL own ret) {pc : Nat} {lv : List (Nat × Value)} {st : List Value} {KD : Kd} {M : Mm} {i : Nat} {v : Int64} (hd : decode cc pc = .ok (.lload i, 2)) (j : Nat) (hj : lv[j]? = some (i, .long v)) : StpZ x nL pc lv st KD M (pc + 2) lv (.long v :: st) KD M := by
  obtain ⟨p, l, e, R, s, m, args, below, meth, c, D, an, b, n0, s0, zf⟩ := x
  obtain ⟨hx, hb, hml, hown, hts, hK, hlk, hr, hbs⟩ := X
  intro Q k2 ls H locs cs sl hl hP hz hS hc hs
  exact lv_lload hx hb hd (lv_at hl j hj) (k2 ls H locs cs sl hl hP hz hS hc hs)
theorem w_istore_n {x : Cxt} {cc : ByteArray} {nL : Nat} {own : String} {ret : Option FieldType} (X : Ok x cc nL own ret) {pc : Nat} {lv : List (Nat × Value)} {st : List Value} {KD : Kd} {M : Mm} {k : Fin 4} {i : Nat} {v : Int32} {lv' : List (Nat × Value)} (hd : decode cc pc = .ok (.istore_n k, 1)) (hi : (k : Nat) = i) (hn : i < nL) (hl2 : (i, Value.int v) :: lv.filter (fun q => !(q.1 == i) && !(q.1 + 1 == i && q.2.category == 2)) = lv') : StpZ x nL pc lv (Value.int v :: st) KD M (pc + 1) lv' st KD M := by
  obtain ⟨p, l, e, R, s, m, args, below, meth, c, D, an, b, n0, s0, zf⟩ := x
  obtain ⟨hx, hb, hml, hown, hts, hK, hlk, hr, hbs⟩ := X
  intro Q k2 ls H locs cs sl hl hP hz hS hc hs
  exact lv_istore_n hx hb hd hi hl hn hl2 (fun ls' hl' => k2 ls' H locs cs sl hl' hP hz hS hc hs)
theorem w_istore {x : Cxt} {cc : ByteArray} {nL : Nat} {own : String} {ret : Option FieldType} (X : Ok x cc nL own ret) {pc : Nat} {lv : List (Nat × Value)} {st : List Value} {KD : Kd} {M : Mm} {i : Nat} {v : Int32} {lv' : List (Nat × Value)} (hd : decode cc pc = .ok (.istore i, 2)) (hn : i < nL) (hl2 : (i, Value.int v) :: lv.filter (fun q => !(q.1 == i) && !(q.1 + 1 == i && q.2.category == 2)) = lv') : StpZ x nL pc lv (Value.int v :: st) KD M (pc + 2) lv' st KD M := by
  obtain ⟨p, l, e, R, s, m, args, below, meth, c, D, an, b, n0, s0, zf⟩ := x
  obtain ⟨hx, hb, hml, hown, hts, hK, hlk, hr, hbs⟩ := X
  intro Q k2 ls H locs cs sl hl hP hz hS hc hs
  exact lv_istore hx hb hd hl hn hl2 (fun ls' hl' => k2 ls' H locs cs sl hl' hP hz hS hc hs)
theorem w_astore_n {x : Cxt} {cc : ByteArray} {nL : Nat} {own : String} {ret : Option FieldType} (X : Ok x cc nL own ret) {pc : Nat} {lv : List (Nat × Value)} {st : List Value} {KD : Kd} {M : Mm} {k : Fin 4} {i : Nat} {v : Nat} {lv' : List (Nat × Value)} (hd : decode cc pc = .ok (.astore_n k, 1)) (hi : (k : Nat) = i) (hn : i < nL) (hl2 : (i, Value.ref v) :: lv.filter (fun q => !(q.1 == i) && !(q.1 + 1 == i && q.2.category == 2)) = lv') : StpZ x nL pc lv (Value.ref v :: st) KD M (pc + 1) lv' st KD M := by
  obtain ⟨p, l, e, R, s, m, args, below, meth, c, D, an, b, n0, s0, zf⟩ := x
  obtain ⟨hx, hb, hml, hown, hts, hK, hlk, hr, hbs⟩ := X
  intro Q k2 ls H locs cs sl hl hP hz hS hc hs
  exact lv_astore_n hx hb hd hi hl hn hl2 (fun ls' hl' => k2 ls' H locs cs sl hl' hP hz hS hc hs)
theorem w_astore {x : Cxt} {cc : ByteArray} {nL : Nat} {own : String} {ret : Option FieldType} (X : Ok x cc nL own ret) {pc : Nat} {lv : List (Nat × Value)} {st : List Value} {KD : Kd} {M : Mm} {i : Nat} {v : Nat} {lv' : List (Nat × Value)} (hd : decode cc pc = .ok (.astore i, 2)) (hn : i < nL) (hl2 : (i, Value.ref v) :: lv.filter (fun q => !(q.1 == i) && !(q.1 + 1 == i && q.2.category == 2)) = lv') : StpZ x nL pc lv (Value.ref v :: st) KD M (pc + 2) lv' st KD M := by
  obtain ⟨p, l, e, R, s, m, args, below, meth, c, D, an, b, n0, s0, zf⟩ := x
  obtain ⟨hx, hb, hml, hown, hts, hK, hlk, hr, hbs⟩ := X
  intro Q k2 ls H locs cs sl hl hP hz hS hc hs
  exact lv_astore hx hb hd hl hn hl2 (fun ls' hl' => k2 ls' H locs cs sl hl' hP hz hS hc hs)
theorem w_lstore_n {x : Cxt} {cc : ByteArray} {nL : Nat} {own : String} {ret : Option FieldType} (X : Ok x cc nL own ret) {pc : Nat} {lv : List (Nat × Value)} {st : List Value} {KD : Kd} {M : Mm} {k : Fin 4} {i : Nat} {v : Int64} {lv' : List (Nat × Value)} (hd : decode cc pc = .ok (.lstore_n k, 1)) (hi : (k : Nat) = i) (hn : i + 1 < nL) (hl2 : (i, Value.long v) :: lv.filter (fun q => !(q.1 == i) && (!(q.1 == i + 1) && !(q.1 + 1 == i && q.2.category == 2))) = lv') : StpZ x nL pc lv (Value.long v :: st) KD M (pc + 1) lv' st KD M := by
  obtain ⟨p, l, e, R, s, m, args, below, meth, c, D, an, b, n0, s0, zf⟩ := x
  obtain ⟨hx, hb, hml, hown, hts, hK, hlk, hr, hbs⟩ := X
  intro Q k2 ls H locs cs sl hl hP hz hS hc hs
  exact lv_lstore_n hx hb hd hi hl hn hl2 (fun ls' hl' => k2 ls' H locs cs sl hl' hP hz hS hc hs)
theorem w_lstore {x : Cxt} {cc : ByteArray} {nL : Nat} {own : String} {ret : Option FieldType} (X : Ok x cc nL own ret) {pc : Nat} {lv : List (Nat × Value)} {st : List Value} {KD : Kd} {M : Mm} {i : Nat} {v : Int64} {lv' : List (Nat × Value)} (hd : decode cc pc = .ok (.lstore i, 2)) (hn : i + 1 < nL) (hl2 : (i, Value.long v) :: lv.filter (fun q => !(q.1 == i) && (!(q.1 == i + 1) && !(q.1 + 1 == i && q.2.category == 2))) = lv') : StpZ x nL pc lv (Value.long v :: st) KD M (pc + 2) lv' st KD M := by
  obtain ⟨p, l, e, R, s, m, args, below, meth, c, D, an, b, n0, s0, zf⟩ := x
  obtain ⟨hx, hb, hml, hown, hts, hK, hlk, hr, hbs⟩ := X
  intro Q k2 ls H locs cs sl hl hP hz hS hc hs
  exact lv_lstore hx hb hd hl hn hl2 (fun ls' hl' => k2 ls' H locs cs sl hl' hP hz hS hc hs)
theorem w_iinc {x : Cxt} {cc : ByteArray} {nL : Nat} {own : String} {ret : Option FieldType} (X : Ok x cc nL own ret) {pc : Nat} {lv : List (Nat × Value)} {st : List Value} {KD : Kd} {M : Mm} {i : Nat} {n : Int} {a v : Int32} {lv' : List (Nat × Value)} (hd : decode cc pc = .ok (.iinc i n, 3)) (j : Nat) (hj : lv[j]? = some (i, .int a)) (hv : a + Int32.ofInt n = v) (hn : i < nL) (hl2 : (i, Value.int v) :: lv.filter (fun q => !(q.1 == i) && !(q.1 + 1 == i && q.2.category == 2)) = lv') : StpZ x nL pc lv st KD M (pc + 3) lv' st KD M := by
  obtain ⟨p, l, e, R, s, m, args, below, meth, c, D, an, b, n0, s0, zf⟩ := x
  obtain ⟨hx, hb, hml, hown, hts, hK, hlk, hr, hbs⟩ := X
  intro Q k2 ls H locs cs sl hl hP hz hS hc hs
  exact lv_iinc hx hb hd hl hj hv hn hl2 (fun ls' hl' => k2 ls' H locs cs sl hl' hP hz hS hc hs)
theorem w_iadd {x : Cxt} {cc : ByteArray} {nL : Nat} {own : String} {ret : Option FieldType} (X : Ok x cc nL own ret) {pc : Nat} {lv : List (Nat × Value)} {st : List Value} {KD : Kd} {M : Mm} {a d : Int32} (hd : decode cc pc = .ok (.iadd, 1)) : StpZ x nL pc lv (.int d :: .int a :: st) KD M (pc + 1) lv (.int (a + d) :: st) KD M := by
  obtain ⟨p, l, e, R, s, m, args, below, meth, c, D, an, b, n0, s0, zf⟩ := x
  obtain ⟨hx, hb, hml, hown, hts, hK, hlk, hr, hbs⟩ := X
  intro Q k ls H locs cs sl hl hP hz hS hc hs
  exact lv_iadd hx hb hd (k ls H locs cs sl hl hP hz hS hc hs)
theorem w_isub {x : Cxt} {cc : ByteArray} {nL : Nat} {own : String} {ret : Option FieldType} (X : Ok x cc nL own ret) {pc : Nat} {lv : List (Nat × Value)} {st : List Value} {KD : Kd} {M : Mm} {a d : Int32} (hd : decode cc pc = .ok (.isub, 1)) : StpZ x nL pc lv (.int d :: .int a :: st) KD M (pc + 1) lv (.int (a - d) :: st) KD M := by
  obtain ⟨p, l, e, R, s, m, args, below, meth, c, D, an, b, n0, s0, zf⟩ := x
  obtain ⟨hx, hb, hml, hown, hts, hK, hlk, hr, hbs⟩ := X
  intro Q k ls H locs cs sl hl hP hz hS hc hs
  exact lv_isub hx hb hd (k ls H locs cs sl hl hP hz hS hc hs)
theorem w_imul {x : Cxt} {cc : ByteArray} {nL : Nat} {own : String} {ret : Option FieldType} (X : Ok x cc nL own ret) {pc : Nat} {lv : List (Nat × Value)} {st : List Value} {KD : Kd} {M : Mm} {a d : Int32} (hd : decode cc pc = .ok (.imul, 1)) : StpZ x nL pc lv (.int d :: .int a :: st) KD M (pc + 1) lv (.int (a * d) :: st) KD M := by
  obtain ⟨p, l, e, R, s, m, args, below, meth, c, D, an, b, n0, s0, zf⟩ := x
  obtain ⟨hx, hb, hml, hown, hts, hK, hlk, hr, hbs⟩ := X
  intro Q k ls H locs cs sl hl hP hz hS hc hs
  exact lv_imul hx hb hd (k ls H locs cs sl hl hP hz hS hc hs)
theorem w_iand {x : Cxt} {cc : ByteArray} {nL : Nat} {own : String} {ret : Option FieldType} (X : Ok x cc nL own ret) {pc : Nat} {lv : List (Nat × Value)} {st : List Value} {KD : Kd} {M : Mm} {a d : Int32} (hd : decode cc pc = .ok (.iand, 1)) : StpZ x nL pc lv (.int d :: .int a :: st) KD M (pc + 1) lv (.int (a &&& d) :: st) KD M := by
  obtain ⟨p, l, e, R, s, m, args, below, meth, c, D, an, b, n0, s0, zf⟩ := x
  obtain ⟨hx, hb, hml, hown, hts, hK, hlk, hr, hbs⟩ := X
  intro Q k ls H locs cs sl hl hP hz hS hc hs
  exact lv_iand hx hb hd (k ls H locs cs sl hl hP hz hS hc hs)
theorem w_ior {x : Cxt} {cc : ByteArray} {nL : Nat} {own : String} {ret : Option FieldType} (X : Ok x cc nL own ret) {pc : Nat} {lv : List (Nat × Value)} {st : List Value} {KD : Kd} {M : Mm} {a d : Int32} (hd : decode cc pc = .ok (.ior, 1)) : StpZ x nL pc lv (.int d :: .int a :: st) KD M (pc + 1) lv (.int (a ||| d) :: st) KD M := by
  obtain ⟨p, l, e, R, s, m, args, below, meth, c, D, an, b, n0, s0, zf⟩ := x
  obtain ⟨hx, hb, hml, hown, hts, hK, hlk, hr, hbs⟩ := X
  intro Q k ls H locs cs sl hl hP hz hS hc hs
  exact lv_ior hx hb hd (k ls H locs cs sl hl hP hz hS hc hs)
theorem w_ixor {x : Cxt} {cc : ByteArray} {nL : Nat} {own : String} {ret : Option FieldType} (X : Ok x cc nL own ret) {pc : Nat} {lv : List (Nat × Value)} {st : List Value} {KD : Kd} {M : Mm} {a d : Int32} (hd : decode cc pc = .ok (.ixor, 1)) : StpZ x nL pc lv (.int d :: .int a :: st) KD M (pc + 1) lv (.int (a ^^^ d) :: st) KD M := by
  obtain ⟨p, l, e, R, s, m, args, below, meth, c, D, an, b, n0, s0, zf⟩ := x
  obtain ⟨hx, hb, hml, hown, hts, hK, hlk, hr, hbs⟩ := X
  intro Q k ls H locs cs sl hl hP hz hS hc hs
  exact lv_ixor hx hb hd (k ls H locs cs sl hl hP hz hS hc hs)
theorem w_ishl {x : Cxt} {cc : ByteArray} {nL : Nat} {own : String} {ret : Option FieldType} (X : Ok x cc nL own ret) {pc : Nat} {lv : List (Nat × Value)} {st : List Value} {KD : Kd} {M : Mm} {a d : Int32} (hd : decode cc pc = .ok (.ishl, 1)) : StpZ x nL pc lv (.int d :: .int a :: st) KD M (pc + 1) lv (.int (sl a d) :: st) KD M := by
  obtain ⟨p, l, e, R, s, m, args, below, meth, c, D, an, b, n0, s0, zf⟩ := x
  obtain ⟨hx, hb, hml, hown, hts, hK, hlk, hr, hbs⟩ := X
  intro Q k ls H locs cs sl hl hP hz hS hc hs
  exact lv_ishl hx hb hd (k ls H locs cs sl hl hP hz hS hc hs)
theorem w_ishr {x : Cxt} {cc : ByteArray} {nL : Nat} {own : String} {ret : Option FieldType} (X : Ok x cc nL own ret) {pc : Nat} {lv : List (Nat × Value)} {st : List Value} {KD : Kd} {M : Mm} {a d : Int32} (hd : decode cc pc = .ok (.ishr, 1)) : StpZ x nL pc lv (.int d :: .int a :: st) KD M (pc + 1) lv (.int (sr a d) :: st) KD M := by
  obtain ⟨p, l, e, R, s, m, args, below, meth, c, D, an, b, n0, s0, zf⟩ := x
  obtain ⟨hx, hb, hml, hown, hts, hK, hlk, hr, hbs⟩ := X
  intro Q k ls H locs cs sl hl hP hz hS hc hs
  exact lv_ishr hx hb hd (k ls H locs cs sl hl hP hz hS hc hs)
theorem w_iushr {x : Cxt} {cc : ByteArray} {nL : Nat} {own : String} {ret : Option FieldType} (X : Ok x cc nL own ret) {pc : Nat} {lv : List (Nat × Value)} {st : List Value} {KD : Kd} {M : Mm} {a d : Int32} (hd : decode cc pc = .ok (.iushr, 1)) : StpZ x nL pc lv (.int d :: .int a :: st) KD M (pc + 1) lv (.int (us a d) :: st) KD M := by
  obtain ⟨p, l, e, R, s, m, args, below, meth, c, D, an, b, n0, s0, zf⟩ := x
  obtain ⟨hx, hb, hml, hown, hts, hK, hlk, hr, hbs⟩ := X
  intro Q k ls H locs cs sl hl hP hz hS hc hs
  exact lv_iushr hx hb hd rfl (k ls H locs cs sl hl hP hz hS hc hs)
theorem w_ineg {x : Cxt} {cc : ByteArray} {nL : Nat} {own : String} {ret : Option FieldType} (X : Ok x cc nL own ret) {pc : Nat} {lv : List (Nat × Value)} {st : List Value} {KD : Kd} {M : Mm} {a : Int32} (hd : decode cc pc = .ok (.ineg, 1)) : StpZ x nL pc lv (.int a :: st) KD M (pc + 1) lv (.int (-a) :: st) KD M := by
  obtain ⟨p, l, e, R, s, m, args, below, meth, c, D, an, b, n0, s0, zf⟩ := x
  obtain ⟨hx, hb, hml, hown, hts, hK, hlk, hr, hbs⟩ := X
  intro Q k ls H locs cs sl hl hP hz hS hc hs
  exact lv_ineg hx hb hd (k ls H locs cs sl hl hP hz hS hc hs)
theorem w_idiv {x : Cxt} {cc : ByteArray} {nL : Nat} {own : String} {ret : Option FieldType} (X : Ok x cc nL own ret) {pc : Nat} {lv : List (Nat × Value)} {st : List Value} {KD : Kd} {M : Mm} {a d : Int32} (hd : decode cc pc = .ok (.idiv, 1)) (hne : ¬ d = 0) : StpZ x nL pc lv (.int d :: .int a :: st) KD M (pc + 1) lv (.int (a / d) :: st) KD M := by
  obtain ⟨p, l, e, R, s, m, args, below, meth, c, D, an, b, n0, s0, zf⟩ := x
  obtain ⟨hx, hb, hml, hown, hts, hK, hlk, hr, hbs⟩ := X
  intro Q k ls H locs cs sl hl hP hz hS hc hs
  exact lv_idiv hx hb hd hne (k ls H locs cs sl hl hP hz hS hc hs)
theorem w_irem {x : Cxt} {cc : ByteArray} {nL : Nat} {own : String} {ret : Option FieldType} (X : Ok x cc nL own ret) {pc : Nat} {lv : List (Nat × Value)} {st : List Value} {KD : Kd} {M : Mm} {a d : Int32} (hd : decode cc pc = .ok (.irem, 1)) (hne : ¬ d = 0) : StpZ x nL pc lv (.int d :: .int a :: st) KD M (pc + 1) lv (.int (rm a d) :: st) KD M := by
  obtain ⟨p, l, e, R, s, m, args, below, meth, c, D, an, b, n0, s0, zf⟩ := x
  obtain ⟨hx, hb, hml, hown, hts, hK, hlk, hr, hbs⟩ := X
  intro Q k ls H locs cs sl hl hP hz hS hc hs
  exact lv_irem hx hb hd hne (k ls H locs cs sl hl hP hz hS hc hs)
theorem w_ladd {x : Cxt} {cc : ByteArray} {nL : Nat} {own : String} {ret : Option FieldType} (X : Ok x cc nL own ret) {pc : Nat} {lv : List (Nat × Value)} {st : List Value} {KD : Kd} {M : Mm} {a d : Int64} (hd : decode cc pc = .ok (.ladd, 1)) : StpZ x nL pc lv (.long d :: .long a :: st) KD M (pc + 1) lv (.long (a + d) :: st) KD M := by
  obtain ⟨p, l, e, R, s, m, args, below, meth, c, D, an, b, n0, s0, zf⟩ := x
  obtain ⟨hx, hb, hml, hown, hts, hK, hlk, hr, hbs⟩ := X
  intro Q k ls H locs cs sl hl hP hz hS hc hs
  exact lv_ladd hx hb hd (k ls H locs cs sl hl hP hz hS hc hs)
theorem w_lmul {x : Cxt} {cc : ByteArray} {nL : Nat} {own : String} {ret : Option FieldType} (X : Ok x cc nL own ret) {pc : Nat} {lv : List (Nat × Value)} {st : List Value} {KD : Kd} {M : Mm} {a d : Int64} (hd : decode cc pc = .ok (.lmul, 1)) : StpZ x nL pc lv (.long d :: .long a :: st) KD M (pc + 1) lv (.long (a * d) :: st) KD M := by
  obtain ⟨p, l, e, R, s, m, args, below, meth, c, D, an, b, n0, s0, zf⟩ := x
  obtain ⟨hx, hb, hml, hown, hts, hK, hlk, hr, hbs⟩ := X
  intro Q k ls H locs cs sl hl hP hz hS hc hs
  exact lv_lmul hx hb hd (k ls H locs cs sl hl hP hz hS hc hs)
theorem w_land {x : Cxt} {cc : ByteArray} {nL : Nat} {own : String} {ret : Option FieldType} (X : Ok x cc nL own ret) {pc : Nat} {lv : List (Nat × Value)} {st : List Value} {KD : Kd} {M : Mm} {a d : Int64} (hd : decode cc pc = .ok (.land, 1)) : StpZ x nL pc lv (.long d :: .long a :: st) KD M (pc + 1) lv (.long (a &&& d) :: st) KD M := by
  obtain ⟨p, l, e, R, s, m, args, below, meth, c, D, an, b, n0, s0, zf⟩ := x
  obtain ⟨hx, hb, hml, hown, hts, hK, hlk, hr, hbs⟩ := X
  intro Q k ls H locs cs sl hl hP hz hS hc hs
  exact lv_land hx hb hd (k ls H locs cs sl hl hP hz hS hc hs)
theorem w_ldiv {x : Cxt} {cc : ByteArray} {nL : Nat} {own : String} {ret : Option FieldType} (X : Ok x cc nL own ret) {pc : Nat} {lv : List (Nat × Value)} {st : List Value} {KD : Kd} {M : Mm} {a d : Int64} (hd : decode cc pc = .ok (.ldiv, 1)) (hne : ¬ d = 0) : StpZ x nL pc lv (.long d :: .long a :: st) KD M (pc + 1) lv (.long (a / d) :: st) KD M := by
  obtain ⟨p, l, e, R, s, m, args, below, meth, c, D, an, b, n0, s0, zf⟩ := x
  obtain ⟨hx, hb, hml, hown, hts, hK, hlk, hr, hbs⟩ := X
  intro Q k ls H locs cs sl hl hP hz hS hc hs
  exact lv_ldiv hx hb hd hne (k ls H locs cs sl hl hP hz hS hc hs)
theorem w_lrem {x : Cxt} {cc : ByteArray} {nL : Nat} {own : String} {ret : Option FieldType} (X : Ok x cc nL own ret) {pc : Nat} {lv : List (Nat × Value)} {st : List Value} {KD : Kd} {M : Mm} {a d : Int64} (hd : decode cc pc = .ok (.lrem, 1)) (hne : ¬ d = 0) : StpZ x nL pc lv (.long d :: .long a :: st) KD M (pc + 1) lv (.long (rmL a d) :: st) KD M := by
  obtain ⟨p, l, e, R, s, m, args, below, meth, c, D, an, b, n0, s0, zf⟩ := x
  obtain ⟨hx, hb, hml, hown, hts, hK, hlk, hr, hbs⟩ := X
  intro Q k ls H locs cs sl hl hP hz hS hc hs
  exact lv_lrem hx hb hd hne (k ls H locs cs sl hl hP hz hS hc hs)
theorem w_i2l {x : Cxt} {cc : ByteArray} {nL : Nat} {own : String} {ret : Option FieldType} (X : Ok x cc nL own ret) {pc : Nat} {lv : List (Nat × Value)} {st : List Value} {KD : Kd} {M : Mm} {a : Int32} (hd : decode cc pc = .ok (.i2l, 1)) : StpZ x nL pc lv (.int a :: st) KD M (pc + 1) lv (.long a.toInt64 :: st) KD M := by
  obtain ⟨p, l, e, R, s, m, args, below, meth, c, D, an, b, n0, s0, zf⟩ := x
  obtain ⟨hx, hb, hml, hown, hts, hK, hlk, hr, hbs⟩ := X
  intro Q k ls H locs cs sl hl hP hz hS hc hs
  exact lv_i2l hx hb hd rfl (k ls H locs cs sl hl hP hz hS hc hs)
theorem w_l2i {x : Cxt} {cc : ByteArray} {nL : Nat} {own : String} {ret : Option FieldType} (X : Ok x cc nL own ret) {pc : Nat} {lv : List (Nat × Value)} {st : List Value} {KD : Kd} {M : Mm} {a : Int64} (hd : decode cc pc = .ok (.l2i, 1)) : StpZ x nL pc lv (.long a :: st) KD M (pc + 1) lv (.int a.toInt32 :: st) KD M := by
  obtain ⟨p, l, e, R, s, m, args, below, meth, c, D, an, b, n0, s0, zf⟩ := x
  obtain ⟨hx, hb, hml, hown, hts, hK, hlk, hr, hbs⟩ := X
  intro Q k ls H locs cs sl hl hP hz hS hc hs
  exact lv_l2i hx hb hd rfl (k ls H locs cs sl hl hP hz hS hc hs)
theorem w_dup {x : Cxt} {cc : ByteArray} {nL : Nat} {own : String} {ret : Option FieldType} (X : Ok x cc nL own ret) {pc : Nat} {lv : List (Nat × Value)} {st : List Value} {KD : Kd} {M : Mm} {va : Value} (hd : decode cc pc = .ok (.dup, 1)) (hva : va.category = 1) : StpZ x nL pc lv (va :: st) KD M (pc + 1) lv (va :: va :: st) KD M := by
  obtain ⟨p, l, e, R, s, m, args, below, meth, c, D, an, b, n0, s0, zf⟩ := x
  obtain ⟨hx, hb, hml, hown, hts, hK, hlk, hr, hbs⟩ := X
  intro Q k ls H locs cs sl hl hP hz hS hc hs
  exact lv_dup hx hb hd hva (k ls H locs cs sl hl hP hz hS hc hs)
theorem w_pop {x : Cxt} {cc : ByteArray} {nL : Nat} {own : String} {ret : Option FieldType} (X : Ok x cc nL own ret) {pc : Nat} {lv : List (Nat × Value)} {st : List Value} {KD : Kd} {M : Mm} {va : Value} (hd : decode cc pc = .ok (.pop, 1)) (hva : va.category = 1) : StpZ x nL pc lv (va :: st) KD M (pc + 1) lv (st) KD M := by
  obtain ⟨p, l, e, R, s, m, args, below, meth, c, D, an, b, n0, s0, zf⟩ := x
  obtain ⟨hx, hb, hml, hown, hts, hK, hlk, hr, hbs⟩ := X
  intro Q k ls H locs cs sl hl hP hz hS hc hs
  exact lv_pop hx hb hd hva (k ls H locs cs sl hl hP hz hS hc hs)
theorem w_dup_x1 {x : Cxt} {cc : ByteArray} {nL : Nat} {own : String} {ret : Option FieldType} (X : Ok x cc nL own ret) {pc : Nat} {lv : List (Nat × Value)} {st : List Value} {KD : Kd} {M : Mm} {va vb : Value} (hd : decode cc pc = .ok (.dup_x1, 1)) (hva : va.category = 1) (hvb : vb.category = 1) : StpZ x nL pc lv (va :: vb :: st) KD M (pc + 1) lv (va :: vb :: va :: st) KD M := by
  obtain ⟨p, l, e, R, s, m, args, below, meth, c, D, an, b, n0, s0, zf⟩ := x
  obtain ⟨hx, hb, hml, hown, hts, hK, hlk, hr, hbs⟩ := X
  intro Q k ls H locs cs sl hl hP hz hS hc hs
  exact lv_dup_x1 hx hb hd hva hvb (k ls H locs cs sl hl hP hz hS hc hs)
theorem w_dup2 {x : Cxt} {cc : ByteArray} {nL : Nat} {own : String} {ret : Option FieldType} (X : Ok x cc nL own ret) {pc : Nat} {lv : List (Nat × Value)} {st : List Value} {KD : Kd} {M : Mm} {va vb : Value} (hd : decode cc pc = .ok (.dup2, 1)) (hva : va.category = 1) (hvb : vb.category = 1) : StpZ x nL pc lv (va :: vb :: st) KD M (pc + 1) lv (va :: vb :: va :: vb :: st) KD M := by
  obtain ⟨p, l, e, R, s, m, args, below, meth, c, D, an, b, n0, s0, zf⟩ := x
  obtain ⟨hx, hb, hml, hown, hts, hK, hlk, hr, hbs⟩ := X
  intro Q k ls H locs cs sl hl hP hz hS hc hs
  exact lv_dup2_11 hx hb hd hva hvb (k ls H locs cs sl hl hP hz hS hc hs)
theorem w_dup_x2 {x : Cxt} {cc : ByteArray} {nL : Nat} {own : String} {ret : Option FieldType} (X : Ok x cc nL own ret) {pc : Nat} {lv : List (Nat × Value)} {st : List Value} {KD : Kd} {M : Mm} {va vb vd : Value} (hd : decode cc pc = .ok (.dup_x2, 1)) (hva : va.category = 1) (hvb : vb.category = 1) (hvd : vd.category = 1) : StpZ x nL pc lv (va :: vb :: vd :: st) KD M (pc + 1) lv (va :: vb :: vd :: va :: st) KD M := by
  obtain ⟨p, l, e, R, s, m, args, below, meth, c, D, an, b, n0, s0, zf⟩ := x
  obtain ⟨hx, hb, hml, hown, hts, hK, hlk, hr, hbs⟩ := X
  intro Q k ls H locs cs sl hl hP hz hS hc hs
  exact lv_dup_x2 hx hb hd hva hvb hvd (k ls H locs cs sl hl hP hz hS hc hs)
theorem w_goto {x : Cxt} {cc : ByteArray} {nL : Nat} {own : String} {ret : Option FieldType} (X : Ok x cc nL own ret) {pc : Nat} {lv : List (Nat × Value)} {st : List Value} {KD : Kd} {M : Mm} {off : Int} {tgt : Nat} (hd : decode cc pc = .ok (.goto off, 3)) (ht : (pc : Int) + off = (tgt : Int)) : StpZ x nL pc lv st KD M tgt lv st KD M := by
  obtain ⟨p, l, e, R, s, m, args, below, meth, c, D, an, b, n0, s0, zf⟩ := x
  obtain ⟨hx, hb, hml, hown, hts, hK, hlk, hr, hbs⟩ := X
  intro Q k ls H locs cs sl hl hP hz hS hc hs
  exact lv_goto hx hb hd ht (k ls H locs cs sl hl hP hz hS hc hs)
theorem w_ldc {x : Cxt} {cc : ByteArray} {nL : Nat} {own : String} {ret : Option FieldType} (X : Ok x cc nL own ret) {pc : Nat} {lv : List (Nat × Value)} {st : List Value} {KD : Kd} {M : Mm} {index : Nat} {v : Int32} (hd : decode cc pc = .ok (.ldc index, 2)) (hw : Cond.constant own index v ∈ tbG) : StpZ x nL pc lv st KD M (pc + 2) lv (.int v :: st) KD M := by
  obtain ⟨p, l, e, R, s, m, args, below, meth, c, D, an, b, n0, s0, zf⟩ := x
  obtain ⟨hx, hb, hml, hown, hts, hK, hlk, hr, hbs⟩ := X
  intro Q k ls H locs cs sl hl hP hz hS hc hs
  exact lv_ldc hx hb hown (hts _ hw) hd (k ls H locs cs sl hl hP hz hS hc hs)
theorem w_ldcw {x : Cxt} {cc : ByteArray} {nL : Nat} {own : String} {ret : Option FieldType} (X : Ok x cc nL own ret) {pc : Nat} {lv : List (Nat × Value)} {st : List Value} {KD : Kd} {M : Mm} {index : Nat} {v : Int32} (hd : decode cc pc = .ok (.ldc_w index, 3)) (hw : Cond.constant own index v ∈ tbG) : StpZ x nL pc lv st KD M (pc + 3) lv (.int v :: st) KD M := by
  obtain ⟨p, l, e, R, s, m, args, below, meth, c, D, an, b, n0, s0, zf⟩ := x
  obtain ⟨hx, hb, hml, hown, hts, hK, hlk, hr, hbs⟩ := X
  intro Q k ls H locs cs sl hl hP hz hS hc hs
  exact lv_ldcw hx hb hown (hts _ hw) hd (k ls H locs cs sl hl hP hz hS hc hs)
theorem w_ldc2 {x : Cxt} {cc : ByteArray} {nL : Nat} {own : String} {ret : Option FieldType} (X : Ok x cc nL own ret) {pc : Nat} {lv : List (Nat × Value)} {st : List Value} {KD : Kd} {M : Mm} {index : Nat} {v : Int64} (hd : decode cc pc = .ok (.ldc2_w index, 3)) (hw : Cond.constantLong own index v ∈ tbG) : StpZ x nL pc lv st KD M (pc + 3) lv (.long v :: st) KD M := by
  obtain ⟨p, l, e, R, s, m, args, below, meth, c, D, an, b, n0, s0, zf⟩ := x
  obtain ⟨hx, hb, hml, hown, hts, hK, hlk, hr, hbs⟩ := X
  intro Q k ls H locs cs sl hl hP hz hS hc hs
  exact lv_ldc2 hx hb hown (hts _ hw) hd (k ls H locs cs sl hl hP hz hS hc hs)
theorem w_if_eq {x : Cxt} {cc : ByteArray} {nL : Nat} {own : String} {ret : Option FieldType} (X : Ok x cc nL own ret) {pc : Nat} {lv : List (Nat × Value)} {st : List Value} {KD : Kd} {M : Mm} {a : Int32} {off : Int} {tgt : Nat} (hd : decode cc pc = .ok (.ifCond .eq off, 3)) (ht : (pc : Int) + off = (tgt : Int)) : BrcZ x nL pc lv (.int a :: st) KD M (a = 0) tgt (pc + 3) st := by
  obtain ⟨p, l, e, R, s, m, args, below, meth, c, D, an, b, n0, s0, zf⟩ := x
  obtain ⟨hx, hb, hml, hown, hts, hK, hlk, hr, hbs⟩ := X
  intro Q k1 k2 ls H locs cs sl hl hP hz hS hc hs
  exact lv_if_eq hx hb hd ht (fun h => k1 h ls H locs cs sl hl hP hz hS hc hs) (fun h => k2 h ls H locs cs sl hl hP hz hS hc hs)
theorem w_if_lt {x : Cxt} {cc : ByteArray} {nL : Nat} {own : String} {ret : Option FieldType} (X : Ok x cc nL own ret) {pc : Nat} {lv : List (Nat × Value)} {st : List Value} {KD : Kd} {M : Mm} {a : Int32} {off : Int} {tgt : Nat} (hd : decode cc pc = .ok (.ifCond .lt off, 3)) (ht : (pc : Int) + off = (tgt : Int)) : BrcZ x nL pc lv (.int a :: st) KD M (a < 0) tgt (pc + 3) st := by
  obtain ⟨p, l, e, R, s, m, args, below, meth, c, D, an, b, n0, s0, zf⟩ := x
  obtain ⟨hx, hb, hml, hown, hts, hK, hlk, hr, hbs⟩ := X
  intro Q k1 k2 ls H locs cs sl hl hP hz hS hc hs
  exact lv_if_lt hx hb hd ht (fun h => k1 h ls H locs cs sl hl hP hz hS hc hs) (fun h => k2 h ls H locs cs sl hl hP hz hS hc hs)
theorem w_if_ge {x : Cxt} {cc : ByteArray} {nL : Nat} {own : String} {ret : Option FieldType} (X : Ok x cc nL own ret) {pc : Nat} {lv : List (Nat × Value)} {st : List Value} {KD : Kd} {M : Mm} {a : Int32} {off : Int} {tgt : Nat} (hd : decode cc pc = .ok (.ifCond .ge off, 3)) (ht : (pc : Int) + off = (tgt : Int)) : BrcZ x nL pc lv (.int a :: st) KD M (0 ≤ a) tgt (pc + 3) st := by
  obtain ⟨p, l, e, R, s, m, args, below, meth, c, D, an, b, n0, s0, zf⟩ := x
  obtain ⟨hx, hb, hml, hown, hts, hK, hlk, hr, hbs⟩ := X
  intro Q k1 k2 ls H locs cs sl hl hP hz hS hc hs
  exact lv_if_ge hx hb hd ht (fun h => k1 h ls H locs cs sl hl hP hz hS hc hs) (fun h => k2 h ls H locs cs sl hl hP hz hS hc hs)
theorem w_if_gt {x : Cxt} {cc : ByteArray} {nL : Nat} {own : String} {ret : Option FieldType} (X : Ok x cc nL own ret) {pc : Nat} {lv : List (Nat × Value)} {st : List Value} {KD : Kd} {M : Mm} {a : Int32} {off : Int} {tgt : Nat} (hd : decode cc pc = .ok (.ifCond .gt off, 3)) (ht : (pc : Int) + off = (tgt : Int)) : BrcZ x nL pc lv (.int a :: st) KD M (0 < a) tgt (pc + 3) st := by
  obtain ⟨p, l, e, R, s, m, args, below, meth, c, D, an, b, n0, s0, zf⟩ := x
  obtain ⟨hx, hb, hml, hown, hts, hK, hlk, hr, hbs⟩ := X
  intro Q k1 k2 ls H locs cs sl hl hP hz hS hc hs
  exact lv_if_gt hx hb hd ht (fun h => k1 h ls H locs cs sl hl hP hz hS hc hs) (fun h => k2 h ls H locs cs sl hl hP hz hS hc hs)
theorem w_if_le {x : Cxt} {cc : ByteArray} {nL : Nat} {own : String} {ret : Option FieldType} (X : Ok x cc nL own ret) {pc : Nat} {lv : List (Nat × Value)} {st : List Value} {KD : Kd} {M : Mm} {a : Int32} {off : Int} {tgt : Nat} (hd : decode cc pc = .ok (.ifCond .le off, 3)) (ht : (pc : Int) + off = (tgt : Int)) : BrcZ x nL pc lv (.int a :: st) KD M (a ≤ 0) tgt (pc + 3) st := by
  obtain ⟨p, l, e, R, s, m, args, below, meth, c, D, an, b, n0, s0, zf⟩ := x
  obtain ⟨hx, hb, hml, hown, hts, hK, hlk, hr, hbs⟩ := X
  intro Q k1 k2 ls H locs cs sl hl hP hz hS hc hs
  exact lv_if_le hx hb hd ht (fun h => k1 h ls H locs cs sl hl hP hz hS hc hs) (fun h => k2 h ls H locs cs sl hl hP hz hS hc hs)
theorem w_icmp_eq {x : Cxt} {cc : ByteArray} {nL : Nat} {own : String} {ret : Option FieldType} (X : Ok x cc nL own ret) {pc : Nat} {lv : List (Nat × Value)} {st : List Value} {KD : Kd} {M : Mm} {a d : Int32} {off : Int} {tgt : Nat} (hd : decode cc pc = .ok (.if_icmp .eq off, 3)) (ht : (pc : Int) + off = (tgt : Int)) : BrcZ x nL pc lv (.int d :: .int a :: st) KD M (a = d) tgt (pc + 3) st := by
  obtain ⟨p, l, e, R, s, m, args, below, meth, c, D, an, b, n0, s0, zf⟩ := x
  obtain ⟨hx, hb, hml, hown, hts, hK, hlk, hr, hbs⟩ := X
  intro Q k1 k2 ls H locs cs sl hl hP hz hS hc hs
  exact lv_icmp_eq hx hb hd ht (fun h => k1 h ls H locs cs sl hl hP hz hS hc hs) (fun h => k2 h ls H locs cs sl hl hP hz hS hc hs)
theorem w_icmp_lt {x : Cxt} {cc : ByteArray} {nL : Nat} {own : String} {ret : Option FieldType} (X : Ok x cc nL own ret) {pc : Nat} {lv : List (Nat × Value)} {st : List Value} {KD : Kd} {M : Mm} {a d : Int32} {off : Int} {tgt : Nat} (hd : decode cc pc = .ok (.if_icmp .lt off, 3)) (ht : (pc : Int) + off = (tgt : Int)) : BrcZ x nL pc lv (.int d :: .int a :: st) KD M (a < d) tgt (pc + 3) st := by
  obtain ⟨p, l, e, R, s, m, args, below, meth, c, D, an, b, n0, s0, zf⟩ := x
  obtain ⟨hx, hb, hml, hown, hts, hK, hlk, hr, hbs⟩ := X
  intro Q k1 k2 ls H locs cs sl hl hP hz hS hc hs
  exact lv_icmp_lt hx hb hd ht (fun h => k1 h ls H locs cs sl hl hP hz hS hc hs) (fun h => k2 h ls H locs cs sl hl hP hz hS hc hs)
theorem w_icmp_ge {x : Cxt} {cc : ByteArray} {nL : Nat} {own : String} {ret : Option FieldType} (X : Ok x cc nL own ret) {pc : Nat} {lv : List (Nat × Value)} {st : List Value} {KD : Kd} {M : Mm} {a d : Int32} {off : Int} {tgt : Nat} (hd : decode cc pc = .ok (.if_icmp .ge off, 3)) (ht : (pc : Int) + off = (tgt : Int)) : BrcZ x nL pc lv (.int d :: .int a :: st) KD M (d ≤ a) tgt (pc + 3) st := by
  obtain ⟨p, l, e, R, s, m, args, below, meth, c, D, an, b, n0, s0, zf⟩ := x
  obtain ⟨hx, hb, hml, hown, hts, hK, hlk, hr, hbs⟩ := X
  intro Q k1 k2 ls H locs cs sl hl hP hz hS hc hs
  exact lv_icmp_ge hx hb hd ht (fun h => k1 h ls H locs cs sl hl hP hz hS hc hs) (fun h => k2 h ls H locs cs sl hl hP hz hS hc hs)
theorem w_icmp_gt {x : Cxt} {cc : ByteArray} {nL : Nat} {own : String} {ret : Option FieldType} (X : Ok x cc nL own ret) {pc : Nat} {lv : List (Nat × Value)} {st : List Value} {KD : Kd} {M : Mm} {a d : Int32} {off : Int} {tgt : Nat} (hd : decode cc pc = .ok (.if_icmp .gt off, 3)) (ht : (pc : Int) + off = (tgt : Int)) : BrcZ x nL pc lv (.int d :: .int a :: st) KD M (d < a) tgt (pc + 3) st := by
  obtain ⟨p, l, e, R, s, m, args, below, meth, c, D, an, b, n0, s0, zf⟩ := x
  obtain ⟨hx, hb, hml, hown, hts, hK, hlk, hr, hbs⟩ := X
  intro Q k1 k2 ls H locs cs sl hl hP hz hS hc hs
  exact lv_icmp_gt hx hb hd ht (fun h => k1 h ls H locs cs sl hl hP hz hS hc hs) (fun h => k2 h ls H locs cs sl hl hP hz hS hc hs)
theorem w_icmp_le {x : Cxt} {cc : ByteArray} {nL : Nat} {own : String} {ret : Option FieldType} (X : Ok x cc nL own ret) {pc : Nat} {lv : List (Nat × Value)} {st : List Value} {KD : Kd} {M : Mm} {a d : Int32} {off : Int} {tgt : Nat} (hd : decode cc pc = .ok (.if_icmp .le off, 3)) (ht : (pc : Int) + off = (tgt : Int)) : BrcZ x nL pc lv (.int d :: .int a :: st) KD M (a ≤ d) tgt (pc + 3) st := by
  obtain ⟨p, l, e, R, s, m, args, below, meth, c, D, an, b, n0, s0, zf⟩ := x
  obtain ⟨hx, hb, hml, hown, hts, hK, hlk, hr, hbs⟩ := X
  intro Q k1 k2 ls H locs cs sl hl hP hz hS hc hs
  exact lv_icmp_le hx hb hd ht (fun h => k1 h ls H locs cs sl hl hP hz hS hc hs) (fun h => k2 h ls H locs cs sl hl hP hz hS hc hs)
theorem w_if_ne {x : Cxt} {cc : ByteArray} {nL : Nat} {own : String} {ret : Option FieldType} (X : Ok x cc nL own ret) {pc : Nat} {lv : List (Nat × Value)} {st : List Value} {KD : Kd} {M : Mm} {a : Int32} {off : Int} {tgt : Nat} (hd : decode cc pc = .ok (.ifCond .ne off, 3)) (ht : (pc : Int) + off = (tgt : Int)) : BrcZ x nL pc lv (.int a :: st) KD M (a = 0) (pc + 3) tgt st := by
  obtain ⟨p, l, e, R, s, m, args, below, meth, c, D, an, b, n0, s0, zf⟩ := x
  obtain ⟨hx, hb, hml, hown, hts, hK, hlk, hr, hbs⟩ := X
  intro Q k1 k2 ls H locs cs sl hl hP hz hS hc hs
  exact lv_if_ne hx hb hd ht (fun h => k2 h ls H locs cs sl hl hP hz hS hc hs) (fun h => k1 h ls H locs cs sl hl hP hz hS hc hs)
theorem w_icmp_ne {x : Cxt} {cc : ByteArray} {nL : Nat} {own : String} {ret : Option FieldType} (X : Ok x cc nL own ret) {pc : Nat} {lv : List (Nat × Value)} {st : List Value} {KD : Kd} {M : Mm} {a d : Int32} {off : Int} {tgt : Nat} (hd : decode cc pc = .ok (.if_icmp .ne off, 3)) (ht : (pc : Int) + off = (tgt : Int)) : BrcZ x nL pc lv (.int d :: .int a :: st) KD M (a = d) (pc + 3) tgt st := by
  obtain ⟨p, l, e, R, s, m, args, below, meth, c, D, an, b, n0, s0, zf⟩ := x
  obtain ⟨hx, hb, hml, hown, hts, hK, hlk, hr, hbs⟩ := X
  intro Q k1 k2 ls H locs cs sl hl hP hz hS hc hs
  exact lv_icmp_ne hx hb hd ht (fun h => k2 h ls H locs cs sl hl hP hz hS hc hs) (fun h => k1 h ls H locs cs sl hl hP hz hS hc hs)
theorem ib_vp {i : Int32} {n : Nat} (h : ib i n) : vp_in i n := vp_in_iff.mpr h
theorem inT {C : String} {T : u_T} {N : Nat} (h : ∀ w ∈ u_ws C T N, w ∈ lw_tbl) (hg : (u_ws C T N).all goodWord = true) : ∀ w ∈ u_ws C T N, w ∈ tbG := fun w hw => tbG_in (h w hw) (List.all_eq_true.mp hg w hw)
theorem w_get {x : Cxt} {cc : ByteArray} {nL : Nat} {own : String} {ret : Option FieldType} (X : Ok x cc nL own ret) {pc : Nat} {lv : List (Nat × Value)} {st : List Value} {KD : Kd} {M : Mm} {o index : Nat} {kd : Nat × Nat} (hk : KD[o]? = some kd) (ci : Nat) (fs : Nat → (Nat → Int32) → List Value) (hc : ∀ an b f, cel an b kd o f = .inr (ci, fs b f)) {C : String} {T : u_T} {N : Nat} (hcl : clsL[ci]? = some (C, T, N)) (hin : ∀ w ∈ u_ws C T N, w ∈ tbG) (k : Nat) (hkN : k < N) (hw : Cond.fieldLink own index (T k).1 (T k).2.1 (T k).2.2.1 ∈ tbG) {v : Nat → (Nat → Int32) → Value} (hv : ∀ b f, (fs b f)[k]? = some (v b f)) (hd : decode cc pc = .ok (.getfield index, 3)) : StpZ x nL pc lv (.ref (xb x + o) :: st) KD M (pc + 3) lv (v (xb x) (M o) :: st) KD M := by
  obtain ⟨p, l, e, R, s, m, args, below, meth, c, D, an, b, n0, s0, zf⟩ := x
  obtain ⟨hx, hb, hml, hown, hts, hK, hlk, hr, hbs⟩ := X
  intro Q kk ls H locs cs sl hl hP hz hS hc2 hs
  exact va_get hx hb hts hin hown hK hP o ((wld_get hk).trans (by rw [hc]; rfl)) hcl k hkN (hts _ hw) (fun _ h => h) (hv b (M o)) hd (kk ls H locs cs sl hl hP hz hS hc2 hs)
theorem w_put {x : Cxt} {cc : ByteArray} {nL : Nat} {own : String} {ret : Option FieldType} (X : Ok x cc nL own ret) {pc : Nat} {lv : List (Nat × Value)} {st : List Value} {KD : Kd} {M : Mm} (Z : xz x = 0) {o index : Nat} {kd : Nat × Nat} (hk : KD[o]? = some kd) (ci : Nat) (fs : Nat → (Nat → Int32) → List Value) (hc : ∀ an b f, cel an b kd o f = .inr (ci, fs b f)) {C : String} {T : u_T} {N : Nat} (hcl : clsL[ci]? = some (C, T, N)) (hin : ∀ w ∈ u_ws C T N, w ∈ tbG) (tyT : Nat → FieldType) (hty : ∀ k, k < N → parseFieldDescriptor (T k).2.2.1 = some (tyT k)) (hnm : ∀ a, a < N → ∀ b, b < N → a ≠ b → (T a).2.1 ≠ (T b).2.1) (k : Nat) (hkN : k < N) (hw : Cond.fieldLink own index (T k).1 (T k).2.1 (T k).2.2.1 ∈ tbG) (hfin : (T k).2.2.2 = false) {y : Int32} {v : Nat → Value} (hset : ∀ b f, (fs b f).set k (v b) = fs b (upd f k y)) (hn : ∀ b, narrow (tyT k) (v b) = v b) (hfit : ∀ b, fits (tyT k) (v b) = true) (hlen : ∀ b f, k < (fs b f).length) (hd : decode cc pc = .ok (.putfield index, 3)) : StpZ x nL pc lv (v (xb x) :: .ref (xb x + o) :: st) KD M (pc + 3) lv st KD (st2 M o k y) := by
  obtain ⟨p, l, e, R, s, m, args, below, meth, c, D, an, b, n0, s0, zf⟩ := x
  obtain ⟨hx, hb, hml, hown, hts, hK, hlk, hr, hbs⟩ := X
  intro Q kk ls H locs cs sl hl hP hz hS hc2 hs
  refine va_put hx hb hts hin tyT hty hnm hown hK hP wld_D hS o ((wld_get hk).trans (by rw [hc]; rfl)) hcl k hkN (hts _ hw) (fun _ h => h) hfin (hty k hkN) (hn b) (hfit b) (hlen b (M o)) hd (fun H1 locs1 hP1 hD1 hS1 => ?_)
  have hP1 : va_P D clsL (wld an b KD (st2 M o k y)) H1 := by
    unfold st2
    rw [← wld_set (f := upd (M o) k y) hk (hc an b _), ← hset]
    exact hP1
  exact kk ls H1 locs1 cs sl hl hP1 (fun h => absurd (h.symm.trans Z) (by decide)) hS1 hc2 hs
theorem w_iald {x : Cxt} {cc : ByteArray} {nL : Nat} {own : String} {ret : Option FieldType} (X : Ok x cc nL own ret) {pc : Nat} {lv : List (Nat × Value)} {st : List Value} {KD : Kd} {M : Mm} {o n : Nat} (hk : KD[o]? = some (13, n)) {i : Int32} (hi : ib i n) (hd : decode cc pc = .ok (.iaload, 1)) : StpZ x nL pc lv (.int i :: .ref (xb x + o) :: st) KD M (pc + 1) lv (.int (M o (ix i)) :: st) KD M := by
  obtain ⟨p, l, e, R, s, m, args, below, meth, c, D, an, b, n0, s0, zf⟩ := x
  obtain ⟨hx, hb, hml, hown, hts, hK, hlk, hr, hbs⟩ := X
  intro Q kk ls H locs cs sl hl hP hz hS hc2 hs
  exact va_iald hx hb hK hP o 0 (wld_get hk) rfl (ib_vp hi) hd (kk ls H locs cs sl hl hP hz hS hc2 hs)
theorem w_zald {x : Cxt} {cc : ByteArray} {nL : Nat} {own : String} {ret : Option FieldType} (X : Ok x cc nL own ret) {pc : Nat} {lv : List (Nat × Value)} {st : List Value} {KD : Kd} {M : Mm} {o n : Nat} (hk : KD[o]? = some (14, n)) {i : Int32} (hi : ib i n) (hd : decode cc pc = .ok (.baload, 1)) : StpZ x nL pc lv (.int i :: .ref (xb x + o) :: st) KD M (pc + 1) lv (.int (M o (ix i)) :: st) KD M := by
  obtain ⟨p, l, e, R, s, m, args, below, meth, c, D, an, b, n0, s0, zf⟩ := x
  obtain ⟨hx, hb, hml, hown, hts, hK, hlk, hr, hbs⟩ := X
  intro Q kk ls H locs cs sl hl hP hz hS hc2 hs
  exact va_zald hx hb hK hP o 1 (wld_get hk) rfl (ib_vp hi) hd (kk ls H locs cs sl hl hP hz hS hc2 hs)
theorem w_iast {x : Cxt} {cc : ByteArray} {nL : Nat} {own : String} {ret : Option FieldType} (X : Ok x cc nL own ret) {pc : Nat} {lv : List (Nat × Value)} {st : List Value} {KD : Kd} {M : Mm} (Z : xz x = 0) {o n : Nat} (hk : KD[o]? = some (13, n)) {i y : Int32} (hi : ib i n) (hd : decode cc pc = .ok (.iastore, 1)) : StpZ x nL pc lv (.int y :: .int i :: .ref (xb x + o) :: st) KD M (pc + 1) lv st KD (st2 M o (ix i) y) := by
  obtain ⟨p, l, e, R, s, m, args, below, meth, c, D, an, b, n0, s0, zf⟩ := x
  obtain ⟨hx, hb, hml, hown, hts, hK, hlk, hr, hbs⟩ := X
  intro Q kk ls H locs cs sl hl hP hz hS hc2 hs
  refine va_iast hx hb hK hP wld_D hS o 0 (wld_get hk) rfl (ib_vp hi) hd (fun H1 locs1 hP1 hD1 hS1 => ?_)
  have hP1 : va_P D clsL (wld an b KD (stA M o (upd (M o) (ix i) y))) H1 := by
    rw [← wld_set (f := upd (M o) (ix i) y) hk rfl]
    exact hP1
  exact kk ls H1 locs1 cs sl hl hP1 (fun h => absurd (h.symm.trans Z) (by decide)) hS1 hc2 hs
theorem w_zast {x : Cxt} {cc : ByteArray} {nL : Nat} {own : String} {ret : Option FieldType} (X : Ok x cc nL own ret) {pc : Nat} {lv : List (Nat × Value)} {st : List Value} {KD : Kd} {M : Mm} (Z : xz x = 0) {o n : Nat} (hk : KD[o]? = some (14, n)) {i y : Int32} (hi : ib i n) (hd : decode cc pc = .ok (.bastore, 1)) : StpZ x nL pc lv (.int y :: .int i :: .ref (xb x + o) :: st) KD M (pc + 1) lv st KD (st2 M o (ix i) (vp_nar .boolean y)) := by
  obtain ⟨p, l, e, R, s, m, args, below, meth, c, D, an, b, n0, s0, zf⟩ := x
  obtain ⟨hx, hb, hml, hown, hts, hK, hlk, hr, hbs⟩ := X
  intro Q kk ls H locs cs sl hl hP hz hS hc2 hs
  refine va_zast hx hb hK hP wld_D hS o 1 (wld_get hk) rfl (ib_vp hi) hd (fun H1 locs1 hP1 hD1 hS1 => ?_)
  have hP1 : va_P D clsL (wld an b KD (stA M o (upd (M o) (ix i) (vp_nar .boolean y)))) H1 := by
    rw [← wld_set (f := upd (M o) (ix i) (vp_nar .boolean y)) hk rfl]
    exact hP1
  exact kk ls H1 locs1 cs sl hl hP1 (fun h => absurd (h.symm.trans Z) (by decide)) hS1 hc2 hs
def Rm (x : Cxt) (d : Nat) (KDm : Kd) : Prop := match x with
  | (_p, _l, _e, R, _s, _m, _args, _below, _meth, _c, _D, _an, _b, n0, s0, _zf) => d ≤ R.frames ∧ 60 * d ≤ R.locals ∧ KDm.length ≤ R.cells + n0 ∧ ssum KDm ≤ R.slots + s0
def rmd (d mc ms : Nat) : Room := { frames := d, cells := mc, slots := ms, locals := 60 * d }
def Rel (D : va_G) (an : An) (b zf : Nat) (KD : Kd) (M : Mm) (U : State) : Prop := (zf = 1 → U.heap.size = b + KD.length) ∧ va_P D clsL (wld an b KD M) U.heap ∧ va_K D clsL (tyL an) U ∧ b ≤ U.heap.size ∧ Nx U
def RQ (D : va_G) (an : An) (b zf : Nat) (rv : Option Value) (KD : Kd) (M : Mm) : Array Value → State → Outcome → State → Prop := fun _ st o t => o = .returned rv ∧ (zf = 1 → t.heap.size = b + KD.length) ∧ va_P D clsL (wld an b KD M) t.heap ∧ va_F (fun q => b ≤ q) st t
def Ct (l : Launch) (D : va_G) (an : An) (b zf : Nat) (y : MethodName) (cc : ByteArray) (nL : Nat) (ret : Option FieldType) (d : Nat) (as : List Value) (KD : Kd) (M : Mm) (rv : Option Value) (KD' : Kd) (M' : Mm) : Prop := Met l y (.code y cc nL ret :: tbG) (rmd d (KD'.length - KD.length) (ssum KD' - ssum KD)) (va_Pc as (Rel D an b zf KD M)) (RQ D an b zf rv KD' M') (KD'.length - KD.length) (ssum KD' - ssum KD) (fun q => b ≤ q)
def CtX (x : Cxt) (y : MethodName) (cc : ByteArray) (nL : Nat) (ret : Option FieldType) (d : Nat) (as : List Value) (KD : Kd) (M : Mm) (rv : Option Value) (KD' : Kd) (M' : Mm) : Prop := Ct (xl x) (xD x) (xa x) (xb x) (xz x) y cc nL ret d as KD M rv KD' M'
def retQ (x : Cxt) (rv : Option Value) (KD : Kd) (M : Mm) : State → Prop := match x with
  | (_p, _l, _e, _R, s, _m, args, below, _meth, _c, D, an, b, n0, s0, zf) => MQ below (RQ D an b zf rv KD M) args s (KD.length - n0) (ssum KD - s0) (fun q => b ≤ q)
def Nst (x : Cxt) : Prop := match x with
  | (_p, _l, _e, _R, s, _m, _args, _below, _meth, _c, _D, _an, _b, _n0, _s0, _zf) => Nx s
def Nm0 (x : Cxt) (KD : Kd) : Prop := match x with
  | (_p, _l, _e, _R, _s, _m, _args, _below, _meth, _c, _D, _an, _b, n0, s0, _zf) => n0 = KD.length ∧ s0 = ssum KD
def Nin (x : Cxt) (nm : String) : Prop := match x with
  | (_p, _l, _e, _R, _s, _m, _args, _below, meth, _c, _D, _an, _b, _n0, _s0, _zf) => meth.name = nm
theorem Rel.blind {D : va_G} {an : An} {b zf : Nat} {KD : Kd} {M : Mm} {as : List Value} : FrameBlind (va_Pc as (Rel D an b zf KD M)) := by
  intro a U g mk q
  obtain ⟨q0, q1, q2, q3, q4, q5⟩ := q
  exact ⟨q0, q1, q2, va_K.moved (u := U) (U := U.calling g mk a) (Vm.Alike.refl U.vm) q3, q4, Nx_same (s := U) (U := U.calling g mk a) rfl (Vm.Alike.refl U.vm) q5⟩
theorem Ct.mk {l : Launch} {D : va_G} {an : An} {b zf : Nat} {y : MethodName} {cc : ByteArray} {nL : Nat} {ret : Option FieldType} {d : Nat} {as : List Value} {KD : Kd} {M : Mm} {rv : Option Value} {KD' : Kd} {M' : Mm} (hy : plainName y.cls = true) (hlen : (lg_sl as).length ≤ nL) (hKD : KD.length ≤ KD'.length ∧ ssum KD ≤ ssum KD')
    (body : ∀ x : Cxt, Ok x cc nL y.cls ret → Rm x d KD' → xl x = l → xD x = D → xa x = an → xb x = b → xz x = zf → Nst x → Nm0 x KD → Nin x y.name → WX x nL 0 (lv_args 0 as) [] KD M (retQ x rv KD' M')) : Ct l D an b zf y cc nL ret d as KD M rv KD' M' := by
  refine Met.ofW (cc := cc) (maxL := nL) (ret := ret) hy rfl ?_
  intro p e s m args below meth c s₁ B hml hv
  obtain ⟨rfl, hz, hP, hK, hbs, hN⟩ := hv
  have hts := atoms_spec (ws := Cond.code y cc nL ret :: tbG) B.pre
  have hown : s.vm.findClass y.cls = some m.cls := findClass_of_methodNamed B.named
  have hw := body (p, l, e, rmd d (KD'.length - KD.length) (ssum KD' - ssum KD), s, m, as.toArray, below, meth, c, D, an, b, KD.length, ssum KD, zf) ⟨B.exec, B.bytes, hml, hown, fun w hw => hts w (List.mem_cons_of_mem _ hw), hK, B.notSynchronized, B.returns, hbs⟩ ⟨Nat.le_refl _, Nat.le_refl _, by show _ ≤ (KD'.length - KD.length) + _; omega, by show _ ≤ (ssum KD' - ssum KD) + _; omega⟩ rfl rfl rfl rfl rfl hN ⟨rfl, rfl⟩ (name_of_methodNamed B.named B.method).1
  have hl := lv_entry as (n := nL) hlen
  rw [lg_entry_eq]
  exact hw _ s.heap [] 0 0 hl hP hz va_S.rf (Nat.zero_add _) (Nat.zero_add _)
theorem w_iret {x : Cxt} {cc : ByteArray} {nL : Nat} {own : String} (X : Ok x cc nL own (some .int)) {pc : Nat} {lv : List (Nat × Value)} {KD : Kd} {M : Mm} {v : Int32} (hd : decode cc pc = .ok (.ireturn, 1)) : WX x nL pc lv [.int v] KD M (retQ x (some (.int v)) KD M) := by
  obtain ⟨p, l, e, R, s, m, args, below, meth, c, D, an, b, n0, s0, zf⟩ := x
  obtain ⟨hx, hb, hml, hown, hts, hK, hlk, hr, hbs⟩ := X
  intro ls H locs cs sl hl hP hz hS hc hs
  have e1 : KD.length - n0 = cs := by omega
  have e2 : ssum KD - s0 = sl := by omega
  show W _ _ _ _ _ _ _ _ _ _ _ _ _ _ (MQ below (RQ D an b zf (some (.int v)) KD M) args s (KD.length - n0) (ssum KD - s0) (fun q => b ≤ q)) _
  rw [e1, e2]
  exact W.iret hx hb hr (fun t ht hW => ⟨rfl, by rw [ht]; exact hz, by rw [ht]; exact hP, hS.F ht⟩) hS.2.2 hd
theorem w_zret {x : Cxt} {cc : ByteArray} {nL : Nat} {own : String} (X : Ok x cc nL own (some .boolean)) {pc : Nat} {lv : List (Nat × Value)} {KD : Kd} {M : Mm} {v : Int32} (hv : zb v) (hd : decode cc pc = .ok (.ireturn, 1)) : WX x nL pc lv [.int v] KD M (retQ x (some (.int v)) KD M) := by
  obtain ⟨p, l, e, R, s, m, args, below, meth, c, D, an, b, n0, s0, zf⟩ := x
  obtain ⟨hx, hb, hml, hown, hts, hK, hlk, hr, hbs⟩ := X
  intro ls H locs cs sl hl hP hz hS hc hs
  have e1 : KD.length - n0 = cs := by omega
  have e2 : ssum KD - s0 = sl := by omega
  show W _ _ _ _ _ _ _ _ _ _ _ _ _ _ (MQ below (RQ D an b zf (some (.int v)) KD M) args s (KD.length - n0) (ssum KD - s0) (fun q => b ≤ q)) _
  rw [e1, e2]
  exact W.zret hx hb hr (by rcases hv with rfl | rfl <;> rfl) (fun t ht hW => ⟨rfl, by rw [ht]; exact hz, by rw [ht]; exact hP, hS.F ht⟩) hS.2.2 hd
theorem w_vret {x : Cxt} {cc : ByteArray} {nL : Nat} {own : String} (X : Ok x cc nL own none) {pc : Nat} {lv : List (Nat × Value)} {KD : Kd} {M : Mm} (hd : decode cc pc = .ok (.return_, 1)) : WX x nL pc lv [] KD M (retQ x none KD M) := by
  obtain ⟨p, l, e, R, s, m, args, below, meth, c, D, an, b, n0, s0, zf⟩ := x
  obtain ⟨hx, hb, hml, hown, hts, hK, hlk, hr, hbs⟩ := X
  intro ls H locs cs sl hl hP hz hS hc hs
  have e1 : KD.length - n0 = cs := by omega
  have e2 : ssum KD - s0 = sl := by omega
  show W _ _ _ _ _ _ _ _ _ _ _ _ _ _ (MQ below (RQ D an b zf none KD M) args s (KD.length - n0) (ssum KD - s0) (fun q => b ≤ q)) _
  rw [e1, e2]
  exact W.vret hx hb hr (fun t ht hW => ⟨rfl, by rw [ht]; exact hz, by rw [ht]; exact hP, hS.F ht⟩) hS.2.2 hd
theorem w_aret {x : Cxt} {cc : ByteArray} {nL : Nat} {own C : String} (X : Ok x cc nL own (some (.object C))) {pc : Nat} {lv : List (Nat × Value)} {KD : Kd} {M : Mm} {v : Nat} (hd : decode cc pc = .ok (.areturn, 1)) : WX x nL pc lv [.ref v] KD M (retQ x (some (.ref v)) KD M) := by
  obtain ⟨p, l, e, R, s, m, args, below, meth, c, D, an, b, n0, s0, zf⟩ := x
  obtain ⟨hx, hb, hml, hown, hts, hK, hlk, hr, hbs⟩ := X
  intro ls H locs cs sl hl hP hz hS hc hs
  have e1 : KD.length - n0 = cs := by omega
  have e2 : ssum KD - s0 = sl := by omega
  show W _ _ _ _ _ _ _ _ _ _ _ _ _ _ (MQ below (RQ D an b zf (some (.ref v)) KD M) args s (KD.length - n0) (ssum KD - s0) (fun q => b ≤ q)) _
  rw [e1, e2]
  exact W.aret hx hb hr (Or.inl ⟨_, rfl⟩) (Or.inr ⟨_, rfl⟩) (fun t ht hW => ⟨rfl, by rw [ht]; exact hz, by rw [ht]; exact hP, hS.F ht⟩) hS.2.2 hd
theorem runW {p : Program} {l : Launch} {e : Env} {R : Room} {s : State} {m : MethodId} {args : Array Value} {below : List Frame} {meth : Method} {c : Code} {D : va_G} {an : An} {b n0 s0 zf nL pc : Nat} {lv : List (Nat × Value)} {ls : Array Slot} {st0 rest : List Value} {KD KD' : Kd} {M' : Mm} {rv : Option Value} {H : Heap} {locs : List Loc} {cs sl : Nat} {Q : State → Prop} {a : Array Value}
    (hr : va_Run p l e R s m args below meth c H locs cs sl (KD'.length - KD.length) (ssum KD' - ssum KD) (F0 m pc ls st0) rest (RQ D an b zf rv KD' M' a) (fun q => b ≤ q)) (hl : lv_has ls nL lv) (hS : va_S (fun q => b ≤ q) s.heap H locs) (hc : cs + n0 = KD.length) (hs : sl + s0 = ssum KD) (hKD : KD.length ≤ KD'.length ∧ ssum KD ≤ ssum KD')
    (kk : WX (p, l, e, R, s, m, args, below, meth, c, D, an, b, n0, s0, zf) nL (pc + 3) lv (rv.toList ++ rest) KD' M' Q) : W p l e R s m args below meth c H locs cs sl Q (F0 m pc ls st0) := by
  intro T hT X
  obtain ⟨v, st₀, t, T', L, h0, X', hL, e1, e2, ⟨hv, hz', hP', hF1, hF2⟩, st⟩ := hr T hT X
  cases hv
  rw [h0] at hF1 hF2
  obtain ⟨t2, a1, b1⟩ := kk ls T'.heap (locs ++ L) (cs + (KD'.length - KD.length)) (sl + (ssum KD' - ssum KD)) hl (by rw [e1]; exact hP') (by rw [e1]; exact hz') ⟨Nat.le_trans hS.1 (by rw [e1]; exact hF1), fun q h1 h2 => by rw [e1, hF2 q (Nat.lt_of_lt_of_le h1 hS.1) h2]; exact hS.2.1 q h1 h2, fun q hq => by
      rcases List.mem_append.mp hq with h | h
      · exact hS.2.2 q h
      · exact hL q h⟩ (by omega) (by omega) T' rfl X'
  exact ⟨t2, st t2 a1, b1⟩
theorem tbG_goodIn {c : Cond} (hc : c ∈ tbG) : GoodIn tbG (c :: tbG) := fun w hw => (List.mem_cons.mp hw).elim (fun h => h ▸ ⟨hc, tbG_good hc⟩) (fun h => ⟨h, tbG_good h⟩)
theorem Rel.at {s U : State} {H : Heap} {D : va_G} {an : An} {b zf : Nat} {KD : Kd} {M : Mm} {locs : List Loc} (hz : zf = 1 → H.size = b + KD.length) (hP : va_P D clsL (wld an b KD M) H) (hK : va_K D clsL (tyL an) s) (hbs : b ≤ s.heap.size) (hS : va_S (fun q => b ≤ q) s.heap H locs) (hN : Nx s) (hU : U.heap = H) (hW : s.WarmedH U.vm) : Rel D an b zf KD M U :=
  ⟨by rw [hU]; exact hz, by rw [hU]; exact hP, va_K.moved hW.alike hK, by rw [hU]; exact Nat.le_trans hbs hS.1, Nx_warm hW hN⟩
theorem w_callV {x : Cxt} {cc : ByteArray} {nL : Nat} {own : String} {ret : Option FieldType} (X : Ok x cc nL own ret) {pc : Nat} {lv : List (Nat × Value)} {st : List Value} {KD : Kd} {M : Mm} {d : Nat} {KDm : Kd} (hR : Rm x d KDm) (hN : Nst x) {y : MethodName} {cc' : ByteArray} {nL' : Nat} {ret' : Option FieldType} {d' o : Nat} {As rest : List Value} {rv : Option Value} {KD' : Kd} {M' : Mm} (hC : CtX x y cc' nL' ret' d' (.ref (xb x + o) :: As) KD M rv KD' M') (hKD : KD.length ≤ KD'.length ∧ ssum KD ≤ ssum KD') (hKm : KD'.length ≤ KDm.length ∧ ssum KD' ≤ ssum KDm)
    {kd : Nat × Nat} (hk : KD[o]? = some kd) {ci : Nat} {fs : Nat → (Nat → Int32) → List Value} (hc : ∀ an b f, cel an b kd o f = .inr (ci, fs b f)) {T : u_T} {N : Nat} (hcl : clsL[ci]? = some (y.cls, T, N)) {idx : Nat} (hw1 : Cond.methodLink own idx y ∈ tbG) (hw2 : Cond.instanceMethod y ∈ tbG) (hw3 : Cond.selects y.cls y y ∈ tbG) (hw4 : Cond.initialized y.cls ∈ tbG) (hw5 : Cond.code y cc' nL' ret' ∈ tbG)
    (hy : y.cls ≠ "java/lang/invoke/MethodHandle" ∧ y.cls ≠ "java/lang/invoke/VarHandle" ∧ (parseMethodDescriptor y.desc).map (fun d => d.parameters.length) = some As.length) (hdd : d' + 1 ≤ d) (hnl : nL' ≤ 40) (hrm : (rest.map fun v => v.category).sum ≤ 8) (hd : decode cc pc = .ok (.invokevirtual idx, 3)) : StpZ x nL pc lv (As.reverse ++ .ref (xb x + o) :: rest) KD M (pc + 3) lv (rv.toList ++ rest) KD' M' := by
  obtain ⟨p, l, e, R, s, m, args, below, meth, c, D, an, b, n0, s0, zf⟩ := x
  obtain ⟨hx, hb, hml, hown, hts, hK, hlk, hr, hbs⟩ := X
  obtain ⟨r1, r2, r3, r4⟩ := hR
  intro Q kk ls H locs cs sl hl hP hz hS hc2 hs
  have hcb : CallW R s args own y.cls idx y cc' nL' ret' (Cond.code y cc' nL' ret' :: tbG) (rmd d' (KD'.length - KD.length) (ssum KD' - ssum KD)) (KD'.length - KD.length) (ssum KD' - ssum KD) As.length := ⟨callB_of As.length hts (tbG_goodIn hw5) rfl rfl rfl (hts _ hw4) (hts _ hw1) hy ⟨by show d' + 1 ≤ _; omega, by show 8 + (nL' + 11) + 60 * d' ≤ _; omega⟩, hts _ hw2, hts _ hw3⟩
  exact runW (va_runV (As := As) (rest := rest) ⟨hx, hb, hml, hown, hts⟩ hC hcb ⟨Rel.blind, va_recv hK hP hcl ((wld_get hk).trans (by rw [hc]; rfl)), fun U hU hW => ⟨rfl, Rel.at hz hP hK hbs hS hN hU hW⟩⟩ rfl rfl hl.1 rfl (lv_room hrm) hd ⟨by omega, by omega⟩) hl hS hc2 hs hKD kk
theorem w_callS {x : Cxt} {cc : ByteArray} {nL : Nat} {own : String} {ret : Option FieldType} (X : Ok x cc nL own ret) {pc : Nat} {lv : List (Nat × Value)} {st : List Value} {KD : Kd} {M : Mm} {d : Nat} {KDm : Kd} (hR : Rm x d KDm) (hN : Nst x) {y : MethodName} {cc' : ByteArray} {nL' : Nat} {ret' : Option FieldType} {d' : Nat} {As rest : List Value} {rv : Option Value} {KD' : Kd} {M' : Mm} (hC : CtX x y cc' nL' ret' d' As KD M rv KD' M') (hKD : KD.length ≤ KD'.length ∧ ssum KD ≤ ssum KD') (hKm : KD'.length ≤ KDm.length ∧ ssum KD' ≤ ssum KDm)
    {idx : Nat} (hw1 : Cond.methodLink own idx y ∈ tbG) (hw2 : Cond.static y ∈ tbG) (hw4 : Cond.initialized y.cls ∈ tbG) (hw5 : Cond.code y cc' nL' ret' ∈ tbG)
    (hy : y.cls ≠ "java/lang/invoke/MethodHandle" ∧ y.cls ≠ "java/lang/invoke/VarHandle" ∧ (parseMethodDescriptor y.desc).map (fun d => d.parameters.length) = some As.length) (hdd : d' + 1 ≤ d) (hnl : nL' ≤ 40) (hrm : (rest.map fun v => v.category).sum ≤ 8) (hd : decode cc pc = .ok (.invokestatic idx, 3)) : StpZ x nL pc lv (As.reverse ++ rest) KD M (pc + 3) lv (rv.toList ++ rest) KD' M' := by
  obtain ⟨p, l, e, R, s, m, args, below, meth, c, D, an, b, n0, s0, zf⟩ := x
  obtain ⟨hx, hb, hml, hown, hts, hK, hlk, hr, hbs⟩ := X
  obtain ⟨r1, r2, r3, r4⟩ := hR
  intro Q kk ls H locs cs sl hl hP hz hS hc2 hs
  have hcb : CallB R s args own idx y cc' nL' ret' (Cond.code y cc' nL' ret' :: tbG) (rmd d' (KD'.length - KD.length) (ssum KD' - ssum KD)) (KD'.length - KD.length) (ssum KD' - ssum KD) As.length := callB_of As.length hts (tbG_goodIn hw5) rfl rfl rfl (hts _ hw4) (hts _ hw1) hy ⟨by show d' + 1 ≤ _; omega, by show 8 + (nL' + 11) + 60 * d' ≤ _; omega⟩
  exact runW (va_runS (As := As) (rest := rest) ⟨hx, hb, hml, hown, hts⟩ hC ⟨hcb, hts _ hw2⟩ ⟨Rel.blind, fun U hU hW => ⟨rfl, Rel.at hz hP hK hbs hS hN hU hW⟩⟩ rfl rfl hl.1 rfl (lv_room hrm) hd ⟨by omega, by omega⟩) hl hS hc2 hs hKD kk
theorem w_mmax {x : Cxt} {cc : ByteArray} {nL : Nat} {own : String} {ret : Option FieldType} (X : Ok x cc nL own ret) {pc : Nat} {lv : List (Nat × Value)} {st : List Value} {KD : Kd} {M : Mm} {d : Nat} {KDm : Kd} (hR : Rm x d KDm) {idx : Nat} {a g : Int32} (hw1 : Cond.methodLink own idx Lib.Math.max.name ∈ tbG) (hw2 : Cond.static Lib.Math.max.name ∈ tbG) (hw3 : Cond.initialized "java/lang/Math" ∈ tbG) (hw4 : Cond.code Lib.Math.max.name Lib.Math.max.code 2 (some .int) ∈ tbG) (h1 : 1 ≤ d) (hrm : (st.map fun v => v.category).sum ≤ 8) (hKm : KD.length ≤ KDm.length ∧ ssum KD ≤ ssum KDm) (hd : decode cc pc = .ok (.invokestatic idx, 3)) : StpZ x nL pc lv (.int g :: .int a :: st) KD M (pc + 3) lv (.int (if a < g then g else a) :: st) KD M := by
  obtain ⟨p, l, e, R, s, m, args, below, meth, c, D, an, b, n0, s0, zf⟩ := x
  obtain ⟨hx, hb, hml, hown, hts, hK, hlk, hr, hbs⟩ := X
  obtain ⟨r1, r2, r3, r4⟩ := hR
  intro Q kk ls H locs cs sl hl hP hz hS hc2 hs
  exact va_mmax hx hb (hml.trans hl.1.symm) hown (hts _ hw1) (hts _ hw2) (hts _ hw3) (hts _ hw4) (by omega) (by omega) (by omega) (by omega) hd (kk ls H locs cs sl hl hP hz hS hc2 hs)
theorem w_mmin {x : Cxt} {cc : ByteArray} {nL : Nat} {own : String} {ret : Option FieldType} (X : Ok x cc nL own ret) {pc : Nat} {lv : List (Nat × Value)} {st : List Value} {KD : Kd} {M : Mm} {d : Nat} {KDm : Kd} (hR : Rm x d KDm) {idx : Nat} {a g : Int32} (hw1 : Cond.methodLink own idx Lib.Math.min.name ∈ tbG) (hw2 : Cond.static Lib.Math.min.name ∈ tbG) (hw3 : Cond.initialized "java/lang/Math" ∈ tbG) (hw4 : Cond.code Lib.Math.min.name Lib.Math.min.code 2 (some .int) ∈ tbG) (h1 : 1 ≤ d) (hrm : (st.map fun v => v.category).sum ≤ 8) (hKm : KD.length ≤ KDm.length ∧ ssum KD ≤ ssum KDm) (hd : decode cc pc = .ok (.invokestatic idx, 3)) : StpZ x nL pc lv (.int g :: .int a :: st) KD M (pc + 3) lv (.int (if g < a then g else a) :: st) KD M := by
  obtain ⟨p, l, e, R, s, m, args, below, meth, c, D, an, b, n0, s0, zf⟩ := x
  obtain ⟨hx, hb, hml, hown, hts, hK, hlk, hr, hbs⟩ := X
  obtain ⟨r1, r2, r3, r4⟩ := hR
  intro Q kk ls H locs cs sl hl hP hz hS hc2 hs
  exact va_mmin hx hb (hml.trans hl.1.symm) hown (hts _ hw1) (hts _ hw2) (hts _ hw3) (hts _ hw4) (by omega) (by omega) (by omega) (by omega) hd (kk ls H locs cs sl hl hP hz hS hc2 hs)
theorem w_copy {x : Cxt} {cc : ByteArray} {nL : Nat} {own : String} {ret : Option FieldType} (X : Ok x cc nL own ret) {pc : Nat} {lv : List (Nat × Value)} {st : List Value} {KD : Kd} {M : Mm} (Z : xz x = 0) {d : Nat} {KDm : Kd} (hR : Rm x d KDm) {idx o0 o1 m0 m1 : Nat} {sp dp n : Int32} (hk0 : KD[o0]? = some (13, m0)) (hk1 : KD[o1]? = some (13, m1)) (hsp : 0 ≤ sp.toInt ∧ sp.toInt + n.toInt ≤ m0) (hdp : 0 ≤ dp.toInt ∧ dp.toInt + n.toInt ≤ m1) (hn : 0 ≤ n.toInt) (hw1 : Cond.methodLink own idx arraycopyName ∈ tbG) (hw2 : Cond.native arraycopyName ∈ tbG) (hw3 : Cond.static arraycopyName ∈ tbG) (hw4 : Cond.initialized "java/lang/System" ∈ tbG) (h1 : 1 ≤ d) (hrm : (st.map fun v => v.category).sum ≤ 8) (hd : decode cc pc = .ok (.invokestatic idx, 3)) : StpZ x nL pc lv (.int n :: .int dp :: .ref (xb x + o1) :: .int sp :: .ref (xb x + o0) :: st) KD M (pc + 3) lv st KD (stA M o1 (va_cpy (M o0) (M o1) (ix sp) (ix dp) (ix n))) := by
  obtain ⟨p, l, e, R, s, m, args, below, meth, c, D, an, b, n0, s0, zf⟩ := x
  obtain ⟨hx, hb, hml, hown, hts, hK, hlk, hr, hbs⟩ := X
  obtain ⟨r1, r2, r3, r4⟩ := hR
  intro Q kk ls H locs cs sl hl hP hz hS hc2 hs
  have tn : ∀ z : Int32, 0 ≤ z.toInt → ¬ z < 0 ∧ (z.toNatClampNeg : Int) = z.toInt := fun z hz => ⟨fun h => by have := Int32.lt_iff_toInt_lt.mp h; simp at this; omega, by rw [Int32.toNatClampNeg]; exact Int.toNat_of_nonneg hz⟩
  obtain ⟨a1, a2⟩ := tn sp hsp.1
  obtain ⟨b1, b2⟩ := tn dp hdp.1
  obtain ⟨c1, c2⟩ := tn n hn
  have hnf : nativeFrameWords "java/lang/System" "arraycopy" 5 ≤ 30 := by decide +kernel
  refine va_copyi hx hb (hml.trans hl.1.symm) hown (hts _ hw1) (hts _ hw2) (hts _ hw3) (hts _ hw4) hK hP wld_D hS o0 o1 0 0 (wld_get hk0) (wld_get hk1) rfl rfl rfl a1 b1 c1 (by omega) (by omega) (fun i hi => rfl) (by omega) (by omega) hd (fun H1 locs1 hP1 hD1 hS1 => ?_)
  have hP1 : va_P D clsL (wld an b KD (stA M o1 (va_cpy (M o0) (M o1) (ix sp) (ix dp) (ix n)))) H1 := by
    rw [← wld_set (f := va_cpy (M o0) (M o1) (ix sp) (ix dp) (ix n)) hk1 rfl]
    exact hP1
  exact kk ls H1 locs1 cs sl hl hP1 (fun h => absurd (h.symm.trans Z) (by decide)) hS1 hc2 hs
end
section
def Gz {τ : Type} (x : Cxt) (nL pc : Nat) (lv : List (Nat × Value)) (st : List Value) (KD : Kd) (M : Mm) (o : Option τ) (Ψ : τ → (State → Prop) → Prop) : Prop := ∀ v, o = some v → ∀ Q, Ψ v Q → WX x nL pc lv st KD M Q
def Lt {α β : Type} (e : α) (k : α → β) : β := k e
def Gd {τ : Type} (c : Prop) {inst : Decidable c} (o : Option τ) : Option τ := if c then o else none
def Bd {α β : Type} (o : Option α) (k : α → Option β) : Option β := o.bind k
def BdS {α ρ : Type} (o : Option (ρ ⊕ α)) (k : α → Option ρ) : Option ρ := o.bind (fun v => match v with
  | .inl r => some r
  | .inr a => k a)
def Lp {σ τ : Type} (f : σ → Option (σ ⊕ τ)) : Nat → σ → Option τ
  | 0, _ => none
  | n + 1, s => (f s).bind (fun v => match v with
    | .inl s' => Lp f n s'
    | .inr t => some t)
def sumP {α β : Type} (Ψ1 : α → (State → Prop) → Prop) (Ψ2 : β → (State → Prop) → Prop) : α ⊕ β → (State → Prop) → Prop := fun v Q => match v with
  | .inl a => Ψ1 a Q
  | .inr b => Ψ2 b Q
def toJ {α : Type} (x : Cxt) (nL J : Nat) (lvf : α → List (Nat × Value)) (stf : α → List Value) (KD : Kd) (Mf : α → Mm) : α → (State → Prop) → Prop := fun a Q => WX x nL J (lvf a) (stf a) KD (Mf a) Q
def PsI2 (x : Cxt) (KD : Kd) : Int32 × Mm → (State → Prop) → Prop := fun v Q => Q = retQ x (some (.int v.1)) KD v.2
def PsI (x : Cxt) (KD : Kd) (M : Mm) : Int32 → (State → Prop) → Prop := fun v Q => Q = retQ x (some (.int v)) KD M
def PsM (x : Cxt) (KD : Kd) : Mm → (State → Prop) → Prop := fun v Q => Q = retQ x none KD v
def PsV (x : Cxt) (KD : Kd) (M : Mm) : Unit → (State → Prop) → Prop := fun _ Q => Q = retQ x none KD M
def PsR (x : Cxt) (KD : Kd) (M : Mm) : Nat → (State → Prop) → Prop := fun v Q => Q = retQ x (some (.ref (xb x + v))) KD M
theorem g1 {x : Cxt} {nL pc : Nat} {lv : List (Nat × Value)} {st : List Value} {KD : Kd} {M : Mm} {τ : Type} {o : Option τ} {Ψ : τ → (State → Prop) → Prop} {pc' : Nat} {lv' : List (Nat × Value)} {st' : List Value} {KD' : Kd} {M' : Mm} (h : StpZ x nL pc lv st KD M pc' lv' st' KD' M') (k : Gz x nL pc' lv' st' KD' M' o Ψ) : Gz x nL pc lv st KD M o Ψ := fun v hv Q hQ => h Q (k v hv Q hQ)
theorem g_none {x : Cxt} {nL pc : Nat} {lv : List (Nat × Value)} {st : List Value} {KD : Kd} {M : Mm} {τ : Type} {Ψ : τ → (State → Prop) → Prop} : Gz x nL pc lv st KD M none Ψ := fun v hv => by cases hv
theorem g_if {x : Cxt} {nL pc : Nat} {lv : List (Nat × Value)} {st : List Value} {KD : Kd} {M : Mm} {τ : Type} {A B : Option τ} {Ψ : τ → (State → Prop) → Prop} {c : Prop} {inst : Decidable c} {pcT pcF : Nat} {st' : List Value} (h : BrcZ x nL pc lv st KD M c pcT pcF st') (kt : c → Gz x nL pcT lv st' KD M A Ψ) (kf : ¬ c → Gz x nL pcF lv st' KD M B Ψ) : Gz x nL pc lv st KD M (@ite _ c inst A B) Ψ := by
  intro v hv Q hQ
  refine h Q (fun hc => ?_) (fun hc => ?_)
  · rw [if_pos hc] at hv
    exact kt hc v hv Q hQ
  · rw [if_neg hc] at hv
    exact kf hc v hv Q hQ
theorem g_ifS {x : Cxt} {nL pc : Nat} {lv : List (Nat × Value)} {st : List Value} {KD : Kd} {M : Mm} {τ : Type} {A B : τ} {Ψ : τ → (State → Prop) → Prop} {c : Prop} {inst : Decidable c} {pcT pcF : Nat} {st' : List Value} (h : BrcZ x nL pc lv st KD M c pcT pcF st') (kt : c → Gz x nL pcT lv st' KD M (some A) Ψ) (kf : ¬ c → Gz x nL pcF lv st' KD M (some B) Ψ) : Gz x nL pc lv st KD M (some (@ite _ c inst A B)) Ψ := by
  intro v hv Q hQ
  refine h Q (fun hc => ?_) (fun hc => ?_)
  · rw [if_pos hc] at hv
    exact kt hc v hv Q hQ
  · rw [if_neg hc] at hv
    exact kf hc v hv Q hQ
theorem g_by {x : Cxt} {nL pc : Nat} {lv : List (Nat × Value)} {st : List Value} {KD : Kd} {M : Mm} {τ : Type} {A B : Option τ} {Ψ : τ → (State → Prop) → Prop} {c : Prop} {inst : Decidable c} (kt : c → Gz x nL pc lv st KD M A Ψ) (kf : ¬ c → Gz x nL pc lv st KD M B Ψ) : Gz x nL pc lv st KD M (@ite _ c inst A B) Ψ := by
  intro v hv Q hQ
  by_cases hc : c
  · rw [if_pos hc] at hv
    exact kt hc v hv Q hQ
  · rw [if_neg hc] at hv
    exact kf hc v hv Q hQ
theorem g_byS {x : Cxt} {nL pc : Nat} {lv : List (Nat × Value)} {st : List Value} {KD : Kd} {M : Mm} {τ : Type} {A B : τ} {Ψ : τ → (State → Prop) → Prop} {c : Prop} {inst : Decidable c} (kt : c → Gz x nL pc lv st KD M (some A) Ψ) (kf : ¬ c → Gz x nL pc lv st KD M (some B) Ψ) : Gz x nL pc lv st KD M (some (@ite _ c inst A B)) Ψ := by
  intro v hv Q hQ
  by_cases hc : c
  · rw [if_pos hc] at hv
    exact kt hc v hv Q hQ
  · rw [if_neg hc] at hv
    exact kf hc v hv Q hQ
theorem g_gd {x : Cxt} {nL pc : Nat} {lv : List (Nat × Value)} {st : List Value} {KD : Kd} {M : Mm} {τ : Type} {A : Option τ} {Ψ : τ → (State → Prop) → Prop} {c : Prop} {inst : Decidable c} (k : c → Gz x nL pc lv st KD M A Ψ) : Gz x nL pc lv st KD M (@Gd _ c inst A) Ψ := by
  intro v hv Q hQ
  unfold Gd at hv
  by_cases hc : c
  · rw [if_pos hc] at hv
    exact k hc v hv Q hQ
  · rw [if_neg hc] at hv
    cases hv
theorem g_lt {x : Cxt} {nL pc : Nat} {lv : List (Nat × Value)} {st : List Value} {KD : Kd} {M : Mm} {α τ : Type} {e : α} {k : α → Option τ} {Ψ : τ → (State → Prop) → Prop} {pc' : Nat} (lvf : α → List (Nat × Value)) (stf : α → List Value) (Mf : α → Mm) (h : StpZ x nL pc lv st KD M pc' (lvf e) (stf e) KD (Mf e)) (kk : ∀ v, Gz x nL pc' (lvf v) (stf v) KD (Mf v) (k v) Ψ) : Gz x nL pc lv st KD M (Lt e k) Ψ := fun v hv Q hQ => h Q (kk e v hv Q hQ)
theorem g_ltJ {x : Cxt} {nL pc : Nat} {lv : List (Nat × Value)} {st : List Value} {KD : Kd} {M : Mm} {α τ : Type} {e : α} {k : α → Option τ} {Ψ : τ → (State → Prop) → Prop} {J : Nat} (lvf : α → List (Nat × Value)) (stf : α → List Value) (Mf : α → Mm) (h : Gz x nL pc lv st KD M (some e) (toJ x nL J lvf stf KD Mf)) (kk : ∀ v, Gz x nL J (lvf v) (stf v) KD (Mf v) (k v) Ψ) : Gz x nL pc lv st KD M (Lt e k) Ψ := fun v hv Q hQ => h e rfl Q (kk e v hv Q hQ)
theorem g_bd {x : Cxt} {nL pc : Nat} {lv : List (Nat × Value)} {st : List Value} {KD : Kd} {M : Mm} {α τ : Type} {o1 : Option α} {k : α → Option τ} {Ψ : τ → (State → Prop) → Prop} {pc' : Nat} (lvf : α → List (Nat × Value)) (stf : α → List Value) (Mf : α → Mm) (h : ∀ a, o1 = some a → StpZ x nL pc lv st KD M pc' (lvf a) (stf a) KD (Mf a)) (kk : ∀ a, Gz x nL pc' (lvf a) (stf a) KD (Mf a) (k a) Ψ) : Gz x nL pc lv st KD M (Bd o1 k) Ψ := by
  intro v hv Q hQ
  obtain ⟨a, ha, hk⟩ := Option.bind_eq_some_iff.mp hv
  exact h a ha Q (kk a v hk Q hQ)
theorem g_bdJ {x : Cxt} {nL pc : Nat} {lv : List (Nat × Value)} {st : List Value} {KD : Kd} {M : Mm} {α τ : Type} {o1 : Option α} {k : α → Option τ} {Ψ : τ → (State → Prop) → Prop} {J : Nat} (lvf : α → List (Nat × Value)) (stf : α → List Value) (Mf : α → Mm) (h : Gz x nL pc lv st KD M o1 (toJ x nL J lvf stf KD Mf)) (kk : ∀ a, Gz x nL J (lvf a) (stf a) KD (Mf a) (k a) Ψ) : Gz x nL pc lv st KD M (Bd o1 k) Ψ := by
  intro v hv Q hQ
  obtain ⟨a, ha, hk⟩ := Option.bind_eq_some_iff.mp hv
  exact h a ha Q (kk a v hk Q hQ)
theorem g_bdS {x : Cxt} {nL pc : Nat} {lv : List (Nat × Value)} {st : List Value} {KD : Kd} {M : Mm} {α ρ : Type} {o1 : Option (ρ ⊕ α)} {k : α → Option ρ} {Ψ : ρ → (State → Prop) → Prop} {J : Nat} (lvf : α → List (Nat × Value)) (stf : α → List Value) (Mf : α → Mm) (h : Gz x nL pc lv st KD M o1 (sumP Ψ (toJ x nL J lvf stf KD Mf))) (kk : ∀ a, Gz x nL J (lvf a) (stf a) KD (Mf a) (k a) Ψ) : Gz x nL pc lv st KD M (BdS o1 k) Ψ := by
  intro v hv Q hQ
  obtain ⟨a, ha, hk⟩ := Option.bind_eq_some_iff.mp hv
  cases a with
  | inl r =>
    have e : r = v := Option.some.inj (show some r = some v from hk)
    subst e
    exact h (.inl r) ha Q hQ
  | inr a => exact h (.inr a) ha Q (kk a v hk Q hQ)
theorem g_end {x : Cxt} {nL J : Nat} {lv : List (Nat × Value)} {st : List Value} {KD : Kd} {M : Mm} {α : Type} {a : α} {lvf : α → List (Nat × Value)} {stf : α → List Value} {Mf : α → Mm} (ks : List Nat) (hl : lv_pick lv ks = lvf a) (hs : st = stf a) (hM : M = Mf a) : Gz x nL J lv st KD M (some a) (toJ x nL J lvf stf KD Mf) := by
  intro v hv Q hQ
  cases hv
  obtain ⟨p, l, e, R, s, m, args, below, meth, c, D, an, b, n0, s0, zf⟩ := x
  intro ls H locs cs sl hl2 hP hz hS hc hs2
  rw [hs]
  rw [hM] at hP
  exact hQ ls H locs cs sl (hl ▸ lv_sub hl2 ks rfl) hP hz hS hc hs2
theorem g_pick {x : Cxt} {nL pc : Nat} {lv : List (Nat × Value)} {st : List Value} {KD : Kd} {M : Mm} {τ : Type} {o : Option τ} {Ψ : τ → (State → Prop) → Prop} {lv' : List (Nat × Value)} (ks : List Nat) (hl : lv_pick lv ks = lv') (k : Gz x nL pc lv' st KD M o Ψ) : Gz x nL pc lv st KD M o Ψ := by
  intro v hv Q hQ
  have h := k v hv Q hQ
  obtain ⟨p, l, e, R, s, m, args, below, meth, c, D, an, b, n0, s0, zf⟩ := x
  intro ls H locs cs sl hl2 hP hz hS hc hs2
  exact h ls H locs cs sl (hl ▸ lv_sub hl2 ks rfl) hP hz hS hc hs2
theorem g_inl {x : Cxt} {nL pc : Nat} {lv : List (Nat × Value)} {st : List Value} {KD : Kd} {M : Mm} {α β : Type} {a : α} {Ψ1 : α → (State → Prop) → Prop} {Ψ2 : β → (State → Prop) → Prop} (k : Gz x nL pc lv st KD M (some a) Ψ1) : Gz x nL pc lv st KD M (some (.inl a)) (sumP Ψ1 Ψ2) := by
  intro v hv Q hQ
  cases hv
  exact k a rfl Q hQ
theorem g_inr {x : Cxt} {nL pc : Nat} {lv : List (Nat × Value)} {st : List Value} {KD : Kd} {M : Mm} {α β : Type} {a : β} {Ψ1 : α → (State → Prop) → Prop} {Ψ2 : β → (State → Prop) → Prop} (k : Gz x nL pc lv st KD M (some a) Ψ2) : Gz x nL pc lv st KD M (some (.inr a)) (sumP Ψ1 Ψ2) := by
  intro v hv Q hQ
  cases hv
  exact k a rfl Q hQ
theorem g_lp {x : Cxt} {nL pc : Nat} {st : List Value} {KD : Kd} {σ τ : Type} {f : σ → Option (σ ⊕ τ)} {Ψ : τ → (State → Prop) → Prop} (lvf : σ → List (Nat × Value)) (Mf : σ → Mm) (h : ∀ s, Gz x nL pc (lvf s) st KD (Mf s) (f s) (sumP (toJ x nL pc lvf (fun _ => st) KD Mf) Ψ)) : ∀ (n : Nat) (s : σ), Gz x nL pc (lvf s) st KD (Mf s) (Lp f n s) Ψ := by
  intro n
  induction n with
  | zero => intro s v hv; cases hv
  | succ n ih =>
    intro s v hv Q hQ
    obtain ⟨a, ha, hk⟩ := Option.bind_eq_some_iff.mp hv
    cases a with
    | inl s' => exact h s (.inl s') ha Q (ih s' v hk Q hQ)
    | inr t =>
      have e : t = v := Option.some.inj (show some t = some v from hk)
      subst e
      exact h s (.inr t) ha Q hQ
theorem g_rI2 {x : Cxt} {cc : ByteArray} {nL : Nat} {own : String} (X : Ok x cc nL own (some .int)) {pc : Nat} {lv : List (Nat × Value)} {KD : Kd} {M : Mm} {v : Int32} (hd : decode cc pc = .ok (.ireturn, 1)) : Gz x nL pc lv [.int v] KD M (some (v, M)) (PsI2 x KD) := fun _ hv Q hQ => by cases hv; exact hQ ▸ w_iret X hd
theorem g_rI {x : Cxt} {cc : ByteArray} {nL : Nat} {own : String} (X : Ok x cc nL own (some .int)) {pc : Nat} {lv : List (Nat × Value)} {KD : Kd} {M : Mm} {v : Int32} (hd : decode cc pc = .ok (.ireturn, 1)) : Gz x nL pc lv [.int v] KD M (some v) (PsI x KD M) := fun _ hv Q hQ => by cases hv; exact hQ ▸ w_iret X hd
theorem g_rZ2 {x : Cxt} {cc : ByteArray} {nL : Nat} {own : String} (X : Ok x cc nL own (some .boolean)) {pc : Nat} {lv : List (Nat × Value)} {KD : Kd} {M : Mm} {v : Int32} (hz : zb v) (hd : decode cc pc = .ok (.ireturn, 1)) : Gz x nL pc lv [.int v] KD M (some (v, M)) (PsI2 x KD) := fun _ hv Q hQ => by cases hv; exact hQ ▸ w_zret X hz hd
theorem g_rZ {x : Cxt} {cc : ByteArray} {nL : Nat} {own : String} (X : Ok x cc nL own (some .boolean)) {pc : Nat} {lv : List (Nat × Value)} {KD : Kd} {M : Mm} {v : Int32} (hz : zb v) (hd : decode cc pc = .ok (.ireturn, 1)) : Gz x nL pc lv [.int v] KD M (some v) (PsI x KD M) := fun _ hv Q hQ => by cases hv; exact hQ ▸ w_zret X hz hd
theorem g_rM {x : Cxt} {cc : ByteArray} {nL : Nat} {own : String} (X : Ok x cc nL own none) {pc : Nat} {lv : List (Nat × Value)} {KD : Kd} {M : Mm} (hd : decode cc pc = .ok (.return_, 1)) : Gz x nL pc lv [] KD M (some M) (PsM x KD) := fun _ hv Q hQ => by cases hv; exact hQ ▸ w_vret X hd
theorem g_rV {x : Cxt} {cc : ByteArray} {nL : Nat} {own : String} (X : Ok x cc nL own none) {pc : Nat} {lv : List (Nat × Value)} {KD : Kd} {M : Mm} {u : Unit} (hd : decode cc pc = .ok (.return_, 1)) : Gz x nL pc lv [] KD M (some u) (PsV x KD M) := fun _ hv Q hQ => by cases hv; exact hQ ▸ w_vret X hd
theorem g_rR {x : Cxt} {cc : ByteArray} {nL : Nat} {own C : String} (X : Ok x cc nL own (some (.object C))) {pc : Nat} {lv : List (Nat × Value)} {KD : Kd} {M : Mm} {v : Nat} (hd : decode cc pc = .ok (.areturn, 1)) : Gz x nL pc lv [.ref (xb x + v)] KD M (some v) (PsR x KD M) := fun _ hv Q hQ => by cases hv; exact hQ ▸ w_aret X hd
theorem zb0 : zb 0 := Or.inl rfl
theorem zb1 : zb 1 := Or.inr rfl
theorem zbi {c : Prop} {inst : Decidable c} {a b : Int32} (ha : zb a) (hb : zb b) : zb (@ite _ c inst a b) := by
  by_cases h : c
  · rw [if_pos h]; exact ha
  · rw [if_neg h]; exact hb
theorem ib_lit {i : Int32} {n : Nat} (h : decide (ib i n) = true) : ib i n := of_decide_eq_true h
theorem CtX.mk {l : Launch} {D : va_G} {an : An} {b zf : Nat} {y : MethodName} {cc : ByteArray} {nL : Nat} {ret : Option FieldType} {d : Nat} {as : Nat → List Value} {KD : Kd} {M : Mm} {rv : Nat → Option Value} {KD' : Kd} {M' : Mm} (hy : plainName y.cls = true) (hlen : ∀ b, (lg_sl (as b)).length ≤ nL) (hKD : KD.length ≤ KD'.length ∧ ssum KD ≤ ssum KD')
    (body : ∀ x : Cxt, Ok x cc nL y.cls ret → Rm x d KD' → xz x = zf → Nst x → Nm0 x KD → Nin x y.name → WX x nL 0 (lv_args 0 (as (xb x))) [] KD M (retQ x (rv (xb x)) KD' M')) : Ct l D an b zf y cc nL ret d (as b) KD M (rv b) KD' M' :=
  Ct.mk hy (hlen b) hKD (fun x hO hR _ _ _ hb hz hN hm hi => by subst hb; exact body x hO hR hz hN hm hi)
end
