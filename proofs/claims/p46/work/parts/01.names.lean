-- ===== PART A: goes FIRST, ahead of the names: the tables' words, and 'selects' of the private methods out of them =====
/-- a private method of a class that the tables say can be made, by its rows of tables_1 -/
def lw_okq (q : MethodName × Nat) : Prop := (q.1.cls ≠ "java/lang/invoke/MethodHandle" ∧ q.1.cls ≠ "java/lang/invoke/VarHandle") ∧ Cond.instantiable q.1.cls q.2 ∈ tables_1 ∧ Cond.privateMethod q.1 ∈ tables_1 ∧ Cond.instanceMethod q.1 ∈ tables_1
theorem lw_p0 : lw_okq (⟨"ClockOfSwallows", "refuse", "(I)I"⟩, 18) := ⟨⟨by decide +kernel, by decide +kernel⟩, List.mem_of_getElem? (i := 20) (by decide +kernel), List.mem_of_getElem? (i := 339) (by decide +kernel), List.mem_of_getElem? (i := 340) (by decide +kernel)⟩
theorem lw_p1 : lw_okq (⟨"ClockOfSwallows", "readTown", "()I"⟩, 18) := ⟨⟨by decide +kernel, by decide +kernel⟩, List.mem_of_getElem? (i := 20) (by decide +kernel), List.mem_of_getElem? (i := 366) (by decide +kernel), List.mem_of_getElem? (i := 367) (by decide +kernel)⟩
theorem lw_p2 : lw_okq (⟨"ClockOfSwallows", "comesTrue", "(I)Z"⟩, 18) := ⟨⟨by decide +kernel, by decide +kernel⟩, List.mem_of_getElem? (i := 20) (by decide +kernel), List.mem_of_getElem? (i := 381) (by decide +kernel), List.mem_of_getElem? (i := 382) (by decide +kernel)⟩
theorem lw_p3 : lw_okq (⟨"ClockOfSwallows", "birdComes", "(III)Z"⟩, 18) := ⟨⟨by decide +kernel, by decide +kernel⟩, List.mem_of_getElem? (i := 20) (by decide +kernel), List.mem_of_getElem? (i := 387) (by decide +kernel), List.mem_of_getElem? (i := 388) (by decide +kernel)⟩
theorem lw_p4 : lw_okq (⟨"ClockOfSwallows", "weightComes", "(II)Z"⟩, 18) := ⟨⟨by decide +kernel, by decide +kernel⟩, List.mem_of_getElem? (i := 20) (by decide +kernel), List.mem_of_getElem? (i := 400) (by decide +kernel), List.mem_of_getElem? (i := 401) (by decide +kernel)⟩
theorem lw_p5 : lw_okq (⟨"ClockOfSwallows", "hoursCome", "(II)Z"⟩, 18) := ⟨⟨by decide +kernel, by decide +kernel⟩, List.mem_of_getElem? (i := 20) (by decide +kernel), List.mem_of_getElem? (i := 408) (by decide +kernel), List.mem_of_getElem? (i := 409) (by decide +kernel)⟩
theorem lw_p6 : lw_okq (⟨"ClockOfSwallows$Flock", "wanted", "(II)I"⟩, 8) := ⟨⟨by decide +kernel, by decide +kernel⟩, List.mem_of_getElem? (i := 28) (by decide +kernel), List.mem_of_getElem? (i := 416) (by decide +kernel), List.mem_of_getElem? (i := 417) (by decide +kernel)⟩
theorem lw_p7 : lw_okq (⟨"ClockOfSwallows$Flock", "wantedYoung", "(II)I"⟩, 8) := ⟨⟨by decide +kernel, by decide +kernel⟩, List.mem_of_getElem? (i := 28) (by decide +kernel), List.mem_of_getElem? (i := 423) (by decide +kernel), List.mem_of_getElem? (i := 424) (by decide +kernel)⟩
theorem lw_p8 : lw_okq (⟨"ClockOfSwallows$Flock", "reaches", "(II)Z"⟩, 8) := ⟨⟨by decide +kernel, by decide +kernel⟩, List.mem_of_getElem? (i := 28) (by decide +kernel), List.mem_of_getElem? (i := 436) (by decide +kernel), List.mem_of_getElem? (i := 437) (by decide +kernel)⟩
theorem lw_p9 : lw_okq (⟨"ClockOfSwallows$Flock", "go", "(II)V"⟩, 8) := ⟨⟨by decide +kernel, by decide +kernel⟩, List.mem_of_getElem? (i := 28) (by decide +kernel), List.mem_of_getElem? (i := 443) (by decide +kernel), List.mem_of_getElem? (i := 444) (by decide +kernel)⟩
theorem lw_p10 : lw_okq (⟨"ClockOfSwallows", "catComes", "(I)Z"⟩, 18) := ⟨⟨by decide +kernel, by decide +kernel⟩, List.mem_of_getElem? (i := 20) (by decide +kernel), List.mem_of_getElem? (i := 451) (by decide +kernel), List.mem_of_getElem? (i := 452) (by decide +kernel)⟩
theorem lw_p11 : lw_okq (⟨"ClockOfSwallows$Flock", "refuge", "(I)I"⟩, 8) := ⟨⟨by decide +kernel, by decide +kernel⟩, List.mem_of_getElem? (i := 28) (by decide +kernel), List.mem_of_getElem? (i := 459) (by decide +kernel), List.mem_of_getElem? (i := 460) (by decide +kernel)⟩
theorem lw_p12 : lw_okq (⟨"ClockOfSwallows", "noBird", "(I)I"⟩, 18) := ⟨⟨by decide +kernel, by decide +kernel⟩, List.mem_of_getElem? (i := 20) (by decide +kernel), List.mem_of_getElem? (i := 486) (by decide +kernel), List.mem_of_getElem? (i := 487) (by decide +kernel)⟩
theorem lw_p13 : lw_okq (⟨"ClockOfSwallows", "noWire", "(I)I"⟩, 18) := ⟨⟨by decide +kernel, by decide +kernel⟩, List.mem_of_getElem? (i := 20) (by decide +kernel), List.mem_of_getElem? (i := 504) (by decide +kernel), List.mem_of_getElem? (i := 505) (by decide +kernel)⟩
theorem lw_p14 : lw_okq (⟨"ClockOfSwallows", "thinkBehind", "(I)LClockOfSwallows$Flock;"⟩, 18) := ⟨⟨by decide +kernel, by decide +kernel⟩, List.mem_of_getElem? (i := 20) (by decide +kernel), List.mem_of_getElem? (i := 560) (by decide +kernel), List.mem_of_getElem? (i := 561) (by decide +kernel)⟩
theorem lw_p15 : lw_okq (⟨"ClockOfSwallows", "think", "()LClockOfSwallows$Flock;"⟩, 18) := ⟨⟨by decide +kernel, by decide +kernel⟩, List.mem_of_getElem? (i := 20) (by decide +kernel), List.mem_of_getElem? (i := 564) (by decide +kernel), List.mem_of_getElem? (i := 565) (by decide +kernel)⟩
def lw_privs_1 : List (MethodName × Nat) := [(⟨"ClockOfSwallows", "refuse", "(I)I"⟩, 18), (⟨"ClockOfSwallows", "readTown", "()I"⟩, 18), (⟨"ClockOfSwallows", "comesTrue", "(I)Z"⟩, 18), (⟨"ClockOfSwallows", "birdComes", "(III)Z"⟩, 18), (⟨"ClockOfSwallows", "weightComes", "(II)Z"⟩, 18), (⟨"ClockOfSwallows", "hoursCome", "(II)Z"⟩, 18), (⟨"ClockOfSwallows$Flock", "wanted", "(II)I"⟩, 8), (⟨"ClockOfSwallows$Flock", "wantedYoung", "(II)I"⟩, 8), (⟨"ClockOfSwallows$Flock", "reaches", "(II)Z"⟩, 8), (⟨"ClockOfSwallows$Flock", "go", "(II)V"⟩, 8), (⟨"ClockOfSwallows", "catComes", "(I)Z"⟩, 18), (⟨"ClockOfSwallows$Flock", "refuge", "(I)I"⟩, 8), (⟨"ClockOfSwallows", "noBird", "(I)I"⟩, 18), (⟨"ClockOfSwallows", "noWire", "(I)I"⟩, 18), (⟨"ClockOfSwallows", "thinkBehind", "(I)LClockOfSwallows$Flock;"⟩, 18), (⟨"ClockOfSwallows", "think", "()LClockOfSwallows$Flock;"⟩, 18)]
theorem lw_r1 : ∀ q ∈ lw_privs_1, lw_okq q := List.forall_mem_cons.mpr ⟨lw_p0, List.forall_mem_cons.mpr ⟨lw_p1, List.forall_mem_cons.mpr ⟨lw_p2, List.forall_mem_cons.mpr ⟨lw_p3, List.forall_mem_cons.mpr ⟨lw_p4, List.forall_mem_cons.mpr ⟨lw_p5, List.forall_mem_cons.mpr ⟨lw_p6, List.forall_mem_cons.mpr ⟨lw_p7, List.forall_mem_cons.mpr ⟨lw_p8, List.forall_mem_cons.mpr ⟨lw_p9, List.forall_mem_cons.mpr ⟨lw_p10, List.forall_mem_cons.mpr ⟨lw_p11, List.forall_mem_cons.mpr ⟨lw_p12, List.forall_mem_cons.mpr ⟨lw_p13, List.forall_mem_cons.mpr ⟨lw_p14, List.forall_mem_cons.mpr ⟨lw_p15, fun _ h => absurd h List.not_mem_nil⟩⟩⟩⟩⟩⟩⟩⟩⟩⟩⟩⟩⟩⟩⟩⟩
theorem lw_p16 : lw_okq (⟨"ClockOfSwallows", "trainsLooked", "(IIZ)I"⟩, 18) := ⟨⟨by decide +kernel, by decide +kernel⟩, List.mem_of_getElem? (i := 20) (by decide +kernel), List.mem_of_getElem? (i := 620) (by decide +kernel), List.mem_of_getElem? (i := 621) (by decide +kernel)⟩
theorem lw_p17 : lw_okq (⟨"ClockOfSwallows", "firstUnlike", "(LClockOfSwallows$Flock;)I"⟩, 18) := ⟨⟨by decide +kernel, by decide +kernel⟩, List.mem_of_getElem? (i := 20) (by decide +kernel), List.mem_of_getElem? (i := 634) (by decide +kernel), List.mem_of_getElem? (i := 635) (by decide +kernel)⟩
theorem lw_p18 : lw_okq (⟨"ClockOfSwallows", "noteShown", "(I)V"⟩, 18) := ⟨⟨by decide +kernel, by decide +kernel⟩, List.mem_of_getElem? (i := 20) (by decide +kernel), List.mem_of_getElem? (i := 645) (by decide +kernel), List.mem_of_getElem? (i := 646) (by decide +kernel)⟩
theorem lw_p19 : lw_okq (⟨"ClockOfSwallows", "thinkFed", "(I)LClockOfSwallows$Flock;"⟩, 18) := ⟨⟨by decide +kernel, by decide +kernel⟩, List.mem_of_getElem? (i := 20) (by decide +kernel), List.mem_of_getElem? (i := 671) (by decide +kernel), List.mem_of_getElem? (i := 672) (by decide +kernel)⟩
theorem lw_p20 : lw_okq (⟨"ClockOfSwallows", "nextChords", "()I"⟩, 18) := ⟨⟨by decide +kernel, by decide +kernel⟩, List.mem_of_getElem? (i := 20) (by decide +kernel), List.mem_of_getElem? (i := 683) (by decide +kernel), List.mem_of_getElem? (i := 684) (by decide +kernel)⟩
theorem lw_p21 : lw_okq (⟨"ClockOfSwallows", "rivalSure", "(I)I"⟩, 18) := ⟨⟨by decide +kernel, by decide +kernel⟩, List.mem_of_getElem? (i := 20) (by decide +kernel), List.mem_of_getElem? (i := 697) (by decide +kernel), List.mem_of_getElem? (i := 698) (by decide +kernel)⟩
theorem lw_p22 : lw_okq (⟨"ClockOfSwallows", "mostWrong", "(II)I"⟩, 18) := ⟨⟨by decide +kernel, by decide +kernel⟩, List.mem_of_getElem? (i := 20) (by decide +kernel), List.mem_of_getElem? (i := 701) (by decide +kernel), List.mem_of_getElem? (i := 702) (by decide +kernel)⟩
theorem lw_p23 : lw_okq (⟨"ClockOfSwallows", "seekFromNow", "(LClockOfSwallows$Quest;)V"⟩, 18) := ⟨⟨by decide +kernel, by decide +kernel⟩, List.mem_of_getElem? (i := 20) (by decide +kernel), List.mem_of_getElem? (i := 723) (by decide +kernel), List.mem_of_getElem? (i := 724) (by decide +kernel)⟩
theorem lw_p24 : lw_okq (⟨"ClockOfSwallows$MovedQuest", "note", "(I)V"⟩, 8) := ⟨⟨by decide +kernel, by decide +kernel⟩, List.mem_of_getElem? (i := 218) (by decide +kernel), List.mem_of_getElem? (i := 792) (by decide +kernel), List.mem_of_getElem? (i := 793) (by decide +kernel)⟩
theorem lw_p25 : lw_okq (⟨"ClockOfSwallows", "unfitRow", "(I)I"⟩, 18) := ⟨⟨by decide +kernel, by decide +kernel⟩, List.mem_of_getElem? (i := 20) (by decide +kernel), List.mem_of_getElem? (i := 824) (by decide +kernel), List.mem_of_getElem? (i := 825) (by decide +kernel)⟩
theorem lw_p26 : lw_okq (⟨"ClockOfSwallows", "addErrsByWeight", "(LClockOfSwallows$Flock;)V"⟩, 18) := ⟨⟨by decide +kernel, by decide +kernel⟩, List.mem_of_getElem? (i := 20) (by decide +kernel), List.mem_of_getElem? (i := 904) (by decide +kernel), List.mem_of_getElem? (i := 905) (by decide +kernel)⟩
theorem lw_p27 : lw_okq (⟨"ClockOfSwallows", "errsWithout", "(I)I"⟩, 18) := ⟨⟨by decide +kernel, by decide +kernel⟩, List.mem_of_getElem? (i := 20) (by decide +kernel), List.mem_of_getElem? (i := 913) (by decide +kernel), List.mem_of_getElem? (i := 914) (by decide +kernel)⟩
theorem lw_p28 : lw_okq (⟨"ClockOfSwallows", "movesToEven", "()I"⟩, 18) := ⟨⟨by decide +kernel, by decide +kernel⟩, List.mem_of_getElem? (i := 20) (by decide +kernel), List.mem_of_getElem? (i := 925) (by decide +kernel), List.mem_of_getElem? (i := 926) (by decide +kernel)⟩
theorem lw_p29 : lw_okq (⟨"ClockOfSwallows", "movesToFill", "(II)I"⟩, 18) := ⟨⟨by decide +kernel, by decide +kernel⟩, List.mem_of_getElem? (i := 20) (by decide +kernel), List.mem_of_getElem? (i := 929) (by decide +kernel), List.mem_of_getElem? (i := 930) (by decide +kernel)⟩
theorem lw_p30 : lw_okq (⟨"ClockOfSwallows$Row", "thinkOver", "()Z"⟩, 4) := ⟨⟨by decide +kernel, by decide +kernel⟩, List.mem_of_getElem? (i := 112) (by decide +kernel), List.mem_of_getElem? (i := 958) (by decide +kernel), List.mem_of_getElem? (i := 959) (by decide +kernel)⟩
theorem lw_p31 : lw_okq (⟨"ClockOfSwallowsModel", "no", "(I)I"⟩, 33) := ⟨⟨by decide +kernel, by decide +kernel⟩, List.mem_of_getElem? (i := 984) (by decide +kernel), List.mem_of_getElem? (i := 1097) (by decide +kernel), List.mem_of_getElem? (i := 1098) (by decide +kernel)⟩
def lw_privs_2 : List (MethodName × Nat) := [(⟨"ClockOfSwallows", "trainsLooked", "(IIZ)I"⟩, 18), (⟨"ClockOfSwallows", "firstUnlike", "(LClockOfSwallows$Flock;)I"⟩, 18), (⟨"ClockOfSwallows", "noteShown", "(I)V"⟩, 18), (⟨"ClockOfSwallows", "thinkFed", "(I)LClockOfSwallows$Flock;"⟩, 18), (⟨"ClockOfSwallows", "nextChords", "()I"⟩, 18), (⟨"ClockOfSwallows", "rivalSure", "(I)I"⟩, 18), (⟨"ClockOfSwallows", "mostWrong", "(II)I"⟩, 18), (⟨"ClockOfSwallows", "seekFromNow", "(LClockOfSwallows$Quest;)V"⟩, 18), (⟨"ClockOfSwallows$MovedQuest", "note", "(I)V"⟩, 8), (⟨"ClockOfSwallows", "unfitRow", "(I)I"⟩, 18), (⟨"ClockOfSwallows", "addErrsByWeight", "(LClockOfSwallows$Flock;)V"⟩, 18), (⟨"ClockOfSwallows", "errsWithout", "(I)I"⟩, 18), (⟨"ClockOfSwallows", "movesToEven", "()I"⟩, 18), (⟨"ClockOfSwallows", "movesToFill", "(II)I"⟩, 18), (⟨"ClockOfSwallows$Row", "thinkOver", "()Z"⟩, 4), (⟨"ClockOfSwallowsModel", "no", "(I)I"⟩, 33)]
theorem lw_r2 : ∀ q ∈ lw_privs_2, lw_okq q := List.forall_mem_cons.mpr ⟨lw_p16, List.forall_mem_cons.mpr ⟨lw_p17, List.forall_mem_cons.mpr ⟨lw_p18, List.forall_mem_cons.mpr ⟨lw_p19, List.forall_mem_cons.mpr ⟨lw_p20, List.forall_mem_cons.mpr ⟨lw_p21, List.forall_mem_cons.mpr ⟨lw_p22, List.forall_mem_cons.mpr ⟨lw_p23, List.forall_mem_cons.mpr ⟨lw_p24, List.forall_mem_cons.mpr ⟨lw_p25, List.forall_mem_cons.mpr ⟨lw_p26, List.forall_mem_cons.mpr ⟨lw_p27, List.forall_mem_cons.mpr ⟨lw_p28, List.forall_mem_cons.mpr ⟨lw_p29, List.forall_mem_cons.mpr ⟨lw_p30, List.forall_mem_cons.mpr ⟨lw_p31, fun _ h => absurd h List.not_mem_nil⟩⟩⟩⟩⟩⟩⟩⟩⟩⟩⟩⟩⟩⟩⟩⟩
theorem lw_p32 : lw_okq (⟨"ClockOfSwallowsModel", "statement", "()Z"⟩, 33) := ⟨⟨by decide +kernel, by decide +kernel⟩, List.mem_of_getElem? (i := 984) (by decide +kernel), List.mem_of_getElem? (i := 1105) (by decide +kernel), List.mem_of_getElem? (i := 1106) (by decide +kernel)⟩
theorem lw_p33 : lw_okq (⟨"ClockOfSwallowsModel", "next", "()I"⟩, 33) := ⟨⟨by decide +kernel, by decide +kernel⟩, List.mem_of_getElem? (i := 984) (by decide +kernel), List.mem_of_getElem? (i := 1109) (by decide +kernel), List.mem_of_getElem? (i := 1110) (by decide +kernel)⟩
theorem lw_p34 : lw_okq (⟨"ClockOfSwallowsModel", "readsAll", "(II)Z"⟩, 33) := ⟨⟨by decide +kernel, by decide +kernel⟩, List.mem_of_getElem? (i := 984) (by decide +kernel), List.mem_of_getElem? (i := 1113) (by decide +kernel), List.mem_of_getElem? (i := 1114) (by decide +kernel)⟩
theorem lw_p35 : lw_okq (⟨"ClockOfSwallowsModel", "readsDigits", "(II)Z"⟩, 33) := ⟨⟨by decide +kernel, by decide +kernel⟩, List.mem_of_getElem? (i := 984) (by decide +kernel), List.mem_of_getElem? (i := 1117) (by decide +kernel), List.mem_of_getElem? (i := 1118) (by decide +kernel)⟩
theorem lw_p36 : lw_okq (⟨"ClockOfSwallowsModel", "passesAll", "(IZ)V"⟩, 33) := ⟨⟨by decide +kernel, by decide +kernel⟩, List.mem_of_getElem? (i := 984) (by decide +kernel), List.mem_of_getElem? (i := 1124) (by decide +kernel), List.mem_of_getElem? (i := 1125) (by decide +kernel)⟩
theorem lw_p37 : lw_okq (⟨"ClockOfSwallowsModel", "passes", "([I)V"⟩, 33) := ⟨⟨by decide +kernel, by decide +kernel⟩, List.mem_of_getElem? (i := 984) (by decide +kernel), List.mem_of_getElem? (i := 1128) (by decide +kernel), List.mem_of_getElem? (i := 1129) (by decide +kernel)⟩
theorem lw_p38 : lw_okq (⟨"ClockOfSwallowsModel", "passOne", "(I)I"⟩, 33) := ⟨⟨by decide +kernel, by decide +kernel⟩, List.mem_of_getElem? (i := 984) (by decide +kernel), List.mem_of_getElem? (i := 1132) (by decide +kernel), List.mem_of_getElem? (i := 1133) (by decide +kernel)⟩
theorem lw_p39 : lw_okq (⟨"ClockOfSwallowsModel", "comes", "(I)Z"⟩, 33) := ⟨⟨by decide +kernel, by decide +kernel⟩, List.mem_of_getElem? (i := 984) (by decide +kernel), List.mem_of_getElem? (i := 1136) (by decide +kernel), List.mem_of_getElem? (i := 1137) (by decide +kernel)⟩
theorem lw_p40 : lw_okq (⟨"ClockOfSwallowsModel", "comesBird", "(I)Z"⟩, 33) := ⟨⟨by decide +kernel, by decide +kernel⟩, List.mem_of_getElem? (i := 984) (by decide +kernel), List.mem_of_getElem? (i := 1140) (by decide +kernel), List.mem_of_getElem? (i := 1141) (by decide +kernel)⟩
theorem lw_p41 : lw_okq (⟨"ClockOfSwallowsModel", "isWire", "(I)Z"⟩, 33) := ⟨⟨by decide +kernel, by decide +kernel⟩, List.mem_of_getElem? (i := 984) (by decide +kernel), List.mem_of_getElem? (i := 1144) (by decide +kernel), List.mem_of_getElem? (i := 1145) (by decide +kernel)⟩
theorem lw_p42 : lw_okq (⟨"ClockOfSwallowsModel", "hasRoom", "(I)Z"⟩, 33) := ⟨⟨by decide +kernel, by decide +kernel⟩, List.mem_of_getElem? (i := 984) (by decide +kernel), List.mem_of_getElem? (i := 1148) (by decide +kernel), List.mem_of_getElem? (i := 1149) (by decide +kernel)⟩
theorem lw_p43 : lw_okq (⟨"ClockOfSwallowsModel", "manyOn", "(I)I"⟩, 33) := ⟨⟨by decide +kernel, by decide +kernel⟩, List.mem_of_getElem? (i := 984) (by decide +kernel), List.mem_of_getElem? (i := 1152) (by decide +kernel), List.mem_of_getElem? (i := 1153) (by decide +kernel)⟩
theorem lw_p44 : lw_okq (⟨"ClockOfSwallowsModel", "adds", "(III)V"⟩, 33) := ⟨⟨by decide +kernel, by decide +kernel⟩, List.mem_of_getElem? (i := 984) (by decide +kernel), List.mem_of_getElem? (i := 1156) (by decide +kernel), List.mem_of_getElem? (i := 1157) (by decide +kernel)⟩
theorem lw_p45 : lw_okq (⟨"ClockOfSwallowsModel", "comesHours", "(II)Z"⟩, 33) := ⟨⟨by decide +kernel, by decide +kernel⟩, List.mem_of_getElem? (i := 984) (by decide +kernel), List.mem_of_getElem? (i := 1160) (by decide +kernel), List.mem_of_getElem? (i := 1161) (by decide +kernel)⟩
theorem lw_p46 : lw_okq (⟨"ClockOfSwallowsModel", "goes", "(II)V"⟩, 33) := ⟨⟨by decide +kernel, by decide +kernel⟩, List.mem_of_getElem? (i := 984) (by decide +kernel), List.mem_of_getElem? (i := 1164) (by decide +kernel), List.mem_of_getElem? (i := 1165) (by decide +kernel)⟩
theorem lw_p47 : lw_okq (⟨"ClockOfSwallowsModel", "goesOne", "(I)I"⟩, 33) := ⟨⟨by decide +kernel, by decide +kernel⟩, List.mem_of_getElem? (i := 984) (by decide +kernel), List.mem_of_getElem? (i := 1168) (by decide +kernel), List.mem_of_getElem? (i := 1169) (by decide +kernel)⟩
def lw_privs_3 : List (MethodName × Nat) := [(⟨"ClockOfSwallowsModel", "statement", "()Z"⟩, 33), (⟨"ClockOfSwallowsModel", "next", "()I"⟩, 33), (⟨"ClockOfSwallowsModel", "readsAll", "(II)Z"⟩, 33), (⟨"ClockOfSwallowsModel", "readsDigits", "(II)Z"⟩, 33), (⟨"ClockOfSwallowsModel", "passesAll", "(IZ)V"⟩, 33), (⟨"ClockOfSwallowsModel", "passes", "([I)V"⟩, 33), (⟨"ClockOfSwallowsModel", "passOne", "(I)I"⟩, 33), (⟨"ClockOfSwallowsModel", "comes", "(I)Z"⟩, 33), (⟨"ClockOfSwallowsModel", "comesBird", "(I)Z"⟩, 33), (⟨"ClockOfSwallowsModel", "isWire", "(I)Z"⟩, 33), (⟨"ClockOfSwallowsModel", "hasRoom", "(I)Z"⟩, 33), (⟨"ClockOfSwallowsModel", "manyOn", "(I)I"⟩, 33), (⟨"ClockOfSwallowsModel", "adds", "(III)V"⟩, 33), (⟨"ClockOfSwallowsModel", "comesHours", "(II)Z"⟩, 33), (⟨"ClockOfSwallowsModel", "goes", "(II)V"⟩, 33), (⟨"ClockOfSwallowsModel", "goesOne", "(I)I"⟩, 33)]
theorem lw_r3 : ∀ q ∈ lw_privs_3, lw_okq q := List.forall_mem_cons.mpr ⟨lw_p32, List.forall_mem_cons.mpr ⟨lw_p33, List.forall_mem_cons.mpr ⟨lw_p34, List.forall_mem_cons.mpr ⟨lw_p35, List.forall_mem_cons.mpr ⟨lw_p36, List.forall_mem_cons.mpr ⟨lw_p37, List.forall_mem_cons.mpr ⟨lw_p38, List.forall_mem_cons.mpr ⟨lw_p39, List.forall_mem_cons.mpr ⟨lw_p40, List.forall_mem_cons.mpr ⟨lw_p41, List.forall_mem_cons.mpr ⟨lw_p42, List.forall_mem_cons.mpr ⟨lw_p43, List.forall_mem_cons.mpr ⟨lw_p44, List.forall_mem_cons.mpr ⟨lw_p45, List.forall_mem_cons.mpr ⟨lw_p46, List.forall_mem_cons.mpr ⟨lw_p47, fun _ h => absurd h List.not_mem_nil⟩⟩⟩⟩⟩⟩⟩⟩⟩⟩⟩⟩⟩⟩⟩⟩
theorem lw_p48 : lw_okq (⟨"ClockOfSwallowsModel", "wants", "(II)I"⟩, 33) := ⟨⟨by decide +kernel, by decide +kernel⟩, List.mem_of_getElem? (i := 984) (by decide +kernel), List.mem_of_getElem? (i := 1172) (by decide +kernel), List.mem_of_getElem? (i := 1173) (by decide +kernel)⟩
theorem lw_p49 : lw_okq (⟨"ClockOfSwallowsModel", "wantsYoung", "(II)I"⟩, 33) := ⟨⟨by decide +kernel, by decide +kernel⟩, List.mem_of_getElem? (i := 984) (by decide +kernel), List.mem_of_getElem? (i := 1176) (by decide +kernel), List.mem_of_getElem? (i := 1177) (by decide +kernel)⟩
theorem lw_p50 : lw_okq (⟨"ClockOfSwallowsModel", "wantsOld", "(II)I"⟩, 33) := ⟨⟨by decide +kernel, by decide +kernel⟩, List.mem_of_getElem? (i := 984) (by decide +kernel), List.mem_of_getElem? (i := 1183) (by decide +kernel), List.mem_of_getElem? (i := 1184) (by decide +kernel)⟩
theorem lw_p51 : lw_okq (⟨"ClockOfSwallowsModel", "cats", "(I)I"⟩, 33) := ⟨⟨by decide +kernel, by decide +kernel⟩, List.mem_of_getElem? (i := 984) (by decide +kernel), List.mem_of_getElem? (i := 1193) (by decide +kernel), List.mem_of_getElem? (i := 1194) (by decide +kernel)⟩
theorem lw_p52 : lw_okq (⟨"ClockOfSwallowsModel", "fromCat", "(I)I"⟩, 33) := ⟨⟨by decide +kernel, by decide +kernel⟩, List.mem_of_getElem? (i := 984) (by decide +kernel), List.mem_of_getElem? (i := 1197) (by decide +kernel), List.mem_of_getElem? (i := 1198) (by decide +kernel)⟩
theorem lw_p53 : lw_okq (⟨"ClockOfSwallowsModel", "fliesTo", "(Z)I"⟩, 33) := ⟨⟨by decide +kernel, by decide +kernel⟩, List.mem_of_getElem? (i := 984) (by decide +kernel), List.mem_of_getElem? (i := 1201) (by decide +kernel), List.mem_of_getElem? (i := 1202) (by decide +kernel)⟩
theorem lw_p54 : lw_okq (⟨"ClockOfSwallowsModel", "outermost", "(Z)I"⟩, 33) := ⟨⟨by decide +kernel, by decide +kernel⟩, List.mem_of_getElem? (i := 984) (by decide +kernel), List.mem_of_getElem? (i := 1205) (by decide +kernel), List.mem_of_getElem? (i := 1206) (by decide +kernel)⟩
theorem lw_p55 : lw_okq (⟨"ClockOfSwallowsModel", "hangs", "()V"⟩, 33) := ⟨⟨by decide +kernel, by decide +kernel⟩, List.mem_of_getElem? (i := 984) (by decide +kernel), List.mem_of_getElem? (i := 1209) (by decide +kernel), List.mem_of_getElem? (i := 1210) (by decide +kernel)⟩
theorem lw_p56 : lw_okq (⟨"ClockOfSwallowsModel", "isBird", "(I)Z"⟩, 33) := ⟨⟨by decide +kernel, by decide +kernel⟩, List.mem_of_getElem? (i := 984) (by decide +kernel), List.mem_of_getElem? (i := 1229) (by decide +kernel), List.mem_of_getElem? (i := 1230) (by decide +kernel)⟩
theorem lw_p57 : lw_okq (⟨"ClockOfSwallowsModel", "keepsBack", "()V"⟩, 33) := ⟨⟨by decide +kernel, by decide +kernel⟩, List.mem_of_getElem? (i := 984) (by decide +kernel), List.mem_of_getElem? (i := 1253) (by decide +kernel), List.mem_of_getElem? (i := 1254) (by decide +kernel)⟩
theorem lw_p58 : lw_okq (⟨"ClockOfSwallowsModel", "shown", "()I"⟩, 33) := ⟨⟨by decide +kernel, by decide +kernel⟩, List.mem_of_getElem? (i := 984) (by decide +kernel), List.mem_of_getElem? (i := 1257) (by decide +kernel), List.mem_of_getElem? (i := 1258) (by decide +kernel)⟩
theorem lw_p59 : lw_okq (⟨"ClockOfSwallowsModel", "findHours", "(I)V"⟩, 33) := ⟨⟨by decide +kernel, by decide +kernel⟩, List.mem_of_getElem? (i := 984) (by decide +kernel), List.mem_of_getElem? (i := 1280) (by decide +kernel), List.mem_of_getElem? (i := 1281) (by decide +kernel)⟩
theorem lw_p60 : lw_okq (⟨"ClockOfSwallowsModel", "thinks", "()V"⟩, 33) := ⟨⟨by decide +kernel, by decide +kernel⟩, List.mem_of_getElem? (i := 984) (by decide +kernel), List.mem_of_getElem? (i := 1284) (by decide +kernel), List.mem_of_getElem? (i := 1285) (by decide +kernel)⟩
theorem lw_p61 : lw_okq (⟨"ClockOfSwallowsModel", "wrong", "()I"⟩, 33) := ⟨⟨by decide +kernel, by decide +kernel⟩, List.mem_of_getElem? (i := 984) (by decide +kernel), List.mem_of_getElem? (i := 1288) (by decide +kernel), List.mem_of_getElem? (i := 1289) (by decide +kernel)⟩
theorem lw_p62 : lw_okq (⟨"ClockOfSwallowsModel", "forgets", "()V"⟩, 33) := ⟨⟨by decide +kernel, by decide +kernel⟩, List.mem_of_getElem? (i := 984) (by decide +kernel), List.mem_of_getElem? (i := 1292) (by decide +kernel), List.mem_of_getElem? (i := 1293) (by decide +kernel)⟩
theorem lw_p63 : lw_okq (⟨"ClockOfSwallowsModel", "wrongTo", "(I)I"⟩, 33) := ⟨⟨by decide +kernel, by decide +kernel⟩, List.mem_of_getElem? (i := 984) (by decide +kernel), List.mem_of_getElem? (i := 1308) (by decide +kernel), List.mem_of_getElem? (i := 1309) (by decide +kernel)⟩
def lw_privs_4 : List (MethodName × Nat) := [(⟨"ClockOfSwallowsModel", "wants", "(II)I"⟩, 33), (⟨"ClockOfSwallowsModel", "wantsYoung", "(II)I"⟩, 33), (⟨"ClockOfSwallowsModel", "wantsOld", "(II)I"⟩, 33), (⟨"ClockOfSwallowsModel", "cats", "(I)I"⟩, 33), (⟨"ClockOfSwallowsModel", "fromCat", "(I)I"⟩, 33), (⟨"ClockOfSwallowsModel", "fliesTo", "(Z)I"⟩, 33), (⟨"ClockOfSwallowsModel", "outermost", "(Z)I"⟩, 33), (⟨"ClockOfSwallowsModel", "hangs", "()V"⟩, 33), (⟨"ClockOfSwallowsModel", "isBird", "(I)Z"⟩, 33), (⟨"ClockOfSwallowsModel", "keepsBack", "()V"⟩, 33), (⟨"ClockOfSwallowsModel", "shown", "()I"⟩, 33), (⟨"ClockOfSwallowsModel", "findHours", "(I)V"⟩, 33), (⟨"ClockOfSwallowsModel", "thinks", "()V"⟩, 33), (⟨"ClockOfSwallowsModel", "wrong", "()I"⟩, 33), (⟨"ClockOfSwallowsModel", "forgets", "()V"⟩, 33), (⟨"ClockOfSwallowsModel", "wrongTo", "(I)I"⟩, 33)]
theorem lw_r4 : ∀ q ∈ lw_privs_4, lw_okq q := List.forall_mem_cons.mpr ⟨lw_p48, List.forall_mem_cons.mpr ⟨lw_p49, List.forall_mem_cons.mpr ⟨lw_p50, List.forall_mem_cons.mpr ⟨lw_p51, List.forall_mem_cons.mpr ⟨lw_p52, List.forall_mem_cons.mpr ⟨lw_p53, List.forall_mem_cons.mpr ⟨lw_p54, List.forall_mem_cons.mpr ⟨lw_p55, List.forall_mem_cons.mpr ⟨lw_p56, List.forall_mem_cons.mpr ⟨lw_p57, List.forall_mem_cons.mpr ⟨lw_p58, List.forall_mem_cons.mpr ⟨lw_p59, List.forall_mem_cons.mpr ⟨lw_p60, List.forall_mem_cons.mpr ⟨lw_p61, List.forall_mem_cons.mpr ⟨lw_p62, List.forall_mem_cons.mpr ⟨lw_p63, fun _ h => absurd h List.not_mem_nil⟩⟩⟩⟩⟩⟩⟩⟩⟩⟩⟩⟩⟩⟩⟩⟩
theorem lw_p64 : lw_okq (⟨"ClockOfSwallowsModel", "waysOf", "(I)I"⟩, 33) := ⟨⟨by decide +kernel, by decide +kernel⟩, List.mem_of_getElem? (i := 984) (by decide +kernel), List.mem_of_getElem? (i := 1316) (by decide +kernel), List.mem_of_getElem? (i := 1317) (by decide +kernel)⟩
theorem lw_p65 : lw_okq (⟨"ClockOfSwallowsModel", "laysWay", "(II)V"⟩, 33) := ⟨⟨by decide +kernel, by decide +kernel⟩, List.mem_of_getElem? (i := 984) (by decide +kernel), List.mem_of_getElem? (i := 1320) (by decide +kernel), List.mem_of_getElem? (i := 1321) (by decide +kernel)⟩
theorem lw_p66 : lw_okq (⟨"ClockOfSwallowsModel", "fliesIn", "(I)I"⟩, 33) := ⟨⟨by decide +kernel, by decide +kernel⟩, List.mem_of_getElem? (i := 984) (by decide +kernel), List.mem_of_getElem? (i := 1324) (by decide +kernel), List.mem_of_getElem? (i := 1325) (by decide +kernel)⟩
theorem lw_p67 : lw_okq (⟨"ClockOfSwallowsModel", "goesAs", "(II)Z"⟩, 33) := ⟨⟨by decide +kernel, by decide +kernel⟩, List.mem_of_getElem? (i := 984) (by decide +kernel), List.mem_of_getElem? (i := 1328) (by decide +kernel), List.mem_of_getElem? (i := 1329) (by decide +kernel)⟩
theorem lw_p68 : lw_okq (⟨"ClockOfSwallowsModel", "chordNow", "()I"⟩, 33) := ⟨⟨by decide +kernel, by decide +kernel⟩, List.mem_of_getElem? (i := 984) (by decide +kernel), List.mem_of_getElem? (i := 1332) (by decide +kernel), List.mem_of_getElem? (i := 1333) (by decide +kernel)⟩
theorem lw_p69 : lw_okq (⟨"ClockOfSwallowsModel", "keepsWay", "(I)V"⟩, 33) := ⟨⟨by decide +kernel, by decide +kernel⟩, List.mem_of_getElem? (i := 984) (by decide +kernel), List.mem_of_getElem? (i := 1339) (by decide +kernel), List.mem_of_getElem? (i := 1340) (by decide +kernel)⟩
theorem lw_p70 : lw_okq (⟨"ClockOfSwallowsModel", "wrongBy", "(I)I"⟩, 33) := ⟨⟨by decide +kernel, by decide +kernel⟩, List.mem_of_getElem? (i := 984) (by decide +kernel), List.mem_of_getElem? (i := 1347) (by decide +kernel), List.mem_of_getElem? (i := 1348) (by decide +kernel)⟩
theorem lw_p71 : lw_okq (⟨"ClockOfSwallowsModel", "findThings", "(I)V"⟩, 33) := ⟨⟨by decide +kernel, by decide +kernel⟩, List.mem_of_getElem? (i := 984) (by decide +kernel), List.mem_of_getElem? (i := 1359) (by decide +kernel), List.mem_of_getElem? (i := 1360) (by decide +kernel)⟩
theorem lw_p72 : lw_okq (⟨"ClockOfSwallowsModel", "happens", "(I)V"⟩, 33) := ⟨⟨by decide +kernel, by decide +kernel⟩, List.mem_of_getElem? (i := 984) (by decide +kernel), List.mem_of_getElem? (i := 1363) (by decide +kernel), List.mem_of_getElem? (i := 1364) (by decide +kernel)⟩
theorem lw_p73 : lw_okq (⟨"ClockOfSwallowsModel", "unlikeThings", "(I)I"⟩, 33) := ⟨⟨by decide +kernel, by decide +kernel⟩, List.mem_of_getElem? (i := 984) (by decide +kernel), List.mem_of_getElem? (i := 1371) (by decide +kernel), List.mem_of_getElem? (i := 1372) (by decide +kernel)⟩
theorem lw_p74 : lw_okq (⟨"ClockOfSwallowsModel", "canMove", "(II)Z"⟩, 33) := ⟨⟨by decide +kernel, by decide +kernel⟩, List.mem_of_getElem? (i := 984) (by decide +kernel), List.mem_of_getElem? (i := 1379) (by decide +kernel), List.mem_of_getElem? (i := 1380) (by decide +kernel)⟩
theorem lw_p75 : lw_okq (⟨"ClockOfSwallowsModel", "isNear", "(II)Z"⟩, 33) := ⟨⟨by decide +kernel, by decide +kernel⟩, List.mem_of_getElem? (i := 984) (by decide +kernel), List.mem_of_getElem? (i := 1387) (by decide +kernel), List.mem_of_getElem? (i := 1388) (by decide +kernel)⟩
theorem lw_p76 : lw_okq (⟨"ClockOfSwallowsModel", "makesMoves", "(II)Z"⟩, 33) := ⟨⟨by decide +kernel, by decide +kernel⟩, List.mem_of_getElem? (i := 984) (by decide +kernel), List.mem_of_getElem? (i := 1391) (by decide +kernel), List.mem_of_getElem? (i := 1392) (by decide +kernel)⟩
theorem lw_p77 : lw_okq (⟨"ClockOfSwallowsModel", "findSittings", "()V"⟩, 33) := ⟨⟨by decide +kernel, by decide +kernel⟩, List.mem_of_getElem? (i := 984) (by decide +kernel), List.mem_of_getElem? (i := 1399) (by decide +kernel), List.mem_of_getElem? (i := 1400) (by decide +kernel)⟩
theorem lw_p78 : lw_okq (⟨"ClockOfSwallowsModel", "wrongOn", "(II)I"⟩, 33) := ⟨⟨by decide +kernel, by decide +kernel⟩, List.mem_of_getElem? (i := 984) (by decide +kernel), List.mem_of_getElem? (i := 1411) (by decide +kernel), List.mem_of_getElem? (i := 1412) (by decide +kernel)⟩
theorem lw_p79 : lw_okq (⟨"ClockOfSwallowsModel", "nextChords", "()I"⟩, 33) := ⟨⟨by decide +kernel, by decide +kernel⟩, List.mem_of_getElem? (i := 984) (by decide +kernel), List.mem_of_getElem? (i := 1419) (by decide +kernel), List.mem_of_getElem? (i := 1420) (by decide +kernel)⟩
def lw_privs_5 : List (MethodName × Nat) := [(⟨"ClockOfSwallowsModel", "waysOf", "(I)I"⟩, 33), (⟨"ClockOfSwallowsModel", "laysWay", "(II)V"⟩, 33), (⟨"ClockOfSwallowsModel", "fliesIn", "(I)I"⟩, 33), (⟨"ClockOfSwallowsModel", "goesAs", "(II)Z"⟩, 33), (⟨"ClockOfSwallowsModel", "chordNow", "()I"⟩, 33), (⟨"ClockOfSwallowsModel", "keepsWay", "(I)V"⟩, 33), (⟨"ClockOfSwallowsModel", "wrongBy", "(I)I"⟩, 33), (⟨"ClockOfSwallowsModel", "findThings", "(I)V"⟩, 33), (⟨"ClockOfSwallowsModel", "happens", "(I)V"⟩, 33), (⟨"ClockOfSwallowsModel", "unlikeThings", "(I)I"⟩, 33), (⟨"ClockOfSwallowsModel", "canMove", "(II)Z"⟩, 33), (⟨"ClockOfSwallowsModel", "isNear", "(II)Z"⟩, 33), (⟨"ClockOfSwallowsModel", "makesMoves", "(II)Z"⟩, 33), (⟨"ClockOfSwallowsModel", "findSittings", "()V"⟩, 33), (⟨"ClockOfSwallowsModel", "wrongOn", "(II)I"⟩, 33), (⟨"ClockOfSwallowsModel", "nextChords", "()I"⟩, 33)]
theorem lw_r5 : ∀ q ∈ lw_privs_5, lw_okq q := List.forall_mem_cons.mpr ⟨lw_p64, List.forall_mem_cons.mpr ⟨lw_p65, List.forall_mem_cons.mpr ⟨lw_p66, List.forall_mem_cons.mpr ⟨lw_p67, List.forall_mem_cons.mpr ⟨lw_p68, List.forall_mem_cons.mpr ⟨lw_p69, List.forall_mem_cons.mpr ⟨lw_p70, List.forall_mem_cons.mpr ⟨lw_p71, List.forall_mem_cons.mpr ⟨lw_p72, List.forall_mem_cons.mpr ⟨lw_p73, List.forall_mem_cons.mpr ⟨lw_p74, List.forall_mem_cons.mpr ⟨lw_p75, List.forall_mem_cons.mpr ⟨lw_p76, List.forall_mem_cons.mpr ⟨lw_p77, List.forall_mem_cons.mpr ⟨lw_p78, List.forall_mem_cons.mpr ⟨lw_p79, fun _ h => absurd h List.not_mem_nil⟩⟩⟩⟩⟩⟩⟩⟩⟩⟩⟩⟩⟩⟩⟩⟩
theorem lw_p80 : lw_okq (⟨"ClockOfSwallowsModel", "chordBy", "(I)I"⟩, 33) := ⟨⟨by decide +kernel, by decide +kernel⟩, List.mem_of_getElem? (i := 984) (by decide +kernel), List.mem_of_getElem? (i := 1423) (by decide +kernel), List.mem_of_getElem? (i := 1424) (by decide +kernel)⟩
theorem lw_p81 : lw_okq (⟨"ClockOfSwallowsModel", "isRowUpTo", "(I)Z"⟩, 33) := ⟨⟨by decide +kernel, by decide +kernel⟩, List.mem_of_getElem? (i := 984) (by decide +kernel), List.mem_of_getElem? (i := 1431) (by decide +kernel), List.mem_of_getElem? (i := 1432) (by decide +kernel)⟩
theorem lw_p82 : lw_okq (⟨"ClockOfSwallowsModel", "mostAgainst", "(I)I"⟩, 33) := ⟨⟨by decide +kernel, by decide +kernel⟩, List.mem_of_getElem? (i := 984) (by decide +kernel), List.mem_of_getElem? (i := 1450) (by decide +kernel), List.mem_of_getElem? (i := 1451) (by decide +kernel)⟩
theorem lw_p83 : lw_okq (⟨"ClockOfSwallowsModel", "watched", "(II)I"⟩, 33) := ⟨⟨by decide +kernel, by decide +kernel⟩, List.mem_of_getElem? (i := 984) (by decide +kernel), List.mem_of_getElem? (i := 1454) (by decide +kernel), List.mem_of_getElem? (i := 1455) (by decide +kernel)⟩
theorem lw_p84 : lw_okq (⟨"ClockOfSwallowsModel", "leastAgainst", "(I)I"⟩, 33) := ⟨⟨by decide +kernel, by decide +kernel⟩, List.mem_of_getElem? (i := 984) (by decide +kernel), List.mem_of_getElem? (i := 1458) (by decide +kernel), List.mem_of_getElem? (i := 1459) (by decide +kernel)⟩
theorem lw_p85 : lw_okq (⟨"ClockOfSwallowsModel", "thinksOn", "()Z"⟩, 33) := ⟨⟨by decide +kernel, by decide +kernel⟩, List.mem_of_getElem? (i := 984) (by decide +kernel), List.mem_of_getElem? (i := 1466) (by decide +kernel), List.mem_of_getElem? (i := 1467) (by decide +kernel)⟩
theorem lw_p86 : lw_okq (⟨"ClockOfSwallowsModel", "sitAsThen", "()Z"⟩, 33) := ⟨⟨by decide +kernel, by decide +kernel⟩, List.mem_of_getElem? (i := 984) (by decide +kernel), List.mem_of_getElem? (i := 1481) (by decide +kernel), List.mem_of_getElem? (i := 1482) (by decide +kernel)⟩
theorem lw_p87 : lw_okq (⟨"ClockOfSwallowsModel", "evenBy", "()I"⟩, 33) := ⟨⟨by decide +kernel, by decide +kernel⟩, List.mem_of_getElem? (i := 984) (by decide +kernel), List.mem_of_getElem? (i := 1500) (by decide +kernel), List.mem_of_getElem? (i := 1501) (by decide +kernel)⟩
theorem lw_p88 : lw_okq (⟨"ClockOfSwallowsModel", "movesTo", "(I)I"⟩, 33) := ⟨⟨by decide +kernel, by decide +kernel⟩, List.mem_of_getElem? (i := 984) (by decide +kernel), List.mem_of_getElem? (i := 1504) (by decide +kernel), List.mem_of_getElem? (i := 1505) (by decide +kernel)⟩
theorem lw_p89 : lw_okq (⟨"ClockOfSwallowsModel", "hoursTill", "(II)I"⟩, 33) := ⟨⟨by decide +kernel, by decide +kernel⟩, List.mem_of_getElem? (i := 984) (by decide +kernel), List.mem_of_getElem? (i := 1520) (by decide +kernel), List.mem_of_getElem? (i := 1521) (by decide +kernel)⟩
theorem lw_p90 : lw_okq (⟨"ClockOfSwallowsModel", "endsAs", "(III)Z"⟩, 33) := ⟨⟨by decide +kernel, by decide +kernel⟩, List.mem_of_getElem? (i := 984) (by decide +kernel), List.mem_of_getElem? (i := 1524) (by decide +kernel), List.mem_of_getElem? (i := 1525) (by decide +kernel)⟩
def lw_privs_6 : List (MethodName × Nat) := [(⟨"ClockOfSwallowsModel", "chordBy", "(I)I"⟩, 33), (⟨"ClockOfSwallowsModel", "isRowUpTo", "(I)Z"⟩, 33), (⟨"ClockOfSwallowsModel", "mostAgainst", "(I)I"⟩, 33), (⟨"ClockOfSwallowsModel", "watched", "(II)I"⟩, 33), (⟨"ClockOfSwallowsModel", "leastAgainst", "(I)I"⟩, 33), (⟨"ClockOfSwallowsModel", "thinksOn", "()Z"⟩, 33), (⟨"ClockOfSwallowsModel", "sitAsThen", "()Z"⟩, 33), (⟨"ClockOfSwallowsModel", "evenBy", "()I"⟩, 33), (⟨"ClockOfSwallowsModel", "movesTo", "(I)I"⟩, 33), (⟨"ClockOfSwallowsModel", "hoursTill", "(II)I"⟩, 33), (⟨"ClockOfSwallowsModel", "endsAs", "(III)Z"⟩, 33)]
theorem lw_r6 : ∀ q ∈ lw_privs_6, lw_okq q := List.forall_mem_cons.mpr ⟨lw_p80, List.forall_mem_cons.mpr ⟨lw_p81, List.forall_mem_cons.mpr ⟨lw_p82, List.forall_mem_cons.mpr ⟨lw_p83, List.forall_mem_cons.mpr ⟨lw_p84, List.forall_mem_cons.mpr ⟨lw_p85, List.forall_mem_cons.mpr ⟨lw_p86, List.forall_mem_cons.mpr ⟨lw_p87, List.forall_mem_cons.mpr ⟨lw_p88, List.forall_mem_cons.mpr ⟨lw_p89, List.forall_mem_cons.mpr ⟨lw_p90, fun _ h => absurd h List.not_mem_nil⟩⟩⟩⟩⟩⟩⟩⟩⟩⟩⟩
def lw_privs : List (MethodName × Nat) := lw_privs_1 ++ (lw_privs_2 ++ (lw_privs_3 ++ (lw_privs_4 ++ (lw_privs_5 ++ (lw_privs_6)))))
def lw_tbl : List Cond := k2_sels lw_privs ++ tables_1
theorem lw_privs_ok : ∀ q ∈ lw_privs, lw_okq q := by
  show ∀ q ∈ lw_privs_1 ++ (lw_privs_2 ++ (lw_privs_3 ++ (lw_privs_4 ++ (lw_privs_5 ++ (lw_privs_6))))), lw_okq q
  exact List.forall_mem_append.mpr ⟨lw_r1, List.forall_mem_append.mpr ⟨lw_r2, List.forall_mem_append.mpr ⟨lw_r3, List.forall_mem_append.mpr ⟨lw_r4, List.forall_mem_append.mpr ⟨lw_r5, lw_r6⟩⟩⟩⟩⟩
def RX0 : String := "ClockOfSwallows$ChordQuest"
def RX1 : String := "ClockOfSwallows$FeedingQuest"
def RX2 : String := "ClockOfSwallows$Flock"
def RX3 : String := "ClockOfSwallows$GatherQuest"
def RX4 : String := "ClockOfSwallows$HighestQuest"
def RX5 : String := "ClockOfSwallows$LureQuest"
def RX6 : String := "ClockOfSwallows$MovedQuest"
def RX7 : String := "ClockOfSwallows$Past"
def RX8 : String := "ClockOfSwallows$Quest"
def RX9 : String := "ClockOfSwallows$Row"
def RX10 : String := "ClockOfSwallows$Text"
def RX11 : String := "ClockOfSwallows"
def RX12 : String := "ClockOfSwallowsModel"
def RJ6 : String := "java/lang/Integer"
def RJ13 : String := "java/lang/Long"
def RJ9 : String := "java/lang/Math"
def RJ10 : String := "java/lang/System"
def RJ7 : String := "java/util/Arrays"
def RL : String := "ClockOfSwallowsLaw"
def TX12 : u_T := fun k => match k with
  | 0 => ("ClockOfSwallowsModel", "refused", "[I", true)
  | 1 => ("ClockOfSwallowsModel", "weight", "[I", true)
  | 2 => ("ClockOfSwallowsModel", "kind", "[I", true)
  | 3 => ("ClockOfSwallowsModel", "figure", "[I", true)
  | 4 => ("ClockOfSwallowsModel", "sits", "[I", true)
  | 5 => ("ClockOfSwallowsModel", "birds", "I", false)
  | 6 => ("ClockOfSwallowsModel", "wires", "I", false)
  | 7 => ("ClockOfSwallowsModel", "hour", "I", false)
  | 8 => ("ClockOfSwallowsModel", "tape", "[I", true)
  | 9 => ("ClockOfSwallowsModel", "letter", "[I", true)
  | 10 => ("ClockOfSwallowsModel", "letterAt", "[I", true)
  | 11 => ("ClockOfSwallowsModel", "told", "[I", true)
  | 12 => ("ClockOfSwallowsModel", "taped", "I", false)
  | 13 => ("ClockOfSwallowsModel", "at", "I", false)
  | 14 => ("ClockOfSwallowsModel", "statements", "I", false)
  | 15 => ("ClockOfSwallowsModel", "kept", "[I", true)
  | 16 => ("ClockOfSwallowsModel", "hasImage", "Z", false)
  | 17 => ("ClockOfSwallowsModel", "isKeeping", "Z", false)
  | 18 => ("ClockOfSwallowsModel", "cursor", "I", false)
  | 19 => ("ClockOfSwallowsModel", "backs", "I", false)
  | 20 => ("ClockOfSwallowsModel", "shownAt", "[I", true)
  | 21 => ("ClockOfSwallowsModel", "wrongAt", "[I", true)
  | 22 => ("ClockOfSwallowsModel", "goneIn", "[I", true)
  | 23 => ("ClockOfSwallowsModel", "way", "[I", true)
  | 24 => ("ClockOfSwallowsModel", "found", "[I", true)
  | 25 => ("ClockOfSwallowsModel", "row", "[I", true)
  | 26 => ("ClockOfSwallowsModel", "rowMany", "I", false)
  | 27 => ("ClockOfSwallowsModel", "shownBy", "[I", true)
  | 28 => ("ClockOfSwallowsModel", "sitWays", "[I", true)
  | 29 => ("ClockOfSwallowsModel", "sitNext", "[I", true)
  | 30 => ("ClockOfSwallowsModel", "thinksIt", "[I", true)
  | 31 => ("ClockOfSwallowsModel", "thought", "[I", true)
  | _ => ("ClockOfSwallowsModel", "satAt", "[I", true)
def tyX12 : Nat → FieldType := fun k => match k with
  | 0 => .array .int
  | 1 => .array .int
  | 2 => .array .int
  | 3 => .array .int
  | 4 => .array .int
  | 5 => .int
  | 6 => .int
  | 7 => .int
  | 8 => .array .int
  | 9 => .array .int
  | 10 => .array .int
  | 11 => .array .int
  | 12 => .int
  | 13 => .int
  | 14 => .int
  | 15 => .array .int
  | 16 => .boolean
  | 17 => .boolean
  | 18 => .int
  | 19 => .int
  | 20 => .array .int
  | 21 => .array .int
  | 22 => .array .int
  | 23 => .array .int
  | 24 => .array .int
  | 25 => .array .int
  | 26 => .int
  | 27 => .array .int
  | 28 => .array .int
  | 29 => .array .int
  | 30 => .array .int
  | 31 => .array .int
  | _ => .array .int
def TX11 : u_T := fun k => match k with
  | 0 => ("ClockOfSwallows", "now", "LClockOfSwallows$Flock;", true)
  | 1 => ("ClockOfSwallows", "imaged", "LClockOfSwallows$Flock;", true)
  | 2 => ("ClockOfSwallows", "draft", "LClockOfSwallows$Flock;", true)
  | 3 => ("ClockOfSwallows", "mind", "LClockOfSwallows$Flock;", true)
  | 4 => ("ClockOfSwallows", "steps", "[LClockOfSwallows$Flock;", true)
  | 5 => ("ClockOfSwallows", "past", "LClockOfSwallows$Past;", true)
  | 6 => ("ClockOfSwallows", "text", "LClockOfSwallows$Text;", true)
  | 7 => ("ClockOfSwallows", "row", "LClockOfSwallows$Row;", true)
  | 8 => ("ClockOfSwallows", "refused", "[I", true)
  | 9 => ("ClockOfSwallows", "tally", "[I", true)
  | 10 => ("ClockOfSwallows", "totals", "[I", true)
  | 11 => ("ClockOfSwallows", "feedingQuest", "LClockOfSwallows$FeedingQuest;", true)
  | 12 => ("ClockOfSwallows", "highestQuest", "LClockOfSwallows$HighestQuest;", true)
  | 13 => ("ClockOfSwallows", "chordQuest", "LClockOfSwallows$ChordQuest;", true)
  | 14 => ("ClockOfSwallows", "movedQuest", "LClockOfSwallows$MovedQuest;", true)
  | 15 => ("ClockOfSwallows", "lureQuest", "LClockOfSwallows$LureQuest;", true)
  | 16 => ("ClockOfSwallows", "gatherQuest", "LClockOfSwallows$GatherQuest;", true)
  | _ => ("ClockOfSwallows", "hasImage", "Z", false)
def tyX11 : Nat → FieldType := fun k => match k with
  | 0 => .object "ClockOfSwallows$Flock"
  | 1 => .object "ClockOfSwallows$Flock"
  | 2 => .object "ClockOfSwallows$Flock"
  | 3 => .object "ClockOfSwallows$Flock"
  | 4 => .array (.object "ClockOfSwallows$Flock")
  | 5 => .object "ClockOfSwallows$Past"
  | 6 => .object "ClockOfSwallows$Text"
  | 7 => .object "ClockOfSwallows$Row"
  | 8 => .array .int
  | 9 => .array .int
  | 10 => .array .int
  | 11 => .object "ClockOfSwallows$FeedingQuest"
  | 12 => .object "ClockOfSwallows$HighestQuest"
  | 13 => .object "ClockOfSwallows$ChordQuest"
  | 14 => .object "ClockOfSwallows$MovedQuest"
  | 15 => .object "ClockOfSwallows$LureQuest"
  | 16 => .object "ClockOfSwallows$GatherQuest"
  | _ => .boolean
def TX10 : u_T := fun k => match k with
  | 0 => ("ClockOfSwallows$Text", "letters", "[I", true)
  | _ => ("ClockOfSwallows$Text", "length", "I", false)
def tyX10 : Nat → FieldType := fun k => match k with
  | 0 => .array .int
  | _ => .int
def TX9 : u_T := fun k => match k with
  | 0 => ("ClockOfSwallows$Row", "numbers", "[I", true)
  | 1 => ("ClockOfSwallows$Row", "thoughts", "[I", true)
  | 2 => ("ClockOfSwallows$Row", "nextThoughts", "[I", true)
  | _ => ("ClockOfSwallows$Row", "length", "I", false)
def tyX9 : Nat → FieldType := fun k => match k with
  | 0 => .array .int
  | 1 => .array .int
  | 2 => .array .int
  | _ => .int
def TX8 : u_T := fun k => match k with
  | _ => ("", "", "", false)
def tyX8 : Nat → FieldType := fun k => match k with
  | _ => .int
def TX7 : u_T := fun k => match k with
  | 0 => ("ClockOfSwallows$Past", "seats", "[[I", true)
  | 1 => ("ClockOfSwallows$Past", "hours", "[I", true)
  | 2 => ("ClockOfSwallows$Past", "next", "I", false)
  | _ => ("ClockOfSwallows$Past", "kept", "I", false)
def tyX7 : Nat → FieldType := fun k => match k with
  | 0 => .array (.array .int)
  | 1 => .array .int
  | 2 => .int
  | _ => .int
def TX6 : u_T := fun k => match k with
  | 0 => ("ClockOfSwallows$Quest", "way", "[I", true)
  | 1 => ("ClockOfSwallows$Quest", "found", "[I", true)
  | 2 => ("ClockOfSwallows$Quest", "told", "[I", true)
  | 3 => ("ClockOfSwallows$Quest", "asked", "I", false)
  | 4 => ("ClockOfSwallows$Quest", "best", "I", false)
  | 5 => ("ClockOfSwallows$Quest", "foundHours", "I", false)
  | 6 => ("ClockOfSwallows$MovedQuest", "ways", "I", false)
  | _ => ("ClockOfSwallows$MovedQuest", "fed", "I", false)
def tyX6 : Nat → FieldType := fun k => match k with
  | 0 => .array .int
  | 1 => .array .int
  | 2 => .array .int
  | 3 => .int
  | 4 => .int
  | 5 => .int
  | 6 => .int
  | _ => .int
def TX5 : u_T := fun k => match k with
  | 0 => ("ClockOfSwallows$Quest", "way", "[I", true)
  | 1 => ("ClockOfSwallows$Quest", "found", "[I", true)
  | 2 => ("ClockOfSwallows$Quest", "told", "[I", true)
  | 3 => ("ClockOfSwallows$Quest", "asked", "I", false)
  | 4 => ("ClockOfSwallows$Quest", "best", "I", false)
  | 5 => ("ClockOfSwallows$Quest", "foundHours", "I", false)
  | 6 => ("ClockOfSwallows$LureQuest", "bird", "I", false)
  | _ => ("ClockOfSwallows$LureQuest", "wire", "I", false)
def tyX5 : Nat → FieldType := fun k => match k with
  | 0 => .array .int
  | 1 => .array .int
  | 2 => .array .int
  | 3 => .int
  | 4 => .int
  | 5 => .int
  | 6 => .int
  | _ => .int
def TX4 : u_T := fun k => match k with
  | 0 => ("ClockOfSwallows$Quest", "way", "[I", true)
  | 1 => ("ClockOfSwallows$Quest", "found", "[I", true)
  | 2 => ("ClockOfSwallows$Quest", "told", "[I", true)
  | 3 => ("ClockOfSwallows$Quest", "asked", "I", false)
  | 4 => ("ClockOfSwallows$Quest", "best", "I", false)
  | 5 => ("ClockOfSwallows$Quest", "foundHours", "I", false)
  | _ => ("ClockOfSwallows$HighestQuest", "most", "I", false)
def tyX4 : Nat → FieldType := fun k => match k with
  | 0 => .array .int
  | 1 => .array .int
  | 2 => .array .int
  | 3 => .int
  | 4 => .int
  | 5 => .int
  | _ => .int
def TX3 : u_T := fun k => match k with
  | 0 => ("ClockOfSwallows$Quest", "way", "[I", true)
  | 1 => ("ClockOfSwallows$Quest", "found", "[I", true)
  | 2 => ("ClockOfSwallows$Quest", "told", "[I", true)
  | 3 => ("ClockOfSwallows$Quest", "asked", "I", false)
  | 4 => ("ClockOfSwallows$Quest", "best", "I", false)
  | 5 => ("ClockOfSwallows$Quest", "foundHours", "I", false)
  | _ => ("ClockOfSwallows$GatherQuest", "wires", "I", false)
def tyX3 : Nat → FieldType := fun k => match k with
  | 0 => .array .int
  | 1 => .array .int
  | 2 => .array .int
  | 3 => .int
  | 4 => .int
  | 5 => .int
  | _ => .int
def TX2 : u_T := fun k => match k with
  | 0 => ("ClockOfSwallows$Flock", "kinds", "[I", true)
  | 1 => ("ClockOfSwallows$Flock", "figures", "[I", true)
  | 2 => ("ClockOfSwallows$Flock", "places", "[I", true)
  | 3 => ("ClockOfSwallows$Flock", "seated", "[I", true)
  | 4 => ("ClockOfSwallows$Flock", "weights", "[I", true)
  | 5 => ("ClockOfSwallows$Flock", "birds", "I", false)
  | 6 => ("ClockOfSwallows$Flock", "wires", "I", false)
  | _ => ("ClockOfSwallows$Flock", "hour", "I", false)
def tyX2 : Nat → FieldType := fun k => match k with
  | 0 => .array .int
  | 1 => .array .int
  | 2 => .array .int
  | 3 => .array .int
  | 4 => .array .int
  | 5 => .int
  | 6 => .int
  | _ => .int
def TX1 : u_T := fun k => match k with
  | 0 => ("ClockOfSwallows$Quest", "way", "[I", true)
  | 1 => ("ClockOfSwallows$Quest", "found", "[I", true)
  | 2 => ("ClockOfSwallows$Quest", "told", "[I", true)
  | 3 => ("ClockOfSwallows$Quest", "asked", "I", false)
  | 4 => ("ClockOfSwallows$Quest", "best", "I", false)
  | _ => ("ClockOfSwallows$Quest", "foundHours", "I", false)
def tyX1 : Nat → FieldType := fun k => match k with
  | 0 => .array .int
  | 1 => .array .int
  | 2 => .array .int
  | 3 => .int
  | 4 => .int
  | _ => .int
def TX0 : u_T := fun k => match k with
  | 0 => ("ClockOfSwallows$Quest", "way", "[I", true)
  | 1 => ("ClockOfSwallows$Quest", "found", "[I", true)
  | 2 => ("ClockOfSwallows$Quest", "told", "[I", true)
  | 3 => ("ClockOfSwallows$Quest", "asked", "I", false)
  | 4 => ("ClockOfSwallows$Quest", "best", "I", false)
  | _ => ("ClockOfSwallows$Quest", "foundHours", "I", false)
def tyX0 : Nat → FieldType := fun k => match k with
  | 0 => .array .int
  | 1 => .array .int
  | 2 => .array .int
  | 3 => .int
  | 4 => .int
  | _ => .int
theorem nmX0 : ∀ a, a < 6 → ∀ b, b < 6 → a ≠ b → (TX0 a).2.1 ≠ (TX0 b).2.1 := by decide +kernel
theorem tyX0_ok : ∀ k, k < 6 → parseFieldDescriptor (TX0 k).2.2.1 = some (tyX0 k) := by decide +kernel
abbrev cX0_init : ByteArray := prog_2_method_1_code
def yX0_init : MethodName := ⟨RX0, "<init>", "()V"⟩
abbrev cX0_opens : ByteArray := prog_2_method_2_code
def yX0_opens : MethodName := ⟨RX0, "opens", "(LClockOfSwallows$Flock;I)Z"⟩
theorem nmX1 : ∀ a, a < 6 → ∀ b, b < 6 → a ≠ b → (TX1 a).2.1 ≠ (TX1 b).2.1 := by decide +kernel
theorem tyX1_ok : ∀ k, k < 6 → parseFieldDescriptor (TX1 k).2.2.1 = some (tyX1 k) := by decide +kernel
abbrev cX1_init : ByteArray := prog_3_method_1_code
def yX1_init : MethodName := ⟨RX1, "<init>", "()V"⟩
abbrev cX1_opens : ByteArray := prog_3_method_2_code
def yX1_opens : MethodName := ⟨RX1, "opens", "(LClockOfSwallows$Flock;I)Z"⟩
theorem nmX2 : ∀ a, a < 8 → ∀ b, b < 8 → a ≠ b → (TX2 a).2.1 ≠ (TX2 b).2.1 := by decide +kernel
theorem tyX2_ok : ∀ k, k < 8 → parseFieldDescriptor (TX2 k).2.2.1 = some (tyX2 k) := by decide +kernel
abbrev cX2_init : ByteArray := prog_4_method_1_code
def yX2_init : MethodName := ⟨RX2, "<init>", "()V"⟩
abbrev cX2_become : ByteArray := prog_4_method_2_code
def yX2_become : MethodName := ⟨RX2, "become", "(LClockOfSwallows$Flock;)V"⟩
abbrev cX2_sitAs : ByteArray := prog_4_method_3_code
def yX2_sitAs : MethodName := ⟨RX2, "sitAs", "(LClockOfSwallows$Flock;)V"⟩
abbrev cX2_sitsAs : ByteArray := prog_4_method_4_code
def yX2_sitsAs : MethodName := ⟨RX2, "sitsAs", "(LClockOfSwallows$Flock;)Z"⟩
abbrev cX2_isWire : ByteArray := prog_4_method_5_code
def yX2_isWire : MethodName := ⟨RX2, "isWire", "(I)Z"⟩
abbrev cX2_isBird : ByteArray := prog_4_method_6_code
def yX2_isBird : MethodName := ⟨RX2, "isBird", "(I)Z"⟩
abbrev cX2_hasRoom : ByteArray := prog_4_method_7_code
def yX2_hasRoom : MethodName := ⟨RX2, "hasRoom", "(I)Z"⟩
abbrev cX2_add : ByteArray := prog_4_method_8_code
def yX2_add : MethodName := ⟨RX2, "add", "(III)I"⟩
abbrev cX2_shift : ByteArray := prog_4_method_9_code
def yX2_shift : MethodName := ⟨RX2, "shift", "(II)V"⟩
abbrev cX2_go : ByteArray := prog_4_method_10_code
def yX2_go : MethodName := ⟨RX2, "go", "(II)V"⟩
abbrev cX2_hang : ByteArray := prog_4_method_11_code
def yX2_hang : MethodName := ⟨RX2, "hang", "(Z)V"⟩
abbrev cX2_shows : ByteArray := prog_4_method_12_code
def yX2_shows : MethodName := ⟨RX2, "shows", "()I"⟩
abbrev cX2_errs : ByteArray := prog_4_method_13_code
def yX2_errs : MethodName := ⟨RX2, "errs", "()I"⟩
abbrev cX2_satOn : ByteArray := prog_4_method_14_code
def yX2_satOn : MethodName := ⟨RX2, "satOn", "()I"⟩
abbrev cX2_pass : ByteArray := prog_4_method_15_code
def yX2_pass : MethodName := ⟨RX2, "pass", "(I)I"⟩
abbrev cX2_wanted : ByteArray := prog_4_method_16_code
def yX2_wanted : MethodName := ⟨RX2, "wanted", "(II)I"⟩
abbrev cX2_nearer : ByteArray := prog_4_method_17_code
def yX2_nearer : MethodName := ⟨RX2, "nearer", "(II)I"⟩
abbrev cX2_wantedYoung : ByteArray := prog_4_method_18_code
def yX2_wantedYoung : MethodName := ⟨RX2, "wantedYoung", "(II)I"⟩
abbrev cX2_wantedOld : ByteArray := prog_4_method_19_code
def yX2_wantedOld : MethodName := ⟨RX2, "wantedOld", "(III)I"⟩
abbrev cX2_reaches : ByteArray := prog_4_method_20_code
def yX2_reaches : MethodName := ⟨RX2, "reaches", "(II)Z"⟩
abbrev cX2_undergo : ByteArray := prog_4_method_21_code
def yX2_undergo : MethodName := ⟨RX2, "undergo", "(I)V"⟩
abbrev cX2_scare : ByteArray := prog_4_method_22_code
def yX2_scare : MethodName := ⟨RX2, "scare", "(I)I"⟩
abbrev cX2_refuge : ByteArray := prog_4_method_23_code
def yX2_refuge : MethodName := ⟨RX2, "refuge", "(I)I"⟩
abbrev cX2_driveUp : ByteArray := prog_4_method_24_code
def yX2_driveUp : MethodName := ⟨RX2, "driveUp", "()I"⟩
abbrev cX2_driveDown : ByteArray := prog_4_method_25_code
def yX2_driveDown : MethodName := ⟨RX2, "driveDown", "()I"⟩
theorem nmX3 : ∀ a, a < 7 → ∀ b, b < 7 → a ≠ b → (TX3 a).2.1 ≠ (TX3 b).2.1 := by decide +kernel
theorem tyX3_ok : ∀ k, k < 7 → parseFieldDescriptor (TX3 k).2.2.1 = some (tyX3 k) := by decide +kernel
abbrev cX3_init : ByteArray := prog_5_method_1_code
def yX3_init : MethodName := ⟨RX3, "<init>", "()V"⟩
abbrev cX3_opens : ByteArray := prog_5_method_2_code
def yX3_opens : MethodName := ⟨RX3, "opens", "(LClockOfSwallows$Flock;I)Z"⟩
theorem nmX4 : ∀ a, a < 7 → ∀ b, b < 7 → a ≠ b → (TX4 a).2.1 ≠ (TX4 b).2.1 := by decide +kernel
theorem tyX4_ok : ∀ k, k < 7 → parseFieldDescriptor (TX4 k).2.2.1 = some (tyX4 k) := by decide +kernel
abbrev cX4_init : ByteArray := prog_6_method_1_code
def yX4_init : MethodName := ⟨RX4, "<init>", "()V"⟩
abbrev cX4_opens : ByteArray := prog_6_method_2_code
def yX4_opens : MethodName := ⟨RX4, "opens", "(LClockOfSwallows$Flock;I)Z"⟩
theorem nmX5 : ∀ a, a < 8 → ∀ b, b < 8 → a ≠ b → (TX5 a).2.1 ≠ (TX5 b).2.1 := by decide +kernel
theorem tyX5_ok : ∀ k, k < 8 → parseFieldDescriptor (TX5 k).2.2.1 = some (tyX5 k) := by decide +kernel
abbrev cX5_init : ByteArray := prog_7_method_1_code
def yX5_init : MethodName := ⟨RX5, "<init>", "()V"⟩
abbrev cX5_opens : ByteArray := prog_7_method_2_code
def yX5_opens : MethodName := ⟨RX5, "opens", "(LClockOfSwallows$Flock;I)Z"⟩
theorem nmX6 : ∀ a, a < 8 → ∀ b, b < 8 → a ≠ b → (TX6 a).2.1 ≠ (TX6 b).2.1 := by decide +kernel
theorem tyX6_ok : ∀ k, k < 8 → parseFieldDescriptor (TX6 k).2.2.1 = some (tyX6 k) := by decide +kernel
abbrev cX6_init : ByteArray := prog_8_method_1_code
def yX6_init : MethodName := ⟨RX6, "<init>", "()V"⟩
abbrev cX6_opens : ByteArray := prog_8_method_2_code
def yX6_opens : MethodName := ⟨RX6, "opens", "(LClockOfSwallows$Flock;I)Z"⟩
abbrev cX6_note : ByteArray := prog_8_method_3_code
def yX6_note : MethodName := ⟨RX6, "note", "(I)V"⟩
theorem nmX7 : ∀ a, a < 4 → ∀ b, b < 4 → a ≠ b → (TX7 a).2.1 ≠ (TX7 b).2.1 := by decide +kernel
theorem tyX7_ok : ∀ k, k < 4 → parseFieldDescriptor (TX7 k).2.2.1 = some (tyX7 k) := by decide +kernel
abbrev cX7_init : ByteArray := prog_9_method_1_code
def yX7_init : MethodName := ⟨RX7, "<init>", "()V"⟩
abbrev cX7_forget : ByteArray := prog_9_method_2_code
def yX7_forget : MethodName := ⟨RX7, "forget", "()V"⟩
abbrev cX7_keep : ByteArray := prog_9_method_3_code
def yX7_keep : MethodName := ⟨RX7, "keep", "(LClockOfSwallows$Flock;)V"⟩
abbrev cX7_takeBack : ByteArray := prog_9_method_4_code
def yX7_takeBack : MethodName := ⟨RX7, "takeBack", "(LClockOfSwallows$Flock;)V"⟩
theorem nmX8 : ∀ a, a < 0 → ∀ b, b < 0 → a ≠ b → (TX8 a).2.1 ≠ (TX8 b).2.1 := by decide +kernel
theorem tyX8_ok : ∀ k, k < 0 → parseFieldDescriptor (TX8 k).2.2.1 = some (tyX8 k) := by decide +kernel
abbrev cX8_init : ByteArray := prog_10_method_1_code
def yX8_init : MethodName := ⟨RX8, "<init>", "()V"⟩
abbrev cX8_begin : ByteArray := prog_10_method_2_code
def yX8_begin : MethodName := ⟨RX8, "begin", "(I)V"⟩
abbrev cX8_hear : ByteArray := prog_10_method_3_code
def yX8_hear : MethodName := ⟨RX8, "hear", "(LClockOfSwallows$Row;)V"⟩
abbrev cX8_isAsTold : ByteArray := prog_10_method_4_code
def yX8_isAsTold : MethodName := ⟨RX8, "isAsTold", "(II)Z"⟩
abbrev cX8_keep : ByteArray := prog_10_method_6_code
def yX8_keep : MethodName := ⟨RX8, "keep", "(II)V"⟩
abbrev cX8_fliesPut : ByteArray := prog_10_method_7_code
def yX8_fliesPut : MethodName := ⟨RX8, "fliesPut", "(I)I"⟩
abbrev cX8_bestOrNone : ByteArray := prog_10_method_8_code
def yX8_bestOrNone : MethodName := ⟨RX8, "bestOrNone", "()I"⟩
abbrev cX8_fliesAt : ByteArray := prog_10_method_9_code
def yX8_fliesAt : MethodName := ⟨RX8, "fliesAt", "(I)I"⟩
theorem nmX9 : ∀ a, a < 4 → ∀ b, b < 4 → a ≠ b → (TX9 a).2.1 ≠ (TX9 b).2.1 := by decide +kernel
theorem tyX9_ok : ∀ k, k < 4 → parseFieldDescriptor (TX9 k).2.2.1 = some (tyX9 k) := by decide +kernel
abbrev cX9_init : ByteArray := prog_11_method_1_code
def yX9_init : MethodName := ⟨RX9, "<init>", "()V"⟩
abbrev cX9_put : ByteArray := prog_11_method_2_code
def yX9_put : MethodName := ⟨RX9, "put", "(I)I"⟩
abbrev cX9_greatest : ByteArray := prog_11_method_3_code
def yX9_greatest : MethodName := ⟨RX9, "greatest", "()I"⟩
abbrev cX9_agree : ByteArray := prog_11_method_4_code
def yX9_agree : MethodName := ⟨RX9, "agree", "()I"⟩
abbrev cX9_thinkOver : ByteArray := prog_11_method_5_code
def yX9_thinkOver : MethodName := ⟨RX9, "thinkOver", "()Z"⟩
abbrev cX9_middle : ByteArray := prog_11_method_6_code
def yX9_middle : MethodName := ⟨RX9, "middle", "(III)I"⟩
abbrev cX9_unlikeThoughts : ByteArray := prog_11_method_7_code
def yX9_unlikeThoughts : MethodName := ⟨RX9, "unlikeThoughts", "()I"⟩
theorem nmX10 : ∀ a, a < 2 → ∀ b, b < 2 → a ≠ b → (TX10 a).2.1 ≠ (TX10 b).2.1 := by decide +kernel
theorem tyX10_ok : ∀ k, k < 2 → parseFieldDescriptor (TX10 k).2.2.1 = some (tyX10 k) := by decide +kernel
abbrev cX10_init : ByteArray := prog_12_method_1_code
def yX10_init : MethodName := ⟨RX10, "<init>", "()V"⟩
abbrev cX10_put : ByteArray := prog_12_method_2_code
def yX10_put : MethodName := ⟨RX10, "put", "(I)I"⟩
abbrev cX10_letterAt : ByteArray := prog_12_method_3_code
def yX10_letterAt : MethodName := ⟨RX10, "letterAt", "(I)I"⟩
abbrev cX10_digitAt : ByteArray := prog_12_method_4_code
def yX10_digitAt : MethodName := ⟨RX10, "digitAt", "(I)I"⟩
abbrev cX10_digitsBehind : ByteArray := prog_12_method_5_code
def yX10_digitsBehind : MethodName := ⟨RX10, "digitsBehind", "(I)I"⟩
abbrev cX10_oddPlace : ByteArray := prog_12_method_6_code
def yX10_oddPlace : MethodName := ⟨RX10, "oddPlace", "()I"⟩
theorem nmX11 : ∀ a, a < 18 → ∀ b, b < 18 → a ≠ b → (TX11 a).2.1 ≠ (TX11 b).2.1 := by decide +kernel
theorem tyX11_ok : ∀ k, k < 18 → parseFieldDescriptor (TX11 k).2.2.1 = some (tyX11 k) := by decide +kernel
abbrev cX11_init : ByteArray := prog_1_method_1_code
def yX11_init : MethodName := ⟨RX11, "<init>", "()V"⟩
abbrev cX11_refuse : ByteArray := prog_1_method_2_code
def yX11_refuse : MethodName := ⟨RX11, "refuse", "(I)I"⟩
abbrev cX11_either : ByteArray := prog_1_method_3_code
def yX11_either : MethodName := ⟨RX11, "either", "(II)I"⟩
abbrev cX11_outside : ByteArray := prog_1_method_4_code
def yX11_outside : MethodName := ⟨RX11, "outside", "(III)I"⟩
abbrev cX11_under : ByteArray := prog_1_method_5_code
def yX11_under : MethodName := ⟨RX11, "under", "(II)I"⟩
abbrev cX11_unknown : ByteArray := prog_1_method_6_code
def yX11_unknown : MethodName := ⟨RX11, "unknown", "(II)I"⟩
abbrev cX11_noWire : ByteArray := prog_1_method_7_code
def yX11_noWire : MethodName := ⟨RX11, "noWire", "(I)I"⟩
abbrev cX11_noBird : ByteArray := prog_1_method_8_code
def yX11_noBird : MethodName := ⟨RX11, "noBird", "(I)I"⟩
abbrev cX11_unfitRow : ByteArray := prog_1_method_9_code
def yX11_unfitRow : MethodName := ⟨RX11, "unfitRow", "(I)I"⟩
abbrev cX11_feed : ByteArray := prog_1_method_10_code
def yX11_feed : MethodName := ⟨RX11, "feed", "(I)I"⟩
abbrev cX11_town : ByteArray := prog_1_method_11_code
def yX11_town : MethodName := ⟨RX11, "town", "()I"⟩
abbrev cX11_readTown : ByteArray := prog_1_method_12_code
def yX11_readTown : MethodName := ⟨RX11, "readTown", "()I"⟩
abbrev cX11_comesTrue : ByteArray := prog_1_method_13_code
def yX11_comesTrue : MethodName := ⟨RX11, "comesTrue", "(I)Z"⟩
abbrev cX11_birdComes : ByteArray := prog_1_method_14_code
def yX11_birdComes : MethodName := ⟨RX11, "birdComes", "(III)Z"⟩
abbrev cX11_weightComes : ByteArray := prog_1_method_15_code
def yX11_weightComes : MethodName := ⟨RX11, "weightComes", "(II)Z"⟩
abbrev cX11_hoursCome : ByteArray := prog_1_method_16_code
def yX11_hoursCome : MethodName := ⟨RX11, "hoursCome", "(II)Z"⟩
abbrev cX11_catComes : ByteArray := prog_1_method_17_code
def yX11_catComes : MethodName := ⟨RX11, "catComes", "(I)Z"⟩
abbrev cX11_bird : ByteArray := prog_1_method_18_code
def yX11_bird : MethodName := ⟨RX11, "bird", "(II)I"⟩
abbrev cX11_comes : ByteArray := prog_1_method_19_code
def yX11_comes : MethodName := ⟨RX11, "comes", "(III)I"⟩
abbrev cX11_wire : ByteArray := prog_1_method_20_code
def yX11_wire : MethodName := ⟨RX11, "wire", "(II)I"⟩
abbrev cX11_weight : ByteArray := prog_1_method_21_code
def yX11_weight : MethodName := ⟨RX11, "weight", "(II)I"⟩
abbrev cX11_sixth : ByteArray := prog_1_method_22_code
def yX11_sixth : MethodName := ⟨RX11, "sixth", "(I)I"⟩
abbrev cX11_feeds : ByteArray := prog_1_method_23_code
def yX11_feeds : MethodName := ⟨RX11, "feeds", "(I)I"⟩
abbrev cX11_cat : ByteArray := prog_1_method_24_code
def yX11_cat : MethodName := ⟨RX11, "cat", "(I)I"⟩
abbrev cX11_hawk : ByteArray := prog_1_method_25_code
def yX11_hawk : MethodName := ⟨RX11, "hawk", "()I"⟩
abbrev cX11_rain : ByteArray := prog_1_method_26_code
def yX11_rain : MethodName := ⟨RX11, "rain", "()I"⟩
abbrev cX11_back : ByteArray := prog_1_method_27_code
def yX11_back : MethodName := ⟨RX11, "back", "()I"⟩
abbrev cX11_think : ByteArray := prog_1_method_28_code
def yX11_think : MethodName := ⟨RX11, "think", "()LClockOfSwallows$Flock;"⟩
abbrev cX11_thinkBehind : ByteArray := prog_1_method_29_code
def yX11_thinkBehind : MethodName := ⟨RX11, "thinkBehind", "(I)LClockOfSwallows$Flock;"⟩
abbrev cX11_behind : ByteArray := prog_1_method_30_code
def yX11_behind : MethodName := ⟨RX11, "behind", "(II)I"⟩
abbrev cX11_where : ByteArray := prog_1_method_31_code
def yX11_where : MethodName := ⟨RX11, "where", "(II)I"⟩
abbrev cX11_firstWrong : ByteArray := prog_1_method_32_code
def yX11_firstWrong : MethodName := ⟨RX11, "firstWrong", "()I"⟩
abbrev cX11_allWrong : ByteArray := prog_1_method_33_code
def yX11_allWrong : MethodName := ⟨RX11, "allWrong", "(I)I"⟩
abbrev cX11_right : ByteArray := prog_1_method_34_code
def yX11_right : MethodName := ⟨RX11, "right", "(II)I"⟩
abbrev cX11_later : ByteArray := prog_1_method_35_code
def yX11_later : MethodName := ⟨RX11, "later", "(II)I"⟩
abbrev cX11_stayed : ByteArray := prog_1_method_36_code
def yX11_stayed : MethodName := ⟨RX11, "stayed", "(I)I"⟩
abbrev cX11_settled : ByteArray := prog_1_method_37_code
def yX11_settled : MethodName := ⟨RX11, "settled", "()I"⟩
abbrev cX11_round : ByteArray := prog_1_method_38_code
def yX11_round : MethodName := ⟨RX11, "round", "()I"⟩
abbrev cX11_trains : ByteArray := prog_1_method_39_code
def yX11_trains : MethodName := ⟨RX11, "trains", "(IIII)I"⟩
abbrev cX11_trainsLooked : ByteArray := prog_1_method_40_code
def yX11_trainsLooked : MethodName := ⟨RX11, "trainsLooked", "(IIZ)I"⟩
abbrev cX11_happened : ByteArray := prog_1_method_41_code
def yX11_happened : MethodName := ⟨RX11, "happened", "()I"⟩
abbrev cX11_firstUnlike : ByteArray := prog_1_method_42_code
def yX11_firstUnlike : MethodName := ⟨RX11, "firstUnlike", "(LClockOfSwallows$Flock;)I"⟩
abbrev cX11_tellsMost : ByteArray := prog_1_method_43_code
def yX11_tellsMost : MethodName := ⟨RX11, "tellsMost", "(I)I"⟩
abbrev cX11_noteShown : ByteArray := prog_1_method_44_code
def yX11_noteShown : MethodName := ⟨RX11, "noteShown", "(I)V"⟩
abbrev cX11_catWorth : ByteArray := prog_1_method_45_code
def yX11_catWorth : MethodName := ⟨RX11, "catWorth", "()I"⟩
abbrev cX11_lots : ByteArray := prog_1_method_46_code
def yX11_lots : MethodName := ⟨RX11, "lots", "(III)I"⟩
abbrev cX11_thinkFed : ByteArray := prog_1_method_47_code
def yX11_thinkFed : MethodName := ⟨RX11, "thinkFed", "(I)LClockOfSwallows$Flock;"⟩
abbrev cX11_closest : ByteArray := prog_1_method_48_code
def yX11_closest : MethodName := ⟨RX11, "closest", "(I)I"⟩
abbrev cX11_chord : ByteArray := prog_1_method_49_code
def yX11_chord : MethodName := ⟨RX11, "chord", "(I)I"⟩
abbrev cX11_nextChords : ByteArray := prog_1_method_50_code
def yX11_nextChords : MethodName := ⟨RX11, "nextChords", "()I"⟩
abbrev cX11_watch : ByteArray := prog_1_method_51_code
def yX11_watch : MethodName := ⟨RX11, "watch", "(I)I"⟩
abbrev cX11_mostWrong : ByteArray := prog_1_method_52_code
def yX11_mostWrong : MethodName := ⟨RX11, "mostWrong", "(II)I"⟩
abbrev cX11_rivalSure : ByteArray := prog_1_method_53_code
def yX11_rivalSure : MethodName := ⟨RX11, "rivalSure", "(I)I"⟩
abbrev cX11_always : ByteArray := prog_1_method_54_code
def yX11_always : MethodName := ⟨RX11, "always", "(II)I"⟩
abbrev cX11_seek : ByteArray := prog_1_method_55_code
def yX11_seek : MethodName := ⟨RX11, "seek", "(LClockOfSwallows$Quest;[LClockOfSwallows$Flock;I)V"⟩
abbrev cX11_seekFromNow : ByteArray := prog_1_method_56_code
def yX11_seekFromNow : MethodName := ⟨RX11, "seekFromNow", "(LClockOfSwallows$Quest;)V"⟩
abbrev cX11_feeding : ByteArray := prog_1_method_57_code
def yX11_feeding : MethodName := ⟨RX11, "feeding", "(II)I"⟩
abbrev cX11_highest : ByteArray := prog_1_method_58_code
def yX11_highest : MethodName := ⟨RX11, "highest", "(I)I"⟩
abbrev cX11_plays : ByteArray := prog_1_method_59_code
def yX11_plays : MethodName := ⟨RX11, "plays", "(I)I"⟩
abbrev cX11_whoMoved : ByteArray := prog_1_method_60_code
def yX11_whoMoved : MethodName := ⟨RX11, "whoMoved", "(I)I"⟩
abbrev cX11_lured : ByteArray := prog_1_method_61_code
def yX11_lured : MethodName := ⟨RX11, "lured", "(III)I"⟩
abbrev cX11_gather : ByteArray := prog_1_method_62_code
def yX11_gather : MethodName := ⟨RX11, "gather", "(I)I"⟩
abbrev cX11_mixed : ByteArray := prog_1_method_63_code
def yX11_mixed : MethodName := ⟨RX11, "mixed", "()I"⟩
abbrev cX11_near : ByteArray := prog_1_method_64_code
def yX11_near : MethodName := ⟨RX11, "near", "(I)I"⟩
abbrev cX11_movesTo : ByteArray := prog_1_method_65_code
def yX11_movesTo : MethodName := ⟨RX11, "movesTo", "(LClockOfSwallows$Flock;II)I"⟩
abbrev cX11_read : ByteArray := prog_1_method_66_code
def yX11_read : MethodName := ⟨RX11, "read", "(I)I"⟩
abbrev cX11_tallySeats : ByteArray := prog_1_method_67_code
def yX11_tallySeats : MethodName := ⟨RX11, "tallySeats", "(LClockOfSwallows$Flock;III[I)V"⟩
abbrev cX11_bestWeight : ByteArray := prog_1_method_68_code
def yX11_bestWeight : MethodName := ⟨RX11, "bestWeight", "(I)I"⟩
abbrev cX11_addErrsByWeight : ByteArray := prog_1_method_69_code
def yX11_addErrsByWeight : MethodName := ⟨RX11, "addErrsByWeight", "(LClockOfSwallows$Flock;)V"⟩
abbrev cX11_bestWire : ByteArray := prog_1_method_70_code
def yX11_bestWire : MethodName := ⟨RX11, "bestWire", "(II)I"⟩
abbrev cX11_errsWithout : ByteArray := prog_1_method_71_code
def yX11_errsWithout : MethodName := ⟨RX11, "errsWithout", "(I)I"⟩
abbrev cX11_worstBird : ByteArray := prog_1_method_72_code
def yX11_worstBird : MethodName := ⟨RX11, "worstBird", "()I"⟩
abbrev cX11_spread : ByteArray := prog_1_method_73_code
def yX11_spread : MethodName := ⟨RX11, "spread", "(I)I"⟩
abbrev cX11_movesToEven : ByteArray := prog_1_method_74_code
def yX11_movesToEven : MethodName := ⟨RX11, "movesToEven", "()I"⟩
abbrev cX11_movesToFill : ByteArray := prog_1_method_75_code
def yX11_movesToFill : MethodName := ⟨RX11, "movesToFill", "(II)I"⟩
abbrev cX11_row : ByteArray := prog_1_method_76_code
def yX11_row : MethodName := ⟨RX11, "row", "(I)I"⟩
abbrev cX11_judge : ByteArray := prog_1_method_77_code
def yX11_judge : MethodName := ⟨RX11, "judge", "()I"⟩
abbrev cX11_clear : ByteArray := prog_1_method_78_code
def yX11_clear : MethodName := ⟨RX11, "clear", "()I"⟩
abbrev cX11_winter : ByteArray := prog_1_method_79_code
def yX11_winter : MethodName := ⟨RX11, "winter", "(I)I"⟩
abbrev cX11_image : ByteArray := prog_1_method_80_code
def yX11_image : MethodName := ⟨RX11, "image", "()I"⟩
abbrev cX11_restore : ByteArray := prog_1_method_81_code
def yX11_restore : MethodName := ⟨RX11, "restore", "()I"⟩
abbrev cX11_count : ByteArray := prog_1_method_82_code
def yX11_count : MethodName := ⟨RX11, "count", "(I)I"⟩
abbrev cX11_apart : ByteArray := prog_1_method_83_code
def yX11_apart : MethodName := ⟨RX11, "apart", "(II)I"⟩
theorem nmX12 : ∀ a, a < 33 → ∀ b, b < 33 → a ≠ b → (TX12 a).2.1 ≠ (TX12 b).2.1 := by decide +kernel
theorem tyX12_ok : ∀ k, k < 33 → parseFieldDescriptor (TX12 k).2.2.1 = some (tyX12 k) := by decide +kernel
abbrev cX12_init : ByteArray := prog_14_method_1_code
def yX12_init : MethodName := ⟨RX12, "<init>", "()V"⟩
abbrev cX12_no : ByteArray := prog_14_method_2_code
def yX12_no : MethodName := ⟨RX12, "no", "(I)I"⟩
abbrev cX12_isIn : ByteArray := prog_14_method_3_code
def yX12_isIn : MethodName := ⟨RX12, "isIn", "(III)Z"⟩
abbrev cX12_bound : ByteArray := prog_14_method_4_code
def yX12_bound : MethodName := ⟨RX12, "bound", "(III)I"⟩
abbrev cX12_isWire : ByteArray := prog_14_method_5_code
def yX12_isWire : MethodName := ⟨RX12, "isWire", "(I)Z"⟩
abbrev cX12_isBird : ByteArray := prog_14_method_6_code
def yX12_isBird : MethodName := ⟨RX12, "isBird", "(I)Z"⟩
abbrev cX12_manyOn : ByteArray := prog_14_method_7_code
def yX12_manyOn : MethodName := ⟨RX12, "manyOn", "(I)I"⟩
abbrev cX12_hasRoom : ByteArray := prog_14_method_8_code
def yX12_hasRoom : MethodName := ⟨RX12, "hasRoom", "(I)Z"⟩
abbrev cX12_shown : ByteArray := prog_14_method_9_code
def yX12_shown : MethodName := ⟨RX12, "shown", "()I"⟩
abbrev cX12_wrong : ByteArray := prog_14_method_10_code
def yX12_wrong : MethodName := ⟨RX12, "wrong", "()I"⟩
abbrev cX12_feed : ByteArray := prog_14_method_11_code
def yX12_feed : MethodName := ⟨RX12, "feed", "(I)I"⟩
abbrev cX12_next : ByteArray := prog_14_method_12_code
def yX12_next : MethodName := ⟨RX12, "next", "()I"⟩
abbrev cX12_readsDigits : ByteArray := prog_14_method_13_code
def yX12_readsDigits : MethodName := ⟨RX12, "readsDigits", "(II)Z"⟩
abbrev cX12_readsAll : ByteArray := prog_14_method_14_code
def yX12_readsAll : MethodName := ⟨RX12, "readsAll", "(II)Z"⟩
abbrev cX12_statement : ByteArray := prog_14_method_15_code
def yX12_statement : MethodName := ⟨RX12, "statement", "()Z"⟩
abbrev cX12_comesBird : ByteArray := prog_14_method_16_code
def yX12_comesBird : MethodName := ⟨RX12, "comesBird", "(I)Z"⟩
abbrev cX12_comesHours : ByteArray := prog_14_method_17_code
def yX12_comesHours : MethodName := ⟨RX12, "comesHours", "(II)Z"⟩
abbrev cX12_comes : ByteArray := prog_14_method_18_code
def yX12_comes : MethodName := ⟨RX12, "comes", "(I)Z"⟩
abbrev cX12_town : ByteArray := prog_14_method_19_code
def yX12_town : MethodName := ⟨RX12, "town", "()I"⟩
abbrev cX12_passes : ByteArray := prog_14_method_20_code
def yX12_passes : MethodName := ⟨RX12, "passes", "([I)V"⟩
abbrev cX12_passOne : ByteArray := prog_14_method_21_code
def yX12_passOne : MethodName := ⟨RX12, "passOne", "(I)I"⟩
abbrev cX12_passesAll : ByteArray := prog_14_method_22_code
def yX12_passesAll : MethodName := ⟨RX12, "passesAll", "(IZ)V"⟩
abbrev cX12_keepsBack : ByteArray := prog_14_method_23_code
def yX12_keepsBack : MethodName := ⟨RX12, "keepsBack", "()V"⟩
abbrev cX12_back : ByteArray := prog_14_method_24_code
def yX12_back : MethodName := ⟨RX12, "back", "()I"⟩
abbrev cX12_image : ByteArray := prog_14_method_25_code
def yX12_image : MethodName := ⟨RX12, "image", "()I"⟩
abbrev cX12_restore : ByteArray := prog_14_method_26_code
def yX12_restore : MethodName := ⟨RX12, "restore", "()I"⟩
abbrev cX12_thinks : ByteArray := prog_14_method_27_code
def yX12_thinks : MethodName := ⟨RX12, "thinks", "()V"⟩
abbrev cX12_forgets : ByteArray := prog_14_method_28_code
def yX12_forgets : MethodName := ⟨RX12, "forgets", "()V"⟩
abbrev cX12_adds : ByteArray := prog_14_method_29_code
def yX12_adds : MethodName := ⟨RX12, "adds", "(III)V"⟩
abbrev cX12_far : ByteArray := prog_14_method_30_code
def yX12_far : MethodName := ⟨RX12, "far", "(II)I"⟩
abbrev cX12_lesser : ByteArray := prog_14_method_31_code
def yX12_lesser : MethodName := ⟨RX12, "lesser", "(II)I"⟩
abbrev cX12_nearer : ByteArray := prog_14_method_32_code
def yX12_nearer : MethodName := ⟨RX12, "nearer", "(II)I"⟩
abbrev cX12_wantsYoung : ByteArray := prog_14_method_33_code
def yX12_wantsYoung : MethodName := ⟨RX12, "wantsYoung", "(II)I"⟩
abbrev cX12_wantsOld : ByteArray := prog_14_method_34_code
def yX12_wantsOld : MethodName := ⟨RX12, "wantsOld", "(II)I"⟩
abbrev cX12_wants : ByteArray := prog_14_method_35_code
def yX12_wants : MethodName := ⟨RX12, "wants", "(II)I"⟩
abbrev cX12_goesOne : ByteArray := prog_14_method_36_code
def yX12_goesOne : MethodName := ⟨RX12, "goesOne", "(I)I"⟩
abbrev cX12_goes : ByteArray := prog_14_method_37_code
def yX12_goes : MethodName := ⟨RX12, "goes", "(II)V"⟩
abbrev cX12_fromCat : ByteArray := prog_14_method_38_code
def yX12_fromCat : MethodName := ⟨RX12, "fromCat", "(I)I"⟩
abbrev cX12_cats : ByteArray := prog_14_method_39_code
def yX12_cats : MethodName := ⟨RX12, "cats", "(I)I"⟩
abbrev cX12_outermost : ByteArray := prog_14_method_40_code
def yX12_outermost : MethodName := ⟨RX12, "outermost", "(Z)I"⟩
abbrev cX12_fliesTo : ByteArray := prog_14_method_41_code
def yX12_fliesTo : MethodName := ⟨RX12, "fliesTo", "(Z)I"⟩
abbrev cX12_hangs : ByteArray := prog_14_method_42_code
def yX12_hangs : MethodName := ⟨RX12, "hangs", "()V"⟩
abbrev cX12_happens : ByteArray := prog_14_method_43_code
def yX12_happens : MethodName := ⟨RX12, "happens", "(I)V"⟩
abbrev cX12_bird : ByteArray := prog_14_method_44_code
def yX12_bird : MethodName := ⟨RX12, "bird", "(II)I"⟩
abbrev cX12_comes_ : ByteArray := prog_14_method_45_code
def yX12_comes_ : MethodName := ⟨RX12, "comes", "(III)I"⟩
abbrev cX12_wire : ByteArray := prog_14_method_46_code
def yX12_wire : MethodName := ⟨RX12, "wire", "(II)I"⟩
abbrev cX12_weight : ByteArray := prog_14_method_47_code
def yX12_weight : MethodName := ⟨RX12, "weight", "(II)I"⟩
abbrev cX12_sixth : ByteArray := prog_14_method_48_code
def yX12_sixth : MethodName := ⟨RX12, "sixth", "(I)I"⟩
abbrev cX12_feeds : ByteArray := prog_14_method_49_code
def yX12_feeds : MethodName := ⟨RX12, "feeds", "(I)I"⟩
abbrev cX12_cat : ByteArray := prog_14_method_50_code
def yX12_cat : MethodName := ⟨RX12, "cat", "(I)I"⟩
abbrev cX12_hawk : ByteArray := prog_14_method_51_code
def yX12_hawk : MethodName := ⟨RX12, "hawk", "()I"⟩
abbrev cX12_rain : ByteArray := prog_14_method_52_code
def yX12_rain : MethodName := ⟨RX12, "rain", "()I"⟩
abbrev cX12_findHours : ByteArray := prog_14_method_53_code
def yX12_findHours : MethodName := ⟨RX12, "findHours", "(I)V"⟩
abbrev cX12_notHours : ByteArray := prog_14_method_54_code
def yX12_notHours : MethodName := ⟨RX12, "notHours", "(I)I"⟩
abbrev cX12_behind : ByteArray := prog_14_method_55_code
def yX12_behind : MethodName := ⟨RX12, "behind", "(II)I"⟩
abbrev cX12_where : ByteArray := prog_14_method_56_code
def yX12_where : MethodName := ⟨RX12, "where", "(II)I"⟩
abbrev cX12_firstWrong : ByteArray := prog_14_method_57_code
def yX12_firstWrong : MethodName := ⟨RX12, "firstWrong", "()I"⟩
abbrev cX12_wrongTo : ByteArray := prog_14_method_58_code
def yX12_wrongTo : MethodName := ⟨RX12, "wrongTo", "(I)I"⟩
abbrev cX12_allWrong : ByteArray := prog_14_method_59_code
def yX12_allWrong : MethodName := ⟨RX12, "allWrong", "(I)I"⟩
abbrev cX12_waysOf : ByteArray := prog_14_method_60_code
def yX12_waysOf : MethodName := ⟨RX12, "waysOf", "(I)I"⟩
abbrev cX12_laysWay : ByteArray := prog_14_method_61_code
def yX12_laysWay : MethodName := ⟨RX12, "laysWay", "(II)V"⟩
abbrev cX12_fliesIn : ByteArray := prog_14_method_62_code
def yX12_fliesIn : MethodName := ⟨RX12, "fliesIn", "(I)I"⟩
abbrev cX12_tellsAs : ByteArray := prog_14_method_63_code
def yX12_tellsAs : MethodName := ⟨RX12, "tellsAs", "(III)I"⟩
abbrev cX12_chordNow : ByteArray := prog_14_method_64_code
def yX12_chordNow : MethodName := ⟨RX12, "chordNow", "()I"⟩
abbrev cX12_goesAs : ByteArray := prog_14_method_65_code
def yX12_goesAs : MethodName := ⟨RX12, "goesAs", "(II)Z"⟩
abbrev cX12_keepsWay : ByteArray := prog_14_method_66_code
def yX12_keepsWay : MethodName := ⟨RX12, "keepsWay", "(I)V"⟩
abbrev cX12_feeding : ByteArray := prog_14_method_67_code
def yX12_feeding : MethodName := ⟨RX12, "feeding", "(II)I"⟩
abbrev cX12_wrongBy : ByteArray := prog_14_method_68_code
def yX12_wrongBy : MethodName := ⟨RX12, "wrongBy", "(I)I"⟩
abbrev cX12_closest : ByteArray := prog_14_method_69_code
def yX12_closest : MethodName := ⟨RX12, "closest", "(I)I"⟩
abbrev cX12_highest : ByteArray := prog_14_method_70_code
def yX12_highest : MethodName := ⟨RX12, "highest", "(I)I"⟩
abbrev cX12_findThings : ByteArray := prog_14_method_71_code
def yX12_findThings : MethodName := ⟨RX12, "findThings", "(I)V"⟩
abbrev cX12_happened : ByteArray := prog_14_method_72_code
def yX12_happened : MethodName := ⟨RX12, "happened", "()I"⟩
abbrev cX12_unlikeThings : ByteArray := prog_14_method_73_code
def yX12_unlikeThings : MethodName := ⟨RX12, "unlikeThings", "(I)I"⟩
abbrev cX12_tellsMost : ByteArray := prog_14_method_74_code
def yX12_tellsMost : MethodName := ⟨RX12, "tellsMost", "(I)I"⟩
abbrev cX12_canMove : ByteArray := prog_14_method_75_code
def yX12_canMove : MethodName := ⟨RX12, "canMove", "(II)Z"⟩
abbrev cX12_mixed : ByteArray := prog_14_method_76_code
def yX12_mixed : MethodName := ⟨RX12, "mixed", "()I"⟩
abbrev cX12_makesMoves : ByteArray := prog_14_method_77_code
def yX12_makesMoves : MethodName := ⟨RX12, "makesMoves", "(II)Z"⟩
abbrev cX12_isNear : ByteArray := prog_14_method_78_code
def yX12_isNear : MethodName := ⟨RX12, "isNear", "(II)Z"⟩
abbrev cX12_near : ByteArray := prog_14_method_79_code
def yX12_near : MethodName := ⟨RX12, "near", "(I)I"⟩
abbrev cX12_findSittings : ByteArray := prog_14_method_80_code
def yX12_findSittings : MethodName := ⟨RX12, "findSittings", "()V"⟩
abbrev cX12_read : ByteArray := prog_14_method_81_code
def yX12_read : MethodName := ⟨RX12, "read", "(I)I"⟩
abbrev cX12_bestWeight : ByteArray := prog_14_method_82_code
def yX12_bestWeight : MethodName := ⟨RX12, "bestWeight", "(I)I"⟩
abbrev cX12_wrongOn : ByteArray := prog_14_method_83_code
def yX12_wrongOn : MethodName := ⟨RX12, "wrongOn", "(II)I"⟩
abbrev cX12_bestWire : ByteArray := prog_14_method_84_code
def yX12_bestWire : MethodName := ⟨RX12, "bestWire", "(II)I"⟩
abbrev cX12_nextChords : ByteArray := prog_14_method_85_code
def yX12_nextChords : MethodName := ⟨RX12, "nextChords", "()I"⟩
abbrev cX12_chordBy : ByteArray := prog_14_method_86_code
def yX12_chordBy : MethodName := ⟨RX12, "chordBy", "(I)I"⟩
abbrev cX12_chord : ByteArray := prog_14_method_87_code
def yX12_chord : MethodName := ⟨RX12, "chord", "(I)I"⟩
abbrev cX12_isRowUpTo : ByteArray := prog_14_method_88_code
def yX12_isRowUpTo : MethodName := ⟨RX12, "isRowUpTo", "(I)Z"⟩
abbrev cX12_plays : ByteArray := prog_14_method_89_code
def yX12_plays : MethodName := ⟨RX12, "plays", "(I)I"⟩
abbrev cX12_isTrain : ByteArray := prog_14_method_90_code
def yX12_isTrain : MethodName := ⟨RX12, "isTrain", "(III)Z"⟩
abbrev cX12_trains : ByteArray := prog_14_method_91_code
def yX12_trains : MethodName := ⟨RX12, "trains", "(IIII)I"⟩
abbrev cX12_whoMoved : ByteArray := prog_14_method_92_code
def yX12_whoMoved : MethodName := ⟨RX12, "whoMoved", "(I)I"⟩
abbrev cX12_watched : ByteArray := prog_14_method_93_code
def yX12_watched : MethodName := ⟨RX12, "watched", "(II)I"⟩
abbrev cX12_mostAgainst : ByteArray := prog_14_method_94_code
def yX12_mostAgainst : MethodName := ⟨RX12, "mostAgainst", "(I)I"⟩
abbrev cX12_leastAgainst : ByteArray := prog_14_method_95_code
def yX12_leastAgainst : MethodName := ⟨RX12, "leastAgainst", "(I)I"⟩
abbrev cX12_watch : ByteArray := prog_14_method_96_code
def yX12_watch : MethodName := ⟨RX12, "watch", "(I)I"⟩
abbrev cX12_middleOf : ByteArray := prog_14_method_97_code
def yX12_middleOf : MethodName := ⟨RX12, "middleOf", "(III)I"⟩
abbrev cX12_thinksOn : ByteArray := prog_14_method_98_code
def yX12_thinksOn : MethodName := ⟨RX12, "thinksOn", "()Z"⟩
abbrev cX12_winter : ByteArray := prog_14_method_99_code
def yX12_winter : MethodName := ⟨RX12, "winter", "(I)I"⟩
abbrev cX12_settled : ByteArray := prog_14_method_100_code
def yX12_settled : MethodName := ⟨RX12, "settled", "()I"⟩
abbrev cX12_sitAsThen : ByteArray := prog_14_method_101_code
def yX12_sitAsThen : MethodName := ⟨RX12, "sitAsThen", "()Z"⟩
abbrev cX12_round : ByteArray := prog_14_method_102_code
def yX12_round : MethodName := ⟨RX12, "round", "()I"⟩
abbrev cX12_always : ByteArray := prog_14_method_103_code
def yX12_always : MethodName := ⟨RX12, "always", "(II)I"⟩
abbrev cX12_catWorth : ByteArray := prog_14_method_104_code
def yX12_catWorth : MethodName := ⟨RX12, "catWorth", "()I"⟩
abbrev cX12_bits : ByteArray := prog_14_method_105_code
def yX12_bits : MethodName := ⟨RX12, "bits", "(I)I"⟩
abbrev cX12_movesTo : ByteArray := prog_14_method_106_code
def yX12_movesTo : MethodName := ⟨RX12, "movesTo", "(I)I"⟩
abbrev cX12_evenBy : ByteArray := prog_14_method_107_code
def yX12_evenBy : MethodName := ⟨RX12, "evenBy", "()I"⟩
abbrev cX12_spread : ByteArray := prog_14_method_108_code
def yX12_spread : MethodName := ⟨RX12, "spread", "(I)I"⟩
abbrev cX12_later : ByteArray := prog_14_method_109_code
def yX12_later : MethodName := ⟨RX12, "later", "(II)I"⟩
abbrev cX12_stayed : ByteArray := prog_14_method_110_code
def yX12_stayed : MethodName := ⟨RX12, "stayed", "(I)I"⟩
abbrev cX12_endsAs : ByteArray := prog_14_method_111_code
def yX12_endsAs : MethodName := ⟨RX12, "endsAs", "(III)Z"⟩
abbrev cX12_hoursTill : ByteArray := prog_14_method_112_code
def yX12_hoursTill : MethodName := ⟨RX12, "hoursTill", "(II)I"⟩
abbrev cX12_lured : ByteArray := prog_14_method_113_code
def yX12_lured : MethodName := ⟨RX12, "lured", "(III)I"⟩
abbrev cX12_right : ByteArray := prog_14_method_114_code
def yX12_right : MethodName := ⟨RX12, "right", "(II)I"⟩
abbrev cX12_worstBird : ByteArray := prog_14_method_115_code
def yX12_worstBird : MethodName := ⟨RX12, "worstBird", "()I"⟩
abbrev cX12_gather : ByteArray := prog_14_method_116_code
def yX12_gather : MethodName := ⟨RX12, "gather", "(I)I"⟩
abbrev cX12_row : ByteArray := prog_14_method_117_code
def yX12_row : MethodName := ⟨RX12, "row", "(I)I"⟩
abbrev cX12_judge : ByteArray := prog_14_method_118_code
def yX12_judge : MethodName := ⟨RX12, "judge", "()I"⟩
abbrev cX12_clear : ByteArray := prog_14_method_119_code
def yX12_clear : MethodName := ⟨RX12, "clear", "()I"⟩
abbrev cX12_lots : ByteArray := prog_14_method_120_code
def yX12_lots : MethodName := ⟨RX12, "lots", "(III)I"⟩
abbrev cX12_count : ByteArray := prog_14_method_121_code
def yX12_count : MethodName := ⟨RX12, "count", "(I)I"⟩
abbrev cJ6_bitCount_0f7a4 : ByteArray := prog_15_method_49_code
def yJ6_bitCount_0f7a4 : MethodName := ⟨RJ6, "bitCount", "(I)I"⟩
abbrev cJ13_bitCount_95d88 : ByteArray := prog_16_method_50_code
def yJ13_bitCount_95d88 : MethodName := ⟨RJ13, "bitCount", "(J)I"⟩
abbrev cJ9_floorMod_7cf53 : ByteArray := prog_17_method_50_code
def yJ9_floorMod_7cf53 : MethodName := ⟨RJ9, "floorMod", "(II)I"⟩
abbrev cJ9_abs_0f7a4 : ByteArray := prog_17_method_59_code
def yJ9_abs_0f7a4 : MethodName := ⟨RJ9, "abs", "(I)I"⟩
abbrev cJ9_max_7cf53 : ByteArray := prog_17_method_65_code
def yJ9_max_7cf53 : MethodName := ⟨RJ9, "max", "(II)I"⟩
abbrev cJ9_min_7cf53 : ByteArray := prog_17_method_69_code
def yJ9_min_7cf53 : MethodName := ⟨RJ9, "min", "(II)I"⟩
abbrev cJ7_fill_53178 : ByteArray := prog_19_method_103_code
def yJ7_fill_53178 : MethodName := ⟨RJ7, "fill", "([II)V"⟩
abbrev cL_law : ByteArray := code
def yL_law : MethodName := ⟨RL, "law", "([I)Z"⟩
