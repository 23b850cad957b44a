-- the tables' words (the skeleton's first part), then names, fields and types of the classes
/-- a private method of a class that the tables say can be made, by its rows of tables_1 -/
def lw_okq (q : MethodName × Nat) : Prop := (q.1.cls ≠ "java/lang/invoke/MethodHandle" ∧ q.1.cls ≠ "java/lang/invoke/VarHandle") ∧ Cond.instantiable q.1.cls q.2 ∈ tables_1 ∧ Cond.privateMethod q.1 ∈ tables_1 ∧ Cond.instanceMethod q.1 ∈ tables_1
theorem lw_p0 : lw_okq (⟨"TurtleBet$Moat", "plainStep", "(LTurtleBet$Turtle;I)I"⟩, 12) := ⟨⟨by decide +kernel, by decide +kernel⟩, List.mem_of_getElem? (i := 68) (by decide +kernel), List.mem_of_getElem? (i := 320) (by decide +kernel), List.mem_of_getElem? (i := 321) (by decide +kernel)⟩
theorem lw_p1 : lw_okq (⟨"TurtleBet$Moat", "haste", "()I"⟩, 12) := ⟨⟨by decide +kernel, by decide +kernel⟩, List.mem_of_getElem? (i := 68) (by decide +kernel), List.mem_of_getElem? (i := 347) (by decide +kernel), List.mem_of_getElem? (i := 348) (by decide +kernel)⟩
theorem lw_p2 : lw_okq (⟨"TurtleBet$Moat", "stakesOn", "(I)I"⟩, 12) := ⟨⟨by decide +kernel, by decide +kernel⟩, List.mem_of_getElem? (i := 68) (by decide +kernel), List.mem_of_getElem? (i := 465) (by decide +kernel), List.mem_of_getElem? (i := 466) (by decide +kernel)⟩
theorem lw_p3 : lw_okq (⟨"TurtleBet", "differences", "(LTurtleBet$Sheet;II)I"⟩, 11) := ⟨⟨by decide +kernel, by decide +kernel⟩, List.mem_of_getElem? (i := 19) (by decide +kernel), List.mem_of_getElem? (i := 519) (by decide +kernel), List.mem_of_getElem? (i := 520) (by decide +kernel)⟩
theorem lw_p4 : lw_okq (⟨"TurtleBet", "feedFour", "(I)V"⟩, 11) := ⟨⟨by decide +kernel, by decide +kernel⟩, List.mem_of_getElem? (i := 19) (by decide +kernel), List.mem_of_getElem? (i := 549) (by decide +kernel), List.mem_of_getElem? (i := 550) (by decide +kernel)⟩
theorem lw_p5 : lw_okq (⟨"TurtleBet$Reader", "advance", "()V"⟩, 7) := ⟨⟨by decide +kernel, by decide +kernel⟩, List.mem_of_getElem? (i := 562) (by decide +kernel), List.mem_of_getElem? (i := 598) (by decide +kernel), List.mem_of_getElem? (i := 599) (by decide +kernel)⟩
theorem lw_p6 : lw_okq (⟨"TurtleBet$Reader", "readKey", "()Z"⟩, 7) := ⟨⟨by decide +kernel, by decide +kernel⟩, List.mem_of_getElem? (i := 562) (by decide +kernel), List.mem_of_getElem? (i := 605) (by decide +kernel), List.mem_of_getElem? (i := 606) (by decide +kernel)⟩
theorem lw_p7 : lw_okq (⟨"TurtleBet$Reader", "isWord", "(Ljava/lang/String;)Z"⟩, 7) := ⟨⟨by decide +kernel, by decide +kernel⟩, List.mem_of_getElem? (i := 562) (by decide +kernel), List.mem_of_getElem? (i := 610) (by decide +kernel), List.mem_of_getElem? (i := 611) (by decide +kernel)⟩
theorem lw_p8 : lw_okq (⟨"TurtleBet$Reader", "readJoined", "(III)Z"⟩, 7) := ⟨⟨by decide +kernel, by decide +kernel⟩, List.mem_of_getElem? (i := 562) (by decide +kernel), List.mem_of_getElem? (i := 664) (by decide +kernel), List.mem_of_getElem? (i := 665) (by decide +kernel)⟩
theorem lw_p9 : lw_okq (⟨"TurtleBet$Reader", "readPiece", "(II)Z"⟩, 7) := ⟨⟨by decide +kernel, by decide +kernel⟩, List.mem_of_getElem? (i := 562) (by decide +kernel), List.mem_of_getElem? (i := 668) (by decide +kernel), List.mem_of_getElem? (i := 669) (by decide +kernel)⟩
theorem lw_p10 : lw_okq (⟨"TurtleBet$Reader", "numberHere", "()I"⟩, 7) := ⟨⟨by decide +kernel, by decide +kernel⟩, List.mem_of_getElem? (i := 562) (by decide +kernel), List.mem_of_getElem? (i := 672) (by decide +kernel), List.mem_of_getElem? (i := 673) (by decide +kernel)⟩
theorem lw_p11 : lw_okq (⟨"TurtleBet$Reader", "nameHere", "()I"⟩, 7) := ⟨⟨by decide +kernel, by decide +kernel⟩, List.mem_of_getElem? (i := 562) (by decide +kernel), List.mem_of_getElem? (i := 676) (by decide +kernel), List.mem_of_getElem? (i := 677) (by decide +kernel)⟩
theorem lw_p12 : lw_okq (⟨"TurtleBet$Reader", "isMark", "(C)Z"⟩, 7) := ⟨⟨by decide +kernel, by decide +kernel⟩, List.mem_of_getElem? (i := 562) (by decide +kernel), List.mem_of_getElem? (i := 749) (by decide +kernel), List.mem_of_getElem? (i := 750) (by decide +kernel)⟩
theorem lw_p13 : lw_okq (⟨"TurtleBet$Reader", "loosenessHere", "()I"⟩, 7) := ⟨⟨by decide +kernel, by decide +kernel⟩, List.mem_of_getElem? (i := 562) (by decide +kernel), List.mem_of_getElem? (i := 754) (by decide +kernel), List.mem_of_getElem? (i := 755) (by decide +kernel)⟩
theorem lw_p14 : lw_okq (⟨"TurtleBet", "isYard", "(II)Z"⟩, 11) := ⟨⟨by decide +kernel, by decide +kernel⟩, List.mem_of_getElem? (i := 19) (by decide +kernel), List.mem_of_getElem? (i := 793) (by decide +kernel), List.mem_of_getElem? (i := 794) (by decide +kernel)⟩
theorem lw_p15 : lw_okq (⟨"TurtleBet", "waitsAt", "(III)Z"⟩, 11) := ⟨⟨by decide +kernel, by decide +kernel⟩, List.mem_of_getElem? (i := 19) (by decide +kernel), List.mem_of_getElem? (i := 847) (by decide +kernel), List.mem_of_getElem? (i := 848) (by decide +kernel)⟩
def lw_privs_1 : List (MethodName × Nat) := [(⟨"TurtleBet$Moat", "plainStep", "(LTurtleBet$Turtle;I)I"⟩, 12), (⟨"TurtleBet$Moat", "haste", "()I"⟩, 12), (⟨"TurtleBet$Moat", "stakesOn", "(I)I"⟩, 12), (⟨"TurtleBet", "differences", "(LTurtleBet$Sheet;II)I"⟩, 11), (⟨"TurtleBet", "feedFour", "(I)V"⟩, 11), (⟨"TurtleBet$Reader", "advance", "()V"⟩, 7), (⟨"TurtleBet$Reader", "readKey", "()Z"⟩, 7), (⟨"TurtleBet$Reader", "isWord", "(Ljava/lang/String;)Z"⟩, 7), (⟨"TurtleBet$Reader", "readJoined", "(III)Z"⟩, 7), (⟨"TurtleBet$Reader", "readPiece", "(II)Z"⟩, 7), (⟨"TurtleBet$Reader", "numberHere", "()I"⟩, 7), (⟨"TurtleBet$Reader", "nameHere", "()I"⟩, 7), (⟨"TurtleBet$Reader", "isMark", "(C)Z"⟩, 7), (⟨"TurtleBet$Reader", "loosenessHere", "()I"⟩, 7), (⟨"TurtleBet", "isYard", "(II)Z"⟩, 11), (⟨"TurtleBet", "waitsAt", "(III)Z"⟩, 11)]
theorem lw_r1 : ∀ q ∈ lw_privs_1, lw_okq q := List.forall_mem_cons.mpr ⟨lw_p0, List.forall_mem_cons.mpr ⟨lw_p1, List.forall_mem_cons.mpr ⟨lw_p2, List.forall_mem_cons.mpr ⟨lw_p3, List.forall_mem_cons.mpr ⟨lw_p4, List.forall_mem_cons.mpr ⟨lw_p5, List.forall_mem_cons.mpr ⟨lw_p6, List.forall_mem_cons.mpr ⟨lw_p7, List.forall_mem_cons.mpr ⟨lw_p8, List.forall_mem_cons.mpr ⟨lw_p9, List.forall_mem_cons.mpr ⟨lw_p10, List.forall_mem_cons.mpr ⟨lw_p11, List.forall_mem_cons.mpr ⟨lw_p12, List.forall_mem_cons.mpr ⟨lw_p13, List.forall_mem_cons.mpr ⟨lw_p14, List.forall_mem_cons.mpr ⟨lw_p15, fun _ h => absurd h List.not_mem_nil⟩⟩⟩⟩⟩⟩⟩⟩⟩⟩⟩⟩⟩⟩⟩⟩
theorem lw_p16 : lw_okq (⟨"TurtleBetModel", "comes", "(II)I"⟩, 33) := ⟨⟨by decide +kernel, by decide +kernel⟩, List.mem_of_getElem? (i := 871) (by decide +kernel), List.mem_of_getElem? (i := 988) (by decide +kernel), List.mem_of_getElem? (i := 989) (by decide +kernel)⟩
theorem lw_p17 : lw_okq (⟨"TurtleBetModel", "put", "(III)V"⟩, 33) := ⟨⟨by decide +kernel, by decide +kernel⟩, List.mem_of_getElem? (i := 871) (by decide +kernel), List.mem_of_getElem? (i := 992) (by decide +kernel), List.mem_of_getElem? (i := 993) (by decide +kernel)⟩
theorem lw_p18 : lw_okq (⟨"TurtleBetModel", "isTurtle", "(I)Z"⟩, 33) := ⟨⟨by decide +kernel, by decide +kernel⟩, List.mem_of_getElem? (i := 871) (by decide +kernel), List.mem_of_getElem? (i := 1000) (by decide +kernel), List.mem_of_getElem? (i := 1001) (by decide +kernel)⟩
theorem lw_p19 : lw_okq (⟨"TurtleBetModel", "of", "(II)I"⟩, 33) := ⟨⟨by decide +kernel, by decide +kernel⟩, List.mem_of_getElem? (i := 871) (by decide +kernel), List.mem_of_getElem? (i := 1004) (by decide +kernel), List.mem_of_getElem? (i := 1005) (by decide +kernel)⟩
theorem lw_p20 : lw_okq (⟨"TurtleBetModel", "lapsOf", "(I)I"⟩, 33) := ⟨⟨by decide +kernel, by decide +kernel⟩, List.mem_of_getElem? (i := 871) (by decide +kernel), List.mem_of_getElem? (i := 1008) (by decide +kernel), List.mem_of_getElem? (i := 1009) (by decide +kernel)⟩
theorem lw_p21 : lw_okq (⟨"TurtleBetModel", "yardOf", "(I)I"⟩, 33) := ⟨⟨by decide +kernel, by decide +kernel⟩, List.mem_of_getElem? (i := 871) (by decide +kernel), List.mem_of_getElem? (i := 1012) (by decide +kernel), List.mem_of_getElem? (i := 1013) (by decide +kernel)⟩
theorem lw_p22 : lw_okq (⟨"TurtleBetModel", "worthOf", "(I)I"⟩, 33) := ⟨⟨by decide +kernel, by decide +kernel⟩, List.mem_of_getElem? (i := 871) (by decide +kernel), List.mem_of_getElem? (i := 1016) (by decide +kernel), List.mem_of_getElem? (i := 1017) (by decide +kernel)⟩
theorem lw_p23 : lw_okq (⟨"TurtleBetModel", "stepBy", "(II)I"⟩, 33) := ⟨⟨by decide +kernel, by decide +kernel⟩, List.mem_of_getElem? (i := 871) (by decide +kernel), List.mem_of_getElem? (i := 1024) (by decide +kernel), List.mem_of_getElem? (i := 1025) (by decide +kernel)⟩
theorem lw_p24 : lw_okq (⟨"TurtleBetModel", "counts", "(I)I"⟩, 33) := ⟨⟨by decide +kernel, by decide +kernel⟩, List.mem_of_getElem? (i := 871) (by decide +kernel), List.mem_of_getElem? (i := 1028) (by decide +kernel), List.mem_of_getElem? (i := 1029) (by decide +kernel)⟩
theorem lw_p25 : lw_okq (⟨"TurtleBetModel", "worksOut", "(I)I"⟩, 33) := ⟨⟨by decide +kernel, by decide +kernel⟩, List.mem_of_getElem? (i := 871) (by decide +kernel), List.mem_of_getElem? (i := 1032) (by decide +kernel), List.mem_of_getElem? (i := 1033) (by decide +kernel)⟩
theorem lw_p26 : lw_okq (⟨"TurtleBetModel", "becomes", "(II)I"⟩, 33) := ⟨⟨by decide +kernel, by decide +kernel⟩, List.mem_of_getElem? (i := 871) (by decide +kernel), List.mem_of_getElem? (i := 1054) (by decide +kernel), List.mem_of_getElem? (i := 1055) (by decide +kernel)⟩
theorem lw_p27 : lw_okq (⟨"TurtleBetModel", "draw", "()I"⟩, 33) := ⟨⟨by decide +kernel, by decide +kernel⟩, List.mem_of_getElem? (i := 871) (by decide +kernel), List.mem_of_getElem? (i := 1082) (by decide +kernel), List.mem_of_getElem? (i := 1083) (by decide +kernel)⟩
theorem lw_p28 : lw_okq (⟨"TurtleBetModel", "goesOn", "(I)V"⟩, 33) := ⟨⟨by decide +kernel, by decide +kernel⟩, List.mem_of_getElem? (i := 871) (by decide +kernel), List.mem_of_getElem? (i := 1095) (by decide +kernel), List.mem_of_getElem? (i := 1096) (by decide +kernel)⟩
theorem lw_p29 : lw_okq (⟨"TurtleBetModel", "day", "()V"⟩, 33) := ⟨⟨by decide +kernel, by decide +kernel⟩, List.mem_of_getElem? (i := 871) (by decide +kernel), List.mem_of_getElem? (i := 1099) (by decide +kernel), List.mem_of_getElem? (i := 1100) (by decide +kernel)⟩
theorem lw_p30 : lw_okq (⟨"TurtleBetModel", "ahead", "()I"⟩, 33) := ⟨⟨by decide +kernel, by decide +kernel⟩, List.mem_of_getElem? (i := 871) (by decide +kernel), List.mem_of_getElem? (i := 1103) (by decide +kernel), List.mem_of_getElem? (i := 1104) (by decide +kernel)⟩
theorem lw_p31 : lw_okq (⟨"TurtleBetModel", "bets", "(III)I"⟩, 33) := ⟨⟨by decide +kernel, by decide +kernel⟩, List.mem_of_getElem? (i := 871) (by decide +kernel), List.mem_of_getElem? (i := 1119) (by decide +kernel), List.mem_of_getElem? (i := 1120) (by decide +kernel)⟩
def lw_privs_2 : List (MethodName × Nat) := [(⟨"TurtleBetModel", "comes", "(II)I"⟩, 33), (⟨"TurtleBetModel", "put", "(III)V"⟩, 33), (⟨"TurtleBetModel", "isTurtle", "(I)Z"⟩, 33), (⟨"TurtleBetModel", "of", "(II)I"⟩, 33), (⟨"TurtleBetModel", "lapsOf", "(I)I"⟩, 33), (⟨"TurtleBetModel", "yardOf", "(I)I"⟩, 33), (⟨"TurtleBetModel", "worthOf", "(I)I"⟩, 33), (⟨"TurtleBetModel", "stepBy", "(II)I"⟩, 33), (⟨"TurtleBetModel", "counts", "(I)I"⟩, 33), (⟨"TurtleBetModel", "worksOut", "(I)I"⟩, 33), (⟨"TurtleBetModel", "becomes", "(II)I"⟩, 33), (⟨"TurtleBetModel", "draw", "()I"⟩, 33), (⟨"TurtleBetModel", "goesOn", "(I)V"⟩, 33), (⟨"TurtleBetModel", "day", "()V"⟩, 33), (⟨"TurtleBetModel", "ahead", "()I"⟩, 33), (⟨"TurtleBetModel", "bets", "(III)I"⟩, 33)]
theorem lw_r2 : ∀ q ∈ lw_privs_2, lw_okq q := List.forall_mem_cons.mpr ⟨lw_p16, List.forall_mem_cons.mpr ⟨lw_p17, List.forall_mem_cons.mpr ⟨lw_p18, List.forall_mem_cons.mpr ⟨lw_p19, List.forall_mem_cons.mpr ⟨lw_p20, List.forall_mem_cons.mpr ⟨lw_p21, List.forall_mem_cons.mpr ⟨lw_p22, List.forall_mem_cons.mpr ⟨lw_p23, List.forall_mem_cons.mpr ⟨lw_p24, List.forall_mem_cons.mpr ⟨lw_p25, List.forall_mem_cons.mpr ⟨lw_p26, List.forall_mem_cons.mpr ⟨lw_p27, List.forall_mem_cons.mpr ⟨lw_p28, List.forall_mem_cons.mpr ⟨lw_p29, List.forall_mem_cons.mpr ⟨lw_p30, List.forall_mem_cons.mpr ⟨lw_p31, fun _ h => absurd h List.not_mem_nil⟩⟩⟩⟩⟩⟩⟩⟩⟩⟩⟩⟩⟩⟩⟩⟩
theorem lw_p32 : lw_okq (⟨"TurtleBetModel", "isWager", "(I)Z"⟩, 33) := ⟨⟨by decide +kernel, by decide +kernel⟩, List.mem_of_getElem? (i := 871) (by decide +kernel), List.mem_of_getElem? (i := 1127) (by decide +kernel), List.mem_of_getElem? (i := 1128) (by decide +kernel)⟩
theorem lw_p33 : lw_okq (⟨"TurtleBetModel", "stakes", "(I)I"⟩, 33) := ⟨⟨by decide +kernel, by decide +kernel⟩, List.mem_of_getElem? (i := 871) (by decide +kernel), List.mem_of_getElem? (i := 1139) (by decide +kernel), List.mem_of_getElem? (i := 1140) (by decide +kernel)⟩
theorem lw_p34 : lw_okq (⟨"TurtleBetModel", "paysFor", "(II)I"⟩, 33) := ⟨⟨by decide +kernel, by decide +kernel⟩, List.mem_of_getElem? (i := 871) (by decide +kernel), List.mem_of_getElem? (i := 1147) (by decide +kernel), List.mem_of_getElem? (i := 1148) (by decide +kernel)⟩
theorem lw_p35 : lw_okq (⟨"TurtleBetModel", "thinks", "()V"⟩, 33) := ⟨⟨by decide +kernel, by decide +kernel⟩, List.mem_of_getElem? (i := 871) (by decide +kernel), List.mem_of_getElem? (i := 1155) (by decide +kernel), List.mem_of_getElem? (i := 1156) (by decide +kernel)⟩
theorem lw_p36 : lw_okq (⟨"TurtleBetModel", "paidTo", "(I)I"⟩, 33) := ⟨⟨by decide +kernel, by decide +kernel⟩, List.mem_of_getElem? (i := 871) (by decide +kernel), List.mem_of_getElem? (i := 1159) (by decide +kernel), List.mem_of_getElem? (i := 1160) (by decide +kernel)⟩
theorem lw_p37 : lw_okq (⟨"TurtleBetModel", "putsBack", "()V"⟩, 33) := ⟨⟨by decide +kernel, by decide +kernel⟩, List.mem_of_getElem? (i := 871) (by decide +kernel), List.mem_of_getElem? (i := 1163) (by decide +kernel), List.mem_of_getElem? (i := 1164) (by decide +kernel)⟩
theorem lw_p38 : lw_okq (⟨"TurtleBetModel", "farthest", "(I)I"⟩, 33) := ⟨⟨by decide +kernel, by decide +kernel⟩, List.mem_of_getElem? (i := 871) (by decide +kernel), List.mem_of_getElem? (i := 1171) (by decide +kernel), List.mem_of_getElem? (i := 1172) (by decide +kernel)⟩
theorem lw_p39 : lw_okq (⟨"TurtleBetModel", "leadsBehind", "(II)Z"⟩, 33) := ⟨⟨by decide +kernel, by decide +kernel⟩, List.mem_of_getElem? (i := 871) (by decide +kernel), List.mem_of_getElem? (i := 1183) (by decide +kernel), List.mem_of_getElem? (i := 1184) (by decide +kernel)⟩
theorem lw_p40 : lw_okq (⟨"TurtleBetModel", "offBy", "(III)J"⟩, 33) := ⟨⟨by decide +kernel, by decide +kernel⟩, List.mem_of_getElem? (i := 871) (by decide +kernel), List.mem_of_getElem? (i := 1199) (by decide +kernel), List.mem_of_getElem? (i := 1200) (by decide +kernel)⟩
theorem lw_p41 : lw_okq (⟨"TurtleBetModel", "go", "()V"⟩, 33) := ⟨⟨by decide +kernel, by decide +kernel⟩, List.mem_of_getElem? (i := 871) (by decide +kernel), List.mem_of_getElem? (i := 1219) (by decide +kernel), List.mem_of_getElem? (i := 1220) (by decide +kernel)⟩
theorem lw_p42 : lw_okq (⟨"TurtleBetModel", "isLetter", "(I)Z"⟩, 33) := ⟨⟨by decide +kernel, by decide +kernel⟩, List.mem_of_getElem? (i := 871) (by decide +kernel), List.mem_of_getElem? (i := 1223) (by decide +kernel), List.mem_of_getElem? (i := 1224) (by decide +kernel)⟩
theorem lw_p43 : lw_okq (⟨"TurtleBetModel", "isFigure", "(I)Z"⟩, 33) := ⟨⟨by decide +kernel, by decide +kernel⟩, List.mem_of_getElem? (i := 871) (by decide +kernel), List.mem_of_getElem? (i := 1227) (by decide +kernel), List.mem_of_getElem? (i := 1228) (by decide +kernel)⟩
theorem lw_p44 : lw_okq (⟨"TurtleBetModel", "takesKey", "()Z"⟩, 33) := ⟨⟨by decide +kernel, by decide +kernel⟩, List.mem_of_getElem? (i := 871) (by decide +kernel), List.mem_of_getElem? (i := 1231) (by decide +kernel), List.mem_of_getElem? (i := 1232) (by decide +kernel)⟩
theorem lw_p45 : lw_okq (⟨"TurtleBetModel", "takesE", "()Z"⟩, 33) := ⟨⟨by decide +kernel, by decide +kernel⟩, List.mem_of_getElem? (i := 871) (by decide +kernel), List.mem_of_getElem? (i := 1235) (by decide +kernel), List.mem_of_getElem? (i := 1236) (by decide +kernel)⟩
theorem lw_p46 : lw_okq (⟨"TurtleBetModel", "takesPart", "()Z"⟩, 33) := ⟨⟨by decide +kernel, by decide +kernel⟩, List.mem_of_getElem? (i := 871) (by decide +kernel), List.mem_of_getElem? (i := 1239) (by decide +kernel), List.mem_of_getElem? (i := 1240) (by decide +kernel)⟩
theorem lw_p47 : lw_okq (⟨"TurtleBetModel", "nameOf", "(I)I"⟩, 33) := ⟨⟨by decide +kernel, by decide +kernel⟩, List.mem_of_getElem? (i := 871) (by decide +kernel), List.mem_of_getElem? (i := 1243) (by decide +kernel), List.mem_of_getElem? (i := 1244) (by decide +kernel)⟩
def lw_privs_3 : List (MethodName × Nat) := [(⟨"TurtleBetModel", "isWager", "(I)Z"⟩, 33), (⟨"TurtleBetModel", "stakes", "(I)I"⟩, 33), (⟨"TurtleBetModel", "paysFor", "(II)I"⟩, 33), (⟨"TurtleBetModel", "thinks", "()V"⟩, 33), (⟨"TurtleBetModel", "paidTo", "(I)I"⟩, 33), (⟨"TurtleBetModel", "putsBack", "()V"⟩, 33), (⟨"TurtleBetModel", "farthest", "(I)I"⟩, 33), (⟨"TurtleBetModel", "leadsBehind", "(II)Z"⟩, 33), (⟨"TurtleBetModel", "offBy", "(III)J"⟩, 33), (⟨"TurtleBetModel", "go", "()V"⟩, 33), (⟨"TurtleBetModel", "isLetter", "(I)Z"⟩, 33), (⟨"TurtleBetModel", "isFigure", "(I)Z"⟩, 33), (⟨"TurtleBetModel", "takesKey", "()Z"⟩, 33), (⟨"TurtleBetModel", "takesE", "()Z"⟩, 33), (⟨"TurtleBetModel", "takesPart", "()Z"⟩, 33), (⟨"TurtleBetModel", "nameOf", "(I)I"⟩, 33)]
theorem lw_r3 : ∀ q ∈ lw_privs_3, lw_okq q := List.forall_mem_cons.mpr ⟨lw_p32, List.forall_mem_cons.mpr ⟨lw_p33, List.forall_mem_cons.mpr ⟨lw_p34, List.forall_mem_cons.mpr ⟨lw_p35, List.forall_mem_cons.mpr ⟨lw_p36, List.forall_mem_cons.mpr ⟨lw_p37, List.forall_mem_cons.mpr ⟨lw_p38, List.forall_mem_cons.mpr ⟨lw_p39, List.forall_mem_cons.mpr ⟨lw_p40, List.forall_mem_cons.mpr ⟨lw_p41, List.forall_mem_cons.mpr ⟨lw_p42, List.forall_mem_cons.mpr ⟨lw_p43, List.forall_mem_cons.mpr ⟨lw_p44, List.forall_mem_cons.mpr ⟨lw_p45, List.forall_mem_cons.mpr ⟨lw_p46, List.forall_mem_cons.mpr ⟨lw_p47, fun _ h => absurd h List.not_mem_nil⟩⟩⟩⟩⟩⟩⟩⟩⟩⟩⟩⟩⟩⟩⟩⟩
theorem lw_p48 : lw_okq (⟨"TurtleBetModel", "settle", "(I)V"⟩, 33) := ⟨⟨by decide +kernel, by decide +kernel⟩, List.mem_of_getElem? (i := 871) (by decide +kernel), List.mem_of_getElem? (i := 1247) (by decide +kernel), List.mem_of_getElem? (i := 1248) (by decide +kernel)⟩
theorem lw_p49 : lw_okq (⟨"TurtleBetModel", "notsOpen", "()I"⟩, 33) := ⟨⟨by decide +kernel, by decide +kernel⟩, List.mem_of_getElem? (i := 871) (by decide +kernel), List.mem_of_getElem? (i := 1254) (by decide +kernel), List.mem_of_getElem? (i := 1255) (by decide +kernel)⟩
theorem lw_p50 : lw_okq (⟨"TurtleBetModel", "signHere", "()I"⟩, 33) := ⟨⟨by decide +kernel, by decide +kernel⟩, List.mem_of_getElem? (i := 871) (by decide +kernel), List.mem_of_getElem? (i := 1258) (by decide +kernel), List.mem_of_getElem? (i := 1259) (by decide +kernel)⟩
theorem lw_p51 : lw_okq (⟨"TurtleBetModel", "sumOf", "(I)I"⟩, 33) := ⟨⟨by decide +kernel, by decide +kernel⟩, List.mem_of_getElem? (i := 871) (by decide +kernel), List.mem_of_getElem? (i := 1324) (by decide +kernel), List.mem_of_getElem? (i := 1325) (by decide +kernel)⟩
def lw_privs_4 : List (MethodName × Nat) := [(⟨"TurtleBetModel", "settle", "(I)V"⟩, 33), (⟨"TurtleBetModel", "notsOpen", "()I"⟩, 33), (⟨"TurtleBetModel", "signHere", "()I"⟩, 33), (⟨"TurtleBetModel", "sumOf", "(I)I"⟩, 33)]
theorem lw_r4 : ∀ q ∈ lw_privs_4, lw_okq q := List.forall_mem_cons.mpr ⟨lw_p48, List.forall_mem_cons.mpr ⟨lw_p49, List.forall_mem_cons.mpr ⟨lw_p50, List.forall_mem_cons.mpr ⟨lw_p51, fun _ h => absurd h List.not_mem_nil⟩⟩⟩⟩
def lw_privs : List (MethodName × Nat) := lw_privs_1 ++ (lw_privs_2 ++ (lw_privs_3 ++ (lw_privs_4)))
def lw_tbl : List Cond := k2_sels lw_privs ++ tables_1
theorem lw_privs_ok : ∀ q ∈ lw_privs, lw_okq q := by
  show ∀ q ∈ lw_privs_1 ++ (lw_privs_2 ++ (lw_privs_3 ++ (lw_privs_4))), lw_okq q
  exact List.forall_mem_append.mpr ⟨lw_r1, List.forall_mem_append.mpr ⟨lw_r2, List.forall_mem_append.mpr ⟨lw_r3, lw_r4⟩⟩⟩
def RX0 : String := "TurtleBet$Laws"
def TX0 : u_T := fun k => match k with
  | 0 => ("TurtleBet$Laws", "rows", "[LTurtleBet$Text;", true)
  | 1 => ("TurtleBet$Laws", "names", "[I", true)
  | _ => ("TurtleBet$Laws", "stack", "[I", true)
def tyX0 : Nat → FieldType := fun k => match k with
  | 0 => .array (.object "TurtleBet$Text")
  | 1 => .array .int
  | _ => .array .int
theorem nmX0 : ∀ a, a < 3 → ∀ b, b < 3 → a ≠ b → (TX0 a).2.1 ≠ (TX0 b).2.1 := by decide +kernel
theorem tyX0_ok : ∀ k, k < 3 → parseFieldDescriptor (TX0 k).2.2.1 = some (tyX0 k) := by decide +kernel
abbrev cX0_init : ByteArray := prog_2_method_1_code
def yX0_init : MethodName := ⟨RX0, "<init>", "()V"⟩
abbrev cX0_rowOf : ByteArray := prog_2_method_2_code
def yX0_rowOf : MethodName := ⟨RX0, "rowOf", "(I)LTurtleBet$Text;"⟩
abbrev cX0_gives : ByteArray := prog_2_method_3_code
def yX0_gives : MethodName := ⟨RX0, "gives", "(IIIII)I"⟩
abbrev cX0_joined : ByteArray := prog_2_method_4_code
def yX0_joined : MethodName := ⟨RX0, "joined", "(III)I"⟩
def RX1 : String := "TurtleBet$Moat"
def TX1 : u_T := fun k => match k with
  | 0 => ("TurtleBet$Moat", "laws", "LTurtleBet$Laws;", true)
  | 1 => ("TurtleBet$Moat", "herd", "[LTurtleBet$Turtle;", true)
  | 2 => ("TurtleBet$Moat", "bets", "[LTurtleBet$Wager;", true)
  | 3 => ("TurtleBet$Moat", "counting", "[I", true)
  | 4 => ("TurtleBet$Moat", "turtles", "I", false)
  | 5 => ("TurtleBet$Moat", "wagers", "I", false)
  | 6 => ("TurtleBet$Moat", "texts", "I", false)
  | 7 => ("TurtleBet$Moat", "yards", "I", false)
  | 8 => ("TurtleBet$Moat", "cold", "I", false)
  | 9 => ("TurtleBet$Moat", "life", "I", false)
  | 10 => ("TurtleBet$Moat", "day", "I", false)
  | _ => ("TurtleBet$Moat", "z", "I", false)
def tyX1 : Nat → FieldType := fun k => match k with
  | 0 => .object "TurtleBet$Laws"
  | 1 => .array (.object "TurtleBet$Turtle")
  | 2 => .array (.object "TurtleBet$Wager")
  | 3 => .array .int
  | 4 => .int
  | 5 => .int
  | 6 => .int
  | 7 => .int
  | 8 => .int
  | 9 => .int
  | 10 => .int
  | _ => .int
theorem nmX1 : ∀ a, a < 12 → ∀ b, b < 12 → a ≠ b → (TX1 a).2.1 ≠ (TX1 b).2.1 := by decide +kernel
theorem tyX1_ok : ∀ k, k < 12 → parseFieldDescriptor (TX1 k).2.2.1 = some (tyX1 k) := by decide +kernel
abbrev cX1_init : ByteArray := prog_3_method_1_code
def yX1_init : MethodName := ⟨RX1, "<init>", "(LTurtleBet$Laws;)V"⟩
abbrev cX1_become : ByteArray := prog_3_method_2_code
def yX1_become : MethodName := ⟨RX1, "become", "(LTurtleBet$Moat;)V"⟩
abbrev cX1_hasTurtle : ByteArray := prog_3_method_3_code
def yX1_hasTurtle : MethodName := ⟨RX1, "hasTurtle", "(I)Z"⟩
abbrev cX1_hasWager : ByteArray := prog_3_method_4_code
def yX1_hasWager : MethodName := ⟨RX1, "hasWager", "(I)Z"⟩
abbrev cX1_addTurtle : ByteArray := prog_3_method_5_code
def yX1_addTurtle : MethodName := ⟨RX1, "addTurtle", "(II)I"⟩
abbrev cX1_addWager : ByteArray := prog_3_method_6_code
def yX1_addWager : MethodName := ⟨RX1, "addWager", "(III)I"⟩
abbrev cX1_draw : ByteArray := prog_3_method_7_code
def yX1_draw : MethodName := ⟨RX1, "draw", "()I"⟩
abbrev cX1_lapsOf : ByteArray := prog_3_method_8_code
def yX1_lapsOf : MethodName := ⟨RX1, "lapsOf", "(LTurtleBet$Turtle;)I"⟩
abbrev cX1_yardOf : ByteArray := prog_3_method_9_code
def yX1_yardOf : MethodName := ⟨RX1, "yardOf", "(LTurtleBet$Turtle;)I"⟩
abbrev cX1_stepOf : ByteArray := prog_3_method_10_code
def yX1_stepOf : MethodName := ⟨RX1, "stepOf", "(LTurtleBet$Turtle;I)I"⟩
abbrev cX1_plainStep : ByteArray := prog_3_method_11_code
def yX1_plainStep : MethodName := ⟨RX1, "plainStep", "(LTurtleBet$Turtle;I)I"⟩
abbrev cX1_haste : ByteArray := prog_3_method_12_code
def yX1_haste : MethodName := ⟨RX1, "haste", "()I"⟩
abbrev cX1_goDays : ByteArray := prog_3_method_13_code
def yX1_goDays : MethodName := ⟨RX1, "goDays", "(I)V"⟩
abbrev cX1_goDay : ByteArray := prog_3_method_14_code
def yX1_goDay : MethodName := ⟨RX1, "goDay", "()V"⟩
abbrev cX1_ahead : ByteArray := prog_3_method_15_code
def yX1_ahead : MethodName := ⟨RX1, "ahead", "()I"⟩
abbrev cX1_pathsOfAll : ByteArray := prog_3_method_16_code
def yX1_pathsOfAll : MethodName := ⟨RX1, "pathsOfAll", "()I"⟩
abbrev cX1_deadOnes : ByteArray := prog_3_method_17_code
def yX1_deadOnes : MethodName := ⟨RX1, "deadOnes", "()I"⟩
abbrev cX1_stakesOfAll : ByteArray := prog_3_method_18_code
def yX1_stakesOfAll : MethodName := ⟨RX1, "stakesOfAll", "()I"⟩
abbrev cX1_stakesOn : ByteArray := prog_3_method_19_code
def yX1_stakesOn : MethodName := ⟨RX1, "stakesOn", "(I)I"⟩
abbrev cX1_paidFor : ByteArray := prog_3_method_20_code
def yX1_paidFor : MethodName := ⟨RX1, "paidFor", "(LTurtleBet$Wager;I)I"⟩
abbrev cX1_paidTo : ByteArray := prog_3_method_21_code
def yX1_paidTo : MethodName := ⟨RX1, "paidTo", "(II)I"⟩
abbrev cX1_fineFor : ByteArray := prog_3_method_22_code
def yX1_fineFor : MethodName := ⟨RX1, "fineFor", "(LTurtleBet$Turtle;)I"⟩
def RX2 : String := "TurtleBet$Reader"
def TX2 : u_T := fun k => match k with
  | 0 => ("TurtleBet$Reader", "tape", "[I", true)
  | 1 => ("TurtleBet$Reader", "size", "I", true)
  | 2 => ("TurtleBet$Reader", "into", "LTurtleBet$Text;", true)
  | 3 => ("TurtleBet$Reader", "start", "I", false)
  | 4 => ("TurtleBet$Reader", "end", "I", false)
  | 5 => ("TurtleBet$Reader", "sort", "I", false)
  | _ => ("TurtleBet$Reader", "glued", "Z", false)
def tyX2 : Nat → FieldType := fun k => match k with
  | 0 => .array .int
  | 1 => .int
  | 2 => .object "TurtleBet$Text"
  | 3 => .int
  | 4 => .int
  | 5 => .int
  | _ => .boolean
theorem nmX2 : ∀ a, a < 7 → ∀ b, b < 7 → a ≠ b → (TX2 a).2.1 ≠ (TX2 b).2.1 := by decide +kernel
theorem tyX2_ok : ∀ k, k < 7 → parseFieldDescriptor (TX2 k).2.2.1 = some (tyX2 k) := by decide +kernel
abbrev cX2_init : ByteArray := prog_4_method_1_code
def yX2_init : MethodName := ⟨RX2, "<init>", "([IILTurtleBet$Text;)V"⟩
abbrev cX2_fault : ByteArray := prog_4_method_2_code
def yX2_fault : MethodName := ⟨RX2, "fault", "()I"⟩
abbrev cX2_advance : ByteArray := prog_4_method_3_code
def yX2_advance : MethodName := ⟨RX2, "advance", "()V"⟩
abbrev cX2_sortOf : ByteArray := prog_4_method_4_code
def yX2_sortOf : MethodName := ⟨RX2, "sortOf", "(I)I"⟩
abbrev cX2_readKey : ByteArray := prog_4_method_5_code
def yX2_readKey : MethodName := ⟨RX2, "readKey", "()Z"⟩
abbrev cX2_isWord : ByteArray := prog_4_method_6_code
def yX2_isWord : MethodName := ⟨RX2, "isWord", "(Ljava/lang/String;)Z"⟩
abbrev cX2_readJoined : ByteArray := prog_4_method_7_code
def yX2_readJoined : MethodName := ⟨RX2, "readJoined", "(III)Z"⟩
abbrev cX2_loosenessHere : ByteArray := prog_4_method_8_code
def yX2_loosenessHere : MethodName := ⟨RX2, "loosenessHere", "()I"⟩
abbrev cX2_readPiece : ByteArray := prog_4_method_9_code
def yX2_readPiece : MethodName := ⟨RX2, "readPiece", "(II)Z"⟩
abbrev cX2_isMark : ByteArray := prog_4_method_10_code
def yX2_isMark : MethodName := ⟨RX2, "isMark", "(C)Z"⟩
abbrev cX2_numberHere : ByteArray := prog_4_method_11_code
def yX2_numberHere : MethodName := ⟨RX2, "numberHere", "()I"⟩
abbrev cX2_nameHere : ByteArray := prog_4_method_12_code
def yX2_nameHere : MethodName := ⟨RX2, "nameHere", "()I"⟩
abbrev cX2_namesOf : ByteArray := prog_4_method_13_code
def yX2_namesOf : MethodName := ⟨RX2, "namesOf", "(I)Ljava/lang/String;"⟩
def RX3 : String := "TurtleBet$Sheet"
def TX3 : u_T := fun k => match k with
  | 0 => ("TurtleBet$Sheet", "sort", "I", false)
  | 1 => ("TurtleBet$Sheet", "size", "I", false)
  | _ => ("TurtleBet$Sheet", "places", "[I", true)
def tyX3 : Nat → FieldType := fun k => match k with
  | 0 => .int
  | 1 => .int
  | _ => .array .int
theorem nmX3 : ∀ a, a < 3 → ∀ b, b < 3 → a ≠ b → (TX3 a).2.1 ≠ (TX3 b).2.1 := by decide +kernel
theorem tyX3_ok : ∀ k, k < 3 → parseFieldDescriptor (TX3 k).2.2.1 = some (tyX3 k) := by decide +kernel
abbrev cX3_init : ByteArray := prog_5_method_1_code
def yX3_init : MethodName := ⟨RX3, "<init>", "()V"⟩
abbrev cX3_clear : ByteArray := prog_5_method_2_code
def yX3_clear : MethodName := ⟨RX3, "clear", "(II)V"⟩
abbrev cX3_become : ByteArray := prog_5_method_3_code
def yX3_become : MethodName := ⟨RX3, "become", "(LTurtleBet$Sheet;)V"⟩
abbrev cX3_isMissing : ByteArray := prog_5_method_4_code
def yX3_isMissing : MethodName := ⟨RX3, "isMissing", "()Z"⟩
abbrev cX3_hasPlace : ByteArray := prog_5_method_5_code
def yX3_hasPlace : MethodName := ⟨RX3, "hasPlace", "(I)Z"⟩
abbrev cX3_hasRow : ByteArray := prog_5_method_6_code
def yX3_hasRow : MethodName := ⟨RX3, "hasRow", "(II)Z"⟩
abbrev cX3_isNumber : ByteArray := prog_5_method_7_code
def yX3_isNumber : MethodName := ⟨RX3, "isNumber", "(I)Z"⟩
def RX4 : String := "TurtleBet$Slot"
def TX4 : u_T := fun k => match k with
  | 0 => ("TurtleBet$Slot", "thing", "I", false)
  | 1 => ("TurtleBet$Slot", "turtle", "LTurtleBet$Turtle;", true)
  | 2 => ("TurtleBet$Slot", "sheet", "LTurtleBet$Sheet;", true)
  | _ => ("TurtleBet$Slot", "number", "I", false)
def tyX4 : Nat → FieldType := fun k => match k with
  | 0 => .int
  | 1 => .object "TurtleBet$Turtle"
  | 2 => .object "TurtleBet$Sheet"
  | _ => .int
theorem nmX4 : ∀ a, a < 4 → ∀ b, b < 4 → a ≠ b → (TX4 a).2.1 ≠ (TX4 b).2.1 := by decide +kernel
theorem tyX4_ok : ∀ k, k < 4 → parseFieldDescriptor (TX4 k).2.2.1 = some (tyX4 k) := by decide +kernel
abbrev cX4_init : ByteArray := prog_6_method_1_code
def yX4_init : MethodName := ⟨RX4, "<init>", "()V"⟩
abbrev cX4_finding : ByteArray := prog_6_method_2_code
def yX4_finding : MethodName := ⟨RX4, "finding", "()I"⟩
def RX5 : String := "TurtleBet$Text"
def TX5 : u_T := fun k => match k with
  | 0 => ("TurtleBet$Text", "codes", "[I", true)
  | 1 => ("TurtleBet$Text", "size", "I", false)
  | 2 => ("TurtleBet$Text", "key", "I", false)
  | _ => ("TurtleBet$Text", "words", "I", false)
def tyX5 : Nat → FieldType := fun k => match k with
  | 0 => .array .int
  | 1 => .int
  | 2 => .int
  | _ => .int
theorem nmX5 : ∀ a, a < 4 → ∀ b, b < 4 → a ≠ b → (TX5 a).2.1 ≠ (TX5 b).2.1 := by decide +kernel
theorem tyX5_ok : ∀ k, k < 4 → parseFieldDescriptor (TX5 k).2.2.1 = some (tyX5 k) := by decide +kernel
abbrev cX5_init : ByteArray := prog_7_method_1_code
def yX5_init : MethodName := ⟨RX5, "<init>", "()V"⟩
abbrev cX5_clear : ByteArray := prog_7_method_2_code
def yX5_clear : MethodName := ⟨RX5, "clear", "()V"⟩
abbrev cX5_add : ByteArray := prog_7_method_3_code
def yX5_add : MethodName := ⟨RX5, "add", "(I)V"⟩
abbrev cX5_addWord : ByteArray := prog_7_method_4_code
def yX5_addWord : MethodName := ⟨RX5, "addWord", "(I)V"⟩
def RX6 : String := "TurtleBet$Turtle"
def TX6 : u_T := fun k => match k with
  | 0 => ("TurtleBet$Turtle", "kind", "I", false)
  | 1 => ("TurtleBet$Turtle", "pace", "I", false)
  | 2 => ("TurtleBet$Turtle", "path", "I", false)
  | 3 => ("TurtleBet$Turtle", "age", "I", false)
  | 4 => ("TurtleBet$Turtle", "turned", "Z", false)
  | _ => ("TurtleBet$Turtle", "dead", "Z", false)
def tyX6 : Nat → FieldType := fun k => match k with
  | 0 => .int
  | 1 => .int
  | 2 => .int
  | 3 => .int
  | 4 => .boolean
  | _ => .boolean
theorem nmX6 : ∀ a, a < 6 → ∀ b, b < 6 → a ≠ b → (TX6 a).2.1 ≠ (TX6 b).2.1 := by decide +kernel
theorem tyX6_ok : ∀ k, k < 6 → parseFieldDescriptor (TX6 k).2.2.1 = some (tyX6 k) := by decide +kernel
abbrev cX6_init : ByteArray := prog_8_method_1_code
def yX6_init : MethodName := ⟨RX6, "<init>", "()V"⟩
abbrev cX6_hatch : ByteArray := prog_8_method_2_code
def yX6_hatch : MethodName := ⟨RX6, "hatch", "(II)V"⟩
abbrev cX6_become : ByteArray := prog_8_method_3_code
def yX6_become : MethodName := ⟨RX6, "become", "(LTurtleBet$Turtle;)V"⟩
abbrev cX6_isOf : ByteArray := prog_8_method_4_code
def yX6_isOf : MethodName := ⟨RX6, "isOf", "(I)Z"⟩
abbrev cX6_worth : ByteArray := prog_8_method_5_code
def yX6_worth : MethodName := ⟨RX6, "worth", "()I"⟩
def RX7 : String := "TurtleBet$Wager"
def TX7 : u_T := fun k => match k with
  | 0 => ("TurtleBet$Wager", "owner", "I", false)
  | 1 => ("TurtleBet$Wager", "turtle", "I", false)
  | _ => ("TurtleBet$Wager", "stake", "I", false)
def tyX7 : Nat → FieldType := fun k => match k with
  | 0 => .int
  | 1 => .int
  | _ => .int
theorem nmX7 : ∀ a, a < 3 → ∀ b, b < 3 → a ≠ b → (TX7 a).2.1 ≠ (TX7 b).2.1 := by decide +kernel
theorem tyX7_ok : ∀ k, k < 3 → parseFieldDescriptor (TX7 k).2.2.1 = some (tyX7 k) := by decide +kernel
abbrev cX7_init : ByteArray := prog_9_method_1_code
def yX7_init : MethodName := ⟨RX7, "<init>", "()V"⟩
abbrev cX7_become : ByteArray := prog_9_method_2_code
def yX7_become : MethodName := ⟨RX7, "become", "(LTurtleBet$Wager;)V"⟩
def RX8 : String := "TurtleBet"
def TX8 : u_T := fun k => match k with
  | 0 => ("TurtleBet", "laws", "LTurtleBet$Laws;", true)
  | 1 => ("TurtleBet", "now", "LTurtleBet$Moat;", true)
  | 2 => ("TurtleBet", "image", "LTurtleBet$Moat;", true)
  | 3 => ("TurtleBet", "thought", "LTurtleBet$Moat;", true)
  | 4 => ("TurtleBet", "kept", "Z", false)
  | 5 => ("TurtleBet", "tape", "[I", true)
  | 6 => ("TurtleBet", "fed", "I", false)
  | 7 => ("TurtleBet", "sheets", "[LTurtleBet$Sheet;", true)
  | 8 => ("TurtleBet", "slots", "[LTurtleBet$Slot;", true)
  | 9 => ("TurtleBet", "waiting", "[I", true)
  | _ => ("TurtleBet", "waits", "I", false)
def tyX8 : Nat → FieldType := fun k => match k with
  | 0 => .object "TurtleBet$Laws"
  | 1 => .object "TurtleBet$Moat"
  | 2 => .object "TurtleBet$Moat"
  | 3 => .object "TurtleBet$Moat"
  | 4 => .boolean
  | 5 => .array .int
  | 6 => .int
  | 7 => .array (.object "TurtleBet$Sheet")
  | 8 => .array (.object "TurtleBet$Slot")
  | 9 => .array .int
  | _ => .int
theorem nmX8 : ∀ a, a < 11 → ∀ b, b < 11 → a ≠ b → (TX8 a).2.1 ≠ (TX8 b).2.1 := by decide +kernel
theorem tyX8_ok : ∀ k, k < 11 → parseFieldDescriptor (TX8 k).2.2.1 = some (tyX8 k) := by decide +kernel
abbrev cX8_init : ByteArray := prog_1_method_1_code
def yX8_init : MethodName := ⟨RX8, "<init>", "()V"⟩
abbrev cX8_turtle : ByteArray := prog_1_method_2_code
def yX8_turtle : MethodName := ⟨RX8, "turtle", "(II)I"⟩
abbrev cX8_told : ByteArray := prog_1_method_3_code
def yX8_told : MethodName := ⟨RX8, "told", "(II)I"⟩
abbrev cX8_step : ByteArray := prog_1_method_4_code
def yX8_step : MethodName := ⟨RX8, "step", "(II)I"⟩
abbrev cX8_as : ByteArray := prog_1_method_5_code
def yX8_as : MethodName := ⟨RX8, "as", "(II)I"⟩
abbrev cX8_turns : ByteArray := prog_1_method_6_code
def yX8_turns : MethodName := ⟨RX8, "turns", "(II)I"⟩
abbrev cX8_set : ByteArray := prog_1_method_7_code
def yX8_set : MethodName := ⟨RX8, "set", "(III)I"⟩
abbrev cX8_isSettable : ByteArray := prog_1_method_8_code
def yX8_isSettable : MethodName := ⟨RX8, "isSettable", "(II)Z"⟩
abbrev cX8_push : ByteArray := prog_1_method_9_code
def yX8_push : MethodName := ⟨RX8, "push", "(II)I"⟩
abbrev cX8_egg : ByteArray := prog_1_method_10_code
def yX8_egg : MethodName := ⟨RX8, "egg", "(II)I"⟩
abbrev cX8_rule : ByteArray := prog_1_method_11_code
def yX8_rule : MethodName := ⟨RX8, "rule", "(II)I"⟩
abbrev cX8_deal : ByteArray := prog_1_method_12_code
def yX8_deal : MethodName := ⟨RX8, "deal", "(I)I"⟩
abbrev cX8_seed : ByteArray := prog_1_method_13_code
def yX8_seed : MethodName := ⟨RX8, "seed", "(I)I"⟩
abbrev cX8_days : ByteArray := prog_1_method_14_code
def yX8_days : MethodName := ⟨RX8, "days", "(I)I"⟩
abbrev cX8_leads : ByteArray := prog_1_method_15_code
def yX8_leads : MethodName := ⟨RX8, "leads", "()I"⟩
abbrev cX8_wager : ByteArray := prog_1_method_16_code
def yX8_wager : MethodName := ⟨RX8, "wager", "(III)I"⟩
abbrev cX8_wagerTold : ByteArray := prog_1_method_17_code
def yX8_wagerTold : MethodName := ⟨RX8, "wagerTold", "(II)I"⟩
abbrev cX8_inherit : ByteArray := prog_1_method_18_code
def yX8_inherit : MethodName := ⟨RX8, "inherit", "(II)I"⟩
abbrev cX8_pool : ByteArray := prog_1_method_19_code
def yX8_pool : MethodName := ⟨RX8, "pool", "()I"⟩
abbrev cX8_pays : ByteArray := prog_1_method_20_code
def yX8_pays : MethodName := ⟨RX8, "pays", "(II)I"⟩
abbrev cX8_behind : ByteArray := prog_1_method_21_code
def yX8_behind : MethodName := ⟨RX8, "behind", "(III)I"⟩
abbrev cX8_toLaps : ByteArray := prog_1_method_22_code
def yX8_toLaps : MethodName := ⟨RX8, "toLaps", "(I)I"⟩
abbrev cX8_meet : ByteArray := prog_1_method_23_code
def yX8_meet : MethodName := ⟨RX8, "meet", "(II)I"⟩
abbrev cX8_colder : ByteArray := prog_1_method_24_code
def yX8_colder : MethodName := ⟨RX8, "colder", "(II)I"⟩
abbrev cX8_stick : ByteArray := prog_1_method_25_code
def yX8_stick : MethodName := ⟨RX8, "stick", "(II)I"⟩
abbrev cX8_paced : ByteArray := prog_1_method_26_code
def yX8_paced : MethodName := ⟨RX8, "paced", "(III)I"⟩
abbrev cX8_differences : ByteArray := prog_1_method_27_code
def yX8_differences : MethodName := ⟨RX8, "differences", "(LTurtleBet$Sheet;II)I"⟩
abbrev cX8_fine : ByteArray := prog_1_method_28_code
def yX8_fine : MethodName := ⟨RX8, "fine", "(I)I"⟩
abbrev cX8_feed : ByteArray := prog_1_method_29_code
def yX8_feed : MethodName := ⟨RX8, "feed", "(III)I"⟩
abbrev cX8_feedFour : ByteArray := prog_1_method_30_code
def yX8_feedFour : MethodName := ⟨RX8, "feedFour", "(I)V"⟩
abbrev cX8_trim : ByteArray := prog_1_method_31_code
def yX8_trim : MethodName := ⟨RX8, "trim", "(I)I"⟩
abbrev cX8_text : ByteArray := prog_1_method_32_code
def yX8_text : MethodName := ⟨RX8, "text", "()I"⟩
abbrev cX8_textTold : ByteArray := prog_1_method_33_code
def yX8_textTold : MethodName := ⟨RX8, "textTold", "(II)I"⟩
abbrev cX8_why : ByteArray := prog_1_method_34_code
def yX8_why : MethodName := ⟨RX8, "why", "(I)I"⟩
abbrev cX8_sheet : ByteArray := prog_1_method_35_code
def yX8_sheet : MethodName := ⟨RX8, "sheet", "(III)I"⟩
abbrev cX8_mark : ByteArray := prog_1_method_36_code
def yX8_mark : MethodName := ⟨RX8, "mark", "(III)I"⟩
abbrev cX8_pour : ByteArray := prog_1_method_37_code
def yX8_pour : MethodName := ⟨RX8, "pour", "(I)I"⟩
abbrev cX8_reads : ByteArray := prog_1_method_38_code
def yX8_reads : MethodName := ⟨RX8, "reads", "(I)I"⟩
abbrev cX8_isYard : ByteArray := prog_1_method_39_code
def yX8_isYard : MethodName := ⟨RX8, "isYard", "(II)Z"⟩
abbrev cX8_copy : ByteArray := prog_1_method_40_code
def yX8_copy : MethodName := ⟨RX8, "copy", "(IIIII)I"⟩
abbrev cX8_lay : ByteArray := prog_1_method_41_code
def yX8_lay : MethodName := ⟨RX8, "lay", "(III)I"⟩
abbrev cX8_ask : ByteArray := prog_1_method_42_code
def yX8_ask : MethodName := ⟨RX8, "ask", "(II)I"⟩
abbrev cX8_item : ByteArray := prog_1_method_43_code
def yX8_item : MethodName := ⟨RX8, "item", "(II)I"⟩
abbrev cX8_rest : ByteArray := prog_1_method_44_code
def yX8_rest : MethodName := ⟨RX8, "rest", "(II)I"⟩
abbrev cX8_tell : ByteArray := prog_1_method_45_code
def yX8_tell : MethodName := ⟨RX8, "tell", "(I)I"⟩
abbrev cX8_check : ByteArray := prog_1_method_46_code
def yX8_check : MethodName := ⟨RX8, "check", "(I)I"⟩
abbrev cX8_waitsAt : ByteArray := prog_1_method_47_code
def yX8_waitsAt : MethodName := ⟨RX8, "waitsAt", "(III)Z"⟩
abbrev cX8_keep : ByteArray := prog_1_method_48_code
def yX8_keep : MethodName := ⟨RX8, "keep", "()I"⟩
abbrev cX8_back : ByteArray := prog_1_method_49_code
def yX8_back : MethodName := ⟨RX8, "back", "()I"⟩
abbrev cX8_count : ByteArray := prog_1_method_50_code
def yX8_count : MethodName := ⟨RX8, "count", "(I)I"⟩
abbrev cX8_within : ByteArray := prog_1_method_51_code
def yX8_within : MethodName := ⟨RX8, "within", "(III)Z"⟩
abbrev cX8_held : ByteArray := prog_1_method_52_code
def yX8_held : MethodName := ⟨RX8, "held", "(II)I"⟩
abbrev cX8_isKind : ByteArray := prog_1_method_53_code
def yX8_isKind : MethodName := ⟨RX8, "isKind", "(I)Z"⟩
abbrev cX8_isOwner : ByteArray := prog_1_method_54_code
def yX8_isOwner : MethodName := ⟨RX8, "isOwner", "(I)Z"⟩
abbrev cX8_isSheet : ByteArray := prog_1_method_55_code
def yX8_isSheet : MethodName := ⟨RX8, "isSheet", "(I)Z"⟩
abbrev cX8_isSlot : ByteArray := prog_1_method_56_code
def yX8_isSlot : MethodName := ⟨RX8, "isSlot", "(I)Z"⟩
def RX9 : String := "TurtleBetModel"
def TX9 : u_T := fun k => match k with
  | 0 => ("TurtleBetModel", "now", "[I", true)
  | 1 => ("TurtleBetModel", "image", "[I", true)
  | 2 => ("TurtleBetModel", "aside", "[I", true)
  | 3 => ("TurtleBetModel", "hasImage", "Z", false)
  | 4 => ("TurtleBetModel", "before", "[I", true)
  | 5 => ("TurtleBetModel", "tape", "[I", true)
  | 6 => ("TurtleBetModel", "taped", "I", false)
  | 7 => ("TurtleBetModel", "next", "I", false)
  | 8 => ("TurtleBetModel", "from", "I", false)
  | 9 => ("TurtleBetModel", "token", "I", false)
  | 10 => ("TurtleBetModel", "value", "I", false)
  | 11 => ("TurtleBetModel", "ended", "I", false)
  | 12 => ("TurtleBetModel", "key", "I", false)
  | 13 => ("TurtleBetModel", "keys", "[C", true)
  | 14 => ("TurtleBetModel", "keyAt", "[I", true)
  | 15 => ("TurtleBetModel", "code", "[I", true)
  | 16 => ("TurtleBetModel", "codes", "I", false)
  | 17 => ("TurtleBetModel", "atoms", "I", false)
  | 18 => ("TurtleBetModel", "waits", "[I", true)
  | 19 => ("TurtleBetModel", "held", "I", false)
  | 20 => ("TurtleBetModel", "tested", "[Z", true)
  | 21 => ("TurtleBetModel", "stack", "[I", true)
  | 22 => ("TurtleBetModel", "facts", "[I", true)
  | 23 => ("TurtleBetModel", "sorts", "[I", true)
  | 24 => ("TurtleBetModel", "sizes", "[I", true)
  | 25 => ("TurtleBetModel", "cells", "[I", true)
  | 26 => ("TurtleBetModel", "holds", "[I", true)
  | 27 => ("TurtleBetModel", "holdsA", "[I", true)
  | 28 => ("TurtleBetModel", "holdsB", "[I", true)
  | 29 => ("TurtleBetModel", "heldCells", "[I", true)
  | 30 => ("TurtleBetModel", "moved", "[I", true)
  | 31 => ("TurtleBetModel", "tells", "[I", true)
  | _ => ("TurtleBetModel", "waiting", "I", false)
def tyX9 : Nat → FieldType := fun k => match k with
  | 0 => .array .int
  | 1 => .array .int
  | 2 => .array .int
  | 3 => .boolean
  | 4 => .array .int
  | 5 => .array .int
  | 6 => .int
  | 7 => .int
  | 8 => .int
  | 9 => .int
  | 10 => .int
  | 11 => .int
  | 12 => .int
  | 13 => .array .char
  | 14 => .array .int
  | 15 => .array .int
  | 16 => .int
  | 17 => .int
  | 18 => .array .int
  | 19 => .int
  | 20 => .array .boolean
  | 21 => .array .int
  | 22 => .array .int
  | 23 => .array .int
  | 24 => .array .int
  | 25 => .array .int
  | 26 => .array .int
  | 27 => .array .int
  | 28 => .array .int
  | 29 => .array .int
  | 30 => .array .int
  | 31 => .array .int
  | _ => .int
theorem nmX9 : ∀ a, a < 33 → ∀ b, b < 33 → a ≠ b → (TX9 a).2.1 ≠ (TX9 b).2.1 := by decide +kernel
theorem tyX9_ok : ∀ k, k < 33 → parseFieldDescriptor (TX9 k).2.2.1 = some (tyX9 k) := by decide +kernel
abbrev cX9_init : ByteArray := prog_11_method_1_code
def yX9_init : MethodName := ⟨RX9, "<init>", "()V"⟩
abbrev cX9_in : ByteArray := prog_11_method_2_code
def yX9_in : MethodName := ⟨RX9, "in", "(III)Z"⟩
abbrev cX9_within : ByteArray := prog_11_method_3_code
def yX9_within : MethodName := ⟨RX9, "within", "(III)I"⟩
abbrev cX9_copyAll : ByteArray := prog_11_method_4_code
def yX9_copyAll : MethodName := ⟨RX9, "copyAll", "([I[I)V"⟩
abbrev cX9_told0 : ByteArray := prog_11_method_5_code
def yX9_told0 : MethodName := ⟨RX9, "told0", "(I)I"⟩
abbrev cX9_isTurtle : ByteArray := prog_11_method_6_code
def yX9_isTurtle : MethodName := ⟨RX9, "isTurtle", "(I)Z"⟩
abbrev cX9_isWager : ByteArray := prog_11_method_7_code
def yX9_isWager : MethodName := ⟨RX9, "isWager", "(I)Z"⟩
abbrev cX9_of : ByteArray := prog_11_method_8_code
def yX9_of : MethodName := ⟨RX9, "of", "(II)I"⟩
abbrev cX9_put : ByteArray := prog_11_method_9_code
def yX9_put : MethodName := ⟨RX9, "put", "(III)V"⟩
abbrev cX9_becomes : ByteArray := prog_11_method_10_code
def yX9_becomes : MethodName := ⟨RX9, "becomes", "(II)I"⟩
abbrev cX9_comes : ByteArray := prog_11_method_11_code
def yX9_comes : MethodName := ⟨RX9, "comes", "(II)I"⟩
abbrev cX9_turtle : ByteArray := prog_11_method_12_code
def yX9_turtle : MethodName := ⟨RX9, "turtle", "(II)I"⟩
abbrev cX9_yardOf : ByteArray := prog_11_method_13_code
def yX9_yardOf : MethodName := ⟨RX9, "yardOf", "(I)I"⟩
abbrev cX9_lapsOf : ByteArray := prog_11_method_14_code
def yX9_lapsOf : MethodName := ⟨RX9, "lapsOf", "(I)I"⟩
abbrev cX9_worthOf : ByteArray := prog_11_method_15_code
def yX9_worthOf : MethodName := ⟨RX9, "worthOf", "(I)I"⟩
abbrev cX9_told : ByteArray := prog_11_method_16_code
def yX9_told : MethodName := ⟨RX9, "told", "(II)I"⟩
abbrev cX9_stepBy : ByteArray := prog_11_method_17_code
def yX9_stepBy : MethodName := ⟨RX9, "stepBy", "(II)I"⟩
abbrev cX9_step : ByteArray := prog_11_method_18_code
def yX9_step : MethodName := ⟨RX9, "step", "(II)I"⟩
abbrev cX9_isUnder : ByteArray := prog_11_method_19_code
def yX9_isUnder : MethodName := ⟨RX9, "isUnder", "(II)Z"⟩
abbrev cX9_as : ByteArray := prog_11_method_20_code
def yX9_as : MethodName := ⟨RX9, "as", "(II)I"⟩
abbrev cX9_turns : ByteArray := prog_11_method_21_code
def yX9_turns : MethodName := ⟨RX9, "turns", "(II)I"⟩
abbrev cX9_mostOf : ByteArray := prog_11_method_22_code
def yX9_mostOf : MethodName := ⟨RX9, "mostOf", "(I)I"⟩
abbrev cX9_set : ByteArray := prog_11_method_23_code
def yX9_set : MethodName := ⟨RX9, "set", "(III)I"⟩
abbrev cX9_push : ByteArray := prog_11_method_24_code
def yX9_push : MethodName := ⟨RX9, "push", "(II)I"⟩
abbrev cX9_egg : ByteArray := prog_11_method_25_code
def yX9_egg : MethodName := ⟨RX9, "egg", "(II)I"⟩
abbrev cX9_rule : ByteArray := prog_11_method_26_code
def yX9_rule : MethodName := ⟨RX9, "rule", "(II)I"⟩
abbrev cX9_draw : ByteArray := prog_11_method_27_code
def yX9_draw : MethodName := ⟨RX9, "draw", "()I"⟩
abbrev cX9_deal : ByteArray := prog_11_method_28_code
def yX9_deal : MethodName := ⟨RX9, "deal", "(I)I"⟩
abbrev cX9_seed : ByteArray := prog_11_method_29_code
def yX9_seed : MethodName := ⟨RX9, "seed", "(I)I"⟩
abbrev cX9_day : ByteArray := prog_11_method_30_code
def yX9_day : MethodName := ⟨RX9, "day", "()V"⟩
abbrev cX9_goesOn : ByteArray := prog_11_method_31_code
def yX9_goesOn : MethodName := ⟨RX9, "goesOn", "(I)V"⟩
abbrev cX9_ahead : ByteArray := prog_11_method_32_code
def yX9_ahead : MethodName := ⟨RX9, "ahead", "()I"⟩
abbrev cX9_days : ByteArray := prog_11_method_33_code
def yX9_days : MethodName := ⟨RX9, "days", "(I)I"⟩
abbrev cX9_leads : ByteArray := prog_11_method_34_code
def yX9_leads : MethodName := ⟨RX9, "leads", "()I"⟩
abbrev cX9_bets : ByteArray := prog_11_method_35_code
def yX9_bets : MethodName := ⟨RX9, "bets", "(III)I"⟩
abbrev cX9_wager : ByteArray := prog_11_method_36_code
def yX9_wager : MethodName := ⟨RX9, "wager", "(III)I"⟩
abbrev cX9_wagerTold : ByteArray := prog_11_method_37_code
def yX9_wagerTold : MethodName := ⟨RX9, "wagerTold", "(II)I"⟩
abbrev cX9_inherit : ByteArray := prog_11_method_38_code
def yX9_inherit : MethodName := ⟨RX9, "inherit", "(II)I"⟩
abbrev cX9_stakes : ByteArray := prog_11_method_39_code
def yX9_stakes : MethodName := ⟨RX9, "stakes", "(I)I"⟩
abbrev cX9_pool : ByteArray := prog_11_method_40_code
def yX9_pool : MethodName := ⟨RX9, "pool", "()I"⟩
abbrev cX9_paysFor : ByteArray := prog_11_method_41_code
def yX9_paysFor : MethodName := ⟨RX9, "paysFor", "(II)I"⟩
abbrev cX9_pays : ByteArray := prog_11_method_42_code
def yX9_pays : MethodName := ⟨RX9, "pays", "(II)I"⟩
abbrev cX9_thinks : ByteArray := prog_11_method_43_code
def yX9_thinks : MethodName := ⟨RX9, "thinks", "()V"⟩
abbrev cX9_putsBack : ByteArray := prog_11_method_44_code
def yX9_putsBack : MethodName := ⟨RX9, "putsBack", "()V"⟩
abbrev cX9_paidTo : ByteArray := prog_11_method_45_code
def yX9_paidTo : MethodName := ⟨RX9, "paidTo", "(I)I"⟩
abbrev cX9_behind : ByteArray := prog_11_method_46_code
def yX9_behind : MethodName := ⟨RX9, "behind", "(III)I"⟩
abbrev cX9_farthest : ByteArray := prog_11_method_47_code
def yX9_farthest : MethodName := ⟨RX9, "farthest", "(I)I"⟩
abbrev cX9_toLaps : ByteArray := prog_11_method_48_code
def yX9_toLaps : MethodName := ⟨RX9, "toLaps", "(I)I"⟩
abbrev cX9_meet : ByteArray := prog_11_method_49_code
def yX9_meet : MethodName := ⟨RX9, "meet", "(II)I"⟩
abbrev cX9_leadsBehind : ByteArray := prog_11_method_50_code
def yX9_leadsBehind : MethodName := ⟨RX9, "leadsBehind", "(II)Z"⟩
abbrev cX9_colder : ByteArray := prog_11_method_51_code
def yX9_colder : MethodName := ⟨RX9, "colder", "(II)I"⟩
abbrev cX9_stick : ByteArray := prog_11_method_52_code
def yX9_stick : MethodName := ⟨RX9, "stick", "(II)I"⟩
abbrev cX9_offBy : ByteArray := prog_11_method_53_code
def yX9_offBy : MethodName := ⟨RX9, "offBy", "(III)J"⟩
abbrev cX9_paced : ByteArray := prog_11_method_54_code
def yX9_paced : MethodName := ⟨RX9, "paced", "(III)I"⟩
abbrev cX9_fine : ByteArray := prog_11_method_55_code
def yX9_fine : MethodName := ⟨RX9, "fine", "(I)I"⟩
abbrev cX9_feed : ByteArray := prog_11_method_56_code
def yX9_feed : MethodName := ⟨RX9, "feed", "(III)I"⟩
abbrev cX9_trim : ByteArray := prog_11_method_57_code
def yX9_trim : MethodName := ⟨RX9, "trim", "(I)I"⟩
abbrev cX9_isLetter : ByteArray := prog_11_method_58_code
def yX9_isLetter : MethodName := ⟨RX9, "isLetter", "(I)Z"⟩
abbrev cX9_isFigure : ByteArray := prog_11_method_59_code
def yX9_isFigure : MethodName := ⟨RX9, "isFigure", "(I)Z"⟩
abbrev cX9_go : ByteArray := prog_11_method_60_code
def yX9_go : MethodName := ⟨RX9, "go", "()V"⟩
abbrev cX9_takesKey : ByteArray := prog_11_method_61_code
def yX9_takesKey : MethodName := ⟨RX9, "takesKey", "()Z"⟩
abbrev cX9_nameOf : ByteArray := prog_11_method_62_code
def yX9_nameOf : MethodName := ⟨RX9, "nameOf", "(I)I"⟩
abbrev cX9_rank : ByteArray := prog_11_method_63_code
def yX9_rank : MethodName := ⟨RX9, "rank", "(I)I"⟩
abbrev cX9_settle : ByteArray := prog_11_method_64_code
def yX9_settle : MethodName := ⟨RX9, "settle", "(I)V"⟩
abbrev cX9_signHere : ByteArray := prog_11_method_65_code
def yX9_signHere : MethodName := ⟨RX9, "signHere", "()I"⟩
abbrev cX9_takesPart : ByteArray := prog_11_method_66_code
def yX9_takesPart : MethodName := ⟨RX9, "takesPart", "()Z"⟩
abbrev cX9_takesE : ByteArray := prog_11_method_67_code
def yX9_takesE : MethodName := ⟨RX9, "takesE", "()Z"⟩
abbrev cX9_notsOpen : ByteArray := prog_11_method_68_code
def yX9_notsOpen : MethodName := ⟨RX9, "notsOpen", "()I"⟩
abbrev cX9_text : ByteArray := prog_11_method_69_code
def yX9_text : MethodName := ⟨RX9, "text", "()I"⟩
abbrev cX9_textTold : ByteArray := prog_11_method_70_code
def yX9_textTold : MethodName := ⟨RX9, "textTold", "(II)I"⟩
abbrev cX9_counts : ByteArray := prog_11_method_71_code
def yX9_counts : MethodName := ⟨RX9, "counts", "(I)I"⟩
abbrev cX9_why : ByteArray := prog_11_method_72_code
def yX9_why : MethodName := ⟨RX9, "why", "(I)I"⟩
abbrev cX9_two : ByteArray := prog_11_method_73_code
def yX9_two : MethodName := ⟨RX9, "two", "(III)I"⟩
abbrev cX9_worksOut : ByteArray := prog_11_method_74_code
def yX9_worksOut : MethodName := ⟨RX9, "worksOut", "(I)I"⟩
abbrev cX9_isSheet : ByteArray := prog_11_method_75_code
def yX9_isSheet : MethodName := ⟨RX9, "isSheet", "(I)Z"⟩
abbrev cX9_isSlot : ByteArray := prog_11_method_76_code
def yX9_isSlot : MethodName := ⟨RX9, "isSlot", "(I)Z"⟩
abbrev cX9_sheet : ByteArray := prog_11_method_77_code
def yX9_sheet : MethodName := ⟨RX9, "sheet", "(III)I"⟩
abbrev cX9_mark : ByteArray := prog_11_method_78_code
def yX9_mark : MethodName := ⟨RX9, "mark", "(III)I"⟩
abbrev cX9_pour : ByteArray := prog_11_method_79_code
def yX9_pour : MethodName := ⟨RX9, "pour", "(I)I"⟩
abbrev cX9_reads : ByteArray := prog_11_method_80_code
def yX9_reads : MethodName := ⟨RX9, "reads", "(I)I"⟩
abbrev cX9_copy : ByteArray := prog_11_method_81_code
def yX9_copy : MethodName := ⟨RX9, "copy", "(IIIII)I"⟩
abbrev cX9_lay : ByteArray := prog_11_method_82_code
def yX9_lay : MethodName := ⟨RX9, "lay", "(III)I"⟩
abbrev cX9_ask : ByteArray := prog_11_method_83_code
def yX9_ask : MethodName := ⟨RX9, "ask", "(II)I"⟩
abbrev cX9_item : ByteArray := prog_11_method_84_code
def yX9_item : MethodName := ⟨RX9, "item", "(II)I"⟩
abbrev cX9_rest : ByteArray := prog_11_method_85_code
def yX9_rest : MethodName := ⟨RX9, "rest", "(II)I"⟩
abbrev cX9_tell : ByteArray := prog_11_method_86_code
def yX9_tell : MethodName := ⟨RX9, "tell", "(I)I"⟩
abbrev cX9_sumOf : ByteArray := prog_11_method_87_code
def yX9_sumOf : MethodName := ⟨RX9, "sumOf", "(I)I"⟩
abbrev cX9_check : ByteArray := prog_11_method_88_code
def yX9_check : MethodName := ⟨RX9, "check", "(I)I"⟩
abbrev cX9_keep : ByteArray := prog_11_method_89_code
def yX9_keep : MethodName := ⟨RX9, "keep", "()I"⟩
abbrev cX9_back : ByteArray := prog_11_method_90_code
def yX9_back : MethodName := ⟨RX9, "back", "()I"⟩
abbrev cX9_count : ByteArray := prog_11_method_91_code
def yX9_count : MethodName := ⟨RX9, "count", "(I)I"⟩
def RJ11 : String := "java/lang/Character"
abbrev cJ11_isValidCodePoint_9a6ad : ByteArray := prog_12_method_11_code
def yJ11_isValidCodePoint_9a6ad : MethodName := ⟨RJ11, "isValidCodePoint", "(I)Z"⟩
abbrev cJ11_highSurrogate_5068e : ByteArray := prog_12_method_28_code
def yJ11_highSurrogate_5068e : MethodName := ⟨RJ11, "highSurrogate", "(I)C"⟩
abbrev cJ11_lowSurrogate_5068e : ByteArray := prog_12_method_29_code
def yJ11_lowSurrogate_5068e : MethodName := ⟨RJ11, "lowSurrogate", "(I)C"⟩
def RJ9 : String := "java/lang/Math"
abbrev cJ9_floorDiv_7cf53 : ByteArray := prog_13_method_47_code
def yJ9_floorDiv_7cf53 : MethodName := ⟨RJ9, "floorDiv", "(II)I"⟩
abbrev cJ9_floorMod_7cf53 : ByteArray := prog_13_method_50_code
def yJ9_floorMod_7cf53 : MethodName := ⟨RJ9, "floorMod", "(II)I"⟩
abbrev cJ9_abs_0f7a4 : ByteArray := prog_13_method_59_code
def yJ9_abs_0f7a4 : MethodName := ⟨RJ9, "abs", "(I)I"⟩
abbrev cJ9_max_7cf53 : ByteArray := prog_13_method_65_code
def yJ9_max_7cf53 : MethodName := ⟨RJ9, "max", "(II)I"⟩
abbrev cJ9_min_7cf53 : ByteArray := prog_13_method_69_code
def yJ9_min_7cf53 : MethodName := ⟨RJ9, "min", "(II)I"⟩
def RJ0 : String := "java/lang/String"
abbrev cJ0_length_8abf5 : ByteArray := prog_14_method_54_code
def yJ0_length_8abf5 : MethodName := ⟨RJ0, "length", "()I"⟩
abbrev cJ0_charAt_5068e : ByteArray := prog_14_method_56_code
def yJ0_charAt_5068e : MethodName := ⟨RJ0, "charAt", "(I)C"⟩
abbrev cJ0_indexOf_0f7a4 : ByteArray := prog_14_method_79_code
def yJ0_indexOf_0f7a4 : MethodName := ⟨RJ0, "indexOf", "(I)I"⟩
abbrev cJ0_indexOf_7cf53 : ByteArray := prog_14_method_80_code
def yJ0_indexOf_7cf53 : MethodName := ⟨RJ0, "indexOf", "(II)I"⟩
abbrev cJ0_coder_7d493 : ByteArray := prog_14_method_152_code
def yJ0_coder_7d493 : MethodName := ⟨RJ0, "coder", "()B"⟩
abbrev cJ0_isLatin1_aae02 : ByteArray := prog_14_method_154_code
def yJ0_isLatin1_aae02 : MethodName := ⟨RJ0, "isLatin1", "()Z"⟩
abbrev cJ0_checkIndex_df160 : ByteArray := prog_14_method_155_code
def yJ0_checkIndex_df160 : MethodName := ⟨RJ0, "checkIndex", "(II)V"⟩
abbrev cJ0_checkBoundsBeginEnd_23922 : ByteArray := prog_14_method_158_code
def yJ0_checkBoundsBeginEnd_23922 : MethodName := ⟨RJ0, "checkBoundsBeginEnd", "(III)V"⟩
def RJ1 : String := "java/lang/StringLatin1"
abbrev cJ1_charAt_3b067 : ByteArray := prog_15_method_2_code
def yJ1_charAt_3b067 : MethodName := ⟨RJ1, "charAt", "([BI)C"⟩
abbrev cJ1_canEncode_9a6ad : ByteArray := prog_15_method_4_code
def yJ1_canEncode_9a6ad : MethodName := ⟨RJ1, "canEncode", "(I)Z"⟩
abbrev cJ1_indexOf_4cfef : ByteArray := prog_15_method_22_code
def yJ1_indexOf_4cfef : MethodName := ⟨RJ1, "indexOf", "([BIII)I"⟩
abbrev cJ1_indexOfChar_4cfef : ByteArray := prog_15_method_23_code
def yJ1_indexOfChar_4cfef : MethodName := ⟨RJ1, "indexOfChar", "([BIII)I"⟩
def RJ2 : String := "java/lang/StringUTF16"
abbrev cJ2_getChar_3b067 : ByteArray := prog_16_method_5_code
def yJ2_getChar_3b067 : MethodName := ⟨RJ2, "getChar", "([BI)C"⟩
abbrev cJ2_length_9d52b : ByteArray := prog_16_method_6_code
def yJ2_length_9d52b : MethodName := ⟨RJ2, "length", "([B)I"⟩
abbrev cJ2_indexOf_4cfef : ByteArray := prog_16_method_40_code
def yJ2_indexOf_4cfef : MethodName := ⟨RJ2, "indexOf", "([BIII)I"⟩
abbrev cJ2_indexOfChar_4cfef : ByteArray := prog_16_method_47_code
def yJ2_indexOfChar_4cfef : MethodName := ⟨RJ2, "indexOfChar", "([BIII)I"⟩
abbrev cJ2_indexOfCharUnsafe_4cfef : ByteArray := prog_16_method_48_code
def yJ2_indexOfCharUnsafe_4cfef : MethodName := ⟨RJ2, "indexOfCharUnsafe", "([BIII)I"⟩
abbrev cJ2_indexOfSupplementary_4cfef : ByteArray := prog_16_method_49_code
def yJ2_indexOfSupplementary_4cfef : MethodName := ⟨RJ2, "indexOfSupplementary", "([BIII)I"⟩
abbrev cJ2_charAt_3b067 : ByteArray := prog_16_method_83_code
def yJ2_charAt_3b067 : MethodName := ⟨RJ2, "charAt", "([BI)C"⟩
abbrev cJ2_checkIndex_2214a : ByteArray := prog_16_method_91_code
def yJ2_checkIndex_2214a : MethodName := ⟨RJ2, "checkIndex", "(I[B)V"⟩
abbrev cJ2_checkBoundsBeginEnd_d044e : ByteArray := prog_16_method_93_code
def yJ2_checkBoundsBeginEnd_d044e : MethodName := ⟨RJ2, "checkBoundsBeginEnd", "(II[B)V"⟩
def RJ10 : String := "java/lang/System"
def RJ3 : String := "jdk/internal/util/Preconditions"
abbrev cJ3_checkIndex_8e157 : ByteArray := prog_18_method_11_code
def yJ3_checkIndex_8e157 : MethodName := ⟨RJ3, "checkIndex", "(IILjava/util/function/BiFunction;)I"⟩
abbrev cJ3_checkFromToIndex_8c36e : ByteArray := prog_18_method_12_code
def yJ3_checkFromToIndex_8c36e : MethodName := ⟨RJ3, "checkFromToIndex", "(IIILjava/util/function/BiFunction;)I"⟩
def RL : String := "TurtleBetLaw"
abbrev cL_law : ByteArray := code
def yL_law : MethodName := ⟨RL, "law", "([I)Z"⟩
